section
theorem pk_us {f : Nat → Int32} {k : Nat} {x : Int32} : upd f k x k = x := if_pos rfl
theorem pk_un {f : Nat → Int32} {k j : Nat} {x : Int32} (h : j ≠ k) : upd f k x j = f j := if_neg h
theorem pk_sub {a b : Nat} (h : b ≤ a) : nI a - nI b = nI (a - b) := by
  obtain ⟨c, rfl⟩ : ∃ c, a = c + b := ⟨a - b, by omega⟩
  rw [← nI_add, Int32.add_sub_cancel, Nat.add_sub_cancel]
theorem pk_m1 (n : Nat) : nI (n + 1) + (-1) = nI n := by
  rw [← nI_1, Int32.add_assoc, show (1 : Int32) + (-1) = 0 from rfl, Int32.add_zero]
theorem pk_mul (a b : Nat) : nI a * nI b = nI (a * b) := (Int32.ofNat_mul a b).symm
theorem pk_div {a d : Nat} (ha : a < 2 ^ 31) (h0 : 0 < d) (hd : d < 2 ^ 31) : nI a / nI d = nI (a / d) := by
  apply Int32.toInt_inj.mp
  rw [lg_idiv_nonneg (by rw [nI_toInt ha]; omega) (by rw [nI_toInt hd]; omega), nI_toInt ha, nI_toInt hd, nI_toInt (Nat.lt_of_le_of_lt (Nat.div_le_self a d) ha)]
  first | rfl | exact (Int.natCast_ediv _ _).symm
theorem pk_rem {a d : Nat} (ha : a < 2 ^ 31) (h0 : 0 < d) (hd : d < 2 ^ 31) : nI a - nI a / nI d * nI d = nI (a % d) := by
  rw [pk_div ha h0 hd, pk_mul, pk_sub (Nat.div_mul_le_self a d)]
  exact congrArg nI (by have := Nat.div_add_mod' a d; omega)
theorem pk_ix (x : Int32) {n : Nat} (hn : n < 2 ^ 31) : x < 0 ∨ nI n ≤ x ∨ ∃ j : Nat, j < n ∧ x = nI j := by
  by_cases h : x < 0
  · exact Or.inl h
  · obtain ⟨j, hj, rfl⟩ := nI_of h
    by_cases h2 : j < n
    · exact Or.inr (Or.inr ⟨j, h2, rfl⟩)
    · exact Or.inr (Or.inl (nI_le (by omega) hj))
theorem pk_le {x y : Int32} {A B : Prop} (a b : Nat) (f : a ≤ b → A) (g : b < a → B) (hx : x = nI a := by rfl) (hy : y = nI b := by rfl) (ha : a < 2 ^ 31 := by omega) (hb : b < 2 ^ 31 := by omega) : (x ≤ y → A) ∧ (¬ x ≤ y → B) := by
  subst hx hy
  rw [nI_leI ha hb]
  exact ⟨f, fun z => g (by omega)⟩
theorem pk_lt {x y : Int32} {A B : Prop} (a b : Nat) (f : a < b → A) (g : b ≤ a → B) (hx : x = nI a := by rfl) (hy : y = nI b := by rfl) (ha : a < 2 ^ 31 := by omega) (hb : b < 2 ^ 31 := by omega) : (x < y → A) ∧ (¬ x < y → B) := by
  subst hx hy
  rw [nI_ltI ha hb]
  exact ⟨f, fun z => g (by omega)⟩
theorem pk_eq {x y : Int32} {A B : Prop} (a b : Nat) (f : a = b → A) (g : a ≠ b → B) (hx : x = nI a := by rfl) (hy : y = nI b := by rfl) (ha : a < 2 ^ 31 := by omega) (hb : b < 2 ^ 31 := by omega) : (x = y → A) ∧ (¬ x = y → B) := by
  subst hx hy
  rw [nI_eq ha hb]
  exact ⟨f, g⟩
theorem pk_in {x : Int32} (n N : Nat) (h : n < N) (hx : x = nI n := by rfl) (hN : N < 2 ^ 31 := by omega) : vp_in x N := by
  subst hx
  exact vp_in_nI h hN
theorem pk_cl {x : Int32} (n : Nat) (hx : x = nI n := by rfl) (h : n < 2 ^ 31 := by omega) : x.toNatClampNeg = n := by
  subst hx
  exact nI_clamp h
theorem pk_tn {n : Nat} (h : n < 2 ^ 32) : (nI n).toBitVec.toNat = n := Nat.mod_eq_of_lt h
theorem pk_and (x : Int32) {m : Int32} (k : Nat) (hm : m.toBitVec.toNat = 2 ^ k - 1) : x &&& m = nI (x.toBitVec.toNat % 2 ^ k) := by
  apply Int32.toBitVec_inj.mp
  apply BitVec.eq_of_toNat_eq
  rw [Int32.toBitVec_and, BitVec.toNat_and, hm, Nat.and_two_pow_sub_one_eq_mod]
  show _ = (BitVec.ofNat 32 _).toNat
  rw [BitVec.toNat_ofNat]
  exact (Nat.mod_eq_of_lt (Nat.lt_of_le_of_lt (Nat.mod_le _ _) x.toBitVec.isLt)).symm
theorem pk_andN {n : Nat} (h : n < 2 ^ 32) {m : Int32} (k : Nat) (hm : m.toBitVec.toNat = 2 ^ k - 1) : nI n &&& m = nI (n % 2 ^ k) := by
  rw [pk_and _ k hm, pk_tn h]
theorem pk_ushr (x s : Int32) (k : Nat) (hs : ((s.toUInt32 &&& Int32.toUInt32 31).toBitVec % 32).toNat = k) : (x.toUInt32 >>> (s.toUInt32 &&& Int32.toUInt32 31)).toInt32.toBitVec.toNat = x.toBitVec.toNat / 2 ^ k := by
  have e : (x.toUInt32 >>> (s.toUInt32 &&& Int32.toUInt32 31)).toInt32.toBitVec = x.toBitVec >>> k := by
    rw [← hs]
    exact UInt32.toBitVec_shiftRight _ _
  rw [e, BitVec.toNat_ushiftRight, Nat.shiftRight_eq_div_pow]
theorem pk_ushrN {n : Nat} (hn : n < 2 ^ 32) (s : Int32) (k : Nat) (hs : ((s.toUInt32 &&& Int32.toUInt32 31).toBitVec % 32).toNat = k) : ((nI n).toUInt32 >>> (s.toUInt32 &&& Int32.toUInt32 31)).toInt32 = nI (n / 2 ^ k) := by
  apply Int32.toBitVec_inj.mp
  apply BitVec.eq_of_toNat_eq
  rw [pk_ushr _ s k hs, pk_tn hn, pk_tn (Nat.lt_of_le_of_lt (Nat.div_le_self _ _) hn)]
theorem pk_least (P : Nat → Prop) (h : ∃ k, P k) : ∃ k, P k ∧ ∀ j, j < k → ¬ P j := by
  obtain ⟨k, hk⟩ := h
  induction k using Nat.strongRecOn with
  | ind k ih =>
    by_cases e : ∃ j, j < k ∧ P j
    · obtain ⟨j, hj, pj⟩ := e
      exact ih j hj pj
    · exact ⟨k, hk, fun j hj pj => e ⟨j, hj, pj⟩⟩
def bt (x : Int32) (i : Nat) : Bool := x.toBitVec.getLsbD i
theorem b_ext {x y : Int32} (h : ∀ i, i < 32 → bt x i = bt y i) : x = y := Int32.toBitVec_inj.mp (BitVec.eq_of_getLsbD_eq (fun i hi => h i hi))
theorem b_or (x y : Int32) (i : Nat) : bt (x ||| y) i = (bt x i || bt y i) := by unfold bt; rw [Int32.toBitVec_or, BitVec.getLsbD_or]
theorem b_and (x y : Int32) (i : Nat) : bt (x &&& y) i = (bt x i && bt y i) := by unfold bt; rw [Int32.toBitVec_and, BitVec.getLsbD_and]
theorem b_xor (x y : Int32) (i : Nat) : bt (x ^^^ y) i = (bt x i ^^ bt y i) := by unfold bt; rw [Int32.toBitVec_xor, BitVec.getLsbD_xor]
theorem b_big {x : Int32} {i : Nat} (h : 32 ≤ i) : bt x i = false := BitVec.getLsbD_of_ge _ _ h
theorem b_m1 : ∀ i, i < 32 → bt (-1) i = true := by decide +kernel
theorem b_0 (i : Nat) : bt 0 i = false := BitVec.getLsbD_zero
theorem s_l : ∀ n, n < 32 → ((nI n &&& 31).toBitVec.smod 32).toNat = n := by decide +kernel
theorem s_u : ∀ n, n < 32 → (((nI n).toUInt32 &&& Int32.toUInt32 31).toBitVec % 32).toNat = n := by decide +kernel
theorem b_shl (n : Nat) (hn : n < 32) (x : Int32) {i : Nat} (hi : i < 32) : bt (x <<< (nI n &&& 31)) i = (decide (n ≤ i) && bt x (i - n)) := by
  unfold bt
  rw [Int32.toBitVec_shiftLeft]
  show (x.toBitVec <<< ((nI n &&& 31).toBitVec.smod 32).toNat).getLsbD i = _
  rw [s_l n hn, BitVec.getLsbD_shiftLeft]
  rcases Nat.lt_or_ge i n with h | h
  · simp [h, Nat.not_le.mpr h]
  · simp [hi, h, Nat.not_lt.mpr h]
theorem b_ushr (n : Nat) (hn : n < 32) (x : Int32) (i : Nat) : bt ((x.toUInt32 >>> ((nI n).toUInt32 &&& Int32.toUInt32 31)).toInt32) i = bt x (n + i) := by
  show (x.toUInt32 >>> ((nI n).toUInt32 &&& Int32.toUInt32 31)).toBitVec.getLsbD i = x.toUInt32.toBitVec.getLsbD (n + i)
  rw [UInt32.toBitVec_shiftRight]
  show (x.toUInt32.toBitVec >>> (((nI n).toUInt32 &&& Int32.toUInt32 31).toBitVec % 32).toNat).getLsbD i = _
  rw [s_u n hn, BitVec.getLsbD_ushiftRight]
theorem nf_sh : ∀ l, l < 32 → ((1 : Int32) <<< (nI l &&& 31)).toBitVec = BitVec.twoPow 32 l := by decide +kernel
theorem wb_of32 (x : Int32) : ∃ n, n < 2 ^ 32 ∧ x = nI n := ⟨x.toBitVec.toNat, x.toBitVec.isLt, Int32.toBitVec_inj.mp (by show _ = BitVec.ofNat 32 _; simp)⟩
/-! numbers of this class: marks, masks, homes -/
theorem hm_n1 : vp_nar .byte 1 = 1 := by rw [vp_nar_byte]; decide
theorem hm_n0 : vp_nar .byte 0 = 0 := by rw [vp_nar_byte]; decide
theorem hm_n2 : vp_nar .byte 2 = 2 := by rw [vp_nar_byte]; decide
theorem hm_m {n : Nat} (h : n < 2 ^ 31) : nI n &&& 31 = nI (n % 32) := pk_andN (by omega) 5 (by decide)
theorem hm_d {a c : Nat} (ha : a < 2 ^ 31) (hc : c ≤ 512) : (nI a - nI c) &&& 31 = nI ((a + 512 - c) % 32) := by
  rw [pk_and _ 5 (by decide), Int32.toBitVec_sub, BitVec.toNat_sub, pk_tn (by omega), pk_tn (by omega)]
  exact congrArg nI (by omega)
theorem hm_tb (x : Int32) : nI x.toBitVec.toNat = x := Int32.toBitVec_inj.mp (by show BitVec.ofNat 32 _ = _; simp)
def hm_a (w c : Int32) : Int32 := (c ^^^ w) * (-1640531535)
def hm_b (w c : Int32) : Int32 := (hm_a w c ^^^ ((hm_a w c).toUInt32 >>> ((15 : Int32).toUInt32 &&& Int32.toUInt32 31)).toInt32) * (-2048144789)
/-- a key's home -/
def hm_h (w c : Int32) : Nat := (hm_b w c).toBitVec.toNat / 2 ^ 27
theorem hm_lt (w c : Int32) : hm_h w c < 32 := by
  unfold hm_h
  have := (hm_b w c).toBitVec.isLt
  omega
theorem hm_sh (x : Int32) : (x.toUInt32 >>> ((27 : Int32).toUInt32 &&& Int32.toUInt32 31)).toInt32 = nI (x.toBitVec.toNat / 2 ^ 27) := by
  apply Int32.toBitVec_inj.mp
  apply BitVec.eq_of_toNat_eq
  have := x.toBitVec.isLt
  rw [pk_ushr _ 27 27 (by decide), pk_tn (by omega)]
def om_a (w c : Int32) : Int32 := (c + w) * (-1028477387)
def om_b (w c : Int32) : Int32 := (om_a w c ^^^ ((om_a w c).toUInt32 >>> ((13 : Int32).toUInt32 &&& Int32.toUInt32 31)).toInt32) * 668265263
/-- a key's other home -/
def om_h (w c : Int32) : Nat := (om_b w c).toBitVec.toNat / 2 ^ 27
theorem om_lt (w c : Int32) : om_h w c < 32 := by
  unfold om_h
  have := (om_b w c).toBitVec.isLt
  omega
theorem om_odd : ∀ n, n < 32 → nI n ||| 1 = nI (n / 2 * 2 + 1) := by decide +kernel
/-- a region of 64 slots, cut out -/
def rg_r (b : Nat) (a : Nat → Int32) : Nat → Int32 := fun i => if i < 64 then a (b + i) else 0
theorem rg_at {b i : Nat} {a : Nat → Int32} (h : i < 64) : rg_r b a i = a (b + i) := if_pos h
theorem rg_upd {b i : Nat} {a : Nat → Int32} {x : Int32} (h : i < 64) : rg_r b (upd a (b + i) x) = upd (rg_r b a) i x := by
  funext j
  unfold rg_r upd
  dsimp only
  by_cases hj : j < 64
  · rw [if_pos hj, if_pos hj]
    by_cases e : j = i
    · rw [if_pos (by omega), if_pos e]
    · rw [if_neg (by omega), if_neg e]
  · rw [if_neg hj, if_neg hj, if_neg (by omega)]
/-- nothing but the region at b has changed -/
def fr_f (b : Nat) (a a' : Nat → Int32) : Prop := ∀ j, (j < b ∨ b + 64 ≤ j) → a' j = a j
theorem fr_r {b : Nat} {a : Nat → Int32} : fr_f b a a := fun _ _ => rfl
theorem fr_u {b i : Nat} {a a' : Nat → Int32} {x : Int32} (h : fr_f b a a') (hi : i < 64) : fr_f b a (upd a' (b + i) x) := by
  intro j hj
  rw [pk_un (by omega)]
  exact h j hj
theorem fr_t {b : Nat} {a a' a'' : Nat → Int32} (h : fr_f b a a') (h' : fr_f b a' a'') : fr_f b a a'' := fun j hj => (h' j hj).trans (h j hj)
theorem fr_o {b b' : Nat} {a a' : Nat → Int32} (h : fr_f b a a') (d : b' + 64 ≤ b ∨ b + 64 ≤ b') : rg_r b' a' = rg_r b' a := by
  funext i
  unfold rg_r
  by_cases hi : i < 64
  · rw [if_pos hi, if_pos hi]
    exact h _ (by omega)
  · rw [if_neg hi, if_neg hi]
end
section
/-- a slot function, and the list of what it holds below n -/
def ct_up (s : Nat → Option (Int32 × Int32)) (i : Nat) (x : Option (Int32 × Int32)) : Nat → Option (Int32 × Int32) := fun j => if j = i then x else s j
def ct_con (s : Nat → Option (Int32 × Int32)) : Nat → List (Int32 × Int32)
  | 0 => []
  | n + 1 => (s n).toList ++ ct_con s n
theorem ct_ext {s t : Nat → Option (Int32 × Int32)} : ∀ n, (∀ i, i < n → s i = t i) → ct_con s n = ct_con t n := by
  intro n
  induction n with
  | zero => intro _; rfl
  | succ n ih =>
    intro h
    show (s n).toList ++ ct_con s n = (t n).toList ++ ct_con t n
    rw [h n (Nat.lt_succ_self n), ih fun i hi => h i (Nat.lt_succ_of_lt hi)]
theorem ct_upd (s : Nat → Option (Int32 × Int32)) (i : Nat) (x : Option (Int32 × Int32)) : ∀ n, i < n → List.Perm ((s i).toList ++ ct_con (ct_up s i x) n) (x.toList ++ ct_con s n) := by
  intro n
  induction n with
  | zero => intro h; exact absurd h (Nat.not_lt_zero _)
  | succ n ih =>
    intro h
    show List.Perm ((s i).toList ++ ((ct_up s i x n).toList ++ ct_con (ct_up s i x) n)) (x.toList ++ ((s n).toList ++ ct_con s n))
    by_cases e : n = i
    · have e1 : ct_up s i x n = x := by unfold ct_up; rw [if_pos e]
      have e2 : ct_con (ct_up s i x) n = ct_con s n := ct_ext n fun j hj => by unfold ct_up; rw [if_neg (by omega)]
      rw [e1, e2, e]
      exact List.perm_append_comm_assoc _ _ _
    · have e1 : ct_up s i x n = s n := by unfold ct_up; rw [if_neg e]
      rw [e1]
      refine (List.perm_append_comm_assoc _ _ _).trans (((ih (by omega)).append_left _).trans (List.perm_append_comm_assoc _ _ _))
theorem ct_mem (s : Nat → Option (Int32 × Int32)) (p : Int32 × Int32) : ∀ n, p ∈ ct_con s n ↔ ∃ i, i < n ∧ s i = some p := by
  intro n
  induction n with
  | zero => exact ⟨fun h => (List.not_mem_nil h).elim, fun ⟨i, hi, _⟩ => absurd hi (Nat.not_lt_zero _)⟩
  | succ n ih =>
    show p ∈ (s n).toList ++ ct_con s n ↔ _
    rw [List.mem_append, ih, Option.mem_toList]
    constructor
    · rintro (h | ⟨i, hi, h⟩)
      · exact ⟨n, Nat.lt_succ_self n, h⟩
      · exact ⟨i, Nat.lt_succ_of_lt hi, h⟩
    · rintro ⟨i, hi, h⟩
      by_cases e : i = n
      · exact .inl (e ▸ h)
      · exact .inr ⟨i, by omega, h⟩
/-- no key twice -/
def ct_nd (l : List (Int32 × Int32)) : Prop := (l.map Prod.fst).Nodup
theorem ct_ndP {l l' : List (Int32 × Int32)} (p : List.Perm l l') (h : ct_nd l) : ct_nd l' := (p.map Prod.fst).nodup h
theorem ct_uni (s : Nat → Option (Int32 × Int32)) : ∀ n, ct_nd (ct_con s n) → ∀ i j k v w, i < n → j < n → s i = some (k, v) → s j = some (k, w) → i = j := by
  intro n
  induction n with
  | zero => intro _ i j k v w hi; exact absurd hi (Nat.not_lt_zero _)
  | succ n ih =>
    intro h i j k v w hi hj ei ej
    have h' : ((((s n).toList ++ ct_con s n)).map Prod.fst).Nodup := h
    rw [List.map_append, List.nodup_append] at h'
    have clash : ∀ a x y, s n = some (k, x) → a < n → s a = some (k, y) → False := by
      intro a x y en ha ea
      refine h'.2.2 k ?_ k ?_ rfl
      · rw [en]; exact List.mem_cons_self
      · exact List.mem_map.mpr ⟨(k, y), (ct_mem s _ n).mpr ⟨a, ha, ea⟩, rfl⟩
    by_cases e : i = n
    · by_cases f : j = n
      · omega
      · exact (clash j v w (e ▸ ei) (by omega) ej).elim
    · by_cases f : j = n
      · exact (clash i w v (f ▸ ej) (by omega) ei).elim
      · exact ih h'.2.1 i j k v w (by omega) (by omega) ei ej
/-- a stretch that is full shows in the length -/
theorem ct_full (s : Nat → Option (Int32 × Int32)) (a : Nat) : ∀ n, (∀ i, a ≤ i → i < n → s i ≠ none) → n - a ≤ (ct_con s n).length := by
  intro n
  induction n with
  | zero => intro _; omega
  | succ n ih =>
    intro h
    have h1 := ih fun i hi hn => h i hi (by omega)
    show _ ≤ ((s n).toList ++ ct_con s n).length
    rw [List.length_append]
    by_cases ha : a ≤ n
    · have h2 : (s n).toList.length = 1 := by
        cases e : s n with
        | none => exact absurd e (h n ha (by omega))
        | some x => rfl
      omega
    · omega
theorem ct_lenM (s : Nat → Option (Int32 × Int32)) : ∀ n m, n ≤ m → (ct_con s n).length ≤ (ct_con s m).length := by
  intro n m h
  induction m with
  | zero => have e : n = 0 := by omega
            rw [e]; exact Nat.le_refl _
  | succ m ih =>
    by_cases e : n = m + 1
    · rw [e]; exact Nat.le_refl _
    · have := ih (by omega)
      show _ ≤ ((s m).toList ++ ct_con s m).length
      rw [List.length_append]
      omega
/-- the sum of the values, with wrap-around; how many have a value -/
def ct_sum (l : List (Int32 × Int32)) : Int32 := l.foldr (fun p a => p.2 + a) 0
theorem ct_sumP {l l' : List (Int32 × Int32)} (p : List.Perm l l') : ct_sum l = ct_sum l' := by
  induction p with
  | nil => rfl
  | cons x _ ih => exact congrArg (x.2 + ·) ih
  | swap x y l =>
    show y.2 + (x.2 + ct_sum l) = x.2 + (y.2 + ct_sum l)
    rw [← Int32.add_assoc, ← Int32.add_assoc, Int32.add_comm y.2 x.2]
  | trans _ _ a b => exact a.trans b
def ct_num (v : Int32) (l : List (Int32 × Int32)) : Nat := l.countP (fun p => p.2 == v)
theorem ct_numP {v : Int32} {l l' : List (Int32 × Int32)} (p : List.Perm l l') : ct_num v l = ct_num v l' := p.countP_eq _
/-- a region's slot function: keys, values, marks (1: held) -/
def ct_sl (k v m : Nat → Int32) : Nat → Option (Int32 × Int32) := fun i => if m i = 1 then some (k i, v i) else none
theorem ct_sl1 {k v m : Nat → Int32} {i : Nat} (h : m i = 1) : ct_sl k v m i = some (k i, v i) := if_pos h
theorem ct_sl0 {k v m : Nat → Int32} {i : Nat} (h : ¬ m i = 1) : ct_sl k v m i = none := if_neg h
theorem ct_slS {k v m : Nat → Int32} {i : Nat} {c x : Int32} (h : ct_sl k v m i = some (c, x)) : m i = 1 ∧ k i = c ∧ v i = x := by
  unfold ct_sl at h
  by_cases e : m i = 1
  · rw [if_pos e] at h
    injection h with h
    injection h with h1 h2
    exact ⟨e, h1, h2⟩
  · rw [if_neg e] at h
    cases h
theorem ct_slH (k v m : Nat → Int32) (i : Nat) (x y : Int32) : ct_sl (upd k i x) (upd v i y) (upd m i 1) = ct_up (ct_sl k v m) i (some (x, y)) := by
  funext j
  unfold ct_sl ct_up upd
  by_cases e : j = i
  · simp [e]
  · simp [e]
theorem ct_slF (k v m : Nat → Int32) (i : Nat) (c : Int32) (hc : c ≠ 1) : ct_sl k v (upd m i c) = ct_up (ct_sl k v m) i none := by
  funext j
  unfold ct_sl ct_up upd
  by_cases e : j = i
  · simp [e, hc]
  · simp [e]
theorem ct_slV (k v m : Nat → Int32) (i : Nat) (y : Int32) (h : m i = 1) : ct_sl k (upd v i y) m = ct_up (ct_sl k v m) i (some (k i, y)) := by
  funext j
  unfold ct_sl ct_up upd
  by_cases e : j = i
  · simp [e, h]
  · simp [e]
/-- a region's content -/
def cc_c (k v m : Nat → Int32) : List (Int32 × Int32) := ct_con (ct_sl k v m) 64
theorem cc_in {k v m : Nat → Int32} {i : Nat} (hi : i < 64) (h : m i = 1) : (k i, v i) ∈ cc_c k v m := (ct_mem _ _ 64).mpr ⟨i, hi, ct_sl1 h⟩
theorem cc_of {k v m : Nat → Int32} {c x : Int32} (h : (c, x) ∈ cc_c k v m) : ∃ i, i < 64 ∧ m i = 1 ∧ k i = c ∧ v i = x := by
  obtain ⟨i, hi, e⟩ := (ct_mem _ _ 64).mp h
  exact ⟨i, hi, ct_slS e⟩
theorem cc_uni {k v m : Nat → Int32} (h : ct_nd (cc_c k v m)) {i j : Nat} (hi : i < 64) (hj : j < 64) (mi : m i = 1) (mj : m j = 1) (e : k i = k j) : i = j :=
  ct_uni _ 64 h i j (k i) (v i) (v j) hi hj (ct_sl1 mi) (by rw [ct_sl1 mj, e])
/-- hold at a slot that isn't held -/
theorem cc_hold {k v m : Nat → Int32} {i : Nat} {c x : Int32} (hi : i < 64) (h : ¬ m i = 1) : List.Perm (cc_c (upd k i c) (upd v i x) (upd m i 1)) ((c, x) :: cc_c k v m) := by
  have := ct_upd (ct_sl k v m) i (some (c, x)) 64 hi
  rw [ct_sl0 h] at this
  unfold cc_c
  rw [ct_slH]
  exact this
/-- hold over a slot that is held -/
theorem cc_over {k v m : Nat → Int32} {i : Nat} {c x : Int32} (hi : i < 64) (h : m i = 1) : List.Perm ((k i, v i) :: cc_c (upd k i c) (upd v i x) (upd m i 1)) ((c, x) :: cc_c k v m) := by
  have := ct_upd (ct_sl k v m) i (some (c, x)) 64 hi
  rw [ct_sl1 h] at this
  unfold cc_c
  rw [ct_slH]
  exact this
theorem cc_free {k v m : Nat → Int32} {i : Nat} {c : Int32} (hi : i < 64) (h : m i = 1) (hc : c ≠ 1) : List.Perm ((k i, v i) :: cc_c k v (upd m i c)) (cc_c k v m) := by
  have := ct_upd (ct_sl k v m) i none 64 hi
  rw [ct_sl1 h] at this
  unfold cc_c
  rw [ct_slF _ _ _ _ _ hc]
  exact this
theorem cc_val {k v m : Nat → Int32} {i : Nat} {x : Int32} (hi : i < 64) (h : m i = 1) : List.Perm ((k i, v i) :: cc_c k (upd v i x) m) ((k i, x) :: cc_c k v m) := by
  have := ct_upd (ct_sl k v m) i (some (k i, x)) 64 hi
  rw [ct_sl1 h] at this
  unfold cc_c
  rw [ct_slV _ _ _ _ _ h]
  exact this
/-- some slot of a stretch of 32 isn't held -/
theorem cc_room {k v m : Nat → Int32} (a : Nat) (ha : a + 32 ≤ 64) (h : (cc_c k v m).length < 32) : ∃ i, a ≤ i ∧ i < a + 32 ∧ ¬ m i = 1 := by
  by_cases e : ∃ i, a ≤ i ∧ i < a + 32 ∧ ¬ m i = 1
  · exact e
  · have h1 := ct_full (ct_sl k v m) a (a + 32) (fun i hi hn z => by
      by_cases q : m i = 1
      · rw [ct_sl1 q] at z; cases z
      · exact e ⟨i, hi, hn, q⟩)
    have h2 := ct_lenM (ct_sl k v m) (a + 32) 64 ha
    unfold cc_c at h
    omega
/-- without a key -/
def ct_er (c : Int32) (l : List (Int32 × Int32)) : List (Int32 × Int32) := l.filter (fun p => p.1 != c)
theorem ct_erP {c : Int32} {l l' : List (Int32 × Int32)} (p : List.Perm l l') : List.Perm (ct_er c l) (ct_er c l') := p.filter _
theorem ct_er0 {c : Int32} {l : List (Int32 × Int32)} (h : ∀ v, (c, v) ∉ l) : ct_er c l = l := by
  refine List.filter_eq_self.mpr fun p hp => ?_
  have : p.1 ≠ c := fun e => h p.2 (by rw [← e]; exact hp)
  simp [this]
theorem ct_er1 {c v : Int32} {l ml : List (Int32 × Int32)} (p : List.Perm ((c, v) :: l) ml) (h : ct_nd ml) : List.Perm l (ct_er c ml) := by
  have n : ct_nd ((c, v) :: l) := ct_ndP p.symm h
  have q := ct_erP (c := c) p
  have e : ct_er c ((c, v) :: l) = ct_er c l := by simp [ct_er]
  rw [e, ct_er0] at q
  · exact q
  · intro x hx
    have n' : (c :: l.map Prod.fst).Nodup := n
    exact (List.nodup_cons.mp n').1 (List.mem_map.mpr ⟨(c, x), hx, rfl⟩)
theorem ct_er2 {c v : Int32} {ml : List (Int32 × Int32)} (h : ct_nd ml) (hm : (c, v) ∈ ml) : List.Perm ml ((c, v) :: ct_er c ml) := by
  have p := List.perm_cons_erase hm
  exact p.trans ((ct_er1 p.symm h).cons _)
theorem ct_erN {c : Int32} {ml : List (Int32 × Int32)} (h : ct_nd ml) : ct_nd (ct_er c ml) := List.Nodup.sublist (List.filter_sublist.map _) h
theorem ct_erM {c : Int32} {ml : List (Int32 × Int32)} {p : Int32 × Int32} : p ∈ ct_er c ml ↔ p ∈ ml ∧ p.1 ≠ c := by
  unfold ct_er
  rw [List.mem_filter]
  simp
theorem ct_erC {c v : Int32} {ml : List (Int32 × Int32)} (h : ct_nd ml) : ct_nd ((c, v) :: ct_er c ml) := by
  show (c :: (ct_er c ml).map Prod.fst).Nodup
  refine List.nodup_cons.mpr ⟨?_, ct_erN h⟩
  intro hm
  obtain ⟨p, hp, e⟩ := List.mem_map.mp hm
  exact (ct_erM.mp hp).2 e
theorem ct_fun {c v x : Int32} {ml : List (Int32 × Int32)} (h : ct_nd ml) (h1 : (c, v) ∈ ml) (h2 : (c, x) ∈ ml) : v = x := by
  have p := (ct_er2 h h1).subset h2
  rcases List.mem_cons.mp p with e | e
  · injection e with _ e; exact e.symm
  · exact absurd rfl (ct_erM.mp e).2
/-- the value under a slot's key is set: its content -/
theorem cc_set {k v m : Nat → Int32} {i : Nat} {x : Int32} {ml : List (Int32 × Int32)} (hi : i < 64) (h : m i = 1) (n : ct_nd ml) (p : List.Perm (cc_c k v m) ml) : List.Perm (cc_c k (upd v i x) m) ((k i, x) :: ct_er (k i) ml) := by
  have a := cc_val (x := x) (k := k) (v := v) hi h
  have b : List.Perm ((k i, x) :: cc_c k v m) ((k i, v i) :: (k i, x) :: ct_er (k i) ml) :=
    ((p.trans (ct_er2 n (p.subset (cc_in hi h)))).cons _).trans (List.Perm.swap _ _ _)
  exact (a.trans b).cons_inv
theorem cc_take {k v m : Nat → Int32} {i : Nat} {c : Int32} {ml : List (Int32 × Int32)} (hi : i < 64) (h : m i = 1) (hc : c ≠ 1) (n : ct_nd ml) (p : List.Perm (cc_c k v m) ml) : List.Perm (cc_c k v (upd m i c)) (ct_er (k i) ml) :=
  ct_er1 ((cc_free hi h hc).trans p) n
end
section
/-! the small methods -/
/-- how far from its home the key at place p stands -/
def ds_d (w : Int32) (k : Nat → Int32) (p : Nat) : Nat := (p + 32 - hm_h w (k p)) % 32
theorem ds_lt (w : Int32) (k : Nat → Int32) (p : Nat) : ds_d w k p < 32 := Nat.mod_lt _ (by decide)
/-- what a search for c owes -/
def fd_ok (b : Nat) (K M : Nat → Int32) (c : Int32) (post : Int32 → Prop) : Prop :=
  (∀ i, i < 64 → rg_r b M i = 1 → rg_r b K i = c → post (nI (b + i))) ∧ ((∀ i, i < 64 → rg_r b M i = 1 → ¬ rg_r b K i = c) → post (-1))
/-- what a change of one table owes -/
def kn_k (b : Nat) (I : (Nat → Int32) → (Nat → Int32) → (Nat → Int32) → Prop) (ml : List (Int32 × Int32)) (fh w : Int32) (K V M L P Q : Nat → Int32) (post : SX → Prop) : Prop :=
  ∀ K' V' M' L' : Nat → Int32, fr_f b K K' → fr_f b V V' → fr_f b M M' → fr_f b L L' → I (rg_r b K') (rg_r b M') (rg_r b L') →
    List.Perm (cc_c (rg_r b K') (rg_r b V') (rg_r b M')) ml → post (fh, w, K', V', M', L', P, Q)
section
variable {fh w : Int32} {K V M L P Q : Nat → Int32}
theorem hw_home {post : Int32 → Prop} {c : Int32} (h : post (nI (hm_h w c))) : wpX_home post (fh, w, K, V, M, L, P, Q) c := by
  intro x ex y ey
  subst ex
  subst ey
  show post ((hm_b w c).toUInt32 >>> ((27 : Int32).toUInt32 &&& Int32.toUInt32 31)).toInt32
  rw [hm_sh]
  exact h
theorem hw_other {post : Int32 → Prop} {c : Int32} (h : post (nI (om_h w c))) : wpX_otherHome post (fh, w, K, V, M, L, P, Q) c := by
  intro x ex y ey
  subst ex
  subst ey
  show post ((om_b w c).toUInt32 >>> ((27 : Int32).toUInt32 &&& Int32.toUInt32 31)).toInt32
  rw [hm_sh]
  exact h
theorem hw_dist {post : Int32 → Prop} {x : Int32} {b p : Nat} (hx : x = nI (b + p)) (hp : p < 64) (hb : b ≤ 448) (h32 : b % 32 = 0) (h : post (nI (ds_d w (rg_r b K) p))) : wpX_distance post (fh, w, K, V, M, L, P, Q) x := by
  subst hx
  refine ⟨vp_in_nI (by omega) (by decide), hw_home ?_⟩
  have h1 := hm_lt w (K (b + p))
  rw [nI_clamp (by omega), hm_d (by omega) (by omega)]
  unfold ds_d at h
  rw [rg_at hp] at h
  have e : (b + p + 512 - hm_h w (K (b + p))) % 32 = (p + 32 - hm_h w (K (b + p))) % 32 := by omega
  rw [e]
  exact h
theorem hw_holds {post : Int32 → Prop} {x c : Int32} {b p : Nat} (hx : x = nI (b + p)) (hp : p < 64) (hb : b ≤ 448) (h1 : rg_r b M p = 1 → rg_r b K p = c → post 1) (h0 : ¬ (rg_r b M p = 1 ∧ rg_r b K p = c) → post 0) : wpX_holds post (fh, w, K, V, M, L, P, Q) x c := by
  subst hx
  rw [rg_at hp, rg_at hp] at h1 h0
  have hi : vp_in (nI (b + p)) 512 := vp_in_nI (by omega) (by decide)
  refine ⟨hi, ?_⟩
  rw [nI_clamp (by omega)]
  exact br_c (fun a => ⟨hi, br_c (fun d => h1 a d) (fun d => h0 (fun z => d z.2))⟩) (fun a => h0 (fun z => a z.1))
theorem hw_next {post : Int32 → Prop} {x : Int32} {q j : Nat} (hx : x = nI q) (hq : q < 512) (hl : L q = nI j) (hj : j < 512) (h : post (nI j)) : wpX_nextOf post (fh, w, K, V, M, L, P, Q) x := by
  subst hx
  refine ⟨vp_in_nI hq (by decide), nm_r (e' := nI j) (by rw [nI_clamp (by omega)]; exact hl) ?_⟩
  refine pk_le j 0 (fun h0 => ?_) (fun h0 => pk_le 512 j (fun h5 => absurd h5 (by omega)) (fun _ => h))
  have e : j = 0 := by omega
  subst e
  exact h
theorem hw_hold {post : SX → Prop} {x c v : Int32} {q : Nat} (hx : x = nI q) (hq : q < 512) (h : post (fh, w, upd K q c, upd V q v, upd M q 1, L, P, Q)) : wpX_hold post (fh, w, K, V, M, L, P, Q) x c v := by
  subst hx
  have hi : vp_in (nI q) 512 := vp_in_nI hq (by decide)
  refine ⟨hi, nm_r (e' := upd K q c) (by rw [nI_clamp (by omega)]) ⟨hi, nm_r (e' := upd V q v) (by rw [nI_clamp (by omega)]) ⟨hi, nm_r (e' := upd M q 1) (by rw [nI_clamp (by omega), hm_n1]) h⟩⟩⟩
theorem hw_release {post : SX → Prop} {x : Int32} {q : Nat} (hx : x = nI q) (hq : q < 512) (h : post (fh, w, K, V, upd M q 0, upd L q 0, P, Q)) : wpX_release post (fh, w, K, V, M, L, P, Q) x := by
  subst hx
  have hi : vp_in (nI q) 512 := vp_in_nI hq (by decide)
  exact ⟨hi, nm_r (e' := upd M q 0) (by rw [nI_clamp (by omega), hm_n0]) ⟨hi, nm_r (e' := upd L q 0) (by rw [nI_clamp (by omega)]) h⟩⟩
/-- the scan of the spare slots -/
theorem hw_spareL {post : Int32 → Prop} {c : Int32} {b : Nat} (hb : b ≤ 448) (hf : ∀ i, i < 64 → rg_r b M i = 1 → rg_r b K i = c → post (nI (b + i))) (hn : (∀ i, 32 ≤ i → i < 64 → rg_r b M i = 1 → ¬ rg_r b K i = c) → post (-1)) : ∀ n i, 32 ≤ i → i ≤ 64 → 64 - i < n → (∀ j, 32 ≤ j → j < i → rg_r b M j = 1 → ¬ rg_r b K j = c) → wX_findSpare_11 post c (nI b) fh w K V M L P Q n (nI (b + i)) := by
  intro n
  induction n with
  | zero => intro i _ _ h; omega
  | succ n ih =>
    intro i h32 h64 hm hno
    refine pk_le (b + 64) (b + i) (fun h => ?_) (fun h => ?_) (nI_add b 64)
    · exact hn fun j hj1 hj2 => hno j hj1 (by omega)
    · refine hw_holds rfl (by omega) hb (fun a d => br_f (by decide) (hf i (by omega) a d)) (fun z => br_t rfl (nm_r (nI_1 _) ?_))
      refine ih (i + 1) (by omega) (by omega) (by omega) fun j hj1 hj2 => ?_
      by_cases e : j = i
      · rw [e]; exact fun a d => z ⟨a, d⟩
      · exact hno j hj1 (by omega)
theorem hw_spare {post : Int32 → Prop} {c x : Int32} {e : Nat} (he : e < 8) (hx : x = nI e) (hf : ∀ i, i < 64 → rg_r (64 * e) M i = 1 → rg_r (64 * e) K i = c → post (nI (64 * e + i))) (hn : (∀ i, 32 ≤ i → i < 64 → rg_r (64 * e) M i = 1 → ¬ rg_r (64 * e) K i = c) → post (-1)) : wpX_findSpare post (fh, w, K, V, M, L, P, Q) x c := by
  subst hx
  refine nm_r (e' := nI (64 * e)) ((pk_mul e 64).trans (congrArg nI (by omega))) (nm_r (e' := nI (64 * e + 32)) (nI_add _ 32) ⟨33, ?_⟩)
  exact hw_spareL (by omega) hf hn 33 32 (by omega) (by omega) (by omega) (fun j h1 h2 => by omega)
/-- the first spare slot that isn't held -/
theorem hw_roomL {post : Int32 → Prop} {b f : Nat} (hb : b ≤ 448) (hf : f < 32) (h1 : ¬ rg_r b M (32 + f) = 1) (h : ∀ i, 32 ≤ i → i < 64 → ¬ rg_r b M i = 1 → post (nI (b + i))) : ∀ n i, i ≤ f → 32 - i < n → wX_freeSpare_10 post fh w K V M L P Q n (nI (b + (32 + i))) (nI (i + 1)) := by
  intro n
  induction n with
  | zero => intro i _ hm; omega
  | succ n ih =>
    intro i hi hm
    refine pk_le 32 (i + 1) (fun h5 => ?_) (fun h5 => ?_)
    · have e : i = f := by omega
      rw [e]
      exact h _ (by omega) (by omega) h1
    · refine ⟨vp_in_nI (by omega) (by decide), ?_⟩
      rw [nI_clamp (by omega), ← rg_at (b := b) (a := M) (i := 32 + i) (by omega)]
      refine br_c (fun a => nm_r (nI_1 _) (nm_r (nI_1 _) ?_)) (fun a => h _ (by omega) (by omega) a)
      have e : i ≠ f := fun e => h1 (e ▸ a)
      exact ih (i + 1) (by omega) (by omega)
theorem hw_room {post : Int32 → Prop} {x : Int32} {e : Nat} (he : e < 8) (hx : x = nI e) (hr : ∃ i, 32 ≤ i ∧ i < 32 + 32 ∧ ¬ rg_r (64 * e) M i = 1) (h : ∀ i, 32 ≤ i → i < 64 → ¬ rg_r (64 * e) M i = 1 → post (nI (64 * e + i))) : wpX_freeSpare post (fh, w, K, V, M, L, P, Q) x := by
  subst hx
  obtain ⟨f, f1, f2, f3⟩ := hr
  refine nm_r (e' := nI (64 * e + 32)) ?_ ⟨33, ?_⟩
  · rw [show nI e * 64 = nI (64 * e) from (pk_mul e 64).trans (congrArg nI (by omega))]
    exact nI_add _ 32
  · exact hw_roomL (f := f - 32) (by omega) (by omega) (by rw [show 32 + (f - 32) = f by omega]; exact f3) h 33 0 (by omega) (by omega)
end
end
section
/-! LINEAR, TRIANGULAR, DOUBLE: one walk -/
def pr_p (h s g : Nat) : Nat → Nat
  | 0 => h
  | j + 1 => (pr_p h s g j + (s + g * j)) % 32
theorem pr_lt {h s g : Nat} (hh : h < 32) (j : Nat) : pr_p h s g j < 32 := by
  cases j with
  | zero => exact hh
  | succ j => exact Nat.mod_lt _ (by decide)
theorem pr_tr {h s g : Nat} (hh : h < 32) (j : Nat) : pr_p h s g j = (h + pr_p 0 s g j) % 32 := by
  induction j with
  | zero =>
    show h = (h + 0) % 32
    omega
  | succ j ih =>
    show (pr_p h s g j + (s + g * j)) % 32 = (h + (pr_p 0 s g j + (s + g * j)) % 32) % 32
    omega
theorem pr_su0 : ∀ s, s < 16 → ∀ p, p < 32 → ∃ j, j < 32 ∧ pr_p 0 (s * 2 + 1) 0 j = p := by decide +kernel
theorem pr_su1 : ∀ p, p < 32 → ∃ j, j < 32 ∧ pr_p 0 1 1 j = p := by decide +kernel
/-- the walk's strides -/
def pr_s (w : Int32) (e : Nat) (c : Int32) : Nat := if e = 2 then om_h w c / 2 * 2 + 1 else 1
def pr_g (e : Nat) : Nat := if e = 1 then 1 else 0
theorem pr_sl (w : Int32) (e : Nat) (c : Int32) : pr_s w e c < 32 := by
  unfold pr_s
  have := om_lt w c
  by_cases h : e = 2
  · rw [if_pos h]; omega
  · rw [if_neg h]; omega
def pr_at (w : Int32) (e : Nat) (c : Int32) (j : Nat) : Nat := pr_p (hm_h w c) (pr_s w e c) (pr_g e) j
theorem pr_al (w : Int32) (e : Nat) (c : Int32) (j : Nat) : pr_at w e c j < 32 := pr_lt (hm_lt w c) j
/-- every place is met -/
theorem pr_sur (w : Int32) (e : Nat) (c : Int32) (p : Nat) (hp : p < 32) : ∃ j, j < 32 ∧ pr_at w e c j = p := by
  have hh := hm_lt w c
  have key : ∃ j, j < 32 ∧ pr_p 0 (pr_s w e c) (pr_g e) j = (p + 32 - hm_h w c) % 32 := by
    unfold pr_s pr_g
    by_cases e2 : e = 2
    · rw [if_pos e2, if_neg (by omega)]
      have := om_lt w c
      exact pr_su0 (om_h w c / 2) (by omega) _ (Nat.mod_lt _ (by decide))
    · rw [if_neg e2]
      by_cases e1 : e = 1
      · rw [if_pos e1]
        exact pr_su1 _ (Nat.mod_lt _ (by decide))
      · rw [if_neg e1]
        exact pr_su0 0 (by decide) _ (Nat.mod_lt _ (by decide))
  obtain ⟨j, hj, ej⟩ := key
  refine ⟨j, hj, ?_⟩
  unfold pr_at
  rw [pr_tr hh, ej]
  omega
def pr_ok (w : Int32) (e : Nat) (m : Nat → Int32) (c : Int32) (i : Nat) : Prop := ∃ j, j < 32 ∧ pr_at w e c j = i ∧ ∀ j', j' < j → ¬ m (pr_at w e c j') = 0
def pr_inv (w : Int32) (e : Nat) (k m : Nat → Int32) : Prop :=
  (∀ i, i < 32 → m i = 1 → pr_ok w e m (k i) i) ∧ (∀ i, 32 ≤ i → i < 64 → m i = 0) ∧ (e = 0 → ∀ i, i < 64 → m i = 0 ∨ m i = 1)
section
variable {fh w : Int32} {K V M L P Q : Nat → Int32}
theorem pr_stride {post : Int32 → Prop} {c : Int32} {e : Nat} (he : e < 8) (h : post (nI (pr_s w e c))) : wpX_firstStride post (fh, w, K, V, M, L, P, Q) (nI e) c := by
  unfold pr_s at h
  refine pk_eq e 2 (fun h2 => hw_other ?_) (fun h2 => ?_)
  · rw [if_pos h2] at h
    rw [om_odd _ (om_lt w c)]
    exact h
  · rw [if_neg h2] at h
    exact h
theorem pr_fl {post : Int32 → Prop} {c : Int32} {b h s g : Nat} (hb : b ≤ 448) (hh : h < 32) (hs : s < 32) (hg : g ≤ 1)
    (hI : ∀ i, i < 64 → rg_r b M i = 1 → rg_r b K i = c → ∃ j, j < 32 ∧ pr_p h s g j = i ∧ ∀ j', j' < j → ¬ rg_r b M (pr_p h s g j') = 0)
    (F : fd_ok b K M c post) : ∀ n j, j ≤ 32 → 32 - j < n → (∀ j', j' < j → ¬ (rg_r b M (pr_p h s g j') = 1 ∧ rg_r b K (pr_p h s g j') = c)) →
      wX_findProbing_35 post c (nI b) (nI g) fh w K V M L P Q n (nI (pr_p h s g j)) (nI (s + g * j)) (nI j) := by
  intro n
  induction n with
  | zero => intro j _ hm; omega
  | succ n ih =>
    intro j hj hm hno
    have hp := pr_lt (s := s) (g := g) hh j
    have hgj : g * j ≤ 1 * j := Nat.mul_le_mul_right j hg
    refine pk_le 32 j (fun h5 => ?_) (fun h5 => ?_)
    · refine F.2 fun i hi a d => ?_
      obtain ⟨j0, h1, h2, h3⟩ := hI i hi a d
      exact hno j0 (by omega) ⟨by rw [h2]; exact a, by rw [h2]; exact d⟩
    · refine ⟨pk_in (b + pr_p h s g j) 512 (by omega) (nI_add _ _), ?_⟩
      rw [nI_add, nI_clamp (by omega), ← rg_at (b := b) (a := M) (i := pr_p h s g j) (by omega)]
      refine br_c (fun h0 => ?_) (fun h0 => ?_)
      · refine F.2 fun i hi a d => ?_
        obtain ⟨j0, h1, h2, h3⟩ := hI i hi a d
        rcases Nat.lt_or_ge j0 j with q | q
        · exact hno j0 q ⟨by rw [h2]; exact a, by rw [h2]; exact d⟩
        · rcases Nat.lt_or_ge j j0 with q' | q'
          · exact h3 j q' h0
          · have ej : j0 = j := by omega
            rw [← ej, h2, a] at h0
            exact absurd h0 (by decide)
      · refine hw_holds rfl (by omega) hb (fun a d => br_f (by decide) (F.1 _ (by omega) a d)) (fun z => br_t rfl ?_)
        refine nm_r (e' := nI (pr_p h s g (j + 1))) ?_ (nm_r (e' := nI (s + g * (j + 1))) ?_ (nm_r (nI_1 _) ?_))
        · rw [nI_add, hm_m (by omega)]
          rfl
        · rw [nI_add, Nat.mul_succ]
          exact congrArg nI (by omega)
        · refine ih (j + 1) (by omega) (by omega) fun j' hj' => ?_
          by_cases ej : j' = j
          · rw [ej]; exact z
          · exact hno j' (by omega)
theorem pr_find {post : Int32 → Prop} {c : Int32} {e : Nat} (he : e < 3) (I : pr_inv w e (rg_r (64 * e) K) (rg_r (64 * e) M)) (F : fd_ok (64 * e) K M c post) : wpX_findProbing post (fh, w, K, V, M, L, P, Q) (nI e) c := by
  have hI : ∀ i, i < 64 → rg_r (64 * e) M i = 1 → rg_r (64 * e) K i = c → pr_ok w e (rg_r (64 * e) M) c i := by
    intro i hi a d
    by_cases q : i < 32
    · rw [← d]; exact I.1 i q a
    · rw [I.2.1 i (by omega) hi] at a
      exact absurd a (by decide)
  refine nm_r (e' := nI (64 * e)) ((pk_mul e 64).trans (congrArg nI (by omega))) (hw_home (pr_stride (by omega) ?_))
  have hg : pr_g e ≤ 1 := by
    unfold pr_g
    by_cases q : e = 1
    · rw [if_pos q]; omega
    · rw [if_neg q]; omega
  have W := pr_fl (fh := fh) (w := w) (V := V) (L := L) (P := P) (Q := Q) (b := 64 * e) (by omega) (hm_lt w c) (pr_sl w e c) hg hI F 33 0 (by omega) (by omega) (fun j' h => by omega)
  refine pk_eq e 1 (fun h => ⟨33, ?_⟩) (fun h => ⟨33, ?_⟩)
  · have eg : pr_g e = 1 := if_pos h
    rw [eg] at W
    exact W
  · have eg : pr_g e = 0 := if_neg h
    rw [eg] at W
    rw [show pr_s w e c + 0 * 0 = pr_s w e c by omega] at W
    exact W
theorem pr_il {post : SX → Prop} {c v : Int32} {b h s g : Nat} (hb : b ≤ 448) (hh : h < 32) (hs : s < 32) (hg : g ≤ 1)
    (R : ∃ j, j < 32 ∧ ¬ rg_r b M (pr_p h s g j) = 1)
    (F : ∀ j, j < 32 → ¬ rg_r b M (pr_p h s g j) = 1 → (∀ j', j' < j → rg_r b M (pr_p h s g j') = 1) → post (fh, w, upd K (b + pr_p h s g j) c, upd V (b + pr_p h s g j) v, upd M (b + pr_p h s g j) 1, L, P, Q)) :
    ∀ n j, j ≤ 32 → 32 - j < n → (∀ j', j' < j → rg_r b M (pr_p h s g j') = 1) →
      wX_insertProbing_36 post c v (nI b) (nI g) fh w K V M L P Q n (nI (pr_p h s g j)) (nI (s + g * j)) (nI j) := by
  intro n
  induction n with
  | zero => intro j _ hm; omega
  | succ n ih =>
    intro j hj hm hno
    have hp := pr_lt (s := s) (g := g) hh j
    have hgj : g * j ≤ 1 * j := Nat.mul_le_mul_right j hg
    refine pk_le 32 j (fun h5 => ?_) (fun h5 => ?_)
    · obtain ⟨j0, h1, h2⟩ := R
      exact absurd (hno j0 (by omega)) h2
    · refine ⟨pk_in (b + pr_p h s g j) 512 (by omega) (nI_add _ _), ?_⟩
      rw [nI_add, nI_clamp (by omega), ← rg_at (b := b) (a := M) (i := pr_p h s g j) (by omega)]
      refine br_c (fun h1 => ?_) (fun h1 => hw_hold rfl (by omega) (F j (by omega) h1 hno))
      refine nm_r (e' := nI (pr_p h s g (j + 1))) ?_ (nm_r (e' := nI (s + g * (j + 1))) ?_ (nm_r (nI_1 _) ?_))
      · rw [nI_add, hm_m (by omega)]
        rfl
      · rw [nI_add, Nat.mul_succ]
        exact congrArg nI (by omega)
      · refine ih (j + 1) (by omega) (by omega) fun j' hj' => ?_
        by_cases ej : j' = j
        · rw [ej]; exact h1
        · exact hno j' (by omega)
/-- a mark that isn't free any more -/
theorem pr_up {e : Nat} {m : Nat → Int32} {c x : Int32} {i q : Nat} (hx : x ≠ 0) (h : pr_ok w e m c i) : pr_ok w e (upd m q x) c i := by
  obtain ⟨j, h1, h2, h3⟩ := h
  refine ⟨j, h1, h2, fun j' hj' => ?_⟩
  by_cases eq : pr_at w e c j' = q
  · rw [eq, pk_us]; exact hx
  · rw [pk_un eq]; exact h3 j' hj'
theorem pr_insert {post : SX → Prop} {c v : Int32} {e : Nat} {ml : List (Int32 × Int32)} (he : e < 3) (I : pr_inv w e (rg_r (64 * e) K) (rg_r (64 * e) M)) (hl : ml.length < 32)
    (hp : List.Perm (cc_c (rg_r (64 * e) K) (rg_r (64 * e) V) (rg_r (64 * e) M)) ml)
    (F : kn_k (64 * e) (fun k m _ => pr_inv w e k m) ((c, v) :: ml) fh w K V M L P Q post) : wpX_insertProbing post (fh, w, K, V, M, L, P, Q) (nI e) c v := by
  have hR : ∃ j, j < 32 ∧ ¬ rg_r (64 * e) M (pr_at w e c j) = 1 := by
    obtain ⟨p, h1, h2, h3⟩ := cc_room (k := rg_r (64 * e) K) (v := rg_r (64 * e) V) (m := rg_r (64 * e) M) 0 (by omega) (by rw [hp.length_eq]; exact hl)
    obtain ⟨j, hj, ej⟩ := pr_sur w e c p (by omega)
    exact ⟨j, hj, by rw [ej]; exact h3⟩
  have hF : ∀ j, j < 32 → ¬ rg_r (64 * e) M (pr_at w e c j) = 1 → (∀ j', j' < j → rg_r (64 * e) M (pr_at w e c j') = 1) → post (fh, w, upd K (64 * e + pr_at w e c j) c, upd V (64 * e + pr_at w e c j) v, upd M (64 * e + pr_at w e c j) 1, L, P, Q) := by
    intro j hj h1 h2
    have hq := pr_al w e c j
    have hq6 : pr_at w e c j < 64 := by omega
    refine F _ _ _ _ (fr_u fr_r hq6) (fr_u fr_r hq6) (fr_u fr_r hq6) fr_r ?_ ?_
    · rw [rg_upd hq6, rg_upd hq6]
      refine ⟨fun i hi a => ?_, fun i h3 h4 => ?_, fun e0 i hi => ?_⟩
      · by_cases ei : i = pr_at w e c j
        · rw [ei, pk_us]
          refine pr_up (by decide) ⟨j, hj, rfl, fun j' hj' z => ?_⟩
          rw [h2 j' hj'] at z
          exact absurd z (by decide)
        · rw [pk_un ei] at a
          rw [pk_un ei]
          exact pr_up (by decide) (I.1 i hi a)
      · rw [pk_un (by omega)]
        exact I.2.1 i h3 h4
      · by_cases ei : i = pr_at w e c j
        · rw [ei, pk_us]; exact .inr rfl
        · rw [pk_un ei]; exact I.2.2 e0 i hi
    · rw [rg_upd hq6, rg_upd hq6, rg_upd hq6]
      exact (cc_hold hq6 h1).trans (hp.cons _)
  refine nm_r (e' := nI (64 * e)) ((pk_mul e 64).trans (congrArg nI (by omega))) (hw_home (pr_stride (by omega) ?_))
  have hg : pr_g e ≤ 1 := by
    unfold pr_g
    by_cases q : e = 1
    · rw [if_pos q]; omega
    · rw [if_neg q]; omega
  have W := pr_il (fh := fh) (w := w) (K := K) (V := V) (L := L) (P := P) (Q := Q) (v := v) (b := 64 * e) (by omega) (hm_lt w c) (pr_sl w e c) hg hR hF 33 0 (by omega) (by omega) (fun j' h => by omega)
  refine pk_eq e 1 (fun h => ⟨33, ?_⟩) (fun h => ⟨33, ?_⟩)
  · have eg : pr_g e = 1 := if_pos h
    rw [eg] at W
    exact W
  · have eg : pr_g e = 0 := if_neg h
    rw [eg] at W
    rw [show pr_s w e c + 0 * 0 = pr_s w e c by omega] at W
    exact W
/-- TRIANGULAR, DOUBLE: a slot is left -/
theorem pr_left {e : Nat} {k m : Nat → Int32} {i : Nat} (h0 : e ≠ 0) (hi : i < 32) (I : pr_inv w e k m) : pr_inv w e k (upd m i 2) := by
  refine ⟨fun j hj a => ?_, fun j h1 h2 => ?_, fun e0 => absurd e0 h0⟩
  · by_cases ei : j = i
    · rw [ei, pk_us] at a
      exact absurd a (by decide)
    · rw [pk_un ei] at a
      exact pr_up (by decide) (I.1 j hj a)
  · rw [pk_un (by omega)]
    exact I.2.1 j h1 h2
end
end
section
/-! closeGap: the walk once, for any invariant; then LINEAR -/
theorem gp_loop {fh w : Int32} {L P Q : Nat → Int32} {post : SX → Prop} {b p0 : Nat} (hb : b ≤ 448) (h32 : b % 32 = 0) (hp : p0 < 32) (J : Nat → Nat → (Nat → Int32) → (Nat → Int32) → (Nat → Int32) → Prop)
    (hJ : ∀ s g K V M, J s g K V M → s < 32 ∧ g < s)
    (hx : ∀ s g K V M, J s g K V M → ¬ rg_r b M ((p0 + s) % 32) = 1 → post (fh, w, K, V, M, L, P, Q))
    (h1 : ∀ s g K V M, J s g K V M → rg_r b M ((p0 + s) % 32) = 1 → ds_d w (rg_r b K) ((p0 + s) % 32) < s - g → J (s + 1) g K V M)
    (h2 : ∀ s g K V M, J s g K V M → rg_r b M ((p0 + s) % 32) = 1 → s - g ≤ ds_d w (rg_r b K) ((p0 + s) % 32) → J (s + 1) s (upd K (b + (p0 + g) % 32) (K (b + (p0 + s) % 32))) (upd V (b + (p0 + g) % 32) (V (b + (p0 + s) % 32))) (upd (upd M (b + (p0 + g) % 32) 1) (b + (p0 + s) % 32) 0)) :
    ∀ n s g K V M, 32 - s < n → J s g K V M → wX_closeGap_19 post (nI (b + p0)) (nI b) n (nI (b + (p0 + g) % 32)) (nI s) fh w K V M L P Q := by
  intro n
  induction n with
  | zero => intro s g K V M hm; omega
  | succ n ih =>
    intro s g K V M hm j
    have hs := hJ s g K V M j
    have hq : (p0 + s) % 32 < 32 := Nat.mod_lt _ (by decide)
    have hg : (p0 + g) % 32 < 32 := Nat.mod_lt _ (by decide)
    refine pk_le 32 s (fun h => absurd h (by omega)) (fun h => ?_)
    refine nm_r (e' := nI (b + (p0 + s) % 32)) ?_ ⟨vp_in_nI (by omega) (by decide), ?_⟩
    · rw [nI_add, hm_m (by omega), nI_add]
      exact congrArg nI (by omega)
    · rw [nI_clamp (by omega), ← rg_at (b := b) (a := M) (i := (p0 + s) % 32) (by omega)]
      refine br_c (fun a => hw_dist rfl (by omega) hb h32 ?_) (fun a => hx s g K V M j a)
      refine pk_lt (ds_d w (rg_r b K) ((p0 + s) % 32)) (s - g) (fun d => ?_) (fun d => ?_) rfl ?_ (by have := ds_lt w (rg_r b K) ((p0 + s) % 32); omega) (by omega)
      · exact nm_r (nI_1 _) (ih (s + 1) g K V M (by omega) (h1 s g K V M j a d))
      · refine ⟨vp_in_nI (by omega) (by decide), vp_in_nI (by omega) (by decide), hw_hold rfl (by omega) ?_⟩
        refine ⟨vp_in_nI (by omega) (by decide), nm_r (e' := upd (upd M (b + (p0 + g) % 32) 1) (b + (p0 + s) % 32) 0) (by rw [hm_n0]) (nm_r (nI_1 _) ?_)⟩
        exact ih (s + 1) s _ _ _ (by omega) (h2 s g K V M j a d)
      · rw [hm_d (by omega) (by omega)]
        exact congrArg nI (by omega)
theorem gp_close {fh w : Int32} {K V M L P Q : Nat → Int32} {post : SX → Prop} {e p0 : Nat} (he : e < 8) (hp : p0 < 32) (J : Nat → Nat → (Nat → Int32) → (Nat → Int32) → (Nat → Int32) → Prop)
    (hJ : ∀ s g K V M, J s g K V M → s < 32 ∧ g < s)
    (hx : ∀ s g K V M, J s g K V M → ¬ rg_r (64 * e) M ((p0 + s) % 32) = 1 → post (fh, w, K, V, M, L, P, Q))
    (h1 : ∀ s g K V M, J s g K V M → rg_r (64 * e) M ((p0 + s) % 32) = 1 → ds_d w (rg_r (64 * e) K) ((p0 + s) % 32) < s - g → J (s + 1) g K V M)
    (h2 : ∀ s g K V M, J s g K V M → rg_r (64 * e) M ((p0 + s) % 32) = 1 → s - g ≤ ds_d w (rg_r (64 * e) K) ((p0 + s) % 32) → J (s + 1) s (upd K (64 * e + (p0 + g) % 32) (K (64 * e + (p0 + s) % 32))) (upd V (64 * e + (p0 + g) % 32) (V (64 * e + (p0 + s) % 32))) (upd (upd M (64 * e + (p0 + g) % 32) 1) (64 * e + (p0 + s) % 32) 0))
    (h0 : J 1 0 K V (upd M (64 * e + p0) 0)) : wpX_closeGap post (fh, w, K, V, M, L, P, Q) (nI e) (nI (64 * e + p0)) := by
  refine nm_r (e' := nI (64 * e)) ((pk_mul e 64).trans (congrArg nI (by omega))) ⟨vp_in_nI (by omega) (by decide), nm_r (e' := upd M (64 * e + p0) 0) (by rw [nI_clamp (by omega), hm_n0]) ⟨33, ?_⟩⟩
  have W := gp_loop (fh := fh) (w := w) (L := L) (P := P) (Q := Q) (b := 64 * e) (by omega) (by omega) hp J hJ hx h1 h2 33 1 0 K V _ (by omega) h0
  rw [show (p0 + 0) % 32 = p0 by omega] at W
  exact W
/-- LINEAR: from home to the key's place all is held -/
def ln_inv (w : Int32) (k m : Nat → Int32) : Prop := ∀ p, p < 32 → m p = 1 → ∀ t, t ≤ ds_d w k p → m ((p + 32 - t) % 32) = 1
theorem ln_seq (h j : Nat) (hh : h < 32) : pr_p h 1 0 j = (h + j) % 32 := by
  induction j with
  | zero =>
    show h = (h + 0) % 32
    omega
  | succ j ih =>
    show (pr_p h 1 0 j + (1 + 0 * j)) % 32 = _
    rw [ih, Nat.zero_mul]
    omega
theorem ln_at (w c : Int32) (j : Nat) : pr_at w 0 c j = (hm_h w c + j) % 32 := ln_seq _ j (hm_lt w c)
theorem ln_of {w : Int32} {k m : Nat → Int32} (I : pr_inv w 0 k m) : ln_inv w k m := by
  intro p hp a t ht
  obtain ⟨j, h1, h2, h3⟩ := I.1 p hp a
  rw [ln_at] at h2
  have hh := hm_lt w (k p)
  unfold ds_d at ht
  by_cases t0 : t = 0
  · rw [t0, show (p + 32 - 0) % 32 = p by omega]; exact a
  · have ej : j = (p + 32 - hm_h w (k p)) % 32 := by omega
    have h4 := h3 (j - t) (by omega)
    rw [ln_at, show (hm_h w (k p) + (j - t)) % 32 = (p + 32 - t) % 32 by omega] at h4
    exact (I.2.2 rfl _ (by have : (p + 32 - t) % 32 < 32 := Nat.mod_lt _ (by decide)
                           omega)).resolve_left h4
theorem ln_to {w : Int32} {k m : Nat → Int32} (I : ln_inv w k m) (hb : ∀ i, i < 64 → m i = 0 ∨ m i = 1) (hz : ∀ i, 32 ≤ i → i < 64 → m i = 0) : pr_inv w 0 k m := by
  refine ⟨fun p hp a => ?_, hz, fun _ => hb⟩
  have hh := hm_lt w (k p)
  refine ⟨ds_d w k p, ds_lt w k p, ?_, fun j' hj' z => ?_⟩
  · rw [ln_at]
    unfold ds_d
    omega
  · have h4 := I p hp a (ds_d w k p - j') (by omega)
    rw [ln_at] at z
    have e : (p + 32 - (ds_d w k p - j')) % 32 = (hm_h w (k p) + j') % 32 := by
      unfold ds_d at hj' ⊢
      omega
    rw [e, z] at h4
    exact absurd h4 (by decide)
def ln_J (w : Int32) (p0 f s g : Nat) (k m : Nat → Int32) : Prop :=
  g < s ∧ s ≤ f ∧ f < 32 ∧ ¬ m ((p0 + f) % 32) = 1 ∧ ¬ m ((p0 + g) % 32) = 1 ∧ (∀ i, i < 64 → m i = 0 ∨ m i = 1) ∧ (∀ i, 32 ≤ i → i < 64 → m i = 0) ∧
  ∀ p, p < 32 → m p = 1 → ∀ t, t ≤ ds_d w k p → m ((p + 32 - t) % 32) = 1 ∨ ((p + 32 - t) % 32 = (p0 + g) % 32 ∧ s ≤ (p + 32 - p0) % 32)
theorem ln_end {w : Int32} {p0 f s g : Nat} {k m : Nat → Int32} (hp : p0 < 32) (j : ln_J w p0 f s g k m) (h : ¬ m ((p0 + s) % 32) = 1) : ln_inv w k m := by
  obtain ⟨j1, j2, j3, j4, j5, j6, j7, j8⟩ := j
  intro p hp1 a t ht
  have hd := ds_lt w k p
  rcases j8 p hp1 a t ht with q | ⟨q1, q2⟩
  · exact q
  · exfalso
    have e1 : ((p + 32 - p0) % 32 - s) ≤ ds_d w k p := by omega
    have e2 : (p + 32 - ((p + 32 - p0) % 32 - s)) % 32 = (p0 + s) % 32 := by omega
    rcases j8 p hp1 a _ e1 with q | ⟨q3, _⟩
    · rw [e2] at q; exact h q
    · rw [e2] at q3; omega
theorem ln_stay {w : Int32} {p0 f s g : Nat} {k m : Nat → Int32} (hp : p0 < 32) (j : ln_J w p0 f s g k m) (h : m ((p0 + s) % 32) = 1) (hd : ds_d w k ((p0 + s) % 32) < s - g) : ln_J w p0 f (s + 1) g k m := by
  obtain ⟨j1, j2, j3, j4, j5, j6, j7, j8⟩ := j
  have hf : s ≠ f := fun e => j4 (e ▸ h)
  refine ⟨by omega, by omega, j3, j4, j5, j6, j7, fun p hp1 a t ht => ?_⟩
  rcases j8 p hp1 a t ht with q | ⟨q1, q2⟩
  · exact .inl q
  · refine .inr ⟨q1, ?_⟩
    have h2 := ds_lt w k p
    by_cases e : p = (p0 + s) % 32
    · rw [← e] at hd; omega
    · omega
theorem ln_move {w : Int32} {p0 f s g : Nat} {k m : Nat → Int32} (hp : p0 < 32) (j : ln_J w p0 f s g k m) (h : m ((p0 + s) % 32) = 1) (hd : s - g ≤ ds_d w k ((p0 + s) % 32)) : ln_J w p0 f (s + 1) s (upd k ((p0 + g) % 32) (k ((p0 + s) % 32))) (upd (upd m ((p0 + g) % 32) 1) ((p0 + s) % 32) 0) := by
  obtain ⟨j1, j2, j3, j4, j5, j6, j7, j8⟩ := j
  have hf : s ≠ f := fun e => j4 (e ▸ h)
  have hgq : (p0 + g) % 32 ≠ (p0 + s) % 32 := by omega
  refine ⟨by omega, by omega, j3, ?_, ?_, fun i hi => ?_, fun i h1 h2 => ?_, fun p hp1 a t ht => ?_⟩
  · rw [pk_un (by omega), pk_un (by omega)]; exact j4
  · rw [pk_us]; decide
  · by_cases e1 : i = (p0 + s) % 32
    · rw [e1, pk_us]; exact .inl rfl
    · rw [pk_un e1]
      by_cases e2 : i = (p0 + g) % 32
      · rw [e2, pk_us]; exact .inr rfl
      · rw [pk_un e2]; exact j6 i hi
  · rw [pk_un (by omega), pk_un (by omega)]; exact j7 i h1 h2
  · have hpq : p ≠ (p0 + s) % 32 := fun e => by rw [e, pk_us] at a; exact absurd a (by decide)
    rw [pk_un hpq] at a
    have hh := hm_lt w (k ((p0 + s) % 32))
    by_cases epg : p = (p0 + g) % 32
    · have e1 : ds_d w (upd k ((p0 + g) % 32) (k ((p0 + s) % 32))) p = ds_d w k ((p0 + s) % 32) - (s - g) := by
        unfold ds_d at hd ⊢
        rw [epg, pk_us]
        omega
      rw [e1] at ht
      have h3 := ds_lt w k ((p0 + s) % 32)
      have hz : (p + 32 - t) % 32 ≠ (p0 + s) % 32 := by omega
      rw [pk_un hz]
      by_cases t0 : t = 0
      · rw [t0, show (p + 32 - 0) % 32 = (p0 + g) % 32 by omega, pk_us]; exact .inl rfl
      · rw [pk_un (by omega)]
        have e2 : ((p0 + s) % 32 + 32 - (t + (s - g))) % 32 = (p + 32 - t) % 32 := by omega
        rcases j8 ((p0 + s) % 32) (Nat.mod_lt _ (by decide)) h (t + (s - g)) (by omega) with q | ⟨q1, _⟩
        · rw [e2] at q; exact .inl q
        · omega
    · rw [pk_un epg] at a
      have e1 : ds_d w (upd k ((p0 + g) % 32) (k ((p0 + s) % 32))) p = ds_d w k p := by
        unfold ds_d
        rw [pk_un epg]
      rw [e1] at ht
      have h3 := ds_lt w k p
      by_cases ez : (p + 32 - t) % 32 = (p0 + s) % 32
      · refine .inr ⟨ez, ?_⟩
        by_cases hlt : s + 1 ≤ (p + 32 - p0) % 32
        · exact hlt
        · exfalso
          have e2 : (p + 32 - ((p + 32 - p0) % 32 + 32 - f)) % 32 = (p0 + f) % 32 := by omega
          rcases j8 p hp1 a ((p + 32 - p0) % 32 + 32 - f) (by omega) with q | ⟨q1, _⟩
          · rw [e2] at q; exact j4 q
          · omega
      · rw [pk_un ez]
        by_cases eg : (p + 32 - t) % 32 = (p0 + g) % 32
        · rw [eg, pk_us]; exact .inl rfl
        · rw [pk_un eg]
          rcases j8 p hp1 a t ht with q | ⟨q1, _⟩
          · exact .inl q
          · exact absurd q1 eg
/-- how the content goes when the gap moves -/
theorem gp_con {k v m : Nat → Int32} {i q : Nat} {ml : List (Int32 × Int32)} (hi : i < 64) (hq : q < 64) (ne : i ≠ q) (h : ¬ m i = 1) (hh : m q = 1) (p : List.Perm (cc_c k v m) ml) : List.Perm (cc_c (upd k i (k q)) (upd v i (v q)) (upd (upd m i 1) q 0)) ml := by
  have a := cc_hold (k := k) (v := v) (c := k q) (x := v q) hi h
  have c := cc_free (k := upd k i (k q)) (v := upd v i (v q)) (m := upd m i 1) (c := 0) hq (by rw [pk_un (Ne.symm ne)]; exact hh) (by decide)
  rw [pk_un (Ne.symm ne), pk_un (Ne.symm ne)] at c
  exact (c.trans a).cons_inv.trans p
section
variable {fh w : Int32} {K V M L P Q : Nat → Int32}
theorem ln_take {post : SX → Prop} {p0 : Nat} {ml : List (Int32 × Int32)} (hp : p0 < 64) (hh : rg_r 0 M p0 = 1) (I : pr_inv w 0 (rg_r 0 K) (rg_r 0 M)) (n : ct_nd ml) (hl : ml.length < 25)
    (pm : List.Perm (cc_c (rg_r 0 K) (rg_r 0 V) (rg_r 0 M)) ml)
    (F : kn_k 0 (fun k m _ => pr_inv w 0 k m) (ct_er (rg_r 0 K p0) ml) fh w K V M L P Q post) : wpX_closeGap post (fh, w, K, V, M, L, P, Q) 0 (nI p0) := by
  have hp3 : p0 < 32 := by
    rcases Nat.lt_or_ge p0 32 with q | q
    · exact q
    · rw [I.2.1 p0 q hp] at hh; exact absurd hh (by decide)
  have hbin := I.2.2 rfl
  have pm1 : List.Perm (cc_c (rg_r 0 K) (rg_r 0 V) (upd (rg_r 0 M) p0 0)) (ct_er (rg_r 0 K p0) ml) := cc_take hp hh (by decide) n pm
  obtain ⟨p1, r1, r2, r3⟩ := cc_room (k := rg_r 0 K) (v := rg_r 0 V) (m := rg_r 0 M) 0 (by omega) (by rw [pm.length_eq]; omega)
  have hne : p1 ≠ p0 := fun e => r3 (e ▸ hh)
  have W := gp_close (fh := fh) (w := w) (K := K) (V := V) (M := M) (L := L) (P := P) (Q := Q) (post := post) (e := 0) (p0 := p0) (by decide) hp3
    (fun s g K' V' M' => ln_J w p0 ((p1 + 32 - p0) % 32) s g (rg_r 0 K') (rg_r 0 M') ∧ fr_f 0 K K' ∧ fr_f 0 V V' ∧ fr_f 0 M M' ∧ List.Perm (cc_c (rg_r 0 K') (rg_r 0 V') (rg_r 0 M')) (ct_er (rg_r 0 K p0) ml))
    (fun s g K' V' M' j => ⟨by have := j.1; unfold ln_J at this; omega, j.1.1⟩)
    (fun s g K' V' M' j h => F K' V' M' L j.2.1 j.2.2.1 j.2.2.2.1 fr_r (ln_to (ln_end hp3 j.1 h) j.1.2.2.2.2.2.1 j.1.2.2.2.2.2.2.1) j.2.2.2.2)
    (fun s g K' V' M' j h d => ⟨ln_stay hp3 j.1 h d, j.2⟩)
    (fun s g K' V' M' j h d => by
      have hq : (p0 + s) % 32 < 64 := by omega
      have hg : (p0 + g) % 32 < 64 := by omega
      have j1 := j.1
      obtain ⟨a1, a2, a3, a4, a5, a6, a7, a8⟩ := j1
      refine ⟨?_, fr_u j.2.1 hg, fr_u j.2.2.1 hg, fr_u (fr_u j.2.2.2.1 hg) hq, ?_⟩
      · rw [rg_upd hg, rg_upd hq, rg_upd hg, ← rg_at (b := 64 * 0) (a := K') hq]
        exact ln_move hp3 j.1 h d
      · rw [rg_upd hg, rg_upd hg, rg_upd hq, rg_upd hg, ← rg_at (b := 64 * 0) (a := K') hq, ← rg_at (b := 64 * 0) (a := V') hq]
        exact gp_con hg hq (by omega) a5 h j.2.2.2.2)
    (by
      refine ⟨?_, fr_r, fr_r, fr_u fr_r hp, ?_⟩
      · rw [rg_upd hp]
        refine ⟨by omega, by omega, by omega, ?_, ?_, fun i hi => ?_, fun i h1 h2 => ?_, fun p hp1 a t ht => ?_⟩
        · rw [show (p0 + (p1 + 32 - p0) % 32) % 32 = p1 by omega, pk_un hne]; exact r3
        · rw [show (p0 + 0) % 32 = p0 by omega, pk_us]; decide
        · by_cases e : i = p0
          · rw [e, pk_us]; exact .inl rfl
          · rw [pk_un e]; exact hbin i hi
        · rw [pk_un (by omega)]; exact I.2.1 i h1 h2
        · have hpp : p ≠ p0 := fun e => by rw [e, pk_us] at a; exact absurd a (by decide)
          rw [pk_un hpp] at a
          by_cases e : (p + 32 - t) % 32 = p0
          · exact .inr ⟨by omega, by omega⟩
          · rw [pk_un e]; exact .inl (ln_of I p hp1 a t ht)
      · rw [rg_upd hp]; exact pm1)
  have e : 64 * 0 + p0 = p0 := by omega
  rw [e] at W
  exact W
end
end
section
/-! ROBIN: a key far from its home displaces a nearer one -/
/-- the local form: at home, or the place ahead is held, and no more than one nearer -/
def rb_loc (h : Nat → Prop) (d : Nat → Nat) : Prop := ∀ p, p < 32 → h p → d p = 0 ∨ (h ((p + 31) % 32) ∧ d p ≤ d ((p + 31) % 32) + 1)
def rb_bin (m : Nat → Int32) : Prop := (∀ i, i < 64 → m i = 0 ∨ m i = 1) ∧ (∀ i, 32 ≤ i → i < 64 → m i = 0)
def rb_inv (w : Int32) (k m : Nat → Int32) : Prop := rb_loc (fun p => m p = 1) (ds_d w k) ∧ rb_bin m
theorem rb_chain {h : Nat → Prop} {d : Nat → Nat} (I : rb_loc h d) {q : Nat} (hq : q < 32) (hh : h q) : ∀ t, t ≤ d q → t < 32 → h ((q + 32 - t) % 32) ∧ d q ≤ d ((q + 32 - t) % 32) + t := by
  intro t
  induction t with
  | zero =>
    intro _ _
    rw [show (q + 32 - 0) % 32 = q by omega]
    exact ⟨hh, by omega⟩
  | succ t ih =>
    intro ht h32
    obtain ⟨a, b⟩ := ih (by omega) (by omega)
    have e : ((q + 32 - t) % 32 + 31) % 32 = (q + 32 - (t + 1)) % 32 := by omega
    rcases I _ (Nat.mod_lt _ (by decide)) a with z | ⟨z1, z2⟩
    · omega
    · rw [e] at z1 z2
      exact ⟨z1, by omega⟩
theorem rb_cong {h h' : Nat → Prop} {d d' : Nat → Nat} (I : rb_loc h d) (e1 : ∀ p, p < 32 → (h' p ↔ h p)) (e2 : ∀ p, p < 32 → d' p = d p) : rb_loc h' d' := by
  intro p hp a
  have hr : (p + 31) % 32 < 32 := Nat.mod_lt _ (by decide)
  rw [e1 _ hr, e2 _ hr, e2 _ hp]
  exact I p hp ((e1 p hp).mp a)
section
variable {fh w : Int32} {K V M L P Q : Nat → Int32}
theorem rb_fl {post : Int32 → Prop} {c : Int32} (I : rb_inv w (rg_r 192 K) (rg_r 192 M)) (F : fd_ok 192 K M c post) : ∀ n t, t ≤ 32 → 32 - t < n → (∀ j, j < t → ¬ rg_r 192 K ((hm_h w c + j) % 32) = c) →
    wX_findRobin_13 post c (nI 192) (nI (hm_h w c)) fh w K V M L P Q n (nI t) := by
  have hh := hm_lt w c
  have key : ∀ i, i < 64 → rg_r 192 M i = 1 → rg_r 192 K i = c → i < 32 ∧ (hm_h w c + ds_d w (rg_r 192 K) i) % 32 = i := by
    intro i hi a d
    have h3 : i < 32 := by
      rcases Nat.lt_or_ge i 32 with q | q
      · exact q
      · rw [I.2.2 i q hi] at a; exact absurd a (by decide)
    refine ⟨h3, ?_⟩
    unfold ds_d
    rw [d]
    omega
  intro n
  induction n with
  | zero => intro t _ hm; omega
  | succ n ih =>
    intro t ht hm hno
    have hq : (hm_h w c + t) % 32 < 32 := Nat.mod_lt _ (by decide)
    have stop : (¬ rg_r 192 M ((hm_h w c + t) % 32) = 1 ∨ ds_d w (rg_r 192 K) ((hm_h w c + t) % 32) < t) → post (-1) := by
      intro z
      refine F.2 fun i hi a d => ?_
      obtain ⟨k1, k2⟩ := key i hi a d
      have h5 := ds_lt w (rg_r 192 K) i
      rcases Nat.lt_or_ge (ds_d w (rg_r 192 K) i) t with y | y
      · exact hno _ y (by rw [k2]; exact d)
      · obtain ⟨c1, c2⟩ := rb_chain I.1 k1 a (ds_d w (rg_r 192 K) i - t) (by omega) (by omega)
        have e : (i + 32 - (ds_d w (rg_r 192 K) i - t)) % 32 = (hm_h w c + t) % 32 := by omega
        rw [e] at c1 c2
        rcases z with z | z
        · exact z c1
        · omega
    refine pk_le 32 t (fun h5 => ?_) (fun h5 => ?_)
    · refine F.2 fun i hi a d => ?_
      obtain ⟨k1, k2⟩ := key i hi a d
      exact hno (ds_d w (rg_r 192 K) i) (by have := ds_lt w (rg_r 192 K) i; omega) (by rw [k2]; exact d)
    · refine nm_r (e' := nI (192 + (hm_h w c + t) % 32)) ?_ ⟨vp_in_nI (by omega) (by decide), ?_⟩
      · rw [nI_add, hm_m (by omega), nI_add]
      · rw [nI_clamp (by omega), ← rg_at (b := 192) (a := M) (i := (hm_h w c + t) % 32) (by omega)]
        refine br_c (fun a => hw_dist rfl (by omega) (by decide) (by decide) ?_) (fun a => stop (.inl a))
        refine pk_le t (ds_d w (rg_r 192 K) ((hm_h w c + t) % 32)) (fun d => ⟨vp_in_nI (by omega) (by decide), ?_⟩) (fun d => stop (.inr d)) rfl rfl (by omega) (by have := ds_lt w (rg_r 192 K) ((hm_h w c + t) % 32); omega)
        rw [← rg_at (b := 192) (a := K) (i := (hm_h w c + t) % 32) (by omega)]
        refine br_c (fun e => F.1 _ (by omega) a e) (fun e => nm_r (nI_1 _) ?_)
        refine ih (t + 1) (by omega) (by omega) fun j hj => ?_
        by_cases ej : j = t
        · rw [ej]; exact e
        · exact hno j (by omega)
theorem rb_find {post : Int32 → Prop} {c : Int32} (I : rb_inv w (rg_r 192 K) (rg_r 192 M)) (F : fd_ok 192 K M c post) : wpX_findRobin post (fh, w, K, V, M, L, P, Q) c := by
  unfold wpX_findRobin
  dsimp only
  exact hw_home ⟨33, rb_fl I F 33 0 (by omega) (by omega) (fun j h => by omega)⟩
/-- the key that is carried: its way so far -/
def rb_cy (w : Int32) (k m : Nat → Int32) (ck : Int32) (p t : Nat) : Prop := t = (p + 32 - hm_h w ck) % 32 ∧ (t = 0 ∨ (m ((p + 31) % 32) = 1 ∧ t ≤ ds_d w k ((p + 31) % 32) + 1))
theorem rb_il {post : SX → Prop} {h f : Nat} {ml : List (Int32 × Int32)} {K0 V0 M0 : Nat → Int32} (hh : h < 32) (hf : f < 32)
    (F : kn_k 192 (fun k m _ => rb_inv w k m) ml fh w K0 V0 M0 L P Q post) :
    ∀ n j (K V M : Nat → Int32) ck cv t, j ≤ f → 32 - j < n → ¬ rg_r 192 M ((h + f) % 32) = 1 → rb_inv w (rg_r 192 K) (rg_r 192 M) → rb_cy w (rg_r 192 K) (rg_r 192 M) ck ((h + j) % 32) t →
      fr_f 192 K0 K → fr_f 192 V0 V → fr_f 192 M0 M → List.Perm ((ck, cv) :: cc_c (rg_r 192 K) (rg_r 192 V) (rg_r 192 M)) ml →
      wX_insertRobin_23 post (nI 192) (nI h) n ck cv (nI t) (nI j) fh w K V M L P Q := by
  intro n
  induction n with
  | zero => intro j K V M ck cv t _ hm; omega
  | succ n ih =>
    intro j K V M ck cv t hj hm hu I C fK fV fM pm
    have hq : (h + j) % 32 < 32 := Nat.mod_lt _ (by decide)
    have hq6 : (h + j) % 32 < 64 := by omega
    have hck := hm_lt w ck
    have ht : t < 32 := by rw [C.1]; exact Nat.mod_lt _ (by decide)
    refine pk_le 32 j (fun h5 => absurd h5 (by omega)) (fun h5 => ?_)
    refine nm_r (e' := nI (192 + (h + j) % 32)) ?_ ⟨vp_in_nI (by omega) (by decide), ?_⟩
    · rw [nI_add, hm_m (by omega), nI_add]
    rw [nI_clamp (by omega), ← rg_at (b := 192) (a := M) (i := (h + j) % 32) (by omega)]
    have dself : ds_d w (upd (rg_r 192 K) ((h + j) % 32) ck) ((h + j) % 32) = t := by
      unfold ds_d
      rw [pk_us, C.1]
    have doth : ∀ p, p ≠ (h + j) % 32 → ds_d w (upd (rg_r 192 K) ((h + j) % 32) ck) p = ds_d w (rg_r 192 K) p := by
      intro p hp
      unfold ds_d
      rw [pk_un hp]
    have hbin : rb_bin (upd (rg_r 192 M) ((h + j) % 32) 1) := by
      refine ⟨fun i hi => ?_, fun i h1 h2 => ?_⟩
      · by_cases e : i = (h + j) % 32
        · rw [e, pk_us]; exact .inr rfl
        · rw [pk_un e]; exact I.2.1 i hi
      · rw [pk_un (by omega)]; exact I.2.2 i h1 h2
    refine br_c (fun a => hw_dist rfl hq6 (by decide) (by decide) ?_) (fun a => hw_hold rfl (by omega) ?_)
    · have hd := ds_lt w (rg_r 192 K) ((h + j) % 32)
      have hjf : j ≠ f := fun e => hu (e ▸ a)
      have e31 : ((h + (j + 1)) % 32 + 31) % 32 = (h + j) % 32 := by omega
      refine pk_le t (ds_d w (rg_r 192 K) ((h + j) % 32)) (fun d => nm_r (nI_1 _) (nm_r (nI_1 _) ?_)) (fun d => ⟨vp_in_nI (by omega) (by decide), ?_⟩) rfl rfl (by omega) (by omega)
      · refine ih (j + 1) K V M ck cv (t + 1) (by omega) (by omega) hu I ⟨?_, .inr ⟨?_, ?_⟩⟩ fK fV fM pm
        · have t31 : t ≠ 31 := by
            intro e
            have ed : ds_d w (rg_r 192 K) ((h + j) % 32) = 31 := by omega
            obtain ⟨c1, _⟩ := rb_chain I.1 hq a (((h + j) % 32 + 32 - (h + f) % 32) % 32) (by omega) (by omega)
            rw [show ((h + j) % 32 + 32 - ((h + j) % 32 + 32 - (h + f) % 32) % 32) % 32 = (h + f) % 32 by omega] at c1
            exact hu c1
          have := C.1
          omega
        · rw [e31]; exact a
        · rw [e31]; omega
      · refine nm_e ⟨vp_in_nI (by omega) (by decide), nm_e (hw_hold rfl (by omega) ?_)⟩
        refine nm_r (nI_1 _) (nm_r (nI_1 _) ?_)
        refine ih (j + 1) _ _ _ _ _ (ds_d w (rg_r 192 K) ((h + j) % 32) + 1) (by omega) (by omega) ?_ ?_ ?_ (fr_u fK hq6) (fr_u fV hq6) (fr_u fM hq6) ?_
        · rw [rg_upd hq6, pk_un (by omega)]; exact hu
        · rw [rg_upd hq6, rg_upd hq6]
          refine ⟨fun p hp b => ?_, hbin⟩
          by_cases e : p = (h + j) % 32
          · rw [e, dself]
            rcases C.2 with z | ⟨z1, z2⟩
            · exact .inl z
            · have e' : ((h + j) % 32 + 31) % 32 ≠ (h + j) % 32 := by omega
              refine .inr ⟨?_, ?_⟩
              · show upd _ _ _ _ = 1
                rw [pk_un e']; exact z1
              · rw [doth _ e']; exact z2
          · have b' : rg_r 192 M p = 1 := by
              have : upd (rg_r 192 M) ((h + j) % 32) 1 p = 1 := b
              rw [pk_un e] at this
              exact this
            rw [doth p e]
            rcases I.1 p hp b' with z | ⟨z1, z2⟩
            · exact .inl z
            · refine .inr ?_
              by_cases e2 : (p + 31) % 32 = (h + j) % 32
              · rw [e2, dself]
                rw [e2] at z2
                refine ⟨?_, by omega⟩
                show upd _ _ _ _ = 1
                rw [pk_us]
              · rw [doth _ e2]
                refine ⟨?_, z2⟩
                show upd _ _ _ _ = 1
                rw [pk_un e2]; exact z1
        · rw [rg_upd hq6, rg_upd hq6]
          refine ⟨?_, .inr ⟨?_, ?_⟩⟩
          · unfold ds_d at d ⊢
            rw [← rg_at (b := 192) (a := K) hq6]
            have h7 := hm_lt w (rg_r 192 K ((h + j) % 32))
            have := C.1
            omega
          · rw [e31, pk_us]
          · rw [e31, dself]; omega
        · rw [rg_upd hq6, rg_upd hq6, rg_upd hq6, ← rg_at (b := 192) (a := K) hq6, ← rg_at (b := 192) (a := V) hq6]
          exact (cc_over hq6 a).trans pm
    · refine F _ _ _ _ (fr_u fK hq6) (fr_u fV hq6) (fr_u fM hq6) fr_r ?_ ?_
      · rw [rg_upd hq6, rg_upd hq6]
        refine ⟨fun p hp b => ?_, hbin⟩
        by_cases e : p = (h + j) % 32
        · rw [e, dself]
          rcases C.2 with z | ⟨z1, z2⟩
          · exact .inl z
          · have e' : ((h + j) % 32 + 31) % 32 ≠ (h + j) % 32 := by omega
            refine .inr ⟨?_, ?_⟩
            · show upd _ _ _ _ = 1
              rw [pk_un e']; exact z1
            · rw [doth _ e']; exact z2
        · have b' : rg_r 192 M p = 1 := by
            have : upd (rg_r 192 M) ((h + j) % 32) 1 p = 1 := b
            rw [pk_un e] at this
            exact this
          rw [doth p e]
          rcases I.1 p hp b' with z | ⟨z1, z2⟩
          · exact .inl z
          · refine .inr ?_
            by_cases e2 : (p + 31) % 32 = (h + j) % 32
            · exact absurd (e2 ▸ z1) a
            · rw [doth _ e2]
              refine ⟨?_, z2⟩
              show upd _ _ _ _ = 1
              rw [pk_un e2]; exact z1
      · rw [rg_upd hq6, rg_upd hq6, rg_upd hq6]
        exact (cc_hold hq6 a).trans pm
theorem rb_insert {post : SX → Prop} {c v : Int32} {ml : List (Int32 × Int32)} (I : rb_inv w (rg_r 192 K) (rg_r 192 M)) (hl : ml.length < 32)
    (hp : List.Perm (cc_c (rg_r 192 K) (rg_r 192 V) (rg_r 192 M)) ml)
    (F : kn_k 192 (fun k m _ => rb_inv w k m) ((c, v) :: ml) fh w K V M L P Q post) : wpX_insertRobin post (fh, w, K, V, M, L, P, Q) c v := by
  have hh := hm_lt w c
  obtain ⟨p, h1, h2, h3⟩ := cc_room (k := rg_r 192 K) (v := rg_r 192 V) (m := rg_r 192 M) 0 (by omega) (by rw [hp.length_eq]; exact hl)
  unfold wpX_insertRobin
  dsimp only
  refine hw_home ⟨33, ?_⟩
  exact rb_il (f := (p + 32 - hm_h w c) % 32) hh (Nat.mod_lt _ (by decide)) F 33 0 K V M c v 0 (by omega) (by omega) (by rw [show (hm_h w c + (p + 32 - hm_h w c) % 32) % 32 = p by omega]; exact h3) I ⟨by omega, .inl rfl⟩ fr_r fr_r fr_r (hp.cons _)
/-- the gap, with the distance that stood in it -/
def rb_J (w : Int32) (p0 f s g : Nat) (k m : Nat → Int32) : Prop :=
  g < s ∧ s ≤ f ∧ f < 32 ∧ ¬ m ((p0 + f) % 32) = 1 ∧ ¬ m ((p0 + g) % 32) = 1 ∧ rb_bin m ∧
  (∃ D : Nat, rb_loc (fun p => m p = 1 ∨ p = (p0 + g) % 32) (fun p => if p = (p0 + g) % 32 then D else ds_d w k p)) ∧
  (s = g + 1 ∨ (g + 1 < s ∧ m ((p0 + (g + 1)) % 32) = 1 ∧ ds_d w k ((p0 + (g + 1)) % 32) = 0 ∧ m ((p0 + (s - 1)) % 32) = 1 ∧ ds_d w k ((p0 + (s - 1)) % 32) < s - 1 - g))
theorem rb_end {p0 f s g : Nat} {k m : Nat → Int32} (hp : p0 < 32) (j : rb_J w p0 f s g k m) (h : ¬ m ((p0 + s) % 32) = 1) : rb_inv w k m := by
  obtain ⟨j1, j2, j3, j4, j5, j6, ⟨D, j7⟩, j8⟩ := j
  refine ⟨fun p hp1 a => ?_, j6⟩
  have epg : p ≠ (p0 + g) % 32 := fun e => j5 (e ▸ a)
  have z := j7 p hp1 (.inl a)
  dsimp only at z
  rw [if_neg epg] at z
  rcases z with z | ⟨z1, z2⟩
  · exact .inl z
  · by_cases e : (p + 31) % 32 = (p0 + g) % 32
    · have ep : p = (p0 + (g + 1)) % 32 := by omega
      rcases j8 with q | ⟨_, _, q, _⟩
      · rw [q, ← ep] at h
        exact absurd a h
      · rw [← ep] at q
        exact .inl q
    · rw [if_neg e] at z2
      exact .inr ⟨z1.resolve_right e, z2⟩
theorem rb_stay {p0 f s g : Nat} {k m : Nat → Int32} (hp : p0 < 32) (j : rb_J w p0 f s g k m) (h : m ((p0 + s) % 32) = 1) (hd : ds_d w k ((p0 + s) % 32) < s - g) : rb_J w p0 f (s + 1) g k m := by
  obtain ⟨j1, j2, j3, j4, j5, j6, j7, j8⟩ := j
  have hf : s ≠ f := fun e => j4 (e ▸ h)
  refine ⟨by omega, by omega, j3, j4, j5, j6, j7, .inr ?_⟩
  rw [show s + 1 - 1 = s by omega]
  rcases j8 with q | ⟨_, q1, q2, _⟩
  · refine ⟨by omega, ?_, ?_, h, hd⟩
    · rw [← q]; exact h
    · rw [← q]; omega
  · exact ⟨by omega, q1, q2, h, hd⟩
theorem rb_move {p0 f s g : Nat} {k m : Nat → Int32} (hp : p0 < 32) (j : rb_J w p0 f s g k m) (h : m ((p0 + s) % 32) = 1) (hd : s - g ≤ ds_d w k ((p0 + s) % 32)) : rb_J w p0 f (s + 1) s (upd k ((p0 + g) % 32) (k ((p0 + s) % 32))) (upd (upd m ((p0 + g) % 32) 1) ((p0 + s) % 32) 0) := by
  obtain ⟨j1, j2, j3, j4, j5, j6, ⟨D, j7⟩, j8⟩ := j
  have hf : s ≠ f := fun e => j4 (e ▸ h)
  have hq : (p0 + s) % 32 < 32 := Nat.mod_lt _ (by decide)
  have hg : (p0 + g) % 32 < 32 := Nat.mod_lt _ (by decide)
  have hgq : (p0 + g) % 32 ≠ (p0 + s) % 32 := by omega
  have lq := j7 _ hq (.inl h)
  dsimp only at lq
  rw [if_neg (Ne.symm hgq)] at lq
  rcases j8 with es | ⟨q0, _, _, q3, q4⟩
  · have e31 : ((p0 + s) % 32 + 31) % 32 = (p0 + g) % 32 := by omega
    rw [e31, if_pos rfl] at lq
    have lg := j7 _ hg (.inr rfl)
    dsimp only at lg
    have eg1 : ((p0 + g) % 32 + 31) % 32 ≠ (p0 + g) % 32 := by omega
    rw [if_pos rfl, if_neg eg1] at lg
    have dg : ds_d w (upd k ((p0 + g) % 32) (k ((p0 + s) % 32))) ((p0 + g) % 32) = ds_d w k ((p0 + s) % 32) - 1 := by
      have hh := hm_lt w (k ((p0 + s) % 32))
      unfold ds_d at hd ⊢
      rw [pk_us]
      omega
    have dother : ∀ p, p ≠ (p0 + g) % 32 → ds_d w (upd k ((p0 + g) % 32) (k ((p0 + s) % 32))) p = ds_d w k p := by
      intro p e
      unfold ds_d
      rw [pk_un e]
    refine ⟨by omega, by omega, j3, ?_, ?_, ⟨fun i hi => ?_, fun i h1 h2 => ?_⟩, ⟨ds_d w k ((p0 + s) % 32), ?_⟩, .inl rfl⟩
    · rw [pk_un (by omega), pk_un (by omega)]; exact j4
    · rw [pk_us]; decide
    · by_cases e1 : i = (p0 + s) % 32
      · rw [e1, pk_us]; exact .inl rfl
      · rw [pk_un e1]
        by_cases e2 : i = (p0 + g) % 32
        · rw [e2, pk_us]; exact .inr rfl
        · rw [pk_un e2]; exact j6.1 i hi
    · rw [pk_un (by omega), pk_un (by omega)]; exact j6.2 i h1 h2
    · have hH : ∀ p, p < 32 → ((upd (upd m ((p0 + g) % 32) 1) ((p0 + s) % 32) 0 p = 1 ∨ p = (p0 + s) % 32) ↔ (m p = 1 ∨ p = (p0 + g) % 32)) := by
        intro p _
        by_cases e1 : p = (p0 + s) % 32
        · exact ⟨fun _ => .inl (by rw [e1]; exact h), fun _ => .inr e1⟩
        · rw [pk_un e1]
          by_cases e2 : p = (p0 + g) % 32
          · exact ⟨fun _ => .inr e2, fun _ => .inl (by rw [e2, pk_us])⟩
          · rw [pk_un e2]
            exact ⟨fun z => .inl (z.resolve_right e1), fun z => .inl (z.resolve_right e2)⟩
      have key : rb_loc (fun p => m p = 1 ∨ p = (p0 + g) % 32) (fun p => if p = (p0 + g) % 32 then ds_d w k ((p0 + s) % 32) - 1 else ds_d w k p) := by
        intro p hp1 a
        dsimp only
        by_cases e1 : p = (p0 + g) % 32
        · rw [if_pos e1, e1, if_neg eg1]
          rcases lq with z | ⟨_, z⟩
          · omega
          · rcases lg with y | ⟨y1, y2⟩
            · left; omega
            · right; exact ⟨y1, by omega⟩
        · rw [if_neg e1]
          have z := j7 p hp1 a
          dsimp only at z
          rw [if_neg e1] at z
          by_cases e2 : (p + 31) % 32 = (p0 + g) % 32
          · have ep : p = (p0 + s) % 32 := by omega
            rw [e2, if_pos rfl, ep]
            right
            exact ⟨.inr rfl, by omega⟩
          · rw [if_neg e2] at z ⊢
            exact z
      refine rb_cong key hH fun p hp1 => ?_
      by_cases e1 : p = (p0 + s) % 32
      · rw [if_pos e1, if_neg (by omega), e1]
      · rw [if_neg e1]
        by_cases e2 : p = (p0 + g) % 32
        · rw [if_pos e2, e2, dg]
        · rw [if_neg e2, dother p e2]
  · exfalso
    have e31 : ((p0 + s) % 32 + 31) % 32 = (p0 + (s - 1)) % 32 := by omega
    have ne : (p0 + (s - 1)) % 32 ≠ (p0 + g) % 32 := by omega
    rw [e31, if_neg ne] at lq
    omega
theorem rb_take {post : SX → Prop} {p0 : Nat} {ml : List (Int32 × Int32)} (hp : p0 < 64) (hh : rg_r 192 M p0 = 1) (I : rb_inv w (rg_r 192 K) (rg_r 192 M)) (n : ct_nd ml) (hl : ml.length < 25)
    (pm : List.Perm (cc_c (rg_r 192 K) (rg_r 192 V) (rg_r 192 M)) ml)
    (F : kn_k 192 (fun k m _ => rb_inv w k m) (ct_er (rg_r 192 K p0) ml) fh w K V M L P Q post) : wpX_closeGap post (fh, w, K, V, M, L, P, Q) (nI 3) (nI (192 + p0)) := by
  have hp3 : p0 < 32 := by
    rcases Nat.lt_or_ge p0 32 with q | q
    · exact q
    · rw [I.2.2 p0 q hp] at hh; exact absurd hh (by decide)
  have pm1 : List.Perm (cc_c (rg_r 192 K) (rg_r 192 V) (upd (rg_r 192 M) p0 0)) (ct_er (rg_r 192 K p0) ml) := cc_take hp hh (by decide) n pm
  obtain ⟨p1, r1, r2, r3⟩ := cc_room (k := rg_r 192 K) (v := rg_r 192 V) (m := rg_r 192 M) 0 (by omega) (by rw [pm.length_eq]; omega)
  have hne : p1 ≠ p0 := fun e => r3 (e ▸ hh)
  exact gp_close (fh := fh) (w := w) (K := K) (V := V) (M := M) (L := L) (P := P) (Q := Q) (post := post) (e := 3) (p0 := p0) (by decide) hp3
    (fun s g K' V' M' => rb_J w p0 ((p1 + 32 - p0) % 32) s g (rg_r 192 K') (rg_r 192 M') ∧ fr_f 192 K K' ∧ fr_f 192 V V' ∧ fr_f 192 M M' ∧ List.Perm (cc_c (rg_r 192 K') (rg_r 192 V') (rg_r 192 M')) (ct_er (rg_r 192 K p0) ml))
    (fun s g K' V' M' j => ⟨by have := j.1; unfold rb_J at this; omega, j.1.1⟩)
    (fun s g K' V' M' j h => F K' V' M' L j.2.1 j.2.2.1 j.2.2.2.1 fr_r (rb_end hp3 j.1 h) j.2.2.2.2)
    (fun s g K' V' M' j h d => ⟨rb_stay hp3 j.1 h d, j.2⟩)
    (fun s g K' V' M' j h d => by
      have hq : (p0 + s) % 32 < 64 := by omega
      have hg : (p0 + g) % 32 < 64 := by omega
      have j1 := j.1
      obtain ⟨a1, a2, a3, a4, a5, a6⟩ := j1
      refine ⟨?_, fr_u j.2.1 hg, fr_u j.2.2.1 hg, fr_u (fr_u j.2.2.2.1 hg) hq, ?_⟩
      · show rb_J w p0 _ _ _ (rg_r 192 (upd K' (192 + (p0 + g) % 32) (K' (192 + (p0 + s) % 32)))) (rg_r 192 (upd (upd M' (192 + (p0 + g) % 32) 1) (192 + (p0 + s) % 32) 0))
        rw [rg_upd hg, rg_upd hq, rg_upd hg, ← rg_at (b := 192) (a := K') hq]
        exact rb_move hp3 j.1 h d
      · show List.Perm (cc_c (rg_r 192 (upd K' (192 + (p0 + g) % 32) (K' (192 + (p0 + s) % 32)))) (rg_r 192 (upd V' (192 + (p0 + g) % 32) (V' (192 + (p0 + s) % 32)))) (rg_r 192 (upd (upd M' (192 + (p0 + g) % 32) 1) (192 + (p0 + s) % 32) 0))) _
        rw [rg_upd hg, rg_upd hg, rg_upd hq, rg_upd hg, ← rg_at (b := 192) (a := K') hq, ← rg_at (b := 192) (a := V') hq]
        exact gp_con hg hq (by omega) a5 h j.2.2.2.2)
    (by
      refine ⟨?_, fr_r, fr_r, fr_u fr_r hp, ?_⟩
      · show rb_J w p0 _ _ _ _ (rg_r 192 (upd M (192 + p0) 0))
        rw [rg_upd hp]
        refine ⟨by omega, by omega, by omega, ?_, ?_, ⟨fun i hi => ?_, fun i h1 h2 => ?_⟩, ⟨ds_d w (rg_r 192 K) p0, ?_⟩, .inl rfl⟩
        · rw [show (p0 + (p1 + 32 - p0) % 32) % 32 = p1 by omega, pk_un hne]; exact r3
        · rw [show (p0 + 0) % 32 = p0 by omega, pk_us]; decide
        · by_cases e : i = p0
          · rw [e, pk_us]; exact .inl rfl
          · rw [pk_un e]; exact I.2.1 i hi
        · rw [pk_un (by omega)]; exact I.2.2 i h1 h2
        · rw [show (p0 + 0) % 32 = p0 by omega]
          refine rb_cong I.1 (fun p _ => ?_) (fun p _ => ?_)
          · by_cases e : p = p0
            · exact ⟨fun _ => by show rg_r 192 M p = 1; rw [e]; exact hh, fun _ => .inr e⟩
            · show (upd (rg_r 192 M) p0 0 p = 1 ∨ p = p0) ↔ rg_r 192 M p = 1
              rw [pk_un e]
              exact ⟨fun z => z.resolve_right e, fun z => .inl z⟩
          · by_cases e : p = p0
            · rw [if_pos e, e]
            · rw [if_neg e]
      · show List.Perm (cc_c _ _ (rg_r 192 (upd M (192 + p0) 0))) _
        rw [rg_upd hp]; exact pm1)
end
end
section
/-! CUCKOO: two homes for each key, and the spare slots -/
def ck_inv (w : Int32) (k m : Nat → Int32) : Prop := (∀ i, i < 32 → m i = 1 → i = hm_h w (k i) ∨ i = om_h w (k i)) ∧ (∀ i, i < 64 → m i = 0 ∨ m i = 1)
section
variable {fh w : Int32} {K V M L P Q : Nat → Int32}
theorem ck_find {post : Int32 → Prop} {c : Int32} (I : ck_inv w (rg_r 256 K) (rg_r 256 M)) (F : fd_ok 256 K M c post) : wpX_findCuckoo post (fh, w, K, V, M, L, P, Q) c := by
  have hh := hm_lt w c
  have ho := om_lt w c
  unfold wpX_findCuckoo
  dsimp only
  refine hw_home (nm_r (e' := nI (256 + hm_h w c)) (nI_add 256 _) (hw_holds rfl (by omega) (by decide) (fun a d => br_f (by decide) (F.1 _ (by omega) a d)) (fun z1 => br_t rfl (hw_other (nm_r (e' := nI (256 + om_h w c)) (nI_add 256 _) (hw_holds rfl (by omega) (by decide) (fun a d => br_f (by decide) (F.1 _ (by omega) a d)) (fun z2 => br_t rfl ?_)))))))
  refine hw_spare (e := 4) (by decide) rfl F.1 (fun hn => F.2 fun i hi a d => ?_)
  rcases Nat.lt_or_ge i 32 with q | q
  · rcases I.1 i q a with e | e
    · rw [d] at e
      rw [e] at a d
      exact z1 ⟨a, d⟩
    · rw [d] at e
      rw [e] at a d
      exact z2 ⟨a, d⟩
  · exact hn i q hi a d
theorem ck_other {post : Int32 → Prop} {c x : Int32} {p : Nat} (hx : x = nI (256 + p)) (hp : p < 32) (h : ∀ q, q < 32 → q = hm_h w c ∨ q = om_h w c → post (nI (256 + q))) : wpX_otherPlace post (fh, w, K, V, M, L, P, Q) x c := by
  subst hx
  have hh := hm_lt w c
  have ho := om_lt w c
  unfold wpX_otherPlace
  dsimp only
  refine hw_home (nm_r (e' := nI (256 + hm_h w c)) (nI_add 256 _) (pk_eq (256 + p) (256 + hm_h w c) (fun e => hw_other ?_) (fun e => ?_)))
  · rw [show (256 : Int32) + nI (om_h w c) = nI (256 + om_h w c) from nI_add 256 _]
    exact h _ ho (.inr rfl)
  · exact h _ hh (.inl rfl)
theorem ck_il {post : SX → Prop} {ml : List (Int32 × Int32)} {K0 V0 M0 : Nat → Int32} (hl : ml.length < 33)
    (F : kn_k 256 (fun k m _ => ck_inv w k m) ml fh w K0 V0 M0 L P Q post) :
    ∀ n j (K V M : Nat → Int32) ck cv p, j ≤ 32 → 32 - j < n → p < 32 → (p = hm_h w ck ∨ p = om_h w ck) → ck_inv w (rg_r 256 K) (rg_r 256 M) →
      fr_f 256 K0 K → fr_f 256 V0 V → fr_f 256 M0 M → List.Perm ((ck, cv) :: cc_c (rg_r 256 K) (rg_r 256 V) (rg_r 256 M)) ml →
      wX_insertCuckoo_19 post n ck cv (nI (256 + p)) (nI j) fh w K V M L P Q := by
  intro n
  induction n with
  | zero => intro j K V M ck cv p _ hm; omega
  | succ n ih =>
    intro j K V M ck cv p hj hm hp hpc I fK fV fM pm
    have hp6 : p < 64 := by omega
    have hlen := pm.length_eq
    rw [List.length_cons] at hlen
    have hin : ∀ q, q < 64 → (q < 32 → q = hm_h w ck ∨ q = om_h w ck) → ck_inv w (upd (rg_r 256 K) q ck) (upd (rg_r 256 M) q 1) := by
      intro q hq6 hq
      refine ⟨fun i hi a => ?_, fun i hi => ?_⟩
      · by_cases e : i = q
        · rw [e, pk_us]; exact hq (by omega)
        · rw [pk_un e] at a ⊢; exact I.1 i hi a
      · by_cases e : i = q
        · rw [e, pk_us]; exact .inr rfl
        · rw [pk_un e]; exact I.2 i hi
    refine pk_le 32 j (fun h5 => ?_) (fun h5 => ?_)
    · refine hw_room (e := 4) (by decide) rfl (cc_room (k := rg_r 256 K) (v := rg_r 256 V) (m := rg_r 256 M) 32 (by omega) (by omega)) (fun i h1 h2 h3 => hw_hold rfl (by omega) ?_)
      refine F _ _ _ _ (fr_u fK h2) (fr_u fV h2) (fr_u fM h2) fr_r ?_ ?_
      · rw [show 64 * 4 + i = 256 + i from rfl, rg_upd h2, rg_upd h2]
        exact hin i h2 (fun h => by omega)
      · rw [show 64 * 4 + i = 256 + i from rfl, rg_upd h2, rg_upd h2, rg_upd h2]
        exact (cc_hold h2 h3).trans pm
    · refine ⟨vp_in_nI (by omega) (by decide), ?_⟩
      rw [nI_clamp (by omega), ← rg_at (b := 256) (a := M) (i := p) hp6]
      refine br_c (fun a => ⟨vp_in_nI (by omega) (by decide), nm_e ⟨vp_in_nI (by omega) (by decide), nm_e (hw_hold rfl (by omega) (ck_other rfl hp fun q hq hqc => nm_r (nI_1 _) ?_))⟩⟩) (fun a => hw_hold rfl (by omega) ?_)
      · refine ih (j + 1) _ _ _ _ _ q (by omega) (by omega) hq hqc ?_ (fr_u fK hp6) (fr_u fV hp6) (fr_u fM hp6) ?_
        · rw [rg_upd hp6, rg_upd hp6]
          exact hin p hp6 (fun _ => hpc)
        · rw [rg_upd hp6, rg_upd hp6, rg_upd hp6, ← rg_at (b := 256) (a := K) hp6, ← rg_at (b := 256) (a := V) hp6]
          exact (cc_over hp6 a).trans pm
      · refine F _ _ _ _ (fr_u fK hp6) (fr_u fV hp6) (fr_u fM hp6) fr_r ?_ ?_
        · rw [rg_upd hp6, rg_upd hp6]
          exact hin p hp6 (fun _ => hpc)
        · rw [rg_upd hp6, rg_upd hp6, rg_upd hp6]
          exact (cc_hold hp6 a).trans pm
theorem ck_insert {post : SX → Prop} {c v : Int32} {ml : List (Int32 × Int32)} (I : ck_inv w (rg_r 256 K) (rg_r 256 M)) (hl : ml.length < 32)
    (hp : List.Perm (cc_c (rg_r 256 K) (rg_r 256 V) (rg_r 256 M)) ml)
    (F : kn_k 256 (fun k m _ => ck_inv w k m) ((c, v) :: ml) fh w K V M L P Q post) : wpX_insertCuckoo post (fh, w, K, V, M, L, P, Q) c v := by
  unfold wpX_insertCuckoo
  dsimp only
  refine hw_home (nm_r (e' := nI (256 + hm_h w c)) (nI_add 256 _) ⟨33, ?_⟩)
  exact ck_il (by rw [List.length_cons]; omega) F 33 0 K V M c v (hm_h w c) (by omega) (by omega) (hm_lt w c) (.inl rfl) I fr_r fr_r fr_r (hp.cons _)
theorem ck_take {k m : Nat → Int32} {i : Nat} (I : ck_inv w k m) : ck_inv w k (upd m i 0) := by
  refine ⟨fun j hj a => ?_, fun j hj => ?_⟩
  · by_cases e : j = i
    · rw [e, pk_us] at a; exact absurd a (by decide)
    · rw [pk_un e] at a; exact I.1 j hj a
  · by_cases e : j = i
    · rw [e, pk_us]; exact .inl rfl
    · rw [pk_un e]; exact I.2 j hj
end
end
section
/-! lists of links -/
def li_ch (b : Nat) (L : Nat → Int32) : Nat → List Nat → Prop
  | i, [] => L i = 0
  | i, j :: r => L i = nI (b + j) ∧ j < 64 ∧ li_ch b L j r
theorem li_ne {b j : Nat} (hb : 64 ≤ b) (hB : b ≤ 448) (hj : j < 64) : nI (b + j) ≠ 0 := nI_ne0 (by omega) (by omega)
theorem li_inj {b i j : Nat} (hB : b ≤ 448) (hi : i < 64) (hj : j < 64) (h : nI (b + i) = nI (b + j)) : i = j := by
  have := (nI_eq (a := b + i) (b := b + j) (by omega) (by omega)).mp h
  omega
theorem li_det {b : Nat} {L : Nat → Int32} (hb : 64 ≤ b) (hB : b ≤ 448) : ∀ (l l' : List Nat) (i : Nat), li_ch b L i l → li_ch b L i l' → l = l' := by
  intro l
  induction l with
  | nil =>
    intro l' i h h'
    cases l' with
    | nil => rfl
    | cons j r => exact absurd (h'.1.symm.trans h) (li_ne hb hB h'.2.1)
  | cons j r ih =>
    intro l' i h h'
    cases l' with
    | nil => exact absurd (h.1.symm.trans h') (li_ne hb hB h.2.1)
    | cons j' r' =>
      have e : j = j' := li_inj hB h.2.1 h'.2.1 (h.1.symm.trans h'.1)
      subst e
      rw [ih r' j h.2.2 h'.2.2]
theorem li_suf {b : Nat} {L : Nat → Int32} : ∀ (l : List Nat) (i x : Nat), li_ch b L i l → x ∈ i :: l → ∃ pre post, i :: l = pre ++ x :: post ∧ li_ch b L x post := by
  intro l
  induction l with
  | nil =>
    intro i x h hx
    have e : x = i := by simpa using hx
    subst e
    exact ⟨[], [], rfl, h⟩
  | cons j r ih =>
    intro i x h hx
    rcases List.mem_cons.mp hx with e | hx
    · subst e; exact ⟨[], j :: r, rfl, h⟩
    · obtain ⟨pre, post, e, hp⟩ := ih j x h.2.2 hx
      exact ⟨i :: pre, post, by rw [e]; rfl, hp⟩
theorem li_self {b : Nat} {L : Nat → Int32} (hb : 64 ≤ b) (hB : b ≤ 448) {l : List Nat} {i : Nat} (h : li_ch b L i l) : i ∉ l := by
  intro hi
  cases l with
  | nil => exact (List.not_mem_nil hi).elim
  | cons j r =>
    obtain ⟨pre, post, e, hp⟩ := li_suf r j i h.2.2 hi
    have e2 := li_det hb hB post (j :: r) i hp h
    have e3 := congrArg List.length e
    rw [e2] at e3
    simp at e3
    omega
theorem li_nd {b : Nat} {L : Nat → Int32} (hb : 64 ≤ b) (hB : b ≤ 448) : ∀ (l : List Nat) (i : Nat), li_ch b L i l → (i :: l).Nodup := by
  intro l
  induction l with
  | nil => intro i _; simp
  | cons j r ih => intro i h; exact List.nodup_cons.mpr ⟨li_self hb hB h, ih j h.2.2⟩
/-- a list is its links -/
theorem li_cg {b : Nat} {L L' : Nat → Int32} : ∀ (t : List Nat) (s s' : Nat), L' s' = L s → (∀ y, y ∈ t → L' y = L y) → li_ch b L s t → li_ch b L' s' t := by
  intro t
  induction t with
  | nil => intro s s' e _ h; exact e.trans h
  | cons j r ih =>
    intro s s' e f h
    exact ⟨e.trans h.1, h.2.1, ih j j (f j List.mem_cons_self) (fun y hy => f y (List.mem_cons_of_mem _ hy)) h.2.2⟩
def li_nx (b : Nat) : List Nat → Nat
  | [] => 0
  | j :: _ => b + j
theorem li_hd {b : Nat} {L : Nat → Int32} {s : Nat} {l : List Nat} (h : li_ch b L s l) : L s = nI (li_nx b l) ∧ (b ≤ 448 → li_nx b l < 512) := by
  cases l with
  | nil => exact ⟨h, fun _ => by show 0 < 512; decide⟩
  | cons j r => exact ⟨h.1, fun hb => by have := h.2.1; show b + j < 512; omega⟩
def li_last : Nat → List Nat → Nat
  | i, [] => i
  | _, j :: r => li_last j r
theorem li_lastM : ∀ (l : List Nat) (i : Nat), li_last i l ∈ i :: l := by
  intro l
  induction l with
  | nil => intro i; exact List.mem_cons_self
  | cons j r ih => intro i; exact List.mem_cons_of_mem _ (ih j)
theorem li_last0 {b : Nat} {L : Nat → Int32} : ∀ (l : List Nat) (i : Nat), li_ch b L i l → L (li_last i l) = 0 := by
  intro l
  induction l with
  | nil => intro i h; exact h
  | cons j r ih => intro i h; exact ih j h.2.2
theorem li_lt64 {b : Nat} {L : Nat → Int32} : ∀ (l : List Nat) (i : Nat), li_ch b L i l → ∀ x, x ∈ l → x < 64 := by
  intro l
  induction l with
  | nil => intro i _ x hx; exact (List.not_mem_nil hx).elim
  | cons j r ih =>
    intro i h x hx
    rcases List.mem_cons.mp hx with e | hx
    · rw [e]; exact h.2.1
    · exact ih j h.2.2 x hx
/-- z, which has no link, hung behind the last -/
theorem li_app {b : Nat} {L : Nat → Int32} (hb : 64 ≤ b) (hB : b ≤ 448) {z : Nat} (hz : z < 64) : ∀ (l : List Nat) (i : Nat), li_ch b L i l → z ∉ i :: l → L z = 0 → li_ch b (upd L (li_last i l) (nI (b + z))) i (l ++ [z]) := by
  intro l
  induction l with
  | nil =>
    intro i _ hn h0
    refine ⟨pk_us, hz, ?_⟩
    show upd L i (nI (b + z)) z = 0
    rw [pk_un (fun e => hn (by simp [e])), h0]
  | cons j r ih =>
    intro i h hn h0
    have hi : i ∉ j :: r := li_self hb hB h
    refine ⟨?_, h.2.1, ih j h.2.2 (fun hh => hn (List.mem_cons_of_mem _ hh)) h0⟩
    show upd L (li_last j r) (nI (b + z)) i = nI (b + j)
    rw [pk_un (show i ≠ li_last j r from fun e => hi (e ▸ li_lastM r j))]
    exact h.1
/-- cut ahead of x -/
theorem li_cut {b : Nat} {L : Nat → Int32} (hb : 64 ≤ b) (hB : b ≤ 448) {x : Nat} {post : List Nat} : ∀ (pre : List Nat) (i : Nat), li_ch b L i (pre ++ x :: post) → li_ch b (upd L (li_last i pre) 0) i pre ∧ L (li_last i pre) = nI (b + x) ∧ li_ch b L x post := by
  intro pre
  induction pre with
  | nil => intro i h; exact ⟨pk_us, h.1, h.2.2⟩
  | cons j r ih =>
    intro i h
    have h' : L i = nI (b + j) ∧ j < 64 ∧ li_ch b L j (r ++ x :: post) := h
    obtain ⟨a, c, d⟩ := ih j h'.2.2
    refine ⟨⟨?_, h'.2.1, a⟩, c, d⟩
    have hi : i ∉ j :: (r ++ x :: post) := li_self hb hB h
    show upd L (li_last j r) 0 i = nI (b + j)
    rw [pk_un (fun e => hi ?_)]
    · exact h'.1
    · rw [e]
      rcases List.mem_cons.mp (li_lastM r j) with e' | m
      · rw [e']; exact List.mem_cons_self
      · exact List.mem_cons_of_mem _ (List.mem_append_left _ m)
/-- x taken out -/
theorem li_del {b : Nat} {L : Nat → Int32} {x : Nat} {post : List Nat} : ∀ (pre : List Nat) (i : Nat), (i :: (pre ++ x :: post)).Nodup → li_ch b L i (pre ++ x :: post) → li_ch b (upd (upd L (li_last i pre) (L x)) x 0) i (pre ++ post) := by
  intro pre
  induction pre with
  | nil =>
    intro i n h
    have n1 := List.nodup_cons.mp n
    have n2 := List.nodup_cons.mp n1.2
    refine li_cg post x i ?_ (fun y hy => ?_) h.2.2
    · show upd (upd L i (L x)) x 0 i = L x
      rw [pk_un (fun e => n1.1 (by simp [e])), pk_us]
    · show upd (upd L i (L x)) x 0 y = L y
      rw [pk_un (show y ≠ x from fun e => n2.1 (e ▸ hy)), pk_un (show y ≠ i from fun e => n1.1 (e ▸ List.mem_cons_of_mem _ hy))]
  | cons j r ih =>
    intro i n h
    have n1 := List.nodup_cons.mp n
    have h' : L i = nI (b + j) ∧ j < 64 ∧ li_ch b L j (r ++ x :: post) := h
    refine ⟨?_, h'.2.1, ih j n1.2 h'.2.2⟩
    show upd (upd L (li_last j r) (L x)) x 0 i = nI (b + j)
    have m1 : li_last j r ∈ j :: r ++ x :: post := List.mem_append_left _ (li_lastM r j)
    rw [pk_un (show i ≠ x from fun e => n1.1 (e ▸ List.mem_append_right _ List.mem_cons_self)), pk_un (show i ≠ li_last j r from fun e => n1.1 (e ▸ m1))]
    exact h'.1
/-- how many below n -/
def nb_n (p : Nat → Bool) : Nat → Nat
  | 0 => 0
  | n + 1 => nb_n p n + (if p n = true then 1 else 0)
theorem nb_ext {p q : Nat → Bool} : ∀ n, (∀ i, i < n → q i = p i) → nb_n q n = nb_n p n := by
  intro n
  induction n with
  | zero => intro _; rfl
  | succ n ih =>
    intro h
    show nb_n q n + _ = nb_n p n + _
    rw [ih fun i hi => h i (by omega), h n (by omega)]
theorem nb_set {p q : Nat → Bool} {i : Nat} (h0 : p i = false) (h1 : q i = true) (hn : ∀ j, j ≠ i → q j = p j) : ∀ n, i < n → nb_n q n = nb_n p n + 1 := by
  intro n
  induction n with
  | zero => intro h; omega
  | succ n ih =>
    intro h
    show nb_n q n + _ = nb_n p n + _ + 1
    by_cases e : n = i
    · rw [nb_ext (p := p) (q := q) n fun j hj => hn j (by omega), e, h0, h1]
      simp
    · rw [ih (by omega), hn n e]
      omega
theorem nb_len (k v m : Nat → Int32) : ∀ n, (ct_con (ct_sl k v m) n).length = nb_n (fun i => decide (m i = 1)) n := by
  intro n
  induction n with
  | zero => rfl
  | succ n ih =>
    show ((ct_sl k v m n).toList ++ ct_con (ct_sl k v m) n).length = nb_n _ n + _
    rw [List.length_append, ih]
    by_cases e : m n = 1
    · rw [ct_sl1 e]; simp [e]; omega
    · rw [ct_sl0 e]; simp [e]
section
variable {fh w : Int32} {K V M L P Q : Nat → Int32}
theorem li_fl {post : Int32 → Prop} {c : Int32} {b : Nat} (hb : 64 ≤ b) (hB : b ≤ 448) (hf : ∀ i, i < 64 → rg_r b M i = 1 → rg_r b K i = c → post (nI (b + i))) :
    ∀ (l : List Nat) (s n j : Nat), s < 64 → li_ch b (rg_r b L) s l → j + l.length ≤ 32 → l.length < n → ((∀ x, x ∈ s :: l → ¬ (rg_r b M x = 1 ∧ rg_r b K x = c)) → post (-1)) → wX_findLinked_14 post c fh w K V M L P Q n (nI (b + s)) (nI j) := by
  intro l
  induction l with
  | nil =>
    intro s n j hs h hj hn hno
    obtain ⟨n, rfl⟩ : ∃ n', n = n' + 1 := ⟨n - 1, by simp at hn; omega⟩
    have hj' : j ≤ 32 := by simpa using hj
    refine pk_lt 32 j (fun h5 => absurd h5 (by omega)) (fun h5 => hw_holds rfl hs hB (fun a d => br_f (by decide) (hf s hs a d)) (fun z => br_t rfl ?_))
    refine hw_next (q := b + s) (j := 0) rfl (by omega) (by rw [← rg_at (b := b) (a := L) hs]; exact h) (by decide) (br_t rfl (hno fun x hx => ?_))
    have e : x = s := by simpa using hx
    rw [e]; exact z
  | cons y r ih =>
    intro s n j hs h hj hn hno
    rw [List.length_cons] at hj hn
    obtain ⟨n, rfl⟩ : ∃ n', n = n' + 1 := ⟨n - 1, by omega⟩
    refine pk_lt 32 j (fun h5 => absurd h5 (by omega)) (fun h5 => hw_holds rfl hs hB (fun a d => br_f (by decide) (hf s hs a d)) (fun z => br_t rfl ?_))
    have hy := h.2.1
    refine hw_next (q := b + s) (j := b + y) rfl (by omega) (by rw [← rg_at (b := b) (a := L) hs]; exact h.1) (by omega) (br_f (nI_ne0 (by omega) (by omega)) (nm_r (nI_1 _) ?_))
    refine ih y n (j + 1) hy h.2.2 (by omega) (by omega) (fun g => hno fun x hx => ?_)
    rcases List.mem_cons.mp hx with e | hx
    · rw [e]; exact z
    · exact g x hx
theorem li_find {post : Int32 → Prop} {c : Int32} {e : Nat} {l : List Nat} (he : 1 ≤ e) (he8 : e < 8) (hc : li_ch (64 * e) (rg_r (64 * e) L) (hm_h w c) l) (hlen : l.length ≤ 32)
    (hin : ∀ x, x < 64 → rg_r (64 * e) M x = 1 → rg_r (64 * e) K x = c → x ∈ hm_h w c :: l) (F : fd_ok (64 * e) K M c post) : wpX_findLinked post (fh, w, K, V, M, L, P, Q) (nI e) c := by
  have hh := hm_lt w c
  unfold wpX_findLinked
  dsimp only
  refine hw_home (nm_r (e' := nI (64 * e + hm_h w c)) ?_ ⟨33, ?_⟩)
  · rw [show nI e * 64 = nI (64 * e) from (pk_mul e 64).trans (congrArg nI (by omega)), nI_add]
  · refine li_fl (by omega) (by omega) F.1 l (hm_h w c) 33 0 (by omega) hc (by omega) (by omega) (fun g => F.2 fun i hi a d => ?_)
    exact g i (hin i hi a d) ⟨a, d⟩
/-- the slot that links to x -/
theorem li_to {post : Int32 → Prop} {b x : Nat} {po : List Nat} (hb : 64 ≤ b) (hB : b ≤ 448) (hx : x < 64) :
    ∀ (pre : List Nat) (s n j : Nat), s < 64 → li_ch b (rg_r b L) s (pre ++ x :: po) → x ∉ pre → j + pre.length < 32 → pre.length < n → post (nI (b + li_last s pre)) →
      wX_linkingTo_26 post (nI (b + x)) fh w K V M L P Q n (nI (b + s)) (nI (li_nx b (pre ++ x :: po))) (nI j) := by
  intro pre
  induction pre with
  | nil =>
    intro s n j hs h hno hj hn hp
    obtain ⟨n, rfl⟩ : ∃ n', n = n' + 1 := ⟨n - 1, by simp at hn; omega⟩
    have hj' : j < 32 := by simpa using hj
    exact pk_le 32 j (fun h5 => absurd h5 (by omega)) (fun h5 => br_t rfl hp)
  | cons y r ih =>
    intro s n j hs h hno hj hn hp
    rw [List.length_cons] at hj hn
    obtain ⟨n, rfl⟩ : ∃ n', n = n' + 1 := ⟨n - 1, by omega⟩
    have h' : rg_r b L s = nI (b + y) ∧ y < 64 ∧ li_ch b (rg_r b L) y (r ++ x :: po) := h
    have hy := h'.2.1
    have hne : y ≠ x := fun e => hno (e ▸ List.mem_cons_self)
    refine pk_le 32 j (fun h5 => absurd h5 (by omega)) (fun h5 => pk_eq (b + y) (b + x) (fun e => absurd e (by omega)) (fun _ => br_f (nI_ne0 (n := b + y) (by omega) (by omega)) ?_))
    have hd := li_hd h'.2.2
    refine hw_next (q := b + y) (j := li_nx b (r ++ x :: po)) rfl (by omega) (by rw [← rg_at (b := b) (a := L) hy]; exact hd.1) (hd.2 hB) (nm_r (nI_1 _) ?_)
    exact ih y n (j + 1) hy h'.2.2 (fun m => hno (List.mem_cons_of_mem _ m)) (by omega) (by omega) hp
/-- .. or the last, if none does -/
theorem li_none {post : Int32 → Prop} {b x : Nat} (hb : 64 ≤ b) (hB : b ≤ 448) (hx : x < 64) :
    ∀ (l : List Nat) (s n j : Nat), s < 64 → li_ch b (rg_r b L) s l → x ∉ l → j + l.length < 32 → l.length < n → post (nI (b + li_last s l)) →
      wX_linkingTo_26 post (nI (b + x)) fh w K V M L P Q n (nI (b + s)) (nI (li_nx b l)) (nI j) := by
  intro l
  induction l with
  | nil =>
    intro s n j hs h hno hj hn hp
    obtain ⟨n, rfl⟩ : ∃ n', n = n' + 1 := ⟨n - 1, by simp at hn; omega⟩
    have hj' : j < 32 := by simpa using hj
    exact pk_le 32 j (fun h5 => absurd h5 (by omega)) (fun h5 => pk_eq 0 (b + x) (fun e => absurd e (by omega)) (fun _ => br_t rfl hp))
  | cons y r ih =>
    intro s n j hs h hno hj hn hp
    rw [List.length_cons] at hj hn
    obtain ⟨n, rfl⟩ : ∃ n', n = n' + 1 := ⟨n - 1, by omega⟩
    have hy := h.2.1
    have hne : y ≠ x := fun e => hno (e ▸ List.mem_cons_self)
    refine pk_le 32 j (fun h5 => absurd h5 (by omega)) (fun h5 => pk_eq (b + y) (b + x) (fun e => absurd e (by omega)) (fun _ => br_f (nI_ne0 (n := b + y) (by omega) (by omega)) ?_))
    have hd := li_hd h.2.2
    refine hw_next (q := b + y) (j := li_nx b r) rfl (by omega) (by rw [← rg_at (b := b) (a := L) hy]; exact hd.1) (hd.2 hB) (nm_r (nI_1 _) ?_)
    exact ih y n (j + 1) hy h.2.2 (fun m => hno (List.mem_cons_of_mem _ m)) (by omega) (by omega) hp
/-- CHAINED -/
def cn_inv (w : Int32) (k m l : Nat → Int32) : Prop :=
  (∀ i, i < 64 → m i = 0 ∨ m i = 1) ∧ (∀ i, i < 32 → m i = 0) ∧ (∀ i, i < 64 → 32 ≤ i → ¬ m i = 1 → l i = 0) ∧
  (∃ T : Nat → List Nat, ∀ h, h < 32 → li_ch 320 l h (T h) ∧ ∀ x, x ∈ T h ↔ (32 ≤ x ∧ x < 64 ∧ m x = 1 ∧ hm_h w (k x) = h)) ∧
  nb_n (fun i => decide (¬ l i = 0)) 64 = nb_n (fun i => decide (m i = 1)) 64
theorem cn_len {b : Nat} {l : Nat → Int32} {t : List Nat} {h : Nat} (hb : 64 ≤ b) (hB : b ≤ 448) (hc : li_ch b l h t) (hm : ∀ x, x ∈ t → 32 ≤ x) : t.length ≤ 32 := by
  have n := (List.nodup_cons.mp (li_nd hb hB t h hc)).2
  have s : t ⊆ (List.range 32).map (· + 32) := by
    intro x hx
    have h1 := hm x hx
    have h2 := li_lt64 t h hc x hx
    exact List.mem_map.mpr ⟨x - 32, List.mem_range.mpr (by omega), by omega⟩
  have := n.length_le_of_subset s
  simpa using this
theorem cn_find {post : Int32 → Prop} {c : Int32} (I : cn_inv w (rg_r 320 K) (rg_r 320 M) (rg_r 320 L)) (F : fd_ok 320 K M c post) : wpX_findLinked post (fh, w, K, V, M, L, P, Q) (nI 5) c := by
  obtain ⟨i1, i2, i3, ⟨T, i4⟩, i5⟩ := I
  have hh := hm_lt w c
  obtain ⟨c1, c2⟩ := i4 _ hh
  refine li_find (e := 5) (by decide) (by decide) c1 (cn_len (by decide) (by decide) c1 fun x hx => ((c2 x).mp hx).1) (fun x hx a d => List.mem_cons_of_mem _ ((c2 x).mpr ⟨?_, hx, a, ?_⟩)) F
  · rcases Nat.lt_or_ge x 32 with q | q
    · exfalso
      have : rg_r 320 M x = 0 := i2 x q
      have a' : rg_r 320 M x = 1 := a
      rw [this] at a'
      exact absurd a' (by decide)
    · exact q
  · have d' : rg_r 320 K x = c := d
    rw [d']
theorem cn_insert {post : SX → Prop} {c v : Int32} {ml : List (Int32 × Int32)} (I : cn_inv w (rg_r 320 K) (rg_r 320 M) (rg_r 320 L)) (hl : ml.length < 32)
    (hp : List.Perm (cc_c (rg_r 320 K) (rg_r 320 V) (rg_r 320 M)) ml)
    (F : kn_k 320 (fun k m l => cn_inv w k m l) ((c, v) :: ml) fh w K V M L P Q post) : wpX_insertChained post (fh, w, K, V, M, L, P, Q) c v := by
  have hh := hm_lt w c
  obtain ⟨i1, i2, i3, ⟨T, i4⟩, i5⟩ := I
  unfold wpX_insertChained
  dsimp only
  refine hw_home (nm_r (e' := nI (320 + hm_h w c)) (nI_add 320 _) (hw_room (e := 5) (by decide) rfl (cc_room (k := rg_r 320 K) (v := rg_r 320 V) (m := rg_r 320 M) 32 (by omega) (by rw [hp.length_eq]; exact hl)) (fun x h1 h2 h3 => hw_hold (q := 320 + x) rfl (by omega) ?_)))
  have hh6 : hm_h w c < 64 := by omega
  have h3' : ¬ rg_r 320 M x = 1 := h3
  refine ⟨vp_in_nI (by omega) (by decide), vp_in_nI (by omega) (by decide), nm_r (e' := upd L (320 + x) (L (320 + hm_h w c))) ?_ ⟨vp_in_nI (by omega) (by decide), nm_r (e' := upd (upd L (320 + x) (L (320 + hm_h w c))) (320 + hm_h w c) (nI (320 + x))) ?_ ?_⟩⟩
  · rw [nI_clamp (n := 64 * 5 + x) (by omega), nI_clamp (n := 320 + hm_h w c) (by omega)]
  · rw [nI_clamp (n := 320 + hm_h w c) (by omega)]
  refine F _ _ _ _ (fr_u fr_r h2) (fr_u fr_r h2) (fr_u fr_r h2) (fr_u (fr_u fr_r h2) hh6) ?_ ?_
  · rw [rg_upd h2, rg_upd h2, rg_upd hh6, rg_upd h2, ← rg_at (b := 320) (a := L) hh6]
    have lx : rg_r 320 L x = 0 := i3 x h2 h1 h3'
    have hxh : x ≠ hm_h w c := by omega
    have unch : ∀ y, y ≠ x → y ≠ hm_h w c → upd (upd (rg_r 320 L) x (rg_r 320 L (hm_h w c))) (hm_h w c) (nI (320 + x)) y = rg_r 320 L y := fun y e1 e2 => by rw [pk_un e2, pk_un e1]
    have atx : upd (upd (rg_r 320 L) x (rg_r 320 L (hm_h w c))) (hm_h w c) (nI (320 + x)) x = rg_r 320 L (hm_h w c) := by rw [pk_un hxh, pk_us]
    have notin : ∀ h, h < 32 → x ∉ T h := fun h hh' z => h3' (((i4 h hh').2 x).mp z).2.2.1
    refine ⟨fun i hi => ?_, fun i hi => ?_, fun i hi hi2 a => ?_, ⟨fun h => if h = hm_h w c then x :: T h else T h, fun h hh' => ?_⟩, ?_⟩
    · by_cases e : i = x
      · rw [e, pk_us]; exact .inr rfl
      · rw [pk_un e]; exact i1 i hi
    · rw [pk_un (by omega)]; exact i2 i hi
    · have e : i ≠ x := fun e => a (by rw [e, pk_us])
      rw [pk_un e] at a
      rw [unch i e (by omega)]
      exact i3 i hi hi2 a
    · dsimp only
      obtain ⟨c1, c2⟩ := i4 h hh'
      by_cases e : h = hm_h w c
      · rw [if_pos e]
        constructor
        · refine ⟨?_, h2, li_cg (T h) h x ?_ (fun y hy => ?_) c1⟩
          · rw [e, pk_us]
          · rw [atx, e]
          · have := ((c2 y).mp hy).1
            exact unch y (fun e' => notin h hh' (e' ▸ hy)) (by omega)
        · intro y
          rw [List.mem_cons, c2]
          by_cases ey : y = x
          · rw [ey, pk_us, pk_us]
            exact ⟨fun _ => ⟨h1, h2, rfl, e.symm⟩, fun _ => .inl rfl⟩
          · rw [pk_un ey, pk_un ey]
            exact ⟨fun z => z.resolve_left ey, fun z => .inr z⟩
      · rw [if_neg e]
        constructor
        · refine li_cg (T h) h h (unch h (by omega) e) (fun y hy => ?_) c1
          have := ((c2 y).mp hy).1
          exact unch y (fun e' => notin h hh' (e' ▸ hy)) (by omega)
        · intro y
          rw [c2]
          by_cases ey : y = x
          · rw [ey, pk_us, pk_us]
            exact ⟨fun z => absurd z.2.2.1 h3', fun z => absurd z.2.2.2.symm e⟩
          · rw [pk_un ey, pk_un ey]
    · have hM := nb_set (p := fun i => decide (rg_r 320 M i = 1)) (q := fun i => decide (upd (rg_r 320 M) x 1 i = 1)) (i := x) (by simp [h3']) (by simp [pk_us]) (fun j hj => by rw [pk_un hj]) 64 h2
      rw [hM, ← i5]
      have n0 : ¬ nI (320 + x) = 0 := nI_ne0 (by omega) (by omega)
      by_cases z : rg_r 320 L (hm_h w c) = 0
      · refine nb_set (i := hm_h w c) ?_ ?_ (fun j hj => ?_) 64 hh6
        · simp [z]
        · simp [pk_us, n0]
        · try dsimp only
          rw [pk_un hj]
          by_cases ej : j = x
          · rw [ej, pk_us, z, lx]
          · rw [pk_un ej]
      · refine nb_set (i := x) ?_ ?_ (fun j hj => ?_) 64 h2
        · simp [lx]
        · rw [atx]; simp [z]
        · try dsimp only
          by_cases ej : j = hm_h w c
          · rw [ej, pk_us]; simp [n0, z]
          · rw [unch j hj ej]
  · rw [rg_upd h2, rg_upd h2, rg_upd h2]
    exact (cc_hold h2 h3').trans (hp.cons _)
theorem cn_take {post : SX → Prop} {x : Nat} {ml : List (Int32 × Int32)} (hx : x < 64) (hh : rg_r 320 M x = 1) (I : cn_inv w (rg_r 320 K) (rg_r 320 M) (rg_r 320 L)) (n : ct_nd ml)
    (pm : List.Perm (cc_c (rg_r 320 K) (rg_r 320 V) (rg_r 320 M)) ml)
    (F : kn_k 320 (fun k m l => cn_inv w k m l) (ct_er (rg_r 320 K x) ml) fh w K V M L P Q post) : wpX_takeChained post (fh, w, K, V, M, L, P, Q) (nI (320 + x)) := by
  obtain ⟨i1, i2, i3, ⟨T, i4⟩, i5⟩ := I
  have hk := hm_lt w (rg_r 320 K x)
  have hx32 : 32 ≤ x := by
    rcases Nat.lt_or_ge x 32 with q | q
    · rw [i2 x q] at hh; exact absurd hh (by decide)
    · exact q
  obtain ⟨c1, c2⟩ := i4 _ hk
  have hin : x ∈ T (hm_h w (rg_r 320 K x)) := (c2 x).mpr ⟨hx32, hx, hh, rfl⟩
  have tlen := cn_len (by decide) (by decide) c1 fun y hy => ((c2 y).mp hy).1
  have tnd := li_nd (by decide) (by decide) _ _ c1
  obtain ⟨pre, po, et⟩ := List.append_of_mem hin
  rw [et] at c1 tlen tnd
  generalize eh : hm_h w (rg_r 320 K x) = h at *
  have hpre : x ∉ pre := by
    intro z
    have := (List.nodup_cons.mp tnd).2
    rw [List.nodup_append] at this
    exact this.2.2 x z x List.mem_cons_self rfl
  have hlast : li_last h pre < 64 := by
    rcases List.mem_cons.mp (li_lastM pre h) with e | e
    · omega
    · exact li_lt64 _ _ c1 _ (List.mem_append_left _ e)
  have hcut := (li_cut (by decide) (by decide) pre h c1).2.1
  unfold wpX_takeChained
  dsimp only
  unfold wpX_linkingTo
  dsimp only
  refine ⟨vp_in_nI (by omega) (by decide), ?_⟩
  rw [nI_clamp (n := 320 + x) (by omega), ← rg_at (b := 320) (a := K) hx]
  refine hw_home (nm_r (e' := nI (320 + h)) ?_ ?_)
  · rw [eh]
    exact nI_add 320 _
  have hd := li_hd c1
  have hlx : x ≠ li_last h pre := by
    intro e
    rcases List.mem_cons.mp (li_lastM pre h) with q | q
    · omega
    · exact hpre (e ▸ q)
  refine hw_next (q := 320 + h) (j := li_nx 320 (pre ++ x :: po)) rfl (by omega) (by rw [← rg_at (b := 320) (a := L) (by omega)]; exact hd.1) (hd.2 (by decide)) ⟨33, ?_⟩
  have hlen : pre.length < 32 := by
    rw [List.length_append, List.length_cons] at tlen
    omega
  refine li_to (by decide) (by decide) hx pre h 33 0 (by omega) c1 hpre (by omega) (by omega) ?_
  refine ⟨vp_in_nI (by omega) (by decide), vp_in_nI (by omega) (by decide), nm_r (e' := upd L (320 + li_last h pre) (L (320 + x))) ?_ (hw_release (q := 320 + x) rfl (by omega) ?_)⟩
  · rw [nI_clamp (n := 320 + li_last h pre) (by omega)]
  refine F _ _ _ _ fr_r fr_r (fr_u fr_r hx) (fr_u (fr_u fr_r hlast) hx) ?_ ?_
  · rw [rg_upd hx, rg_upd hx, rg_upd hlast, ← rg_at (b := 320) (a := L) hx]
    have unch : ∀ y, y ≠ x → y ≠ li_last h pre → upd (upd (rg_r 320 L) (li_last h pre) (rg_r 320 L x)) x 0 y = rg_r 320 L y := fun y e1 e2 => by rw [pk_un e1, pk_un e2]
    have n0 : ¬ nI (320 + x) = 0 := nI_ne0 (by omega) (by omega)
    refine ⟨fun i hi => ?_, fun i hi => ?_, fun i hi hi2 a => ?_, ⟨fun h' => if h' = h then pre ++ po else T h', fun h' hh' => ?_⟩, ?_⟩
    · by_cases e : i = x
      · rw [e, pk_us]; exact .inl rfl
      · rw [pk_un e]; exact i1 i hi
    · rw [pk_un (by omega)]; exact i2 i hi
    · by_cases e : i = x
      · rw [e, pk_us]
      · rw [pk_un e] at a
        rw [unch i e ?_]
        · exact i3 i hi hi2 a
        · intro e2
          rcases List.mem_cons.mp (li_lastM pre h) with q | q
          · omega
          · exact a (((c2 i).mp (by rw [et, e2]; exact List.mem_append_left _ q)).2.2.1)
    · dsimp only
      by_cases e : h' = h
      · rw [if_pos e, e]
        constructor
        · exact li_del pre h tnd c1
        · intro y
          have c2' := c2 y
          rw [et] at c2'
          have hnd := (List.nodup_cons.mp tnd).2
          rw [List.nodup_append, List.nodup_cons] at hnd
          by_cases ey : y = x
          · rw [ey, pk_us]
            constructor
            · intro z
              rcases List.mem_append.mp z with z | z
              · exact absurd z hpre
              · exact absurd z hnd.2.1.1
            · intro z
              exact absurd z.2.2.1 (by decide)
          · rw [pk_un ey, ← c2', List.mem_append, List.mem_append, List.mem_cons]
            exact ⟨fun z => z.elim .inl (fun z => .inr (.inr z)), fun z => z.elim .inl (fun z => .inr (z.resolve_left ey))⟩
      · rw [if_neg e]
        obtain ⟨d1, d2⟩ := i4 h' hh'
        have sep : ∀ y, y ∈ T h' → y ≠ x ∧ y ≠ li_last h pre := by
          intro y hy
          obtain ⟨y1, y2, y3, y4⟩ := (d2 y).mp hy
          refine ⟨fun e1 => ?_, fun e1 => ?_⟩
          · rw [e1, eh] at y4; exact e y4.symm
          · rcases List.mem_cons.mp (li_lastM pre h) with q | q
            · omega
            · have := ((c2 y).mp (by rw [et, e1]; exact List.mem_append_left _ q)).2.2.2
              exact e (y4.symm.trans this)
        constructor
        · refine li_cg (T h') h' h' (unch h' (by omega) ?_) (fun y hy => unch y (sep y hy).1 (sep y hy).2) d1
          intro e1
          rcases List.mem_cons.mp (li_lastM pre h) with q | q
          · exact e (e1.trans q)
          · have := ((c2 h').mp (by rw [et, e1]; exact List.mem_append_left _ q)).1
            omega
        · intro y
          rw [d2]
          by_cases ey : y = x
          · rw [ey, pk_us]
            exact ⟨fun z => absurd (eh.symm.trans z.2.2.2) (fun z => e z.symm), fun z => absurd z.2.2.1 (by decide)⟩
          · rw [pk_un ey]
    · have hM := nb_set (p := fun i => decide (upd (rg_r 320 M) x 0 i = 1)) (q := fun i => decide (rg_r 320 M i = 1)) (i := x) (by simp [pk_us]) (by simp [hh]) (fun j hj => by rw [pk_un hj]) 64 hx
      have hL : nb_n (fun i => decide (¬ rg_r 320 L i = 0)) 64 = nb_n (fun i => decide (¬ upd (upd (rg_r 320 L) (li_last h pre) (rg_r 320 L x)) x 0 i = 0)) 64 + 1 := by
        by_cases z : rg_r 320 L x = 0
        · refine nb_set (i := li_last h pre) ?_ ?_ (fun j hj => ?_) 64 hlast
          · try dsimp only
            rw [pk_un (Ne.symm hlx), pk_us]; simp [z]
          · simp [hcut, n0]
          · try dsimp only
            by_cases ej : j = x
            · rw [ej, pk_us, z]
            · rw [unch j ej hj]
        · refine nb_set (i := x) ?_ ?_ (fun j hj => ?_) 64 hx
          · simp [pk_us]
          · simp [z]
          · try dsimp only
            by_cases ej : j = li_last h pre
            · rw [ej, pk_un (Ne.symm hlx), pk_us, hcut]; simp [n0, z]
            · rw [unch j hj ej]
      omega
  · rw [rg_upd hx]
    exact cc_take hx hh (by decide) n pm
end
end
section
/-! COALESCED: paths of links through the homes; T: a cut-off tail that waits to be inserted anew -/
def co_ho (w : Int32) (k : Nat → Int32) : List Nat → List Nat → Prop
  | _, [] => True
  | acc, y :: r => hm_h w (k y) ∈ acc ∧ co_ho w k (y :: acc) r
def co_path (w : Int32) (k l : Nat → Int32) (p : List Nat) : Prop := ∃ h r, p = h :: r ∧ li_ch 384 l h r ∧ hm_h w (k h) = h ∧ co_ho w k [h] r
def co_T (l : Nat → Int32) : List Nat → Prop
  | [] => True
  | t :: r => li_ch 384 l t r
def co_st (w : Int32) (k m l : Nat → Int32) (PS : List (List Nat)) (T : List Nat) : Prop :=
  (∀ i, i < 64 → m i = 0 ∨ m i = 1) ∧ (∀ i, 32 ≤ i → i < 64 → m i = 0) ∧ (∀ i, i < 64 → ¬ m i = 1 → l i = 0) ∧
  (∀ p, p ∈ PS → co_path w k l p) ∧ (PS.flatten ++ T).Nodup ∧ (∀ x, x ∈ PS.flatten ++ T ↔ x < 32 ∧ m x = 1) ∧ co_T l T ∧ T.Pairwise (fun y y' => hm_h w (k y) ≠ y')
def co_inv (w : Int32) (k m l : Nat → Int32) : Prop := ∃ PS, co_st w k m l PS []
theorem co_hc {w : Int32} {k k' : Nat → Int32} : ∀ (r acc : List Nat), (∀ y, y ∈ r → k' y = k y) → co_ho w k acc r → co_ho w k' acc r := by
  intro r
  induction r with
  | nil => intro _ _ _; trivial
  | cons y r ih =>
    intro acc e h
    refine ⟨?_, ih _ (fun z hz => e z (List.mem_cons_of_mem _ hz)) h.2⟩
    rw [e y List.mem_cons_self]; exact h.1
theorem co_pc {w : Int32} {k k' l l' : Nat → Int32} {p : List Nat} (ek : ∀ y, y ∈ p → k' y = k y) (el : ∀ y, y ∈ p → l' y = l y) (h : co_path w k l p) : co_path w k' l' p := by
  obtain ⟨h0, r, e, c, hh, ho⟩ := h
  subst e
  refine ⟨h0, r, rfl, li_cg r h0 h0 (el h0 List.mem_cons_self) (fun y hy => el y (List.mem_cons_of_mem _ hy)) c, ?_, co_hc r _ (fun y hy => ek y (List.mem_cons_of_mem _ hy)) ho⟩
  rw [ek h0 List.mem_cons_self]; exact hh
theorem co_ha {w : Int32} {k : Nat → Int32} {z : Nat} : ∀ (r acc : List Nat), co_ho w k acc r → (hm_h w (k z) ∈ acc ∨ hm_h w (k z) ∈ r) → co_ho w k acc (r ++ [z]) := by
  intro r
  induction r with
  | nil =>
    intro acc _ h
    exact ⟨h.resolve_right List.not_mem_nil, trivial⟩
  | cons y r ih =>
    intro acc h hz
    refine ⟨h.1, ih _ h.2 ?_⟩
    rcases hz with q | q
    · exact .inl (List.mem_cons_of_mem _ q)
    · rcases List.mem_cons.mp q with e | q
      · exact .inl (e ▸ List.mem_cons_self)
      · exact .inr q
theorem co_hp {w : Int32} {k : Nat → Int32} {po : List Nat} : ∀ (pre acc : List Nat), co_ho w k acc (pre ++ po) → co_ho w k acc pre := by
  intro pre
  induction pre with
  | nil => intro _ _; trivial
  | cons y r ih => intro acc h; exact ⟨h.1, ih _ h.2⟩
/-- a key's home stands ahead of it -/
theorem co_hb {w : Int32} {k : Nat → Int32} {x : Nat} {po : List Nat} : ∀ (pre acc : List Nat), co_ho w k acc (pre ++ x :: po) → hm_h w (k x) ∈ acc ∨ hm_h w (k x) ∈ pre := by
  intro pre
  induction pre with
  | nil => intro acc h; exact .inl h.1
  | cons y r ih =>
    intro acc h
    rcases ih _ h.2 with q | q
    · rcases List.mem_cons.mp q with e | q
      · exact .inr (e ▸ List.mem_cons_self)
      · exact .inl q
    · exact .inr (List.mem_cons_of_mem _ q)
theorem co_pw {w : Int32} {k : Nat → Int32} : ∀ (r acc : List Nat), co_ho w k acc r → (acc ++ r).Nodup → r.Pairwise (fun y y' => hm_h w (k y) ≠ y') := by
  intro r
  induction r with
  | nil => intro _ _ _; exact List.Pairwise.nil
  | cons y r ih =>
    intro acc h n
    refine List.Pairwise.cons (fun y' hy' e => ?_) (ih (y :: acc) h.2 ?_)
    · have n' := (List.nodup_append.mp n).2.2
      exact n' _ h.1 y' (List.mem_cons_of_mem _ hy') e
    · exact (List.perm_middle (l₁ := acc) (a := y) (l₂ := r)).nodup n
theorem co_pm (A C po : List Nat) (x : Nat) : List.Perm (A ++ (x :: (po ++ C))) (x :: ((A ++ C) ++ po)) := by
  refine List.perm_middle.trans (List.Perm.cons x ?_)
  rw [List.append_assoc]
  exact List.perm_append_comm.append_left A
/-- what is on a path is held, and below 32 -/
theorem co_mem {w : Int32} {k m l : Nat → Int32} {PS : List (List Nat)} {T p : List Nat} (S : co_st w k m l PS T) (hp : p ∈ PS) {x : Nat} (hx : x ∈ p) : x < 32 ∧ m x = 1 :=
  (S.2.2.2.2.2.1 x).mp (List.mem_append_left _ (List.mem_flatten.mpr ⟨p, hp, hx⟩))
theorem co_at {w : Int32} {k m l : Nat → Int32} {PS : List (List Nat)} {T : List Nat} (S : co_st w k m l PS T) {x : Nat} (hx : x < 32) (h : m x = 1) (hT : x ∉ T) : ∃ p, p ∈ PS ∧ x ∈ p :=
  List.mem_flatten.mp ((List.mem_append.mp ((S.2.2.2.2.2.1 x).mpr ⟨hx, h⟩)).resolve_right hT)
theorem co_len {l : Nat → Int32} {r : List Nat} {h : Nat} (c : li_ch 384 l h r) (hh : h < 32) (hr : ∀ x, x ∈ r → x < 32) : r.length ≤ 31 := by
  have n := li_nd (by decide) (by decide) r h c
  have s : h :: r ⊆ List.range 32 := by
    intro x hx
    rcases List.mem_cons.mp hx with e | hx
    · rw [e]; exact List.mem_range.mpr hh
    · exact List.mem_range.mpr (hr x hx)
  have := n.length_le_of_subset s
  rw [List.length_cons, List.length_range] at this
  omega
/-- the list from a home -/
theorem co_from {w : Int32} {k m l : Nat → Int32} {PS : List (List Nat)} {T : List Nat} (S : co_st w k m l PS T) {h : Nat} (hh : h < 32) (hm : m h = 1) (hT : h ∉ T) :
    ∃ p A B, p ∈ PS ∧ p = A ++ h :: B ∧ li_ch 384 l h B ∧ B.length ≤ 31 ∧ ∀ x, x ∈ B → x < 32 ∧ m x = 1 := by
  obtain ⟨p, hp, hx⟩ := co_at S hh hm hT
  obtain ⟨h0, r, e, c, _, _⟩ := S.2.2.2.1 p hp
  subst e
  obtain ⟨A, B, e2, c2⟩ := li_suf r h0 h c hx
  have hB : ∀ x, x ∈ B → x < 32 ∧ m x = 1 := fun x hx => co_mem S hp (by rw [e2]; exact List.mem_append_right _ (List.mem_cons_of_mem _ hx))
  exact ⟨_, A, B, hp, e2, c2, co_len c2 hh fun x hx => (hB x hx).1, hB⟩
theorem co_list {w : Int32} {k m l : Nat → Int32} {PS : List (List Nat)} (S : co_st w k m l PS []) {h : Nat} (hh : h < 32) :
    ∃ B, li_ch 384 l h B ∧ B.length ≤ 31 ∧ ∀ x, x < 64 → m x = 1 → hm_h w (k x) = h → x ∈ h :: B := by
  have main : ∀ x, x < 64 → m x = 1 → hm_h w (k x) = h → m h = 1 ∧ ∃ B, li_ch 384 l h B ∧ x ∈ h :: B := by
    intro x hx a e
    have hx3 : x < 32 := by
      rcases Nat.lt_or_ge x 32 with q | q
      · exact q
      · rw [S.2.1 x q hx] at a; exact absurd a (by decide)
    obtain ⟨p, hp, hxp⟩ := co_at S hx3 a List.not_mem_nil
    obtain ⟨h0, r, ep, c, c0, ho⟩ := S.2.2.2.1 p hp
    subst ep
    rcases List.mem_cons.mp hxp with q | q
    · have e0 : h0 = h := by rw [← c0, ← q]; exact e
      subst e0
      exact ⟨by rw [← q]; exact a, r, c, hxp⟩
    · obtain ⟨pre, po, er⟩ := List.append_of_mem q
      have hb : h ∈ h0 :: pre := by
        rw [er] at ho
        rcases co_hb pre [h0] ho with z | z
        · rw [e] at z
          have : h = h0 := by simpa using z
          rw [this]; exact List.mem_cons_self
        · rw [e] at z; exact List.mem_cons_of_mem _ z
      have hhp : h ∈ h0 :: r := by
        rw [er]
        rcases List.mem_cons.mp hb with z | z
        · rw [z]; exact List.mem_cons_self
        · exact List.mem_cons_of_mem _ (List.mem_append_left _ z)
      refine ⟨(co_mem S hp hhp).2, ?_⟩
      obtain ⟨A, B, e2, c2⟩ := li_suf r h0 h c hhp
      refine ⟨B, c2, ?_⟩
      -- x comes at or behind h
      obtain ⟨A', B', e3⟩ := List.append_of_mem hb
      have e4 : h0 :: r = A' ++ h :: (B' ++ x :: po) := by
        rw [er, show h0 :: (pre ++ x :: po) = (h0 :: pre) ++ x :: po from rfl, e3, List.append_assoc]
        rfl
      have e5 : ∀ (A1 A2 B1 B2 : List Nat), (A1 ++ h :: B1).Nodup → A1 ++ h :: B1 = A2 ++ h :: B2 → B1 = B2 := by
        intro A1
        induction A1 with
        | nil =>
          intro A2 B1 B2 n e
          cases A2 with
          | nil => injection e
          | cons a A2 =>
            injection e with e6 e7
            have e7' : B1 = A2 ++ h :: B2 := e7
            have := (List.nodup_cons.mp n).1
            rw [e7'] at this
            exact absurd (List.mem_append_right _ List.mem_cons_self) this
        | cons a A1 ih =>
          intro A2 B1 B2 n e
          cases A2 with
          | nil =>
            injection e with e6 e7
            have := (List.nodup_cons.mp n).1
            rw [e6] at this
            exact absurd (List.mem_append_right _ List.mem_cons_self) this
          | cons a' A2 =>
            injection e with e6 e7
            exact ih A2 B1 B2 (List.nodup_cons.mp n).2 e7
      have nd := li_nd (by decide) (by decide) r h0 c
      have e8 := e5 A A' B (B' ++ x :: po) (by rw [← e2]; exact nd) (e2.symm.trans e4)
      rw [e8]
      exact List.mem_cons_of_mem _ (List.mem_append_right _ List.mem_cons_self)
  by_cases hm : m h = 1
  · obtain ⟨p, A, B, hp, e, c, len, hB⟩ := co_from S hh hm List.not_mem_nil
    refine ⟨B, c, len, fun x hx a d => ?_⟩
    obtain ⟨_, B', c', hx'⟩ := main x hx a d
    rw [li_det (by decide) (by decide) B B' h c c']
    exact hx'
  · exact ⟨[], S.2.2.1 h (by omega) hm, by simp, fun x hx a d => absurd (main x hx a d).1 hm⟩
/-- a new path -/
theorem co_new {w : Int32} {k m l : Nat → Int32} {PS : List (List Nat)} {T : List Nat} (S : co_st w k m l PS T) {h : Nat} {c : Int32} (hh : h < 32) (hm : ¬ m h = 1) (hc : hm_h w c = h) : co_st w (upd k h c) (upd m h 1) l ([h] :: PS) T := by
  obtain ⟨s1, s2, s3, s4, s5, s6, s7, s8⟩ := S
  have hout : h ∉ PS.flatten ++ T := fun z => hm ((s6 h).mp z).2
  have hk : ∀ y, y ∈ PS.flatten ++ T → upd k h c y = k y := fun y hy => pk_un (fun e => hout (e ▸ hy))
  refine ⟨fun i hi => ?_, fun i h1 h2 => ?_, fun i hi a => ?_, fun p hp => ?_, ?_, fun x => ?_, s7, ?_⟩
  · by_cases e : i = h
    · rw [e, pk_us]; exact .inr rfl
    · rw [pk_un e]; exact s1 i hi
  · rw [pk_un (by omega)]; exact s2 i h1 h2
  · have e : i ≠ h := fun e => a (by rw [e, pk_us])
    rw [pk_un e] at a
    exact s3 i hi a
  · rcases List.mem_cons.mp hp with e | hp
    · rw [e]
      exact ⟨h, [], rfl, s3 h (by omega) hm, by rw [pk_us]; exact hc, trivial⟩
    · exact co_pc (fun y hy => hk y (List.mem_append_left _ (List.mem_flatten.mpr ⟨p, hp, hy⟩))) (fun _ _ => rfl) (s4 p hp)
  · show (h :: (PS.flatten ++ T)).Nodup
    exact List.nodup_cons.mpr ⟨hout, s5⟩
  · show x ∈ h :: (PS.flatten ++ T) ↔ _
    rw [List.mem_cons, s6]
    by_cases e : x = h
    · rw [e, pk_us]; exact ⟨fun _ => ⟨hh, rfl⟩, fun _ => .inl rfl⟩
    · rw [pk_un e]; exact ⟨fun z => z.resolve_left e, fun z => .inr z⟩
  · refine List.Pairwise.imp_of_mem (fun {a b} ha _ hab => ?_) s8
    rw [hk a (List.mem_append_right _ ha)]; exact hab
/-- z hung behind the path of h -/
theorem co_hang {w : Int32} {k m l : Nat → Int32} {PS : List (List Nat)} {T : List Nat} (S : co_st w k m l PS T) {h z : Nat} {c : Int32} {p A B : List Nat} (hz : z < 32) (hm : ¬ m z = 1) (hc : hm_h w c = h)
    (hp : p ∈ PS) (ep : p = A ++ h :: B) : ∃ PS', co_st w (upd k z c) (upd m z 1) (upd l (li_last h B) (nI (384 + z))) PS' T := by
  obtain ⟨PS1, PS2, ePS⟩ := List.append_of_mem hp
  have S0 := S
  obtain ⟨s1, s2, s3, s4, s5, s6, s7, s8⟩ := S
  have hout : z ∉ PS.flatten ++ T := fun y => hm ((s6 z).mp y).2
  have hk : ∀ y, y ∈ PS.flatten ++ T → upd k z c y = k y := fun y hy => pk_un (fun e => hout (e ▸ hy))
  obtain ⟨h0, r, er, c1, c2, c3⟩ := s4 p hp
  have elast : li_last h B = li_last h0 r := by
    have key : ∀ (A : List Nat) (h0 : Nat) (r : List Nat), h0 :: r = A ++ h :: B → li_last h0 r = li_last h B := by
      intro A
      induction A with
      | nil => intro h0 r e; injection e with e1 e2; rw [e1, e2]
      | cons a A ih =>
        intro h0 r e
        injection e with e1 e2
        cases r with
        | nil =>
          have := congrArg List.length e2
          simp at this
        | cons y r => exact ih y r e2
    exact (key A h0 r (er.symm.trans ep)).symm
  have hlp : li_last h B ∈ p := by rw [elast, er]; exact li_lastM r h0
  have e1 : PS.flatten ++ T = (PS1.flatten ++ p) ++ (PS2.flatten ++ T) := by rw [ePS]; simp
  have e2 : (PS1 ++ (p ++ [z]) :: PS2).flatten ++ T = (PS1.flatten ++ p) ++ z :: (PS2.flatten ++ T) := by simp
  have pm : List.Perm ((PS1 ++ (p ++ [z]) :: PS2).flatten ++ T) (z :: (PS.flatten ++ T)) := by rw [e1, e2]; exact List.perm_middle
  -- the last is on no other path and not in T
  have sep : ∀ y, (y ∈ PS1.flatten ∨ y ∈ PS2.flatten ∨ y ∈ T) → y ≠ li_last h B := by
    intro y hy e
    have n := s5
    rw [e1, List.nodup_append] at n
    have n1 := List.nodup_append.mp n.1
    rcases hy with q | q | q
    · exact n1.2.2 y q _ hlp e
    · exact n.2.2 _ (List.mem_append_right _ hlp) y (List.mem_append_left _ q) e.symm
    · exact n.2.2 _ (List.mem_append_right _ hlp) y (List.mem_append_right _ q) e.symm
  have hlh := (co_mem S0 hp hlp)
  have hzp : z ∉ h0 :: r := fun q => hm (co_mem S0 hp (by rw [er]; exact q)).2
  have l0 : l z = 0 := s3 z (by omega) hm
  have oth : ∀ q, (q ∈ PS1 ∨ q ∈ PS2) → co_path w (upd k z c) (upd l (li_last h B) (nI (384 + z))) q := by
    intro q hq
    have hq' : q ∈ PS := by
      rw [ePS]
      rcases hq with y | y
      · exact List.mem_append_left _ y
      · exact List.mem_append_right _ (List.mem_cons_of_mem _ y)
    refine co_pc (fun y hy => hk y (List.mem_append_left _ (List.mem_flatten.mpr ⟨q, hq', hy⟩))) (fun y hy => pk_un (sep y ?_)) (s4 q hq')
    rcases hq with u | u
    · exact .inl (List.mem_flatten.mpr ⟨q, u, hy⟩)
    · exact .inr (.inl (List.mem_flatten.mpr ⟨q, u, hy⟩))
  refine ⟨PS1 ++ (p ++ [z]) :: PS2, fun i hi => ?_, fun i h1 h2 => ?_, fun i hi a => ?_, fun q hq => ?_, ?_, fun x => ?_, ?_, ?_⟩
  · by_cases e : i = z
    · rw [e, pk_us]; exact .inr rfl
    · rw [pk_un e]; exact s1 i hi
  · rw [pk_un (by omega)]; exact s2 i h1 h2
  · have e : i ≠ z := fun e => a (by rw [e, pk_us])
    rw [pk_un e] at a
    rw [pk_un (fun e' : i = li_last h B => a (by rw [e']; exact hlh.2))]
    exact s3 i hi a
  · rcases List.mem_append.mp hq with q1 | q1
    · exact oth q (.inl q1)
    · rcases List.mem_cons.mp q1 with q2 | q2
      · rw [q2, er]
        have hk' : ∀ y, y ∈ h0 :: r → upd k z c y = k y := fun y hy => pk_un (fun e => hzp (e ▸ hy))
        refine ⟨h0, r ++ [z], rfl, ?_, ?_, ?_⟩
        · rw [elast]
          exact li_app (by decide) (by decide) (by omega) r h0 c1 hzp l0
        · rw [hk' h0 List.mem_cons_self]; exact c2
        · refine co_ha r [h0] (co_hc r _ (fun y hy => hk' y (List.mem_cons_of_mem _ hy)) c3) ?_
          rw [pk_us, hc]
          have : h ∈ h0 :: r := by rw [← er, ep]; exact List.mem_append_right _ List.mem_cons_self
          rcases List.mem_cons.mp this with e | e
          · left; rw [e]; exact List.mem_cons_self
          · exact .inr e
      · exact oth q (.inr q2)
  · exact pm.symm.nodup (List.nodup_cons.mpr ⟨hout, s5⟩)
  · rw [pm.mem_iff, List.mem_cons, s6]
    by_cases e : x = z
    · rw [e, pk_us]; exact ⟨fun _ => ⟨hz, rfl⟩, fun _ => .inl rfl⟩
    · rw [pk_un e]; exact ⟨fun z => z.resolve_left e, fun z => .inr z⟩
  · cases T with
    | nil => trivial
    | cons t T' =>
      exact li_cg T' t t (pk_un (sep t (.inr (.inr List.mem_cons_self)))) (fun y hy => pk_un (sep y (.inr (.inr (List.mem_cons_of_mem _ hy))))) s7
  · refine List.Pairwise.imp_of_mem (fun {a b} ha _ hab => ?_) s8
    rw [hk a (List.mem_append_right _ ha)]; exact hab
/-- the tail's first is released -/
theorem co_rel {w : Int32} {k m l : Nat → Int32} {PS : List (List Nat)} {t : Nat} {T : List Nat} (S : co_st w k m l PS (t :: T)) : co_st w k (upd m t 0) (upd l t 0) PS T := by
  obtain ⟨s1, s2, s3, s4, s5, s6, s7, s8⟩ := S
  have pm : List.Perm (PS.flatten ++ t :: T) (t :: (PS.flatten ++ T)) := List.perm_middle
  have n := List.nodup_cons.mp (pm.nodup s5)
  have ht : t < 32 := ((s6 t).mp (List.mem_append_right _ List.mem_cons_self)).1
  have sep : ∀ y, y ∈ PS.flatten ++ T → y ≠ t := fun y hy e => n.1 (e ▸ hy)
  refine ⟨fun i hi => ?_, fun i h1 h2 => ?_, fun i hi a => ?_, fun p hp => ?_, n.2, fun x => ?_, ?_, (List.pairwise_cons.mp s8).2⟩
  · by_cases e : i = t
    · rw [e, pk_us]; exact .inl rfl
    · rw [pk_un e]; exact s1 i hi
  · rw [pk_un (by omega)]; exact s2 i h1 h2
  · by_cases e : i = t
    · rw [e, pk_us]
    · rw [pk_un e] at a ⊢; exact s3 i hi a
  · exact co_pc (fun _ _ => rfl) (fun y hy => pk_un (sep y (List.mem_append_left _ (List.mem_flatten.mpr ⟨p, hp, hy⟩)))) (s4 p hp)
  · by_cases e : x = t
    · rw [e, pk_us]
      exact ⟨fun z => absurd z n.1, fun z => absurd z.2 (by decide)⟩
    · rw [pk_un e, ← s6, pm.mem_iff, List.mem_cons]
      exact ⟨fun z => .inr z, fun z => z.resolve_left e⟩
  · cases T with
    | nil => trivial
    | cons u T' =>
      refine li_cg T' u u (pk_un (sep u (List.mem_append_right _ List.mem_cons_self))) (fun y hy => pk_un (sep y (List.mem_append_right _ (List.mem_cons_of_mem _ hy)))) ?_
      exact s7.2.2
/-- a path's slot is taken: the one at its head .. -/
theorem co_cut0 {w : Int32} {k m l : Nat → Int32} {PS1 PS2 : List (List Nat)} {x : Nat} {r : List Nat} (S : co_st w k m l (PS1 ++ (x :: r) :: PS2) []) : co_st w k (upd m x 0) (upd l x 0) (PS1 ++ PS2) r := by
  have S0 := S
  obtain ⟨s1, s2, s3, s4, s5, s6, s7, s8⟩ := S
  have e0 : (PS1 ++ (x :: r) :: PS2).flatten ++ [] = PS1.flatten ++ (x :: (r ++ PS2.flatten)) := by simp
  have pm : List.Perm ((PS1 ++ (x :: r) :: PS2).flatten ++ []) (x :: ((PS1 ++ PS2).flatten ++ r)) := by
    rw [e0, List.flatten_append]; exact co_pm _ _ _ _
  have n := List.nodup_cons.mp (pm.nodup s5)
  have hx : x < 32 := ((s6 x).mp (pm.symm.subset List.mem_cons_self)).1
  have sep : ∀ y, y ∈ (PS1 ++ PS2).flatten ++ r → y ≠ x := fun y hy e => n.1 (e ▸ hy)
  have hpath : co_path w k l (x :: r) := s4 _ (List.mem_append_right _ List.mem_cons_self)
  obtain ⟨h0, r0, e, c1, c2, c3⟩ := hpath
  injection e with ea eb
  subst ea
  subst eb
  refine ⟨fun i hi => ?_, fun i h1 h2 => ?_, fun i hi a => ?_, fun p hp => ?_, n.2, fun y => ?_, ?_, ?_⟩
  · by_cases e : i = x
    · rw [e, pk_us]; exact .inl rfl
    · rw [pk_un e]; exact s1 i hi
  · rw [pk_un (by omega)]; exact s2 i h1 h2
  · by_cases e : i = x
    · rw [e, pk_us]
    · rw [pk_un e] at a ⊢; exact s3 i hi a
  · refine co_pc (fun _ _ => rfl) (fun y hy => pk_un (sep y (List.mem_append_left _ (List.mem_flatten.mpr ⟨p, hp, hy⟩)))) (s4 p ?_)
    rcases List.mem_append.mp hp with q | q
    · exact List.mem_append_left _ q
    · exact List.mem_append_right _ (List.mem_cons_of_mem _ q)
  · by_cases e : y = x
    · rw [e, pk_us]
      exact ⟨fun z => absurd z n.1, fun z => absurd z.2 (by decide)⟩
    · rw [pk_un e, ← s6, pm.mem_iff, List.mem_cons]
      exact ⟨fun z => .inr z, fun z => z.resolve_left e⟩
  · cases r with
    | nil => trivial
    | cons u T' =>
      refine li_cg T' u u (pk_un (sep u (List.mem_append_right _ List.mem_cons_self))) (fun y hy => pk_un (sep y (List.mem_append_right _ (List.mem_cons_of_mem _ hy)))) ?_
      exact c1.2.2
  · refine co_pw r [x] c3 ?_
    exact li_nd (by decide) (by decide) r x c1
/-- .. or one behind it, with the link to it cut -/
theorem co_cut1 {w : Int32} {k m l : Nat → Int32} {PS1 PS2 : List (List Nat)} {h0 x : Nat} {pre po : List Nat} (S : co_st w k m l (PS1 ++ (h0 :: (pre ++ x :: po)) :: PS2) []) : co_st w k (upd m x 0) (upd (upd l (li_last h0 pre) 0) x 0) (PS1 ++ (h0 :: pre) :: PS2) po := by
  have S0 := S
  obtain ⟨s1, s2, s3, s4, s5, s6, s7, s8⟩ := S
  have e0 : (PS1 ++ (h0 :: (pre ++ x :: po)) :: PS2).flatten ++ [] = (PS1.flatten ++ (h0 :: pre)) ++ (x :: (po ++ PS2.flatten)) := by simp
  have e1 : (PS1 ++ (h0 :: pre) :: PS2).flatten = (PS1.flatten ++ (h0 :: pre)) ++ PS2.flatten := by simp
  have pm : List.Perm ((PS1 ++ (h0 :: (pre ++ x :: po)) :: PS2).flatten ++ []) (x :: ((PS1 ++ (h0 :: pre) :: PS2).flatten ++ po)) := by
    rw [e0, e1]; exact co_pm _ _ _ _
  have n := List.nodup_cons.mp (pm.nodup s5)
  have hx : x < 32 := ((s6 x).mp (pm.symm.subset List.mem_cons_self)).1
  have sep : ∀ y, y ∈ (PS1 ++ (h0 :: pre) :: PS2).flatten ++ po → y ≠ x := fun y hy e => n.1 (e ▸ hy)
  have hpath : co_path w k l (h0 :: (pre ++ x :: po)) := s4 _ (List.mem_append_right _ List.mem_cons_self)
  obtain ⟨h0', r0, e, c1, c2, c3⟩ := hpath
  injection e with ea eb
  subst ea
  subst eb
  have hlp : li_last h0 pre ∈ h0 :: pre := li_lastM pre h0
  have n2 := n.2
  rw [e1, List.append_assoc, List.nodup_append, List.nodup_append] at n2
  have sepl : ∀ y, (y ∈ PS1.flatten ∨ y ∈ PS2.flatten ∨ y ∈ po) → y ≠ li_last h0 pre := by
    intro y hy e
    rcases hy with q | q | q
    · exact n2.1.2.2 y q _ hlp e
    · exact n2.2.2 _ (List.mem_append_right _ hlp) y (List.mem_append_left _ q) e.symm
    · exact n2.2.2 _ (List.mem_append_right _ hlp) y (List.mem_append_right _ q) e.symm
  obtain ⟨d1, d2, d3⟩ := li_cut (by decide) (by decide) pre h0 c1
  refine ⟨fun i hi => ?_, fun i h1 h2 => ?_, fun i hi a => ?_, fun p hp => ?_, n.2, fun y => ?_, ?_, ?_⟩
  · by_cases e : i = x
    · rw [e, pk_us]; exact .inl rfl
    · rw [pk_un e]; exact s1 i hi
  · rw [pk_un (by omega)]; exact s2 i h1 h2
  · by_cases e : i = x
    · rw [e, pk_us]
    · rw [pk_un e] at a ⊢
      by_cases e' : i = li_last h0 pre
      · rw [e', pk_us]
      · rw [pk_un e']; exact s3 i hi a
  · have inn : ∀ y, y ∈ p → y ∈ (PS1 ++ (h0 :: pre) :: PS2).flatten := fun y hy => List.mem_flatten.mpr ⟨p, hp, hy⟩
    rcases List.mem_append.mp hp with q | q
    · exact co_pc (fun _ _ => rfl) (fun y hy => by rw [pk_un (sep y (List.mem_append_left _ (inn y hy))), pk_un (sepl y (.inl (List.mem_flatten.mpr ⟨p, q, hy⟩)))]) (s4 p (List.mem_append_left _ q))
    · rcases List.mem_cons.mp q with q | q
      · subst q
        refine ⟨h0, pre, rfl, ?_, c2, co_hp pre _ c3⟩
        refine li_cg pre h0 h0 (pk_un (sep h0 (List.mem_append_left _ (inn h0 List.mem_cons_self)))) (fun y hy => pk_un (sep y (List.mem_append_left _ (inn y (List.mem_cons_of_mem _ hy))))) d1
      · exact co_pc (fun _ _ => rfl) (fun y hy => by rw [pk_un (sep y (List.mem_append_left _ (inn y hy))), pk_un (sepl y (.inr (.inl (List.mem_flatten.mpr ⟨p, q, hy⟩))))]) (s4 p (List.mem_append_right _ (List.mem_cons_of_mem _ q)))
  · by_cases e : y = x
    · rw [e, pk_us]
      exact ⟨fun z => absurd z n.1, fun z => absurd z.2 (by decide)⟩
    · rw [pk_un e, ← s6, pm.mem_iff, List.mem_cons]
      exact ⟨fun z => .inr z, fun z => z.resolve_left e⟩
  · cases po with
    | nil => trivial
    | cons u T' =>
      refine li_cg T' u u ?_ (fun y hy => ?_) d3.2.2
      · rw [pk_un (sep u (List.mem_append_right _ List.mem_cons_self)), pk_un (sepl u (.inr (.inr List.mem_cons_self)))]
      · rw [pk_un (sep y (List.mem_append_right _ (List.mem_cons_of_mem _ hy))), pk_un (sepl y (.inr (.inr (List.mem_cons_of_mem _ hy))))]
  · have pw := co_pw (pre ++ x :: po) [h0] c3 (li_nd (by decide) (by decide) _ h0 c1)
    exact (List.pairwise_cons.mp (List.pairwise_append.mp pw).2.1).2
end
section
/-! COALESCED: the walks -/
section
variable {fh w : Int32} {K V M L P Q : Nat → Int32}
theorem co_find {post : Int32 → Prop} {c : Int32} (I : co_inv w (rg_r 384 K) (rg_r 384 M) (rg_r 384 L)) (F : fd_ok 384 K M c post) : wpX_findLinked post (fh, w, K, V, M, L, P, Q) (nI 6) c := by
  obtain ⟨PS, S⟩ := I
  obtain ⟨B, c1, c2, c3⟩ := co_list S (hm_lt w c)
  exact li_find (e := 6) (by decide) (by decide) c1 (by omega) (fun x hx a d => c3 x hx a (by
    have d' : rg_r 384 K x = c := d
    rw [d'])) F
/-- the free slot, from the top -/
theorem co_l71 {post : SX → Prop} {c v : Int32} {la f : Nat} (hla : la < 64) (hf : f < 32) (hfm : ¬ rg_r 384 M f = 1)
    (h : ∀ z, z < 32 → ¬ rg_r 384 M z = 1 → post (fh, w, upd K (384 + z) c, upd V (384 + z) v, upd M (384 + z) 1, upd L (384 + la) (nI (384 + z)), P, Q)) :
    ∀ n i, f ≤ i → i < 32 → i < n → wX_insertCoalesced_71 post c v (nI (384 + la)) fh w K V M L P Q n (nI (384 + i)) (nI (32 - i)) := by
  have fin : ∀ z, z < 32 → ¬ rg_r 384 M z = 1 → wX_insertCoalesced_97 post c v (nI (384 + z)) (nI (384 + la)) fh w K V M L P Q := by
    intro z hz hm
    refine ⟨vp_in_nI (by omega) (by decide), nm_r (e' := upd L (384 + la) (nI (384 + z))) (by rw [nI_clamp (by omega)]) ?_⟩
    unfold wX_insertCoalesced_105
    exact hw_hold rfl (by omega) (h z hz hm)
  intro n
  induction n with
  | zero => intro i _ _ hn; omega
  | succ n ih =>
    intro i h1 h2 hn
    refine pk_le 32 (32 - i) (fun h5 => ?_) (fun h5 => ?_)
    · have e : i = f := by omega
      rw [e]; exact fin f hf hfm
    · refine ⟨vp_in_nI (by omega) (by decide), ?_⟩
      rw [nI_clamp (n := 384 + i) (by omega), ← rg_at (b := 384) (a := M) (i := i) (by omega)]
      refine br_c (fun a => ?_) (fun a => fin i h2 a)
      have e : i ≠ f := fun e => hfm (e ▸ a)
      refine nm_r (e' := nI (384 + (i - 1))) ?_ (nm_r (e' := nI (32 - (i - 1))) ?_ (ih (i - 1) (by omega) (by omega) (by omega)))
      · have := pk_m1 (384 + (i - 1))
        rw [show 384 + (i - 1) + 1 = 384 + i by omega] at this
        exact this
      · rw [nI_1]
        exact congrArg nI (by omega)
theorem co_l34 {post : SX → Prop} {c v : Int32}
    (f : Nat) (hf : f < 32) (hfm : ¬ rg_r 384 M f = 1) :
    ∀ (l : List Nat) (s n j : Nat), s < 64 → li_ch 384 (rg_r 384 L) s l → j + l.length < 32 → l.length < n →
      (∀ z, z < 32 → ¬ rg_r 384 M z = 1 → post (fh, w, upd K (384 + z) c, upd V (384 + z) v, upd M (384 + z) 1, upd L (384 + li_last s l) (nI (384 + z)), P, Q)) →
      wX_insertCoalesced_34 post c v fh w K V M L P Q n (nI (384 + s)) (nI (li_nx 384 l)) (nI j) := by
  intro l
  induction l with
  | nil =>
    intro s n j hs h hj hn hp
    obtain ⟨n, rfl⟩ : ∃ n', n = n' + 1 := ⟨n - 1, by simp at hn; omega⟩
    have hj' : j < 32 := by simpa using hj
    exact pk_le 32 j (fun h5 => absurd h5 (by omega)) (fun h5 => br_t rfl ⟨33, co_l71 hs hf hfm hp 33 31 (by omega) (by omega) (by omega)⟩)
  | cons y r ih =>
    intro s n j hs h hj hn hp
    rw [List.length_cons] at hj hn
    obtain ⟨n, rfl⟩ : ∃ n', n = n' + 1 := ⟨n - 1, by omega⟩
    have hy := h.2.1
    refine pk_le 32 j (fun h5 => absurd h5 (by omega)) (fun h5 => br_f (nI_ne0 (n := 384 + y) (by omega) (by omega)) ?_)
    have hd := li_hd h.2.2
    refine hw_next (q := 384 + y) (j := li_nx 384 r) rfl (by omega) (by rw [← rg_at (b := 384) (a := L) hy]; exact hd.1) (hd.2 (by decide)) (nm_r (nI_1 _) ?_)
    exact ih y n (j + 1) hy h.2.2 (by omega) (by omega) hp
theorem co_ins {post : SX → Prop} {c v : Int32} {PS : List (List Nat)} {T : List Nat} {ml : List (Int32 × Int32)} (S : co_st w (rg_r 384 K) (rg_r 384 M) (rg_r 384 L) PS T) (hT : hm_h w c ∉ T) (hl : ml.length < 32)
    (hp : List.Perm (cc_c (rg_r 384 K) (rg_r 384 V) (rg_r 384 M)) ml)
    (F : kn_k 384 (fun k m l => ∃ PS', co_st w k m l PS' T) ((c, v) :: ml) fh w K V M L P Q post) : wpX_insertCoalesced post (fh, w, K, V, M, L, P, Q) c v := by
  have hh := hm_lt w c
  have hh6 : hm_h w c < 64 := by omega
  unfold wpX_insertCoalesced
  dsimp only
  refine hw_home (nm_r (e' := nI (384 + hm_h w c)) (nI_add 384 _) ⟨vp_in_nI (by omega) (by decide), ?_⟩)
  rw [nI_clamp (n := 384 + hm_h w c) (by omega), ← rg_at (b := 384) (a := M) (i := hm_h w c) hh6]
  refine br_c (fun a => ?_) (fun a => ?_)
  · obtain ⟨p, A, B, hpS, ep, c1, c2, c3⟩ := co_from S hh a hT
    obtain ⟨f, f1, f2, f3⟩ := cc_room (k := rg_r 384 K) (v := rg_r 384 V) (m := rg_r 384 M) 0 (by omega) (by rw [hp.length_eq]; exact hl)
    have hd := li_hd c1
    refine hw_next (q := 384 + hm_h w c) (j := li_nx 384 B) rfl (by omega) (by rw [← rg_at (b := 384) (a := L) hh6]; exact hd.1) (hd.2 (by decide)) ⟨33, ?_⟩
    refine co_l34 f (by omega) f3 B (hm_h w c) 33 0 hh6 c1 (by omega) (by omega) (fun z hz hm => ?_)
    have hz6 : z < 64 := by omega
    have hla : li_last (hm_h w c) B < 64 := by
      rcases List.mem_cons.mp (li_lastM B (hm_h w c)) with e | e
      · omega
      · have := (c3 _ e).1
        omega
    refine F _ _ _ _ (fr_u fr_r hz6) (fr_u fr_r hz6) (fr_u fr_r hz6) (fr_u fr_r hla) ?_ ?_
    · rw [rg_upd hz6, rg_upd hz6, rg_upd hla]
      exact co_hang S hz hm rfl hpS ep
    · rw [rg_upd hz6, rg_upd hz6, rg_upd hz6]
      exact (cc_hold hz6 hm).trans (hp.cons _)
  · unfold wX_insertCoalesced_105
    refine hw_hold rfl (by omega) ?_
    refine F _ _ _ _ (fr_u fr_r hh6) (fr_u fr_r hh6) (fr_u fr_r hh6) fr_r ?_ ?_
    · rw [rg_upd hh6, rg_upd hh6]
      exact ⟨_, co_new S hh a rfl⟩
    · rw [rg_upd hh6, rg_upd hh6, rg_upd hh6]
      exact (cc_hold hh6 a).trans (hp.cons _)
theorem co_insert {post : SX → Prop} {c v : Int32} {ml : List (Int32 × Int32)} (I : co_inv w (rg_r 384 K) (rg_r 384 M) (rg_r 384 L)) (hl : ml.length < 32)
    (hp : List.Perm (cc_c (rg_r 384 K) (rg_r 384 V) (rg_r 384 M)) ml)
    (F : kn_k 384 (fun k m l => co_inv w k m l) ((c, v) :: ml) fh w K V M L P Q post) : wpX_insertCoalesced post (fh, w, K, V, M, L, P, Q) c v := by
  obtain ⟨PS, S⟩ := I
  exact co_ins S List.not_mem_nil hl hp F
/-- the tail, inserted anew -/
theorem co_l39 {post : SX → Prop} {ml : List (Int32 × Int32)} {K0 V0 M0 L0 : Nat → Int32} (hl : ml.length < 32)
    (F : kn_k 384 (fun k m l => co_inv w k m l) ml fh w K0 V0 M0 L0 P Q post) :
    ∀ (T : List Nat) (n j : Nat) (PS : List (List Nat)) (K V M L : Nat → Int32), j + T.length < 32 → T.length < n → co_st w (rg_r 384 K) (rg_r 384 M) (rg_r 384 L) PS T →
      fr_f 384 K0 K → fr_f 384 V0 V → fr_f 384 M0 M → fr_f 384 L0 L → List.Perm (cc_c (rg_r 384 K) (rg_r 384 V) (rg_r 384 M)) ml →
      wX_takeCoalesced_39 post n (nI (li_nx 384 T)) (nI j) fh w K V M L P Q := by
  intro T
  induction T with
  | nil =>
    intro n j PS K V M L hj hn S fK fV fM fL pm
    obtain ⟨n, rfl⟩ : ∃ n', n = n' + 1 := ⟨n - 1, by simp at hn; omega⟩
    have hj' : j < 32 := by simpa using hj
    exact pk_le 32 j (fun h5 => absurd h5 (by omega)) (fun h5 => br_t rfl (F K V M L fK fV fM fL ⟨PS, S⟩ pm))
  | cons t T ih =>
    intro n j PS K V M L hj hn S fK fV fM fL pm
    rw [List.length_cons] at hj hn
    obtain ⟨n, rfl⟩ : ∃ n', n = n' + 1 := ⟨n - 1, by omega⟩
    have ht := (S.2.2.2.2.2.1 t).mp (List.mem_append_right _ List.mem_cons_self)
    have ht6 : t < 64 := by omega
    have hc : li_ch 384 (rg_r 384 L) t T := S.2.2.2.2.2.2.1
    have hd := li_hd hc
    refine pk_le 32 j (fun h5 => absurd h5 (by omega)) (fun h5 => br_f (nI_ne0 (n := 384 + t) (by omega) (by omega)) ?_)
    refine hw_next (q := 384 + t) (j := li_nx 384 T) rfl (by omega) (by rw [← rg_at (b := 384) (a := L) ht6]; exact hd.1) (hd.2 (by decide)) ?_
    refine hw_release (q := 384 + t) rfl (by omega) ?_
    refine ⟨vp_in_nI (n := 384 + t) (by omega) (by decide), vp_in_nI (n := 384 + t) (by omega) (by decide), ?_⟩
    have ec : (nI (li_nx 384 (t :: T))).toNatClampNeg = 384 + t := nI_clamp (n := 384 + t) (by omega)
    rw [ec, ← rg_at (b := 384) (a := K) ht6, ← rg_at (b := 384) (a := V) ht6]
    have S' := co_rel S
    have pf := cc_free (k := rg_r 384 K) (v := rg_r 384 V) (m := rg_r 384 M) (c := 0) ht6 ht.2 (by decide)
    have hnT : hm_h w (rg_r 384 K t) ∉ T := fun z => (List.pairwise_cons.mp S.2.2.2.2.2.2.2).1 _ z rfl
    have hlen : (cc_c (rg_r 384 K) (rg_r 384 V) (upd (rg_r 384 M) t 0)).length < 32 := by
      have := (pf.trans pm).length_eq
      rw [List.length_cons] at this
      omega
    refine co_ins (ml := cc_c (rg_r 384 K) (rg_r 384 V) (upd (rg_r 384 M) t 0)) (PS := PS) (T := T) ?_ hnT hlen ?_ ?_
    · rw [rg_upd ht6, rg_upd ht6]; exact S'
    · rw [rg_upd ht6]
    · intro K' V' M' L' gK gV gM gL hPS pm'
      obtain ⟨PS', S2⟩ := hPS
      refine nm_r (nI_1 _) ?_
      exact ih n (j + 1) PS' K' V' M' L' (by omega) (by omega) S2 (fr_t fK gK) (fr_t fV gV) (fr_t (fr_u fM ht6) gM) (fr_t (fr_u fL ht6) gL) (pm'.trans (pf.trans pm))
theorem co_take {post : SX → Prop} {x : Nat} {ml : List (Int32 × Int32)} (hx : x < 64) (hh : rg_r 384 M x = 1) (I : co_inv w (rg_r 384 K) (rg_r 384 M) (rg_r 384 L)) (n : ct_nd ml) (hl : ml.length < 25)
    (pm : List.Perm (cc_c (rg_r 384 K) (rg_r 384 V) (rg_r 384 M)) ml)
    (F : kn_k 384 (fun k m l => co_inv w k m l) (ct_er (rg_r 384 K x) ml) fh w K V M L P Q post) : wpX_takeCoalesced post (fh, w, K, V, M, L, P, Q) (nI (384 + x)) := by
  obtain ⟨PS, S⟩ := I
  have hx3 : x < 32 := by
    rcases Nat.lt_or_ge x 32 with q | q
    · exact q
    · rw [S.2.1 x q hx] at hh; exact absurd hh (by decide)
  have hk := hm_lt w (rg_r 384 K x)
  obtain ⟨p, hp, hxp⟩ := co_at S hx3 hh List.not_mem_nil
  obtain ⟨PS1, PS2, ePS⟩ := List.append_of_mem hp
  obtain ⟨h0, r, ep, c1, c2, c3⟩ := S.2.2.2.1 p hp
  have pm1 : List.Perm (cc_c (rg_r 384 K) (rg_r 384 V) (upd (rg_r 384 M) x 0)) (ct_er (rg_r 384 K x) ml) := cc_take hx hh (by decide) n pm
  have hel : (ct_er (rg_r 384 K x) ml).length < 32 := by
    have : (ct_er (rg_r 384 K x) ml).length ≤ ml.length := List.length_filter_le _ _
    omega
  have rl : ∀ y, y ∈ h0 :: r → y < 32 := fun y hy => (co_mem S hp (by rw [ep]; exact hy)).1
  have rlen : r.length ≤ 31 := co_len c1 (rl h0 List.mem_cons_self) (fun y hy => rl y (List.mem_cons_of_mem _ hy))
  unfold wpX_takeCoalesced
  dsimp only
  unfold wpX_linkingTo
  dsimp only
  refine ⟨vp_in_nI (by omega) (by decide), ?_⟩
  rw [nI_clamp (n := 384 + x) (by omega), ← rg_at (b := 384) (a := K) hx]
  refine hw_home (nm_r (e' := nI (384 + hm_h w (rg_r 384 K x))) (nI_add 384 _) ?_)
  rw [ep] at hxp
  by_cases e0 : x = h0
  · -- the head of its path
    subst e0
    have hd := li_hd c1
    rw [c2]
    refine hw_next (q := 384 + x) (j := li_nx 384 r) rfl (by omega) (by rw [← rg_at (b := 384) (a := L) hx]; exact hd.1) (hd.2 (by decide)) ⟨33, ?_⟩
    have hxr : x ∉ r := li_self (by decide) (by decide) c1
    have hla : li_last x r < 64 := by
      have := rl _ (li_lastM r x)
      omega
    refine li_none (by decide) (by decide) hx r x 33 0 hx c1 hxr (by omega) (by omega) ?_
    refine ⟨vp_in_nI (by omega) (by decide), ?_⟩
    rw [nI_clamp (n := 384 + li_last x r) (by omega), ← rg_at (b := 384) (a := L) hla, li_last0 r x c1]
    refine br_f (fun e => nI_ne0 (n := 384 + x) (by omega) (by omega) e.symm) ?_
    unfold wX_takeCoalesced_25
    refine hw_next (q := 384 + x) (j := li_nx 384 r) rfl (by omega) (by rw [← rg_at (b := 384) (a := L) hx]; exact hd.1) (hd.2 (by decide)) ?_
    refine hw_release (q := 384 + x) rfl (by omega) ⟨33, ?_⟩
    rw [ePS, ep] at S
    refine co_l39 hel F r 33 0 (PS1 ++ PS2) _ _ _ _ (by omega) (by omega) ?_ fr_r fr_r (fr_u fr_r hx) (fr_u fr_r hx) ?_
    · rw [rg_upd hx, rg_upd hx]; exact co_cut0 S
    · rw [rg_upd hx]; exact pm1
  · have hxr : x ∈ r := (List.mem_cons.mp hxp).resolve_left e0
    obtain ⟨pre, po, er⟩ := List.append_of_mem hxr
    subst er
    have hb : hm_h w (rg_r 384 K x) ∈ h0 :: pre := by
      rcases co_hb pre [h0] c3 with z | z
      · have : hm_h w (rg_r 384 K x) = h0 := by simpa using z
        rw [this]; exact List.mem_cons_self
      · exact List.mem_cons_of_mem _ z
    obtain ⟨A, B, eb⟩ := List.append_of_mem hb
    generalize hm_h w (rg_r 384 K x) = h at *
    -- the list from the key's home
    have key : ∀ (A pre : List Nat) (h0 : Nat), h0 :: pre = A ++ h :: B → li_ch 384 (rg_r 384 L) h0 (pre ++ x :: po) → li_ch 384 (rg_r 384 L) h (B ++ x :: po) ∧ li_last h0 pre = li_last h B := by
      intro A
      induction A with
      | nil =>
        intro pre h0 e c
        injection e with e1 e2
        rw [← e1, ← e2]
        exact ⟨c, rfl⟩
      | cons a A ih =>
        intro pre h0 e c
        injection e with e1 e2
        cases pre with
        | nil =>
          have := congrArg List.length e2
          simp at this
        | cons y pre => exact ih pre y e2 c.2.2
    obtain ⟨k1, k2⟩ := key A pre h0 eb c1
    have hnd := li_nd (by decide) (by decide) _ _ c1
    have hpx : x ∉ h0 :: pre := by
      intro z
      have : ((h0 :: pre) ++ x :: po).Nodup := hnd
      exact (List.nodup_append.mp this).2.2 x z x List.mem_cons_self rfl
    have hBx : x ∉ B := fun z => hpx (by rw [eb]; exact List.mem_append_right _ (List.mem_cons_of_mem _ z))
    have hBl : B.length < 32 := by
      have := congrArg List.length eb
      rw [List.length_append, List.length_cons, List.length_cons] at this
      rw [List.length_append, List.length_cons] at rlen
      omega
    have hpol : po.length < 32 := by
      rw [List.length_append, List.length_cons] at rlen
      omega
    have hla : li_last h0 pre < 64 := by
      rcases List.mem_cons.mp (li_lastM pre h0) with e | e
      · have := rl h0 List.mem_cons_self
        omega
      · have := rl _ (List.mem_cons_of_mem _ (List.mem_append_left _ e))
        omega
    have hlx : x ≠ li_last h0 pre := fun e => hpx (e ▸ li_lastM pre h0)
    obtain ⟨d1, d2, d3⟩ := li_cut (by decide) (by decide) pre h0 c1
    have hd := li_hd k1
    refine hw_next (q := 384 + h) (j := li_nx 384 (B ++ x :: po)) rfl (by omega) (by rw [← rg_at (b := 384) (a := L) (by omega)]; exact hd.1) (hd.2 (by decide)) ⟨33, ?_⟩
    refine li_to (by decide) (by decide) hx B h 33 0 (by omega) k1 hBx (by omega) (by omega) ?_
    rw [← k2]
    refine ⟨vp_in_nI (by omega) (by decide), ?_⟩
    rw [nI_clamp (n := 384 + li_last h0 pre) (by omega), ← rg_at (b := 384) (a := L) hla, d2]
    refine br_t rfl ⟨vp_in_nI (by omega) (by decide), nm_e ?_⟩
    unfold wX_takeCoalesced_25
    have hd3 := li_hd d3
    refine hw_next (q := 384 + x) (j := li_nx 384 po) rfl (by omega) ?_ (hd3.2 (by decide)) ?_
    · rw [pk_un (by omega), ← rg_at (b := 384) (a := L) hx]; exact hd3.1
    refine hw_release (q := 384 + x) rfl (by omega) ⟨33, ?_⟩
    rw [ePS, ep] at S
    refine co_l39 hel F po 33 0 (PS1 ++ (h0 :: pre) :: PS2) _ _ _ _ (by omega) (by omega) ?_ fr_r fr_r (fr_u fr_r hx) (fr_u (fr_u fr_r hla) hx) ?_
    · rw [rg_upd hx, rg_upd hx, rg_upd hla]; exact co_cut1 S
    · rw [rg_upd hx]; exact pm1
/-- where a link leads -/
theorem co_link {k m l : Nat → Int32} (I : co_inv w k m l) {i : Nat} (hi : i < 64) : l i = 0 ∨ (m i = 1 ∧ ∃ j, j < 32 ∧ m j = 1 ∧ l i = nI (384 + j)) := by
  obtain ⟨PS, S⟩ := I
  by_cases a : m i = 1
  · have hi3 : i < 32 := by
      rcases Nat.lt_or_ge i 32 with q | q
      · exact q
      · rw [S.2.1 i q hi] at a; exact absurd a (by decide)
    obtain ⟨p, A, B, hp, e, c, len, hB⟩ := co_from S hi3 a List.not_mem_nil
    cases B with
    | nil => exact .inl c
    | cons j r => exact .inr ⟨a, j, (hB j List.mem_cons_self).1, (hB j List.mem_cons_self).2, c.1⟩
  · exact .inl (S.2.2.1 i hi a)
end
end
section
/-! HOPSCOTCH: bits -/
theorem hb_1 : ∀ t, t < 32 → bt 1 t = decide (t = 0) := by decide +kernel
theorem hb_sh {d t : Nat} (hd : d < 32) (ht : t < 32) : bt ((1 : Int32) <<< (nI d &&& 31)) t = decide (t = d) := by
  rw [b_shl d hd 1 ht]
  by_cases h : d ≤ t
  · rw [hb_1 (t - d) (by omega)]
    by_cases e : t = d
    · simp [e]
    · simp [e, h]; omega
  · have : t ≠ d := by omega
    simp [h, this]
theorem hb_or {x : Int32} {d t : Nat} (hd : d < 32) (ht : t < 32) : bt (x ||| ((1 : Int32) <<< (nI d &&& 31))) t = (bt x t || decide (t = d)) := by rw [b_or, hb_sh hd ht]
theorem hb_and {x : Int32} {d t : Nat} (hd : d < 32) (ht : t < 32) : bt (x &&& (((1 : Int32) <<< (nI d &&& 31)) ^^^ (-1))) t = (bt x t && !decide (t = d)) := by
  rw [b_and, b_xor, hb_sh hd ht, b_m1 t ht]
  simp
theorem hb_bit (x : Int32) {a : Nat} (ha : a < 32) : (((x.toUInt32 >>> ((nI a).toUInt32 &&& Int32.toUInt32 31)).toInt32) &&& 1) = if bt x a = true then 1 else 0 := by
  apply b_ext
  intro i hi
  rw [b_and, b_ushr a ha, hb_1 i hi]
  by_cases e : i = 0
  · subst e
    by_cases h : bt x a = true
    · simp [h, hb_1]
    · simp [h, b_0]
  · by_cases h : bt x a = true
    · simp [h, e, hb_1 i hi]
    · simp [h, e, b_0]
def hp_bits (l : Nat → Int32) (q : Nat) : Bool := bt (l (q / 32)) (q % 32)
def hp_inv (w : Int32) (k m l : Nat → Int32) : Prop :=
  (∀ i, i < 64 → m i = 0 ∨ m i = 1) ∧ (∀ i, i < 32 → m i = 1 → ds_d w k i < 8) ∧
  (∀ h d, h < 32 → d < 32 → (bt (l h) d = true ↔ (m ((h + d) % 32) = 1 ∧ hm_h w (k ((h + d) % 32)) = h))) ∧
  nb_n (hp_bits l) 1024 = nb_n (fun i => decide (m i = 1)) 32
theorem hp_near {w : Int32} {k m l : Nat → Int32} {i : Nat} {c : Int32} (I : hp_inv w k m l) (hi : i < 32) (hm : ¬ m i = 1) (hd : (i + 32 - hm_h w c) % 32 < 8) :
    hp_inv w (upd k i c) (upd m i 1) (upd l (hm_h w c) (l (hm_h w c) ||| ((1 : Int32) <<< (nI ((i + 32 - hm_h w c) % 32) &&& 31)))) := by
  have hh := hm_lt w c
  obtain ⟨i1, i2, i3, i4⟩ := I
  generalize ed : (i + 32 - hm_h w c) % 32 = d at *
  refine ⟨fun j hj => ?_, fun j hj a => ?_, fun h' d' h1 h2 => ?_, ?_⟩
  · by_cases e : j = i
    · rw [e, pk_us]; exact .inr rfl
    · rw [pk_un e]; exact i1 j hj
  · by_cases e : j = i
    · unfold ds_d
      rw [e, pk_us, ed]; exact hd
    · rw [pk_un e] at a
      unfold ds_d
      rw [pk_un e]
      exact i2 j hj a
  · by_cases ei : (h' + d') % 32 = i
    · rw [ei, pk_us, pk_us]
      by_cases eh : h' = hm_h w c
      · have : d' = d := by omega
        rw [eh, pk_us, hb_or (by omega) h2, this]
        simp
      · rw [pk_un eh, i3 h' d' h1 h2, ei]
        exact ⟨fun z => absurd z.1 hm, fun z => absurd z.2.symm eh⟩
    · rw [pk_un ei, pk_un ei]
      by_cases eh : h' = hm_h w c
      · have : d' ≠ d := by omega
        rw [eh, pk_us, hb_or (by omega) h2, ← eh, ← i3 h' d' h1 h2]
        simp [this]
      · rw [pk_un eh]
        exact i3 h' d' h1 h2
  · have hM := nb_set (p := fun i => decide (m i = 1)) (q := fun j => decide (upd m i 1 j = 1)) (i := i) (by simp [hm]) (by simp [pk_us]) (fun j hj => by rw [pk_un hj]) 32 hi
    rw [hM, ← i4]
    refine nb_set (i := 32 * hm_h w c + d) ?_ ?_ (fun j hj => ?_) 1024 (by omega)
    · unfold hp_bits
      rw [show (32 * hm_h w c + d) / 32 = hm_h w c by omega, show (32 * hm_h w c + d) % 32 = d by omega]
      have : ¬ bt (l (hm_h w c)) d = true := by
        rw [i3 _ d hh (by omega), show (hm_h w c + d) % 32 = i by omega]
        exact fun z => hm z.1
      simpa using this
    · unfold hp_bits
      rw [show (32 * hm_h w c + d) / 32 = hm_h w c by omega, show (32 * hm_h w c + d) % 32 = d by omega, pk_us, hb_or (by omega) (by omega)]
      simp
    · unfold hp_bits
      by_cases e : j / 32 = hm_h w c
      · have : j % 32 ≠ d := by omega
        rw [e, pk_us, hb_or (by omega) (Nat.mod_lt _ (by decide))]
        simp [this]
      · rw [pk_un e]
theorem hp_take {w : Int32} {k m l : Nat → Int32} {i : Nat} (I : hp_inv w k m l) (hi : i < 32) (hm : m i = 1) :
    hp_inv w k (upd m i 0) (upd l (hm_h w (k i)) (l (hm_h w (k i)) &&& (((1 : Int32) <<< (nI (ds_d w k i) &&& 31)) ^^^ (-1)))) := by
  have hh := hm_lt w (k i)
  obtain ⟨i1, i2, i3, i4⟩ := I
  have ed : (i + 32 - hm_h w (k i)) % 32 = ds_d w k i := rfl
  have hd := ds_lt w k i
  generalize ds_d w k i = d at *
  refine ⟨fun j hj => ?_, fun j hj a => ?_, fun h' d' h1 h2 => ?_, ?_⟩
  · by_cases e : j = i
    · rw [e, pk_us]; exact .inl rfl
    · rw [pk_un e]; exact i1 j hj
  · by_cases e : j = i
    · rw [e, pk_us] at a; exact absurd a (by decide)
    · rw [pk_un e] at a
      exact i2 j hj a
  · by_cases ei : (h' + d') % 32 = i
    · rw [ei, pk_us]
      by_cases eh : h' = hm_h w (k i)
      · have : d' = d := by omega
        rw [eh, pk_us, hb_and (by omega) h2, this]
        simp
      · rw [pk_un eh, i3 h' d' h1 h2, ei]
        exact ⟨fun z => absurd z.2.symm eh, fun z => absurd z.1 (by decide)⟩
    · rw [pk_un ei]
      by_cases eh : h' = hm_h w (k i)
      · have : d' ≠ d := by omega
        rw [eh, pk_us, hb_and (by omega) h2, ← eh, ← i3 h' d' h1 h2]
        simp [this]
      · rw [pk_un eh]
        exact i3 h' d' h1 h2
  · have hM := nb_set (p := fun j => decide (upd m i 0 j = 1)) (q := fun j => decide (m j = 1)) (i := i) (by simp [pk_us]) (by simp [hm]) (fun j hj => by rw [pk_un hj]) 32 hi
    have hL : nb_n (hp_bits l) 1024 = nb_n (hp_bits (upd l (hm_h w (k i)) (l (hm_h w (k i)) &&& (((1 : Int32) <<< (nI d &&& 31)) ^^^ (-1))))) 1024 + 1 := by
      refine nb_set (i := 32 * hm_h w (k i) + d) ?_ ?_ (fun j hj => ?_) 1024 (by omega)
      · unfold hp_bits
        rw [show (32 * hm_h w (k i) + d) / 32 = hm_h w (k i) by omega, show (32 * hm_h w (k i) + d) % 32 = d by omega, pk_us, hb_and (by omega) (by omega)]
        simp
      · unfold hp_bits
        rw [show (32 * hm_h w (k i) + d) / 32 = hm_h w (k i) by omega, show (32 * hm_h w (k i) + d) % 32 = d by omega, i3 _ d hh (by omega), show (hm_h w (k i) + d) % 32 = i by omega]
        exact ⟨hm, rfl⟩
      · unfold hp_bits
        by_cases e : j / 32 = hm_h w (k i)
        · have : j % 32 ≠ d := by omega
          rw [e, pk_us, hb_and (by omega) (Nat.mod_lt _ (by decide))]
          simp [this]
        · rw [pk_un e]
    omega
theorem hp_spare {w : Int32} {k m l : Nat → Int32} {i : Nat} {c x : Int32} (I : hp_inv w k m l) (hi : 32 ≤ i) (hx : x = 0 ∨ x = 1) : hp_inv w (upd k i c) (upd m i x) l ∧ hp_inv w k (upd m i x) l := by
  obtain ⟨i1, i2, i3, i4⟩ := I
  have f1 : ∀ j, j < 32 → upd m i x j = m j := fun j hj => pk_un (by omega)
  have f2 : ∀ j, j < 32 → upd k i c j = k j := fun j hj => pk_un (by omega)
  have b1 : ∀ j, j < 64 → upd m i x j = 0 ∨ upd m i x j = 1 := by
    intro j hj
    by_cases e : j = i
    · rw [e, pk_us]; exact hx
    · rw [pk_un e]; exact i1 j hj
  have b4 : nb_n (hp_bits l) 1024 = nb_n (fun j => decide (upd m i x j = 1)) 32 := by
    rw [i4]
    exact (nb_ext 32 fun j hj => by rw [f1 j hj]).symm
  refine ⟨⟨b1, fun j hj a => ?_, fun h d hh hd => ?_, b4⟩, ⟨b1, fun j hj a => ?_, fun h d hh hd => ?_, b4⟩⟩
  · rw [f1 j hj] at a
    unfold ds_d
    rw [f2 j hj]
    exact i2 j hj a
  · have : (h + d) % 32 < 32 := Nat.mod_lt _ (by decide)
    rw [f1 _ this, f2 _ this]
    exact i3 h d hh hd
  · rw [f1 j hj] at a
    exact i2 j hj a
  · have : (h + d) % 32 < 32 := Nat.mod_lt _ (by decide)
    rw [f1 _ this]
    exact i3 h d hh hd
section
variable {fh w : Int32} {K V M L P Q : Nat → Int32}
theorem hp_fl {post : Int32 → Prop} {c : Int32} (I : hp_inv w (rg_r 448 K) (rg_r 448 M) (rg_r 448 L)) (F : fd_ok 448 K M c post) :
    ∀ n a, a ≤ 8 → 8 - a < n → (∀ d, d < a → ¬ (rg_r 448 M ((hm_h w c + d) % 32) = 1 ∧ rg_r 448 K ((hm_h w c + d) % 32) = c)) →
      wX_findHopscotch_23 post c (nI 448) (nI (hm_h w c)) (rg_r 448 L (hm_h w c)) fh w K V M L P Q n (nI a) := by
  have hh := hm_lt w c
  intro n
  induction n with
  | zero => intro a _ hn; omega
  | succ n ih =>
    intro a ha hn hno
    refine pk_le 8 a (fun h5 => ?_) (fun h5 => ?_)
    · refine hw_spare (e := 7) (by decide) rfl F.1 (fun hs => F.2 fun i hi x d => ?_)
      rcases Nat.lt_or_ge i 32 with q | q
      · have h8 := I.2.1 i q x
        have e : (hm_h w c + ds_d w (rg_r 448 K) i) % 32 = i := by
          unfold ds_d
          rw [d]
          omega
        exact hno (ds_d w (rg_r 448 K) i) (by omega) (by rw [e]; exact ⟨x, d⟩)
      · exact hs i q hi x d
    · refine nm_r (e' := nI (448 + (hm_h w c + a) % 32)) ?_ ?_
      · rw [nI_add, hm_m (by omega), nI_add]
      have hq : (hm_h w c + a) % 32 < 64 := by omega
      rw [hb_bit _ (by omega)]
      have step : ¬ (rg_r 448 M ((hm_h w c + a) % 32) = 1 ∧ rg_r 448 K ((hm_h w c + a) % 32) = c) → wX_findHopscotch_23 post c (nI 448) (nI (hm_h w c)) (rg_r 448 L (hm_h w c)) fh w K V M L P Q n (nI (a + 1)) := by
        intro z
        refine ih (a + 1) (by omega) (by omega) fun d hd => ?_
        by_cases e : d = a
        · rw [e]; exact z
        · exact hno d (by omega)
      by_cases hb : bt (rg_r 448 L (hm_h w c)) a = true
      · rw [if_pos hb]
        exact br_t rfl (hw_holds rfl hq (by decide) (fun x d => br_f (by decide) (F.1 _ hq x d)) (fun z => br_t rfl (nm_r (nI_1 _) (step z))))
      · rw [if_neg hb]
        refine br_f (by decide) (nm_r (nI_1 _) (step fun z => hb ?_))
        rw [I.2.2.1 _ a hh (by omega), z.2]
        exact ⟨z.1, rfl⟩
theorem hp_find {post : Int32 → Prop} {c : Int32} (I : hp_inv w (rg_r 448 K) (rg_r 448 M) (rg_r 448 L)) (F : fd_ok 448 K M c post) : wpX_findHopscotch post (fh, w, K, V, M, L, P, Q) c := by
  have hh := hm_lt w c
  unfold wpX_findHopscotch
  dsimp only
  refine hw_home ?_
  rw [show (448 : Int32) + nI (hm_h w c) = nI (448 + hm_h w c) from nI_add 448 _]
  refine ⟨vp_in_nI (by omega) (by decide), nm_r (e' := rg_r 448 L (hm_h w c)) (by rw [nI_clamp (by omega), rg_at (by omega)]) ⟨9, ?_⟩⟩
  exact hp_fl I F 9 0 (by omega) (by omega) (fun d hd => by omega)
theorem hp_nearW {post : SX → Prop} {c v : Int32} {i : Nat} (hi : i < 32) (h : post (fh, w, upd K (448 + i) c, upd V (448 + i) v, upd M (448 + i) 1, upd L (448 + hm_h w c) (L (448 + hm_h w c) ||| ((1 : Int32) <<< (nI ((i + 32 - hm_h w c) % 32) &&& 31))), P, Q)) : wpX_holdNear post (fh, w, K, V, M, L, P, Q) (nI (448 + i)) c v := by
  have hh := hm_lt w c
  unfold wpX_holdNear
  dsimp only
  refine hw_hold rfl (by omega) (hw_home (nm_r (e' := nI (448 + hm_h w c)) (nI_add 448 _) ⟨vp_in_nI (by omega) (by decide), vp_in_nI (by omega) (by decide), nm_r ?_ h⟩))
  rw [nI_clamp (n := 448 + hm_h w c) (by omega), hm_d (by omega) (by omega), show (448 + i + 512 - (448 + hm_h w c)) % 32 = (i + 32 - hm_h w c) % 32 by omega]
theorem hp_takeW {post : SX → Prop} {i : Nat} (hi : i < 64) (h1 : i < 32 → post (fh, w, K, V, upd M (448 + i) 0, upd L (448 + hm_h w (rg_r 448 K i)) (L (448 + hm_h w (rg_r 448 K i)) &&& (((1 : Int32) <<< (nI (ds_d w (rg_r 448 K) i) &&& 31)) ^^^ (-1))), P, Q))
    (h2 : 32 ≤ i → post (fh, w, K, V, upd M (448 + i) 0, L, P, Q)) : wpX_takeHopscotch post (fh, w, K, V, M, L, P, Q) (nI (448 + i)) := by
  have hh := hm_lt w (rg_r 448 K i)
  unfold wpX_takeHopscotch
  dsimp only
  refine pk_le 480 (448 + i) (fun h5 => ⟨vp_in_nI (by omega) (by decide), nm_r (e' := upd M (448 + i) 0) (by rw [nI_clamp (by omega), hm_n0]) (h2 (by omega))⟩) (fun h5 => ⟨vp_in_nI (by omega) (by decide), ?_⟩)
  rw [nI_clamp (n := 448 + i) (by omega), ← rg_at (b := 448) (a := K) hi]
  refine hw_home (nm_r (e' := nI (448 + hm_h w (rg_r 448 K i))) (nI_add 448 _) ⟨vp_in_nI (by omega) (by decide), vp_in_nI (by omega) (by decide), nm_r ?_ ⟨vp_in_nI (by omega) (by decide), nm_r (e' := upd M (448 + i) 0) (by rw [hm_n0]) (h1 (by omega))⟩⟩)
  rw [nI_clamp (n := 448 + hm_h w (rg_r 448 K i)) (by omega), hm_d (by omega) (by omega), show (448 + i + 512 - (448 + hm_h w (rg_r 448 K i))) % 32 = ds_d w (rg_r 448 K) i by unfold ds_d; omega]
theorem hp_moverL {post : Int32 → Prop} {i : Nat} (hi : i < 32) (h0 : post (-1)) (h : ∀ t, 1 ≤ t → t ≤ 7 → rg_r 448 M ((i + 32 - t) % 32) = 1 → (i + 32 - hm_h w (rg_r 448 K ((i + 32 - t) % 32))) % 32 < 8 → post (nI (448 + (i + 32 - t) % 32))) :
    ∀ n t, t ≤ 7 → t < n → wX_moverTo_7 post (nI (448 + i)) (nI 448) fh w K V M L P Q n (nI t) := by
  intro n
  induction n with
  | zero => intro t _ hn; omega
  | succ n ih =>
    intro t ht hn
    refine pk_le t 0 (fun h5 => h0) (fun h5 => ?_)
    have hq : (i + 32 - t) % 32 < 32 := Nat.mod_lt _ (by decide)
    have hh := hm_lt w (rg_r 448 K ((i + 32 - t) % 32))
    have em : nI t + (-1) = nI (t - 1) := by
      have := pk_m1 (t - 1)
      rw [show t - 1 + 1 = t by omega] at this
      exact this
    refine nm_r (e' := nI (448 + (i + 32 - t) % 32)) ?_ ⟨vp_in_nI (by omega) (by decide), ?_⟩
    · rw [hm_d (by omega) (by omega), nI_add]
      exact congrArg nI (by omega)
    rw [nI_clamp (n := 448 + (i + 32 - t) % 32) (by omega), ← rg_at (b := 448) (a := K) (i := (i + 32 - t) % 32) (by omega), ← rg_at (b := 448) (a := M) (i := (i + 32 - t) % 32) (by omega)]
    refine hw_home (nm_r (e' := nI ((i + 32 - hm_h w (rg_r 448 K ((i + 32 - t) % 32))) % 32)) ?_ ⟨vp_in_nI (by omega) (by decide), ?_⟩)
    · rw [hm_d (by omega) (by omega)]
      exact congrArg nI (by omega)
    refine br_c (fun a => pk_le 8 ((i + 32 - hm_h w (rg_r 448 K ((i + 32 - t) % 32))) % 32) (fun _ => nm_r em (ih (t - 1) (by omega) (by omega))) (fun d => h t (by omega) (by omega) a d)) (fun a => nm_r em (ih (t - 1) (by omega) (by omega)))
theorem hp_l59 {post : SX → Prop} {c v : Int32} {ml : List (Int32 × Int32)} {K0 V0 M0 L0 : Nat → Int32} (hl : ml.length < 32)
    (F : kn_k 448 (fun k m l => hp_inv w k m l) ((c, v) :: ml) fh w K0 V0 M0 L0 P Q post) :
    ∀ n j i (K V M L : Nat → Int32), i < 32 → (i + 32 - hm_h w c) % 32 + j ≤ 31 → 32 - j < n → ¬ rg_r 448 M i = 1 → hp_inv w (rg_r 448 K) (rg_r 448 M) (rg_r 448 L) →
      fr_f 448 K0 K → fr_f 448 V0 V → fr_f 448 M0 M → fr_f 448 L0 L → List.Perm (cc_c (rg_r 448 K) (rg_r 448 V) (rg_r 448 M)) ml →
      wX_insertHopscotch_59 post c v (nI (hm_h w c)) n (nI (448 + i)) (nI j) fh w K V M L P Q := by
  have hh := hm_lt w c
  intro n
  induction n with
  | zero => intro j i K V M L _ _ hn; omega
  | succ n ih =>
    intro j i K V M L hi hd hn hm I fK fV fM fL pm
    have hi6 : i < 64 := by omega
    refine pk_le 32 j (fun h5 => absurd h5 (by omega)) (fun h5 => ?_)
    refine pk_lt ((i + 32 - hm_h w c) % 32) 8 (fun d => ?_) (fun d => ?_) (by rw [hm_d (by omega) (by omega)]; exact congrArg nI (by omega)) rfl
    · have hh6 : hm_h w c < 64 := by omega
      refine hp_nearW hi (F _ _ _ _ (fr_u fK hi6) (fr_u fV hi6) (fr_u fM hi6) (fr_u fL hh6) ?_ ?_)
      · rw [rg_upd hi6, rg_upd hi6, rg_upd hh6, ← rg_at (b := 448) (a := L) hh6]
        exact hp_near I hi hm d
      · rw [rg_upd hi6, rg_upd hi6, rg_upd hi6]
        exact (cc_hold hi6 hm).trans (pm.cons _)
    · unfold wpX_moverTo
      refine ⟨8, hp_moverL hi (br_t rfl ?_) (fun t t1 t2 a e => br_f ?_ ?_) 8 7 (by omega) (by omega)⟩
      · refine hw_room (e := 7) (by decide) rfl (cc_room (k := rg_r 448 K) (v := rg_r 448 V) (m := rg_r 448 M) 32 (by omega) (by rw [pm.length_eq]; exact hl)) (fun z z1 z2 z3 => hw_hold (q := 448 + z) rfl (by omega) ?_)
        refine F _ _ _ _ (fr_u fK z2) (fr_u fV z2) (fr_u fM z2) fL ?_ ?_
        · rw [rg_upd z2, rg_upd z2]
          exact (hp_spare I z1 (.inr rfl)).1
        · rw [rg_upd z2, rg_upd z2, rg_upd z2]
          exact (cc_hold z2 z3).trans (pm.cons _)
      · have hq : (i + 32 - t) % 32 < 32 := Nat.mod_lt _ (by decide)
        intro z
        have : nI (448 + (i + 32 - t) % 32) < 0 := by rw [z]; decide
        exact nI_pos (by omega) this
      · generalize eq : (i + 32 - t) % 32 = q at *
        have hq : q < 32 := by omega
        have hq6 : q < 64 := by omega
        have hk := hm_lt w (rg_r 448 K q)
        have hk6 : hm_h w (rg_r 448 K q) < 64 := by omega
        have ne : i ≠ q := by omega
        refine ⟨vp_in_nI (by omega) (by decide), nm_r (e' := rg_r 448 K q) (by rw [nI_clamp (by omega), rg_at hq6]) ⟨vp_in_nI (by omega) (by decide), nm_r (e' := rg_r 448 V q) (by rw [nI_clamp (by omega), rg_at hq6]) ?_⟩⟩
        refine hp_takeW hq6 (fun _ => ?_) (fun h => by omega)
        refine hp_nearW hi (nm_r (nI_1 _) ?_)
        have I1 := hp_take I hq a
        have I2 := hp_near (c := rg_r 448 K q) I1 hi (by rw [pk_un ne]; exact hm) e
        refine ih (j + 1) q _ _ _ _ hq (by omega) (by omega) ?_ ?_ (fr_u fK hi6) (fr_u fV hi6) (fr_u (fr_u fM hq6) hi6) (fr_u (fr_u fL hk6) hk6) ?_
        · rw [rg_upd hi6, rg_upd hq6, pk_un (Ne.symm ne), pk_us]; decide
        · rw [rg_upd hi6, rg_upd hi6, rg_upd hq6, rg_upd hk6, rg_upd hk6, ← rg_at (b := 448) (a := L) hk6, ← rg_at (b := 448) (a := upd L (448 + hm_h w (rg_r 448 K q)) _) hk6, rg_upd hk6]
          exact I2
        · rw [rg_upd hi6, rg_upd hi6, rg_upd hi6, rg_upd hq6]
          have a1 := cc_free (k := rg_r 448 K) (v := rg_r 448 V) (m := rg_r 448 M) (c := 0) hq6 a (by decide)
          have a2 := cc_hold (k := rg_r 448 K) (v := rg_r 448 V) (m := upd (rg_r 448 M) q 0) (c := rg_r 448 K q) (x := rg_r 448 V q) hi6 (by rw [pk_un ne]; exact hm)
          exact a2.trans (a1.trans pm)
theorem hp_l20 {post : SX → Prop} {c v : Int32} {f : Nat} (hf : f < 32) (hfm : ¬ rg_r 448 M ((hm_h w c + f) % 32) = 1)
    (F : ∀ i, i < 32 → ¬ rg_r 448 M i = 1 → wX_insertHopscotch_59 post c v (nI (hm_h w c)) 33 (nI (448 + i)) 0 fh w K V M L P Q) :
    ∀ n j, j ≤ f → 32 - j < n → wX_insertHopscotch_20 post c v (nI 448) (nI (hm_h w c)) fh w K V M L P Q n (nI (448 + (hm_h w c + j) % 32)) (nI (j + 1)) := by
  have hh := hm_lt w c
  intro n
  induction n with
  | zero => intro j _ hn; omega
  | succ n ih =>
    intro j hj hn
    have hq : (hm_h w c + j) % 32 < 32 := Nat.mod_lt _ (by decide)
    refine pk_le 32 (j + 1) (fun h5 => ?_) (fun h5 => ⟨vp_in_nI (by omega) (by decide), ?_⟩)
    · have e : j = f := by omega
      rw [e]
      exact ⟨33, F _ (Nat.mod_lt _ (by decide)) hfm⟩
    · rw [nI_clamp (n := 448 + (hm_h w c + j) % 32) (by omega), ← rg_at (b := 448) (a := M) (i := (hm_h w c + j) % 32) (by omega)]
      refine br_c (fun a => ?_) (fun a => ⟨33, F _ hq a⟩)
      have e : j ≠ f := fun e => hfm (e ▸ a)
      refine nm_r (e' := nI (448 + (hm_h w c + (j + 1)) % 32)) ?_ (nm_r (nI_1 _) (ih (j + 1) (by omega) (by omega)))
      rw [nI_add, hm_m (by omega), nI_add]
theorem hp_insert {post : SX → Prop} {c v : Int32} {ml : List (Int32 × Int32)} (I : hp_inv w (rg_r 448 K) (rg_r 448 M) (rg_r 448 L)) (hl : ml.length < 32)
    (hp : List.Perm (cc_c (rg_r 448 K) (rg_r 448 V) (rg_r 448 M)) ml)
    (F : kn_k 448 (fun k m l => hp_inv w k m l) ((c, v) :: ml) fh w K V M L P Q post) : wpX_insertHopscotch post (fh, w, K, V, M, L, P, Q) c v := by
  have hh := hm_lt w c
  obtain ⟨f, f1, f2, f3⟩ := cc_room (k := rg_r 448 K) (v := rg_r 448 V) (m := rg_r 448 M) 0 (by omega) (by rw [hp.length_eq]; exact hl)
  unfold wpX_insertHopscotch
  dsimp only
  refine hw_home (nm_r (e' := nI (448 + (hm_h w c + 0) % 32)) ?_ ⟨33, ?_⟩)
  · rw [show (448 : Int32) + nI (hm_h w c) = nI (448 + hm_h w c) from nI_add 448 _]
    exact congrArg nI (by omega)
  · refine hp_l20 (f := (f + 32 - hm_h w c) % 32) (Nat.mod_lt _ (by decide)) ?_ (fun i hi hm => ?_) 33 0 (by omega) (by omega)
    · rw [show (hm_h w c + (f + 32 - hm_h w c) % 32) % 32 = f by omega]; exact f3
    · exact hp_l59 hl F 33 0 i K V M L hi (by have : (i + 32 - hm_h w c) % 32 < 32 := Nat.mod_lt _ (by decide)
                                              omega) (by omega) hm I fr_r fr_r fr_r fr_r hp
theorem hp_takeX {post : SX → Prop} {x : Nat} {ml : List (Int32 × Int32)} (hx : x < 64) (hh : rg_r 448 M x = 1) (I : hp_inv w (rg_r 448 K) (rg_r 448 M) (rg_r 448 L)) (n : ct_nd ml)
    (pm : List.Perm (cc_c (rg_r 448 K) (rg_r 448 V) (rg_r 448 M)) ml)
    (F : kn_k 448 (fun k m l => hp_inv w k m l) (ct_er (rg_r 448 K x) ml) fh w K V M L P Q post) : wpX_takeHopscotch post (fh, w, K, V, M, L, P, Q) (nI (448 + x)) := by
  have hk := hm_lt w (rg_r 448 K x)
  have hk6 : hm_h w (rg_r 448 K x) < 64 := by omega
  have pm1 : List.Perm (cc_c (rg_r 448 K) (rg_r 448 V) (upd (rg_r 448 M) x 0)) (ct_er (rg_r 448 K x) ml) := cc_take hx hh (by decide) n pm
  refine hp_takeW hx (fun h => F _ _ _ _ fr_r fr_r (fr_u fr_r hx) (fr_u fr_r hk6) ?_ ?_) (fun h => F _ _ _ _ fr_r fr_r (fr_u fr_r hx) fr_r ?_ ?_)
  · rw [rg_upd hx, rg_upd hk6, ← rg_at (b := 448) (a := L) hk6]
    exact hp_take I h hh
  · rw [rg_upd hx]; exact pm1
  · rw [rg_upd hx]
    exact (hp_spare (c := 0) I h (.inl rfl)).2
  · rw [rg_upd hx]; exact pm1
end
end
section
/-! all tables -/
def tb_I : Nat → Int32 → (Nat → Int32) → (Nat → Int32) → (Nat → Int32) → Prop
  | 0, w, k, m, _ => pr_inv w 0 k m
  | 1, w, k, m, _ => pr_inv w 1 k m
  | 2, w, k, m, _ => pr_inv w 2 k m
  | 3, w, k, m, _ => rb_inv w k m
  | 4, w, k, m, _ => ck_inv w k m
  | 5, w, k, m, l => cn_inv w k m l
  | 6, w, k, m, l => co_inv w k m l
  | 7, w, k, m, l => hp_inv w k m l
  | _, _, _, _, _ => True
def tb_t (e : Nat) (w : Int32) (K V M L : Nat → Int32) (ml : List (Int32 × Int32)) : Prop :=
  tb_I e w (rg_r (64 * e) K) (rg_r (64 * e) M) (rg_r (64 * e) L) ∧ List.Perm (cc_c (rg_r (64 * e) K) (rg_r (64 * e) V) (rg_r (64 * e) M)) ml
theorem tb_fr {e e' : Nat} {w : Int32} {K V M L K' V' M' L' : Nat → Int32} {ml : List (Int32 × Int32)} (ne : e' ≠ e) (fK : fr_f (64 * e) K K') (fV : fr_f (64 * e) V V') (fM : fr_f (64 * e) M M') (fL : fr_f (64 * e) L L') (h : tb_t e' w K V M L ml) : tb_t e' w K' V' M' L' ml := by
  have d : 64 * e' + 64 ≤ 64 * e ∨ 64 * e + 64 ≤ 64 * e' := by omega
  unfold tb_t
  rw [fr_o fK d, fr_o fV d, fr_o fM d, fr_o fL d]
  exact h
theorem tb_pm {e : Nat} {w : Int32} {K V M L : Nat → Int32} {ml ml' : List (Int32 × Int32)} (p : List.Perm ml ml') (h : tb_t e w K V M L ml) : tb_t e w K V M L ml' := ⟨h.1, h.2.trans p⟩
theorem tb_8 {e : Nat} (he : e < 8) : e = 0 ∨ e = 1 ∨ e = 2 ∨ e = 3 ∨ e = 4 ∨ e = 5 ∨ e = 6 ∨ e = 7 := by omega
theorem tb_zero {e : Nat} (he : e < 8) {w : Int32} {k m l : Nat → Int32} (hm : ∀ i, i < 64 → m i = 0) (hl : ∀ i, i < 64 → l i = 0) : tb_I e w k m l := by
  have h1 : ∀ i, i < 64 → ¬ m i = 1 := fun i hi z => by rw [hm i hi] at z; exact absurd z (by decide)
  have pr : ∀ e, pr_inv w e k m := fun e => ⟨fun i hi a => absurd a (h1 i (by omega)), fun i _ hi => hm i hi, fun _ i hi => .inl (hm i hi)⟩
  have nz : ∀ (p : Nat → Bool) n, (∀ i, i < n → p i = false) → nb_n p n = 0 := by
    intro p n
    induction n with
    | zero => intro _; rfl
    | succ n ih =>
      intro h
      show nb_n p n + _ = 0
      rw [ih fun i hi => h i (by omega), h n (by omega)]
      rfl
  rcases tb_8 he with e | e | e | e | e | e | e | e <;> subst e
  · exact pr 0
  · exact pr 1
  · exact pr 2
  · exact ⟨fun p hp a => absurd a (h1 p (by omega)), fun i hi => .inl (hm i hi), fun i _ hi => hm i hi⟩
  · exact ⟨fun i hi a => absurd a (h1 i (by omega)), fun i hi => .inl (hm i hi)⟩
  · refine ⟨fun i hi => .inl (hm i hi), fun i hi => hm i (by omega), fun i hi _ _ => hl i hi, ⟨fun _ => [], fun h hh => ⟨hl h (by omega), fun x => ⟨fun z => (List.not_mem_nil z).elim, fun z => absurd z.2.2.1 (h1 x z.2.1)⟩⟩⟩, ?_⟩
    rw [nz _ 64 fun i hi => by simp [hl i hi], nz _ 64 fun i hi => by simp [hm i hi]]
  · exact ⟨[], fun i hi => .inl (hm i hi), fun i _ hi => hm i hi, fun i hi _ => hl i hi, fun p hp => (List.not_mem_nil hp).elim, List.nodup_nil, fun x => ⟨fun z => (List.not_mem_nil z).elim, fun z => absurd z.2 (h1 x (by omega))⟩, trivial, List.Pairwise.nil⟩
  · refine ⟨fun i hi => .inl (hm i hi), fun i hi a => absurd a (h1 i (by omega)), fun h d hh hd => ?_, ?_⟩
    · rw [hl h (by omega), b_0]
      have h5 : (h + d) % 32 < 64 := by omega
      exact ⟨fun z => absurd z (by decide), fun z => absurd z.1 (h1 _ h5)⟩
    · rw [nz _ 32 fun i hi => by simp [hm i (by omega)], nz (hp_bits l) 1024 fun q hq => ?_]
      unfold hp_bits
      rw [hl (q / 32) (by omega), b_0]
theorem tb_empty {e : Nat} (he : e < 8) {w : Int32} {K V M L : Nat → Int32} (hm : ∀ j, j < 512 → M j = 0) (hl : ∀ j, j < 512 → L j = 0) : tb_t e w K V M L [] := by
  have h1 : ∀ i, i < 64 → rg_r (64 * e) M i = 0 := fun i hi => by rw [rg_at hi]; exact hm _ (by omega)
  refine ⟨tb_zero he h1 (fun i hi => by rw [rg_at hi]; exact hl _ (by omega)), ?_⟩
  have : cc_c (rg_r (64 * e) K) (rg_r (64 * e) V) (rg_r (64 * e) M) = [] := by
    have n : (cc_c (rg_r (64 * e) K) (rg_r (64 * e) V) (rg_r (64 * e) M)).length = 0 := by
      unfold cc_c
      rw [nb_len, nb_ext (p := fun _ => false) 64 fun i hi => by simp [h1 i hi]]
      rfl
    exact List.eq_nil_of_length_eq_zero n
  rw [this]
theorem tb_nm {q : Nat} (h : q < 2 ^ 31) : ¬ nI q = -1 := by
  intro z
  have : nI q < 0 := by rw [z]; decide
  exact nI_pos h this
section
variable {fh w : Int32} {K V M L P Q : Nat → Int32}
theorem tb_find {post : Int32 → Prop} {c : Int32} {e : Nat} {ml : List (Int32 × Int32)} (he : e < 8) (I : tb_t e w K V M L ml) (F : fd_ok (64 * e) K M c post) : wpX_find post (fh, w, K, V, M, L, P, Q) (nI e) c := by
  rcases tb_8 he with z | z | z | z | z | z | z | z <;> subst z
  · refine br_f (by decide) (br_f (by decide) (br_t (by decide) ?_))
    unfold wX_find_48
    exact pr_find (e := 0) (by decide) I.1 F
  · refine br_f (by decide) (br_f (by decide) (br_f (by decide) (br_t (by decide) ?_)))
    unfold wX_find_48
    exact pr_find (e := 1) (by decide) I.1 F
  · refine br_f (by decide) (br_f (by decide) (br_f (by decide) (br_f (by decide) (br_t (by decide) ?_))))
    unfold wX_find_48
    exact pr_find (e := 2) (by decide) I.1 F
  · refine br_f (by decide) (br_f (by decide) (br_f (by decide) (br_f (by decide) (br_f (by decide) (br_t (by decide) ?_)))))
    exact rb_find I.1 F
  · refine br_f (by decide) (br_f (by decide) (br_f (by decide) (br_f (by decide) (br_f (by decide) (br_f (by decide) (br_t (by decide) ?_))))))
    exact ck_find I.1 F
  · refine br_f (by decide) (br_f (by decide) (br_f (by decide) (br_f (by decide) (br_f (by decide) (br_f (by decide) (br_f (by decide) (br_t (by decide) ?_)))))))
    unfold wX_find_67
    exact cn_find I.1 F
  · refine br_f (by decide) (br_f (by decide) (br_f (by decide) (br_f (by decide) (br_f (by decide) (br_f (by decide) (br_f (by decide) (br_f (by decide) (br_t (by decide) ?_))))))))
    unfold wX_find_67
    exact co_find I.1 F
  · refine br_f (by decide) (br_f (by decide) (br_f (by decide) (br_f (by decide) (br_f (by decide) (br_f (by decide) (br_f (by decide) (br_f (by decide) (br_f (by decide) (br_t (by decide) ?_)))))))))
    exact hp_find I.1 F
theorem tb_insert {post : SX → Prop} {c v : Int32} {e : Nat} {ml : List (Int32 × Int32)} (he : e < 8) (I : tb_t e w K V M L ml) (hl : ml.length < 32) (F : kn_k (64 * e) (tb_I e w) ((c, v) :: ml) fh w K V M L P Q post) : wpX_insert post (fh, w, K, V, M, L, P, Q) (nI e) c v := by
  rcases tb_8 he with z | z | z | z | z | z | z | z <;> subst z
  · refine br_f (by decide) (br_f (by decide) (br_t (by decide) ?_))
    unfold wX_insert_48
    exact pr_insert (e := 0) (by decide) I.1 hl I.2 F
  · refine br_f (by decide) (br_f (by decide) (br_f (by decide) (br_t (by decide) ?_)))
    unfold wX_insert_48
    exact pr_insert (e := 1) (by decide) I.1 hl I.2 F
  · refine br_f (by decide) (br_f (by decide) (br_f (by decide) (br_f (by decide) (br_t (by decide) ?_))))
    unfold wX_insert_48
    exact pr_insert (e := 2) (by decide) I.1 hl I.2 F
  · refine br_f (by decide) (br_f (by decide) (br_f (by decide) (br_f (by decide) (br_f (by decide) (br_t (by decide) ?_)))))
    exact rb_insert I.1 hl I.2 F
  · refine br_f (by decide) (br_f (by decide) (br_f (by decide) (br_f (by decide) (br_f (by decide) (br_f (by decide) (br_t (by decide) ?_))))))
    exact ck_insert I.1 hl I.2 F
  · refine br_f (by decide) (br_f (by decide) (br_f (by decide) (br_f (by decide) (br_f (by decide) (br_f (by decide) (br_f (by decide) (br_t (by decide) ?_)))))))
    exact cn_insert I.1 hl I.2 F
  · refine br_f (by decide) (br_f (by decide) (br_f (by decide) (br_f (by decide) (br_f (by decide) (br_f (by decide) (br_f (by decide) (br_f (by decide) (br_t (by decide) ?_))))))))
    exact co_insert I.1 hl I.2 F
  · refine br_f (by decide) (br_f (by decide) (br_f (by decide) (br_f (by decide) (br_f (by decide) (br_f (by decide) (br_f (by decide) (br_f (by decide) (br_f (by decide) (br_t (by decide) ?_)))))))))
    exact hp_insert I.1 hl I.2 F
theorem tb_take {post : SX → Prop} {e i : Nat} {ml : List (Int32 × Int32)} (he : e < 8) (I : tb_t e w K V M L ml) (n : ct_nd ml) (hl : ml.length < 25) (hi : i < 64) (hh : rg_r (64 * e) M i = 1) (F : kn_k (64 * e) (tb_I e w) (ct_er (rg_r (64 * e) K i) ml) fh w K V M L P Q post) : wpX_takeOut post (fh, w, K, V, M, L, P, Q) (nI e) (nI (64 * e + i)) := by
  have left : ∀ e, (e = 1 ∨ e = 2) → pr_inv w e (rg_r (64 * e) K) (rg_r (64 * e) M) → rg_r (64 * e) M i = 1 → List.Perm (cc_c (rg_r (64 * e) K) (rg_r (64 * e) V) (rg_r (64 * e) M)) ml → kn_k (64 * e) (fun k m _ => pr_inv w e k m) (ct_er (rg_r (64 * e) K i) ml) fh w K V M L P Q post →
      vp_in (nI (64 * e + i)) 512 ∧ ∀ a : Nat → Int32, a = upd M (nI (64 * e + i)).toNatClampNeg (vp_nar .byte 2) → post (fh, w, K, V, a, L, P, Q) := by
    intro e he J hh pm F
    have hi3 : i < 32 := by
      rcases Nat.lt_or_ge i 32 with q | q
      · exact q
      · rw [J.2.1 i q hi] at hh; exact absurd hh (by decide)
    refine ⟨vp_in_nI (by omega) (by decide), nm_r (e' := upd M (64 * e + i) 2) (by rw [nI_clamp (by omega), hm_n2]) ?_⟩
    refine F K V _ L fr_r fr_r (fr_u fr_r hi) fr_r ?_ ?_
    · rw [rg_upd hi]; exact pr_left (by omega) hi3 J
    · rw [rg_upd hi]; exact cc_take hi hh (by decide) n pm
  rcases tb_8 he with z | z | z | z | z | z | z | z <;> subst z
  · refine br_f (by decide) (br_f (by decide) (br_t (by decide) ?_))
    unfold wX_takeOut_48
    have e0 : 64 * 0 + i = i := by omega
    rw [e0]
    exact ln_take hi hh I.1 n hl I.2 F
  · refine br_f (by decide) (br_f (by decide) (br_f (by decide) (br_t (by decide) ?_)))
    exact left 1 (.inl rfl) I.1 hh I.2 F
  · refine br_f (by decide) (br_f (by decide) (br_f (by decide) (br_f (by decide) (br_t (by decide) ?_))))
    exact left 2 (.inr rfl) I.1 hh I.2 F
  · refine br_f (by decide) (br_f (by decide) (br_f (by decide) (br_f (by decide) (br_f (by decide) (br_t (by decide) ?_)))))
    unfold wX_takeOut_48
    exact rb_take hi hh I.1 n hl I.2 F
  · refine br_f (by decide) (br_f (by decide) (br_f (by decide) (br_f (by decide) (br_f (by decide) (br_f (by decide) (br_t (by decide) ?_))))))
    refine ⟨vp_in_nI (by omega) (by decide), nm_r (e' := upd M (256 + i) 0) (by rw [nI_clamp (by omega), hm_n0]) ?_⟩
    refine F K V _ L fr_r fr_r (fr_u fr_r hi) fr_r ?_ ?_
    · show ck_inv w (rg_r 256 K) (rg_r 256 (upd M (256 + i) 0))
      rw [rg_upd hi]; exact ck_take I.1
    · show List.Perm (cc_c (rg_r 256 K) (rg_r 256 V) (rg_r 256 (upd M (256 + i) 0))) _
      rw [rg_upd hi]; exact cc_take hi hh (by decide) n I.2
  · refine br_f (by decide) (br_f (by decide) (br_f (by decide) (br_f (by decide) (br_f (by decide) (br_f (by decide) (br_f (by decide) (br_t (by decide) ?_)))))))
    exact cn_take hi hh I.1 n I.2 F
  · refine br_f (by decide) (br_f (by decide) (br_f (by decide) (br_f (by decide) (br_f (by decide) (br_f (by decide) (br_f (by decide) (br_f (by decide) (br_t (by decide) ?_))))))))
    exact co_take hi hh I.1 n hl I.2 F
  · refine br_f (by decide) (br_f (by decide) (br_f (by decide) (br_f (by decide) (br_f (by decide) (br_f (by decide) (br_f (by decide) (br_f (by decide) (br_f (by decide) (br_t (by decide) ?_)))))))))
    exact hp_takeX hi hh I.1 n I.2 F
end
end
section
/-! all tables at once -/
theorem ev_len {c x : Int32} {ml : List (Int32 × Int32)} (n : ct_nd ml) (h : (c, x) ∈ ml) : (ct_er c ml).length + 1 = ml.length := by
  have := (ct_er2 n h).length_eq
  rw [List.length_cons] at this
  exact this.symm
/-- a state that stands for ml -/
def st_ok (fh w : Int32) (K V M L : Nat → Int32) (ml : List (Int32 × Int32)) : Prop := fh = nI ml.length ∧ ct_nd ml ∧ ml.length ≤ 24 ∧ ∀ e, e < 8 → tb_t e w K V M L ml
theorem st_pm {fh w : Int32} {K V M L : Nat → Int32} {ml ml' : List (Int32 × Int32)} (p : List.Perm ml ml') (h : st_ok fh w K V M L ml) : st_ok fh w K V M L ml' :=
  ⟨by rw [← p.length_eq]; exact h.1, ct_ndP p h.2.1, by rw [← p.length_eq]; exact h.2.2.1, fun e he => tb_pm p (h.2.2.2 e he)⟩
section
variable {fh w : Int32} {K V M L P Q : Nat → Int32}
/-- a search in one table, told by the content -/
theorem ev_find {post : Int32 → Prop} {c : Int32} {e : Nat} {ml : List (Int32 × Int32)} (he : e < 8) (I : tb_t e w K V M L ml)
    (h1 : ∀ i, i < 64 → rg_r (64 * e) M i = 1 → rg_r (64 * e) K i = c → (c, rg_r (64 * e) V i) ∈ ml → post (nI (64 * e + i))) (h0 : (∀ x, (c, x) ∉ ml) → post (-1)) : wpX_find post (fh, w, K, V, M, L, P, Q) (nI e) c := by
  refine tb_find he I ⟨fun i hi a d => h1 i hi a d ?_, fun hn => h0 fun x hx => ?_⟩
  · have := I.2.subset (cc_in (k := rg_r (64 * e) K) (v := rg_r (64 * e) V) hi a)
    rw [d] at this
    exact this
  · obtain ⟨i, hi, a, d, _⟩ := cc_of (I.2.symm.subset hx)
    exact hn i hi a d
theorem ev_setL {post : SX → Prop} {c v x3 fh' : Int32} {ml : List (Int32 × Int32)} (n : ct_nd ml) (hl : ml.length ≤ 24) (hx : (x3 = 0 ∧ fh' = fh) ∨ (¬ x3 = 0 ∧ fh' = fh + 1))
    (F : ∀ K' V' M' L', (∀ e, e < 8 → tb_t e w K' V' M' L' ((c, v) :: ct_er c ml)) → post (fh', w, K', V', M', L', P, Q)) :
    ∀ k j (K V M L : Nat → Int32), j ≤ 8 → 8 - j < k → (∀ e, e < j → tb_t e w K V M L ((c, v) :: ct_er c ml)) → (∀ e, j ≤ e → e < 8 → tb_t e w K V M L ml) →
      wX_setEverywhere_19 post c v x3 k (nI j) fh w K V M L P Q := by
  intro k
  induction k with
  | zero => intro j K V M L _ hk; omega
  | succ k ih =>
    intro j K V M L hj hk hd ht
    refine pk_le 8 j (fun h5 => ?_) (fun h5 => ?_)
    · have G := F K V M L (fun e he => hd e (by omega))
      rcases hx with ⟨x0, f0⟩ | ⟨x0, f0⟩
      · rw [f0] at G; exact br_t x0 G
      · rw [f0] at G; exact br_f x0 (nm_e G)
    · have hj8 : j < 8 := by omega
      have I := ht j (by omega) hj8
      refine ev_find hj8 I (fun i hi a d hin => br_f (tb_nm (by omega)) ?_) (fun hno => br_t rfl ?_)
      · refine ⟨vp_in_nI (by omega) (by decide), nm_r (e' := upd V (64 * j + i) v) (by rw [nI_clamp (by omega)]) (nm_r (nI_1 _) ?_)⟩
        refine ih (j + 1) _ _ _ _ (by omega) (by omega) (fun e he => ?_) (fun e he1 he2 => tb_fr (e := j) (by omega) fr_r (fr_u fr_r hi) fr_r fr_r (ht e (by omega) he2))
        by_cases ej : e = j
        · subst ej
          refine ⟨I.1, ?_⟩
          rw [rg_upd hi]
          have := cc_set (x := v) hi a n I.2
          rw [d] at this
          exact this
        · exact tb_fr (e := j) ej fr_r (fr_u fr_r hi) fr_r fr_r (hd e (by omega))
      · refine tb_insert hj8 I (by omega) fun K' V' M' L' fK fV fM fL I' pm' => nm_r (nI_1 _) ?_
        refine ih (j + 1) _ _ _ _ (by omega) (by omega) (fun e he => ?_) (fun e he1 he2 => tb_fr (e := j) (by omega) fK fV fM fL (ht e (by omega) he2))
        by_cases ej : e = j
        · subst ej
          refine ⟨I', ?_⟩
          rw [ct_er0 hno]
          exact pm'
        · exact tb_fr (e := j) ej fK fV fM fL (hd e (by omega))
theorem ev_set {post : SX → Prop} {c v : Int32} {ml : List (Int32 × Int32)} (I : st_ok fh w K V M L ml)
    (F : ∀ fh' K' V' M' L', fh' = nI ((c, v) :: ct_er c ml).length → (∀ e, e < 8 → tb_t e w K' V' M' L' ((c, v) :: ct_er c ml)) → post (fh', w, K', V', M', L', P, Q)) : wpX_setEverywhere post (fh, w, K, V, M, L, P, Q) c v := by
  obtain ⟨hf, n, hl, ht⟩ := I
  unfold wpX_setEverywhere
  dsimp only
  refine ev_find (e := 0) (by decide) (ht 0 (by decide)) (fun i hi a d hin => br_f (tb_nm (by omega)) ⟨9, ?_⟩) (fun hno => br_t rfl ⟨9, ?_⟩)
  · refine ev_setL (fh' := fh) n hl (.inl ⟨rfl, rfl⟩) (fun K' V' M' L' h => F fh K' V' M' L' ?_ h) 9 0 K V M L (by omega) (by omega) (fun e he => by omega) (fun e _ he => ht e he)
    rw [List.length_cons, ev_len n hin]
    exact hf
  · refine ev_setL (fh' := fh + 1) n hl (.inr ⟨by decide, rfl⟩) (fun K' V' M' L' h => F (fh + 1) K' V' M' L' ?_ h) 9 0 K V M L (by omega) (by omega) (fun e he => by omega) (fun e _ he => ht e he)
    rw [List.length_cons, ct_er0 hno, hf, nI_1]
theorem ev_takeL {post : Int32 → SX → Prop} {c x2 fh' : Int32} {ml : List (Int32 × Int32)} (n : ct_nd ml) (hl : ml.length ≤ 24) (hx : (x2 = 0 ∧ fh' = fh) ∨ (x2 = 1 ∧ fh' = fh - 1))
    (F : ∀ K' V' M' L', (∀ e, e < 8 → tb_t e w K' V' M' L' (ct_er c ml)) → post x2 (fh', w, K', V', M', L', P, Q)) :
    ∀ k j (K V M L : Nat → Int32), j ≤ 8 → 8 - j < k → (∀ e, e < j → tb_t e w K V M L (ct_er c ml)) → (∀ e, j ≤ e → e < 8 → tb_t e w K V M L ml) →
      wX_takeEverywhere_18 post c x2 k (nI j) fh w K V M L P Q := by
  intro k
  induction k with
  | zero => intro j K V M L _ hk; omega
  | succ k ih =>
    intro j K V M L hj hk hd ht
    refine pk_le 8 j (fun h5 => ?_) (fun h5 => ?_)
    · have G := F K V M L (fun e he => hd e (by omega))
      rcases hx with ⟨x0, f0⟩ | ⟨x0, f0⟩
      · subst x0; rw [f0] at G; exact br_t rfl ⟨rfl, G⟩
      · subst x0; rw [f0] at G; exact br_f (by decide) (nm_e ⟨rfl, G⟩)
    · have hj8 : j < 8 := by omega
      have I := ht j (by omega) hj8
      refine ev_find hj8 I (fun i hi a d hin => br_f (tb_nm (by omega)) ?_) (fun hno => br_t rfl (nm_r (nI_1 _) ?_))
      · refine tb_take hj8 I n (by omega) hi a fun K' V' M' L' fK fV fM fL I' pm' => nm_r (nI_1 _) ?_
        refine ih (j + 1) _ _ _ _ (by omega) (by omega) (fun e he => ?_) (fun e he1 he2 => tb_fr (e := j) (by omega) fK fV fM fL (ht e (by omega) he2))
        by_cases ej : e = j
        · subst ej
          rw [d] at pm'
          exact ⟨I', pm'⟩
        · exact tb_fr (e := j) ej fK fV fM fL (hd e (by omega))
      · refine ih (j + 1) _ _ _ _ (by omega) (by omega) (fun e he => ?_) (fun e he1 he2 => ht e (by omega) he2)
        by_cases ej : e = j
        · subst ej
          rw [ct_er0 hno]
          exact I
        · exact hd e (by omega)
theorem ev_take {post : Int32 → SX → Prop} {c : Int32} {ml : List (Int32 × Int32)} (I : st_ok fh w K V M L ml)
    (F : ∀ fh' K' V' M' L', st_ok fh' w K' V' M' L' (ct_er c ml) → ((∃ x, (c, x) ∈ ml) → post 1 (fh', w, K', V', M', L', P, Q)) ∧ ((∀ x, (c, x) ∉ ml) → post 0 (fh', w, K', V', M', L', P, Q))) : wpX_takeEverywhere post (fh, w, K, V, M, L, P, Q) c := by
  obtain ⟨hf, n, hl, ht⟩ := I
  have hle : (ct_er c ml).length ≤ 24 := Nat.le_trans (List.length_filter_le _ _) hl
  unfold wpX_takeEverywhere
  dsimp only
  refine ev_find (e := 0) (by decide) (ht 0 (by decide)) (fun i hi a d hin => br_f (tb_nm (by omega)) ⟨9, ?_⟩) (fun hno => br_t rfl ⟨9, ?_⟩)
  · refine ev_takeL (fh' := fh - 1) n hl (.inr ⟨rfl, rfl⟩) (fun K' V' M' L' h => (F (fh - 1) K' V' M' L' ⟨?_, ct_erN n, hle, h⟩).1 ⟨_, hin⟩) 9 0 K V M L (by omega) (by omega) (fun e he => by omega) (fun e _ he => ht e he)
    rw [hf, ← ev_len n hin, nI_pred]
  · refine ev_takeL (fh' := fh) n hl (.inl ⟨rfl, rfl⟩) (fun K' V' M' L' h => (F fh K' V' M' L' ⟨?_, ct_erN n, hle, h⟩).2 hno) 9 0 K V M L (by omega) (by omega) (fun e he => by omega) (fun e _ he => ht e he)
    rw [ct_er0 hno]; exact hf
theorem ev_wipeL {post : SX → Prop} (F : ∀ M' L' : Nat → Int32, (∀ j, j < 512 → M' j = 0) → (∀ j, j < 512 → L' j = 0) → post (0, w, K, V, M', L', P, Q)) :
    ∀ k j (M L : Nat → Int32), j ≤ 512 → 512 - j < k → (∀ i, i < j → M i = 0) → (∀ i, i < j → L i = 0) → wX_wipe_2 post fh w k (nI j) K V M L P Q := by
  intro k
  induction k with
  | zero => intro j M L _ hk; omega
  | succ k ih =>
    intro j M L hj hk hm hl
    refine pk_le 512 j (fun h5 => F M L (fun i hi => hm i (by omega)) (fun i hi => hl i (by omega))) (fun h5 => ?_)
    have hi : vp_in (nI j) 512 := vp_in_nI (by omega) (by decide)
    refine ⟨hi, nm_r (e' := upd M j 0) (by rw [nI_clamp (by omega), hm_n0]) ⟨hi, nm_r (e' := upd L j 0) (by rw [nI_clamp (by omega)]) (nm_r (nI_1 _) ?_)⟩⟩
    refine ih (j + 1) _ _ (by omega) (by omega) (fun i hi => ?_) (fun i hi => ?_)
    · by_cases e : i = j
      · rw [e, pk_us]
      · rw [pk_un e]; exact hm i (by omega)
    · by_cases e : i = j
      · rw [e, pk_us]
      · rw [pk_un e]; exact hl i (by omega)
theorem ev_wipe {post : SX → Prop} (F : ∀ M' L' : Nat → Int32, (∀ w', st_ok 0 w' K V M' L' []) → post (0, w, K, V, M', L', P, Q)) : wpX_wipe post (fh, w, K, V, M, L, P, Q) :=
  ⟨513, ev_wipeL (fun M' L' hm hl => F M' L' fun w' => ⟨rfl, List.nodup_nil, by simp, fun e he => tb_empty he hm hl⟩) 513 0 M L (by omega) (by omega) (fun i hi => by omega) (fun i hi => by omega)⟩
end
end
section
/-! listKeys, and what sift and scatter make of it -/
def ar_l (ks vs : Nat → Int32) (n : Nat) : List (Int32 × Int32) := ct_con (fun i => some (ks i, vs i)) n
theorem ar_s (ks vs : Nat → Int32) (n : Nat) : ar_l ks vs (n + 1) = (ks n, vs n) :: ar_l ks vs n := rfl
theorem ar_len (ks vs : Nat → Int32) : ∀ n, (ar_l ks vs n).length = n := by
  intro n
  induction n with
  | zero => rfl
  | succ n ih => rw [ar_s, List.length_cons, ih]
theorem ar_ext {ks vs ks' vs' : Nat → Int32} {n : Nat} (h1 : ∀ i, i < n → ks' i = ks i) (h2 : ∀ i, i < n → vs' i = vs i) : ar_l ks' vs' n = ar_l ks vs n :=
  ct_ext n fun i hi => by rw [h1 i hi, h2 i hi]
theorem ar_mem {ks vs : Nat → Int32} {n : Nat} {p : Int32 × Int32} : p ∈ ar_l ks vs n ↔ ∃ i, i < n ∧ (ks i, vs i) = p := by
  unfold ar_l
  rw [ct_mem]
  exact ⟨fun ⟨i, hi, e⟩ => ⟨i, hi, Option.some.inj e⟩, fun ⟨i, hi, e⟩ => ⟨i, hi, congrArg some e⟩⟩
theorem ct_pre (s : Nat → Option (Int32 × Int32)) : ∀ n m, m ≤ n → ct_nd (ct_con s n) → ct_nd (ct_con s m) := by
  intro n
  induction n with
  | zero => intro m hm h; rw [show m = 0 by omega]; exact h
  | succ n ih =>
    intro m hm h
    by_cases e : m = n + 1
    · rw [e]; exact h
    · refine ih m (by omega) ?_
      have h' : ((((s n).toList ++ ct_con s n)).map Prod.fst).Nodup := h
      rw [List.map_append, List.nodup_append] at h'
      exact h'.2.1
theorem ct_nodup : ∀ {l : List (Int32 × Int32)}, ct_nd l → l.Nodup := by
  intro l
  induction l with
  | nil => intro _; exact List.nodup_nil
  | cons p l ih =>
    intro h
    have h' : (p.1 :: l.map Prod.fst).Nodup := h
    have h2 := List.nodup_cons.mp h'
    exact List.nodup_cons.mpr ⟨fun z => h2.1 (List.mem_map.mpr ⟨p, z, rfl⟩), ih h2.2⟩
/-- a key's rest, as the reference has it -/
def mt_r (m k : Int32) : Int32 := ((k - k / m * m) + m) - ((k - k / m * m) + m) / m * m
theorem mt_add {t m : Int32} (h1 : -2000 < t.toInt) (h2 : t.toInt < 2000) (h3 : 0 ≤ m.toInt) (h4 : m.toInt ≤ 1000) : (t + m).toInt = t.toInt + m.toInt := by
  rw [Int32.toInt_add]
  exact Int.bmod_eq_of_le (by omega) (by omega)
theorem mt_x {m k : Int32} (h1 : 1 ≤ m.toInt) (h2 : m.toInt ≤ 1000) : (0 ≤ k - k / m * m → mt_r m k = k - k / m * m) ∧ (¬ 0 ≤ k - k / m * m → mt_r m k = (k - k / m * m) + m) := by
  have hb := tmod_bounds (a := k.toInt) (M := m.toInt) (by omega)
  have ht := rem_toInt k m
  rw [← ht] at hb
  unfold mt_r
  generalize k - k / m * m = t at *
  have ha : (t + m).toInt = t.toInt + m.toInt := mt_add (by omega) (by omega) (by omega) h2
  have hr := rem_toInt (t + m) m
  have z0 : (0 : Int32).toInt = 0 := by decide
  constructor
  · intro h
    have h0 : 0 ≤ t.toInt := by
      have := Int32.le_iff_toInt_le.mp h
      rw [z0] at this
      exact this
    apply Int32.toInt_inj.mp
    rw [hr, ha, Int.tmod_eq_emod_of_nonneg (by omega), Int.add_emod_right]
    exact Int.emod_eq_of_lt h0 (by omega)
  · intro h
    have h0 : t.toInt < 0 := by
      have : ¬ 0 ≤ t.toInt := fun z => h (Int32.le_iff_toInt_le.mpr (by rw [z0]; exact z))
      omega
    apply Int32.toInt_inj.mp
    rw [hr, ha, Int.tmod_eq_emod_of_nonneg (by omega)]
    exact Int.emod_eq_of_lt (by omega) (by omega)
theorem mt_1 (k : Int32) : mt_r 1 k = 0 := by
  have e1 : (1 : Int32).toInt = 1 := by decide
  have hr := rem_toInt ((k - k / 1 * 1) + 1) 1
  apply Int32.toInt_inj.mp
  show (mt_r 1 k).toInt = _
  unfold mt_r
  rw [hr, e1, Int.tmod_one]
  decide
def mt_f (m r : Int32) (p : Int32 × Int32) : Bool := decide (mt_r m p.1 = r)
section
variable {fh w : Int32} {K V M L P Q : Nat → Int32}
theorem ls_loop {post : Int32 → SX → Prop} {m r : Int32} (h1 : 1 ≤ m.toInt) (h2 : m.toInt ≤ 1000) (hc : (ct_con (ct_sl (rg_r 0 K) (rg_r 0 V) (rg_r 0 M)) 64).length ≤ 24)
    (F : ∀ P' Q' cnt, cnt ≤ 24 → ar_l P' Q' cnt = (ct_con (ct_sl (rg_r 0 K) (rg_r 0 V) (rg_r 0 M)) 32).filter (mt_f m r) → post (nI cnt) (fh, w, K, V, M, L, P', Q')) :
    ∀ n i (P Q : Nat → Int32) cnt, i ≤ 32 → 32 - i < n → ar_l P Q cnt = (ct_con (ct_sl (rg_r 0 K) (rg_r 0 V) (rg_r 0 M)) i).filter (mt_f m r) →
      wX_listKeys_5 post m r fh w n (nI cnt) (nI i) K V M L P Q := by
  intro n
  induction n with
  | zero => intro i P Q cnt _ hn; omega
  | succ n ih =>
    intro i P Q cnt hi hn hcnt
    have len : ∀ j cnt' P' Q', j ≤ 64 → ar_l P' Q' cnt' = (ct_con (ct_sl (rg_r 0 K) (rg_r 0 V) (rg_r 0 M)) j).filter (mt_f m r) → cnt' ≤ 24 := by
      intro j cnt' P' Q' hj e
      have e1 := ar_len P' Q' cnt'
      rw [e] at e1
      have e2 : ((ct_con (ct_sl (rg_r 0 K) (rg_r 0 V) (rg_r 0 M)) j).filter (mt_f m r)).length ≤ (ct_con (ct_sl (rg_r 0 K) (rg_r 0 V) (rg_r 0 M)) j).length := List.length_filter_le _ _
      have e3 := ct_lenM (ct_sl (rg_r 0 K) (rg_r 0 V) (rg_r 0 M)) j 64 hj
      omega
    refine pk_le 32 i (fun h5 => ?_) (fun h5 => ?_)
    · have e : i = 32 := by omega
      subst e
      exact F P Q cnt (len 32 cnt P Q (by omega) hcnt) hcnt
    · have hi6 : i < 64 := by omega
      have eK : rg_r 0 K i = K i := by rw [rg_at hi6, Nat.zero_add]
      have eV : rg_r 0 V i = V i := by rw [rg_at hi6, Nat.zero_add]
      have eM : rg_r 0 M i = M i := by rw [rg_at hi6, Nat.zero_add]
      have m0 : ¬ m = 0 := fun z => by rw [z] at h1; exact absurd h1 (by decide)
      have hin : vp_in (nI i) 512 := vp_in_nI (by omega) (by decide)
      refine ⟨hin, m0, ?_⟩
      rw [nI_clamp (by omega)]
      -- the common end
      have tail : wX_listKeys_34 post (wX_listKeys_5 post m r fh w n) m r (nI cnt) (nI i) (mt_r m (K i)) fh w K V M L P Q := by
        refine ⟨hin, ?_⟩
        rw [nI_clamp (by omega)]
        refine br_c (fun a => br_c (fun b => ?_) (fun b => nm_r (nI_1 _) ?_)) (fun a => nm_r (nI_1 _) ?_)
        · have hs : ct_con (ct_sl (rg_r 0 K) (rg_r 0 V) (rg_r 0 M)) (i + 1) = (K i, V i) :: ct_con (ct_sl (rg_r 0 K) (rg_r 0 V) (rg_r 0 M)) i := by
            show (ct_sl (rg_r 0 K) (rg_r 0 V) (rg_r 0 M) i).toList ++ _ = _
            rw [ct_sl1 (by rw [eM]; exact a), eK, eV]
            rfl
          have hf : (ct_con (ct_sl (rg_r 0 K) (rg_r 0 V) (rg_r 0 M)) (i + 1)).filter (mt_f m r) = (K i, V i) :: (ct_con (ct_sl (rg_r 0 K) (rg_r 0 V) (rg_r 0 M)) i).filter (mt_f m r) := by
            rw [hs, List.filter_cons_of_pos]
            unfold mt_f
            simp [b]
          have new : ar_l (upd P cnt (K i)) (upd Q cnt (V i)) (cnt + 1) = (ct_con (ct_sl (rg_r 0 K) (rg_r 0 V) (rg_r 0 M)) (i + 1)).filter (mt_f m r) := by
            rw [ar_s, pk_us, pk_us, hf, ← hcnt]
            exact congrArg _ (ar_ext (fun j hj => pk_un (by omega)) (fun j hj => pk_un (by omega)))
          have hl := len (i + 1) (cnt + 1) _ _ (by omega) new
          refine pk_le 24 cnt (fun h => absurd h (by omega)) (fun h => ?_)
          have hin2 : vp_in (nI cnt) 24 := vp_in_nI (by omega) (by decide)
          refine ⟨hin, hin2, nm_r (e' := upd P cnt (K i)) (by rw [nI_clamp (by omega)]) ⟨hin, hin2, nm_r (e' := upd Q cnt (V i)) (by rw [nI_clamp (by omega)]) (nm_r (nI_1 _) (nm_r (nI_1 _) ?_))⟩⟩
          exact ih (i + 1) _ _ (cnt + 1) (by omega) (by omega) new
        · refine ih (i + 1) P Q cnt (by omega) (by omega) ?_
          show _ = ((ct_sl (rg_r 0 K) (rg_r 0 V) (rg_r 0 M) i).toList ++ _).filter (mt_f m r)
          rw [ct_sl1 (by rw [eM]; exact a), eK, eV, hcnt]
          show _ = ((K i, V i) :: _).filter (mt_f m r)
          have hneg : ¬ mt_f m r (K i, V i) = true := by
            unfold mt_f
            simp [b]
          rw [List.filter_cons_of_neg hneg]
          rfl
        · refine ih (i + 1) P Q cnt (by omega) (by omega) ?_
          show _ = ((ct_sl (rg_r 0 K) (rg_r 0 V) (rg_r 0 M) i).toList ++ _).filter (mt_f m r)
          rw [ct_sl0 (by rw [eM]; exact a), hcnt]
          rfl
      refine nm_e (br_c (fun h => ?_) (fun h => nm_e ?_))
      · rw [← (mt_x h1 h2).1 h]; exact tail
      · rw [← (mt_x h1 h2).2 h]; exact tail
theorem ls_keys {post : Int32 → SX → Prop} {m r : Int32} {ml : List (Int32 × Int32)} (I : st_ok fh w K V M L ml) (h1 : 1 ≤ m.toInt) (h2 : m.toInt ≤ 1000)
    (F : ∀ P' Q' cnt, cnt ≤ 24 → List.Perm (ar_l P' Q' cnt) (ml.filter (mt_f m r)) → post (nI cnt) (fh, w, K, V, M, L, P', Q')) : wpX_listKeys post (fh, w, K, V, M, L, P, Q) m r := by
  have T := I.2.2.2 0 (by decide)
  have hp : List.Perm (ct_con (ct_sl (rg_r 0 K) (rg_r 0 V) (rg_r 0 M)) 64) ml := T.2
  have hz : ∀ i, 32 ≤ i → i < 64 → rg_r 0 M i = 0 := (show pr_inv w 0 (rg_r 0 K) (rg_r 0 M) from T.1).2.1
  have key : ∀ n, n ≤ 32 → ct_con (ct_sl (rg_r 0 K) (rg_r 0 V) (rg_r 0 M)) (32 + n) = ct_con (ct_sl (rg_r 0 K) (rg_r 0 V) (rg_r 0 M)) 32 := by
    intro n
    induction n with
    | zero => intro _; rfl
    | succ n ih =>
      intro hn
      show (ct_sl (rg_r 0 K) (rg_r 0 V) (rg_r 0 M) (32 + n)).toList ++ ct_con _ (32 + n) = _
      rw [ct_sl0 (by rw [hz (32 + n) (by omega) (by omega)]; decide), ih (by omega)]
      rfl
  have e64 := key 32 (by omega)
  refine ⟨33, ls_loop h1 h2 (by rw [hp.length_eq]; exact I.2.2.1) (fun P' Q' cnt hc e => F P' Q' cnt hc ?_) 33 0 P Q 0 (by omega) (by omega) rfl⟩
  rw [e, ← e64]
  exact hp.filter _
/-- sift: the listed keys, taken one by one -/
def sf_er (P : Nat → Int32) (ml : List (Int32 × Int32)) : Nat → List (Int32 × Int32)
  | 0 => ml
  | j + 1 => ct_er (P j) (sf_er P ml j)
theorem sf_mem {ml : List (Int32 × Int32)} {p : Int32 × Int32} : ∀ j, p ∈ sf_er P ml j ↔ p ∈ ml ∧ ∀ i, i < j → P i ≠ p.1 := by
  intro j
  induction j with
  | zero => exact ⟨fun h => ⟨h, fun i hi => by omega⟩, fun h => h.1⟩
  | succ j ih =>
    show p ∈ ct_er (P j) (sf_er P ml j) ↔ _
    rw [ct_erM, ih]
    constructor
    · intro ⟨⟨a, b⟩, c⟩
      refine ⟨a, fun i hi => ?_⟩
      by_cases e : i = j
      · rw [e]; exact Ne.symm c
      · exact b i (by omega)
    · intro ⟨a, b⟩
      exact ⟨⟨a, fun i hi => b i (by omega)⟩, Ne.symm (b j (by omega))⟩
theorem sf_nd {ml : List (Int32 × Int32)} (h : ct_nd ml) : ∀ j, ct_nd (sf_er P ml j) := by
  intro j
  induction j with
  | zero => exact h
  | succ j ih => exact ct_erN ih
theorem sf_end {m r : Int32} {ml : List (Int32 × Int32)} {cnt : Nat} (n : ct_nd ml) (hp : List.Perm (ar_l P Q cnt) (ml.filter (mt_f m r))) : List.Perm (sf_er P ml cnt) (ml.filter (fun p => !mt_f m r p)) := by
  refine (List.perm_ext_iff_of_nodup (ct_nodup (sf_nd n cnt)) (List.Nodup.sublist List.filter_sublist (ct_nodup n))).mpr fun p => ?_
  rw [sf_mem, List.mem_filter]
  constructor
  · intro ⟨a, b⟩
    refine ⟨a, ?_⟩
    by_cases z : mt_f m r p = true
    · have := hp.symm.subset (List.mem_filter.mpr ⟨a, z⟩)
      obtain ⟨i, hi, e⟩ := ar_mem.mp this
      exact absurd (congrArg Prod.fst e) (b i hi)
    · simpa using z
  · intro ⟨a, b⟩
    refine ⟨a, fun i hi e => ?_⟩
    have := hp.subset (ar_mem.mpr ⟨i, hi, rfl⟩)
    have z := (List.mem_filter.mp this).2
    unfold mt_f at z b
    rw [e] at z
    simp [of_decide_eq_true z] at b
theorem sf_loop {post : Int32 → SX → Prop} {ml : List (Int32 × Int32)} {cnt : Nat} (hcnt : cnt ≤ 24)
    (F : ∀ fh' K' V' M' L', st_ok fh' w K' V' M' L' (sf_er P ml cnt) → post (nI cnt) (fh', w, K', V', M', L', P, Q)) :
    ∀ n j (fh : Int32) (K V M L : Nat → Int32), j ≤ cnt → cnt - j < n → st_ok fh w K V M L (sf_er P ml j) → wX_sift_34 post (nI cnt) n (nI j) fh w K V M L P Q := by
  intro n
  induction n with
  | zero => intro j fh K V M L _ hn; omega
  | succ n ih =>
    intro j fh K V M L hj hn I
    refine pk_le cnt j (fun h5 => ?_) (fun h5 => ⟨vp_in_nI (by omega) (by decide), ?_⟩)
    · have e : j = cnt := by omega
      subst e
      exact F _ _ _ _ _ I
    · rw [nI_clamp (by omega)]
      refine ev_take I fun fh' K' V' M' L' I' => ?_
      have W : ∀ r : Int32, (fun (r_16 : Int32) (u : SX) => match u with | (a, b, c, d, e, f, g, h) => ∀ x4_25 : Int32, x4_25 = nI j + 1 → wX_sift_34 post (nI cnt) n x4_25 a b c d e f g h) r (fh', w, K', V', M', L', P, Q) :=
        fun _ => nm_r (nI_1 _) (ih (j + 1) fh' K' V' M' L' (by omega) (by omega) I')
      exact ⟨fun _ => W 1, fun _ => W 0⟩
theorem sf_sift {post : Int32 → SX → Prop} {m r : Int32} {ml : List (Int32 × Int32)} (I : st_ok fh w K V M L ml) (h1 : 1 ≤ m.toInt) (h2 : m.toInt ≤ 1000)
    (F : ∀ fh' K' V' M' L' P' Q', st_ok fh' w K' V' M' L' (ml.filter (fun p => !mt_f m r p)) → post (nI (ml.filter (mt_f m r)).length) (fh', w, K', V', M', L', P', Q')) :
    wpX_listKeys (fun r_5 u => match u with | (a, b, c, d, e, f, g, h) => ∃ n34 : Nat, wX_sift_34 post r_5 n34 0 a b c d e f g h) (fh, w, K, V, M, L, P, Q) m r := by
  refine ls_keys I h1 h2 fun P' Q' cnt hc hp => ⟨cnt + 1, ?_⟩
  refine sf_loop hc (fun fh' K' V' M' L' I' => ?_) (cnt + 1) 0 fh K V M L (by omega) (by omega) I
  have := F fh' K' V' M' L' P' Q' (st_pm (sf_end I.2.1 hp) I')
  rw [← hp.length_eq, ar_len] at this
  exact this
/-- scatter: the listed keys, set one by one -/
theorem sc_loop {post : SX → Prop} {cnt : Nat} (hcnt : cnt ≤ 24) (n : ct_nd (ar_l P Q cnt))
    (F : ∀ fh' K' V' M' L', st_ok fh' w K' V' M' L' (ar_l P Q cnt) → post (fh', w, K', V', M', L', P, Q)) :
    ∀ k j (fh : Int32) (K V M L : Nat → Int32), j ≤ cnt → cnt - j < k → st_ok fh w K V M L (ar_l P Q j) → wX_scatter_18 post (nI cnt) k (nI j) fh w K V M L P Q := by
  intro k
  induction k with
  | zero => intro j fh K V M L _ hn; omega
  | succ k ih =>
    intro j fh K V M L hj hn I
    refine pk_le cnt j (fun h5 => ?_) (fun h5 => ⟨vp_in_nI (by omega) (by decide), vp_in_nI (by omega) (by decide), ?_⟩)
    · have e : j = cnt := by omega
      subst e
      exact F _ _ _ _ _ I
    · rw [nI_clamp (by omega)]
      have nj : ct_nd (ar_l P Q (j + 1)) := ct_pre _ cnt (j + 1) (by omega) n
      have hno : ∀ x, (P j, x) ∉ ar_l P Q j := by
        intro x hx
        have nj' : (P j :: (ar_l P Q j).map Prod.fst).Nodup := nj
        exact (List.nodup_cons.mp nj').1 (List.mem_map.mpr ⟨_, hx, rfl⟩)
      refine ev_set I fun fh' K' V' M' L' hf ht => nm_r (nI_1 _) ?_
      rw [ct_er0 hno] at hf ht
      refine ih (j + 1) fh' K' V' M' L' (by omega) (by omega) ⟨hf, nj, ?_, ht⟩
      rw [ar_len]; omega
end
end
section
/-! the questions -/
theorem qs_ny {v k x : Int32} {l : List (Int32 × Int32)} (d : x = v) : ct_num v ((k, x) :: l) = ct_num v l + 1 := by
  unfold ct_num
  rw [List.countP_cons]
  simp [d]
theorem qs_nn {v k x : Int32} {l : List (Int32 × Int32)} (d : ¬ x = v) : ct_num v ((k, x) :: l) = ct_num v l := by
  unfold ct_num
  rw [List.countP_cons]
  simp [d]
section
variable {fh w : Int32} {K V M L P Q : Nat → Int32}
theorem qs_b {e : Nat} : nI e * 64 = nI (64 * e) := (pk_mul e 64).trans (congrArg nI (by omega))
theorem qs_count {post : Int32 → Prop} {v : Int32} {b : Nat} (hb : b ≤ 448) (F : post (nI (ct_num v (cc_c (rg_r b K) (rg_r b V) (rg_r b M))))) :
    ∀ n i, i ≤ 64 → 64 - i < n → wX_count_21 post v (nI b) fh w K V M L P Q n (nI (ct_num v (ct_con (ct_sl (rg_r b K) (rg_r b V) (rg_r b M)) i))) (nI (b + i)) := by
  intro n
  induction n with
  | zero => intro i _ hn; omega
  | succ n ih =>
    intro i hi hn
    refine pk_le (b + 64) (b + i) (fun h5 => ?_) (fun h5 => ⟨vp_in_nI (by omega) (by decide), ?_⟩) (nI_add b 64)
    · have e : i = 64 := by omega
      subst e
      exact F
    · have hi6 : i < 64 := by omega
      rw [nI_clamp (by omega), ← rg_at (b := b) (a := M) hi6, ← rg_at (b := b) (a := V) hi6]
      have hin : vp_in (nI (b + i)) 512 := vp_in_nI (by omega) (by decide)
      have ih' := ih (i + 1) (by omega) (by omega)
      have st : ct_con (ct_sl (rg_r b K) (rg_r b V) (rg_r b M)) (i + 1) = (ct_sl (rg_r b K) (rg_r b V) (rg_r b M) i).toList ++ ct_con (ct_sl (rg_r b K) (rg_r b V) (rg_r b M)) i := rfl
      rw [st] at ih'
      refine br_c (fun a => ⟨hin, br_c (fun d => nm_r (nI_1 _) (nm_r (nI_1 _) ?_)) (fun d => nm_r (nI_1 _) ?_)⟩) (fun a => nm_r (nI_1 _) ?_)
      · rw [ct_sl1 a] at ih'
        have e : ct_num v ((some (rg_r b K i, rg_r b V i)).toList ++ ct_con (ct_sl (rg_r b K) (rg_r b V) (rg_r b M)) i) = ct_num v (ct_con (ct_sl (rg_r b K) (rg_r b V) (rg_r b M)) i) + 1 := qs_ny d
        rw [e] at ih'
        exact ih'
      · rw [ct_sl1 a] at ih'
        have e : ct_num v ((some (rg_r b K i, rg_r b V i)).toList ++ ct_con (ct_sl (rg_r b K) (rg_r b V) (rg_r b M)) i) = ct_num v (ct_con (ct_sl (rg_r b K) (rg_r b V) (rg_r b M)) i) := qs_nn d
        rw [e] at ih'
        exact ih'
      · rw [ct_sl0 a] at ih'
        exact ih'
theorem qs_sum {post : Int32 → Prop} {b : Nat} (hb : b ≤ 448) (F : post (ct_sum (cc_c (rg_r b K) (rg_r b V) (rg_r b M)))) :
    ∀ n i, i ≤ 64 → 64 - i < n → wX_sum_19 post (nI b) fh w K V M L P Q n (ct_sum (ct_con (ct_sl (rg_r b K) (rg_r b V) (rg_r b M)) i)) (nI (b + i)) := by
  intro n
  induction n with
  | zero => intro i _ hn; omega
  | succ n ih =>
    intro i hi hn
    refine pk_le (b + 64) (b + i) (fun h5 => ?_) (fun h5 => ⟨vp_in_nI (by omega) (by decide), ?_⟩) (nI_add b 64)
    · have e : i = 64 := by omega
      subst e
      exact F
    · have hi6 : i < 64 := by omega
      rw [nI_clamp (by omega), ← rg_at (b := b) (a := M) hi6, ← rg_at (b := b) (a := V) hi6]
      have hin : vp_in (nI (b + i)) 512 := vp_in_nI (by omega) (by decide)
      have ih' := ih (i + 1) (by omega) (by omega)
      have st : ct_con (ct_sl (rg_r b K) (rg_r b V) (rg_r b M)) (i + 1) = (ct_sl (rg_r b K) (rg_r b V) (rg_r b M) i).toList ++ ct_con (ct_sl (rg_r b K) (rg_r b V) (rg_r b M)) i := rfl
      rw [st] at ih'
      refine br_c (fun a => ⟨hin, nm_r (e' := ct_sum ((some (rg_r b K i, rg_r b V i)).toList ++ ct_con (ct_sl (rg_r b K) (rg_r b V) (rg_r b M)) i)) ?_ (nm_r (nI_1 _) ?_)⟩) (fun a => nm_r (nI_1 _) ?_)
      · show _ = rg_r b V i + ct_sum (ct_con (ct_sl (rg_r b K) (rg_r b V) (rg_r b M)) i)
        exact Int32.add_comm _ _
      · rw [ct_sl1 a] at ih'
        exact ih'
      · rw [ct_sl0 a] at ih'
        exact ih'
/-- the least key, or 0 -/
def qs_least (r : Int32) (l : List (Int32 × Int32)) : Prop := (l = [] ∧ r = 0) ∨ ((∃ x, (r, x) ∈ l) ∧ ∀ p, p ∈ l → r ≤ p.1)
theorem qs_leastU {r r' : Int32} {l l' : List (Int32 × Int32)} (p : List.Perm l l') (h : qs_least r l) (h' : qs_least r' l') : r' = r := by
  rcases h with ⟨e, z⟩ | ⟨⟨x, hx⟩, hr⟩
  · subst e
    have e' : l' = [] := p.symm.eq_nil
    subst e'
    rcases h' with ⟨_, z'⟩ | ⟨⟨x', hx'⟩, _⟩
    · rw [z, z']
    · exact (List.not_mem_nil hx').elim
  · rcases h' with ⟨e', _⟩ | ⟨⟨x', hx'⟩, hr'⟩
    · subst e'
      exact (List.not_mem_nil (p.subset hx)).elim
    · exact Int32.le_antisymm (hr' _ (p.subset hx)) (hr _ (p.symm.subset hx'))
theorem qs_leastL {post : Int32 → Prop} (F : ∀ r, qs_least r (ct_con (ct_sl (rg_r 0 K) (rg_r 0 V) (rg_r 0 M)) 32) → post r) :
    ∀ n i r x, i ≤ 32 → 32 - i < n → (x = 0 ∧ r = 0 ∧ ct_con (ct_sl (rg_r 0 K) (rg_r 0 V) (rg_r 0 M)) i = [] ∨ ¬ x = 0 ∧ (∃ y, (r, y) ∈ ct_con (ct_sl (rg_r 0 K) (rg_r 0 V) (rg_r 0 M)) i) ∧ ∀ p, p ∈ ct_con (ct_sl (rg_r 0 K) (rg_r 0 V) (rg_r 0 M)) i → r ≤ p.1) →
      wX_least_6 post fh w K V M L P Q n r x (nI i) := by
  intro n
  induction n with
  | zero => intro i r x _ hn; omega
  | succ n ih =>
    intro i r x hi hn J
    refine pk_le 32 i (fun h5 => ?_) (fun h5 => ⟨vp_in_nI (by omega) (by decide), ?_⟩)
    · have e : i = 32 := by omega
      subst e
      refine F r ?_
      rcases J with ⟨_, j2, j3⟩ | ⟨_, j2, j3⟩
      · exact .inl ⟨j3, j2⟩
      · exact .inr ⟨j2, j3⟩
    · have hi6 : i < 64 := by omega
      have hin : vp_in (nI i) 512 := vp_in_nI (by omega) (by decide)
      have eK : rg_r 0 K i = K i := by rw [rg_at hi6, Nat.zero_add]
      have eM : rg_r 0 M i = M i := by rw [rg_at hi6, Nat.zero_add]
      rw [nI_clamp (by omega), ← eM, ← eK]
      have st : ct_con (ct_sl (rg_r 0 K) (rg_r 0 V) (rg_r 0 M)) (i + 1) = (ct_sl (rg_r 0 K) (rg_r 0 V) (rg_r 0 M) i).toList ++ ct_con (ct_sl (rg_r 0 K) (rg_r 0 V) (rg_r 0 M)) i := rfl
      have take : rg_r 0 M i = 1 → (∀ p, p ∈ ct_con (ct_sl (rg_r 0 K) (rg_r 0 V) (rg_r 0 M)) i → rg_r 0 K i ≤ p.1) → wX_least_36 post (wX_least_6 post fh w K V M L P Q n) (nI i) fh w K V M L P Q := by
        intro a hall
        refine ⟨hin, nm_r (e' := rg_r 0 K i) (by rw [nI_clamp (by omega), eK]) (nm_r (nI_1 _) ?_)⟩
        refine ih (i + 1) _ _ (by omega) (by omega) (.inr ⟨by decide, ?_⟩)
        rw [st, ct_sl1 a]
        refine ⟨⟨rg_r 0 V i, List.mem_cons_self⟩, fun p hp => ?_⟩
        rcases List.mem_cons.mp hp with e | hp
        · rw [e]; exact Int32.le_refl _
        · exact hall p hp
      refine br_c (fun a => ?_) (fun a => nm_r (nI_1 _) ?_)
      · rcases J with ⟨j1, j2, j3⟩ | ⟨j1, j2, j3⟩
        · exact br_t j1 (take a fun p hp => by rw [j3] at hp; exact (List.not_mem_nil hp).elim)
        · refine br_f j1 ⟨hin, br_c (fun d => nm_r (nI_1 _) ?_) (fun d => take a fun p hp => ?_)⟩
          · refine ih (i + 1) r x (by omega) (by omega) (.inr ⟨j1, ?_⟩)
            rw [st, ct_sl1 a]
            obtain ⟨y, hy⟩ := j2
            refine ⟨⟨y, List.mem_cons_of_mem _ hy⟩, fun p hp => ?_⟩
            rcases List.mem_cons.mp hp with e | hp
            · rw [e]; exact d
            · exact j3 p hp
          · exact Int32.le_trans (Int32.le_of_lt (Int32.not_le.mp d)) (j3 p hp)
      · refine ih (i + 1) r x (by omega) (by omega) ?_
        rw [st, ct_sl0 a]
        exact J
/-- what one table has, another has -/
theorem qs_within {post : Int32 → Prop} {e1 e2 : Nat} {ml : List (Int32 × Int32)} (h1 : e1 < 8) (h2 : e2 < 8) (I1 : tb_t e1 w K V M L ml) (I2 : tb_t e2 w K V M L ml) (n : ct_nd ml) (F : post 1) : wpX_isWithin post (fh, w, K, V, M, L, P, Q) (nI e1) (nI e2) := by
  have loop : ∀ n i, i ≤ 64 → 64 - i < n → wX_isWithin_8 post (nI e2) (nI (64 * e1)) fh w K V M L P Q n (nI (64 * e1 + i)) := by
    intro k
    induction k with
    | zero => intro i _ hn; omega
    | succ k ih =>
      intro i hi hn
      refine pk_le (64 * e1 + 64) (64 * e1 + i) (fun h5 => F) (fun h5 => ⟨vp_in_nI (by omega) (by decide), ?_⟩) (nI_add _ 64)
      have hi6 : i < 64 := by omega
      have hin : vp_in (nI (64 * e1 + i)) 512 := vp_in_nI (by omega) (by decide)
      rw [nI_clamp (by omega), ← rg_at (b := 64 * e1) (a := M) hi6, ← rg_at (b := 64 * e1) (a := K) hi6, ← rg_at (b := 64 * e1) (a := V) hi6]
      refine br_c (fun a => ⟨hin, ?_⟩) (fun a => nm_r (nI_1 _) (ih (i + 1) (by omega) (by omega)))
      have m1 := I1.2.subset (cc_in (k := rg_r (64 * e1) K) (v := rg_r (64 * e1) V) hi6 a)
      refine ev_find h2 I2 (fun j hj b d hm => br_f (tb_nm (by omega)) ⟨vp_in_nI (by omega) (by decide), hin, ?_⟩) (fun hno => absurd m1 (hno _))
      rw [nI_clamp (by omega), ← rg_at (b := 64 * e2) (a := V) hj]
      exact br_t (ct_fun n hm m1) (nm_r (nI_1 _) (ih (i + 1) (by omega) (by omega)))
  unfold wpX_isWithin
  dsimp only
  refine nm_r (e' := nI (64 * e1)) qs_b ⟨65, ?_⟩
  exact loop 65 0 (by omega) (by omega)
theorem qs_bin {e : Nat} {k m l : Nat → Int32} (he : e < 8) (h1 : e ≠ 1) (h2 : e ≠ 2) (I : tb_I e w k m l) : ∀ i, i < 64 → m i = 0 ∨ m i = 1 := by
  rcases tb_8 he with z | z | z | z | z | z | z | z <;> subst z
  · exact (show pr_inv w 0 k m from I).2.2 rfl
  · exact absurd rfl h1
  · exact absurd rfl h2
  · exact (show rb_inv w k m from I).2.1
  · exact (show ck_inv w k m from I).2
  · exact (show cn_inv w k m l from I).1
  · obtain ⟨PS, S⟩ := (show co_inv w k m l from I)
    exact S.1
  · exact (show hp_inv w k m l from I).1
theorem qs_table {post : Int32 → Prop} {e : Nat} {ml : List (Int32 × Int32)} (he : e < 8) (I : tb_t e w K V M L ml) (n : ct_nd ml) (hl : ml.length ≤ 24) (hf : fh = nI ml.length) (F : post 1) : wpX_isTableSound post (fh, w, K, V, M, L, P, Q) (nI e) := by
  have hlen : nb_n (fun i => decide (rg_r (64 * e) M i = 1)) 64 = ml.length := by
    rw [← nb_len (rg_r (64 * e) K) (rg_r (64 * e) V)]
    exact I.2.length_eq
  have ndc : ct_nd (cc_c (rg_r (64 * e) K) (rg_r (64 * e) V) (rg_r (64 * e) M)) := ct_ndP I.2.symm n
  have loop : ∀ n i, i ≤ 64 → 64 - i < n → wX_isTableSound_10 post (nI e) (nI (64 * e)) fh w K V M L P Q n (nI (nb_n (fun i => decide (rg_r (64 * e) M i = 1)) i)) (nI (64 * e + i)) := by
    intro k
    induction k with
    | zero => intro i _ hn; omega
    | succ k ih =>
      intro i hi hn
      refine pk_le (64 * e + 64) (64 * e + i) (fun h5 => ?_) (fun h5 => ⟨vp_in_nI (by omega) (by decide), ?_⟩) (nI_add _ 64)
      · have e64 : i = 64 := by omega
        subst e64
        rw [hlen, hf]
        exact br_t rfl F
      have hi6 : i < 64 := by omega
      have hin : vp_in (nI (64 * e + i)) 512 := vp_in_nI (by omega) (by decide)
      have ih' := ih (i + 1) (by omega) (by omega)
      have st : nb_n (fun i => decide (rg_r (64 * e) M i = 1)) (i + 1) = nb_n (fun i => decide (rg_r (64 * e) M i = 1)) i + (if decide (rg_r (64 * e) M i = 1) = true then 1 else 0) := rfl
      rw [st] at ih'
      rw [nI_clamp (by omega), ← rg_at (b := 64 * e) (a := M) hi6, ← rg_at (b := 64 * e) (a := K) hi6]
      refine br_c (fun a => nm_r (nI_1 _) ⟨hin, ?_⟩) (fun a => ⟨hin, ?_⟩)
      · rw [if_pos (by simp [a])] at ih'
        have m1 := I.2.subset (cc_in (k := rg_r (64 * e) K) (v := rg_r (64 * e) V) hi6 a)
        refine ev_find he I (fun j hj b d hm => ?_) (fun hno => absurd m1 (hno _))
        have ej : j = i := cc_uni ndc hj hi6 b a d
        subst ej
        exact br_t rfl (nm_r (nI_1 _) ih')
      · rw [if_neg (by simp [a])] at ih'
        refine br_c (fun b => ?_) (fun b => nm_r (nI_1 _) ih')
        refine pk_eq e 1 (fun _ => nm_r (nI_1 _) ih') (fun z1 => pk_eq e 2 (fun _ => nm_r (nI_1 _) ih') (fun z2 => ?_))
        rcases qs_bin he z1 z2 I.1 i hi6 with q | q
        · rw [q] at b; exact absurd b (by decide)
        · exact absurd q a
  unfold wpX_isTableSound
  dsimp only
  refine nm_r (e' := nI (64 * e)) qs_b ⟨65, ?_⟩
  exact loop 65 0 (by omega) (by omega)
theorem qs_chains {post : Int32 → Prop} {ml : List (Int32 × Int32)} (I : tb_t 5 w K V M L ml) (hl : ml.length ≤ 24) (hf : fh = nI ml.length) (F : post 1) : wpX_areChainsSound post (fh, w, K, V, M, L, P, Q) := by
  have hlen : nb_n (fun i => decide (¬ rg_r 320 L i = 0)) 64 = ml.length := by
    rw [(show cn_inv w (rg_r 320 K) (rg_r 320 M) (rg_r 320 L) from I.1).2.2.2.2, ← nb_len (rg_r 320 K) (rg_r 320 V)]
    exact I.2.length_eq
  have loop : ∀ n i, i ≤ 64 → 64 - i < n → wX_areChainsSound_8 post (nI 320) fh w K V M L P Q n (nI (nb_n (fun i => decide (¬ rg_r 320 L i = 0)) i)) (nI (320 + i)) := by
    intro k
    induction k with
    | zero => intro i _ hn; omega
    | succ k ih =>
      intro i hi hn
      refine pk_le (320 + 64) (320 + i) (fun h5 => ?_) (fun h5 => ⟨vp_in_nI (by omega) (by decide), ?_⟩) (nI_add _ 64)
      · have e64 : i = 64 := by omega
        subst e64
        rw [hlen, hf]
        exact br_t rfl F
      have hi6 : i < 64 := by omega
      have ih' := ih (i + 1) (by omega) (by omega)
      have st : nb_n (fun i => decide (¬ rg_r 320 L i = 0)) (i + 1) = nb_n (fun i => decide (¬ rg_r 320 L i = 0)) i + (if decide (¬ rg_r 320 L i = 0) = true then 1 else 0) := rfl
      rw [st] at ih'
      rw [nI_clamp (by omega), ← rg_at (b := 320) (a := L) hi6]
      refine br_c (fun a => nm_r (nI_1 _) ?_) (fun a => nm_r (nI_1 _) (nm_r (nI_1 _) ?_))
      · rw [if_neg (by simp [a])] at ih'
        exact ih'
      · rw [if_pos (by simp [a])] at ih'
        exact ih'
  exact ⟨65, loop 65 0 (by omega) (by omega)⟩
theorem qs_lists {post : Int32 → Prop} {ml : List (Int32 × Int32)} (I : tb_t 6 w K V M L ml) (F : post 1) : wpX_areListsSound post (fh, w, K, V, M, L, P, Q) := by
  have J : co_inv w (rg_r 384 K) (rg_r 384 M) (rg_r 384 L) := I.1
  have loop : ∀ n i, i ≤ 64 → 64 - i < n → wX_areListsSound_6 post (nI 384) fh w K V M L P Q n (nI (384 + i)) := by
    intro k
    induction k with
    | zero => intro i _ hn; omega
    | succ k ih =>
      intro i hi hn
      refine pk_le (384 + 64) (384 + i) (fun h5 => F) (fun h5 => ?_) (nI_add _ 64)
      have hi6 : i < 64 := by omega
      have hin : vp_in (nI (384 + i)) 512 := vp_in_nI (by omega) (by decide)
      have ih' := ih (i + 1) (by omega) (by omega)
      rcases co_link J hi6 with z | ⟨a, j, j1, j2, j3⟩
      · have z' : L (384 + i) = nI 0 := by rw [← rg_at (b := 384) (a := L) hi6]; exact z
        refine hw_next (q := 384 + i) (j := 0) rfl (by omega) z' (by decide) ⟨hin, ?_⟩
        rw [nI_clamp (n := 384 + i) (by omega)]
        exact br_t z' (br_t rfl (nm_r (nI_1 _) ih'))
      · have j4 : L (384 + i) = nI (384 + j) := by rw [← rg_at (b := 384) (a := L) hi6]; exact j3
        refine hw_next (q := 384 + i) (j := 384 + j) rfl (by omega) j4 (by omega) ⟨hin, ?_⟩
        rw [nI_clamp (n := 384 + i) (by omega), nI_clamp (n := 384 + j) (by omega), ← rg_at (b := 384) (a := M) hi6, ← rg_at (b := 384) (a := M) (i := j) (by omega)]
        exact br_t j4 (br_f (nI_ne0 (by omega) (by omega)) ⟨hin, br_t a ⟨vp_in_nI (by omega) (by decide), br_t j2 (nm_r (nI_1 _) ih')⟩⟩)
  exact ⟨65, loop 65 0 (by omega) (by omega)⟩
theorem nb_le (p : Nat → Bool) : ∀ n, nb_n p n ≤ n := by
  intro n
  induction n with
  | zero => exact Nat.le_refl _
  | succ n ih =>
    show nb_n p n + _ ≤ n + 1
    by_cases e : p n = true
    · rw [if_pos e]; omega
    · rw [if_neg e]; omega
theorem qs_hops {post : Int32 → Prop} {ml : List (Int32 × Int32)} (I : tb_t 7 w K V M L ml) (F : post 1) : wpX_areHopsSound post (fh, w, K, V, M, L, P, Q) := by
  have J : hp_inv w (rg_r 448 K) (rg_r 448 M) (rg_r 448 L) := I.1
  have loop : ∀ n i, i ≤ 32 → 32 - i < n → wX_areHopsSound_11 post (nI 448) fh w K V M L P Q n (nI (nb_n (hp_bits (rg_r 448 L)) (32 * i))) (nI (nb_n (fun i => decide (rg_r 448 M i = 1)) i)) (nI (448 + i)) := by
    intro k
    induction k with
    | zero => intro i _ hn; omega
    | succ k ih =>
      intro i hi hn
      refine pk_le (448 + 32) (448 + i) (fun h5 => ?_) (fun h5 => ⟨33, ?_⟩) (nI_add _ 32)
      · have e32 : i = 32 := by omega
        subst e32
        have := J.2.2.2
        rw [show 32 * 32 = 1024 from rfl, this]
        exact br_t rfl F
      have hi6 : i < 64 := by omega
      have hin : vp_in (nI (448 + i)) 512 := vp_in_nI (by omega) (by decide)
      have ih' := ih (i + 1) (by omega) (by omega)
      have st : nb_n (fun i => decide (rg_r 448 M i = 1)) (i + 1) = nb_n (fun i => decide (rg_r 448 M i = 1)) i + (if decide (rg_r 448 M i = 1) = true then 1 else 0) := rfl
      rw [st] at ih'
      have inner : ∀ n d, d ≤ 32 → 32 - d < n → wX_areHopsSound_23 post (wX_areHopsSound_11 post (nI 448) fh w K V M L P Q k) (nI 448) (nI (nb_n (fun i => decide (rg_r 448 M i = 1)) i)) (nI (448 + i)) fh w K V M L P Q n (nI (nb_n (hp_bits (rg_r 448 L)) (32 * i + d))) (nI d) := by
        intro n
        induction n with
        | zero => intro d _ hn; omega
        | succ n ih2 =>
          intro d hd hn
          refine pk_le 32 d (fun h5 => ⟨hin, ?_⟩) (fun h5 => ⟨hin, ?_⟩)
          · have e32 : d = 32 := by omega
            subst e32
            rw [nI_clamp (n := 448 + i) (by omega), ← rg_at (b := 448) (a := M) hi6]
            rw [show 32 * (i + 1) = 32 * i + 32 by omega] at ih'
            refine br_c (fun a => nm_r (nI_1 _) (nm_r (nI_1 _) ?_)) (fun a => nm_r (nI_1 _) ?_)
            · rw [if_pos (by simp [a])] at ih'
              exact ih'
            · rw [if_neg (by simp [a])] at ih'
              exact ih'
          · rw [nI_clamp (n := 448 + i) (by omega), ← rg_at (b := 448) (a := L) hi6, hb_bit _ (by omega)]
            refine nm_r (e' := nI (nb_n (hp_bits (rg_r 448 L)) (32 * i + (d + 1)))) ?_ (nm_r (nI_1 _) (ih2 (d + 1) (by omega) (by omega)))
            show _ = nI (nb_n (hp_bits (rg_r 448 L)) (32 * i + d) + (if hp_bits (rg_r 448 L) (32 * i + d) = true then 1 else 0))
            have eb : hp_bits (rg_r 448 L) (32 * i + d) = bt (rg_r 448 L i) d := by
              unfold hp_bits
              rw [show (32 * i + d) / 32 = i by omega, show (32 * i + d) % 32 = d by omega]
            rw [eb]
            by_cases z : bt (rg_r 448 L i) d = true
            · rw [if_pos z, if_pos z, nI_1]
            · rw [if_neg z, if_neg z, Int32.add_zero, Nat.add_zero]
      exact inner 33 0 (by omega) (by omega)
  exact ⟨33, loop 33 0 (by omega) (by omega)⟩
theorem qs_sound {post : Int32 → Prop} {ml : List (Int32 × Int32)} (I : st_ok fh w K V M L ml) (F : post 1) : wpX_sound post (fh, w, K, V, M, L, P, Q) := by
  obtain ⟨hf, n, hl, ht⟩ := I
  have loop : ∀ k j, j ≤ 8 → 8 - j < k → wX_sound_2 post fh w K V M L P Q k (nI j) := by
    intro k
    induction k with
    | zero => intro j _ hk; omega
    | succ k ih =>
      intro j hj hk
      refine pk_le 8 j (fun h5 => ?_) (fun h5 => ?_)
      · exact qs_chains (ht 5 (by decide)) hl hf (br_f (by decide) (qs_lists (ht 6 (by decide)) (br_f (by decide) (qs_hops (ht 7 (by decide)) (br_f (by decide) F)))))
      · exact qs_table (e := j) (by omega) (ht j (by omega)) n hl hf (br_f (by decide) (qs_within (e1 := 0) (e2 := j) (by decide) (by omega) (ht 0 (by decide)) (ht j (by omega)) n (br_f (by decide) (nm_r (nI_1 _) (ih (j + 1) (by omega) (by omega))))))
  exact ⟨9, loop 9 0 (by omega) (by omega)⟩
end
end
section
/-! the reference's walks -/
section
variable {ks vs : Nat → Int32} {n : Nat}
theorem rf_findL {post : Int32 → Prop} {c : Int32} (hn : n ≤ 24) (h1 : ∀ i, i < n → ks i = c → post (nI i)) (h0 : (∀ i, i < n → ¬ ks i = c) → post (-1)) :
    ∀ k j, j ≤ n → j < k → (∀ i, j ≤ i → i < n → ¬ ks i = c) → wY_find_7 post c (nI n) ks vs k (nI j - 1) := by
  intro k
  induction k with
  | zero => intro j _ hk; omega
  | succ k ih =>
    intro j hj hk hno
    cases j with
    | zero => exact br_t (by decide) (h0 fun i hi => hno i (by omega) hi)
    | succ j =>
      rw [nI_pred]
      refine br_f (nI_pos (by omega)) ⟨vp_in_nI (by omega) (by decide), ?_⟩
      rw [nI_clamp (by omega)]
      refine br_c (fun a => h1 j (by omega) a) (fun a => nm_r (e' := nI j - 1) (Int32.sub_eq_add_neg _ _).symm ?_)
      refine ih j (by omega) (by omega) fun i hi1 hi2 => ?_
      by_cases e : i = j
      · rw [e]; exact a
      · exact hno i (by omega) hi2
theorem rf_find {post : Int32 → Prop} {c : Int32} (hn : n ≤ 24) (h1 : ∀ i, i < n → ks i = c → (c, vs i) ∈ ar_l ks vs n → post (nI i)) (h0 : (∀ x, (c, x) ∉ ar_l ks vs n) → post (-1)) : wpY_find post (nI n, ks, vs) c := by
  refine nm_e ⟨n + 1, rf_findL hn (fun i hi e => h1 i hi e (ar_mem.mpr ⟨i, hi, by rw [e]⟩)) (fun hno => h0 fun x hx => ?_) (n + 1) n (by omega) (by omega) (fun i h1 h2 => by omega)⟩
  obtain ⟨i, hi, e⟩ := ar_mem.mp hx
  exact hno i hi (congrArg Prod.fst e)
theorem rf_setP {c v : Int32} {i : Nat} (hi : i < n) (e : ks i = c) (nd : ct_nd (ar_l ks vs n)) : List.Perm (ar_l ks (upd vs i v) n) ((c, v) :: ct_er c (ar_l ks vs n)) := by
  have h := ct_upd (fun j => some (ks j, vs j)) i (some (c, v)) n hi
  have e1 : ct_con (ct_up (fun j => some (ks j, vs j)) i (some (c, v))) n = ar_l ks (upd vs i v) n := by
    refine ct_ext n fun j _ => ?_
    unfold ct_up
    by_cases ej : j = i
    · rw [if_pos ej, ej, pk_us, e]
    · rw [if_neg ej, pk_un ej]
  rw [e1] at h
  have h' : List.Perm ((c, vs i) :: ar_l ks (upd vs i v) n) ((c, v) :: ar_l ks vs n) := by rw [← e] at h ⊢; exact h
  have h2 := ct_er2 nd (ar_mem.mpr ⟨i, hi, by rw [e]⟩ : (c, vs i) ∈ ar_l ks vs n)
  exact (h'.trans ((h2.cons _).trans (List.Perm.swap _ _ _))).cons_inv
theorem rf_put {post : Int32 → SY → Prop} {c v : Int32} (hn : n ≤ 24) (nd : ct_nd (ar_l ks vs n))
    (h1 : ∀ n' ks' vs', n' ≤ 24 → List.Perm (ar_l ks' vs' n') ((c, v) :: ct_er c (ar_l ks vs n)) → ((∃ x, (c, x) ∈ ar_l ks vs n) ∨ n < 24) → post (nI n') (nI n', ks', vs'))
    (h0 : (∀ x, (c, x) ∉ ar_l ks vs n) → n = 24 → post (-1) (nI n, ks, vs)) : wpY_put post (nI n, ks, vs) c v := by
  unfold wpY_put
  dsimp only
  refine rf_find hn (fun i hi e hin => br_t (nI_pos' (by omega)) ?_) (fun hno => br_f (by decide) ?_)
  · refine ⟨vp_in_nI (by omega) (by decide), nm_r (e' := upd vs i v) (by rw [nI_clamp (by omega)]) ?_⟩
    exact h1 n ks _ hn (rf_setP hi e nd) (.inl ⟨_, hin⟩)
  · refine pk_lt n 24 (fun h => ⟨vp_in_nI h (by decide), nm_r (e' := upd ks n c) (by rw [nI_clamp (by omega)]) (nm_r (nI_1 _) ?_)⟩) (fun h => h0 hno (by omega))
    refine ⟨vp_in_nI h (by decide), nm_r (e' := upd vs n v) (by rw [nI_clamp (by omega)]) ?_⟩
    refine h1 (n + 1) _ _ (by omega) ?_ (.inr h)
    rw [ar_s, pk_us, pk_us, ct_er0 hno, ar_ext (ks := ks) (vs := vs) (fun j hj => pk_un (by omega)) (fun j hj => pk_un (by omega))]
theorem rf_delP {c : Int32} {i m : Nat} (hi : i < m + 1) (e : ks i = c) (nd : ct_nd (ar_l ks vs (m + 1))) : List.Perm (ar_l (upd ks i (ks m)) (upd vs i (vs m)) m) (ct_er c (ar_l ks vs (m + 1))) := by
  refine ct_er1 (v := vs i) ?_ nd
  by_cases ei : i = m
  · subst ei
    rw [ar_ext (ks := ks) (vs := vs) (fun j hj => pk_un (by omega)) (fun j hj => pk_un (by omega)), ar_s, e]
  · have h := ct_upd (fun j => some (ks j, vs j)) i (some (ks m, vs m)) m (by omega)
    have e1 : ct_con (ct_up (fun j => some (ks j, vs j)) i (some (ks m, vs m))) m = ar_l (upd ks i (ks m)) (upd vs i (vs m)) m := by
      refine ct_ext m fun j _ => ?_
      unfold ct_up
      by_cases ej : j = i
      · rw [if_pos ej, ej, pk_us, pk_us]
      · rw [if_neg ej, pk_un ej, pk_un ej]
    rw [e1] at h
    rw [← e]
    exact h
theorem rf_remove {post : Int32 → SY → Prop} {c : Int32} (hn : n ≤ 24) (nd : ct_nd (ar_l ks vs n))
    (h1 : ∀ n' ks' vs', n' ≤ 24 → n' < n → List.Perm (ar_l ks' vs' n') (ct_er c (ar_l ks vs n)) → (∃ x, (c, x) ∈ ar_l ks vs n) → post 1 (nI n', ks', vs'))
    (h0 : (∀ x, (c, x) ∉ ar_l ks vs n) → post 0 (nI n, ks, vs)) : wpY_remove post (nI n, ks, vs) c := by
  unfold wpY_remove
  dsimp only
  refine rf_find hn (fun i hi e hin => br_t (nI_pos' (by omega)) ?_) (fun hno => br_f (by decide) (h0 hno))
  obtain ⟨m, rfl⟩ : ∃ m, n = m + 1 := ⟨n - 1, by omega⟩
  refine nm_r (nI_pred m) ⟨vp_in_nI (by omega) (by decide), vp_in_nI (by omega) (by decide), nm_r (e' := upd ks i (ks m)) (by rw [nI_clamp (by omega), nI_clamp (by omega)]) ⟨vp_in_nI (by omega) (by decide), vp_in_nI (by omega) (by decide), nm_r (e' := upd vs i (vs m)) (by rw [nI_clamp (by omega), nI_clamp (by omega)]) ?_⟩⟩
  exact h1 m _ _ (by omega) (by omega) (rf_delP hi e nd) ⟨_, hin⟩
theorem rf_siftL {post : Int32 → SY → Prop} {m r : Int32} (hn : n ≤ 24) (m0 : ¬ m = 0)
    (F : ∀ n' ks' vs', n' ≤ n → ar_l ks' vs' n' = (ar_l ks vs n).filter (fun p => !mt_f m r p) → post (nI (n - n')) (nI n', ks', vs')) :
    ∀ k i le (ks' vs' : Nat → Int32), i ≤ n → n - i < k → le ≤ i → ar_l ks' vs' le = (ar_l ks vs i).filter (fun p => !mt_f m r p) → (∀ j, i ≤ j → ks' j = ks j ∧ vs' j = vs j) →
      wY_sift_29 post m r (nI n) k (nI le) (nI i) ks' vs' := by
  intro k
  induction k with
  | zero => intro i le ks' vs' _ hk; omega
  | succ k ih =>
    intro i le ks' vs' hi hk hle hl hr
    refine pk_le n i (fun h5 => nm_r (pk_sub (by omega)) ?_) (fun h5 => ⟨vp_in_nI (by omega) (by decide), m0, m0, ?_⟩)
    · have e : i = n := by omega
      subst e
      exact F le ks' vs' hle hl
    · rw [nI_clamp (by omega)]
      have hk1 := (hr i (Nat.le_refl _)).1
      have hv1 := (hr i (Nat.le_refl _)).2
      refine br_c (fun a => nm_r (nI_1 _) ?_) (fun a => ?_)
      · refine ih (i + 1) le ks' vs' (by omega) (by omega) (by omega) ?_ (fun j hj => hr j (by omega))
        have a' : mt_r m (ks i) = r := by rw [← hk1]; exact a
        rw [ar_s, hl]
        have hneg : ¬ (!mt_f m r (ks i, vs i)) = true := by
          unfold mt_f
          simp [a']
        rw [List.filter_cons_of_neg (p := fun p => !mt_f m r p) hneg]
      · have a' : ¬ mt_r m (ks i) = r := by rw [← hk1]; exact a
        refine ⟨vp_in_nI (by omega) (by decide), vp_in_nI (by omega) (by decide), nm_r (e' := upd ks' le (ks' i)) (by rw [nI_clamp (by omega)]) ⟨vp_in_nI (by omega) (by decide), vp_in_nI (by omega) (by decide), nm_r (e' := upd vs' le (vs' i)) (by rw [nI_clamp (by omega)]) (nm_r (nI_1 _) (nm_r (nI_1 _) ?_))⟩⟩
        refine ih (i + 1) (le + 1) _ _ (by omega) (by omega) (by omega) ?_ (fun j hj => ⟨?_, ?_⟩)
        · rw [ar_s, ar_s, pk_us, pk_us]
          have hpos : (!mt_f m r (ks i, vs i)) = true := by
            unfold mt_f
            simp [a']
          rw [List.filter_cons_of_pos (p := fun p => !mt_f m r p) hpos, ← hl, hk1, hv1]
          exact congrArg _ (ar_ext (fun j hj => pk_un (by omega)) (fun j hj => pk_un (by omega)))
        · rw [pk_un (by omega)]; exact (hr j (by omega)).1
        · rw [pk_un (by omega)]; exact (hr j (by omega)).2
theorem rf_sift {post : Int32 → SY → Prop} {m r : Int32} (hn : n ≤ 24) (m0 : ¬ m = 0)
    (F : ∀ n' ks' vs', n' ≤ n → ar_l ks' vs' n' = (ar_l ks vs n).filter (fun p => !mt_f m r p) → post (nI (n - n')) (nI n', ks', vs')) : ∃ n29 : Nat, wY_sift_29 post m r (nI n) n29 0 0 ks vs :=
  ⟨n + 1, rf_siftL hn m0 F (n + 1) 0 0 ks vs (by omega) (by omega) (by omega) rfl (fun j _ => ⟨rfl, rfl⟩)⟩
/-- which table is asked -/
theorem eg_7 {x : Int32} (h : nI 8 ≤ x) : 7 < x ∧ ¬ x < 0 ∧ (8 : Int32) ≤ x := by
  have h1 := Int32.le_iff_toInt_le.mp h
  have e8 : (nI 8).toInt = 8 := by decide
  have e7 : (7 : Int32).toInt = 7 := by decide
  have e0 : (0 : Int32).toInt = 0 := by decide
  refine ⟨?_, ?_, h⟩
  · rw [Int32.lt_iff_toInt_lt]; omega
  · rw [Int32.lt_iff_toInt_lt]; omega
theorem eg_y {post : Int32 → Prop} {x : Int32} (h0 : (x < 0 ∨ nI 8 ≤ x) → post 0) (h1 : ∀ e, e < 8 → x = nI e → post 1) {v : SY} : wpY_engine post v x := by
  obtain ⟨a, b, c⟩ := v
  rcases pk_ix x (n := 8) (by decide) with h | h | ⟨e, he, ex⟩
  · exact br_t h (h0 (.inl h))
  · exact br_f (eg_7 h).2.1 (br_t (eg_7 h).1 (h0 (.inr h)))
  · have G := h1 e he ex
    subst ex
    refine br_f (nI_pos (by omega)) (pk_lt 7 e (fun h => absurd h (by omega)) (fun _ => G))
theorem eg_x {post : Int32 → Prop} {x : Int32} (h0 : (x < 0 ∨ nI 8 ≤ x) → post 0) (h1 : ∀ e, e < 8 → x = nI e → post 1) : wpX_isEngine post x := by
  rcases pk_ix x (n := 8) (by decide) with h | h | ⟨e, he, ex⟩
  · exact br_t h (h0 (.inl h))
  · exact br_f (eg_7 h).2.1 (br_t (eg_7 h).2.2 (h0 (.inr h)))
  · have G := h1 e he ex
    subst ex
    refine br_f (nI_pos (by omega)) (pk_le 8 e (fun h => absurd h (by omega)) (fun _ => G))
theorem eg_not {x : Int32} {e : Nat} (he : e < 8) (h : x < 0 ∨ nI 8 ≤ x) : ¬ x = nI e := by
  intro z
  subst z
  rcases h with h | h
  · exact nI_pos (by omega) h
  · exact nI_ge he (by decide) h
theorem rf_num {post : Int32 → Prop} {x v : Int32} (hn : n ≤ 24) (h0 : (x < 0 ∨ nI 8 ≤ x) → post (-2)) (h1 : ∀ e, e < 8 → x = nI e → post (nI (ct_num v (ar_l ks vs n)))) : wpY_count post (nI n, ks, vs) x v := by
  have loop : ∀ k i, i ≤ n → n - i < k → wY_count_5 post x v (nI n) ks vs k (nI (ct_num v (ar_l ks vs i))) (nI i) := by
    intro k
    induction k with
    | zero => intro i _ hk; omega
    | succ k ih =>
      intro i hi hk
      refine pk_le n i (fun h5 => ?_) (fun h5 => ⟨vp_in_nI (by omega) (by decide), ?_⟩)
      · have e : i = n := by omega
        subst e
        exact eg_y (fun h => br_t rfl (h0 h)) (fun e he ex => br_f (by decide) (h1 e he ex))
      · rw [nI_clamp (by omega)]
        have ih' := ih (i + 1) (by omega) (by omega)
        rw [ar_s] at ih'
        refine br_c (fun a => nm_r (nI_1 _) (nm_r (nI_1 _) ?_)) (fun a => nm_r (nI_1 _) ?_)
        · rw [qs_ny a] at ih'; exact ih'
        · rw [qs_nn a] at ih'; exact ih'
  exact ⟨n + 1, loop (n + 1) 0 (by omega) (by omega)⟩
theorem rf_sum {post : Int32 → Prop} {x : Int32} (hn : n ≤ 24) (h0 : (x < 0 ∨ nI 8 ≤ x) → post 0) (h1 : ∀ e, e < 8 → x = nI e → post (ct_sum (ar_l ks vs n))) : wpY_sum post (nI n, ks, vs) x := by
  by_cases hx : ∃ e, e < 8 ∧ x = nI e
  · obtain ⟨e, he, ex⟩ := hx
    have loop : ∀ k i, i ≤ n → n - i < k → wY_sum_4 post x (nI n) ks vs k (ct_sum (ar_l ks vs i)) (nI i) := by
      intro k
      induction k with
      | zero => intro i _ hk; omega
      | succ k ih =>
        intro i hi hk
        refine pk_le n i (fun h5 => ?_) (fun h5 => ?_)
        · have ei : i = n := by omega
          subst ei
          exact h1 e he ex
        · refine eg_y (fun h => absurd ex (eg_not he h)) (fun _ _ _ => br_f (by decide) ⟨vp_in_nI (by omega) (by decide), ?_⟩)
          rw [nI_clamp (by omega)]
          refine nm_r (e' := ct_sum (ar_l ks vs (i + 1))) ?_ (nm_r (nI_1 _) (ih (i + 1) (by omega) (by omega)))
          rw [ar_s]
          exact Int32.add_comm _ _
    exact ⟨n + 1, loop (n + 1) 0 (by omega) (by omega)⟩
  · have hx' : x < 0 ∨ nI 8 ≤ x := by
      rcases pk_ix x (n := 8) (by decide) with h | h | h
      · exact .inl h
      · exact .inr h
      · exact absurd h hx
    refine ⟨1, pk_le n 0 (fun h5 => h0 hx') (fun h5 => ?_)⟩
    exact eg_y (fun h => br_t rfl (h0 h)) (fun e he ex => absurd ⟨e, he, ex⟩ hx)
theorem rf_least {post : Int32 → Prop} (hn : n ≤ 24) (F : ∀ r, qs_least r (ar_l ks vs n) → post r) : wpY_least post (nI n, ks, vs) := by
  have loop : ∀ k i r, i ≤ n → n - i < k → (∃ x, (r, x) ∈ ar_l ks vs n) → (∀ p, p ∈ ar_l ks vs i → r ≤ p.1) → wY_least_20 post (nI n) ks vs k r (nI i) := by
    intro k
    induction k with
    | zero => intro i r _ hk; omega
    | succ k ih =>
      intro i r hi hk hm hr
      refine pk_le n i (fun h5 => ?_) (fun h5 => ⟨vp_in_nI (by omega) (by decide), ?_⟩)
      · have e : i = n := by omega
        subst e
        exact F r (.inr ⟨hm, hr⟩)
      · rw [nI_clamp (by omega)]
        refine br_c (fun a => nm_r (nI_1 _) ?_) (fun a => ⟨vp_in_nI (by omega) (by decide), nm_e (nm_r (nI_1 _) ?_)⟩)
        · refine ih (i + 1) r (by omega) (by omega) hm fun p hp => ?_
          rw [ar_s] at hp
          rcases List.mem_cons.mp hp with e | hp
          · rw [e]; exact a
          · exact hr p hp
        · refine ih (i + 1) (ks i) (by omega) (by omega) ⟨vs i, ar_mem.mpr ⟨i, by omega, rfl⟩⟩ fun p hp => ?_
          rw [ar_s] at hp
          rcases List.mem_cons.mp hp with e | hp
          · rw [e]; exact Int32.le_refl _
          · exact Int32.le_trans (Int32.le_of_lt (Int32.not_le.mp a)) (hr p hp)
  unfold wpY_least
  dsimp only
  refine pk_le n 0 (fun h => ?_) (fun h => nm_e ?_)
  · have e : n = 0 := by omega
    subst e
    exact ⟨1, br_t (by decide) (F 0 (.inl ⟨rfl, rfl⟩))⟩
  · exact ⟨n + 1, loop (n + 1) 0 (ks 0) (by omega) (by omega) ⟨vs 0, ar_mem.mpr ⟨0, h, rfl⟩⟩ (fun p hp => (List.not_mem_nil hp).elim)⟩
end
end
section
/-! the relation -/
/-- the reference's entries are what all eight tables hold -/
def i_Rel (k : Nat) (u : SX) (v : SY) : Prop :=
  ∃ (fh w : Int32) (K V M L P Q : Nat → Int32) (n : Nat) (ks vs : Nat → Int32), u = (fh, w, K, V, M, L, P, Q) ∧ v = (nI n, ks, vs) ∧ n ≤ 24 ∧ st_ok fh w K V M L (ar_l ks vs n)
theorem i_up {k : Nat} {u : SX} {v : SY} (h : i_Rel k u v) : i_Rel (k + 3) u v := h
theorem i_vc0 : wpX_init (fun u => wpY_init (fun v => i_Rel 0 u v)) :=
  ⟨0, 0, _, _, _, _, _, _, 0, _, _, rfl, rfl, by omega, rfl, List.nodup_nil, by simp [ar_len], fun e he => tb_empty he (fun _ _ => rfl) (fun _ _ => rfl)⟩
section
variable {fh w : Int32} {K V M L P Q : Nat → Int32} {n : Nat} {ks vs : Nat → Int32}
theorem rl_mk {k : Nat} {ml : List (Int32 × Int32)} (hn : n ≤ 24) (hp : List.Perm (ar_l ks vs n) ml) (S : st_ok fh w K V M L ml) : i_Rel k (fh, w, K, V, M, L, P, Q) (nI n, ks, vs) :=
  ⟨fh, w, K, V, M, L, P, Q, n, ks, vs, rfl, rfl, hn, st_pm hp.symm S⟩
theorem rl_set {k : Nat} {c v : Int32} {ml : List (Int32 × Int32)} (hn : n ≤ 24) (hp : List.Perm (ar_l ks vs n) ((c, v) :: ct_er c ml)) (nd : ct_nd ml) (hf : fh = nI ((c, v) :: ct_er c ml).length)
    (ht : ∀ e, e < 8 → tb_t e w K V M L ((c, v) :: ct_er c ml)) : nI n = fh ∧ i_Rel k (fh, w, K, V, M, L, P, Q) (nI n, ks, vs) := by
  refine ⟨?_, rl_mk hn hp ⟨hf, ct_erC nd, ?_, ht⟩⟩
  · rw [hf, ← hp.length_eq, ar_len]
  · rw [← hp.length_eq, ar_len]; exact hn
theorem rm_for {post : Int32 → Prop} {c : Int32} {ml : List (Int32 × Int32)} (S : st_ok fh w K V M L ml) (h1 : (ml.length < 24 ∨ ∃ x, (c, x) ∈ ml) → post 1) (h0 : ml.length = 24 → (∀ x, (c, x) ∉ ml) → post 0) : wpX_hasRoomFor post (fh, w, K, V, M, L, P, Q) c := by
  have hl := S.2.2.1
  unfold wpX_hasRoomFor
  dsimp only
  refine pk_lt ml.length 24 (fun h => h1 (.inl h)) (fun h => ?_) S.1
  exact ev_find (e := 0) (by decide) (S.2.2.2 0 (by decide)) (fun i hi a d hin => br_f (tb_nm (by omega)) (h1 (.inr ⟨_, hin⟩))) (fun hno => br_t rfl (h0 (by omega) hno))
theorem eg_find {post : Int32 → Prop} {x c : Int32} (h : x < 0 ∨ nI 8 ≤ x) (F : post (-1)) : wpX_find post (fh, w, K, V, M, L, P, Q) x c := by
  rcases h with h | h
  · exact br_t h F
  · exact br_f (eg_7 h).2.1 (br_t (eg_7 h).1 F)
theorem eg_or (x : Int32) : (x < 0 ∨ nI 8 ≤ x) ∨ ∃ e, e < 8 ∧ x = nI e := by
  rcases pk_ix x (n := 8) (by decide) with h | h | h
  · exact .inl (.inl h)
  · exact .inl (.inr h)
  · exact .inr h
theorem ls_32 {ml : List (Int32 × Int32)} (I : st_ok fh w K V M L ml) : List.Perm (ct_con (ct_sl (rg_r 0 K) (rg_r 0 V) (rg_r 0 M)) 32) ml := by
  have T := I.2.2.2 0 (by decide)
  have hp : List.Perm (ct_con (ct_sl (rg_r 0 K) (rg_r 0 V) (rg_r 0 M)) 64) ml := T.2
  have hz : ∀ i, 32 ≤ i → i < 64 → rg_r 0 M i = 0 := (show pr_inv w 0 (rg_r 0 K) (rg_r 0 M) from T.1).2.1
  have key : ∀ n, n ≤ 32 → ct_con (ct_sl (rg_r 0 K) (rg_r 0 V) (rg_r 0 M)) (32 + n) = ct_con (ct_sl (rg_r 0 K) (rg_r 0 V) (rg_r 0 M)) 32 := by
    intro n
    induction n with
    | zero => intro _; rfl
    | succ n ih =>
      intro hn
      show (ct_sl (rg_r 0 K) (rg_r 0 V) (rg_r 0 M) (32 + n)).toList ++ ct_con _ (32 + n) = _
      rw [ct_sl0 (by rw [hz (32 + n) (by omega) (by omega)]; decide), ih (by omega)]
      rfl
  have e64 := key 32 (by omega)
  rw [← e64]
  exact hp
theorem ft_len (f : Int32 × Int32 → Bool) : ∀ l : List (Int32 × Int32), (l.filter f).length + (l.filter (fun p => !f p)).length = l.length := by
  intro l
  induction l with
  | nil => rfl
  | cons p l ih =>
    by_cases h : f p = true
    · rw [List.filter_cons_of_pos h, List.filter_cons_of_neg (p := fun p => !f p) (by simp [h]), List.length_cons, List.length_cons]
      omega
    · rw [List.filter_cons_of_neg h, List.filter_cons_of_pos (p := fun p => !f p) (by simpa using h), List.length_cons, List.length_cons]
      omega
theorem ft_all : ∀ l : List (Int32 × Int32), l.filter (mt_f 1 0) = l ∧ l.filter (fun p => !mt_f 1 0 p) = [] := by
  intro l
  have h : ∀ p, mt_f 1 0 p = true := fun p => by unfold mt_f; simp [mt_1]
  refine ⟨List.filter_eq_self.mpr fun p _ => h p, ?_⟩
  refine List.filter_eq_nil_iff.mpr fun p _ => ?_
  simp [h p]
theorem rl_1 {x : Int32} (h : ¬ x < 1) : 1 ≤ x.toInt := by
  rw [Int32.lt_iff_toInt_lt, show (1 : Int32).toInt = 1 by decide] at h
  omega
theorem rl_1000 {x : Int32} (h : ¬ 1000 < x) : x.toInt ≤ 1000 := by
  rw [Int32.lt_iff_toInt_lt, show (1000 : Int32).toInt = 1000 by decide] at h
  omega
end
end
section
/-! what is owed: the changes -/
theorem i_vc_put {k : Nat} {u : SX} {v : SY} (I : i_Rel k u v) (hk : k + 3 ≤ 1536) (v1 : Int32) (v2 : Int32) : wpX_put (fun r u' => wpY_put (fun r' v' => r' = r ∧ i_Rel (k + 3) u' v') v v1 v2) u v1 v2 := by
  obtain ⟨fh, w, K, V, M, L, P, Q, n, ks, vs, rfl, rfl, hn, S⟩ := I
  have nd := S.2.1
  unfold wpX_put
  dsimp only
  refine rm_for S (fun hr => br_f (by decide) (ev_set S fun fh' K' V' M' L' hf ht => ?_)) (fun h24 hno => br_t rfl ?_)
  · refine rf_put hn nd (fun n' ks' vs' hn' hp _ => rl_set hn' hp nd hf ht) (fun hno h24 => ?_)
    rw [ar_len] at hr
    rcases hr with h | ⟨x, hx⟩
    · omega
    · exact absurd hx (hno x)
  · rw [ar_len] at h24
    refine rf_put hn nd (fun n' ks' vs' hn' hp h => ?_) (fun _ _ => ⟨rfl, rl_mk hn (List.Perm.refl _) S⟩)
    rcases h with ⟨x, hx⟩ | h
    · exact absurd hx (hno x)
    · omega
theorem i_vc_remove {k : Nat} {u : SX} {v : SY} (I : i_Rel k u v) (hk : k + 3 ≤ 1536) (v1 : Int32) : wpX_remove (fun r u' => wpY_remove (fun r' v' => r' = r ∧ i_Rel (k + 3) u' v') v v1) u v1 := by
  obtain ⟨fh, w, K, V, M, L, P, Q, n, ks, vs, rfl, rfl, hn, S⟩ := I
  have nd := S.2.1
  unfold wpX_remove
  dsimp only
  refine ev_take S fun fh' K' V' M' L' S' => ⟨fun hin => ⟨rfl, ?_⟩, fun hno => ⟨rfl, ?_⟩⟩
  · refine rf_remove hn nd (fun n' ks' vs' hn' _ hp _ => ⟨rfl, rl_mk hn' hp S'⟩) (fun hno => ?_)
    obtain ⟨x, hx⟩ := hin
    exact absurd hx (hno x)
  · refine rf_remove hn nd (fun n' ks' vs' hn' _ hp hin => ?_) (fun _ => ⟨rfl, rl_mk hn (by rw [ct_er0 hno]) S'⟩)
    obtain ⟨x, hx⟩ := hin
    exact absurd hx (hno x)
theorem i_vc_add {k : Nat} {u : SX} {v : SY} (I : i_Rel k u v) (hk : k + 3 ≤ 1536) (v1 : Int32) (v2 : Int32) : wpX_add (fun r u' => wpY_add (fun r' v' => r' = r ∧ i_Rel (k + 3) u' v') v v1 v2) u v1 v2 := by
  obtain ⟨fh, w, K, V, M, L, P, Q, n, ks, vs, rfl, rfl, hn, S⟩ := I
  have nd := S.2.1
  unfold wpX_add
  dsimp only
  refine rm_for S (fun hr => br_f (by decide) ?_) (fun h24 hno => br_t rfl ?_)
  · rw [ar_len] at hr
    refine ev_find (e := 0) (by decide) (S.2.2.2 0 (by decide)) (fun i hi a d hin => br_f (tb_nm (by omega)) ⟨vp_in_nI (by omega) (by decide), ?_⟩) (fun hno => br_t rfl ?_)
    · rw [nI_clamp (by omega), ← rg_at (b := 64 * 0) (a := V) hi]
      unfold wX_add_32
      refine ev_set S fun fh' K' V' M' L' hf ht => ?_
      show wpY_add _ _ _ _
      unfold wpY_add
      dsimp only
      refine rf_find hn (fun j hj e hjn => br_t (nI_pos' (by omega)) ⟨vp_in_nI (by omega) (by decide), ?_⟩) (fun hno => absurd hin (hno _))
      rw [nI_clamp (by omega), ct_fun nd hjn hin]
      unfold wY_add_24
      exact rf_put hn nd (fun n' ks' vs' hn' hp _ => rl_set hn' hp nd hf ht) (fun hno _ => absurd hin (hno _))
    · unfold wX_add_32
      refine ev_set S fun fh' K' V' M' L' hf ht => ?_
      show wpY_add _ _ _ _
      unfold wpY_add
      dsimp only
      refine rf_find hn (fun j hj e hjn => absurd hjn (hno _)) (fun _ => br_f (by decide) ?_)
      unfold wY_add_24
      rw [Int32.zero_add] at hf ht
      refine rf_put hn nd (fun n' ks' vs' hn' hp _ => rl_set hn' hp nd hf ht) (fun _ h24 => ?_)
      rcases hr with h | ⟨x, hx⟩
      · omega
      · exact absurd hx (hno x)
  · rw [ar_len] at h24
    unfold wpY_add
    dsimp only
    refine rf_find hn (fun j hj e hjn => absurd hjn (hno _)) (fun _ => br_f (by decide) ?_)
    unfold wY_add_24
    refine rf_put hn nd (fun n' ks' vs' hn' hp h => ?_) (fun _ _ => ⟨rfl, rl_mk hn (List.Perm.refl _) S⟩)
    rcases h with ⟨x, hx⟩ | h
    · exact absurd hx (hno x)
    · omega
theorem i_vc_move {k : Nat} {u : SX} {v : SY} (I : i_Rel k u v) (hk : k + 3 ≤ 1536) (v1 : Int32) (v2 : Int32) : wpX_move (fun r u' => wpY_move (fun r' v' => r' = r ∧ i_Rel (k + 3) u' v') v v1 v2) u v1 v2 := by
  obtain ⟨fh, w, K, V, M, L, P, Q, n, ks, vs, rfl, rfl, hn, S⟩ := I
  have nd := S.2.1
  unfold wpX_move
  dsimp only
  refine ev_find (e := 0) (by decide) (S.2.2.2 0 (by decide)) (fun i hi a d hin => br_f (tb_nm (by omega)) (br_c (fun e => ?_) (fun e => ⟨vp_in_nI (by omega) (by decide), ?_⟩))) (fun hno => br_t rfl ?_)
  · unfold wpY_move
    dsimp only
    exact rf_find hn (fun j hj _ _ => br_f (nI_pos (by omega)) (br_t e ⟨rfl, rl_mk hn (List.Perm.refl _) S⟩)) (fun hno => absurd hin (hno _))
  · refine nm_r (e' := rg_r 0 V i) (by rw [nI_clamp (by omega), rg_at hi]) ?_
    have body : ∀ fh' K' V' M' L', st_ok fh' w K' V' M' L' (ct_er v1 (ar_l ks vs n)) → wpX_setEverywhere (fun u => match u with | (f_held_24, f_way_25, a_keyAt_26, a_valueAt_27, a_markAt_28, a_linkAt_29, a_listedKey_30, a_listedValue_31) => (wpY_move (fun r' v' => r' = 1 ∧ i_Rel (k + 3) (f_held_24, f_way_25, a_keyAt_26, a_valueAt_27, a_markAt_28, a_linkAt_29, a_listedKey_30, a_listedValue_31) v') (nI n, ks, vs) v1 v2)) (fh', w, K', V', M', L', P, Q) v2 (rg_r 0 V i) := by
      intro fh' K' V' M' L' S'
      refine ev_set S' fun fh2 K2 V2 M2 L2 hf ht => ?_
      show wpY_move _ _ _ _
      unfold wpY_move
      dsimp only
      refine rf_find hn (fun j hj ej hjn => br_f (nI_pos (by omega)) (br_f e ⟨vp_in_nI (by omega) (by decide), ?_⟩)) (fun hno => absurd hin (hno _))
      refine nm_r (e' := rg_r 0 V i) (by rw [nI_clamp (by omega)]; exact ct_fun nd hjn hin) ?_
      refine rf_remove hn nd (fun n' ks' vs' hn' hlt hp _ => ?_) (fun hno => absurd hin (hno _))
      have nd' : ct_nd (ar_l ks' vs' n') := ct_ndP hp.symm (ct_erN nd)
      refine rf_put hn' nd' (fun n2 ks2 vs2 hn2 hp2 _ => ⟨rfl, ?_⟩) (fun _ h => by omega)
      exact (rl_set hn2 (hp2.trans ((ct_erP hp).cons _)) (ct_erN nd) hf ht).2
    exact ev_take S fun fh' K' V' M' L' S' => ⟨fun _ => body fh' K' V' M' L' S', fun _ => body fh' K' V' M' L' S'⟩
  · unfold wpY_move
    dsimp only
    exact rf_find hn (fun j hj _ hjn => absurd hjn (hno _)) (fun _ => br_t (by decide) ⟨rfl, rl_mk hn (List.Perm.refl _) S⟩)
theorem i_vc_sift {k : Nat} {u : SX} {v : SY} (I : i_Rel k u v) (hk : k + 3 ≤ 1536) (v1 : Int32) (v2 : Int32) : wpX_sift (fun r u' => wpY_sift (fun r' v' => r' = r ∧ i_Rel (k + 3) u' v') v v1 v2) u v1 v2 := by
  obtain ⟨fh, w, K, V, M, L, P, Q, n, ks, vs, rfl, rfl, hn, S⟩ := I
  have R : i_Rel (k + 3) (fh, w, K, V, M, L, P, Q) (nI n, ks, vs) := rl_mk hn (List.Perm.refl _) S
  refine br_c (fun h => br_t h ⟨rfl, R⟩) (fun h1 => br_c (fun h => br_f h1 (br_t h ⟨rfl, R⟩)) (fun h2 => br_c (fun h => br_f h1 (br_f h2 (br_t h ⟨rfl, R⟩))) (fun h3 => br_c (fun h4 => ?_) (fun h4 => br_f h1 (br_f h2 (br_f h3 (br_f h4 ⟨rfl, R⟩)))))))
  have m0 : ¬ v1 = 0 := fun z => h1 (by rw [z]; decide)
  refine sf_sift S (rl_1 h1) (rl_1000 h2) fun fh' K' V' M' L' P' Q' S' => ?_
  refine br_f h1 (br_f h2 (br_f h3 (br_t h4 (rf_sift hn m0 fun n' ks' vs' hle e => ⟨?_, rl_mk (by omega) (by rw [e]) S'⟩))))
  have e1 := ft_len (mt_f v1 v2) (ar_l ks vs n)
  have e2 := ar_len ks' vs' n'
  rw [← e, e2, ar_len] at e1
  exact congrArg nI (by omega)
theorem i_vc_clear {k : Nat} {u : SX} {v : SY} (I : i_Rel k u v) (hk : k + 3 ≤ 1536) : wpX_clear (fun r u' => wpY_clear (fun r' v' => r' = r ∧ i_Rel (k + 3) u' v') v) u := by
  obtain ⟨fh, w, K, V, M, L, P, Q, n, ks, vs, rfl, rfl, hn, S⟩ := I
  unfold wpX_clear
  dsimp only
  refine ev_wipe fun M' L' hw => ?_
  show wpY_clear _ _
  unfold wpY_clear
  dsimp only
  refine br_f (by decide) (br_f (by decide) (br_f (by decide) (br_t (by decide) (rf_sift hn (by decide) fun n' ks' vs' hle e => ?_))))
  rw [(ft_all _).2] at e
  have e2 := ar_len ks' vs' n'
  rw [e] at e2
  have e3 : n' = 0 := e2.symm
  subst e3
  refine ⟨?_, rl_mk (by omega) (by rw [e]) (hw w)⟩
  have := S.1
  rw [ar_len] at this
  rw [this, Nat.sub_zero]
theorem i_vc_scatter {k : Nat} {u : SX} {v : SY} (I : i_Rel k u v) (hk : k + 3 ≤ 1536) (v1 : Int32) : wpX_scatter (fun u' => wpY_scatter (fun v' => i_Rel (k + 3) u' v') v v1) u v1 := by
  obtain ⟨fh, w, K, V, M, L, P, Q, n, ks, vs, rfl, rfl, hn, S⟩ := I
  unfold wpX_scatter
  dsimp only
  refine ls_keys S (by decide) (by decide) fun P' Q' cnt hc hp => ev_wipe fun M' L' hw => ⟨cnt + 1, ?_⟩
  rw [(ft_all _).1] at hp
  refine sc_loop (w := v1) hc (ct_ndP hp.symm S.2.1) (fun fh' K' V' M2 L2 S' => ?_) (cnt + 1) 0 0 K V M' L' (by omega) (by omega) (hw v1)
  exact rl_mk (k := k + 3) hn hp.symm S'
end
section
/-! what is owed: the questions -/
theorem i_vc_size {k : Nat} {u : SX} {v : SY} (I : i_Rel k u v) (hk : k + 3 ≤ 1536) : wpX_size (fun r => wpY_size (fun r' => r' = r ∧ i_Rel (k + 3) u v) v) u := by
  have I0 := I
  obtain ⟨fh, w, K, V, M, L, P, Q, n, ks, vs, rfl, rfl, hn, S⟩ := I
  refine ⟨?_, I0⟩
  have := S.1
  rw [ar_len] at this
  exact this.symm
theorem i_vc_has {k : Nat} {u : SX} {v : SY} (I : i_Rel k u v) (hk : k + 3 ≤ 1536) (v1 : Int32) (v2 : Int32) : wpX_has (fun r => wpY_has (fun r' => r' = r ∧ i_Rel (k + 3) u v) v v1 v2) u v1 v2 := by
  have I0 : i_Rel (k + 3) u v := I
  obtain ⟨fh, w, K, V, M, L, P, Q, n, ks, vs, rfl, rfl, hn, S⟩ := I
  unfold wpX_has wpY_has
  dsimp only
  rcases eg_or v1 with h | ⟨e, he, ex⟩
  · exact eg_find h (br_t rfl (eg_y (fun _ => br_t rfl ⟨rfl, I0⟩) (fun e he ex => absurd ex (eg_not he h))))
  · subst ex
    refine ev_find he (S.2.2.2 e he) (fun i hi a d hin => br_f (tb_nm (by omega)) (eg_y (fun h => absurd rfl (eg_not he h)) (fun _ _ _ => br_f (by decide) ?_))) (fun hno => br_t rfl (eg_y (fun h => absurd rfl (eg_not he h)) (fun _ _ _ => br_f (by decide) ?_)))
    · exact rf_find hn (fun j hj _ _ => br_f (nI_pos (by omega)) ⟨rfl, I0⟩) (fun hno => absurd hin (hno _))
    · exact rf_find hn (fun j hj _ hjn => absurd hjn (hno _)) (fun _ => br_t (by decide) ⟨rfl, I0⟩)
theorem i_vc_get {k : Nat} {u : SX} {v : SY} (I : i_Rel k u v) (hk : k + 3 ≤ 1536) (v1 : Int32) (v2 : Int32) : wpX_get (fun r => wpY_get (fun r' => r' = r ∧ i_Rel (k + 3) u v) v v1 v2) u v1 v2 := by
  have I0 : i_Rel (k + 3) u v := I
  obtain ⟨fh, w, K, V, M, L, P, Q, n, ks, vs, rfl, rfl, hn, S⟩ := I
  unfold wpX_get wpY_get
  dsimp only
  rcases eg_or v1 with h | ⟨e, he, ex⟩
  · refine eg_find h (br_t rfl ?_)
    exact rf_find hn (fun j hj _ _ => eg_y (fun _ => br_t rfl ⟨rfl, I0⟩) (fun e he ex => absurd ex (eg_not he h))) (fun _ => eg_y (fun _ => br_t rfl ⟨rfl, I0⟩) (fun e he ex => absurd ex (eg_not he h)))
  · subst ex
    refine ev_find he (S.2.2.2 e he) (fun i hi a d hin => br_f (tb_nm (by omega)) ⟨vp_in_nI (by omega) (by decide), ?_⟩) (fun hno => br_t rfl ?_)
    · rw [nI_clamp (by omega), ← rg_at (b := 64 * e) (a := V) hi]
      refine rf_find hn (fun j hj _ hjn => eg_y (fun h => absurd rfl (eg_not he h)) (fun _ _ _ => br_f (by decide) (br_f (nI_pos (by omega)) ⟨vp_in_nI (by omega) (by decide), ?_, I0⟩))) (fun hno => absurd hin (hno _))
      rw [nI_clamp (by omega)]
      exact ct_fun S.2.1 hjn hin
    · exact rf_find hn (fun j hj _ hjn => absurd hjn (hno _)) (fun _ => eg_y (fun _ => br_t rfl ⟨rfl, I0⟩) (fun _ _ _ => br_f (by decide) (br_t (by decide) ⟨rfl, I0⟩)))
theorem i_vc_count {k : Nat} {u : SX} {v : SY} (I : i_Rel k u v) (hk : k + 3 ≤ 1536) (v1 : Int32) (v2 : Int32) : wpX_count (fun r => wpY_count (fun r' => r' = r ∧ i_Rel (k + 3) u v) v v1 v2) u v1 v2 := by
  have I0 : i_Rel (k + 3) u v := I
  obtain ⟨fh, w, K, V, M, L, P, Q, n, ks, vs, rfl, rfl, hn, S⟩ := I
  unfold wpX_count
  dsimp only
  refine eg_x (fun h => br_t rfl (rf_num hn (fun _ => ⟨rfl, I0⟩) (fun e he ex => absurd ex (eg_not he h)))) (fun e he ex => br_f (by decide) ?_)
  subst ex
  refine nm_r (e' := nI (64 * e)) qs_b ⟨65, ?_⟩
  have F : wpY_count (fun r' => r' = nI (ct_num v2 (cc_c (rg_r (64 * e) K) (rg_r (64 * e) V) (rg_r (64 * e) M))) ∧ i_Rel (k + 3) (fh, w, K, V, M, L, P, Q) (nI n, ks, vs)) (nI n, ks, vs) (nI e) v2 := by
    refine rf_num hn (fun h => absurd rfl (eg_not he h)) (fun _ _ _ => ⟨?_, I0⟩)
    rw [ct_numP (S.2.2.2 e he).2]
  exact qs_count (post := fun r => wpY_count (fun r' => r' = r ∧ i_Rel (k + 3) (fh, w, K, V, M, L, P, Q) (nI n, ks, vs)) (nI n, ks, vs) (nI e) v2) (b := 64 * e) (by omega) F 65 0 (by omega) (by omega)
theorem i_vc_sum {k : Nat} {u : SX} {v : SY} (I : i_Rel k u v) (hk : k + 3 ≤ 1536) (v1 : Int32) : wpX_sum (fun r => wpY_sum (fun r' => r' = r ∧ i_Rel (k + 3) u v) v v1) u v1 := by
  have I0 : i_Rel (k + 3) u v := I
  obtain ⟨fh, w, K, V, M, L, P, Q, n, ks, vs, rfl, rfl, hn, S⟩ := I
  unfold wpX_sum
  dsimp only
  refine eg_x (fun h => br_t rfl (rf_sum hn (fun _ => ⟨rfl, I0⟩) (fun e he ex => absurd ex (eg_not he h)))) (fun e he ex => br_f (by decide) ?_)
  subst ex
  refine nm_r (e' := nI (64 * e)) qs_b ⟨65, ?_⟩
  have F : wpY_sum (fun r' => r' = ct_sum (cc_c (rg_r (64 * e) K) (rg_r (64 * e) V) (rg_r (64 * e) M)) ∧ i_Rel (k + 3) (fh, w, K, V, M, L, P, Q) (nI n, ks, vs)) (nI n, ks, vs) (nI e) := by
    refine rf_sum hn (fun h => absurd rfl (eg_not he h)) (fun _ _ _ => ⟨?_, I0⟩)
    rw [ct_sumP (S.2.2.2 e he).2]
  exact qs_sum (post := fun r => wpY_sum (fun r' => r' = r ∧ i_Rel (k + 3) (fh, w, K, V, M, L, P, Q) (nI n, ks, vs)) (nI n, ks, vs) (nI e)) (b := 64 * e) (by omega) F 65 0 (by omega) (by omega)
theorem i_vc_least {k : Nat} {u : SX} {v : SY} (I : i_Rel k u v) (hk : k + 3 ≤ 1536) : wpX_least (fun r => wpY_least (fun r' => r' = r ∧ i_Rel (k + 3) u v) v) u := by
  have I0 : i_Rel (k + 3) u v := I
  obtain ⟨fh, w, K, V, M, L, P, Q, n, ks, vs, rfl, rfl, hn, S⟩ := I
  exact ⟨33, qs_leastL (fun r hr => rf_least hn fun r' hr' => ⟨qs_leastU (ls_32 S) hr hr', I0⟩) 33 0 0 0 (by omega) (by omega) (.inl ⟨rfl, rfl, rfl⟩)⟩
theorem i_vc_agree {k : Nat} {u : SX} {v : SY} (I : i_Rel k u v) (hk : k + 3 ≤ 1536) (v1 : Int32) (v2 : Int32) : wpX_agree (fun r => wpY_agree (fun r' => r' = r ∧ i_Rel (k + 3) u v) v v1 v2) u v1 v2 := by
  have I0 : i_Rel (k + 3) u v := I
  obtain ⟨fh, w, K, V, M, L, P, Q, n, ks, vs, rfl, rfl, hn, S⟩ := I
  unfold wpX_agree wpY_agree
  dsimp only
  refine eg_x (fun h => br_t rfl (eg_y (fun _ => br_t rfl ⟨rfl, I0⟩) (fun e he ex => absurd ex (eg_not he h)))) (fun e he ex => br_f (by decide) ?_)
  subst ex
  have Y1 : ∀ {A B : Prop}, B → wpY_engine (fun r_1 => (r_1 = 0 → A) ∧ (¬ r_1 = 0 → B)) (nI n, ks, vs) (nI e) := fun b => eg_y (fun h => absurd rfl (eg_not he h)) (fun _ _ _ => br_f (by decide) b)
  refine eg_x (fun h => br_t rfl (Y1 (eg_y (fun _ => br_t rfl ⟨rfl, I0⟩) (fun e he ex => absurd ex (eg_not he h))))) (fun e2 he2 ex2 => br_f (by decide) ?_)
  subst ex2
  refine qs_within he he2 (S.2.2.2 e he) (S.2.2.2 e2 he2) S.2.1 (br_f (by decide) (qs_within he2 he (S.2.2.2 e2 he2) (S.2.2.2 e he) S.2.1 (br_f (by decide) (Y1 (eg_y (fun h => absurd rfl (eg_not he2 h)) (fun _ _ _ => br_f (by decide) ⟨rfl, I0⟩))))))
theorem i_vc_sound {k : Nat} {u : SX} {v : SY} (I : i_Rel k u v) (hk : k + 3 ≤ 1536) : wpX_sound (fun r => wpY_sound (fun r' => r' = r ∧ i_Rel (k + 3) u v) v) u := by
  have I0 : i_Rel (k + 3) u v := I
  obtain ⟨fh, w, K, V, M, L, P, Q, n, ks, vs, rfl, rfl, hn, S⟩ := I
  exact qs_sound S ⟨rfl, I0⟩
end
