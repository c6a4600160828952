section
theorem pk_us {f : Nat → Int32} {k : Nat} {x : Int32} : upd f k x k = x := if_pos rfl
theorem pk_un {f : Nat → Int32} {k j : Nat} {x : Int32} (h : j ≠ k) : upd f k x j = f j := if_neg h
theorem pk_sub {a b : Nat} (h : b ≤ a) : nI a - nI b = nI (a - b) := by
  obtain ⟨c, rfl⟩ : ∃ c, a = c + b := ⟨a - b, by omega⟩
  rw [← nI_add, Int32.add_sub_cancel, Nat.add_sub_cancel]
theorem pk_m1 (n : Nat) : nI (n + 1) + (-1) = nI n := by
  rw [← nI_1, Int32.add_assoc, show (1 : Int32) + (-1) = 0 from rfl, Int32.add_zero]
theorem pk_mul (a b : Nat) : nI a * nI b = nI (a * b) := (Int32.ofNat_mul a b).symm
theorem pk_div {a d : Nat} (ha : a < 2 ^ 31) (h0 : 0 < d) (hd : d < 2 ^ 31) : nI a / nI d = nI (a / d) := by
  apply Int32.toInt_inj.mp
  rw [lg_idiv_nonneg (by rw [nI_toInt ha]; omega) (by rw [nI_toInt hd]; omega), nI_toInt ha, nI_toInt hd, nI_toInt (Nat.lt_of_le_of_lt (Nat.div_le_self a d) ha)]
  first | rfl | exact (Int.natCast_ediv _ _).symm
theorem pk_rem {a d : Nat} (ha : a < 2 ^ 31) (h0 : 0 < d) (hd : d < 2 ^ 31) : nI a - nI a / nI d * nI d = nI (a % d) := by
  rw [pk_div ha h0 hd, pk_mul, pk_sub (Nat.div_mul_le_self a d)]
  exact congrArg nI (by have := Nat.div_add_mod' a d; omega)
theorem pk_ix (x : Int32) {n : Nat} (hn : n < 2 ^ 31) : x < 0 ∨ nI n ≤ x ∨ ∃ j : Nat, j < n ∧ x = nI j := by
  by_cases h : x < 0
  · exact Or.inl h
  · obtain ⟨j, hj, rfl⟩ := nI_of h
    by_cases h2 : j < n
    · exact Or.inr (Or.inr ⟨j, h2, rfl⟩)
    · exact Or.inr (Or.inl (nI_le (by omega) hj))
theorem pk_le {x y : Int32} {A B : Prop} (a b : Nat) (f : a ≤ b → A) (g : b < a → B) (hx : x = nI a := by rfl) (hy : y = nI b := by rfl) (ha : a < 2 ^ 31 := by omega) (hb : b < 2 ^ 31 := by omega) : (x ≤ y → A) ∧ (¬ x ≤ y → B) := by
  subst hx hy
  rw [nI_leI ha hb]
  exact ⟨f, fun z => g (by omega)⟩
theorem pk_lt {x y : Int32} {A B : Prop} (a b : Nat) (f : a < b → A) (g : b ≤ a → B) (hx : x = nI a := by rfl) (hy : y = nI b := by rfl) (ha : a < 2 ^ 31 := by omega) (hb : b < 2 ^ 31 := by omega) : (x < y → A) ∧ (¬ x < y → B) := by
  subst hx hy
  rw [nI_ltI ha hb]
  exact ⟨f, fun z => g (by omega)⟩
theorem pk_eq {x y : Int32} {A B : Prop} (a b : Nat) (f : a = b → A) (g : a ≠ b → B) (hx : x = nI a := by rfl) (hy : y = nI b := by rfl) (ha : a < 2 ^ 31 := by omega) (hb : b < 2 ^ 31 := by omega) : (x = y → A) ∧ (¬ x = y → B) := by
  subst hx hy
  rw [nI_eq ha hb]
  exact ⟨f, g⟩
theorem pk_in {x : Int32} (n N : Nat) (h : n < N) (hx : x = nI n := by rfl) (hN : N < 2 ^ 31 := by omega) : vp_in x N := by
  subst hx
  exact vp_in_nI h hN
theorem pk_cl {x : Int32} (n : Nat) (hx : x = nI n := by rfl) (h : n < 2 ^ 31 := by omega) : x.toNatClampNeg = n := by
  subst hx
  exact nI_clamp h
theorem pk_tn {n : Nat} (h : n < 2 ^ 32) : (nI n).toBitVec.toNat = n := Nat.mod_eq_of_lt h
theorem pk_and (x : Int32) {m : Int32} (k : Nat) (hm : m.toBitVec.toNat = 2 ^ k - 1) : x &&& m = nI (x.toBitVec.toNat % 2 ^ k) := by
  apply Int32.toBitVec_inj.mp
  apply BitVec.eq_of_toNat_eq
  rw [Int32.toBitVec_and, BitVec.toNat_and, hm, Nat.and_two_pow_sub_one_eq_mod]
  show _ = (BitVec.ofNat 32 _).toNat
  rw [BitVec.toNat_ofNat]
  exact (Nat.mod_eq_of_lt (Nat.lt_of_le_of_lt (Nat.mod_le _ _) x.toBitVec.isLt)).symm
theorem pk_andN {n : Nat} (h : n < 2 ^ 32) {m : Int32} (k : Nat) (hm : m.toBitVec.toNat = 2 ^ k - 1) : nI n &&& m = nI (n % 2 ^ k) := by
  rw [pk_and _ k hm, pk_tn h]
theorem pk_ushr (x s : Int32) (k : Nat) (hs : ((s.toUInt32 &&& Int32.toUInt32 31).toBitVec % 32).toNat = k) : (x.toUInt32 >>> (s.toUInt32 &&& Int32.toUInt32 31)).toInt32.toBitVec.toNat = x.toBitVec.toNat / 2 ^ k := by
  have e : (x.toUInt32 >>> (s.toUInt32 &&& Int32.toUInt32 31)).toInt32.toBitVec = x.toBitVec >>> k := by
    rw [← hs]
    exact UInt32.toBitVec_shiftRight _ _
  rw [e, BitVec.toNat_ushiftRight, Nat.shiftRight_eq_div_pow]
theorem pk_ushrN {n : Nat} (hn : n < 2 ^ 32) (s : Int32) (k : Nat) (hs : ((s.toUInt32 &&& Int32.toUInt32 31).toBitVec % 32).toNat = k) : ((nI n).toUInt32 >>> (s.toUInt32 &&& Int32.toUInt32 31)).toInt32 = nI (n / 2 ^ k) := by
  apply Int32.toBitVec_inj.mp
  apply BitVec.eq_of_toNat_eq
  rw [pk_ushr _ s k hs, pk_tn hn, pk_tn (Nat.lt_of_le_of_lt (Nat.div_le_self _ _) hn)]
theorem pk_least (P : Nat → Prop) (h : ∃ k, P k) : ∃ k, P k ∧ ∀ j, j < k → ¬ P j := by
  obtain ⟨k, hk⟩ := h
  induction k using Nat.strongRecOn with
  | ind k ih =>
    by_cases e : ∃ j, j < k ∧ P j
    · obtain ⟨j, hj, pj⟩ := e
      exact ih j hj pj
    · exact ⟨k, hk, fun j hj pj => e ⟨j, hj, pj⟩⟩
def bt (x : Int32) (i : Nat) : Bool := x.toBitVec.getLsbD i
theorem b_ext {x y : Int32} (h : ∀ i, i < 32 → bt x i = bt y i) : x = y := Int32.toBitVec_inj.mp (BitVec.eq_of_getLsbD_eq (fun i hi => h i hi))
theorem b_or (x y : Int32) (i : Nat) : bt (x ||| y) i = (bt x i || bt y i) := by unfold bt; rw [Int32.toBitVec_or, BitVec.getLsbD_or]
theorem b_and (x y : Int32) (i : Nat) : bt (x &&& y) i = (bt x i && bt y i) := by unfold bt; rw [Int32.toBitVec_and, BitVec.getLsbD_and]
theorem b_xor (x y : Int32) (i : Nat) : bt (x ^^^ y) i = (bt x i ^^ bt y i) := by unfold bt; rw [Int32.toBitVec_xor, BitVec.getLsbD_xor]
theorem b_big {x : Int32} {i : Nat} (h : 32 ≤ i) : bt x i = false := BitVec.getLsbD_of_ge _ _ h
theorem b_m1 : ∀ i, i < 32 → bt (-1) i = true := by decide +kernel
theorem b_0 (i : Nat) : bt 0 i = false := BitVec.getLsbD_zero
theorem s_l : ∀ n, n < 32 → ((nI n &&& 31).toBitVec.smod 32).toNat = n := by decide +kernel
theorem s_u : ∀ n, n < 32 → (((nI n).toUInt32 &&& Int32.toUInt32 31).toBitVec % 32).toNat = n := by decide +kernel
theorem b_shl (n : Nat) (hn : n < 32) (x : Int32) {i : Nat} (hi : i < 32) : bt (x <<< (nI n &&& 31)) i = (decide (n ≤ i) && bt x (i - n)) := by
  unfold bt
  rw [Int32.toBitVec_shiftLeft]
  show (x.toBitVec <<< ((nI n &&& 31).toBitVec.smod 32).toNat).getLsbD i = _
  rw [s_l n hn, BitVec.getLsbD_shiftLeft]
  rcases Nat.lt_or_ge i n with h | h
  · simp [h, Nat.not_le.mpr h]
  · simp [hi, h, Nat.not_lt.mpr h]
theorem b_ushr (n : Nat) (hn : n < 32) (x : Int32) (i : Nat) : bt ((x.toUInt32 >>> ((nI n).toUInt32 &&& Int32.toUInt32 31)).toInt32) i = bt x (n + i) := by
  show (x.toUInt32 >>> ((nI n).toUInt32 &&& Int32.toUInt32 31)).toBitVec.getLsbD i = x.toUInt32.toBitVec.getLsbD (n + i)
  rw [UInt32.toBitVec_shiftRight]
  show (x.toUInt32.toBitVec >>> (((nI n).toUInt32 &&& Int32.toUInt32 31).toBitVec % 32).toNat).getLsbD i = _
  rw [s_u n hn, BitVec.getLsbD_ushiftRight]
theorem nf_sh : ∀ l, l < 32 → ((1 : Int32) <<< (nI l &&& 31)).toBitVec = BitVec.twoPow 32 l := by decide +kernel
theorem wb_of32 (x : Int32) : ∃ n, n < 2 ^ 32 ∧ x = nI n := ⟨x.toBitVec.toNat, x.toBitVec.isLt, Int32.toBitVec_inj.mp (by show _ = BitVec.ofNat 32 _; simp)⟩
/-! numbers of this class: marks, masks, homes -/
theorem hm_n1 : vp_nar .byte 1 = 1 := by rw [vp_nar_byte]; decide
theorem hm_n0 : vp_nar .byte 0 = 0 := by rw [vp_nar_byte]; decide
theorem hm_n2 : vp_nar .byte 2 = 2 := by rw [vp_nar_byte]; decide
theorem hm_m {n : Nat} (h : n < 2 ^ 31) : nI n &&& 31 = nI (n % 32) := pk_andN (by omega) 5 (by decide)
theorem hm_d {a c : Nat} (ha : a < 2 ^ 31) (hc : c ≤ 512) : (nI a - nI c) &&& 31 = nI ((a + 512 - c) % 32) := by
  rw [pk_and _ 5 (by decide), Int32.toBitVec_sub, BitVec.toNat_sub, pk_tn (by omega), pk_tn (by omega)]
  exact congrArg nI (by omega)
theorem hm_tb (x : Int32) : nI x.toBitVec.toNat = x := Int32.toBitVec_inj.mp (by show BitVec.ofNat 32 _ = _; simp)
def hm_a (w c : Int32) : Int32 := (c ^^^ w) * (-1640531535)
def hm_b (w c : Int32) : Int32 := (hm_a w c ^^^ ((hm_a w c).toUInt32 >>> ((15 : Int32).toUInt32 &&& Int32.toUInt32 31)).toInt32) * (-2048144789)
/-- a key's home -/
def hm_h (w c : Int32) : Nat := (hm_b w c).toBitVec.toNat / 2 ^ 27
theorem hm_lt (w c : Int32) : hm_h w c < 32 := by
  unfold hm_h
  have := (hm_b w c).toBitVec.isLt
  omega
theorem hm_sh (x : Int32) : (x.toUInt32 >>> ((27 : Int32).toUInt32 &&& Int32.toUInt32 31)).toInt32 = nI (x.toBitVec.toNat / 2 ^ 27) := by
  apply Int32.toBitVec_inj.mp
  apply BitVec.eq_of_toNat_eq
  have := x.toBitVec.isLt
  rw [pk_ushr _ 27 27 (by decide), pk_tn (by omega)]
def om_a (w c : Int32) : Int32 := (c + w) * (-1028477387)
def om_b (w c : Int32) : Int32 := (om_a w c ^^^ ((om_a w c).toUInt32 >>> ((13 : Int32).toUInt32 &&& Int32.toUInt32 31)).toInt32) * 668265263
/-- a key's other home -/
def om_h (w c : Int32) : Nat := (om_b w c).toBitVec.toNat / 2 ^ 27
theorem om_lt (w c : Int32) : om_h w c < 32 := by
  unfold om_h
  have := (om_b w c).toBitVec.isLt
  omega
theorem om_odd : ∀ n, n < 32 → nI n ||| 1 = nI (n / 2 * 2 + 1) := by decide +kernel
/-- a region of 64 slots, cut out -/
def rg_r (b : Nat) (a : Nat → Int32) : Nat → Int32 := fun i => if i < 64 then a (b + i) else 0
theorem rg_at {b i : Nat} {a : Nat → Int32} (h : i < 64) : rg_r b a i = a (b + i) := if_pos h
theorem rg_upd {b i : Nat} {a : Nat → Int32} {x : Int32} (h : i < 64) : rg_r b (upd a (b + i) x) = upd (rg_r b a) i x := by
  funext j
  unfold rg_r upd
  dsimp only
  by_cases hj : j < 64
  · rw [if_pos hj, if_pos hj]
    by_cases e : j = i
    · rw [if_pos (by omega), if_pos e]
    · rw [if_neg (by omega), if_neg e]
  · rw [if_neg hj, if_neg hj, if_neg (by omega)]
/-- nothing but the region at b has changed -/
def fr_f (b : Nat) (a a' : Nat → Int32) : Prop := ∀ j, (j < b ∨ b + 64 ≤ j) → a' j = a j
theorem fr_r {b : Nat} {a : Nat → Int32} : fr_f b a a := fun _ _ => rfl
theorem fr_u {b i : Nat} {a a' : Nat → Int32} {x : Int32} (h : fr_f b a a') (hi : i < 64) : fr_f b a (upd a' (b + i) x) := by
  intro j hj
  rw [pk_un (by omega)]
  exact h j hj
theorem fr_t {b : Nat} {a a' a'' : Nat → Int32} (h : fr_f b a a') (h' : fr_f b a' a'') : fr_f b a a'' := fun j hj => (h' j hj).trans (h j hj)
theorem fr_o {b b' : Nat} {a a' : Nat → Int32} (h : fr_f b a a') (d : b' + 64 ≤ b ∨ b + 64 ≤ b') : rg_r b' a' = rg_r b' a := by
  funext i
  unfold rg_r
  by_cases hi : i < 64
  · rw [if_pos hi, if_pos hi]
    exact h _ (by omega)
  · rw [if_neg hi, if_neg hi]
end
section
/-- a slot function, and the list of what it holds below n -/
def ct_up (s : Nat → Option (Int32 × Int32)) (i : Nat) (x : Option (Int32 × Int32)) : Nat → Option (Int32 × Int32) := fun j => if j = i then x else s j
def ct_con (s : Nat → Option (Int32 × Int32)) : Nat → List (Int32 × Int32)
  | 0 => []
  | n + 1 => (s n).toList ++ ct_con s n
theorem ct_ext {s t : Nat → Option (Int32 × Int32)} : ∀ n, (∀ i, i < n → s i = t i) → ct_con s n = ct_con t n := by
  intro n
  induction n with
  | zero => intro _; rfl
  | succ n ih =>
    intro h
    show (s n).toList ++ ct_con s n = (t n).toList ++ ct_con t n
    rw [h n (Nat.lt_succ_self n), ih fun i hi => h i (Nat.lt_succ_of_lt hi)]
theorem ct_upd (s : Nat → Option (Int32 × Int32)) (i : Nat) (x : Option (Int32 × Int32)) : ∀ n, i < n → List.Perm ((s i).toList ++ ct_con (ct_up s i x) n) (x.toList ++ ct_con s n) := by
  intro n
  induction n with
  | zero => intro h; exact absurd h (Nat.not_lt_zero _)
  | succ n ih =>
    intro h
    show List.Perm ((s i).toList ++ ((ct_up s i x n).toList ++ ct_con (ct_up s i x) n)) (x.toList ++ ((s n).toList ++ ct_con s n))
    by_cases e : n = i
    · have e1 : ct_up s i x n = x := by unfold ct_up; rw [if_pos e]
      have e2 : ct_con (ct_up s i x) n = ct_con s n := ct_ext n fun j hj => by unfold ct_up; rw [if_neg (by omega)]
      rw [e1, e2, e]
      exact List.perm_append_comm_assoc _ _ _
    · have e1 : ct_up s i x n = s n := by unfold ct_up; rw [if_neg e]
      rw [e1]
      refine (List.perm_append_comm_assoc _ _ _).trans (((ih (by omega)).append_left _).trans (List.perm_append_comm_assoc _ _ _))
theorem ct_mem (s : Nat → Option (Int32 × Int32)) (p : Int32 × Int32) : ∀ n, p ∈ ct_con s n ↔ ∃ i, i < n ∧ s i = some p := by
  intro n
  induction n with
  | zero => exact ⟨fun h => (List.not_mem_nil h).elim, fun ⟨i, hi, _⟩ => absurd hi (Nat.not_lt_zero _)⟩
  | succ n ih =>
    show p ∈ (s n).toList ++ ct_con s n ↔ _
    rw [List.mem_append, ih, Option.mem_toList]
    constructor
    · rintro (h | ⟨i, hi, h⟩)
      · exact ⟨n, Nat.lt_succ_self n, h⟩
      · exact ⟨i, Nat.lt_succ_of_lt hi, h⟩
    · rintro ⟨i, hi, h⟩
      by_cases e : i = n
      · exact .inl (e ▸ h)
      · exact .inr ⟨i, by omega, h⟩
/-- no key twice -/
def ct_nd (l : List (Int32 × Int32)) : Prop := (l.map Prod.fst).Nodup
theorem ct_ndP {l l' : List (Int32 × Int32)} (p : List.Perm l l') (h : ct_nd l) : ct_nd l' := (p.map Prod.fst).nodup h
theorem ct_uni (s : Nat → Option (Int32 × Int32)) : ∀ n, ct_nd (ct_con s n) → ∀ i j k v w, i < n → j < n → s i = some (k, v) → s j = some (k, w) → i = j := by
  intro n
  induction n with
  | zero => intro _ i j k v w hi; exact absurd hi (Nat.not_lt_zero _)
  | succ n ih =>
    intro h i j k v w hi hj ei ej
    have h' : ((((s n).toList ++ ct_con s n)).map Prod.fst).Nodup := h
    rw [List.map_append, List.nodup_append] at h'
    have clash : ∀ a x y, s n = some (k, x) → a < n → s a = some (k, y) → False := by
      intro a x y en ha ea
      refine h'.2.2 k ?_ k ?_ rfl
      · rw [en]; exact List.mem_cons_self
      · exact List.mem_map.mpr ⟨(k, y), (ct_mem s _ n).mpr ⟨a, ha, ea⟩, rfl⟩
    by_cases e : i = n
    · by_cases f : j = n
      · omega
      · exact (clash j v w (e ▸ ei) (by omega) ej).elim
    · by_cases f : j = n
      · exact (clash i w v (f ▸ ej) (by omega) ei).elim
      · exact ih h'.2.1 i j k v w (by omega) (by omega) ei ej
/-- a stretch that is full shows in the length -/
theorem ct_full (s : Nat → Option (Int32 × Int32)) (a : Nat) : ∀ n, (∀ i, a ≤ i → i < n → s i ≠ none) → n - a ≤ (ct_con s n).length := by
  intro n
  induction n with
  | zero => intro _; omega
  | succ n ih =>
    intro h
    have h1 := ih fun i hi hn => h i hi (by omega)
    show _ ≤ ((s n).toList ++ ct_con s n).length
    rw [List.length_append]
    by_cases ha : a ≤ n
    · have h2 : (s n).toList.length = 1 := by
        cases e : s n with
        | none => exact absurd e (h n ha (by omega))
        | some x => rfl
      omega
    · omega
theorem ct_lenM (s : Nat → Option (Int32 × Int32)) : ∀ n m, n ≤ m → (ct_con s n).length ≤ (ct_con s m).length := by
  intro n m h
  induction m with
  | zero => have e : n = 0 := by omega
            rw [e]; exact Nat.le_refl _
  | succ m ih =>
    by_cases e : n = m + 1
    · rw [e]; exact Nat.le_refl _
    · have := ih (by omega)
      show _ ≤ ((s m).toList ++ ct_con s m).length
      rw [List.length_append]
      omega
/-- the sum of the values, with wrap-around; how many have a value -/
def ct_sum (l : List (Int32 × Int32)) : Int32 := l.foldr (fun p a => p.2 + a) 0
theorem ct_sumP {l l' : List (Int32 × Int32)} (p : List.Perm l l') : ct_sum l = ct_sum l' := by
  induction p with
  | nil => rfl
  | cons x _ ih => exact congrArg (x.2 + ·) ih
  | swap x y l =>
    show y.2 + (x.2 + ct_sum l) = x.2 + (y.2 + ct_sum l)
    rw [← Int32.add_assoc, ← Int32.add_assoc, Int32.add_comm y.2 x.2]
  | trans _ _ a b => exact a.trans b
def ct_num (v : Int32) (l : List (Int32 × Int32)) : Nat := l.countP (fun p => p.2 == v)
theorem ct_numP {v : Int32} {l l' : List (Int32 × Int32)} (p : List.Perm l l') : ct_num v l = ct_num v l' := p.countP_eq _
/-- a region's slot function: keys, values, marks (1: held) -/
def ct_sl (k v m : Nat → Int32) : Nat → Option (Int32 × Int32) := fun i => if m i = 1 then some (k i, v i) else none
theorem ct_sl1 {k v m : Nat → Int32} {i : Nat} (h : m i = 1) : ct_sl k v m i = some (k i, v i) := if_pos h
theorem ct_sl0 {k v m : Nat → Int32} {i : Nat} (h : ¬ m i = 1) : ct_sl k v m i = none := if_neg h
theorem ct_slS {k v m : Nat → Int32} {i : Nat} {c x : Int32} (h : ct_sl k v m i = some (c, x)) : m i = 1 ∧ k i = c ∧ v i = x := by
  unfold ct_sl at h
  by_cases e : m i = 1
  · rw [if_pos e] at h
    injection h with h
    injection h with h1 h2
    exact ⟨e, h1, h2⟩
  · rw [if_neg e] at h
    cases h
theorem ct_slH (k v m : Nat → Int32) (i : Nat) (x y : Int32) : ct_sl (upd k i x) (upd v i y) (upd m i 1) = ct_up (ct_sl k v m) i (some (x, y)) := by
  funext j
  unfold ct_sl ct_up upd
  by_cases e : j = i
  · simp [e]
  · simp [e]
theorem ct_slF (k v m : Nat → Int32) (i : Nat) (c : Int32) (hc : c ≠ 1) : ct_sl k v (upd m i c) = ct_up (ct_sl k v m) i none := by
  funext j
  unfold ct_sl ct_up upd
  by_cases e : j = i
  · simp [e, hc]
  · simp [e]
theorem ct_slV (k v m : Nat → Int32) (i : Nat) (y : Int32) (h : m i = 1) : ct_sl k (upd v i y) m = ct_up (ct_sl k v m) i (some (k i, y)) := by
  funext j
  unfold ct_sl ct_up upd
  by_cases e : j = i
  · simp [e, h]
  · simp [e]
/-- a region's content -/
def cc_c (k v m : Nat → Int32) : List (Int32 × Int32) := ct_con (ct_sl k v m) 64
theorem cc_in {k v m : Nat → Int32} {i : Nat} (hi : i < 64) (h : m i = 1) : (k i, v i) ∈ cc_c k v m := (ct_mem _ _ 64).mpr ⟨i, hi, ct_sl1 h⟩
theorem cc_of {k v m : Nat → Int32} {c x : Int32} (h : (c, x) ∈ cc_c k v m) : ∃ i, i < 64 ∧ m i = 1 ∧ k i = c ∧ v i = x := by
  obtain ⟨i, hi, e⟩ := (ct_mem _ _ 64).mp h
  exact ⟨i, hi, ct_slS e⟩
theorem cc_uni {k v m : Nat → Int32} (h : ct_nd (cc_c k v m)) {i j : Nat} (hi : i < 64) (hj : j < 64) (mi : m i = 1) (mj : m j = 1) (e : k i = k j) : i = j :=
  ct_uni _ 64 h i j (k i) (v i) (v j) hi hj (ct_sl1 mi) (by rw [ct_sl1 mj, e])
/-- hold at a slot that isn't held -/
theorem cc_hold {k v m : Nat → Int32} {i : Nat} {c x : Int32} (hi : i < 64) (h : ¬ m i = 1) : List.Perm (cc_c (upd k i c) (upd v i x) (upd m i 1)) ((c, x) :: cc_c k v m) := by
  have := ct_upd (ct_sl k v m) i (some (c, x)) 64 hi
  rw [ct_sl0 h] at this
  unfold cc_c
  rw [ct_slH]
  exact this
/-- hold over a slot that is held -/
theorem cc_over {k v m : Nat → Int32} {i : Nat} {c x : Int32} (hi : i < 64) (h : m i = 1) : List.Perm ((k i, v i) :: cc_c (upd k i c) (upd v i x) (upd m i 1)) ((c, x) :: cc_c k v m) := by
  have := ct_upd (ct_sl k v m) i (some (c, x)) 64 hi
  rw [ct_sl1 h] at this
  unfold cc_c
  rw [ct_slH]
  exact this
theorem cc_free {k v m : Nat → Int32} {i : Nat} {c : Int32} (hi : i < 64) (h : m i = 1) (hc : c ≠ 1) : List.Perm ((k i, v i) :: cc_c k v (upd m i c)) (cc_c k v m) := by
  have := ct_upd (ct_sl k v m) i none 64 hi
  rw [ct_sl1 h] at this
  unfold cc_c
  rw [ct_slF _ _ _ _ _ hc]
  exact this
theorem cc_val {k v m : Nat → Int32} {i : Nat} {x : Int32} (hi : i < 64) (h : m i = 1) : List.Perm ((k i, v i) :: cc_c k (upd v i x) m) ((k i, x) :: cc_c k v m) := by
  have := ct_upd (ct_sl k v m) i (some (k i, x)) 64 hi
  rw [ct_sl1 h] at this
  unfold cc_c
  rw [ct_slV _ _ _ _ _ h]
  exact this
/-- some slot of a stretch of 32 isn't held -/
theorem cc_room {k v m : Nat → Int32} (a : Nat) (ha : a + 32 ≤ 64) (h : (cc_c k v m).length < 32) : ∃ i, a ≤ i ∧ i < a + 32 ∧ ¬ m i = 1 := by
  by_cases e : ∃ i, a ≤ i ∧ i < a + 32 ∧ ¬ m i = 1
  · exact e
  · have h1 := ct_full (ct_sl k v m) a (a + 32) (fun i hi hn z => by
      by_cases q : m i = 1
      · rw [ct_sl1 q] at z; cases z
      · exact e ⟨i, hi, hn, q⟩)
    have h2 := ct_lenM (ct_sl k v m) (a + 32) 64 ha
    unfold cc_c at h
    omega
/-- without a key -/
def ct_er (c : Int32) (l : List (Int32 × Int32)) : List (Int32 × Int32) := l.filter (fun p => p.1 != c)
theorem ct_erP {c : Int32} {l l' : List (Int32 × Int32)} (p : List.Perm l l') : List.Perm (ct_er c l) (ct_er c l') := p.filter _
theorem ct_er0 {c : Int32} {l : List (Int32 × Int32)} (h : ∀ v, (c, v) ∉ l) : ct_er c l = l := by
  refine List.filter_eq_self.mpr fun p hp => ?_
  have : p.1 ≠ c := fun e => h p.2 (by rw [← e]; exact hp)
  simp [this]
theorem ct_er1 {c v : Int32} {l ml : List (Int32 × Int32)} (p : List.Perm ((c, v) :: l) ml) (h : ct_nd ml) : List.Perm l (ct_er c ml) := by
  have n : ct_nd ((c, v) :: l) := ct_ndP p.symm h
  have q := ct_erP (c := c) p
  have e : ct_er c ((c, v) :: l) = ct_er c l := by simp [ct_er]
  rw [e, ct_er0] at q
  · exact q
  · intro x hx
    have n' : (c :: l.map Prod.fst).Nodup := n
    exact (List.nodup_cons.mp n').1 (List.mem_map.mpr ⟨(c, x), hx, rfl⟩)
theorem ct_er2 {c v : Int32} {ml : List (Int32 × Int32)} (h : ct_nd ml) (hm : (c, v) ∈ ml) : List.Perm ml ((c, v) :: ct_er c ml) := by
  have p := List.perm_cons_erase hm
  exact p.trans ((ct_er1 p.symm h).cons _)
theorem ct_erN {c : Int32} {ml : List (Int32 × Int32)} (h : ct_nd ml) : ct_nd (ct_er c ml) := List.Nodup.sublist (List.filter_sublist.map _) h
theorem ct_erM {c : Int32} {ml : List (Int32 × Int32)} {p : Int32 × Int32} : p ∈ ct_er c ml ↔ p ∈ ml ∧ p.1 ≠ c := by
  unfold ct_er
  rw [List.mem_filter]
  simp
theorem ct_erC {c v : Int32} {ml : List (Int32 × Int32)} (h : ct_nd ml) : ct_nd ((c, v) :: ct_er c ml) := by
  show (c :: (ct_er c ml).map Prod.fst).Nodup
  refine List.nodup_cons.mpr ⟨?_, ct_erN h⟩
  intro hm
  obtain ⟨p, hp, e⟩ := List.mem_map.mp hm
  exact (ct_erM.mp hp).2 e
theorem ct_fun {c v x : Int32} {ml : List (Int32 × Int32)} (h : ct_nd ml) (h1 : (c, v) ∈ ml) (h2 : (c, x) ∈ ml) : v = x := by
  have p := (ct_er2 h h1).subset h2
  rcases List.mem_cons.mp p with e | e
  · injection e with _ e; exact e.symm
  · exact absurd rfl (ct_erM.mp e).2
/-- the value under a slot's key is set: its content -/
theorem cc_set {k v m : Nat → Int32} {i : Nat} {x : Int32} {ml : List (Int32 × Int32)} (hi : i < 64) (h : m i = 1) (n : ct_nd ml) (p : List.Perm (cc_c k v m) ml) : List.Perm (cc_c k (upd v i x) m) ((k i, x) :: ct_er (k i) ml) := by
  have a := cc_val (x := x) (k := k) (v := v) hi h
  have b : List.Perm ((k i, x) :: cc_c k v m) ((k i, v i) :: (k i, x) :: ct_er (k i) ml) :=
    ((p.trans (ct_er2 n (p.subset (cc_in hi h)))).cons _).trans (List.Perm.swap _ _ _)
  exact (a.trans b).cons_inv
theorem cc_take {k v m : Nat → Int32} {i : Nat} {c : Int32} {ml : List (Int32 × Int32)} (hi : i < 64) (h : m i = 1) (hc : c ≠ 1) (n : ct_nd ml) (p : List.Perm (cc_c k v m) ml) : List.Perm (cc_c k v (upd m i c)) (ct_er (k i) ml) :=
  ct_er1 ((cc_free hi h hc).trans p) n
end
section
/-! the small methods -/
/-- how far from its home the key at place p stands -/
def ds_d (w : Int32) (k : Nat → Int32) (p : Nat) : Nat := (p + 32 - hm_h w (k p)) % 32
theorem ds_lt (w : Int32) (k : Nat → Int32) (p : Nat) : ds_d w k p < 32 := Nat.mod_lt _ (by decide)
/-- what a search for c owes -/
def fd_ok (b : Nat) (K M : Nat → Int32) (c : Int32) (post : Int32 → Prop) : Prop :=
  (∀ i, i < 64 → rg_r b M i = 1 → rg_r b K i = c → post (nI (b + i))) ∧ ((∀ i, i < 64 → rg_r b M i = 1 → ¬ rg_r b K i = c) → post (-1))
/-- what a change of one table owes -/
def kn_k (b : Nat) (I : (Nat → Int32) → (Nat → Int32) → (Nat → Int32) → Prop) (ml : List (Int32 × Int32)) (fh w : Int32) (K V M L P Q : Nat → Int32) (post : SX → Prop) : Prop :=
  ∀ K' V' M' L' : Nat → Int32, fr_f b K K' → fr_f b V V' → fr_f b M M' → fr_f b L L' → I (rg_r b K') (rg_r b M') (rg_r b L') →
    List.Perm (cc_c (rg_r b K') (rg_r b V') (rg_r b M')) ml → post (fh, w, K', V', M', L', P, Q)
section
variable {fh w : Int32} {K V M L P Q : Nat → Int32}
theorem hw_home {post : Int32 → Prop} {c : Int32} (h : post (nI (hm_h w c))) : wpX_home post (fh, w, K, V, M, L, P, Q) c := by
  intro x ex y ey
  subst ex
  subst ey
  show post ((hm_b w c).toUInt32 >>> ((27 : Int32).toUInt32 &&& Int32.toUInt32 31)).toInt32
  rw [hm_sh]
  exact h
theorem hw_other {post : Int32 → Prop} {c : Int32} (h : post (nI (om_h w c))) : wpX_otherHome post (fh, w, K, V, M, L, P, Q) c := by
  intro x ex y ey
  subst ex
  subst ey
  show post ((om_b w c).toUInt32 >>> ((27 : Int32).toUInt32 &&& Int32.toUInt32 31)).toInt32
  rw [hm_sh]
  exact h
theorem hw_dist {post : Int32 → Prop} {x : Int32} {b p : Nat} (hx : x = nI (b + p)) (hp : p < 64) (hb : b ≤ 448) (h32 : b % 32 = 0) (h : post (nI (ds_d w (rg_r b K) p))) : wpX_distance post (fh, w, K, V, M, L, P, Q) x := by
  subst hx
  refine ⟨vp_in_nI (by omega) (by decide), hw_home ?_⟩
  have h1 := hm_lt w (K (b + p))
  rw [nI_clamp (by omega), hm_d (by omega) (by omega)]
  unfold ds_d at h
  rw [rg_at hp] at h
  have e : (b + p + 512 - hm_h w (K (b + p))) % 32 = (p + 32 - hm_h w (K (b + p))) % 32 := by omega
  rw [e]
  exact h
theorem hw_holds {post : Int32 → Prop} {x c : Int32} {b p : Nat} (hx : x = nI (b + p)) (hp : p < 64) (hb : b ≤ 448) (h1 : rg_r b M p = 1 → rg_r b K p = c → post 1) (h0 : ¬ (rg_r b M p = 1 ∧ rg_r b K p = c) → post 0) : wpX_holds post (fh, w, K, V, M, L, P, Q) x c := by
  subst hx
  rw [rg_at hp, rg_at hp] at h1 h0
  have hi : vp_in (nI (b + p)) 512 := vp_in_nI (by omega) (by decide)
  refine ⟨hi, ?_⟩
  rw [nI_clamp (by omega)]
  exact br_c (fun a => ⟨hi, br_c (fun d => h1 a d) (fun d => h0 (fun z => d z.2))⟩) (fun a => h0 (fun z => a z.1))
theorem hw_next {post : Int32 → Prop} {x : Int32} {q j : Nat} (hx : x = nI q) (hq : q < 512) (hl : L q = nI j) (hj : j < 512) (h : post (nI j)) : wpX_nextOf post (fh, w, K, V, M, L, P, Q) x := by
  subst hx
  refine ⟨vp_in_nI hq (by decide), nm_r (e' := nI j) (by rw [nI_clamp (by omega)]; exact hl) ?_⟩
  refine pk_le j 0 (fun h0 => ?_) (fun h0 => pk_le 512 j (fun h5 => absurd h5 (by omega)) (fun _ => h))
  have e : j = 0 := by omega
  subst e
  exact h
theorem hw_hold {post : SX → Prop} {x c v : Int32} {q : Nat} (hx : x = nI q) (hq : q < 512) (h : post (fh, w, upd K q c, upd V q v, upd M q 1, L, P, Q)) : wpX_hold post (fh, w, K, V, M, L, P, Q) x c v := by
  subst hx
  have hi : vp_in (nI q) 512 := vp_in_nI hq (by decide)
  refine ⟨hi, nm_r (e' := upd K q c) (by rw [nI_clamp (by omega)]) ⟨hi, nm_r (e' := upd V q v) (by rw [nI_clamp (by omega)]) ⟨hi, nm_r (e' := upd M q 1) (by rw [nI_clamp (by omega), hm_n1]) h⟩⟩⟩
theorem hw_release {post : SX → Prop} {x : Int32} {q : Nat} (hx : x = nI q) (hq : q < 512) (h : post (fh, w, K, V, upd M q 0, upd L q 0, P, Q)) : wpX_release post (fh, w, K, V, M, L, P, Q) x := by
  subst hx
  have hi : vp_in (nI q) 512 := vp_in_nI hq (by decide)
  exact ⟨hi, nm_r (e' := upd M q 0) (by rw [nI_clamp (by omega), hm_n0]) ⟨hi, nm_r (e' := upd L q 0) (by rw [nI_clamp (by omega)]) h⟩⟩
/-- the scan of the spare slots -/
theorem hw_spareL {post : Int32 → Prop} {c : Int32} {b : Nat} (hb : b ≤ 448) (hf : ∀ i, i < 64 → rg_r b M i = 1 → rg_r b K i = c → post (nI (b + i))) (hn : (∀ i, 32 ≤ i → i < 64 → rg_r b M i = 1 → ¬ rg_r b K i = c) → post (-1)) : ∀ n i, 32 ≤ i → i ≤ 64 → 64 - i < n → (∀ j, 32 ≤ j → j < i → rg_r b M j = 1 → ¬ rg_r b K j = c) → wX_findSpare_11 post c (nI b) fh w K V M L P Q n (nI (b + i)) := by
  intro n
  induction n with
  | zero => intro i _ _ h; omega
  | succ n ih =>
    intro i h32 h64 hm hno
    refine pk_le (b + 64) (b + i) (fun h => ?_) (fun h => ?_) (nI_add b 64)
    · exact hn fun j hj1 hj2 => hno j hj1 (by omega)
    · refine hw_holds rfl (by omega) hb (fun a d => br_f (by decide) (hf i (by omega) a d)) (fun z => br_t rfl (nm_r (nI_1 _) ?_))
      refine ih (i + 1) (by omega) (by omega) (by omega) fun j hj1 hj2 => ?_
      by_cases e : j = i
      · rw [e]; exact fun a d => z ⟨a, d⟩
      · exact hno j hj1 (by omega)
theorem hw_spare {post : Int32 → Prop} {c x : Int32} {e : Nat} (he : e < 8) (hx : x = nI e) (hf : ∀ i, i < 64 → rg_r (64 * e) M i = 1 → rg_r (64 * e) K i = c → post (nI (64 * e + i))) (hn : (∀ i, 32 ≤ i → i < 64 → rg_r (64 * e) M i = 1 → ¬ rg_r (64 * e) K i = c) → post (-1)) : wpX_findSpare post (fh, w, K, V, M, L, P, Q) x c := by
  subst hx
  refine nm_r (e' := nI (64 * e)) ((pk_mul e 64).trans (congrArg nI (by omega))) (nm_r (e' := nI (64 * e + 32)) (nI_add _ 32) ⟨33, ?_⟩)
  exact hw_spareL (by omega) hf hn 33 32 (by omega) (by omega) (by omega) (fun j h1 h2 => by omega)
/-- the first spare slot that isn't held -/
theorem hw_roomL {post : Int32 → Prop} {b f : Nat} (hb : b ≤ 448) (hf : f < 32) (h1 : ¬ rg_r b M (32 + f) = 1) (h : ∀ i, 32 ≤ i → i < 64 → ¬ rg_r b M i = 1 → post (nI (b + i))) : ∀ n i, i ≤ f → 32 - i < n → wX_freeSpare_10 post fh w K V M L P Q n (nI (b + (32 + i))) (nI (i + 1)) := by
  intro n
  induction n with
  | zero => intro i _ hm; omega
  | succ n ih =>
    intro i hi hm
    refine pk_le 32 (i + 1) (fun h5 => ?_) (fun h5 => ?_)
    · have e : i = f := by omega
      rw [e]
      exact h _ (by omega) (by omega) h1
    · refine ⟨vp_in_nI (by omega) (by decide), ?_⟩
      rw [nI_clamp (by omega), ← rg_at (b := b) (a := M) (i := 32 + i) (by omega)]
      refine br_c (fun a => nm_r (nI_1 _) (nm_r (nI_1 _) ?_)) (fun a => h _ (by omega) (by omega) a)
      have e : i ≠ f := fun e => h1 (e ▸ a)
      exact ih (i + 1) (by omega) (by omega)
theorem hw_room {post : Int32 → Prop} {x : Int32} {e : Nat} (he : e < 8) (hx : x = nI e) (hr : ∃ i, 32 ≤ i ∧ i < 32 + 32 ∧ ¬ rg_r (64 * e) M i = 1) (h : ∀ i, 32 ≤ i → i < 64 → ¬ rg_r (64 * e) M i = 1 → post (nI (64 * e + i))) : wpX_freeSpare post (fh, w, K, V, M, L, P, Q) x := by
  subst hx
  obtain ⟨f, f1, f2, f3⟩ := hr
  refine nm_r (e' := nI (64 * e + 32)) ?_ ⟨33, ?_⟩
  · rw [show nI e * 64 = nI (64 * e) from (pk_mul e 64).trans (congrArg nI (by omega))]
    exact nI_add _ 32
  · exact hw_roomL (f := f - 32) (by omega) (by omega) (by rw [show 32 + (f - 32) = f by omega]; exact f3) h 33 0 (by omega) (by omega)
end
end
section
/-! LINEAR, TRIANGULAR, DOUBLE: one walk -/
def pr_p (h s g : Nat) : Nat → Nat
  | 0 => h
  | j + 1 => (pr_p h s g j + (s + g * j)) % 32
theorem pr_lt {h s g : Nat} (hh : h < 32) (j : Nat) : pr_p h s g j < 32 := by
  cases j with
  | zero => exact hh
  | succ j => exact Nat.mod_lt _ (by decide)
theorem pr_tr {h s g : Nat} (hh : h < 32) (j : Nat) : pr_p h s g j = (h + pr_p 0 s g j) % 32 := by
  induction j with
  | zero =>
    show h = (h + 0) % 32
    omega
  | succ j ih =>
    show (pr_p h s g j + (s + g * j)) % 32 = (h + (pr_p 0 s g j + (s + g * j)) % 32) % 32
    omega
theorem pr_su0 : ∀ s, s < 16 → ∀ p, p < 32 → ∃ j, j < 32 ∧ pr_p 0 (s * 2 + 1) 0 j = p := by decide +kernel
theorem pr_su1 : ∀ p, p < 32 → ∃ j, j < 32 ∧ pr_p 0 1 1 j = p := by decide +kernel
/-- the walk's strides -/
def pr_s (w : Int32) (e : Nat) (c : Int32) : Nat := if e = 2 then om_h w c / 2 * 2 + 1 else 1
def pr_g (e : Nat) : Nat := if e = 1 then 1 else 0
theorem pr_sl (w : Int32) (e : Nat) (c : Int32) : pr_s w e c < 32 := by
  unfold pr_s
  have := om_lt w c
  by_cases h : e = 2
  · rw [if_pos h]; omega
  · rw [if_neg h]; omega
def pr_at (w : Int32) (e : Nat) (c : Int32) (j : Nat) : Nat := pr_p (hm_h w c) (pr_s w e c) (pr_g e) j
theorem pr_al (w : Int32) (e : Nat) (c : Int32) (j : Nat) : pr_at w e c j < 32 := pr_lt (hm_lt w c) j
/-- every place is met -/
theorem pr_sur (w : Int32) (e : Nat) (c : Int32) (p : Nat) (hp : p < 32) : ∃ j, j < 32 ∧ pr_at w e c j = p := by
  have hh := hm_lt w c
  have key : ∃ j, j < 32 ∧ pr_p 0 (pr_s w e c) (pr_g e) j = (p + 32 - hm_h w c) % 32 := by
    unfold pr_s pr_g
    by_cases e2 : e = 2
    · rw [if_pos e2, if_neg (by omega)]
      have := om_lt w c
      exact pr_su0 (om_h w c / 2) (by omega) _ (Nat.mod_lt _ (by decide))
    · rw [if_neg e2]
      by_cases e1 : e = 1
      · rw [if_pos e1]
        exact pr_su1 _ (Nat.mod_lt _ (by decide))
      · rw [if_neg e1]
        exact pr_su0 0 (by decide) _ (Nat.mod_lt _ (by decide))
  obtain ⟨j, hj, ej⟩ := key
  refine ⟨j, hj, ?_⟩
  unfold pr_at
  rw [pr_tr hh, ej]
  omega
def pr_ok (w : Int32) (e : Nat) (m : Nat → Int32) (c : Int32) (i : Nat) : Prop := ∃ j, j < 32 ∧ pr_at w e c j = i ∧ ∀ j', j' < j → ¬ m (pr_at w e c j') = 0
def pr_inv (w : Int32) (e : Nat) (k m : Nat → Int32) : Prop :=
  (∀ i, i < 32 → m i = 1 → pr_ok w e m (k i) i) ∧ (∀ i, 32 ≤ i → i < 64 → m i = 0) ∧ (e = 0 → ∀ i, i < 64 → m i = 0 ∨ m i = 1)
section
variable {fh w : Int32} {K V M L P Q : Nat → Int32}
theorem pr_stride {post : Int32 → Prop} {c : Int32} {e : Nat} (he : e < 8) (h : post (nI (pr_s w e c))) : wpX_firstStride post (fh, w, K, V, M, L, P, Q) (nI e) c := by
  unfold pr_s at h
  refine pk_eq e 2 (fun h2 => hw_other ?_) (fun h2 => ?_)
  · rw [if_pos h2] at h
    rw [om_odd _ (om_lt w c)]
    exact h
  · rw [if_neg h2] at h
    exact h
theorem pr_fl {post : Int32 → Prop} {c : Int32} {b h s g : Nat} (hb : b ≤ 448) (hh : h < 32) (hs : s < 32) (hg : g ≤ 1)
    (hI : ∀ i, i < 64 → rg_r b M i = 1 → rg_r b K i = c → ∃ j, j < 32 ∧ pr_p h s g j = i ∧ ∀ j', j' < j → ¬ rg_r b M (pr_p h s g j') = 0)
    (F : fd_ok b K M c post) : ∀ n j, j ≤ 32 → 32 - j < n → (∀ j', j' < j → ¬ (rg_r b M (pr_p h s g j') = 1 ∧ rg_r b K (pr_p h s g j') = c)) →
      wX_findProbing_35 post c (nI b) (nI g) fh w K V M L P Q n (nI (pr_p h s g j)) (nI (s + g * j)) (nI j) := by
  intro n
  induction n with
  | zero => intro j _ hm; omega
  | succ n ih =>
    intro j hj hm hno
    have hp := pr_lt (s := s) (g := g) hh j
    have hgj : g * j ≤ 1 * j := Nat.mul_le_mul_right j hg
    refine pk_le 32 j (fun h5 => ?_) (fun h5 => ?_)
    · refine F.2 fun i hi a d => ?_
      obtain ⟨j0, h1, h2, h3⟩ := hI i hi a d
      exact hno j0 (by omega) ⟨by rw [h2]; exact a, by rw [h2]; exact d⟩
    · refine ⟨pk_in (b + pr_p h s g j) 512 (by omega) (nI_add _ _), ?_⟩
      rw [nI_add, nI_clamp (by omega), ← rg_at (b := b) (a := M) (i := pr_p h s g j) (by omega)]
      refine br_c (fun h0 => ?_) (fun h0 => ?_)
      · refine F.2 fun i hi a d => ?_
        obtain ⟨j0, h1, h2, h3⟩ := hI i hi a d
        rcases Nat.lt_or_ge j0 j with q | q
        · exact hno j0 q ⟨by rw [h2]; exact a, by rw [h2]; exact d⟩
        · rcases Nat.lt_or_ge j j0 with q' | q'
          · exact h3 j q' h0
          · have ej : j0 = j := by omega
            rw [← ej, h2, a] at h0
            exact absurd h0 (by decide)
      · refine hw_holds rfl (by omega) hb (fun a d => br_f (by decide) (F.1 _ (by omega) a d)) (fun z => br_t rfl ?_)
        refine nm_r (e' := nI (pr_p h s g (j + 1))) ?_ (nm_r (e' := nI (s + g * (j + 1))) ?_ (nm_r (nI_1 _) ?_))
        · rw [nI_add, hm_m (by omega)]
          rfl
        · rw [nI_add, Nat.mul_succ]
          exact congrArg nI (by omega)
        · refine ih (j + 1) (by omega) (by omega) fun j' hj' => ?_
          by_cases ej : j' = j
          · rw [ej]; exact z
          · exact hno j' (by omega)
theorem pr_find {post : Int32 → Prop} {c : Int32} {e : Nat} (he : e < 3) (I : pr_inv w e (rg_r (64 * e) K) (rg_r (64 * e) M)) (F : fd_ok (64 * e) K M c post) : wpX_findProbing post (fh, w, K, V, M, L, P, Q) (nI e) c := by
  have hI : ∀ i, i < 64 → rg_r (64 * e) M i = 1 → rg_r (64 * e) K i = c → pr_ok w e (rg_r (64 * e) M) c i := by
    intro i hi a d
    by_cases q : i < 32
    · rw [← d]; exact I.1 i q a
    · rw [I.2.1 i (by omega) hi] at a
      exact absurd a (by decide)
  refine nm_r (e' := nI (64 * e)) ((pk_mul e 64).trans (congrArg nI (by omega))) (hw_home (pr_stride (by omega) ?_))
  have hg : pr_g e ≤ 1 := by
    unfold pr_g
    by_cases q : e = 1
    · rw [if_pos q]; omega
    · rw [if_neg q]; omega
  have W := pr_fl (fh := fh) (w := w) (V := V) (L := L) (P := P) (Q := Q) (b := 64 * e) (by omega) (hm_lt w c) (pr_sl w e c) hg hI F 33 0 (by omega) (by omega) (fun j' h => by omega)
  refine pk_eq e 1 (fun h => ⟨33, ?_⟩) (fun h => ⟨33, ?_⟩)
  · have eg : pr_g e = 1 := if_pos h
    rw [eg] at W
    exact W
  · have eg : pr_g e = 0 := if_neg h
    rw [eg] at W
    rw [show pr_s w e c + 0 * 0 = pr_s w e c by omega] at W
    exact W
theorem pr_il {post : SX → Prop} {c v : Int32} {b h s g : Nat} (hb : b ≤ 448) (hh : h < 32) (hs : s < 32) (hg : g ≤ 1)
    (R : ∃ j, j < 32 ∧ ¬ rg_r b M (pr_p h s g j) = 1)
    (F : ∀ j, j < 32 → ¬ rg_r b M (pr_p h s g j) = 1 → (∀ j', j' < j → rg_r b M (pr_p h s g j') = 1) → post (fh, w, upd K (b + pr_p h s g j) c, upd V (b + pr_p h s g j) v, upd M (b + pr_p h s g j) 1, L, P, Q)) :
    ∀ n j, j ≤ 32 → 32 - j < n → (∀ j', j' < j → rg_r b M (pr_p h s g j') = 1) →
      wX_insertProbing_36 post c v (nI b) (nI g) fh w K V M L P Q n (nI (pr_p h s g j)) (nI (s + g * j)) (nI j) := by
  intro n
  induction n with
  | zero => intro j _ hm; omega
  | succ n ih =>
    intro j hj hm hno
    have hp := pr_lt (s := s) (g := g) hh j
    have hgj : g * j ≤ 1 * j := Nat.mul_le_mul_right j hg
    refine pk_le 32 j (fun h5 => ?_) (fun h5 => ?_)
    · obtain ⟨j0, h1, h2⟩ := R
      exact absurd (hno j0 (by omega)) h2
    · refine ⟨pk_in (b + pr_p h s g j) 512 (by omega) (nI_add _ _), ?_⟩
      rw [nI_add, nI_clamp (by omega), ← rg_at (b := b) (a := M) (i := pr_p h s g j) (by omega)]
      refine br_c (fun h1 => ?_) (fun h1 => hw_hold rfl (by omega) (F j (by omega) h1 hno))
      refine nm_r (e' := nI (pr_p h s g (j + 1))) ?_ (nm_r (e' := nI (s + g * (j + 1))) ?_ (nm_r (nI_1 _) ?_))
      · rw [nI_add, hm_m (by omega)]
        rfl
      · rw [nI_add, Nat.mul_succ]
        exact congrArg nI (by omega)
      · refine ih (j + 1) (by omega) (by omega) fun j' hj' => ?_
        by_cases ej : j' = j
        · rw [ej]; exact h1
        · exact hno j' (by omega)
/-- a mark that isn't free any more -/
theorem pr_up {e : Nat} {m : Nat → Int32} {c x : Int32} {i q : Nat} (hx : x ≠ 0) (h : pr_ok w e m c i) : pr_ok w e (upd m q x) c i := by
  obtain ⟨j, h1, h2, h3⟩ := h
  refine ⟨j, h1, h2, fun j' hj' => ?_⟩
  by_cases eq : pr_at w e c j' = q
  · rw [eq, pk_us]; exact hx
  · rw [pk_un eq]; exact h3 j' hj'
theorem pr_insert {post : SX → Prop} {c v : Int32} {e : Nat} {ml : List (Int32 × Int32)} (he : e < 3) (I : pr_inv w e (rg_r (64 * e) K) (rg_r (64 * e) M)) (hl : ml.length < 32)
    (hp : List.Perm (cc_c (rg_r (64 * e) K) (rg_r (64 * e) V) (rg_r (64 * e) M)) ml)
    (F : kn_k (64 * e) (fun k m _ => pr_inv w e k m) ((c, v) :: ml) fh w K V M L P Q post) : wpX_insertProbing post (fh, w, K, V, M, L, P, Q) (nI e) c v := by
  have hR : ∃ j, j < 32 ∧ ¬ rg_r (64 * e) M (pr_at w e c j) = 1 := by
    obtain ⟨p, h1, h2, h3⟩ := cc_room (k := rg_r (64 * e) K) (v := rg_r (64 * e) V) (m := rg_r (64 * e) M) 0 (by omega) (by rw [hp.length_eq]; exact hl)
    obtain ⟨j, hj, ej⟩ := pr_sur w e c p (by omega)
    exact ⟨j, hj, by rw [ej]; exact h3⟩
  have hF : ∀ j, j < 32 → ¬ rg_r (64 * e) M (pr_at w e c j) = 1 → (∀ j', j' < j → rg_r (64 * e) M (pr_at w e c j') = 1) → post (fh, w, upd K (64 * e + pr_at w e c j) c, upd V (64 * e + pr_at w e c j) v, upd M (64 * e + pr_at w e c j) 1, L, P, Q) := by
    intro j hj h1 h2
    have hq := pr_al w e c j
    have hq6 : pr_at w e c j < 64 := by omega
    refine F _ _ _ _ (fr_u fr_r hq6) (fr_u fr_r hq6) (fr_u fr_r hq6) fr_r ?_ ?_
    · rw [rg_upd hq6, rg_upd hq6]
      refine ⟨fun i hi a => ?_, fun i h3 h4 => ?_, fun e0 i hi => ?_⟩
      · by_cases ei : i = pr_at w e c j
        · rw [ei, pk_us]
          refine pr_up (by decide) ⟨j, hj, rfl, fun j' hj' z => ?_⟩
          rw [h2 j' hj'] at z
          exact absurd z (by decide)
        · rw [pk_un ei] at a
          rw [pk_un ei]
          exact pr_up (by decide) (I.1 i hi a)
      · rw [pk_un (by omega)]
        exact I.2.1 i h3 h4
      · by_cases ei : i = pr_at w e c j
        · rw [ei, pk_us]; exact .inr rfl
        · rw [pk_un ei]; exact I.2.2 e0 i hi
    · rw [rg_upd hq6, rg_upd hq6, rg_upd hq6]
      exact (cc_hold hq6 h1).trans (hp.cons _)
  refine nm_r (e' := nI (64 * e)) ((pk_mul e 64).trans (congrArg nI (by omega))) (hw_home (pr_stride (by omega) ?_))
  have hg : pr_g e ≤ 1 := by
    unfold pr_g
    by_cases q : e = 1
    · rw [if_pos q]; omega
    · rw [if_neg q]; omega
  have W := pr_il (fh := fh) (w := w) (K := K) (V := V) (L := L) (P := P) (Q := Q) (v := v) (b := 64 * e) (by omega) (hm_lt w c) (pr_sl w e c) hg hR hF 33 0 (by omega) (by omega) (fun j' h => by omega)
  refine pk_eq e 1 (fun h => ⟨33, ?_⟩) (fun h => ⟨33, ?_⟩)
  · have eg : pr_g e = 1 := if_pos h
    rw [eg] at W
    exact W
  · have eg : pr_g e = 0 := if_neg h
    rw [eg] at W
    rw [show pr_s w e c + 0 * 0 = pr_s w e c by omega] at W
    exact W
/-- TRIANGULAR, DOUBLE: a slot is left -/
theorem pr_left {e : Nat} {k m : Nat → Int32} {i : Nat} (h0 : e ≠ 0) (hi : i < 32) (I : pr_inv w e k m) : pr_inv w e k (upd m i 2) := by
  refine ⟨fun j hj a => ?_, fun j h1 h2 => ?_, fun e0 => absurd e0 h0⟩
  · by_cases ei : j = i
    · rw [ei, pk_us] at a
      exact absurd a (by decide)
    · rw [pk_un ei] at a
      exact pr_up (by decide) (I.1 j hj a)
  · rw [pk_un (by omega)]
    exact I.2.1 j h1 h2
end
end
