/-- a slot function, and the list of what it holds below n -/
def ct_up (s : Nat → Option (Int32 × Int32)) (i : Nat) (x : Option (Int32 × Int32)) : Nat → Option (Int32 × Int32) := fun j => if j = i then x else s j
def ct_con (s : Nat → Option (Int32 × Int32)) : Nat → List (Int32 × Int32)
  | 0 => []
  | n + 1 => (s n).toList ++ ct_con s n
theorem ct_ext {s t : Nat → Option (Int32 × Int32)} : ∀ n, (∀ i, i < n → s i = t i) → ct_con s n = ct_con t n := by
  intro n
  induction n with
  | zero => intro _; rfl
  | succ n ih =>
    intro h
    show (s n).toList ++ ct_con s n = (t n).toList ++ ct_con t n
    rw [h n (Nat.lt_succ_self n), ih fun i hi => h i (Nat.lt_succ_of_lt hi)]
theorem ct_upd (s : Nat → Option (Int32 × Int32)) (i : Nat) (x : Option (Int32 × Int32)) : ∀ n, i < n → List.Perm ((s i).toList ++ ct_con (ct_up s i x) n) (x.toList ++ ct_con s n) := by
  intro n
  induction n with
  | zero => intro h; exact absurd h (Nat.not_lt_zero _)
  | succ n ih =>
    intro h
    show List.Perm ((s i).toList ++ ((ct_up s i x n).toList ++ ct_con (ct_up s i x) n)) (x.toList ++ ((s n).toList ++ ct_con s n))
    by_cases e : n = i
    · have e1 : ct_up s i x n = x := by unfold ct_up; rw [if_pos e]
      have e2 : ct_con (ct_up s i x) n = ct_con s n := ct_ext n fun j hj => by unfold ct_up; rw [if_neg (by omega)]
      rw [e1, e2, e]
      exact List.perm_append_comm_assoc _ _ _
    · have e1 : ct_up s i x n = s n := by unfold ct_up; rw [if_neg e]
      rw [e1]
      refine (List.perm_append_comm_assoc _ _ _).trans (((ih (by omega)).append_left _).trans (List.perm_append_comm_assoc _ _ _))
theorem ct_mem (s : Nat → Option (Int32 × Int32)) (p : Int32 × Int32) : ∀ n, p ∈ ct_con s n ↔ ∃ i, i < n ∧ s i = some p := by
  intro n
  induction n with
  | zero => exact ⟨fun h => (List.not_mem_nil h).elim, fun ⟨i, hi, _⟩ => absurd hi (Nat.not_lt_zero _)⟩
  | succ n ih =>
    show p ∈ (s n).toList ++ ct_con s n ↔ _
    rw [List.mem_append, ih, Option.mem_toList]
    constructor
    · rintro (h | ⟨i, hi, h⟩)
      · exact ⟨n, Nat.lt_succ_self n, h⟩
      · exact ⟨i, Nat.lt_succ_of_lt hi, h⟩
    · rintro ⟨i, hi, h⟩
      by_cases e : i = n
      · exact .inl (e ▸ h)
      · exact .inr ⟨i, by omega, h⟩
/-- no key twice -/
def ct_nd (l : List (Int32 × Int32)) : Prop := (l.map Prod.fst).Nodup
theorem ct_ndP {l l' : List (Int32 × Int32)} (p : List.Perm l l') (h : ct_nd l) : ct_nd l' := (p.map Prod.fst).nodup h
theorem ct_uni (s : Nat → Option (Int32 × Int32)) : ∀ n, ct_nd (ct_con s n) → ∀ i j k v w, i < n → j < n → s i = some (k, v) → s j = some (k, w) → i = j := by
  intro n
  induction n with
  | zero => intro _ i j k v w hi; exact absurd hi (Nat.not_lt_zero _)
  | succ n ih =>
    intro h i j k v w hi hj ei ej
    have h' : ((((s n).toList ++ ct_con s n)).map Prod.fst).Nodup := h
    rw [List.map_append, List.nodup_append] at h'
    have clash : ∀ a x y, s n = some (k, x) → a < n → s a = some (k, y) → False := by
      intro a x y en ha ea
      refine h'.2.2 k ?_ k ?_ rfl
      · rw [en]; exact List.mem_cons_self
      · exact List.mem_map.mpr ⟨(k, y), (ct_mem s _ n).mpr ⟨a, ha, ea⟩, rfl⟩
    by_cases e : i = n
    · by_cases f : j = n
      · omega
      · exact (clash j v w (e ▸ ei) (by omega) ej).elim
    · by_cases f : j = n
      · exact (clash i w v (f ▸ ej) (by omega) ei).elim
      · exact ih h'.2.1 i j k v w (by omega) (by omega) ei ej
/-- a stretch that is full shows in the length -/
theorem ct_full (s : Nat → Option (Int32 × Int32)) (a : Nat) : ∀ n, (∀ i, a ≤ i → i < n → s i ≠ none) → n - a ≤ (ct_con s n).length := by
  intro n
  induction n with
  | zero => intro _; omega
  | succ n ih =>
    intro h
    have h1 := ih fun i hi hn => h i hi (by omega)
    show _ ≤ ((s n).toList ++ ct_con s n).length
    rw [List.length_append]
    by_cases ha : a ≤ n
    · have h2 : (s n).toList.length = 1 := by
        cases e : s n with
        | none => exact absurd e (h n ha (by omega))
        | some x => rfl
      omega
    · omega
theorem ct_lenM (s : Nat → Option (Int32 × Int32)) : ∀ n m, n ≤ m → (ct_con s n).length ≤ (ct_con s m).length := by
  intro n m h
  induction m with
  | zero => have e : n = 0 := by omega
            rw [e]; exact Nat.le_refl _
  | succ m ih =>
    by_cases e : n = m + 1
    · rw [e]; exact Nat.le_refl _
    · have := ih (by omega)
      show _ ≤ ((s m).toList ++ ct_con s m).length
      rw [List.length_append]
      omega
/-- the sum of the values, with wrap-around; how many have a value -/
def ct_sum (l : List (Int32 × Int32)) : Int32 := l.foldr (fun p a => p.2 + a) 0
theorem ct_sumP {l l' : List (Int32 × Int32)} (p : List.Perm l l') : ct_sum l = ct_sum l' := by
  induction p with
  | nil => rfl
  | cons x _ ih => exact congrArg (x.2 + ·) ih
  | swap x y l =>
    show y.2 + (x.2 + ct_sum l) = x.2 + (y.2 + ct_sum l)
    rw [← Int32.add_assoc, ← Int32.add_assoc, Int32.add_comm y.2 x.2]
  | trans _ _ a b => exact a.trans b
def ct_num (v : Int32) (l : List (Int32 × Int32)) : Nat := l.countP (fun p => p.2 == v)
theorem ct_numP {v : Int32} {l l' : List (Int32 × Int32)} (p : List.Perm l l') : ct_num v l = ct_num v l' := p.countP_eq _
/-- a region's slot function: keys, values, marks (1: held) -/
def ct_sl (k v m : Nat → Int32) : Nat → Option (Int32 × Int32) := fun i => if m i = 1 then some (k i, v i) else none
theorem ct_sl1 {k v m : Nat → Int32} {i : Nat} (h : m i = 1) : ct_sl k v m i = some (k i, v i) := if_pos h
theorem ct_sl0 {k v m : Nat → Int32} {i : Nat} (h : ¬ m i = 1) : ct_sl k v m i = none := if_neg h
theorem ct_slS {k v m : Nat → Int32} {i : Nat} {c x : Int32} (h : ct_sl k v m i = some (c, x)) : m i = 1 ∧ k i = c ∧ v i = x := by
  unfold ct_sl at h
  by_cases e : m i = 1
  · rw [if_pos e] at h
    injection h with h
    injection h with h1 h2
    exact ⟨e, h1, h2⟩
  · rw [if_neg e] at h
    cases h
theorem ct_slH (k v m : Nat → Int32) (i : Nat) (x y : Int32) : ct_sl (upd k i x) (upd v i y) (upd m i 1) = ct_up (ct_sl k v m) i (some (x, y)) := by
  funext j
  unfold ct_sl ct_up upd
  by_cases e : j = i
  · simp [e]
  · simp [e]
theorem ct_slF (k v m : Nat → Int32) (i : Nat) (c : Int32) (hc : c ≠ 1) : ct_sl k v (upd m i c) = ct_up (ct_sl k v m) i none := by
  funext j
  unfold ct_sl ct_up upd
  by_cases e : j = i
  · simp [e, hc]
  · simp [e]
theorem ct_slV (k v m : Nat → Int32) (i : Nat) (y : Int32) (h : m i = 1) : ct_sl k (upd v i y) m = ct_up (ct_sl k v m) i (some (k i, y)) := by
  funext j
  unfold ct_sl ct_up upd
  by_cases e : j = i
  · simp [e, h]
  · simp [e]
/-- a region's content -/
def cc_c (k v m : Nat → Int32) : List (Int32 × Int32) := ct_con (ct_sl k v m) 64
theorem cc_in {k v m : Nat → Int32} {i : Nat} (hi : i < 64) (h : m i = 1) : (k i, v i) ∈ cc_c k v m := (ct_mem _ _ 64).mpr ⟨i, hi, ct_sl1 h⟩
theorem cc_of {k v m : Nat → Int32} {c x : Int32} (h : (c, x) ∈ cc_c k v m) : ∃ i, i < 64 ∧ m i = 1 ∧ k i = c ∧ v i = x := by
  obtain ⟨i, hi, e⟩ := (ct_mem _ _ 64).mp h
  exact ⟨i, hi, ct_slS e⟩
theorem cc_uni {k v m : Nat → Int32} (h : ct_nd (cc_c k v m)) {i j : Nat} (hi : i < 64) (hj : j < 64) (mi : m i = 1) (mj : m j = 1) (e : k i = k j) : i = j :=
  ct_uni _ 64 h i j (k i) (v i) (v j) hi hj (ct_sl1 mi) (by rw [ct_sl1 mj, e])
/-- hold at a slot that isn't held -/
theorem cc_hold {k v m : Nat → Int32} {i : Nat} {c x : Int32} (hi : i < 64) (h : ¬ m i = 1) : List.Perm (cc_c (upd k i c) (upd v i x) (upd m i 1)) ((c, x) :: cc_c k v m) := by
  have := ct_upd (ct_sl k v m) i (some (c, x)) 64 hi
  rw [ct_sl0 h] at this
  unfold cc_c
  rw [ct_slH]
  exact this
/-- hold over a slot that is held -/
theorem cc_over {k v m : Nat → Int32} {i : Nat} {c x : Int32} (hi : i < 64) (h : m i = 1) : List.Perm ((k i, v i) :: cc_c (upd k i c) (upd v i x) (upd m i 1)) ((c, x) :: cc_c k v m) := by
  have := ct_upd (ct_sl k v m) i (some (c, x)) 64 hi
  rw [ct_sl1 h] at this
  unfold cc_c
  rw [ct_slH]
  exact this
theorem cc_free {k v m : Nat → Int32} {i : Nat} {c : Int32} (hi : i < 64) (h : m i = 1) (hc : c ≠ 1) : List.Perm ((k i, v i) :: cc_c k v (upd m i c)) (cc_c k v m) := by
  have := ct_upd (ct_sl k v m) i none 64 hi
  rw [ct_sl1 h] at this
  unfold cc_c
  rw [ct_slF _ _ _ _ _ hc]
  exact this
theorem cc_val {k v m : Nat → Int32} {i : Nat} {x : Int32} (hi : i < 64) (h : m i = 1) : List.Perm ((k i, v i) :: cc_c k (upd v i x) m) ((k i, x) :: cc_c k v m) := by
  have := ct_upd (ct_sl k v m) i (some (k i, x)) 64 hi
  rw [ct_sl1 h] at this
  unfold cc_c
  rw [ct_slV _ _ _ _ _ h]
  exact this
/-- some slot of a stretch of 32 isn't held -/
theorem cc_room {k v m : Nat → Int32} (a : Nat) (ha : a + 32 ≤ 64) (h : (cc_c k v m).length < 32) : ∃ i, a ≤ i ∧ i < a + 32 ∧ ¬ m i = 1 := by
  by_cases e : ∃ i, a ≤ i ∧ i < a + 32 ∧ ¬ m i = 1
  · exact e
  · have h1 := ct_full (ct_sl k v m) a (a + 32) (fun i hi hn z => by
      by_cases q : m i = 1
      · rw [ct_sl1 q] at z; cases z
      · exact e ⟨i, hi, hn, q⟩)
    have h2 := ct_lenM (ct_sl k v m) (a + 32) 64 ha
    unfold cc_c at h
    omega
/-- without a key -/
def ct_er (c : Int32) (l : List (Int32 × Int32)) : List (Int32 × Int32) := l.filter (fun p => p.1 != c)
theorem ct_erP {c : Int32} {l l' : List (Int32 × Int32)} (p : List.Perm l l') : List.Perm (ct_er c l) (ct_er c l') := p.filter _
theorem ct_er0 {c : Int32} {l : List (Int32 × Int32)} (h : ∀ v, (c, v) ∉ l) : ct_er c l = l := by
  refine List.filter_eq_self.mpr fun p hp => ?_
  have : p.1 ≠ c := fun e => h p.2 (by rw [← e]; exact hp)
  simp [this]
theorem ct_er1 {c v : Int32} {l ml : List (Int32 × Int32)} (p : List.Perm ((c, v) :: l) ml) (h : ct_nd ml) : List.Perm l (ct_er c ml) := by
  have n : ct_nd ((c, v) :: l) := ct_ndP p.symm h
  have q := ct_erP (c := c) p
  have e : ct_er c ((c, v) :: l) = ct_er c l := by simp [ct_er]
  rw [e, ct_er0] at q
  · exact q
  · intro x hx
    have n' : (c :: l.map Prod.fst).Nodup := n
    exact (List.nodup_cons.mp n').1 (List.mem_map.mpr ⟨(c, x), hx, rfl⟩)
theorem ct_er2 {c v : Int32} {ml : List (Int32 × Int32)} (h : ct_nd ml) (hm : (c, v) ∈ ml) : List.Perm ml ((c, v) :: ct_er c ml) := by
  have p := List.perm_cons_erase hm
  exact p.trans ((ct_er1 p.symm h).cons _)
theorem ct_erN {c : Int32} {ml : List (Int32 × Int32)} (h : ct_nd ml) : ct_nd (ct_er c ml) := List.Nodup.sublist (List.filter_sublist.map _) h
theorem ct_erM {c : Int32} {ml : List (Int32 × Int32)} {p : Int32 × Int32} : p ∈ ct_er c ml ↔ p ∈ ml ∧ p.1 ≠ c := by
  unfold ct_er
  rw [List.mem_filter]
  simp
theorem ct_erC {c v : Int32} {ml : List (Int32 × Int32)} (h : ct_nd ml) : ct_nd ((c, v) :: ct_er c ml) := by
  show (c :: (ct_er c ml).map Prod.fst).Nodup
  refine List.nodup_cons.mpr ⟨?_, ct_erN h⟩
  intro hm
  obtain ⟨p, hp, e⟩ := List.mem_map.mp hm
  exact (ct_erM.mp hp).2 e
theorem ct_fun {c v x : Int32} {ml : List (Int32 × Int32)} (h : ct_nd ml) (h1 : (c, v) ∈ ml) (h2 : (c, x) ∈ ml) : v = x := by
  have p := (ct_er2 h h1).subset h2
  rcases List.mem_cons.mp p with e | e
  · injection e with _ e; exact e.symm
  · exact absurd rfl (ct_erM.mp e).2
/-- the value under a slot's key is set: its content -/
theorem cc_set {k v m : Nat → Int32} {i : Nat} {x : Int32} {ml : List (Int32 × Int32)} (hi : i < 64) (h : m i = 1) (n : ct_nd ml) (p : List.Perm (cc_c k v m) ml) : List.Perm (cc_c k (upd v i x) m) ((k i, x) :: ct_er (k i) ml) := by
  have a := cc_val (x := x) (k := k) (v := v) hi h
  have b : List.Perm ((k i, x) :: cc_c k v m) ((k i, v i) :: (k i, x) :: ct_er (k i) ml) :=
    ((p.trans (ct_er2 n (p.subset (cc_in hi h)))).cons _).trans (List.Perm.swap _ _ _)
  exact (a.trans b).cons_inv
theorem cc_take {k v m : Nat → Int32} {i : Nat} {c : Int32} {ml : List (Int32 × Int32)} (hi : i < 64) (h : m i = 1) (hc : c ≠ 1) (n : ct_nd ml) (p : List.Perm (cc_c k v m) ml) : List.Perm (cc_c k v (upd m i c)) (ct_er (k i) ml) :=
  ct_er1 ((cc_free hi h hc).trans p) n
