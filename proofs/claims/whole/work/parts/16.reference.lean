/-! the reference's walks -/
section
variable {ks vs : Nat → Int32} {n : Nat}
theorem rf_findL {post : Int32 → Prop} {c : Int32} (hn : n ≤ 24) (h1 : ∀ i, i < n → ks i = c → post (nI i)) (h0 : (∀ i, i < n → ¬ ks i = c) → post (-1)) :
    ∀ k j, j ≤ n → j < k → (∀ i, j ≤ i → i < n → ¬ ks i = c) → wY_find_7 post c (nI n) ks vs k (nI j - 1) := by
  intro k
  induction k with
  | zero => intro j _ hk; omega
  | succ k ih =>
    intro j hj hk hno
    cases j with
    | zero => exact br_t (by decide) (h0 fun i hi => hno i (by omega) hi)
    | succ j =>
      rw [nI_pred]
      refine br_f (nI_pos (by omega)) ⟨vp_in_nI (by omega) (by decide), ?_⟩
      rw [nI_clamp (by omega)]
      refine br_c (fun a => h1 j (by omega) a) (fun a => nm_r (e' := nI j - 1) (Int32.sub_eq_add_neg _ _).symm ?_)
      refine ih j (by omega) (by omega) fun i hi1 hi2 => ?_
      by_cases e : i = j
      · rw [e]; exact a
      · exact hno i (by omega) hi2
theorem rf_find {post : Int32 → Prop} {c : Int32} (hn : n ≤ 24) (h1 : ∀ i, i < n → ks i = c → (c, vs i) ∈ ar_l ks vs n → post (nI i)) (h0 : (∀ x, (c, x) ∉ ar_l ks vs n) → post (-1)) : wpY_find post (nI n, ks, vs) c := by
  refine nm_e ⟨n + 1, rf_findL hn (fun i hi e => h1 i hi e (ar_mem.mpr ⟨i, hi, by rw [e]⟩)) (fun hno => h0 fun x hx => ?_) (n + 1) n (by omega) (by omega) (fun i h1 h2 => by omega)⟩
  obtain ⟨i, hi, e⟩ := ar_mem.mp hx
  exact hno i hi (congrArg Prod.fst e)
theorem rf_setP {c v : Int32} {i : Nat} (hi : i < n) (e : ks i = c) (nd : ct_nd (ar_l ks vs n)) : List.Perm (ar_l ks (upd vs i v) n) ((c, v) :: ct_er c (ar_l ks vs n)) := by
  have h := ct_upd (fun j => some (ks j, vs j)) i (some (c, v)) n hi
  have e1 : ct_con (ct_up (fun j => some (ks j, vs j)) i (some (c, v))) n = ar_l ks (upd vs i v) n := by
    refine ct_ext n fun j _ => ?_
    unfold ct_up
    by_cases ej : j = i
    · rw [if_pos ej, ej, pk_us, e]
    · rw [if_neg ej, pk_un ej]
  rw [e1] at h
  have h' : List.Perm ((c, vs i) :: ar_l ks (upd vs i v) n) ((c, v) :: ar_l ks vs n) := by rw [← e] at h ⊢; exact h
  have h2 := ct_er2 nd (ar_mem.mpr ⟨i, hi, by rw [e]⟩ : (c, vs i) ∈ ar_l ks vs n)
  exact (h'.trans ((h2.cons _).trans (List.Perm.swap _ _ _))).cons_inv
theorem rf_put {post : Int32 → SY → Prop} {c v : Int32} (hn : n ≤ 24) (nd : ct_nd (ar_l ks vs n))
    (h1 : ∀ n' ks' vs', n' ≤ 24 → List.Perm (ar_l ks' vs' n') ((c, v) :: ct_er c (ar_l ks vs n)) → ((∃ x, (c, x) ∈ ar_l ks vs n) ∨ n < 24) → post (nI n') (nI n', ks', vs'))
    (h0 : (∀ x, (c, x) ∉ ar_l ks vs n) → n = 24 → post (-1) (nI n, ks, vs)) : wpY_put post (nI n, ks, vs) c v := by
  unfold wpY_put
  dsimp only
  refine rf_find hn (fun i hi e hin => br_t (nI_pos' (by omega)) ?_) (fun hno => br_f (by decide) ?_)
  · refine ⟨vp_in_nI (by omega) (by decide), nm_r (e' := upd vs i v) (by rw [nI_clamp (by omega)]) ?_⟩
    exact h1 n ks _ hn (rf_setP hi e nd) (.inl ⟨_, hin⟩)
  · refine pk_lt n 24 (fun h => ⟨vp_in_nI h (by decide), nm_r (e' := upd ks n c) (by rw [nI_clamp (by omega)]) (nm_r (nI_1 _) ?_)⟩) (fun h => h0 hno (by omega))
    refine ⟨vp_in_nI h (by decide), nm_r (e' := upd vs n v) (by rw [nI_clamp (by omega)]) ?_⟩
    refine h1 (n + 1) _ _ (by omega) ?_ (.inr h)
    rw [ar_s, pk_us, pk_us, ct_er0 hno, ar_ext (ks := ks) (vs := vs) (fun j hj => pk_un (by omega)) (fun j hj => pk_un (by omega))]
theorem rf_delP {c : Int32} {i m : Nat} (hi : i < m + 1) (e : ks i = c) (nd : ct_nd (ar_l ks vs (m + 1))) : List.Perm (ar_l (upd ks i (ks m)) (upd vs i (vs m)) m) (ct_er c (ar_l ks vs (m + 1))) := by
  refine ct_er1 (v := vs i) ?_ nd
  by_cases ei : i = m
  · subst ei
    rw [ar_ext (ks := ks) (vs := vs) (fun j hj => pk_un (by omega)) (fun j hj => pk_un (by omega)), ar_s, e]
  · have h := ct_upd (fun j => some (ks j, vs j)) i (some (ks m, vs m)) m (by omega)
    have e1 : ct_con (ct_up (fun j => some (ks j, vs j)) i (some (ks m, vs m))) m = ar_l (upd ks i (ks m)) (upd vs i (vs m)) m := by
      refine ct_ext m fun j _ => ?_
      unfold ct_up
      by_cases ej : j = i
      · rw [if_pos ej, ej, pk_us, pk_us]
      · rw [if_neg ej, pk_un ej, pk_un ej]
    rw [e1] at h
    rw [← e]
    exact h
theorem rf_remove {post : Int32 → SY → Prop} {c : Int32} (hn : n ≤ 24) (nd : ct_nd (ar_l ks vs n))
    (h1 : ∀ n' ks' vs', n' ≤ 24 → n' < n → List.Perm (ar_l ks' vs' n') (ct_er c (ar_l ks vs n)) → (∃ x, (c, x) ∈ ar_l ks vs n) → post 1 (nI n', ks', vs'))
    (h0 : (∀ x, (c, x) ∉ ar_l ks vs n) → post 0 (nI n, ks, vs)) : wpY_remove post (nI n, ks, vs) c := by
  unfold wpY_remove
  dsimp only
  refine rf_find hn (fun i hi e hin => br_t (nI_pos' (by omega)) ?_) (fun hno => br_f (by decide) (h0 hno))
  obtain ⟨m, rfl⟩ : ∃ m, n = m + 1 := ⟨n - 1, by omega⟩
  refine nm_r (nI_pred m) ⟨vp_in_nI (by omega) (by decide), vp_in_nI (by omega) (by decide), nm_r (e' := upd ks i (ks m)) (by rw [nI_clamp (by omega), nI_clamp (by omega)]) ⟨vp_in_nI (by omega) (by decide), vp_in_nI (by omega) (by decide), nm_r (e' := upd vs i (vs m)) (by rw [nI_clamp (by omega), nI_clamp (by omega)]) ?_⟩⟩
  exact h1 m _ _ (by omega) (by omega) (rf_delP hi e nd) ⟨_, hin⟩
theorem rf_siftL {post : Int32 → SY → Prop} {m r : Int32} (hn : n ≤ 24) (m0 : ¬ m = 0)
    (F : ∀ n' ks' vs', n' ≤ n → ar_l ks' vs' n' = (ar_l ks vs n).filter (fun p => !mt_f m r p) → post (nI (n - n')) (nI n', ks', vs')) :
    ∀ k i le (ks' vs' : Nat → Int32), i ≤ n → n - i < k → le ≤ i → ar_l ks' vs' le = (ar_l ks vs i).filter (fun p => !mt_f m r p) → (∀ j, i ≤ j → ks' j = ks j ∧ vs' j = vs j) →
      wY_sift_29 post m r (nI n) k (nI le) (nI i) ks' vs' := by
  intro k
  induction k with
  | zero => intro i le ks' vs' _ hk; omega
  | succ k ih =>
    intro i le ks' vs' hi hk hle hl hr
    refine pk_le n i (fun h5 => nm_r (pk_sub (by omega)) ?_) (fun h5 => ⟨vp_in_nI (by omega) (by decide), m0, m0, ?_⟩)
    · have e : i = n := by omega
      subst e
      exact F le ks' vs' hle hl
    · rw [nI_clamp (by omega)]
      have hk1 := (hr i (Nat.le_refl _)).1
      have hv1 := (hr i (Nat.le_refl _)).2
      refine br_c (fun a => nm_r (nI_1 _) ?_) (fun a => ?_)
      · refine ih (i + 1) le ks' vs' (by omega) (by omega) (by omega) ?_ (fun j hj => hr j (by omega))
        have a' : mt_r m (ks i) = r := by rw [← hk1]; exact a
        rw [ar_s, hl]
        have hneg : ¬ (!mt_f m r (ks i, vs i)) = true := by
          unfold mt_f
          simp [a']
        rw [List.filter_cons_of_neg (p := fun p => !mt_f m r p) hneg]
      · have a' : ¬ mt_r m (ks i) = r := by rw [← hk1]; exact a
        refine ⟨vp_in_nI (by omega) (by decide), vp_in_nI (by omega) (by decide), nm_r (e' := upd ks' le (ks' i)) (by rw [nI_clamp (by omega)]) ⟨vp_in_nI (by omega) (by decide), vp_in_nI (by omega) (by decide), nm_r (e' := upd vs' le (vs' i)) (by rw [nI_clamp (by omega)]) (nm_r (nI_1 _) (nm_r (nI_1 _) ?_))⟩⟩
        refine ih (i + 1) (le + 1) _ _ (by omega) (by omega) (by omega) ?_ (fun j hj => ⟨?_, ?_⟩)
        · rw [ar_s, ar_s, pk_us, pk_us]
          have hpos : (!mt_f m r (ks i, vs i)) = true := by
            unfold mt_f
            simp [a']
          rw [List.filter_cons_of_pos (p := fun p => !mt_f m r p) hpos, ← hl, hk1, hv1]
          exact congrArg _ (ar_ext (fun j hj => pk_un (by omega)) (fun j hj => pk_un (by omega)))
        · rw [pk_un (by omega)]; exact (hr j (by omega)).1
        · rw [pk_un (by omega)]; exact (hr j (by omega)).2
theorem rf_sift {post : Int32 → SY → Prop} {m r : Int32} (hn : n ≤ 24) (m0 : ¬ m = 0)
    (F : ∀ n' ks' vs', n' ≤ n → ar_l ks' vs' n' = (ar_l ks vs n).filter (fun p => !mt_f m r p) → post (nI (n - n')) (nI n', ks', vs')) : ∃ n29 : Nat, wY_sift_29 post m r (nI n) n29 0 0 ks vs :=
  ⟨n + 1, rf_siftL hn m0 F (n + 1) 0 0 ks vs (by omega) (by omega) (by omega) rfl (fun j _ => ⟨rfl, rfl⟩)⟩
/-- which table is asked -/
theorem eg_7 {x : Int32} (h : nI 8 ≤ x) : 7 < x ∧ ¬ x < 0 ∧ (8 : Int32) ≤ x := by
  have h1 := Int32.le_iff_toInt_le.mp h
  have e8 : (nI 8).toInt = 8 := by decide
  have e7 : (7 : Int32).toInt = 7 := by decide
  have e0 : (0 : Int32).toInt = 0 := by decide
  refine ⟨?_, ?_, h⟩
  · rw [Int32.lt_iff_toInt_lt]; omega
  · rw [Int32.lt_iff_toInt_lt]; omega
theorem eg_y {post : Int32 → Prop} {x : Int32} (h0 : (x < 0 ∨ nI 8 ≤ x) → post 0) (h1 : ∀ e, e < 8 → x = nI e → post 1) {v : SY} : wpY_engine post v x := by
  obtain ⟨a, b, c⟩ := v
  rcases pk_ix x (n := 8) (by decide) with h | h | ⟨e, he, ex⟩
  · exact br_t h (h0 (.inl h))
  · exact br_f (eg_7 h).2.1 (br_t (eg_7 h).1 (h0 (.inr h)))
  · have G := h1 e he ex
    subst ex
    refine br_f (nI_pos (by omega)) (pk_lt 7 e (fun h => absurd h (by omega)) (fun _ => G))
theorem eg_x {post : Int32 → Prop} {x : Int32} (h0 : (x < 0 ∨ nI 8 ≤ x) → post 0) (h1 : ∀ e, e < 8 → x = nI e → post 1) : wpX_isEngine post x := by
  rcases pk_ix x (n := 8) (by decide) with h | h | ⟨e, he, ex⟩
  · exact br_t h (h0 (.inl h))
  · exact br_f (eg_7 h).2.1 (br_t (eg_7 h).2.2 (h0 (.inr h)))
  · have G := h1 e he ex
    subst ex
    refine br_f (nI_pos (by omega)) (pk_le 8 e (fun h => absurd h (by omega)) (fun _ => G))
theorem eg_not {x : Int32} {e : Nat} (he : e < 8) (h : x < 0 ∨ nI 8 ≤ x) : ¬ x = nI e := by
  intro z
  subst z
  rcases h with h | h
  · exact nI_pos (by omega) h
  · exact nI_ge he (by decide) h
theorem rf_num {post : Int32 → Prop} {x v : Int32} (hn : n ≤ 24) (h0 : (x < 0 ∨ nI 8 ≤ x) → post (-2)) (h1 : ∀ e, e < 8 → x = nI e → post (nI (ct_num v (ar_l ks vs n)))) : wpY_count post (nI n, ks, vs) x v := by
  have loop : ∀ k i, i ≤ n → n - i < k → wY_count_5 post x v (nI n) ks vs k (nI (ct_num v (ar_l ks vs i))) (nI i) := by
    intro k
    induction k with
    | zero => intro i _ hk; omega
    | succ k ih =>
      intro i hi hk
      refine pk_le n i (fun h5 => ?_) (fun h5 => ⟨vp_in_nI (by omega) (by decide), ?_⟩)
      · have e : i = n := by omega
        subst e
        exact eg_y (fun h => br_t rfl (h0 h)) (fun e he ex => br_f (by decide) (h1 e he ex))
      · rw [nI_clamp (by omega)]
        have ih' := ih (i + 1) (by omega) (by omega)
        rw [ar_s] at ih'
        refine br_c (fun a => nm_r (nI_1 _) (nm_r (nI_1 _) ?_)) (fun a => nm_r (nI_1 _) ?_)
        · rw [qs_ny a] at ih'; exact ih'
        · rw [qs_nn a] at ih'; exact ih'
  exact ⟨n + 1, loop (n + 1) 0 (by omega) (by omega)⟩
theorem rf_sum {post : Int32 → Prop} {x : Int32} (hn : n ≤ 24) (h0 : (x < 0 ∨ nI 8 ≤ x) → post 0) (h1 : ∀ e, e < 8 → x = nI e → post (ct_sum (ar_l ks vs n))) : wpY_sum post (nI n, ks, vs) x := by
  by_cases hx : ∃ e, e < 8 ∧ x = nI e
  · obtain ⟨e, he, ex⟩ := hx
    have loop : ∀ k i, i ≤ n → n - i < k → wY_sum_4 post x (nI n) ks vs k (ct_sum (ar_l ks vs i)) (nI i) := by
      intro k
      induction k with
      | zero => intro i _ hk; omega
      | succ k ih =>
        intro i hi hk
        refine pk_le n i (fun h5 => ?_) (fun h5 => ?_)
        · have ei : i = n := by omega
          subst ei
          exact h1 e he ex
        · refine eg_y (fun h => absurd ex (eg_not he h)) (fun _ _ _ => br_f (by decide) ⟨vp_in_nI (by omega) (by decide), ?_⟩)
          rw [nI_clamp (by omega)]
          refine nm_r (e' := ct_sum (ar_l ks vs (i + 1))) ?_ (nm_r (nI_1 _) (ih (i + 1) (by omega) (by omega)))
          rw [ar_s]
          exact Int32.add_comm _ _
    exact ⟨n + 1, loop (n + 1) 0 (by omega) (by omega)⟩
  · have hx' : x < 0 ∨ nI 8 ≤ x := by
      rcases pk_ix x (n := 8) (by decide) with h | h | h
      · exact .inl h
      · exact .inr h
      · exact absurd h hx
    refine ⟨1, pk_le n 0 (fun h5 => h0 hx') (fun h5 => ?_)⟩
    exact eg_y (fun h => br_t rfl (h0 h)) (fun e he ex => absurd ⟨e, he, ex⟩ hx)
theorem rf_least {post : Int32 → Prop} (hn : n ≤ 24) (F : ∀ r, qs_least r (ar_l ks vs n) → post r) : wpY_least post (nI n, ks, vs) := by
  have loop : ∀ k i r, i ≤ n → n - i < k → (∃ x, (r, x) ∈ ar_l ks vs n) → (∀ p, p ∈ ar_l ks vs i → r ≤ p.1) → wY_least_20 post (nI n) ks vs k r (nI i) := by
    intro k
    induction k with
    | zero => intro i r _ hk; omega
    | succ k ih =>
      intro i r hi hk hm hr
      refine pk_le n i (fun h5 => ?_) (fun h5 => ⟨vp_in_nI (by omega) (by decide), ?_⟩)
      · have e : i = n := by omega
        subst e
        exact F r (.inr ⟨hm, hr⟩)
      · rw [nI_clamp (by omega)]
        refine br_c (fun a => nm_r (nI_1 _) ?_) (fun a => ⟨vp_in_nI (by omega) (by decide), nm_e (nm_r (nI_1 _) ?_)⟩)
        · refine ih (i + 1) r (by omega) (by omega) hm fun p hp => ?_
          rw [ar_s] at hp
          rcases List.mem_cons.mp hp with e | hp
          · rw [e]; exact a
          · exact hr p hp
        · refine ih (i + 1) (ks i) (by omega) (by omega) ⟨vs i, ar_mem.mpr ⟨i, by omega, rfl⟩⟩ fun p hp => ?_
          rw [ar_s] at hp
          rcases List.mem_cons.mp hp with e | hp
          · rw [e]; exact Int32.le_refl _
          · exact Int32.le_trans (Int32.le_of_lt (Int32.not_le.mp a)) (hr p hp)
  unfold wpY_least
  dsimp only
  refine pk_le n 0 (fun h => ?_) (fun h => nm_e ?_)
  · have e : n = 0 := by omega
    subst e
    exact ⟨1, br_t (by decide) (F 0 (.inl ⟨rfl, rfl⟩))⟩
  · exact ⟨n + 1, loop (n + 1) 0 (ks 0) (by omega) (by omega) ⟨vs 0, ar_mem.mpr ⟨0, h, rfl⟩⟩ (fun p hp => (List.not_mem_nil hp).elim)⟩
end
