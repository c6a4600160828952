/-! what is owed: the questions -/
theorem i_vc_size {k : Nat} {u : SX} {v : SY} (I : i_Rel k u v) (hk : k + 3 ≤ 1536) : wpX_size (fun r => wpY_size (fun r' => r' = r ∧ i_Rel (k + 3) u v) v) u := by
  have I0 := I
  obtain ⟨fh, w, K, V, M, L, P, Q, n, ks, vs, rfl, rfl, hn, S⟩ := I
  refine ⟨?_, I0⟩
  have := S.1
  rw [ar_len] at this
  exact this.symm
theorem i_vc_has {k : Nat} {u : SX} {v : SY} (I : i_Rel k u v) (hk : k + 3 ≤ 1536) (v1 : Int32) (v2 : Int32) : wpX_has (fun r => wpY_has (fun r' => r' = r ∧ i_Rel (k + 3) u v) v v1 v2) u v1 v2 := by
  have I0 : i_Rel (k + 3) u v := I
  obtain ⟨fh, w, K, V, M, L, P, Q, n, ks, vs, rfl, rfl, hn, S⟩ := I
  unfold wpX_has wpY_has
  dsimp only
  rcases eg_or v1 with h | ⟨e, he, ex⟩
  · exact eg_find h (br_t rfl (eg_y (fun _ => br_t rfl ⟨rfl, I0⟩) (fun e he ex => absurd ex (eg_not he h))))
  · subst ex
    refine ev_find he (S.2.2.2 e he) (fun i hi a d hin => br_f (tb_nm (by omega)) (eg_y (fun h => absurd rfl (eg_not he h)) (fun _ _ _ => br_f (by decide) ?_))) (fun hno => br_t rfl (eg_y (fun h => absurd rfl (eg_not he h)) (fun _ _ _ => br_f (by decide) ?_)))
    · exact rf_find hn (fun j hj _ _ => br_f (nI_pos (by omega)) ⟨rfl, I0⟩) (fun hno => absurd hin (hno _))
    · exact rf_find hn (fun j hj _ hjn => absurd hjn (hno _)) (fun _ => br_t (by decide) ⟨rfl, I0⟩)
theorem i_vc_get {k : Nat} {u : SX} {v : SY} (I : i_Rel k u v) (hk : k + 3 ≤ 1536) (v1 : Int32) (v2 : Int32) : wpX_get (fun r => wpY_get (fun r' => r' = r ∧ i_Rel (k + 3) u v) v v1 v2) u v1 v2 := by
  have I0 : i_Rel (k + 3) u v := I
  obtain ⟨fh, w, K, V, M, L, P, Q, n, ks, vs, rfl, rfl, hn, S⟩ := I
  unfold wpX_get wpY_get
  dsimp only
  rcases eg_or v1 with h | ⟨e, he, ex⟩
  · refine eg_find h (br_t rfl ?_)
    exact rf_find hn (fun j hj _ _ => eg_y (fun _ => br_t rfl ⟨rfl, I0⟩) (fun e he ex => absurd ex (eg_not he h))) (fun _ => eg_y (fun _ => br_t rfl ⟨rfl, I0⟩) (fun e he ex => absurd ex (eg_not he h)))
  · subst ex
    refine ev_find he (S.2.2.2 e he) (fun i hi a d hin => br_f (tb_nm (by omega)) ⟨vp_in_nI (by omega) (by decide), ?_⟩) (fun hno => br_t rfl ?_)
    · rw [nI_clamp (by omega), ← rg_at (b := 64 * e) (a := V) hi]
      refine rf_find hn (fun j hj _ hjn => eg_y (fun h => absurd rfl (eg_not he h)) (fun _ _ _ => br_f (by decide) (br_f (nI_pos (by omega)) ⟨vp_in_nI (by omega) (by decide), ?_, I0⟩))) (fun hno => absurd hin (hno _))
      rw [nI_clamp (by omega)]
      exact ct_fun S.2.1 hjn hin
    · exact rf_find hn (fun j hj _ hjn => absurd hjn (hno _)) (fun _ => eg_y (fun _ => br_t rfl ⟨rfl, I0⟩) (fun _ _ _ => br_f (by decide) (br_t (by decide) ⟨rfl, I0⟩)))
theorem i_vc_count {k : Nat} {u : SX} {v : SY} (I : i_Rel k u v) (hk : k + 3 ≤ 1536) (v1 : Int32) (v2 : Int32) : wpX_count (fun r => wpY_count (fun r' => r' = r ∧ i_Rel (k + 3) u v) v v1 v2) u v1 v2 := by
  have I0 : i_Rel (k + 3) u v := I
  obtain ⟨fh, w, K, V, M, L, P, Q, n, ks, vs, rfl, rfl, hn, S⟩ := I
  unfold wpX_count
  dsimp only
  refine eg_x (fun h => br_t rfl (rf_num hn (fun _ => ⟨rfl, I0⟩) (fun e he ex => absurd ex (eg_not he h)))) (fun e he ex => br_f (by decide) ?_)
  subst ex
  refine nm_r (e' := nI (64 * e)) qs_b ⟨65, ?_⟩
  have F : wpY_count (fun r' => r' = nI (ct_num v2 (cc_c (rg_r (64 * e) K) (rg_r (64 * e) V) (rg_r (64 * e) M))) ∧ i_Rel (k + 3) (fh, w, K, V, M, L, P, Q) (nI n, ks, vs)) (nI n, ks, vs) (nI e) v2 := by
    refine rf_num hn (fun h => absurd rfl (eg_not he h)) (fun _ _ _ => ⟨?_, I0⟩)
    rw [ct_numP (S.2.2.2 e he).2]
  exact qs_count (post := fun r => wpY_count (fun r' => r' = r ∧ i_Rel (k + 3) (fh, w, K, V, M, L, P, Q) (nI n, ks, vs)) (nI n, ks, vs) (nI e) v2) (b := 64 * e) (by omega) F 65 0 (by omega) (by omega)
theorem i_vc_sum {k : Nat} {u : SX} {v : SY} (I : i_Rel k u v) (hk : k + 3 ≤ 1536) (v1 : Int32) : wpX_sum (fun r => wpY_sum (fun r' => r' = r ∧ i_Rel (k + 3) u v) v v1) u v1 := by
  have I0 : i_Rel (k + 3) u v := I
  obtain ⟨fh, w, K, V, M, L, P, Q, n, ks, vs, rfl, rfl, hn, S⟩ := I
  unfold wpX_sum
  dsimp only
  refine eg_x (fun h => br_t rfl (rf_sum hn (fun _ => ⟨rfl, I0⟩) (fun e he ex => absurd ex (eg_not he h)))) (fun e he ex => br_f (by decide) ?_)
  subst ex
  refine nm_r (e' := nI (64 * e)) qs_b ⟨65, ?_⟩
  have F : wpY_sum (fun r' => r' = ct_sum (cc_c (rg_r (64 * e) K) (rg_r (64 * e) V) (rg_r (64 * e) M)) ∧ i_Rel (k + 3) (fh, w, K, V, M, L, P, Q) (nI n, ks, vs)) (nI n, ks, vs) (nI e) := by
    refine rf_sum hn (fun h => absurd rfl (eg_not he h)) (fun _ _ _ => ⟨?_, I0⟩)
    rw [ct_sumP (S.2.2.2 e he).2]
  exact qs_sum (post := fun r => wpY_sum (fun r' => r' = r ∧ i_Rel (k + 3) (fh, w, K, V, M, L, P, Q) (nI n, ks, vs)) (nI n, ks, vs) (nI e)) (b := 64 * e) (by omega) F 65 0 (by omega) (by omega)
theorem i_vc_least {k : Nat} {u : SX} {v : SY} (I : i_Rel k u v) (hk : k + 3 ≤ 1536) : wpX_least (fun r => wpY_least (fun r' => r' = r ∧ i_Rel (k + 3) u v) v) u := by
  have I0 : i_Rel (k + 3) u v := I
  obtain ⟨fh, w, K, V, M, L, P, Q, n, ks, vs, rfl, rfl, hn, S⟩ := I
  exact ⟨33, qs_leastL (fun r hr => rf_least hn fun r' hr' => ⟨qs_leastU (ls_32 S) hr hr', I0⟩) 33 0 0 0 (by omega) (by omega) (.inl ⟨rfl, rfl, rfl⟩)⟩
theorem i_vc_agree {k : Nat} {u : SX} {v : SY} (I : i_Rel k u v) (hk : k + 3 ≤ 1536) (v1 : Int32) (v2 : Int32) : wpX_agree (fun r => wpY_agree (fun r' => r' = r ∧ i_Rel (k + 3) u v) v v1 v2) u v1 v2 := by
  have I0 : i_Rel (k + 3) u v := I
  obtain ⟨fh, w, K, V, M, L, P, Q, n, ks, vs, rfl, rfl, hn, S⟩ := I
  unfold wpX_agree wpY_agree
  dsimp only
  refine eg_x (fun h => br_t rfl (eg_y (fun _ => br_t rfl ⟨rfl, I0⟩) (fun e he ex => absurd ex (eg_not he h)))) (fun e he ex => br_f (by decide) ?_)
  subst ex
  have Y1 : ∀ {A B : Prop}, B → wpY_engine (fun r_1 => (r_1 = 0 → A) ∧ (¬ r_1 = 0 → B)) (nI n, ks, vs) (nI e) := fun b => eg_y (fun h => absurd rfl (eg_not he h)) (fun _ _ _ => br_f (by decide) b)
  refine eg_x (fun h => br_t rfl (Y1 (eg_y (fun _ => br_t rfl ⟨rfl, I0⟩) (fun e he ex => absurd ex (eg_not he h))))) (fun e2 he2 ex2 => br_f (by decide) ?_)
  subst ex2
  refine qs_within he he2 (S.2.2.2 e he) (S.2.2.2 e2 he2) S.2.1 (br_f (by decide) (qs_within he2 he (S.2.2.2 e2 he2) (S.2.2.2 e he) S.2.1 (br_f (by decide) (Y1 (eg_y (fun h => absurd rfl (eg_not he2 h)) (fun _ _ _ => br_f (by decide) ⟨rfl, I0⟩))))))
theorem i_vc_sound {k : Nat} {u : SX} {v : SY} (I : i_Rel k u v) (hk : k + 3 ≤ 1536) : wpX_sound (fun r => wpY_sound (fun r' => r' = r ∧ i_Rel (k + 3) u v) v) u := by
  have I0 : i_Rel (k + 3) u v := I
  obtain ⟨fh, w, K, V, M, L, P, Q, n, ks, vs, rfl, rfl, hn, S⟩ := I
  exact qs_sound S ⟨rfl, I0⟩
