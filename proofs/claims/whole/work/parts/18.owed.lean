/-! what is owed: the changes -/
theorem i_vc_put {k : Nat} {u : SX} {v : SY} (I : i_Rel k u v) (hk : k + 3 ≤ 1536) (v1 : Int32) (v2 : Int32) : wpX_put (fun r u' => wpY_put (fun r' v' => r' = r ∧ i_Rel (k + 3) u' v') v v1 v2) u v1 v2 := by
  obtain ⟨fh, w, K, V, M, L, P, Q, n, ks, vs, rfl, rfl, hn, S⟩ := I
  have nd := S.2.1
  unfold wpX_put
  dsimp only
  refine rm_for S (fun hr => br_f (by decide) (ev_set S fun fh' K' V' M' L' hf ht => ?_)) (fun h24 hno => br_t rfl ?_)
  · refine rf_put hn nd (fun n' ks' vs' hn' hp _ => rl_set hn' hp nd hf ht) (fun hno h24 => ?_)
    rw [ar_len] at hr
    rcases hr with h | ⟨x, hx⟩
    · omega
    · exact absurd hx (hno x)
  · rw [ar_len] at h24
    refine rf_put hn nd (fun n' ks' vs' hn' hp h => ?_) (fun _ _ => ⟨rfl, rl_mk hn (List.Perm.refl _) S⟩)
    rcases h with ⟨x, hx⟩ | h
    · exact absurd hx (hno x)
    · omega
theorem i_vc_remove {k : Nat} {u : SX} {v : SY} (I : i_Rel k u v) (hk : k + 3 ≤ 1536) (v1 : Int32) : wpX_remove (fun r u' => wpY_remove (fun r' v' => r' = r ∧ i_Rel (k + 3) u' v') v v1) u v1 := by
  obtain ⟨fh, w, K, V, M, L, P, Q, n, ks, vs, rfl, rfl, hn, S⟩ := I
  have nd := S.2.1
  unfold wpX_remove
  dsimp only
  refine ev_take S fun fh' K' V' M' L' S' => ⟨fun hin => ⟨rfl, ?_⟩, fun hno => ⟨rfl, ?_⟩⟩
  · refine rf_remove hn nd (fun n' ks' vs' hn' _ hp _ => ⟨rfl, rl_mk hn' hp S'⟩) (fun hno => ?_)
    obtain ⟨x, hx⟩ := hin
    exact absurd hx (hno x)
  · refine rf_remove hn nd (fun n' ks' vs' hn' _ hp hin => ?_) (fun _ => ⟨rfl, rl_mk hn (by rw [ct_er0 hno]) S'⟩)
    obtain ⟨x, hx⟩ := hin
    exact absurd hx (hno x)
theorem i_vc_add {k : Nat} {u : SX} {v : SY} (I : i_Rel k u v) (hk : k + 3 ≤ 1536) (v1 : Int32) (v2 : Int32) : wpX_add (fun r u' => wpY_add (fun r' v' => r' = r ∧ i_Rel (k + 3) u' v') v v1 v2) u v1 v2 := by
  obtain ⟨fh, w, K, V, M, L, P, Q, n, ks, vs, rfl, rfl, hn, S⟩ := I
  have nd := S.2.1
  unfold wpX_add
  dsimp only
  refine rm_for S (fun hr => br_f (by decide) ?_) (fun h24 hno => br_t rfl ?_)
  · rw [ar_len] at hr
    refine ev_find (e := 0) (by decide) (S.2.2.2 0 (by decide)) (fun i hi a d hin => br_f (tb_nm (by omega)) ⟨vp_in_nI (by omega) (by decide), ?_⟩) (fun hno => br_t rfl ?_)
    · rw [nI_clamp (by omega), ← rg_at (b := 64 * 0) (a := V) hi]
      unfold wX_add_32
      refine ev_set S fun fh' K' V' M' L' hf ht => ?_
      show wpY_add _ _ _ _
      unfold wpY_add
      dsimp only
      refine rf_find hn (fun j hj e hjn => br_t (nI_pos' (by omega)) ⟨vp_in_nI (by omega) (by decide), ?_⟩) (fun hno => absurd hin (hno _))
      rw [nI_clamp (by omega), ct_fun nd hjn hin]
      unfold wY_add_24
      exact rf_put hn nd (fun n' ks' vs' hn' hp _ => rl_set hn' hp nd hf ht) (fun hno _ => absurd hin (hno _))
    · unfold wX_add_32
      refine ev_set S fun fh' K' V' M' L' hf ht => ?_
      show wpY_add _ _ _ _
      unfold wpY_add
      dsimp only
      refine rf_find hn (fun j hj e hjn => absurd hjn (hno _)) (fun _ => br_f (by decide) ?_)
      unfold wY_add_24
      rw [Int32.zero_add] at hf ht
      refine rf_put hn nd (fun n' ks' vs' hn' hp _ => rl_set hn' hp nd hf ht) (fun _ h24 => ?_)
      rcases hr with h | ⟨x, hx⟩
      · omega
      · exact absurd hx (hno x)
  · rw [ar_len] at h24
    unfold wpY_add
    dsimp only
    refine rf_find hn (fun j hj e hjn => absurd hjn (hno _)) (fun _ => br_f (by decide) ?_)
    unfold wY_add_24
    refine rf_put hn nd (fun n' ks' vs' hn' hp h => ?_) (fun _ _ => ⟨rfl, rl_mk hn (List.Perm.refl _) S⟩)
    rcases h with ⟨x, hx⟩ | h
    · exact absurd hx (hno x)
    · omega
theorem i_vc_move {k : Nat} {u : SX} {v : SY} (I : i_Rel k u v) (hk : k + 3 ≤ 1536) (v1 : Int32) (v2 : Int32) : wpX_move (fun r u' => wpY_move (fun r' v' => r' = r ∧ i_Rel (k + 3) u' v') v v1 v2) u v1 v2 := by
  obtain ⟨fh, w, K, V, M, L, P, Q, n, ks, vs, rfl, rfl, hn, S⟩ := I
  have nd := S.2.1
  unfold wpX_move
  dsimp only
  refine ev_find (e := 0) (by decide) (S.2.2.2 0 (by decide)) (fun i hi a d hin => br_f (tb_nm (by omega)) (br_c (fun e => ?_) (fun e => ⟨vp_in_nI (by omega) (by decide), ?_⟩))) (fun hno => br_t rfl ?_)
  · unfold wpY_move
    dsimp only
    exact rf_find hn (fun j hj _ _ => br_f (nI_pos (by omega)) (br_t e ⟨rfl, rl_mk hn (List.Perm.refl _) S⟩)) (fun hno => absurd hin (hno _))
  · refine nm_r (e' := rg_r 0 V i) (by rw [nI_clamp (by omega), rg_at hi]) ?_
    have body : ∀ fh' K' V' M' L', st_ok fh' w K' V' M' L' (ct_er v1 (ar_l ks vs n)) → wpX_setEverywhere (fun u => match u with | (f_held_24, f_way_25, a_keyAt_26, a_valueAt_27, a_markAt_28, a_linkAt_29, a_listedKey_30, a_listedValue_31) => (wpY_move (fun r' v' => r' = 1 ∧ i_Rel (k + 3) (f_held_24, f_way_25, a_keyAt_26, a_valueAt_27, a_markAt_28, a_linkAt_29, a_listedKey_30, a_listedValue_31) v') (nI n, ks, vs) v1 v2)) (fh', w, K', V', M', L', P, Q) v2 (rg_r 0 V i) := by
      intro fh' K' V' M' L' S'
      refine ev_set S' fun fh2 K2 V2 M2 L2 hf ht => ?_
      show wpY_move _ _ _ _
      unfold wpY_move
      dsimp only
      refine rf_find hn (fun j hj ej hjn => br_f (nI_pos (by omega)) (br_f e ⟨vp_in_nI (by omega) (by decide), ?_⟩)) (fun hno => absurd hin (hno _))
      refine nm_r (e' := rg_r 0 V i) (by rw [nI_clamp (by omega)]; exact ct_fun nd hjn hin) ?_
      refine rf_remove hn nd (fun n' ks' vs' hn' hlt hp _ => ?_) (fun hno => absurd hin (hno _))
      have nd' : ct_nd (ar_l ks' vs' n') := ct_ndP hp.symm (ct_erN nd)
      refine rf_put hn' nd' (fun n2 ks2 vs2 hn2 hp2 _ => ⟨rfl, ?_⟩) (fun _ h => by omega)
      exact (rl_set hn2 (hp2.trans ((ct_erP hp).cons _)) (ct_erN nd) hf ht).2
    exact ev_take S fun fh' K' V' M' L' S' => ⟨fun _ => body fh' K' V' M' L' S', fun _ => body fh' K' V' M' L' S'⟩
  · unfold wpY_move
    dsimp only
    exact rf_find hn (fun j hj _ hjn => absurd hjn (hno _)) (fun _ => br_t (by decide) ⟨rfl, rl_mk hn (List.Perm.refl _) S⟩)
theorem i_vc_sift {k : Nat} {u : SX} {v : SY} (I : i_Rel k u v) (hk : k + 3 ≤ 1536) (v1 : Int32) (v2 : Int32) : wpX_sift (fun r u' => wpY_sift (fun r' v' => r' = r ∧ i_Rel (k + 3) u' v') v v1 v2) u v1 v2 := by
  obtain ⟨fh, w, K, V, M, L, P, Q, n, ks, vs, rfl, rfl, hn, S⟩ := I
  have R : i_Rel (k + 3) (fh, w, K, V, M, L, P, Q) (nI n, ks, vs) := rl_mk hn (List.Perm.refl _) S
  refine br_c (fun h => br_t h ⟨rfl, R⟩) (fun h1 => br_c (fun h => br_f h1 (br_t h ⟨rfl, R⟩)) (fun h2 => br_c (fun h => br_f h1 (br_f h2 (br_t h ⟨rfl, R⟩))) (fun h3 => br_c (fun h4 => ?_) (fun h4 => br_f h1 (br_f h2 (br_f h3 (br_f h4 ⟨rfl, R⟩)))))))
  have m0 : ¬ v1 = 0 := fun z => h1 (by rw [z]; decide)
  refine sf_sift S (rl_1 h1) (rl_1000 h2) fun fh' K' V' M' L' P' Q' S' => ?_
  refine br_f h1 (br_f h2 (br_f h3 (br_t h4 (rf_sift hn m0 fun n' ks' vs' hle e => ⟨?_, rl_mk (by omega) (by rw [e]) S'⟩))))
  have e1 := ft_len (mt_f v1 v2) (ar_l ks vs n)
  have e2 := ar_len ks' vs' n'
  rw [← e, e2, ar_len] at e1
  exact congrArg nI (by omega)
theorem i_vc_clear {k : Nat} {u : SX} {v : SY} (I : i_Rel k u v) (hk : k + 3 ≤ 1536) : wpX_clear (fun r u' => wpY_clear (fun r' v' => r' = r ∧ i_Rel (k + 3) u' v') v) u := by
  obtain ⟨fh, w, K, V, M, L, P, Q, n, ks, vs, rfl, rfl, hn, S⟩ := I
  unfold wpX_clear
  dsimp only
  refine ev_wipe fun M' L' hw => ?_
  show wpY_clear _ _
  unfold wpY_clear
  dsimp only
  refine br_f (by decide) (br_f (by decide) (br_f (by decide) (br_t (by decide) (rf_sift hn (by decide) fun n' ks' vs' hle e => ?_))))
  rw [(ft_all _).2] at e
  have e2 := ar_len ks' vs' n'
  rw [e] at e2
  have e3 : n' = 0 := e2.symm
  subst e3
  refine ⟨?_, rl_mk (by omega) (by rw [e]) (hw w)⟩
  have := S.1
  rw [ar_len] at this
  rw [this, Nat.sub_zero]
theorem i_vc_scatter {k : Nat} {u : SX} {v : SY} (I : i_Rel k u v) (hk : k + 3 ≤ 1536) (v1 : Int32) : wpX_scatter (fun u' => wpY_scatter (fun v' => i_Rel (k + 3) u' v') v v1) u v1 := by
  obtain ⟨fh, w, K, V, M, L, P, Q, n, ks, vs, rfl, rfl, hn, S⟩ := I
  unfold wpX_scatter
  dsimp only
  refine ls_keys S (by decide) (by decide) fun P' Q' cnt hc hp => ev_wipe fun M' L' hw => ⟨cnt + 1, ?_⟩
  rw [(ft_all _).1] at hp
  refine sc_loop (w := v1) hc (ct_ndP hp.symm S.2.1) (fun fh' K' V' M2 L2 S' => ?_) (cnt + 1) 0 0 K V M' L' (by omega) (by omega) (hw v1)
  exact rl_mk (k := k + 3) hn hp.symm S'
