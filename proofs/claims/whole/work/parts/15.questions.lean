/-! the questions -/
theorem qs_ny {v k x : Int32} {l : List (Int32 × Int32)} (d : x = v) : ct_num v ((k, x) :: l) = ct_num v l + 1 := by
  unfold ct_num
  rw [List.countP_cons]
  simp [d]
theorem qs_nn {v k x : Int32} {l : List (Int32 × Int32)} (d : ¬ x = v) : ct_num v ((k, x) :: l) = ct_num v l := by
  unfold ct_num
  rw [List.countP_cons]
  simp [d]
section
variable {fh w : Int32} {K V M L P Q : Nat → Int32}
theorem qs_b {e : Nat} : nI e * 64 = nI (64 * e) := (pk_mul e 64).trans (congrArg nI (by omega))
theorem qs_count {post : Int32 → Prop} {v : Int32} {b : Nat} (hb : b ≤ 448) (F : post (nI (ct_num v (cc_c (rg_r b K) (rg_r b V) (rg_r b M))))) :
    ∀ n i, i ≤ 64 → 64 - i < n → wX_count_21 post v (nI b) fh w K V M L P Q n (nI (ct_num v (ct_con (ct_sl (rg_r b K) (rg_r b V) (rg_r b M)) i))) (nI (b + i)) := by
  intro n
  induction n with
  | zero => intro i _ hn; omega
  | succ n ih =>
    intro i hi hn
    refine pk_le (b + 64) (b + i) (fun h5 => ?_) (fun h5 => ⟨vp_in_nI (by omega) (by decide), ?_⟩) (nI_add b 64)
    · have e : i = 64 := by omega
      subst e
      exact F
    · have hi6 : i < 64 := by omega
      rw [nI_clamp (by omega), ← rg_at (b := b) (a := M) hi6, ← rg_at (b := b) (a := V) hi6]
      have hin : vp_in (nI (b + i)) 512 := vp_in_nI (by omega) (by decide)
      have ih' := ih (i + 1) (by omega) (by omega)
      have st : ct_con (ct_sl (rg_r b K) (rg_r b V) (rg_r b M)) (i + 1) = (ct_sl (rg_r b K) (rg_r b V) (rg_r b M) i).toList ++ ct_con (ct_sl (rg_r b K) (rg_r b V) (rg_r b M)) i := rfl
      rw [st] at ih'
      refine br_c (fun a => ⟨hin, br_c (fun d => nm_r (nI_1 _) (nm_r (nI_1 _) ?_)) (fun d => nm_r (nI_1 _) ?_)⟩) (fun a => nm_r (nI_1 _) ?_)
      · rw [ct_sl1 a] at ih'
        have e : ct_num v ((some (rg_r b K i, rg_r b V i)).toList ++ ct_con (ct_sl (rg_r b K) (rg_r b V) (rg_r b M)) i) = ct_num v (ct_con (ct_sl (rg_r b K) (rg_r b V) (rg_r b M)) i) + 1 := qs_ny d
        rw [e] at ih'
        exact ih'
      · rw [ct_sl1 a] at ih'
        have e : ct_num v ((some (rg_r b K i, rg_r b V i)).toList ++ ct_con (ct_sl (rg_r b K) (rg_r b V) (rg_r b M)) i) = ct_num v (ct_con (ct_sl (rg_r b K) (rg_r b V) (rg_r b M)) i) := qs_nn d
        rw [e] at ih'
        exact ih'
      · rw [ct_sl0 a] at ih'
        exact ih'
theorem qs_sum {post : Int32 → Prop} {b : Nat} (hb : b ≤ 448) (F : post (ct_sum (cc_c (rg_r b K) (rg_r b V) (rg_r b M)))) :
    ∀ n i, i ≤ 64 → 64 - i < n → wX_sum_19 post (nI b) fh w K V M L P Q n (ct_sum (ct_con (ct_sl (rg_r b K) (rg_r b V) (rg_r b M)) i)) (nI (b + i)) := by
  intro n
  induction n with
  | zero => intro i _ hn; omega
  | succ n ih =>
    intro i hi hn
    refine pk_le (b + 64) (b + i) (fun h5 => ?_) (fun h5 => ⟨vp_in_nI (by omega) (by decide), ?_⟩) (nI_add b 64)
    · have e : i = 64 := by omega
      subst e
      exact F
    · have hi6 : i < 64 := by omega
      rw [nI_clamp (by omega), ← rg_at (b := b) (a := M) hi6, ← rg_at (b := b) (a := V) hi6]
      have hin : vp_in (nI (b + i)) 512 := vp_in_nI (by omega) (by decide)
      have ih' := ih (i + 1) (by omega) (by omega)
      have st : ct_con (ct_sl (rg_r b K) (rg_r b V) (rg_r b M)) (i + 1) = (ct_sl (rg_r b K) (rg_r b V) (rg_r b M) i).toList ++ ct_con (ct_sl (rg_r b K) (rg_r b V) (rg_r b M)) i := rfl
      rw [st] at ih'
      refine br_c (fun a => ⟨hin, nm_r (e' := ct_sum ((some (rg_r b K i, rg_r b V i)).toList ++ ct_con (ct_sl (rg_r b K) (rg_r b V) (rg_r b M)) i)) ?_ (nm_r (nI_1 _) ?_)⟩) (fun a => nm_r (nI_1 _) ?_)
      · show _ = rg_r b V i + ct_sum (ct_con (ct_sl (rg_r b K) (rg_r b V) (rg_r b M)) i)
        exact Int32.add_comm _ _
      · rw [ct_sl1 a] at ih'
        exact ih'
      · rw [ct_sl0 a] at ih'
        exact ih'
/-- the least key, or 0 -/
def qs_least (r : Int32) (l : List (Int32 × Int32)) : Prop := (l = [] ∧ r = 0) ∨ ((∃ x, (r, x) ∈ l) ∧ ∀ p, p ∈ l → r ≤ p.1)
theorem qs_leastU {r r' : Int32} {l l' : List (Int32 × Int32)} (p : List.Perm l l') (h : qs_least r l) (h' : qs_least r' l') : r' = r := by
  rcases h with ⟨e, z⟩ | ⟨⟨x, hx⟩, hr⟩
  · subst e
    have e' : l' = [] := p.symm.eq_nil
    subst e'
    rcases h' with ⟨_, z'⟩ | ⟨⟨x', hx'⟩, _⟩
    · rw [z, z']
    · exact (List.not_mem_nil hx').elim
  · rcases h' with ⟨e', _⟩ | ⟨⟨x', hx'⟩, hr'⟩
    · subst e'
      exact (List.not_mem_nil (p.subset hx)).elim
    · exact Int32.le_antisymm (hr' _ (p.subset hx)) (hr _ (p.symm.subset hx'))
theorem qs_leastL {post : Int32 → Prop} (F : ∀ r, qs_least r (ct_con (ct_sl (rg_r 0 K) (rg_r 0 V) (rg_r 0 M)) 32) → post r) :
    ∀ n i r x, i ≤ 32 → 32 - i < n → (x = 0 ∧ r = 0 ∧ ct_con (ct_sl (rg_r 0 K) (rg_r 0 V) (rg_r 0 M)) i = [] ∨ ¬ x = 0 ∧ (∃ y, (r, y) ∈ ct_con (ct_sl (rg_r 0 K) (rg_r 0 V) (rg_r 0 M)) i) ∧ ∀ p, p ∈ ct_con (ct_sl (rg_r 0 K) (rg_r 0 V) (rg_r 0 M)) i → r ≤ p.1) →
      wX_least_6 post fh w K V M L P Q n r x (nI i) := by
  intro n
  induction n with
  | zero => intro i r x _ hn; omega
  | succ n ih =>
    intro i r x hi hn J
    refine pk_le 32 i (fun h5 => ?_) (fun h5 => ⟨vp_in_nI (by omega) (by decide), ?_⟩)
    · have e : i = 32 := by omega
      subst e
      refine F r ?_
      rcases J with ⟨_, j2, j3⟩ | ⟨_, j2, j3⟩
      · exact .inl ⟨j3, j2⟩
      · exact .inr ⟨j2, j3⟩
    · have hi6 : i < 64 := by omega
      have hin : vp_in (nI i) 512 := vp_in_nI (by omega) (by decide)
      have eK : rg_r 0 K i = K i := by rw [rg_at hi6, Nat.zero_add]
      have eM : rg_r 0 M i = M i := by rw [rg_at hi6, Nat.zero_add]
      rw [nI_clamp (by omega), ← eM, ← eK]
      have st : ct_con (ct_sl (rg_r 0 K) (rg_r 0 V) (rg_r 0 M)) (i + 1) = (ct_sl (rg_r 0 K) (rg_r 0 V) (rg_r 0 M) i).toList ++ ct_con (ct_sl (rg_r 0 K) (rg_r 0 V) (rg_r 0 M)) i := rfl
      have take : rg_r 0 M i = 1 → (∀ p, p ∈ ct_con (ct_sl (rg_r 0 K) (rg_r 0 V) (rg_r 0 M)) i → rg_r 0 K i ≤ p.1) → wX_least_36 post (wX_least_6 post fh w K V M L P Q n) (nI i) fh w K V M L P Q := by
        intro a hall
        refine ⟨hin, nm_r (e' := rg_r 0 K i) (by rw [nI_clamp (by omega), eK]) (nm_r (nI_1 _) ?_)⟩
        refine ih (i + 1) _ _ (by omega) (by omega) (.inr ⟨by decide, ?_⟩)
        rw [st, ct_sl1 a]
        refine ⟨⟨rg_r 0 V i, List.mem_cons_self⟩, fun p hp => ?_⟩
        rcases List.mem_cons.mp hp with e | hp
        · rw [e]; exact Int32.le_refl _
        · exact hall p hp
      refine br_c (fun a => ?_) (fun a => nm_r (nI_1 _) ?_)
      · rcases J with ⟨j1, j2, j3⟩ | ⟨j1, j2, j3⟩
        · exact br_t j1 (take a fun p hp => by rw [j3] at hp; exact (List.not_mem_nil hp).elim)
        · refine br_f j1 ⟨hin, br_c (fun d => nm_r (nI_1 _) ?_) (fun d => take a fun p hp => ?_)⟩
          · refine ih (i + 1) r x (by omega) (by omega) (.inr ⟨j1, ?_⟩)
            rw [st, ct_sl1 a]
            obtain ⟨y, hy⟩ := j2
            refine ⟨⟨y, List.mem_cons_of_mem _ hy⟩, fun p hp => ?_⟩
            rcases List.mem_cons.mp hp with e | hp
            · rw [e]; exact d
            · exact j3 p hp
          · exact Int32.le_trans (Int32.le_of_lt (Int32.not_le.mp d)) (j3 p hp)
      · refine ih (i + 1) r x (by omega) (by omega) ?_
        rw [st, ct_sl0 a]
        exact J
/-- what one table has, another has -/
theorem qs_within {post : Int32 → Prop} {e1 e2 : Nat} {ml : List (Int32 × Int32)} (h1 : e1 < 8) (h2 : e2 < 8) (I1 : tb_t e1 w K V M L ml) (I2 : tb_t e2 w K V M L ml) (n : ct_nd ml) (F : post 1) : wpX_isWithin post (fh, w, K, V, M, L, P, Q) (nI e1) (nI e2) := by
  have loop : ∀ n i, i ≤ 64 → 64 - i < n → wX_isWithin_8 post (nI e2) (nI (64 * e1)) fh w K V M L P Q n (nI (64 * e1 + i)) := by
    intro k
    induction k with
    | zero => intro i _ hn; omega
    | succ k ih =>
      intro i hi hn
      refine pk_le (64 * e1 + 64) (64 * e1 + i) (fun h5 => F) (fun h5 => ⟨vp_in_nI (by omega) (by decide), ?_⟩) (nI_add _ 64)
      have hi6 : i < 64 := by omega
      have hin : vp_in (nI (64 * e1 + i)) 512 := vp_in_nI (by omega) (by decide)
      rw [nI_clamp (by omega), ← rg_at (b := 64 * e1) (a := M) hi6, ← rg_at (b := 64 * e1) (a := K) hi6, ← rg_at (b := 64 * e1) (a := V) hi6]
      refine br_c (fun a => ⟨hin, ?_⟩) (fun a => nm_r (nI_1 _) (ih (i + 1) (by omega) (by omega)))
      have m1 := I1.2.subset (cc_in (k := rg_r (64 * e1) K) (v := rg_r (64 * e1) V) hi6 a)
      refine ev_find h2 I2 (fun j hj b d hm => br_f (tb_nm (by omega)) ⟨vp_in_nI (by omega) (by decide), hin, ?_⟩) (fun hno => absurd m1 (hno _))
      rw [nI_clamp (by omega), ← rg_at (b := 64 * e2) (a := V) hj]
      exact br_t (ct_fun n hm m1) (nm_r (nI_1 _) (ih (i + 1) (by omega) (by omega)))
  unfold wpX_isWithin
  dsimp only
  refine nm_r (e' := nI (64 * e1)) qs_b ⟨65, ?_⟩
  exact loop 65 0 (by omega) (by omega)
theorem qs_bin {e : Nat} {k m l : Nat → Int32} (he : e < 8) (h1 : e ≠ 1) (h2 : e ≠ 2) (I : tb_I e w k m l) : ∀ i, i < 64 → m i = 0 ∨ m i = 1 := by
  rcases tb_8 he with z | z | z | z | z | z | z | z <;> subst z
  · exact (show pr_inv w 0 k m from I).2.2 rfl
  · exact absurd rfl h1
  · exact absurd rfl h2
  · exact (show rb_inv w k m from I).2.1
  · exact (show ck_inv w k m from I).2
  · exact (show cn_inv w k m l from I).1
  · obtain ⟨PS, S⟩ := (show co_inv w k m l from I)
    exact S.1
  · exact (show hp_inv w k m l from I).1
theorem qs_table {post : Int32 → Prop} {e : Nat} {ml : List (Int32 × Int32)} (he : e < 8) (I : tb_t e w K V M L ml) (n : ct_nd ml) (hl : ml.length ≤ 24) (hf : fh = nI ml.length) (F : post 1) : wpX_isTableSound post (fh, w, K, V, M, L, P, Q) (nI e) := by
  have hlen : nb_n (fun i => decide (rg_r (64 * e) M i = 1)) 64 = ml.length := by
    rw [← nb_len (rg_r (64 * e) K) (rg_r (64 * e) V)]
    exact I.2.length_eq
  have ndc : ct_nd (cc_c (rg_r (64 * e) K) (rg_r (64 * e) V) (rg_r (64 * e) M)) := ct_ndP I.2.symm n
  have loop : ∀ n i, i ≤ 64 → 64 - i < n → wX_isTableSound_10 post (nI e) (nI (64 * e)) fh w K V M L P Q n (nI (nb_n (fun i => decide (rg_r (64 * e) M i = 1)) i)) (nI (64 * e + i)) := by
    intro k
    induction k with
    | zero => intro i _ hn; omega
    | succ k ih =>
      intro i hi hn
      refine pk_le (64 * e + 64) (64 * e + i) (fun h5 => ?_) (fun h5 => ⟨vp_in_nI (by omega) (by decide), ?_⟩) (nI_add _ 64)
      · have e64 : i = 64 := by omega
        subst e64
        rw [hlen, hf]
        exact br_t rfl F
      have hi6 : i < 64 := by omega
      have hin : vp_in (nI (64 * e + i)) 512 := vp_in_nI (by omega) (by decide)
      have ih' := ih (i + 1) (by omega) (by omega)
      have st : nb_n (fun i => decide (rg_r (64 * e) M i = 1)) (i + 1) = nb_n (fun i => decide (rg_r (64 * e) M i = 1)) i + (if decide (rg_r (64 * e) M i = 1) = true then 1 else 0) := rfl
      rw [st] at ih'
      rw [nI_clamp (by omega), ← rg_at (b := 64 * e) (a := M) hi6, ← rg_at (b := 64 * e) (a := K) hi6]
      refine br_c (fun a => nm_r (nI_1 _) ⟨hin, ?_⟩) (fun a => ⟨hin, ?_⟩)
      · rw [if_pos (by simp [a])] at ih'
        have m1 := I.2.subset (cc_in (k := rg_r (64 * e) K) (v := rg_r (64 * e) V) hi6 a)
        refine ev_find he I (fun j hj b d hm => ?_) (fun hno => absurd m1 (hno _))
        have ej : j = i := cc_uni ndc hj hi6 b a d
        subst ej
        exact br_t rfl (nm_r (nI_1 _) ih')
      · rw [if_neg (by simp [a])] at ih'
        refine br_c (fun b => ?_) (fun b => nm_r (nI_1 _) ih')
        refine pk_eq e 1 (fun _ => nm_r (nI_1 _) ih') (fun z1 => pk_eq e 2 (fun _ => nm_r (nI_1 _) ih') (fun z2 => ?_))
        rcases qs_bin he z1 z2 I.1 i hi6 with q | q
        · rw [q] at b; exact absurd b (by decide)
        · exact absurd q a
  unfold wpX_isTableSound
  dsimp only
  refine nm_r (e' := nI (64 * e)) qs_b ⟨65, ?_⟩
  exact loop 65 0 (by omega) (by omega)
theorem qs_chains {post : Int32 → Prop} {ml : List (Int32 × Int32)} (I : tb_t 5 w K V M L ml) (hl : ml.length ≤ 24) (hf : fh = nI ml.length) (F : post 1) : wpX_areChainsSound post (fh, w, K, V, M, L, P, Q) := by
  have hlen : nb_n (fun i => decide (¬ rg_r 320 L i = 0)) 64 = ml.length := by
    rw [(show cn_inv w (rg_r 320 K) (rg_r 320 M) (rg_r 320 L) from I.1).2.2.2.2, ← nb_len (rg_r 320 K) (rg_r 320 V)]
    exact I.2.length_eq
  have loop : ∀ n i, i ≤ 64 → 64 - i < n → wX_areChainsSound_8 post (nI 320) fh w K V M L P Q n (nI (nb_n (fun i => decide (¬ rg_r 320 L i = 0)) i)) (nI (320 + i)) := by
    intro k
    induction k with
    | zero => intro i _ hn; omega
    | succ k ih =>
      intro i hi hn
      refine pk_le (320 + 64) (320 + i) (fun h5 => ?_) (fun h5 => ⟨vp_in_nI (by omega) (by decide), ?_⟩) (nI_add _ 64)
      · have e64 : i = 64 := by omega
        subst e64
        rw [hlen, hf]
        exact br_t rfl F
      have hi6 : i < 64 := by omega
      have ih' := ih (i + 1) (by omega) (by omega)
      have st : nb_n (fun i => decide (¬ rg_r 320 L i = 0)) (i + 1) = nb_n (fun i => decide (¬ rg_r 320 L i = 0)) i + (if decide (¬ rg_r 320 L i = 0) = true then 1 else 0) := rfl
      rw [st] at ih'
      rw [nI_clamp (by omega), ← rg_at (b := 320) (a := L) hi6]
      refine br_c (fun a => nm_r (nI_1 _) ?_) (fun a => nm_r (nI_1 _) (nm_r (nI_1 _) ?_))
      · rw [if_neg (by simp [a])] at ih'
        exact ih'
      · rw [if_pos (by simp [a])] at ih'
        exact ih'
  exact ⟨65, loop 65 0 (by omega) (by omega)⟩
theorem qs_lists {post : Int32 → Prop} {ml : List (Int32 × Int32)} (I : tb_t 6 w K V M L ml) (F : post 1) : wpX_areListsSound post (fh, w, K, V, M, L, P, Q) := by
  have J : co_inv w (rg_r 384 K) (rg_r 384 M) (rg_r 384 L) := I.1
  have loop : ∀ n i, i ≤ 64 → 64 - i < n → wX_areListsSound_6 post (nI 384) fh w K V M L P Q n (nI (384 + i)) := by
    intro k
    induction k with
    | zero => intro i _ hn; omega
    | succ k ih =>
      intro i hi hn
      refine pk_le (384 + 64) (384 + i) (fun h5 => F) (fun h5 => ?_) (nI_add _ 64)
      have hi6 : i < 64 := by omega
      have hin : vp_in (nI (384 + i)) 512 := vp_in_nI (by omega) (by decide)
      have ih' := ih (i + 1) (by omega) (by omega)
      rcases co_link J hi6 with z | ⟨a, j, j1, j2, j3⟩
      · have z' : L (384 + i) = nI 0 := by rw [← rg_at (b := 384) (a := L) hi6]; exact z
        refine hw_next (q := 384 + i) (j := 0) rfl (by omega) z' (by decide) ⟨hin, ?_⟩
        rw [nI_clamp (n := 384 + i) (by omega)]
        exact br_t z' (br_t rfl (nm_r (nI_1 _) ih'))
      · have j4 : L (384 + i) = nI (384 + j) := by rw [← rg_at (b := 384) (a := L) hi6]; exact j3
        refine hw_next (q := 384 + i) (j := 384 + j) rfl (by omega) j4 (by omega) ⟨hin, ?_⟩
        rw [nI_clamp (n := 384 + i) (by omega), nI_clamp (n := 384 + j) (by omega), ← rg_at (b := 384) (a := M) hi6, ← rg_at (b := 384) (a := M) (i := j) (by omega)]
        exact br_t j4 (br_f (nI_ne0 (by omega) (by omega)) ⟨hin, br_t a ⟨vp_in_nI (by omega) (by decide), br_t j2 (nm_r (nI_1 _) ih')⟩⟩)
  exact ⟨65, loop 65 0 (by omega) (by omega)⟩
theorem nb_le (p : Nat → Bool) : ∀ n, nb_n p n ≤ n := by
  intro n
  induction n with
  | zero => exact Nat.le_refl _
  | succ n ih =>
    show nb_n p n + _ ≤ n + 1
    by_cases e : p n = true
    · rw [if_pos e]; omega
    · rw [if_neg e]; omega
theorem qs_hops {post : Int32 → Prop} {ml : List (Int32 × Int32)} (I : tb_t 7 w K V M L ml) (F : post 1) : wpX_areHopsSound post (fh, w, K, V, M, L, P, Q) := by
  have J : hp_inv w (rg_r 448 K) (rg_r 448 M) (rg_r 448 L) := I.1
  have loop : ∀ n i, i ≤ 32 → 32 - i < n → wX_areHopsSound_11 post (nI 448) fh w K V M L P Q n (nI (nb_n (hp_bits (rg_r 448 L)) (32 * i))) (nI (nb_n (fun i => decide (rg_r 448 M i = 1)) i)) (nI (448 + i)) := by
    intro k
    induction k with
    | zero => intro i _ hn; omega
    | succ k ih =>
      intro i hi hn
      refine pk_le (448 + 32) (448 + i) (fun h5 => ?_) (fun h5 => ⟨33, ?_⟩) (nI_add _ 32)
      · have e32 : i = 32 := by omega
        subst e32
        have := J.2.2.2
        rw [show 32 * 32 = 1024 from rfl, this]
        exact br_t rfl F
      have hi6 : i < 64 := by omega
      have hin : vp_in (nI (448 + i)) 512 := vp_in_nI (by omega) (by decide)
      have ih' := ih (i + 1) (by omega) (by omega)
      have st : nb_n (fun i => decide (rg_r 448 M i = 1)) (i + 1) = nb_n (fun i => decide (rg_r 448 M i = 1)) i + (if decide (rg_r 448 M i = 1) = true then 1 else 0) := rfl
      rw [st] at ih'
      have inner : ∀ n d, d ≤ 32 → 32 - d < n → wX_areHopsSound_23 post (wX_areHopsSound_11 post (nI 448) fh w K V M L P Q k) (nI 448) (nI (nb_n (fun i => decide (rg_r 448 M i = 1)) i)) (nI (448 + i)) fh w K V M L P Q n (nI (nb_n (hp_bits (rg_r 448 L)) (32 * i + d))) (nI d) := by
        intro n
        induction n with
        | zero => intro d _ hn; omega
        | succ n ih2 =>
          intro d hd hn
          refine pk_le 32 d (fun h5 => ⟨hin, ?_⟩) (fun h5 => ⟨hin, ?_⟩)
          · have e32 : d = 32 := by omega
            subst e32
            rw [nI_clamp (n := 448 + i) (by omega), ← rg_at (b := 448) (a := M) hi6]
            rw [show 32 * (i + 1) = 32 * i + 32 by omega] at ih'
            refine br_c (fun a => nm_r (nI_1 _) (nm_r (nI_1 _) ?_)) (fun a => nm_r (nI_1 _) ?_)
            · rw [if_pos (by simp [a])] at ih'
              exact ih'
            · rw [if_neg (by simp [a])] at ih'
              exact ih'
          · rw [nI_clamp (n := 448 + i) (by omega), ← rg_at (b := 448) (a := L) hi6, hb_bit _ (by omega)]
            refine nm_r (e' := nI (nb_n (hp_bits (rg_r 448 L)) (32 * i + (d + 1)))) ?_ (nm_r (nI_1 _) (ih2 (d + 1) (by omega) (by omega)))
            show _ = nI (nb_n (hp_bits (rg_r 448 L)) (32 * i + d) + (if hp_bits (rg_r 448 L) (32 * i + d) = true then 1 else 0))
            have eb : hp_bits (rg_r 448 L) (32 * i + d) = bt (rg_r 448 L i) d := by
              unfold hp_bits
              rw [show (32 * i + d) / 32 = i by omega, show (32 * i + d) % 32 = d by omega]
            rw [eb]
            by_cases z : bt (rg_r 448 L i) d = true
            · rw [if_pos z, if_pos z, nI_1]
            · rw [if_neg z, if_neg z, Int32.add_zero, Nat.add_zero]
      exact inner 33 0 (by omega) (by omega)
  exact ⟨33, loop 33 0 (by omega) (by omega)⟩
theorem qs_sound {post : Int32 → Prop} {ml : List (Int32 × Int32)} (I : st_ok fh w K V M L ml) (F : post 1) : wpX_sound post (fh, w, K, V, M, L, P, Q) := by
  obtain ⟨hf, n, hl, ht⟩ := I
  have loop : ∀ k j, j ≤ 8 → 8 - j < k → wX_sound_2 post fh w K V M L P Q k (nI j) := by
    intro k
    induction k with
    | zero => intro j _ hk; omega
    | succ k ih =>
      intro j hj hk
      refine pk_le 8 j (fun h5 => ?_) (fun h5 => ?_)
      · exact qs_chains (ht 5 (by decide)) hl hf (br_f (by decide) (qs_lists (ht 6 (by decide)) (br_f (by decide) (qs_hops (ht 7 (by decide)) (br_f (by decide) F)))))
      · exact qs_table (e := j) (by omega) (ht j (by omega)) n hl hf (br_f (by decide) (qs_within (e1 := 0) (e2 := j) (by decide) (by omega) (ht 0 (by decide)) (ht j (by omega)) n (br_f (by decide) (nm_r (nI_1 _) (ih (j + 1) (by omega) (by omega))))))
  exact ⟨9, loop 9 0 (by omega) (by omega)⟩
end
