/-! COALESCED: the walks -/
section
variable {fh w : Int32} {K V M L P Q : Nat → Int32}
theorem co_find {post : Int32 → Prop} {c : Int32} (I : co_inv w (rg_r 384 K) (rg_r 384 M) (rg_r 384 L)) (F : fd_ok 384 K M c post) : wpX_findLinked post (fh, w, K, V, M, L, P, Q) (nI 6) c := by
  obtain ⟨PS, S⟩ := I
  obtain ⟨B, c1, c2, c3⟩ := co_list S (hm_lt w c)
  exact li_find (e := 6) (by decide) (by decide) c1 (by omega) (fun x hx a d => c3 x hx a (by
    have d' : rg_r 384 K x = c := d
    rw [d'])) F
/-- the free slot, from the top -/
theorem co_l71 {post : SX → Prop} {c v : Int32} {la f : Nat} (hla : la < 64) (hf : f < 32) (hfm : ¬ rg_r 384 M f = 1)
    (h : ∀ z, z < 32 → ¬ rg_r 384 M z = 1 → post (fh, w, upd K (384 + z) c, upd V (384 + z) v, upd M (384 + z) 1, upd L (384 + la) (nI (384 + z)), P, Q)) :
    ∀ n i, f ≤ i → i < 32 → i < n → wX_insertCoalesced_71 post c v (nI (384 + la)) fh w K V M L P Q n (nI (384 + i)) (nI (32 - i)) := by
  have fin : ∀ z, z < 32 → ¬ rg_r 384 M z = 1 → wX_insertCoalesced_97 post c v (nI (384 + z)) (nI (384 + la)) fh w K V M L P Q := by
    intro z hz hm
    refine ⟨vp_in_nI (by omega) (by decide), nm_r (e' := upd L (384 + la) (nI (384 + z))) (by rw [nI_clamp (by omega)]) ?_⟩
    unfold wX_insertCoalesced_105
    exact hw_hold rfl (by omega) (h z hz hm)
  intro n
  induction n with
  | zero => intro i _ _ hn; omega
  | succ n ih =>
    intro i h1 h2 hn
    refine pk_le 32 (32 - i) (fun h5 => ?_) (fun h5 => ?_)
    · have e : i = f := by omega
      rw [e]; exact fin f hf hfm
    · refine ⟨vp_in_nI (by omega) (by decide), ?_⟩
      rw [nI_clamp (n := 384 + i) (by omega), ← rg_at (b := 384) (a := M) (i := i) (by omega)]
      refine br_c (fun a => ?_) (fun a => fin i h2 a)
      have e : i ≠ f := fun e => hfm (e ▸ a)
      refine nm_r (e' := nI (384 + (i - 1))) ?_ (nm_r (e' := nI (32 - (i - 1))) ?_ (ih (i - 1) (by omega) (by omega) (by omega)))
      · have := pk_m1 (384 + (i - 1))
        rw [show 384 + (i - 1) + 1 = 384 + i by omega] at this
        exact this
      · rw [nI_1]
        exact congrArg nI (by omega)
theorem co_l34 {post : SX → Prop} {c v : Int32}
    (f : Nat) (hf : f < 32) (hfm : ¬ rg_r 384 M f = 1) :
    ∀ (l : List Nat) (s n j : Nat), s < 64 → li_ch 384 (rg_r 384 L) s l → j + l.length < 32 → l.length < n →
      (∀ z, z < 32 → ¬ rg_r 384 M z = 1 → post (fh, w, upd K (384 + z) c, upd V (384 + z) v, upd M (384 + z) 1, upd L (384 + li_last s l) (nI (384 + z)), P, Q)) →
      wX_insertCoalesced_34 post c v fh w K V M L P Q n (nI (384 + s)) (nI (li_nx 384 l)) (nI j) := by
  intro l
  induction l with
  | nil =>
    intro s n j hs h hj hn hp
    obtain ⟨n, rfl⟩ : ∃ n', n = n' + 1 := ⟨n - 1, by simp at hn; omega⟩
    have hj' : j < 32 := by simpa using hj
    exact pk_le 32 j (fun h5 => absurd h5 (by omega)) (fun h5 => br_t rfl ⟨33, co_l71 hs hf hfm hp 33 31 (by omega) (by omega) (by omega)⟩)
  | cons y r ih =>
    intro s n j hs h hj hn hp
    rw [List.length_cons] at hj hn
    obtain ⟨n, rfl⟩ : ∃ n', n = n' + 1 := ⟨n - 1, by omega⟩
    have hy := h.2.1
    refine pk_le 32 j (fun h5 => absurd h5 (by omega)) (fun h5 => br_f (nI_ne0 (n := 384 + y) (by omega) (by omega)) ?_)
    have hd := li_hd h.2.2
    refine hw_next (q := 384 + y) (j := li_nx 384 r) rfl (by omega) (by rw [← rg_at (b := 384) (a := L) hy]; exact hd.1) (hd.2 (by decide)) (nm_r (nI_1 _) ?_)
    exact ih y n (j + 1) hy h.2.2 (by omega) (by omega) hp
theorem co_ins {post : SX → Prop} {c v : Int32} {PS : List (List Nat)} {T : List Nat} {ml : List (Int32 × Int32)} (S : co_st w (rg_r 384 K) (rg_r 384 M) (rg_r 384 L) PS T) (hT : hm_h w c ∉ T) (hl : ml.length < 32)
    (hp : List.Perm (cc_c (rg_r 384 K) (rg_r 384 V) (rg_r 384 M)) ml)
    (F : kn_k 384 (fun k m l => ∃ PS', co_st w k m l PS' T) ((c, v) :: ml) fh w K V M L P Q post) : wpX_insertCoalesced post (fh, w, K, V, M, L, P, Q) c v := by
  have hh := hm_lt w c
  have hh6 : hm_h w c < 64 := by omega
  unfold wpX_insertCoalesced
  dsimp only
  refine hw_home (nm_r (e' := nI (384 + hm_h w c)) (nI_add 384 _) ⟨vp_in_nI (by omega) (by decide), ?_⟩)
  rw [nI_clamp (n := 384 + hm_h w c) (by omega), ← rg_at (b := 384) (a := M) (i := hm_h w c) hh6]
  refine br_c (fun a => ?_) (fun a => ?_)
  · obtain ⟨p, A, B, hpS, ep, c1, c2, c3⟩ := co_from S hh a hT
    obtain ⟨f, f1, f2, f3⟩ := cc_room (k := rg_r 384 K) (v := rg_r 384 V) (m := rg_r 384 M) 0 (by omega) (by rw [hp.length_eq]; exact hl)
    have hd := li_hd c1
    refine hw_next (q := 384 + hm_h w c) (j := li_nx 384 B) rfl (by omega) (by rw [← rg_at (b := 384) (a := L) hh6]; exact hd.1) (hd.2 (by decide)) ⟨33, ?_⟩
    refine co_l34 f (by omega) f3 B (hm_h w c) 33 0 hh6 c1 (by omega) (by omega) (fun z hz hm => ?_)
    have hz6 : z < 64 := by omega
    have hla : li_last (hm_h w c) B < 64 := by
      rcases List.mem_cons.mp (li_lastM B (hm_h w c)) with e | e
      · omega
      · have := (c3 _ e).1
        omega
    refine F _ _ _ _ (fr_u fr_r hz6) (fr_u fr_r hz6) (fr_u fr_r hz6) (fr_u fr_r hla) ?_ ?_
    · rw [rg_upd hz6, rg_upd hz6, rg_upd hla]
      exact co_hang S hz hm rfl hpS ep
    · rw [rg_upd hz6, rg_upd hz6, rg_upd hz6]
      exact (cc_hold hz6 hm).trans (hp.cons _)
  · unfold wX_insertCoalesced_105
    refine hw_hold rfl (by omega) ?_
    refine F _ _ _ _ (fr_u fr_r hh6) (fr_u fr_r hh6) (fr_u fr_r hh6) fr_r ?_ ?_
    · rw [rg_upd hh6, rg_upd hh6]
      exact ⟨_, co_new S hh a rfl⟩
    · rw [rg_upd hh6, rg_upd hh6, rg_upd hh6]
      exact (cc_hold hh6 a).trans (hp.cons _)
theorem co_insert {post : SX → Prop} {c v : Int32} {ml : List (Int32 × Int32)} (I : co_inv w (rg_r 384 K) (rg_r 384 M) (rg_r 384 L)) (hl : ml.length < 32)
    (hp : List.Perm (cc_c (rg_r 384 K) (rg_r 384 V) (rg_r 384 M)) ml)
    (F : kn_k 384 (fun k m l => co_inv w k m l) ((c, v) :: ml) fh w K V M L P Q post) : wpX_insertCoalesced post (fh, w, K, V, M, L, P, Q) c v := by
  obtain ⟨PS, S⟩ := I
  exact co_ins S List.not_mem_nil hl hp F
/-- the tail, inserted anew -/
theorem co_l39 {post : SX → Prop} {ml : List (Int32 × Int32)} {K0 V0 M0 L0 : Nat → Int32} (hl : ml.length < 32)
    (F : kn_k 384 (fun k m l => co_inv w k m l) ml fh w K0 V0 M0 L0 P Q post) :
    ∀ (T : List Nat) (n j : Nat) (PS : List (List Nat)) (K V M L : Nat → Int32), j + T.length < 32 → T.length < n → co_st w (rg_r 384 K) (rg_r 384 M) (rg_r 384 L) PS T →
      fr_f 384 K0 K → fr_f 384 V0 V → fr_f 384 M0 M → fr_f 384 L0 L → List.Perm (cc_c (rg_r 384 K) (rg_r 384 V) (rg_r 384 M)) ml →
      wX_takeCoalesced_39 post n (nI (li_nx 384 T)) (nI j) fh w K V M L P Q := by
  intro T
  induction T with
  | nil =>
    intro n j PS K V M L hj hn S fK fV fM fL pm
    obtain ⟨n, rfl⟩ : ∃ n', n = n' + 1 := ⟨n - 1, by simp at hn; omega⟩
    have hj' : j < 32 := by simpa using hj
    exact pk_le 32 j (fun h5 => absurd h5 (by omega)) (fun h5 => br_t rfl (F K V M L fK fV fM fL ⟨PS, S⟩ pm))
  | cons t T ih =>
    intro n j PS K V M L hj hn S fK fV fM fL pm
    rw [List.length_cons] at hj hn
    obtain ⟨n, rfl⟩ : ∃ n', n = n' + 1 := ⟨n - 1, by omega⟩
    have ht := (S.2.2.2.2.2.1 t).mp (List.mem_append_right _ List.mem_cons_self)
    have ht6 : t < 64 := by omega
    have hc : li_ch 384 (rg_r 384 L) t T := S.2.2.2.2.2.2.1
    have hd := li_hd hc
    refine pk_le 32 j (fun h5 => absurd h5 (by omega)) (fun h5 => br_f (nI_ne0 (n := 384 + t) (by omega) (by omega)) ?_)
    refine hw_next (q := 384 + t) (j := li_nx 384 T) rfl (by omega) (by rw [← rg_at (b := 384) (a := L) ht6]; exact hd.1) (hd.2 (by decide)) ?_
    refine hw_release (q := 384 + t) rfl (by omega) ?_
    refine ⟨vp_in_nI (n := 384 + t) (by omega) (by decide), vp_in_nI (n := 384 + t) (by omega) (by decide), ?_⟩
    have ec : (nI (li_nx 384 (t :: T))).toNatClampNeg = 384 + t := nI_clamp (n := 384 + t) (by omega)
    rw [ec, ← rg_at (b := 384) (a := K) ht6, ← rg_at (b := 384) (a := V) ht6]
    have S' := co_rel S
    have pf := cc_free (k := rg_r 384 K) (v := rg_r 384 V) (m := rg_r 384 M) (c := 0) ht6 ht.2 (by decide)
    have hnT : hm_h w (rg_r 384 K t) ∉ T := fun z => (List.pairwise_cons.mp S.2.2.2.2.2.2.2).1 _ z rfl
    have hlen : (cc_c (rg_r 384 K) (rg_r 384 V) (upd (rg_r 384 M) t 0)).length < 32 := by
      have := (pf.trans pm).length_eq
      rw [List.length_cons] at this
      omega
    refine co_ins (ml := cc_c (rg_r 384 K) (rg_r 384 V) (upd (rg_r 384 M) t 0)) (PS := PS) (T := T) ?_ hnT hlen ?_ ?_
    · rw [rg_upd ht6, rg_upd ht6]; exact S'
    · rw [rg_upd ht6]
    · intro K' V' M' L' gK gV gM gL hPS pm'
      obtain ⟨PS', S2⟩ := hPS
      refine nm_r (nI_1 _) ?_
      exact ih n (j + 1) PS' K' V' M' L' (by omega) (by omega) S2 (fr_t fK gK) (fr_t fV gV) (fr_t (fr_u fM ht6) gM) (fr_t (fr_u fL ht6) gL) (pm'.trans (pf.trans pm))
theorem co_take {post : SX → Prop} {x : Nat} {ml : List (Int32 × Int32)} (hx : x < 64) (hh : rg_r 384 M x = 1) (I : co_inv w (rg_r 384 K) (rg_r 384 M) (rg_r 384 L)) (n : ct_nd ml) (hl : ml.length < 25)
    (pm : List.Perm (cc_c (rg_r 384 K) (rg_r 384 V) (rg_r 384 M)) ml)
    (F : kn_k 384 (fun k m l => co_inv w k m l) (ct_er (rg_r 384 K x) ml) fh w K V M L P Q post) : wpX_takeCoalesced post (fh, w, K, V, M, L, P, Q) (nI (384 + x)) := by
  obtain ⟨PS, S⟩ := I
  have hx3 : x < 32 := by
    rcases Nat.lt_or_ge x 32 with q | q
    · exact q
    · rw [S.2.1 x q hx] at hh; exact absurd hh (by decide)
  have hk := hm_lt w (rg_r 384 K x)
  obtain ⟨p, hp, hxp⟩ := co_at S hx3 hh List.not_mem_nil
  obtain ⟨PS1, PS2, ePS⟩ := List.append_of_mem hp
  obtain ⟨h0, r, ep, c1, c2, c3⟩ := S.2.2.2.1 p hp
  have pm1 : List.Perm (cc_c (rg_r 384 K) (rg_r 384 V) (upd (rg_r 384 M) x 0)) (ct_er (rg_r 384 K x) ml) := cc_take hx hh (by decide) n pm
  have hel : (ct_er (rg_r 384 K x) ml).length < 32 := by
    have : (ct_er (rg_r 384 K x) ml).length ≤ ml.length := List.length_filter_le _ _
    omega
  have rl : ∀ y, y ∈ h0 :: r → y < 32 := fun y hy => (co_mem S hp (by rw [ep]; exact hy)).1
  have rlen : r.length ≤ 31 := co_len c1 (rl h0 List.mem_cons_self) (fun y hy => rl y (List.mem_cons_of_mem _ hy))
  unfold wpX_takeCoalesced
  dsimp only
  unfold wpX_linkingTo
  dsimp only
  refine ⟨vp_in_nI (by omega) (by decide), ?_⟩
  rw [nI_clamp (n := 384 + x) (by omega), ← rg_at (b := 384) (a := K) hx]
  refine hw_home (nm_r (e' := nI (384 + hm_h w (rg_r 384 K x))) (nI_add 384 _) ?_)
  rw [ep] at hxp
  by_cases e0 : x = h0
  · -- the head of its path
    subst e0
    have hd := li_hd c1
    rw [c2]
    refine hw_next (q := 384 + x) (j := li_nx 384 r) rfl (by omega) (by rw [← rg_at (b := 384) (a := L) hx]; exact hd.1) (hd.2 (by decide)) ⟨33, ?_⟩
    have hxr : x ∉ r := li_self (by decide) (by decide) c1
    have hla : li_last x r < 64 := by
      have := rl _ (li_lastM r x)
      omega
    refine li_none (by decide) (by decide) hx r x 33 0 hx c1 hxr (by omega) (by omega) ?_
    refine ⟨vp_in_nI (by omega) (by decide), ?_⟩
    rw [nI_clamp (n := 384 + li_last x r) (by omega), ← rg_at (b := 384) (a := L) hla, li_last0 r x c1]
    refine br_f (fun e => nI_ne0 (n := 384 + x) (by omega) (by omega) e.symm) ?_
    unfold wX_takeCoalesced_25
    refine hw_next (q := 384 + x) (j := li_nx 384 r) rfl (by omega) (by rw [← rg_at (b := 384) (a := L) hx]; exact hd.1) (hd.2 (by decide)) ?_
    refine hw_release (q := 384 + x) rfl (by omega) ⟨33, ?_⟩
    rw [ePS, ep] at S
    refine co_l39 hel F r 33 0 (PS1 ++ PS2) _ _ _ _ (by omega) (by omega) ?_ fr_r fr_r (fr_u fr_r hx) (fr_u fr_r hx) ?_
    · rw [rg_upd hx, rg_upd hx]; exact co_cut0 S
    · rw [rg_upd hx]; exact pm1
  · have hxr : x ∈ r := (List.mem_cons.mp hxp).resolve_left e0
    obtain ⟨pre, po, er⟩ := List.append_of_mem hxr
    subst er
    have hb : hm_h w (rg_r 384 K x) ∈ h0 :: pre := by
      rcases co_hb pre [h0] c3 with z | z
      · have : hm_h w (rg_r 384 K x) = h0 := by simpa using z
        rw [this]; exact List.mem_cons_self
      · exact List.mem_cons_of_mem _ z
    obtain ⟨A, B, eb⟩ := List.append_of_mem hb
    generalize hm_h w (rg_r 384 K x) = h at *
    -- the list from the key's home
    have key : ∀ (A pre : List Nat) (h0 : Nat), h0 :: pre = A ++ h :: B → li_ch 384 (rg_r 384 L) h0 (pre ++ x :: po) → li_ch 384 (rg_r 384 L) h (B ++ x :: po) ∧ li_last h0 pre = li_last h B := by
      intro A
      induction A with
      | nil =>
        intro pre h0 e c
        injection e with e1 e2
        rw [← e1, ← e2]
        exact ⟨c, rfl⟩
      | cons a A ih =>
        intro pre h0 e c
        injection e with e1 e2
        cases pre with
        | nil =>
          have := congrArg List.length e2
          simp at this
        | cons y pre => exact ih pre y e2 c.2.2
    obtain ⟨k1, k2⟩ := key A pre h0 eb c1
    have hnd := li_nd (by decide) (by decide) _ _ c1
    have hpx : x ∉ h0 :: pre := by
      intro z
      have : ((h0 :: pre) ++ x :: po).Nodup := hnd
      exact (List.nodup_append.mp this).2.2 x z x List.mem_cons_self rfl
    have hBx : x ∉ B := fun z => hpx (by rw [eb]; exact List.mem_append_right _ (List.mem_cons_of_mem _ z))
    have hBl : B.length < 32 := by
      have := congrArg List.length eb
      rw [List.length_append, List.length_cons, List.length_cons] at this
      rw [List.length_append, List.length_cons] at rlen
      omega
    have hpol : po.length < 32 := by
      rw [List.length_append, List.length_cons] at rlen
      omega
    have hla : li_last h0 pre < 64 := by
      rcases List.mem_cons.mp (li_lastM pre h0) with e | e
      · have := rl h0 List.mem_cons_self
        omega
      · have := rl _ (List.mem_cons_of_mem _ (List.mem_append_left _ e))
        omega
    have hlx : x ≠ li_last h0 pre := fun e => hpx (e ▸ li_lastM pre h0)
    obtain ⟨d1, d2, d3⟩ := li_cut (by decide) (by decide) pre h0 c1
    have hd := li_hd k1
    refine hw_next (q := 384 + h) (j := li_nx 384 (B ++ x :: po)) rfl (by omega) (by rw [← rg_at (b := 384) (a := L) (by omega)]; exact hd.1) (hd.2 (by decide)) ⟨33, ?_⟩
    refine li_to (by decide) (by decide) hx B h 33 0 (by omega) k1 hBx (by omega) (by omega) ?_
    rw [← k2]
    refine ⟨vp_in_nI (by omega) (by decide), ?_⟩
    rw [nI_clamp (n := 384 + li_last h0 pre) (by omega), ← rg_at (b := 384) (a := L) hla, d2]
    refine br_t rfl ⟨vp_in_nI (by omega) (by decide), nm_e ?_⟩
    unfold wX_takeCoalesced_25
    have hd3 := li_hd d3
    refine hw_next (q := 384 + x) (j := li_nx 384 po) rfl (by omega) ?_ (hd3.2 (by decide)) ?_
    · rw [pk_un (by omega), ← rg_at (b := 384) (a := L) hx]; exact hd3.1
    refine hw_release (q := 384 + x) rfl (by omega) ⟨33, ?_⟩
    rw [ePS, ep] at S
    refine co_l39 hel F po 33 0 (PS1 ++ (h0 :: pre) :: PS2) _ _ _ _ (by omega) (by omega) ?_ fr_r fr_r (fr_u fr_r hx) (fr_u (fr_u fr_r hla) hx) ?_
    · rw [rg_upd hx, rg_upd hx, rg_upd hla]; exact co_cut1 S
    · rw [rg_upd hx]; exact pm1
/-- where a link leads -/
theorem co_link {k m l : Nat → Int32} (I : co_inv w k m l) {i : Nat} (hi : i < 64) : l i = 0 ∨ (m i = 1 ∧ ∃ j, j < 32 ∧ m j = 1 ∧ l i = nI (384 + j)) := by
  obtain ⟨PS, S⟩ := I
  by_cases a : m i = 1
  · have hi3 : i < 32 := by
      rcases Nat.lt_or_ge i 32 with q | q
      · exact q
      · rw [S.2.1 i q hi] at a; exact absurd a (by decide)
    obtain ⟨p, A, B, hp, e, c, len, hB⟩ := co_from S hi3 a List.not_mem_nil
    cases B with
    | nil => exact .inl c
    | cons j r => exact .inr ⟨a, j, (hB j List.mem_cons_self).1, (hB j List.mem_cons_self).2, c.1⟩
  · exact .inl (S.2.2.1 i hi a)
end
