/-! LINEAR, TRIANGULAR, DOUBLE: one walk -/
def pr_p (h s g : Nat) : Nat → Nat
  | 0 => h
  | j + 1 => (pr_p h s g j + (s + g * j)) % 32
theorem pr_lt {h s g : Nat} (hh : h < 32) (j : Nat) : pr_p h s g j < 32 := by
  cases j with
  | zero => exact hh
  | succ j => exact Nat.mod_lt _ (by decide)
theorem pr_tr {h s g : Nat} (hh : h < 32) (j : Nat) : pr_p h s g j = (h + pr_p 0 s g j) % 32 := by
  induction j with
  | zero =>
    show h = (h + 0) % 32
    omega
  | succ j ih =>
    show (pr_p h s g j + (s + g * j)) % 32 = (h + (pr_p 0 s g j + (s + g * j)) % 32) % 32
    omega
theorem pr_su0 : ∀ s, s < 16 → ∀ p, p < 32 → ∃ j, j < 32 ∧ pr_p 0 (s * 2 + 1) 0 j = p := by decide +kernel
theorem pr_su1 : ∀ p, p < 32 → ∃ j, j < 32 ∧ pr_p 0 1 1 j = p := by decide +kernel
/-- the walk's strides -/
def pr_s (w : Int32) (e : Nat) (c : Int32) : Nat := if e = 2 then om_h w c / 2 * 2 + 1 else 1
def pr_g (e : Nat) : Nat := if e = 1 then 1 else 0
theorem pr_sl (w : Int32) (e : Nat) (c : Int32) : pr_s w e c < 32 := by
  unfold pr_s
  have := om_lt w c
  by_cases h : e = 2
  · rw [if_pos h]; omega
  · rw [if_neg h]; omega
def pr_at (w : Int32) (e : Nat) (c : Int32) (j : Nat) : Nat := pr_p (hm_h w c) (pr_s w e c) (pr_g e) j
theorem pr_al (w : Int32) (e : Nat) (c : Int32) (j : Nat) : pr_at w e c j < 32 := pr_lt (hm_lt w c) j
/-- every place is met -/
theorem pr_sur (w : Int32) (e : Nat) (c : Int32) (p : Nat) (hp : p < 32) : ∃ j, j < 32 ∧ pr_at w e c j = p := by
  have hh := hm_lt w c
  have key : ∃ j, j < 32 ∧ pr_p 0 (pr_s w e c) (pr_g e) j = (p + 32 - hm_h w c) % 32 := by
    unfold pr_s pr_g
    by_cases e2 : e = 2
    · rw [if_pos e2, if_neg (by omega)]
      have := om_lt w c
      exact pr_su0 (om_h w c / 2) (by omega) _ (Nat.mod_lt _ (by decide))
    · rw [if_neg e2]
      by_cases e1 : e = 1
      · rw [if_pos e1]
        exact pr_su1 _ (Nat.mod_lt _ (by decide))
      · rw [if_neg e1]
        exact pr_su0 0 (by decide) _ (Nat.mod_lt _ (by decide))
  obtain ⟨j, hj, ej⟩ := key
  refine ⟨j, hj, ?_⟩
  unfold pr_at
  rw [pr_tr hh, ej]
  omega
def pr_ok (w : Int32) (e : Nat) (m : Nat → Int32) (c : Int32) (i : Nat) : Prop := ∃ j, j < 32 ∧ pr_at w e c j = i ∧ ∀ j', j' < j → ¬ m (pr_at w e c j') = 0
def pr_inv (w : Int32) (e : Nat) (k m : Nat → Int32) : Prop :=
  (∀ i, i < 32 → m i = 1 → pr_ok w e m (k i) i) ∧ (∀ i, 32 ≤ i → i < 64 → m i = 0) ∧ (e = 0 → ∀ i, i < 64 → m i = 0 ∨ m i = 1)
section
variable {fh w : Int32} {K V M L P Q : Nat → Int32}
theorem pr_stride {post : Int32 → Prop} {c : Int32} {e : Nat} (he : e < 8) (h : post (nI (pr_s w e c))) : wpX_firstStride post (fh, w, K, V, M, L, P, Q) (nI e) c := by
  unfold pr_s at h
  refine pk_eq e 2 (fun h2 => hw_other ?_) (fun h2 => ?_)
  · rw [if_pos h2] at h
    rw [om_odd _ (om_lt w c)]
    exact h
  · rw [if_neg h2] at h
    exact h
theorem pr_fl {post : Int32 → Prop} {c : Int32} {b h s g : Nat} (hb : b ≤ 448) (hh : h < 32) (hs : s < 32) (hg : g ≤ 1)
    (hI : ∀ i, i < 64 → rg_r b M i = 1 → rg_r b K i = c → ∃ j, j < 32 ∧ pr_p h s g j = i ∧ ∀ j', j' < j → ¬ rg_r b M (pr_p h s g j') = 0)
    (F : fd_ok b K M c post) : ∀ n j, j ≤ 32 → 32 - j < n → (∀ j', j' < j → ¬ (rg_r b M (pr_p h s g j') = 1 ∧ rg_r b K (pr_p h s g j') = c)) →
      wX_findProbing_35 post c (nI b) (nI g) fh w K V M L P Q n (nI (pr_p h s g j)) (nI (s + g * j)) (nI j) := by
  intro n
  induction n with
  | zero => intro j _ hm; omega
  | succ n ih =>
    intro j hj hm hno
    have hp := pr_lt (s := s) (g := g) hh j
    have hgj : g * j ≤ 1 * j := Nat.mul_le_mul_right j hg
    refine pk_le 32 j (fun h5 => ?_) (fun h5 => ?_)
    · refine F.2 fun i hi a d => ?_
      obtain ⟨j0, h1, h2, h3⟩ := hI i hi a d
      exact hno j0 (by omega) ⟨by rw [h2]; exact a, by rw [h2]; exact d⟩
    · refine ⟨pk_in (b + pr_p h s g j) 512 (by omega) (nI_add _ _), ?_⟩
      rw [nI_add, nI_clamp (by omega), ← rg_at (b := b) (a := M) (i := pr_p h s g j) (by omega)]
      refine br_c (fun h0 => ?_) (fun h0 => ?_)
      · refine F.2 fun i hi a d => ?_
        obtain ⟨j0, h1, h2, h3⟩ := hI i hi a d
        rcases Nat.lt_or_ge j0 j with q | q
        · exact hno j0 q ⟨by rw [h2]; exact a, by rw [h2]; exact d⟩
        · rcases Nat.lt_or_ge j j0 with q' | q'
          · exact h3 j q' h0
          · have ej : j0 = j := by omega
            rw [← ej, h2, a] at h0
            exact absurd h0 (by decide)
      · refine hw_holds rfl (by omega) hb (fun a d => br_f (by decide) (F.1 _ (by omega) a d)) (fun z => br_t rfl ?_)
        refine nm_r (e' := nI (pr_p h s g (j + 1))) ?_ (nm_r (e' := nI (s + g * (j + 1))) ?_ (nm_r (nI_1 _) ?_))
        · rw [nI_add, hm_m (by omega)]
          rfl
        · rw [nI_add, Nat.mul_succ]
          exact congrArg nI (by omega)
        · refine ih (j + 1) (by omega) (by omega) fun j' hj' => ?_
          by_cases ej : j' = j
          · rw [ej]; exact z
          · exact hno j' (by omega)
theorem pr_find {post : Int32 → Prop} {c : Int32} {e : Nat} (he : e < 3) (I : pr_inv w e (rg_r (64 * e) K) (rg_r (64 * e) M)) (F : fd_ok (64 * e) K M c post) : wpX_findProbing post (fh, w, K, V, M, L, P, Q) (nI e) c := by
  have hI : ∀ i, i < 64 → rg_r (64 * e) M i = 1 → rg_r (64 * e) K i = c → pr_ok w e (rg_r (64 * e) M) c i := by
    intro i hi a d
    by_cases q : i < 32
    · rw [← d]; exact I.1 i q a
    · rw [I.2.1 i (by omega) hi] at a
      exact absurd a (by decide)
  refine nm_r (e' := nI (64 * e)) ((pk_mul e 64).trans (congrArg nI (by omega))) (hw_home (pr_stride (by omega) ?_))
  have hg : pr_g e ≤ 1 := by
    unfold pr_g
    by_cases q : e = 1
    · rw [if_pos q]; omega
    · rw [if_neg q]; omega
  have W := pr_fl (fh := fh) (w := w) (V := V) (L := L) (P := P) (Q := Q) (b := 64 * e) (by omega) (hm_lt w c) (pr_sl w e c) hg hI F 33 0 (by omega) (by omega) (fun j' h => by omega)
  refine pk_eq e 1 (fun h => ⟨33, ?_⟩) (fun h => ⟨33, ?_⟩)
  · have eg : pr_g e = 1 := if_pos h
    rw [eg] at W
    exact W
  · have eg : pr_g e = 0 := if_neg h
    rw [eg] at W
    rw [show pr_s w e c + 0 * 0 = pr_s w e c by omega] at W
    exact W
theorem pr_il {post : SX → Prop} {c v : Int32} {b h s g : Nat} (hb : b ≤ 448) (hh : h < 32) (hs : s < 32) (hg : g ≤ 1)
    (R : ∃ j, j < 32 ∧ ¬ rg_r b M (pr_p h s g j) = 1)
    (F : ∀ j, j < 32 → ¬ rg_r b M (pr_p h s g j) = 1 → (∀ j', j' < j → rg_r b M (pr_p h s g j') = 1) → post (fh, w, upd K (b + pr_p h s g j) c, upd V (b + pr_p h s g j) v, upd M (b + pr_p h s g j) 1, L, P, Q)) :
    ∀ n j, j ≤ 32 → 32 - j < n → (∀ j', j' < j → rg_r b M (pr_p h s g j') = 1) →
      wX_insertProbing_36 post c v (nI b) (nI g) fh w K V M L P Q n (nI (pr_p h s g j)) (nI (s + g * j)) (nI j) := by
  intro n
  induction n with
  | zero => intro j _ hm; omega
  | succ n ih =>
    intro j hj hm hno
    have hp := pr_lt (s := s) (g := g) hh j
    have hgj : g * j ≤ 1 * j := Nat.mul_le_mul_right j hg
    refine pk_le 32 j (fun h5 => ?_) (fun h5 => ?_)
    · obtain ⟨j0, h1, h2⟩ := R
      exact absurd (hno j0 (by omega)) h2
    · refine ⟨pk_in (b + pr_p h s g j) 512 (by omega) (nI_add _ _), ?_⟩
      rw [nI_add, nI_clamp (by omega), ← rg_at (b := b) (a := M) (i := pr_p h s g j) (by omega)]
      refine br_c (fun h1 => ?_) (fun h1 => hw_hold rfl (by omega) (F j (by omega) h1 hno))
      refine nm_r (e' := nI (pr_p h s g (j + 1))) ?_ (nm_r (e' := nI (s + g * (j + 1))) ?_ (nm_r (nI_1 _) ?_))
      · rw [nI_add, hm_m (by omega)]
        rfl
      · rw [nI_add, Nat.mul_succ]
        exact congrArg nI (by omega)
      · refine ih (j + 1) (by omega) (by omega) fun j' hj' => ?_
        by_cases ej : j' = j
        · rw [ej]; exact h1
        · exact hno j' (by omega)
/-- a mark that isn't free any more -/
theorem pr_up {e : Nat} {m : Nat → Int32} {c x : Int32} {i q : Nat} (hx : x ≠ 0) (h : pr_ok w e m c i) : pr_ok w e (upd m q x) c i := by
  obtain ⟨j, h1, h2, h3⟩ := h
  refine ⟨j, h1, h2, fun j' hj' => ?_⟩
  by_cases eq : pr_at w e c j' = q
  · rw [eq, pk_us]; exact hx
  · rw [pk_un eq]; exact h3 j' hj'
theorem pr_insert {post : SX → Prop} {c v : Int32} {e : Nat} {ml : List (Int32 × Int32)} (he : e < 3) (I : pr_inv w e (rg_r (64 * e) K) (rg_r (64 * e) M)) (hl : ml.length < 32)
    (hp : List.Perm (cc_c (rg_r (64 * e) K) (rg_r (64 * e) V) (rg_r (64 * e) M)) ml)
    (F : kn_k (64 * e) (fun k m _ => pr_inv w e k m) ((c, v) :: ml) fh w K V M L P Q post) : wpX_insertProbing post (fh, w, K, V, M, L, P, Q) (nI e) c v := by
  have hR : ∃ j, j < 32 ∧ ¬ rg_r (64 * e) M (pr_at w e c j) = 1 := by
    obtain ⟨p, h1, h2, h3⟩ := cc_room (k := rg_r (64 * e) K) (v := rg_r (64 * e) V) (m := rg_r (64 * e) M) 0 (by omega) (by rw [hp.length_eq]; exact hl)
    obtain ⟨j, hj, ej⟩ := pr_sur w e c p (by omega)
    exact ⟨j, hj, by rw [ej]; exact h3⟩
  have hF : ∀ j, j < 32 → ¬ rg_r (64 * e) M (pr_at w e c j) = 1 → (∀ j', j' < j → rg_r (64 * e) M (pr_at w e c j') = 1) → post (fh, w, upd K (64 * e + pr_at w e c j) c, upd V (64 * e + pr_at w e c j) v, upd M (64 * e + pr_at w e c j) 1, L, P, Q) := by
    intro j hj h1 h2
    have hq := pr_al w e c j
    have hq6 : pr_at w e c j < 64 := by omega
    refine F _ _ _ _ (fr_u fr_r hq6) (fr_u fr_r hq6) (fr_u fr_r hq6) fr_r ?_ ?_
    · rw [rg_upd hq6, rg_upd hq6]
      refine ⟨fun i hi a => ?_, fun i h3 h4 => ?_, fun e0 i hi => ?_⟩
      · by_cases ei : i = pr_at w e c j
        · rw [ei, pk_us]
          refine pr_up (by decide) ⟨j, hj, rfl, fun j' hj' z => ?_⟩
          rw [h2 j' hj'] at z
          exact absurd z (by decide)
        · rw [pk_un ei] at a
          rw [pk_un ei]
          exact pr_up (by decide) (I.1 i hi a)
      · rw [pk_un (by omega)]
        exact I.2.1 i h3 h4
      · by_cases ei : i = pr_at w e c j
        · rw [ei, pk_us]; exact .inr rfl
        · rw [pk_un ei]; exact I.2.2 e0 i hi
    · rw [rg_upd hq6, rg_upd hq6, rg_upd hq6]
      exact (cc_hold hq6 h1).trans (hp.cons _)
  refine nm_r (e' := nI (64 * e)) ((pk_mul e 64).trans (congrArg nI (by omega))) (hw_home (pr_stride (by omega) ?_))
  have hg : pr_g e ≤ 1 := by
    unfold pr_g
    by_cases q : e = 1
    · rw [if_pos q]; omega
    · rw [if_neg q]; omega
  have W := pr_il (fh := fh) (w := w) (K := K) (V := V) (L := L) (P := P) (Q := Q) (v := v) (b := 64 * e) (by omega) (hm_lt w c) (pr_sl w e c) hg hR hF 33 0 (by omega) (by omega) (fun j' h => by omega)
  refine pk_eq e 1 (fun h => ⟨33, ?_⟩) (fun h => ⟨33, ?_⟩)
  · have eg : pr_g e = 1 := if_pos h
    rw [eg] at W
    exact W
  · have eg : pr_g e = 0 := if_neg h
    rw [eg] at W
    rw [show pr_s w e c + 0 * 0 = pr_s w e c by omega] at W
    exact W
/-- TRIANGULAR, DOUBLE: a slot is left -/
theorem pr_left {e : Nat} {k m : Nat → Int32} {i : Nat} (h0 : e ≠ 0) (hi : i < 32) (I : pr_inv w e k m) : pr_inv w e k (upd m i 2) := by
  refine ⟨fun j hj a => ?_, fun j h1 h2 => ?_, fun e0 => absurd e0 h0⟩
  · by_cases ei : j = i
    · rw [ei, pk_us] at a
      exact absurd a (by decide)
    · rw [pk_un ei] at a
      exact pr_up (by decide) (I.1 j hj a)
  · rw [pk_un (by omega)]
    exact I.2.1 j h1 h2
end
