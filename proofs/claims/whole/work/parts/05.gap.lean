/-! closeGap: the walk once, for any invariant; then LINEAR -/
theorem gp_loop {fh w : Int32} {L P Q : Nat → Int32} {post : SX → Prop} {b p0 : Nat} (hb : b ≤ 448) (h32 : b % 32 = 0) (hp : p0 < 32) (J : Nat → Nat → (Nat → Int32) → (Nat → Int32) → (Nat → Int32) → Prop)
    (hJ : ∀ s g K V M, J s g K V M → s < 32 ∧ g < s)
    (hx : ∀ s g K V M, J s g K V M → ¬ rg_r b M ((p0 + s) % 32) = 1 → post (fh, w, K, V, M, L, P, Q))
    (h1 : ∀ s g K V M, J s g K V M → rg_r b M ((p0 + s) % 32) = 1 → ds_d w (rg_r b K) ((p0 + s) % 32) < s - g → J (s + 1) g K V M)
    (h2 : ∀ s g K V M, J s g K V M → rg_r b M ((p0 + s) % 32) = 1 → s - g ≤ ds_d w (rg_r b K) ((p0 + s) % 32) → J (s + 1) s (upd K (b + (p0 + g) % 32) (K (b + (p0 + s) % 32))) (upd V (b + (p0 + g) % 32) (V (b + (p0 + s) % 32))) (upd (upd M (b + (p0 + g) % 32) 1) (b + (p0 + s) % 32) 0)) :
    ∀ n s g K V M, 32 - s < n → J s g K V M → wX_closeGap_19 post (nI (b + p0)) (nI b) n (nI (b + (p0 + g) % 32)) (nI s) fh w K V M L P Q := by
  intro n
  induction n with
  | zero => intro s g K V M hm; omega
  | succ n ih =>
    intro s g K V M hm j
    have hs := hJ s g K V M j
    have hq : (p0 + s) % 32 < 32 := Nat.mod_lt _ (by decide)
    have hg : (p0 + g) % 32 < 32 := Nat.mod_lt _ (by decide)
    refine pk_le 32 s (fun h => absurd h (by omega)) (fun h => ?_)
    refine nm_r (e' := nI (b + (p0 + s) % 32)) ?_ ⟨vp_in_nI (by omega) (by decide), ?_⟩
    · rw [nI_add, hm_m (by omega), nI_add]
      exact congrArg nI (by omega)
    · rw [nI_clamp (by omega), ← rg_at (b := b) (a := M) (i := (p0 + s) % 32) (by omega)]
      refine br_c (fun a => hw_dist rfl (by omega) hb h32 ?_) (fun a => hx s g K V M j a)
      refine pk_lt (ds_d w (rg_r b K) ((p0 + s) % 32)) (s - g) (fun d => ?_) (fun d => ?_) rfl ?_ (by have := ds_lt w (rg_r b K) ((p0 + s) % 32); omega) (by omega)
      · exact nm_r (nI_1 _) (ih (s + 1) g K V M (by omega) (h1 s g K V M j a d))
      · refine ⟨vp_in_nI (by omega) (by decide), vp_in_nI (by omega) (by decide), hw_hold rfl (by omega) ?_⟩
        refine ⟨vp_in_nI (by omega) (by decide), nm_r (e' := upd (upd M (b + (p0 + g) % 32) 1) (b + (p0 + s) % 32) 0) (by rw [hm_n0]) (nm_r (nI_1 _) ?_)⟩
        exact ih (s + 1) s _ _ _ (by omega) (h2 s g K V M j a d)
      · rw [hm_d (by omega) (by omega)]
        exact congrArg nI (by omega)
theorem gp_close {fh w : Int32} {K V M L P Q : Nat → Int32} {post : SX → Prop} {e p0 : Nat} (he : e < 8) (hp : p0 < 32) (J : Nat → Nat → (Nat → Int32) → (Nat → Int32) → (Nat → Int32) → Prop)
    (hJ : ∀ s g K V M, J s g K V M → s < 32 ∧ g < s)
    (hx : ∀ s g K V M, J s g K V M → ¬ rg_r (64 * e) M ((p0 + s) % 32) = 1 → post (fh, w, K, V, M, L, P, Q))
    (h1 : ∀ s g K V M, J s g K V M → rg_r (64 * e) M ((p0 + s) % 32) = 1 → ds_d w (rg_r (64 * e) K) ((p0 + s) % 32) < s - g → J (s + 1) g K V M)
    (h2 : ∀ s g K V M, J s g K V M → rg_r (64 * e) M ((p0 + s) % 32) = 1 → s - g ≤ ds_d w (rg_r (64 * e) K) ((p0 + s) % 32) → J (s + 1) s (upd K (64 * e + (p0 + g) % 32) (K (64 * e + (p0 + s) % 32))) (upd V (64 * e + (p0 + g) % 32) (V (64 * e + (p0 + s) % 32))) (upd (upd M (64 * e + (p0 + g) % 32) 1) (64 * e + (p0 + s) % 32) 0))
    (h0 : J 1 0 K V (upd M (64 * e + p0) 0)) : wpX_closeGap post (fh, w, K, V, M, L, P, Q) (nI e) (nI (64 * e + p0)) := by
  refine nm_r (e' := nI (64 * e)) ((pk_mul e 64).trans (congrArg nI (by omega))) ⟨vp_in_nI (by omega) (by decide), nm_r (e' := upd M (64 * e + p0) 0) (by rw [nI_clamp (by omega), hm_n0]) ⟨33, ?_⟩⟩
  have W := gp_loop (fh := fh) (w := w) (L := L) (P := P) (Q := Q) (b := 64 * e) (by omega) (by omega) hp J hJ hx h1 h2 33 1 0 K V _ (by omega) h0
  rw [show (p0 + 0) % 32 = p0 by omega] at W
  exact W
/-- LINEAR: from home to the key's place all is held -/
def ln_inv (w : Int32) (k m : Nat → Int32) : Prop := ∀ p, p < 32 → m p = 1 → ∀ t, t ≤ ds_d w k p → m ((p + 32 - t) % 32) = 1
theorem ln_seq (h j : Nat) (hh : h < 32) : pr_p h 1 0 j = (h + j) % 32 := by
  induction j with
  | zero =>
    show h = (h + 0) % 32
    omega
  | succ j ih =>
    show (pr_p h 1 0 j + (1 + 0 * j)) % 32 = _
    rw [ih, Nat.zero_mul]
    omega
theorem ln_at (w c : Int32) (j : Nat) : pr_at w 0 c j = (hm_h w c + j) % 32 := ln_seq _ j (hm_lt w c)
theorem ln_of {w : Int32} {k m : Nat → Int32} (I : pr_inv w 0 k m) : ln_inv w k m := by
  intro p hp a t ht
  obtain ⟨j, h1, h2, h3⟩ := I.1 p hp a
  rw [ln_at] at h2
  have hh := hm_lt w (k p)
  unfold ds_d at ht
  by_cases t0 : t = 0
  · rw [t0, show (p + 32 - 0) % 32 = p by omega]; exact a
  · have ej : j = (p + 32 - hm_h w (k p)) % 32 := by omega
    have h4 := h3 (j - t) (by omega)
    rw [ln_at, show (hm_h w (k p) + (j - t)) % 32 = (p + 32 - t) % 32 by omega] at h4
    exact (I.2.2 rfl _ (by have : (p + 32 - t) % 32 < 32 := Nat.mod_lt _ (by decide)
                           omega)).resolve_left h4
theorem ln_to {w : Int32} {k m : Nat → Int32} (I : ln_inv w k m) (hb : ∀ i, i < 64 → m i = 0 ∨ m i = 1) (hz : ∀ i, 32 ≤ i → i < 64 → m i = 0) : pr_inv w 0 k m := by
  refine ⟨fun p hp a => ?_, hz, fun _ => hb⟩
  have hh := hm_lt w (k p)
  refine ⟨ds_d w k p, ds_lt w k p, ?_, fun j' hj' z => ?_⟩
  · rw [ln_at]
    unfold ds_d
    omega
  · have h4 := I p hp a (ds_d w k p - j') (by omega)
    rw [ln_at] at z
    have e : (p + 32 - (ds_d w k p - j')) % 32 = (hm_h w (k p) + j') % 32 := by
      unfold ds_d at hj' ⊢
      omega
    rw [e, z] at h4
    exact absurd h4 (by decide)
def ln_J (w : Int32) (p0 f s g : Nat) (k m : Nat → Int32) : Prop :=
  g < s ∧ s ≤ f ∧ f < 32 ∧ ¬ m ((p0 + f) % 32) = 1 ∧ ¬ m ((p0 + g) % 32) = 1 ∧ (∀ i, i < 64 → m i = 0 ∨ m i = 1) ∧ (∀ i, 32 ≤ i → i < 64 → m i = 0) ∧
  ∀ p, p < 32 → m p = 1 → ∀ t, t ≤ ds_d w k p → m ((p + 32 - t) % 32) = 1 ∨ ((p + 32 - t) % 32 = (p0 + g) % 32 ∧ s ≤ (p + 32 - p0) % 32)
theorem ln_end {w : Int32} {p0 f s g : Nat} {k m : Nat → Int32} (hp : p0 < 32) (j : ln_J w p0 f s g k m) (h : ¬ m ((p0 + s) % 32) = 1) : ln_inv w k m := by
  obtain ⟨j1, j2, j3, j4, j5, j6, j7, j8⟩ := j
  intro p hp1 a t ht
  have hd := ds_lt w k p
  rcases j8 p hp1 a t ht with q | ⟨q1, q2⟩
  · exact q
  · exfalso
    have e1 : ((p + 32 - p0) % 32 - s) ≤ ds_d w k p := by omega
    have e2 : (p + 32 - ((p + 32 - p0) % 32 - s)) % 32 = (p0 + s) % 32 := by omega
    rcases j8 p hp1 a _ e1 with q | ⟨q3, _⟩
    · rw [e2] at q; exact h q
    · rw [e2] at q3; omega
theorem ln_stay {w : Int32} {p0 f s g : Nat} {k m : Nat → Int32} (hp : p0 < 32) (j : ln_J w p0 f s g k m) (h : m ((p0 + s) % 32) = 1) (hd : ds_d w k ((p0 + s) % 32) < s - g) : ln_J w p0 f (s + 1) g k m := by
  obtain ⟨j1, j2, j3, j4, j5, j6, j7, j8⟩ := j
  have hf : s ≠ f := fun e => j4 (e ▸ h)
  refine ⟨by omega, by omega, j3, j4, j5, j6, j7, fun p hp1 a t ht => ?_⟩
  rcases j8 p hp1 a t ht with q | ⟨q1, q2⟩
  · exact .inl q
  · refine .inr ⟨q1, ?_⟩
    have h2 := ds_lt w k p
    by_cases e : p = (p0 + s) % 32
    · rw [← e] at hd; omega
    · omega
theorem ln_move {w : Int32} {p0 f s g : Nat} {k m : Nat → Int32} (hp : p0 < 32) (j : ln_J w p0 f s g k m) (h : m ((p0 + s) % 32) = 1) (hd : s - g ≤ ds_d w k ((p0 + s) % 32)) : ln_J w p0 f (s + 1) s (upd k ((p0 + g) % 32) (k ((p0 + s) % 32))) (upd (upd m ((p0 + g) % 32) 1) ((p0 + s) % 32) 0) := by
  obtain ⟨j1, j2, j3, j4, j5, j6, j7, j8⟩ := j
  have hf : s ≠ f := fun e => j4 (e ▸ h)
  have hgq : (p0 + g) % 32 ≠ (p0 + s) % 32 := by omega
  refine ⟨by omega, by omega, j3, ?_, ?_, fun i hi => ?_, fun i h1 h2 => ?_, fun p hp1 a t ht => ?_⟩
  · rw [pk_un (by omega), pk_un (by omega)]; exact j4
  · rw [pk_us]; decide
  · by_cases e1 : i = (p0 + s) % 32
    · rw [e1, pk_us]; exact .inl rfl
    · rw [pk_un e1]
      by_cases e2 : i = (p0 + g) % 32
      · rw [e2, pk_us]; exact .inr rfl
      · rw [pk_un e2]; exact j6 i hi
  · rw [pk_un (by omega), pk_un (by omega)]; exact j7 i h1 h2
  · have hpq : p ≠ (p0 + s) % 32 := fun e => by rw [e, pk_us] at a; exact absurd a (by decide)
    rw [pk_un hpq] at a
    have hh := hm_lt w (k ((p0 + s) % 32))
    by_cases epg : p = (p0 + g) % 32
    · have e1 : ds_d w (upd k ((p0 + g) % 32) (k ((p0 + s) % 32))) p = ds_d w k ((p0 + s) % 32) - (s - g) := by
        unfold ds_d at hd ⊢
        rw [epg, pk_us]
        omega
      rw [e1] at ht
      have h3 := ds_lt w k ((p0 + s) % 32)
      have hz : (p + 32 - t) % 32 ≠ (p0 + s) % 32 := by omega
      rw [pk_un hz]
      by_cases t0 : t = 0
      · rw [t0, show (p + 32 - 0) % 32 = (p0 + g) % 32 by omega, pk_us]; exact .inl rfl
      · rw [pk_un (by omega)]
        have e2 : ((p0 + s) % 32 + 32 - (t + (s - g))) % 32 = (p + 32 - t) % 32 := by omega
        rcases j8 ((p0 + s) % 32) (Nat.mod_lt _ (by decide)) h (t + (s - g)) (by omega) with q | ⟨q1, _⟩
        · rw [e2] at q; exact .inl q
        · omega
    · rw [pk_un epg] at a
      have e1 : ds_d w (upd k ((p0 + g) % 32) (k ((p0 + s) % 32))) p = ds_d w k p := by
        unfold ds_d
        rw [pk_un epg]
      rw [e1] at ht
      have h3 := ds_lt w k p
      by_cases ez : (p + 32 - t) % 32 = (p0 + s) % 32
      · refine .inr ⟨ez, ?_⟩
        by_cases hlt : s + 1 ≤ (p + 32 - p0) % 32
        · exact hlt
        · exfalso
          have e2 : (p + 32 - ((p + 32 - p0) % 32 + 32 - f)) % 32 = (p0 + f) % 32 := by omega
          rcases j8 p hp1 a ((p + 32 - p0) % 32 + 32 - f) (by omega) with q | ⟨q1, _⟩
          · rw [e2] at q; exact j4 q
          · omega
      · rw [pk_un ez]
        by_cases eg : (p + 32 - t) % 32 = (p0 + g) % 32
        · rw [eg, pk_us]; exact .inl rfl
        · rw [pk_un eg]
          rcases j8 p hp1 a t ht with q | ⟨q1, _⟩
          · exact .inl q
          · exact absurd q1 eg
/-- how the content goes when the gap moves -/
theorem gp_con {k v m : Nat → Int32} {i q : Nat} {ml : List (Int32 × Int32)} (hi : i < 64) (hq : q < 64) (ne : i ≠ q) (h : ¬ m i = 1) (hh : m q = 1) (p : List.Perm (cc_c k v m) ml) : List.Perm (cc_c (upd k i (k q)) (upd v i (v q)) (upd (upd m i 1) q 0)) ml := by
  have a := cc_hold (k := k) (v := v) (c := k q) (x := v q) hi h
  have c := cc_free (k := upd k i (k q)) (v := upd v i (v q)) (m := upd m i 1) (c := 0) hq (by rw [pk_un (Ne.symm ne)]; exact hh) (by decide)
  rw [pk_un (Ne.symm ne), pk_un (Ne.symm ne)] at c
  exact (c.trans a).cons_inv.trans p
section
variable {fh w : Int32} {K V M L P Q : Nat → Int32}
theorem ln_take {post : SX → Prop} {p0 : Nat} {ml : List (Int32 × Int32)} (hp : p0 < 64) (hh : rg_r 0 M p0 = 1) (I : pr_inv w 0 (rg_r 0 K) (rg_r 0 M)) (n : ct_nd ml) (hl : ml.length < 25)
    (pm : List.Perm (cc_c (rg_r 0 K) (rg_r 0 V) (rg_r 0 M)) ml)
    (F : kn_k 0 (fun k m _ => pr_inv w 0 k m) (ct_er (rg_r 0 K p0) ml) fh w K V M L P Q post) : wpX_closeGap post (fh, w, K, V, M, L, P, Q) 0 (nI p0) := by
  have hp3 : p0 < 32 := by
    rcases Nat.lt_or_ge p0 32 with q | q
    · exact q
    · rw [I.2.1 p0 q hp] at hh; exact absurd hh (by decide)
  have hbin := I.2.2 rfl
  have pm1 : List.Perm (cc_c (rg_r 0 K) (rg_r 0 V) (upd (rg_r 0 M) p0 0)) (ct_er (rg_r 0 K p0) ml) := cc_take hp hh (by decide) n pm
  obtain ⟨p1, r1, r2, r3⟩ := cc_room (k := rg_r 0 K) (v := rg_r 0 V) (m := rg_r 0 M) 0 (by omega) (by rw [pm.length_eq]; omega)
  have hne : p1 ≠ p0 := fun e => r3 (e ▸ hh)
  have W := gp_close (fh := fh) (w := w) (K := K) (V := V) (M := M) (L := L) (P := P) (Q := Q) (post := post) (e := 0) (p0 := p0) (by decide) hp3
    (fun s g K' V' M' => ln_J w p0 ((p1 + 32 - p0) % 32) s g (rg_r 0 K') (rg_r 0 M') ∧ fr_f 0 K K' ∧ fr_f 0 V V' ∧ fr_f 0 M M' ∧ List.Perm (cc_c (rg_r 0 K') (rg_r 0 V') (rg_r 0 M')) (ct_er (rg_r 0 K p0) ml))
    (fun s g K' V' M' j => ⟨by have := j.1; unfold ln_J at this; omega, j.1.1⟩)
    (fun s g K' V' M' j h => F K' V' M' L j.2.1 j.2.2.1 j.2.2.2.1 fr_r (ln_to (ln_end hp3 j.1 h) j.1.2.2.2.2.2.1 j.1.2.2.2.2.2.2.1) j.2.2.2.2)
    (fun s g K' V' M' j h d => ⟨ln_stay hp3 j.1 h d, j.2⟩)
    (fun s g K' V' M' j h d => by
      have hq : (p0 + s) % 32 < 64 := by omega
      have hg : (p0 + g) % 32 < 64 := by omega
      have j1 := j.1
      obtain ⟨a1, a2, a3, a4, a5, a6, a7, a8⟩ := j1
      refine ⟨?_, fr_u j.2.1 hg, fr_u j.2.2.1 hg, fr_u (fr_u j.2.2.2.1 hg) hq, ?_⟩
      · rw [rg_upd hg, rg_upd hq, rg_upd hg, ← rg_at (b := 64 * 0) (a := K') hq]
        exact ln_move hp3 j.1 h d
      · rw [rg_upd hg, rg_upd hg, rg_upd hq, rg_upd hg, ← rg_at (b := 64 * 0) (a := K') hq, ← rg_at (b := 64 * 0) (a := V') hq]
        exact gp_con hg hq (by omega) a5 h j.2.2.2.2)
    (by
      refine ⟨?_, fr_r, fr_r, fr_u fr_r hp, ?_⟩
      · rw [rg_upd hp]
        refine ⟨by omega, by omega, by omega, ?_, ?_, fun i hi => ?_, fun i h1 h2 => ?_, fun p hp1 a t ht => ?_⟩
        · rw [show (p0 + (p1 + 32 - p0) % 32) % 32 = p1 by omega, pk_un hne]; exact r3
        · rw [show (p0 + 0) % 32 = p0 by omega, pk_us]; decide
        · by_cases e : i = p0
          · rw [e, pk_us]; exact .inl rfl
          · rw [pk_un e]; exact hbin i hi
        · rw [pk_un (by omega)]; exact I.2.1 i h1 h2
        · have hpp : p ≠ p0 := fun e => by rw [e, pk_us] at a; exact absurd a (by decide)
          rw [pk_un hpp] at a
          by_cases e : (p + 32 - t) % 32 = p0
          · exact .inr ⟨by omega, by omega⟩
          · rw [pk_un e]; exact .inl (ln_of I p hp1 a t ht)
      · rw [rg_upd hp]; exact pm1)
  have e : 64 * 0 + p0 = p0 := by omega
  rw [e] at W
  exact W
end
