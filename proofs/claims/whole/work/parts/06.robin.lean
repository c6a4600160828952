/-! ROBIN: a key far from its home displaces a nearer one -/
/-- the local form: at home, or the place ahead is held, and no more than one nearer -/
def rb_loc (h : Nat → Prop) (d : Nat → Nat) : Prop := ∀ p, p < 32 → h p → d p = 0 ∨ (h ((p + 31) % 32) ∧ d p ≤ d ((p + 31) % 32) + 1)
def rb_bin (m : Nat → Int32) : Prop := (∀ i, i < 64 → m i = 0 ∨ m i = 1) ∧ (∀ i, 32 ≤ i → i < 64 → m i = 0)
def rb_inv (w : Int32) (k m : Nat → Int32) : Prop := rb_loc (fun p => m p = 1) (ds_d w k) ∧ rb_bin m
theorem rb_chain {h : Nat → Prop} {d : Nat → Nat} (I : rb_loc h d) {q : Nat} (hq : q < 32) (hh : h q) : ∀ t, t ≤ d q → t < 32 → h ((q + 32 - t) % 32) ∧ d q ≤ d ((q + 32 - t) % 32) + t := by
  intro t
  induction t with
  | zero =>
    intro _ _
    rw [show (q + 32 - 0) % 32 = q by omega]
    exact ⟨hh, by omega⟩
  | succ t ih =>
    intro ht h32
    obtain ⟨a, b⟩ := ih (by omega) (by omega)
    have e : ((q + 32 - t) % 32 + 31) % 32 = (q + 32 - (t + 1)) % 32 := by omega
    rcases I _ (Nat.mod_lt _ (by decide)) a with z | ⟨z1, z2⟩
    · omega
    · rw [e] at z1 z2
      exact ⟨z1, by omega⟩
theorem rb_cong {h h' : Nat → Prop} {d d' : Nat → Nat} (I : rb_loc h d) (e1 : ∀ p, p < 32 → (h' p ↔ h p)) (e2 : ∀ p, p < 32 → d' p = d p) : rb_loc h' d' := by
  intro p hp a
  have hr : (p + 31) % 32 < 32 := Nat.mod_lt _ (by decide)
  rw [e1 _ hr, e2 _ hr, e2 _ hp]
  exact I p hp ((e1 p hp).mp a)
section
variable {fh w : Int32} {K V M L P Q : Nat → Int32}
theorem rb_fl {post : Int32 → Prop} {c : Int32} (I : rb_inv w (rg_r 192 K) (rg_r 192 M)) (F : fd_ok 192 K M c post) : ∀ n t, t ≤ 32 → 32 - t < n → (∀ j, j < t → ¬ rg_r 192 K ((hm_h w c + j) % 32) = c) →
    wX_findRobin_13 post c (nI 192) (nI (hm_h w c)) fh w K V M L P Q n (nI t) := by
  have hh := hm_lt w c
  have key : ∀ i, i < 64 → rg_r 192 M i = 1 → rg_r 192 K i = c → i < 32 ∧ (hm_h w c + ds_d w (rg_r 192 K) i) % 32 = i := by
    intro i hi a d
    have h3 : i < 32 := by
      rcases Nat.lt_or_ge i 32 with q | q
      · exact q
      · rw [I.2.2 i q hi] at a; exact absurd a (by decide)
    refine ⟨h3, ?_⟩
    unfold ds_d
    rw [d]
    omega
  intro n
  induction n with
  | zero => intro t _ hm; omega
  | succ n ih =>
    intro t ht hm hno
    have hq : (hm_h w c + t) % 32 < 32 := Nat.mod_lt _ (by decide)
    have stop : (¬ rg_r 192 M ((hm_h w c + t) % 32) = 1 ∨ ds_d w (rg_r 192 K) ((hm_h w c + t) % 32) < t) → post (-1) := by
      intro z
      refine F.2 fun i hi a d => ?_
      obtain ⟨k1, k2⟩ := key i hi a d
      have h5 := ds_lt w (rg_r 192 K) i
      rcases Nat.lt_or_ge (ds_d w (rg_r 192 K) i) t with y | y
      · exact hno _ y (by rw [k2]; exact d)
      · obtain ⟨c1, c2⟩ := rb_chain I.1 k1 a (ds_d w (rg_r 192 K) i - t) (by omega) (by omega)
        have e : (i + 32 - (ds_d w (rg_r 192 K) i - t)) % 32 = (hm_h w c + t) % 32 := by omega
        rw [e] at c1 c2
        rcases z with z | z
        · exact z c1
        · omega
    refine pk_le 32 t (fun h5 => ?_) (fun h5 => ?_)
    · refine F.2 fun i hi a d => ?_
      obtain ⟨k1, k2⟩ := key i hi a d
      exact hno (ds_d w (rg_r 192 K) i) (by have := ds_lt w (rg_r 192 K) i; omega) (by rw [k2]; exact d)
    · refine nm_r (e' := nI (192 + (hm_h w c + t) % 32)) ?_ ⟨vp_in_nI (by omega) (by decide), ?_⟩
      · rw [nI_add, hm_m (by omega), nI_add]
      · rw [nI_clamp (by omega), ← rg_at (b := 192) (a := M) (i := (hm_h w c + t) % 32) (by omega)]
        refine br_c (fun a => hw_dist rfl (by omega) (by decide) (by decide) ?_) (fun a => stop (.inl a))
        refine pk_le t (ds_d w (rg_r 192 K) ((hm_h w c + t) % 32)) (fun d => ⟨vp_in_nI (by omega) (by decide), ?_⟩) (fun d => stop (.inr d)) rfl rfl (by omega) (by have := ds_lt w (rg_r 192 K) ((hm_h w c + t) % 32); omega)
        rw [← rg_at (b := 192) (a := K) (i := (hm_h w c + t) % 32) (by omega)]
        refine br_c (fun e => F.1 _ (by omega) a e) (fun e => nm_r (nI_1 _) ?_)
        refine ih (t + 1) (by omega) (by omega) fun j hj => ?_
        by_cases ej : j = t
        · rw [ej]; exact e
        · exact hno j (by omega)
theorem rb_find {post : Int32 → Prop} {c : Int32} (I : rb_inv w (rg_r 192 K) (rg_r 192 M)) (F : fd_ok 192 K M c post) : wpX_findRobin post (fh, w, K, V, M, L, P, Q) c := by
  unfold wpX_findRobin
  dsimp only
  exact hw_home ⟨33, rb_fl I F 33 0 (by omega) (by omega) (fun j h => by omega)⟩
/-- the key that is carried: its way so far -/
def rb_cy (w : Int32) (k m : Nat → Int32) (ck : Int32) (p t : Nat) : Prop := t = (p + 32 - hm_h w ck) % 32 ∧ (t = 0 ∨ (m ((p + 31) % 32) = 1 ∧ t ≤ ds_d w k ((p + 31) % 32) + 1))
theorem rb_il {post : SX → Prop} {h f : Nat} {ml : List (Int32 × Int32)} {K0 V0 M0 : Nat → Int32} (hh : h < 32) (hf : f < 32)
    (F : kn_k 192 (fun k m _ => rb_inv w k m) ml fh w K0 V0 M0 L P Q post) :
    ∀ n j (K V M : Nat → Int32) ck cv t, j ≤ f → 32 - j < n → ¬ rg_r 192 M ((h + f) % 32) = 1 → rb_inv w (rg_r 192 K) (rg_r 192 M) → rb_cy w (rg_r 192 K) (rg_r 192 M) ck ((h + j) % 32) t →
      fr_f 192 K0 K → fr_f 192 V0 V → fr_f 192 M0 M → List.Perm ((ck, cv) :: cc_c (rg_r 192 K) (rg_r 192 V) (rg_r 192 M)) ml →
      wX_insertRobin_23 post (nI 192) (nI h) n ck cv (nI t) (nI j) fh w K V M L P Q := by
  intro n
  induction n with
  | zero => intro j K V M ck cv t _ hm; omega
  | succ n ih =>
    intro j K V M ck cv t hj hm hu I C fK fV fM pm
    have hq : (h + j) % 32 < 32 := Nat.mod_lt _ (by decide)
    have hq6 : (h + j) % 32 < 64 := by omega
    have hck := hm_lt w ck
    have ht : t < 32 := by rw [C.1]; exact Nat.mod_lt _ (by decide)
    refine pk_le 32 j (fun h5 => absurd h5 (by omega)) (fun h5 => ?_)
    refine nm_r (e' := nI (192 + (h + j) % 32)) ?_ ⟨vp_in_nI (by omega) (by decide), ?_⟩
    · rw [nI_add, hm_m (by omega), nI_add]
    rw [nI_clamp (by omega), ← rg_at (b := 192) (a := M) (i := (h + j) % 32) (by omega)]
    have dself : ds_d w (upd (rg_r 192 K) ((h + j) % 32) ck) ((h + j) % 32) = t := by
      unfold ds_d
      rw [pk_us, C.1]
    have doth : ∀ p, p ≠ (h + j) % 32 → ds_d w (upd (rg_r 192 K) ((h + j) % 32) ck) p = ds_d w (rg_r 192 K) p := by
      intro p hp
      unfold ds_d
      rw [pk_un hp]
    have hbin : rb_bin (upd (rg_r 192 M) ((h + j) % 32) 1) := by
      refine ⟨fun i hi => ?_, fun i h1 h2 => ?_⟩
      · by_cases e : i = (h + j) % 32
        · rw [e, pk_us]; exact .inr rfl
        · rw [pk_un e]; exact I.2.1 i hi
      · rw [pk_un (by omega)]; exact I.2.2 i h1 h2
    refine br_c (fun a => hw_dist rfl hq6 (by decide) (by decide) ?_) (fun a => hw_hold rfl (by omega) ?_)
    · have hd := ds_lt w (rg_r 192 K) ((h + j) % 32)
      have hjf : j ≠ f := fun e => hu (e ▸ a)
      have e31 : ((h + (j + 1)) % 32 + 31) % 32 = (h + j) % 32 := by omega
      refine pk_le t (ds_d w (rg_r 192 K) ((h + j) % 32)) (fun d => nm_r (nI_1 _) (nm_r (nI_1 _) ?_)) (fun d => ⟨vp_in_nI (by omega) (by decide), ?_⟩) rfl rfl (by omega) (by omega)
      · refine ih (j + 1) K V M ck cv (t + 1) (by omega) (by omega) hu I ⟨?_, .inr ⟨?_, ?_⟩⟩ fK fV fM pm
        · have t31 : t ≠ 31 := by
            intro e
            have ed : ds_d w (rg_r 192 K) ((h + j) % 32) = 31 := by omega
            obtain ⟨c1, _⟩ := rb_chain I.1 hq a (((h + j) % 32 + 32 - (h + f) % 32) % 32) (by omega) (by omega)
            rw [show ((h + j) % 32 + 32 - ((h + j) % 32 + 32 - (h + f) % 32) % 32) % 32 = (h + f) % 32 by omega] at c1
            exact hu c1
          have := C.1
          omega
        · rw [e31]; exact a
        · rw [e31]; omega
      · refine nm_e ⟨vp_in_nI (by omega) (by decide), nm_e (hw_hold rfl (by omega) ?_)⟩
        refine nm_r (nI_1 _) (nm_r (nI_1 _) ?_)
        refine ih (j + 1) _ _ _ _ _ (ds_d w (rg_r 192 K) ((h + j) % 32) + 1) (by omega) (by omega) ?_ ?_ ?_ (fr_u fK hq6) (fr_u fV hq6) (fr_u fM hq6) ?_
        · rw [rg_upd hq6, pk_un (by omega)]; exact hu
        · rw [rg_upd hq6, rg_upd hq6]
          refine ⟨fun p hp b => ?_, hbin⟩
          by_cases e : p = (h + j) % 32
          · rw [e, dself]
            rcases C.2 with z | ⟨z1, z2⟩
            · exact .inl z
            · have e' : ((h + j) % 32 + 31) % 32 ≠ (h + j) % 32 := by omega
              refine .inr ⟨?_, ?_⟩
              · show upd _ _ _ _ = 1
                rw [pk_un e']; exact z1
              · rw [doth _ e']; exact z2
          · have b' : rg_r 192 M p = 1 := by
              have : upd (rg_r 192 M) ((h + j) % 32) 1 p = 1 := b
              rw [pk_un e] at this
              exact this
            rw [doth p e]
            rcases I.1 p hp b' with z | ⟨z1, z2⟩
            · exact .inl z
            · refine .inr ?_
              by_cases e2 : (p + 31) % 32 = (h + j) % 32
              · rw [e2, dself]
                rw [e2] at z2
                refine ⟨?_, by omega⟩
                show upd _ _ _ _ = 1
                rw [pk_us]
              · rw [doth _ e2]
                refine ⟨?_, z2⟩
                show upd _ _ _ _ = 1
                rw [pk_un e2]; exact z1
        · rw [rg_upd hq6, rg_upd hq6]
          refine ⟨?_, .inr ⟨?_, ?_⟩⟩
          · unfold ds_d at d ⊢
            rw [← rg_at (b := 192) (a := K) hq6]
            have h7 := hm_lt w (rg_r 192 K ((h + j) % 32))
            have := C.1
            omega
          · rw [e31, pk_us]
          · rw [e31, dself]; omega
        · rw [rg_upd hq6, rg_upd hq6, rg_upd hq6, ← rg_at (b := 192) (a := K) hq6, ← rg_at (b := 192) (a := V) hq6]
          exact (cc_over hq6 a).trans pm
    · refine F _ _ _ _ (fr_u fK hq6) (fr_u fV hq6) (fr_u fM hq6) fr_r ?_ ?_
      · rw [rg_upd hq6, rg_upd hq6]
        refine ⟨fun p hp b => ?_, hbin⟩
        by_cases e : p = (h + j) % 32
        · rw [e, dself]
          rcases C.2 with z | ⟨z1, z2⟩
          · exact .inl z
          · have e' : ((h + j) % 32 + 31) % 32 ≠ (h + j) % 32 := by omega
            refine .inr ⟨?_, ?_⟩
            · show upd _ _ _ _ = 1
              rw [pk_un e']; exact z1
            · rw [doth _ e']; exact z2
        · have b' : rg_r 192 M p = 1 := by
            have : upd (rg_r 192 M) ((h + j) % 32) 1 p = 1 := b
            rw [pk_un e] at this
            exact this
          rw [doth p e]
          rcases I.1 p hp b' with z | ⟨z1, z2⟩
          · exact .inl z
          · refine .inr ?_
            by_cases e2 : (p + 31) % 32 = (h + j) % 32
            · exact absurd (e2 ▸ z1) a
            · rw [doth _ e2]
              refine ⟨?_, z2⟩
              show upd _ _ _ _ = 1
              rw [pk_un e2]; exact z1
      · rw [rg_upd hq6, rg_upd hq6, rg_upd hq6]
        exact (cc_hold hq6 a).trans pm
theorem rb_insert {post : SX → Prop} {c v : Int32} {ml : List (Int32 × Int32)} (I : rb_inv w (rg_r 192 K) (rg_r 192 M)) (hl : ml.length < 32)
    (hp : List.Perm (cc_c (rg_r 192 K) (rg_r 192 V) (rg_r 192 M)) ml)
    (F : kn_k 192 (fun k m _ => rb_inv w k m) ((c, v) :: ml) fh w K V M L P Q post) : wpX_insertRobin post (fh, w, K, V, M, L, P, Q) c v := by
  have hh := hm_lt w c
  obtain ⟨p, h1, h2, h3⟩ := cc_room (k := rg_r 192 K) (v := rg_r 192 V) (m := rg_r 192 M) 0 (by omega) (by rw [hp.length_eq]; exact hl)
  unfold wpX_insertRobin
  dsimp only
  refine hw_home ⟨33, ?_⟩
  exact rb_il (f := (p + 32 - hm_h w c) % 32) hh (Nat.mod_lt _ (by decide)) F 33 0 K V M c v 0 (by omega) (by omega) (by rw [show (hm_h w c + (p + 32 - hm_h w c) % 32) % 32 = p by omega]; exact h3) I ⟨by omega, .inl rfl⟩ fr_r fr_r fr_r (hp.cons _)
/-- the gap, with the distance that stood in it -/
def rb_J (w : Int32) (p0 f s g : Nat) (k m : Nat → Int32) : Prop :=
  g < s ∧ s ≤ f ∧ f < 32 ∧ ¬ m ((p0 + f) % 32) = 1 ∧ ¬ m ((p0 + g) % 32) = 1 ∧ rb_bin m ∧
  (∃ D : Nat, rb_loc (fun p => m p = 1 ∨ p = (p0 + g) % 32) (fun p => if p = (p0 + g) % 32 then D else ds_d w k p)) ∧
  (s = g + 1 ∨ (g + 1 < s ∧ m ((p0 + (g + 1)) % 32) = 1 ∧ ds_d w k ((p0 + (g + 1)) % 32) = 0 ∧ m ((p0 + (s - 1)) % 32) = 1 ∧ ds_d w k ((p0 + (s - 1)) % 32) < s - 1 - g))
theorem rb_end {p0 f s g : Nat} {k m : Nat → Int32} (hp : p0 < 32) (j : rb_J w p0 f s g k m) (h : ¬ m ((p0 + s) % 32) = 1) : rb_inv w k m := by
  obtain ⟨j1, j2, j3, j4, j5, j6, ⟨D, j7⟩, j8⟩ := j
  refine ⟨fun p hp1 a => ?_, j6⟩
  have epg : p ≠ (p0 + g) % 32 := fun e => j5 (e ▸ a)
  have z := j7 p hp1 (.inl a)
  dsimp only at z
  rw [if_neg epg] at z
  rcases z with z | ⟨z1, z2⟩
  · exact .inl z
  · by_cases e : (p + 31) % 32 = (p0 + g) % 32
    · have ep : p = (p0 + (g + 1)) % 32 := by omega
      rcases j8 with q | ⟨_, _, q, _⟩
      · rw [q, ← ep] at h
        exact absurd a h
      · rw [← ep] at q
        exact .inl q
    · rw [if_neg e] at z2
      exact .inr ⟨z1.resolve_right e, z2⟩
theorem rb_stay {p0 f s g : Nat} {k m : Nat → Int32} (hp : p0 < 32) (j : rb_J w p0 f s g k m) (h : m ((p0 + s) % 32) = 1) (hd : ds_d w k ((p0 + s) % 32) < s - g) : rb_J w p0 f (s + 1) g k m := by
  obtain ⟨j1, j2, j3, j4, j5, j6, j7, j8⟩ := j
  have hf : s ≠ f := fun e => j4 (e ▸ h)
  refine ⟨by omega, by omega, j3, j4, j5, j6, j7, .inr ?_⟩
  rw [show s + 1 - 1 = s by omega]
  rcases j8 with q | ⟨_, q1, q2, _⟩
  · refine ⟨by omega, ?_, ?_, h, hd⟩
    · rw [← q]; exact h
    · rw [← q]; omega
  · exact ⟨by omega, q1, q2, h, hd⟩
theorem rb_move {p0 f s g : Nat} {k m : Nat → Int32} (hp : p0 < 32) (j : rb_J w p0 f s g k m) (h : m ((p0 + s) % 32) = 1) (hd : s - g ≤ ds_d w k ((p0 + s) % 32)) : rb_J w p0 f (s + 1) s (upd k ((p0 + g) % 32) (k ((p0 + s) % 32))) (upd (upd m ((p0 + g) % 32) 1) ((p0 + s) % 32) 0) := by
  obtain ⟨j1, j2, j3, j4, j5, j6, ⟨D, j7⟩, j8⟩ := j
  have hf : s ≠ f := fun e => j4 (e ▸ h)
  have hq : (p0 + s) % 32 < 32 := Nat.mod_lt _ (by decide)
  have hg : (p0 + g) % 32 < 32 := Nat.mod_lt _ (by decide)
  have hgq : (p0 + g) % 32 ≠ (p0 + s) % 32 := by omega
  have lq := j7 _ hq (.inl h)
  dsimp only at lq
  rw [if_neg (Ne.symm hgq)] at lq
  rcases j8 with es | ⟨q0, _, _, q3, q4⟩
  · have e31 : ((p0 + s) % 32 + 31) % 32 = (p0 + g) % 32 := by omega
    rw [e31, if_pos rfl] at lq
    have lg := j7 _ hg (.inr rfl)
    dsimp only at lg
    have eg1 : ((p0 + g) % 32 + 31) % 32 ≠ (p0 + g) % 32 := by omega
    rw [if_pos rfl, if_neg eg1] at lg
    have dg : ds_d w (upd k ((p0 + g) % 32) (k ((p0 + s) % 32))) ((p0 + g) % 32) = ds_d w k ((p0 + s) % 32) - 1 := by
      have hh := hm_lt w (k ((p0 + s) % 32))
      unfold ds_d at hd ⊢
      rw [pk_us]
      omega
    have dother : ∀ p, p ≠ (p0 + g) % 32 → ds_d w (upd k ((p0 + g) % 32) (k ((p0 + s) % 32))) p = ds_d w k p := by
      intro p e
      unfold ds_d
      rw [pk_un e]
    refine ⟨by omega, by omega, j3, ?_, ?_, ⟨fun i hi => ?_, fun i h1 h2 => ?_⟩, ⟨ds_d w k ((p0 + s) % 32), ?_⟩, .inl rfl⟩
    · rw [pk_un (by omega), pk_un (by omega)]; exact j4
    · rw [pk_us]; decide
    · by_cases e1 : i = (p0 + s) % 32
      · rw [e1, pk_us]; exact .inl rfl
      · rw [pk_un e1]
        by_cases e2 : i = (p0 + g) % 32
        · rw [e2, pk_us]; exact .inr rfl
        · rw [pk_un e2]; exact j6.1 i hi
    · rw [pk_un (by omega), pk_un (by omega)]; exact j6.2 i h1 h2
    · have hH : ∀ p, p < 32 → ((upd (upd m ((p0 + g) % 32) 1) ((p0 + s) % 32) 0 p = 1 ∨ p = (p0 + s) % 32) ↔ (m p = 1 ∨ p = (p0 + g) % 32)) := by
        intro p _
        by_cases e1 : p = (p0 + s) % 32
        · exact ⟨fun _ => .inl (by rw [e1]; exact h), fun _ => .inr e1⟩
        · rw [pk_un e1]
          by_cases e2 : p = (p0 + g) % 32
          · exact ⟨fun _ => .inr e2, fun _ => .inl (by rw [e2, pk_us])⟩
          · rw [pk_un e2]
            exact ⟨fun z => .inl (z.resolve_right e1), fun z => .inl (z.resolve_right e2)⟩
      have key : rb_loc (fun p => m p = 1 ∨ p = (p0 + g) % 32) (fun p => if p = (p0 + g) % 32 then ds_d w k ((p0 + s) % 32) - 1 else ds_d w k p) := by
        intro p hp1 a
        dsimp only
        by_cases e1 : p = (p0 + g) % 32
        · rw [if_pos e1, e1, if_neg eg1]
          rcases lq with z | ⟨_, z⟩
          · omega
          · rcases lg with y | ⟨y1, y2⟩
            · left; omega
            · right; exact ⟨y1, by omega⟩
        · rw [if_neg e1]
          have z := j7 p hp1 a
          dsimp only at z
          rw [if_neg e1] at z
          by_cases e2 : (p + 31) % 32 = (p0 + g) % 32
          · have ep : p = (p0 + s) % 32 := by omega
            rw [e2, if_pos rfl, ep]
            right
            exact ⟨.inr rfl, by omega⟩
          · rw [if_neg e2] at z ⊢
            exact z
      refine rb_cong key hH fun p hp1 => ?_
      by_cases e1 : p = (p0 + s) % 32
      · rw [if_pos e1, if_neg (by omega), e1]
      · rw [if_neg e1]
        by_cases e2 : p = (p0 + g) % 32
        · rw [if_pos e2, e2, dg]
        · rw [if_neg e2, dother p e2]
  · exfalso
    have e31 : ((p0 + s) % 32 + 31) % 32 = (p0 + (s - 1)) % 32 := by omega
    have ne : (p0 + (s - 1)) % 32 ≠ (p0 + g) % 32 := by omega
    rw [e31, if_neg ne] at lq
    omega
theorem rb_take {post : SX → Prop} {p0 : Nat} {ml : List (Int32 × Int32)} (hp : p0 < 64) (hh : rg_r 192 M p0 = 1) (I : rb_inv w (rg_r 192 K) (rg_r 192 M)) (n : ct_nd ml) (hl : ml.length < 25)
    (pm : List.Perm (cc_c (rg_r 192 K) (rg_r 192 V) (rg_r 192 M)) ml)
    (F : kn_k 192 (fun k m _ => rb_inv w k m) (ct_er (rg_r 192 K p0) ml) fh w K V M L P Q post) : wpX_closeGap post (fh, w, K, V, M, L, P, Q) (nI 3) (nI (192 + p0)) := by
  have hp3 : p0 < 32 := by
    rcases Nat.lt_or_ge p0 32 with q | q
    · exact q
    · rw [I.2.2 p0 q hp] at hh; exact absurd hh (by decide)
  have pm1 : List.Perm (cc_c (rg_r 192 K) (rg_r 192 V) (upd (rg_r 192 M) p0 0)) (ct_er (rg_r 192 K p0) ml) := cc_take hp hh (by decide) n pm
  obtain ⟨p1, r1, r2, r3⟩ := cc_room (k := rg_r 192 K) (v := rg_r 192 V) (m := rg_r 192 M) 0 (by omega) (by rw [pm.length_eq]; omega)
  have hne : p1 ≠ p0 := fun e => r3 (e ▸ hh)
  exact gp_close (fh := fh) (w := w) (K := K) (V := V) (M := M) (L := L) (P := P) (Q := Q) (post := post) (e := 3) (p0 := p0) (by decide) hp3
    (fun s g K' V' M' => rb_J w p0 ((p1 + 32 - p0) % 32) s g (rg_r 192 K') (rg_r 192 M') ∧ fr_f 192 K K' ∧ fr_f 192 V V' ∧ fr_f 192 M M' ∧ List.Perm (cc_c (rg_r 192 K') (rg_r 192 V') (rg_r 192 M')) (ct_er (rg_r 192 K p0) ml))
    (fun s g K' V' M' j => ⟨by have := j.1; unfold rb_J at this; omega, j.1.1⟩)
    (fun s g K' V' M' j h => F K' V' M' L j.2.1 j.2.2.1 j.2.2.2.1 fr_r (rb_end hp3 j.1 h) j.2.2.2.2)
    (fun s g K' V' M' j h d => ⟨rb_stay hp3 j.1 h d, j.2⟩)
    (fun s g K' V' M' j h d => by
      have hq : (p0 + s) % 32 < 64 := by omega
      have hg : (p0 + g) % 32 < 64 := by omega
      have j1 := j.1
      obtain ⟨a1, a2, a3, a4, a5, a6⟩ := j1
      refine ⟨?_, fr_u j.2.1 hg, fr_u j.2.2.1 hg, fr_u (fr_u j.2.2.2.1 hg) hq, ?_⟩
      · show rb_J w p0 _ _ _ (rg_r 192 (upd K' (192 + (p0 + g) % 32) (K' (192 + (p0 + s) % 32)))) (rg_r 192 (upd (upd M' (192 + (p0 + g) % 32) 1) (192 + (p0 + s) % 32) 0))
        rw [rg_upd hg, rg_upd hq, rg_upd hg, ← rg_at (b := 192) (a := K') hq]
        exact rb_move hp3 j.1 h d
      · show List.Perm (cc_c (rg_r 192 (upd K' (192 + (p0 + g) % 32) (K' (192 + (p0 + s) % 32)))) (rg_r 192 (upd V' (192 + (p0 + g) % 32) (V' (192 + (p0 + s) % 32)))) (rg_r 192 (upd (upd M' (192 + (p0 + g) % 32) 1) (192 + (p0 + s) % 32) 0))) _
        rw [rg_upd hg, rg_upd hg, rg_upd hq, rg_upd hg, ← rg_at (b := 192) (a := K') hq, ← rg_at (b := 192) (a := V') hq]
        exact gp_con hg hq (by omega) a5 h j.2.2.2.2)
    (by
      refine ⟨?_, fr_r, fr_r, fr_u fr_r hp, ?_⟩
      · show rb_J w p0 _ _ _ _ (rg_r 192 (upd M (192 + p0) 0))
        rw [rg_upd hp]
        refine ⟨by omega, by omega, by omega, ?_, ?_, ⟨fun i hi => ?_, fun i h1 h2 => ?_⟩, ⟨ds_d w (rg_r 192 K) p0, ?_⟩, .inl rfl⟩
        · rw [show (p0 + (p1 + 32 - p0) % 32) % 32 = p1 by omega, pk_un hne]; exact r3
        · rw [show (p0 + 0) % 32 = p0 by omega, pk_us]; decide
        · by_cases e : i = p0
          · rw [e, pk_us]; exact .inl rfl
          · rw [pk_un e]; exact I.2.1 i hi
        · rw [pk_un (by omega)]; exact I.2.2 i h1 h2
        · rw [show (p0 + 0) % 32 = p0 by omega]
          refine rb_cong I.1 (fun p _ => ?_) (fun p _ => ?_)
          · by_cases e : p = p0
            · exact ⟨fun _ => by show rg_r 192 M p = 1; rw [e]; exact hh, fun _ => .inr e⟩
            · show (upd (rg_r 192 M) p0 0 p = 1 ∨ p = p0) ↔ rg_r 192 M p = 1
              rw [pk_un e]
              exact ⟨fun z => z.resolve_right e, fun z => .inl z⟩
          · by_cases e : p = p0
            · rw [if_pos e, e]
            · rw [if_neg e]
      · show List.Perm (cc_c _ _ (rg_r 192 (upd M (192 + p0) 0))) _
        rw [rg_upd hp]; exact pm1)
end
