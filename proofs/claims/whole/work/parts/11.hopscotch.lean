/-! HOPSCOTCH: bits -/
theorem hb_1 : ∀ t, t < 32 → bt 1 t = decide (t = 0) := by decide +kernel
theorem hb_sh {d t : Nat} (hd : d < 32) (ht : t < 32) : bt ((1 : Int32) <<< (nI d &&& 31)) t = decide (t = d) := by
  rw [b_shl d hd 1 ht]
  by_cases h : d ≤ t
  · rw [hb_1 (t - d) (by omega)]
    by_cases e : t = d
    · simp [e]
    · simp [e, h]; omega
  · have : t ≠ d := by omega
    simp [h, this]
theorem hb_or {x : Int32} {d t : Nat} (hd : d < 32) (ht : t < 32) : bt (x ||| ((1 : Int32) <<< (nI d &&& 31))) t = (bt x t || decide (t = d)) := by rw [b_or, hb_sh hd ht]
theorem hb_and {x : Int32} {d t : Nat} (hd : d < 32) (ht : t < 32) : bt (x &&& (((1 : Int32) <<< (nI d &&& 31)) ^^^ (-1))) t = (bt x t && !decide (t = d)) := by
  rw [b_and, b_xor, hb_sh hd ht, b_m1 t ht]
  simp
theorem hb_bit (x : Int32) {a : Nat} (ha : a < 32) : (((x.toUInt32 >>> ((nI a).toUInt32 &&& Int32.toUInt32 31)).toInt32) &&& 1) = if bt x a = true then 1 else 0 := by
  apply b_ext
  intro i hi
  rw [b_and, b_ushr a ha, hb_1 i hi]
  by_cases e : i = 0
  · subst e
    by_cases h : bt x a = true
    · simp [h, hb_1]
    · simp [h, b_0]
  · by_cases h : bt x a = true
    · simp [h, e, hb_1 i hi]
    · simp [h, e, b_0]
def hp_bits (l : Nat → Int32) (q : Nat) : Bool := bt (l (q / 32)) (q % 32)
def hp_inv (w : Int32) (k m l : Nat → Int32) : Prop :=
  (∀ i, i < 64 → m i = 0 ∨ m i = 1) ∧ (∀ i, i < 32 → m i = 1 → ds_d w k i < 8) ∧
  (∀ h d, h < 32 → d < 32 → (bt (l h) d = true ↔ (m ((h + d) % 32) = 1 ∧ hm_h w (k ((h + d) % 32)) = h))) ∧
  nb_n (hp_bits l) 1024 = nb_n (fun i => decide (m i = 1)) 32
theorem hp_near {w : Int32} {k m l : Nat → Int32} {i : Nat} {c : Int32} (I : hp_inv w k m l) (hi : i < 32) (hm : ¬ m i = 1) (hd : (i + 32 - hm_h w c) % 32 < 8) :
    hp_inv w (upd k i c) (upd m i 1) (upd l (hm_h w c) (l (hm_h w c) ||| ((1 : Int32) <<< (nI ((i + 32 - hm_h w c) % 32) &&& 31)))) := by
  have hh := hm_lt w c
  obtain ⟨i1, i2, i3, i4⟩ := I
  generalize ed : (i + 32 - hm_h w c) % 32 = d at *
  refine ⟨fun j hj => ?_, fun j hj a => ?_, fun h' d' h1 h2 => ?_, ?_⟩
  · by_cases e : j = i
    · rw [e, pk_us]; exact .inr rfl
    · rw [pk_un e]; exact i1 j hj
  · by_cases e : j = i
    · unfold ds_d
      rw [e, pk_us, ed]; exact hd
    · rw [pk_un e] at a
      unfold ds_d
      rw [pk_un e]
      exact i2 j hj a
  · by_cases ei : (h' + d') % 32 = i
    · rw [ei, pk_us, pk_us]
      by_cases eh : h' = hm_h w c
      · have : d' = d := by omega
        rw [eh, pk_us, hb_or (by omega) h2, this]
        simp
      · rw [pk_un eh, i3 h' d' h1 h2, ei]
        exact ⟨fun z => absurd z.1 hm, fun z => absurd z.2.symm eh⟩
    · rw [pk_un ei, pk_un ei]
      by_cases eh : h' = hm_h w c
      · have : d' ≠ d := by omega
        rw [eh, pk_us, hb_or (by omega) h2, ← eh, ← i3 h' d' h1 h2]
        simp [this]
      · rw [pk_un eh]
        exact i3 h' d' h1 h2
  · have hM := nb_set (p := fun i => decide (m i = 1)) (q := fun j => decide (upd m i 1 j = 1)) (i := i) (by simp [hm]) (by simp [pk_us]) (fun j hj => by rw [pk_un hj]) 32 hi
    rw [hM, ← i4]
    refine nb_set (i := 32 * hm_h w c + d) ?_ ?_ (fun j hj => ?_) 1024 (by omega)
    · unfold hp_bits
      rw [show (32 * hm_h w c + d) / 32 = hm_h w c by omega, show (32 * hm_h w c + d) % 32 = d by omega]
      have : ¬ bt (l (hm_h w c)) d = true := by
        rw [i3 _ d hh (by omega), show (hm_h w c + d) % 32 = i by omega]
        exact fun z => hm z.1
      simpa using this
    · unfold hp_bits
      rw [show (32 * hm_h w c + d) / 32 = hm_h w c by omega, show (32 * hm_h w c + d) % 32 = d by omega, pk_us, hb_or (by omega) (by omega)]
      simp
    · unfold hp_bits
      by_cases e : j / 32 = hm_h w c
      · have : j % 32 ≠ d := by omega
        rw [e, pk_us, hb_or (by omega) (Nat.mod_lt _ (by decide))]
        simp [this]
      · rw [pk_un e]
theorem hp_take {w : Int32} {k m l : Nat → Int32} {i : Nat} (I : hp_inv w k m l) (hi : i < 32) (hm : m i = 1) :
    hp_inv w k (upd m i 0) (upd l (hm_h w (k i)) (l (hm_h w (k i)) &&& (((1 : Int32) <<< (nI (ds_d w k i) &&& 31)) ^^^ (-1)))) := by
  have hh := hm_lt w (k i)
  obtain ⟨i1, i2, i3, i4⟩ := I
  have ed : (i + 32 - hm_h w (k i)) % 32 = ds_d w k i := rfl
  have hd := ds_lt w k i
  generalize ds_d w k i = d at *
  refine ⟨fun j hj => ?_, fun j hj a => ?_, fun h' d' h1 h2 => ?_, ?_⟩
  · by_cases e : j = i
    · rw [e, pk_us]; exact .inl rfl
    · rw [pk_un e]; exact i1 j hj
  · by_cases e : j = i
    · rw [e, pk_us] at a; exact absurd a (by decide)
    · rw [pk_un e] at a
      exact i2 j hj a
  · by_cases ei : (h' + d') % 32 = i
    · rw [ei, pk_us]
      by_cases eh : h' = hm_h w (k i)
      · have : d' = d := by omega
        rw [eh, pk_us, hb_and (by omega) h2, this]
        simp
      · rw [pk_un eh, i3 h' d' h1 h2, ei]
        exact ⟨fun z => absurd z.2.symm eh, fun z => absurd z.1 (by decide)⟩
    · rw [pk_un ei]
      by_cases eh : h' = hm_h w (k i)
      · have : d' ≠ d := by omega
        rw [eh, pk_us, hb_and (by omega) h2, ← eh, ← i3 h' d' h1 h2]
        simp [this]
      · rw [pk_un eh]
        exact i3 h' d' h1 h2
  · have hM := nb_set (p := fun j => decide (upd m i 0 j = 1)) (q := fun j => decide (m j = 1)) (i := i) (by simp [pk_us]) (by simp [hm]) (fun j hj => by rw [pk_un hj]) 32 hi
    have hL : nb_n (hp_bits l) 1024 = nb_n (hp_bits (upd l (hm_h w (k i)) (l (hm_h w (k i)) &&& (((1 : Int32) <<< (nI d &&& 31)) ^^^ (-1))))) 1024 + 1 := by
      refine nb_set (i := 32 * hm_h w (k i) + d) ?_ ?_ (fun j hj => ?_) 1024 (by omega)
      · unfold hp_bits
        rw [show (32 * hm_h w (k i) + d) / 32 = hm_h w (k i) by omega, show (32 * hm_h w (k i) + d) % 32 = d by omega, pk_us, hb_and (by omega) (by omega)]
        simp
      · unfold hp_bits
        rw [show (32 * hm_h w (k i) + d) / 32 = hm_h w (k i) by omega, show (32 * hm_h w (k i) + d) % 32 = d by omega, i3 _ d hh (by omega), show (hm_h w (k i) + d) % 32 = i by omega]
        exact ⟨hm, rfl⟩
      · unfold hp_bits
        by_cases e : j / 32 = hm_h w (k i)
        · have : j % 32 ≠ d := by omega
          rw [e, pk_us, hb_and (by omega) (Nat.mod_lt _ (by decide))]
          simp [this]
        · rw [pk_un e]
    omega
theorem hp_spare {w : Int32} {k m l : Nat → Int32} {i : Nat} {c x : Int32} (I : hp_inv w k m l) (hi : 32 ≤ i) (hx : x = 0 ∨ x = 1) : hp_inv w (upd k i c) (upd m i x) l ∧ hp_inv w k (upd m i x) l := by
  obtain ⟨i1, i2, i3, i4⟩ := I
  have f1 : ∀ j, j < 32 → upd m i x j = m j := fun j hj => pk_un (by omega)
  have f2 : ∀ j, j < 32 → upd k i c j = k j := fun j hj => pk_un (by omega)
  have b1 : ∀ j, j < 64 → upd m i x j = 0 ∨ upd m i x j = 1 := by
    intro j hj
    by_cases e : j = i
    · rw [e, pk_us]; exact hx
    · rw [pk_un e]; exact i1 j hj
  have b4 : nb_n (hp_bits l) 1024 = nb_n (fun j => decide (upd m i x j = 1)) 32 := by
    rw [i4]
    exact (nb_ext 32 fun j hj => by rw [f1 j hj]).symm
  refine ⟨⟨b1, fun j hj a => ?_, fun h d hh hd => ?_, b4⟩, ⟨b1, fun j hj a => ?_, fun h d hh hd => ?_, b4⟩⟩
  · rw [f1 j hj] at a
    unfold ds_d
    rw [f2 j hj]
    exact i2 j hj a
  · have : (h + d) % 32 < 32 := Nat.mod_lt _ (by decide)
    rw [f1 _ this, f2 _ this]
    exact i3 h d hh hd
  · rw [f1 j hj] at a
    exact i2 j hj a
  · have : (h + d) % 32 < 32 := Nat.mod_lt _ (by decide)
    rw [f1 _ this]
    exact i3 h d hh hd
section
variable {fh w : Int32} {K V M L P Q : Nat → Int32}
theorem hp_fl {post : Int32 → Prop} {c : Int32} (I : hp_inv w (rg_r 448 K) (rg_r 448 M) (rg_r 448 L)) (F : fd_ok 448 K M c post) :
    ∀ n a, a ≤ 8 → 8 - a < n → (∀ d, d < a → ¬ (rg_r 448 M ((hm_h w c + d) % 32) = 1 ∧ rg_r 448 K ((hm_h w c + d) % 32) = c)) →
      wX_findHopscotch_23 post c (nI 448) (nI (hm_h w c)) (rg_r 448 L (hm_h w c)) fh w K V M L P Q n (nI a) := by
  have hh := hm_lt w c
  intro n
  induction n with
  | zero => intro a _ hn; omega
  | succ n ih =>
    intro a ha hn hno
    refine pk_le 8 a (fun h5 => ?_) (fun h5 => ?_)
    · refine hw_spare (e := 7) (by decide) rfl F.1 (fun hs => F.2 fun i hi x d => ?_)
      rcases Nat.lt_or_ge i 32 with q | q
      · have h8 := I.2.1 i q x
        have e : (hm_h w c + ds_d w (rg_r 448 K) i) % 32 = i := by
          unfold ds_d
          rw [d]
          omega
        exact hno (ds_d w (rg_r 448 K) i) (by omega) (by rw [e]; exact ⟨x, d⟩)
      · exact hs i q hi x d
    · refine nm_r (e' := nI (448 + (hm_h w c + a) % 32)) ?_ ?_
      · rw [nI_add, hm_m (by omega), nI_add]
      have hq : (hm_h w c + a) % 32 < 64 := by omega
      rw [hb_bit _ (by omega)]
      have step : ¬ (rg_r 448 M ((hm_h w c + a) % 32) = 1 ∧ rg_r 448 K ((hm_h w c + a) % 32) = c) → wX_findHopscotch_23 post c (nI 448) (nI (hm_h w c)) (rg_r 448 L (hm_h w c)) fh w K V M L P Q n (nI (a + 1)) := by
        intro z
        refine ih (a + 1) (by omega) (by omega) fun d hd => ?_
        by_cases e : d = a
        · rw [e]; exact z
        · exact hno d (by omega)
      by_cases hb : bt (rg_r 448 L (hm_h w c)) a = true
      · rw [if_pos hb]
        exact br_t rfl (hw_holds rfl hq (by decide) (fun x d => br_f (by decide) (F.1 _ hq x d)) (fun z => br_t rfl (nm_r (nI_1 _) (step z))))
      · rw [if_neg hb]
        refine br_f (by decide) (nm_r (nI_1 _) (step fun z => hb ?_))
        rw [I.2.2.1 _ a hh (by omega), z.2]
        exact ⟨z.1, rfl⟩
theorem hp_find {post : Int32 → Prop} {c : Int32} (I : hp_inv w (rg_r 448 K) (rg_r 448 M) (rg_r 448 L)) (F : fd_ok 448 K M c post) : wpX_findHopscotch post (fh, w, K, V, M, L, P, Q) c := by
  have hh := hm_lt w c
  unfold wpX_findHopscotch
  dsimp only
  refine hw_home ?_
  rw [show (448 : Int32) + nI (hm_h w c) = nI (448 + hm_h w c) from nI_add 448 _]
  refine ⟨vp_in_nI (by omega) (by decide), nm_r (e' := rg_r 448 L (hm_h w c)) (by rw [nI_clamp (by omega), rg_at (by omega)]) ⟨9, ?_⟩⟩
  exact hp_fl I F 9 0 (by omega) (by omega) (fun d hd => by omega)
theorem hp_nearW {post : SX → Prop} {c v : Int32} {i : Nat} (hi : i < 32) (h : post (fh, w, upd K (448 + i) c, upd V (448 + i) v, upd M (448 + i) 1, upd L (448 + hm_h w c) (L (448 + hm_h w c) ||| ((1 : Int32) <<< (nI ((i + 32 - hm_h w c) % 32) &&& 31))), P, Q)) : wpX_holdNear post (fh, w, K, V, M, L, P, Q) (nI (448 + i)) c v := by
  have hh := hm_lt w c
  unfold wpX_holdNear
  dsimp only
  refine hw_hold rfl (by omega) (hw_home (nm_r (e' := nI (448 + hm_h w c)) (nI_add 448 _) ⟨vp_in_nI (by omega) (by decide), vp_in_nI (by omega) (by decide), nm_r ?_ h⟩))
  rw [nI_clamp (n := 448 + hm_h w c) (by omega), hm_d (by omega) (by omega), show (448 + i + 512 - (448 + hm_h w c)) % 32 = (i + 32 - hm_h w c) % 32 by omega]
theorem hp_takeW {post : SX → Prop} {i : Nat} (hi : i < 64) (h1 : i < 32 → post (fh, w, K, V, upd M (448 + i) 0, upd L (448 + hm_h w (rg_r 448 K i)) (L (448 + hm_h w (rg_r 448 K i)) &&& (((1 : Int32) <<< (nI (ds_d w (rg_r 448 K) i) &&& 31)) ^^^ (-1))), P, Q))
    (h2 : 32 ≤ i → post (fh, w, K, V, upd M (448 + i) 0, L, P, Q)) : wpX_takeHopscotch post (fh, w, K, V, M, L, P, Q) (nI (448 + i)) := by
  have hh := hm_lt w (rg_r 448 K i)
  unfold wpX_takeHopscotch
  dsimp only
  refine pk_le 480 (448 + i) (fun h5 => ⟨vp_in_nI (by omega) (by decide), nm_r (e' := upd M (448 + i) 0) (by rw [nI_clamp (by omega), hm_n0]) (h2 (by omega))⟩) (fun h5 => ⟨vp_in_nI (by omega) (by decide), ?_⟩)
  rw [nI_clamp (n := 448 + i) (by omega), ← rg_at (b := 448) (a := K) hi]
  refine hw_home (nm_r (e' := nI (448 + hm_h w (rg_r 448 K i))) (nI_add 448 _) ⟨vp_in_nI (by omega) (by decide), vp_in_nI (by omega) (by decide), nm_r ?_ ⟨vp_in_nI (by omega) (by decide), nm_r (e' := upd M (448 + i) 0) (by rw [hm_n0]) (h1 (by omega))⟩⟩)
  rw [nI_clamp (n := 448 + hm_h w (rg_r 448 K i)) (by omega), hm_d (by omega) (by omega), show (448 + i + 512 - (448 + hm_h w (rg_r 448 K i))) % 32 = ds_d w (rg_r 448 K) i by unfold ds_d; omega]
theorem hp_moverL {post : Int32 → Prop} {i : Nat} (hi : i < 32) (h0 : post (-1)) (h : ∀ t, 1 ≤ t → t ≤ 7 → rg_r 448 M ((i + 32 - t) % 32) = 1 → (i + 32 - hm_h w (rg_r 448 K ((i + 32 - t) % 32))) % 32 < 8 → post (nI (448 + (i + 32 - t) % 32))) :
    ∀ n t, t ≤ 7 → t < n → wX_moverTo_7 post (nI (448 + i)) (nI 448) fh w K V M L P Q n (nI t) := by
  intro n
  induction n with
  | zero => intro t _ hn; omega
  | succ n ih =>
    intro t ht hn
    refine pk_le t 0 (fun h5 => h0) (fun h5 => ?_)
    have hq : (i + 32 - t) % 32 < 32 := Nat.mod_lt _ (by decide)
    have hh := hm_lt w (rg_r 448 K ((i + 32 - t) % 32))
    have em : nI t + (-1) = nI (t - 1) := by
      have := pk_m1 (t - 1)
      rw [show t - 1 + 1 = t by omega] at this
      exact this
    refine nm_r (e' := nI (448 + (i + 32 - t) % 32)) ?_ ⟨vp_in_nI (by omega) (by decide), ?_⟩
    · rw [hm_d (by omega) (by omega), nI_add]
      exact congrArg nI (by omega)
    rw [nI_clamp (n := 448 + (i + 32 - t) % 32) (by omega), ← rg_at (b := 448) (a := K) (i := (i + 32 - t) % 32) (by omega), ← rg_at (b := 448) (a := M) (i := (i + 32 - t) % 32) (by omega)]
    refine hw_home (nm_r (e' := nI ((i + 32 - hm_h w (rg_r 448 K ((i + 32 - t) % 32))) % 32)) ?_ ⟨vp_in_nI (by omega) (by decide), ?_⟩)
    · rw [hm_d (by omega) (by omega)]
      exact congrArg nI (by omega)
    refine br_c (fun a => pk_le 8 ((i + 32 - hm_h w (rg_r 448 K ((i + 32 - t) % 32))) % 32) (fun _ => nm_r em (ih (t - 1) (by omega) (by omega))) (fun d => h t (by omega) (by omega) a d)) (fun a => nm_r em (ih (t - 1) (by omega) (by omega)))
theorem hp_l59 {post : SX → Prop} {c v : Int32} {ml : List (Int32 × Int32)} {K0 V0 M0 L0 : Nat → Int32} (hl : ml.length < 32)
    (F : kn_k 448 (fun k m l => hp_inv w k m l) ((c, v) :: ml) fh w K0 V0 M0 L0 P Q post) :
    ∀ n j i (K V M L : Nat → Int32), i < 32 → (i + 32 - hm_h w c) % 32 + j ≤ 31 → 32 - j < n → ¬ rg_r 448 M i = 1 → hp_inv w (rg_r 448 K) (rg_r 448 M) (rg_r 448 L) →
      fr_f 448 K0 K → fr_f 448 V0 V → fr_f 448 M0 M → fr_f 448 L0 L → List.Perm (cc_c (rg_r 448 K) (rg_r 448 V) (rg_r 448 M)) ml →
      wX_insertHopscotch_59 post c v (nI (hm_h w c)) n (nI (448 + i)) (nI j) fh w K V M L P Q := by
  have hh := hm_lt w c
  intro n
  induction n with
  | zero => intro j i K V M L _ _ hn; omega
  | succ n ih =>
    intro j i K V M L hi hd hn hm I fK fV fM fL pm
    have hi6 : i < 64 := by omega
    refine pk_le 32 j (fun h5 => absurd h5 (by omega)) (fun h5 => ?_)
    refine pk_lt ((i + 32 - hm_h w c) % 32) 8 (fun d => ?_) (fun d => ?_) (by rw [hm_d (by omega) (by omega)]; exact congrArg nI (by omega)) rfl
    · have hh6 : hm_h w c < 64 := by omega
      refine hp_nearW hi (F _ _ _ _ (fr_u fK hi6) (fr_u fV hi6) (fr_u fM hi6) (fr_u fL hh6) ?_ ?_)
      · rw [rg_upd hi6, rg_upd hi6, rg_upd hh6, ← rg_at (b := 448) (a := L) hh6]
        exact hp_near I hi hm d
      · rw [rg_upd hi6, rg_upd hi6, rg_upd hi6]
        exact (cc_hold hi6 hm).trans (pm.cons _)
    · unfold wpX_moverTo
      refine ⟨8, hp_moverL hi (br_t rfl ?_) (fun t t1 t2 a e => br_f ?_ ?_) 8 7 (by omega) (by omega)⟩
      · refine hw_room (e := 7) (by decide) rfl (cc_room (k := rg_r 448 K) (v := rg_r 448 V) (m := rg_r 448 M) 32 (by omega) (by rw [pm.length_eq]; exact hl)) (fun z z1 z2 z3 => hw_hold (q := 448 + z) rfl (by omega) ?_)
        refine F _ _ _ _ (fr_u fK z2) (fr_u fV z2) (fr_u fM z2) fL ?_ ?_
        · rw [rg_upd z2, rg_upd z2]
          exact (hp_spare I z1 (.inr rfl)).1
        · rw [rg_upd z2, rg_upd z2, rg_upd z2]
          exact (cc_hold z2 z3).trans (pm.cons _)
      · have hq : (i + 32 - t) % 32 < 32 := Nat.mod_lt _ (by decide)
        intro z
        have : nI (448 + (i + 32 - t) % 32) < 0 := by rw [z]; decide
        exact nI_pos (by omega) this
      · generalize eq : (i + 32 - t) % 32 = q at *
        have hq : q < 32 := by omega
        have hq6 : q < 64 := by omega
        have hk := hm_lt w (rg_r 448 K q)
        have hk6 : hm_h w (rg_r 448 K q) < 64 := by omega
        have ne : i ≠ q := by omega
        refine ⟨vp_in_nI (by omega) (by decide), nm_r (e' := rg_r 448 K q) (by rw [nI_clamp (by omega), rg_at hq6]) ⟨vp_in_nI (by omega) (by decide), nm_r (e' := rg_r 448 V q) (by rw [nI_clamp (by omega), rg_at hq6]) ?_⟩⟩
        refine hp_takeW hq6 (fun _ => ?_) (fun h => by omega)
        refine hp_nearW hi (nm_r (nI_1 _) ?_)
        have I1 := hp_take I hq a
        have I2 := hp_near (c := rg_r 448 K q) I1 hi (by rw [pk_un ne]; exact hm) e
        refine ih (j + 1) q _ _ _ _ hq (by omega) (by omega) ?_ ?_ (fr_u fK hi6) (fr_u fV hi6) (fr_u (fr_u fM hq6) hi6) (fr_u (fr_u fL hk6) hk6) ?_
        · rw [rg_upd hi6, rg_upd hq6, pk_un (Ne.symm ne), pk_us]; decide
        · rw [rg_upd hi6, rg_upd hi6, rg_upd hq6, rg_upd hk6, rg_upd hk6, ← rg_at (b := 448) (a := L) hk6, ← rg_at (b := 448) (a := upd L (448 + hm_h w (rg_r 448 K q)) _) hk6, rg_upd hk6]
          exact I2
        · rw [rg_upd hi6, rg_upd hi6, rg_upd hi6, rg_upd hq6]
          have a1 := cc_free (k := rg_r 448 K) (v := rg_r 448 V) (m := rg_r 448 M) (c := 0) hq6 a (by decide)
          have a2 := cc_hold (k := rg_r 448 K) (v := rg_r 448 V) (m := upd (rg_r 448 M) q 0) (c := rg_r 448 K q) (x := rg_r 448 V q) hi6 (by rw [pk_un ne]; exact hm)
          exact a2.trans (a1.trans pm)
theorem hp_l20 {post : SX → Prop} {c v : Int32} {f : Nat} (hf : f < 32) (hfm : ¬ rg_r 448 M ((hm_h w c + f) % 32) = 1)
    (F : ∀ i, i < 32 → ¬ rg_r 448 M i = 1 → wX_insertHopscotch_59 post c v (nI (hm_h w c)) 33 (nI (448 + i)) 0 fh w K V M L P Q) :
    ∀ n j, j ≤ f → 32 - j < n → wX_insertHopscotch_20 post c v (nI 448) (nI (hm_h w c)) fh w K V M L P Q n (nI (448 + (hm_h w c + j) % 32)) (nI (j + 1)) := by
  have hh := hm_lt w c
  intro n
  induction n with
  | zero => intro j _ hn; omega
  | succ n ih =>
    intro j hj hn
    have hq : (hm_h w c + j) % 32 < 32 := Nat.mod_lt _ (by decide)
    refine pk_le 32 (j + 1) (fun h5 => ?_) (fun h5 => ⟨vp_in_nI (by omega) (by decide), ?_⟩)
    · have e : j = f := by omega
      rw [e]
      exact ⟨33, F _ (Nat.mod_lt _ (by decide)) hfm⟩
    · rw [nI_clamp (n := 448 + (hm_h w c + j) % 32) (by omega), ← rg_at (b := 448) (a := M) (i := (hm_h w c + j) % 32) (by omega)]
      refine br_c (fun a => ?_) (fun a => ⟨33, F _ hq a⟩)
      have e : j ≠ f := fun e => hfm (e ▸ a)
      refine nm_r (e' := nI (448 + (hm_h w c + (j + 1)) % 32)) ?_ (nm_r (nI_1 _) (ih (j + 1) (by omega) (by omega)))
      rw [nI_add, hm_m (by omega), nI_add]
theorem hp_insert {post : SX → Prop} {c v : Int32} {ml : List (Int32 × Int32)} (I : hp_inv w (rg_r 448 K) (rg_r 448 M) (rg_r 448 L)) (hl : ml.length < 32)
    (hp : List.Perm (cc_c (rg_r 448 K) (rg_r 448 V) (rg_r 448 M)) ml)
    (F : kn_k 448 (fun k m l => hp_inv w k m l) ((c, v) :: ml) fh w K V M L P Q post) : wpX_insertHopscotch post (fh, w, K, V, M, L, P, Q) c v := by
  have hh := hm_lt w c
  obtain ⟨f, f1, f2, f3⟩ := cc_room (k := rg_r 448 K) (v := rg_r 448 V) (m := rg_r 448 M) 0 (by omega) (by rw [hp.length_eq]; exact hl)
  unfold wpX_insertHopscotch
  dsimp only
  refine hw_home (nm_r (e' := nI (448 + (hm_h w c + 0) % 32)) ?_ ⟨33, ?_⟩)
  · rw [show (448 : Int32) + nI (hm_h w c) = nI (448 + hm_h w c) from nI_add 448 _]
    exact congrArg nI (by omega)
  · refine hp_l20 (f := (f + 32 - hm_h w c) % 32) (Nat.mod_lt _ (by decide)) ?_ (fun i hi hm => ?_) 33 0 (by omega) (by omega)
    · rw [show (hm_h w c + (f + 32 - hm_h w c) % 32) % 32 = f by omega]; exact f3
    · exact hp_l59 hl F 33 0 i K V M L hi (by have : (i + 32 - hm_h w c) % 32 < 32 := Nat.mod_lt _ (by decide)
                                              omega) (by omega) hm I fr_r fr_r fr_r fr_r hp
theorem hp_takeX {post : SX → Prop} {x : Nat} {ml : List (Int32 × Int32)} (hx : x < 64) (hh : rg_r 448 M x = 1) (I : hp_inv w (rg_r 448 K) (rg_r 448 M) (rg_r 448 L)) (n : ct_nd ml)
    (pm : List.Perm (cc_c (rg_r 448 K) (rg_r 448 V) (rg_r 448 M)) ml)
    (F : kn_k 448 (fun k m l => hp_inv w k m l) (ct_er (rg_r 448 K x) ml) fh w K V M L P Q post) : wpX_takeHopscotch post (fh, w, K, V, M, L, P, Q) (nI (448 + x)) := by
  have hk := hm_lt w (rg_r 448 K x)
  have hk6 : hm_h w (rg_r 448 K x) < 64 := by omega
  have pm1 : List.Perm (cc_c (rg_r 448 K) (rg_r 448 V) (upd (rg_r 448 M) x 0)) (ct_er (rg_r 448 K x) ml) := cc_take hx hh (by decide) n pm
  refine hp_takeW hx (fun h => F _ _ _ _ fr_r fr_r (fr_u fr_r hx) (fr_u fr_r hk6) ?_ ?_) (fun h => F _ _ _ _ fr_r fr_r (fr_u fr_r hx) fr_r ?_ ?_)
  · rw [rg_upd hx, rg_upd hk6, ← rg_at (b := 448) (a := L) hk6]
    exact hp_take I h hh
  · rw [rg_upd hx]; exact pm1
  · rw [rg_upd hx]
    exact (hp_spare (c := 0) I h (.inl rfl)).2
  · rw [rg_upd hx]; exact pm1
end
