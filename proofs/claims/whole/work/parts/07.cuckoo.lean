/-! CUCKOO: two homes for each key, and the spare slots -/
def ck_inv (w : Int32) (k m : Nat → Int32) : Prop := (∀ i, i < 32 → m i = 1 → i = hm_h w (k i) ∨ i = om_h w (k i)) ∧ (∀ i, i < 64 → m i = 0 ∨ m i = 1)
section
variable {fh w : Int32} {K V M L P Q : Nat → Int32}
theorem ck_find {post : Int32 → Prop} {c : Int32} (I : ck_inv w (rg_r 256 K) (rg_r 256 M)) (F : fd_ok 256 K M c post) : wpX_findCuckoo post (fh, w, K, V, M, L, P, Q) c := by
  have hh := hm_lt w c
  have ho := om_lt w c
  unfold wpX_findCuckoo
  dsimp only
  refine hw_home (nm_r (e' := nI (256 + hm_h w c)) (nI_add 256 _) (hw_holds rfl (by omega) (by decide) (fun a d => br_f (by decide) (F.1 _ (by omega) a d)) (fun z1 => br_t rfl (hw_other (nm_r (e' := nI (256 + om_h w c)) (nI_add 256 _) (hw_holds rfl (by omega) (by decide) (fun a d => br_f (by decide) (F.1 _ (by omega) a d)) (fun z2 => br_t rfl ?_)))))))
  refine hw_spare (e := 4) (by decide) rfl F.1 (fun hn => F.2 fun i hi a d => ?_)
  rcases Nat.lt_or_ge i 32 with q | q
  · rcases I.1 i q a with e | e
    · rw [d] at e
      rw [e] at a d
      exact z1 ⟨a, d⟩
    · rw [d] at e
      rw [e] at a d
      exact z2 ⟨a, d⟩
  · exact hn i q hi a d
theorem ck_other {post : Int32 → Prop} {c x : Int32} {p : Nat} (hx : x = nI (256 + p)) (hp : p < 32) (h : ∀ q, q < 32 → q = hm_h w c ∨ q = om_h w c → post (nI (256 + q))) : wpX_otherPlace post (fh, w, K, V, M, L, P, Q) x c := by
  subst hx
  have hh := hm_lt w c
  have ho := om_lt w c
  unfold wpX_otherPlace
  dsimp only
  refine hw_home (nm_r (e' := nI (256 + hm_h w c)) (nI_add 256 _) (pk_eq (256 + p) (256 + hm_h w c) (fun e => hw_other ?_) (fun e => ?_)))
  · rw [show (256 : Int32) + nI (om_h w c) = nI (256 + om_h w c) from nI_add 256 _]
    exact h _ ho (.inr rfl)
  · exact h _ hh (.inl rfl)
theorem ck_il {post : SX → Prop} {ml : List (Int32 × Int32)} {K0 V0 M0 : Nat → Int32} (hl : ml.length < 33)
    (F : kn_k 256 (fun k m _ => ck_inv w k m) ml fh w K0 V0 M0 L P Q post) :
    ∀ n j (K V M : Nat → Int32) ck cv p, j ≤ 32 → 32 - j < n → p < 32 → (p = hm_h w ck ∨ p = om_h w ck) → ck_inv w (rg_r 256 K) (rg_r 256 M) →
      fr_f 256 K0 K → fr_f 256 V0 V → fr_f 256 M0 M → List.Perm ((ck, cv) :: cc_c (rg_r 256 K) (rg_r 256 V) (rg_r 256 M)) ml →
      wX_insertCuckoo_19 post n ck cv (nI (256 + p)) (nI j) fh w K V M L P Q := by
  intro n
  induction n with
  | zero => intro j K V M ck cv p _ hm; omega
  | succ n ih =>
    intro j K V M ck cv p hj hm hp hpc I fK fV fM pm
    have hp6 : p < 64 := by omega
    have hlen := pm.length_eq
    rw [List.length_cons] at hlen
    have hin : ∀ q, q < 64 → (q < 32 → q = hm_h w ck ∨ q = om_h w ck) → ck_inv w (upd (rg_r 256 K) q ck) (upd (rg_r 256 M) q 1) := by
      intro q hq6 hq
      refine ⟨fun i hi a => ?_, fun i hi => ?_⟩
      · by_cases e : i = q
        · rw [e, pk_us]; exact hq (by omega)
        · rw [pk_un e] at a ⊢; exact I.1 i hi a
      · by_cases e : i = q
        · rw [e, pk_us]; exact .inr rfl
        · rw [pk_un e]; exact I.2 i hi
    refine pk_le 32 j (fun h5 => ?_) (fun h5 => ?_)
    · refine hw_room (e := 4) (by decide) rfl (cc_room (k := rg_r 256 K) (v := rg_r 256 V) (m := rg_r 256 M) 32 (by omega) (by omega)) (fun i h1 h2 h3 => hw_hold rfl (by omega) ?_)
      refine F _ _ _ _ (fr_u fK h2) (fr_u fV h2) (fr_u fM h2) fr_r ?_ ?_
      · rw [show 64 * 4 + i = 256 + i from rfl, rg_upd h2, rg_upd h2]
        exact hin i h2 (fun h => by omega)
      · rw [show 64 * 4 + i = 256 + i from rfl, rg_upd h2, rg_upd h2, rg_upd h2]
        exact (cc_hold h2 h3).trans pm
    · refine ⟨vp_in_nI (by omega) (by decide), ?_⟩
      rw [nI_clamp (by omega), ← rg_at (b := 256) (a := M) (i := p) hp6]
      refine br_c (fun a => ⟨vp_in_nI (by omega) (by decide), nm_e ⟨vp_in_nI (by omega) (by decide), nm_e (hw_hold rfl (by omega) (ck_other rfl hp fun q hq hqc => nm_r (nI_1 _) ?_))⟩⟩) (fun a => hw_hold rfl (by omega) ?_)
      · refine ih (j + 1) _ _ _ _ _ q (by omega) (by omega) hq hqc ?_ (fr_u fK hp6) (fr_u fV hp6) (fr_u fM hp6) ?_
        · rw [rg_upd hp6, rg_upd hp6]
          exact hin p hp6 (fun _ => hpc)
        · rw [rg_upd hp6, rg_upd hp6, rg_upd hp6, ← rg_at (b := 256) (a := K) hp6, ← rg_at (b := 256) (a := V) hp6]
          exact (cc_over hp6 a).trans pm
      · refine F _ _ _ _ (fr_u fK hp6) (fr_u fV hp6) (fr_u fM hp6) fr_r ?_ ?_
        · rw [rg_upd hp6, rg_upd hp6]
          exact hin p hp6 (fun _ => hpc)
        · rw [rg_upd hp6, rg_upd hp6, rg_upd hp6]
          exact (cc_hold hp6 a).trans pm
theorem ck_insert {post : SX → Prop} {c v : Int32} {ml : List (Int32 × Int32)} (I : ck_inv w (rg_r 256 K) (rg_r 256 M)) (hl : ml.length < 32)
    (hp : List.Perm (cc_c (rg_r 256 K) (rg_r 256 V) (rg_r 256 M)) ml)
    (F : kn_k 256 (fun k m _ => ck_inv w k m) ((c, v) :: ml) fh w K V M L P Q post) : wpX_insertCuckoo post (fh, w, K, V, M, L, P, Q) c v := by
  unfold wpX_insertCuckoo
  dsimp only
  refine hw_home (nm_r (e' := nI (256 + hm_h w c)) (nI_add 256 _) ⟨33, ?_⟩)
  exact ck_il (by rw [List.length_cons]; omega) F 33 0 K V M c v (hm_h w c) (by omega) (by omega) (hm_lt w c) (.inl rfl) I fr_r fr_r fr_r (hp.cons _)
theorem ck_take {k m : Nat → Int32} {i : Nat} (I : ck_inv w k m) : ck_inv w k (upd m i 0) := by
  refine ⟨fun j hj a => ?_, fun j hj => ?_⟩
  · by_cases e : j = i
    · rw [e, pk_us] at a; exact absurd a (by decide)
    · rw [pk_un e] at a; exact I.1 j hj a
  · by_cases e : j = i
    · rw [e, pk_us]; exact .inl rfl
    · rw [pk_un e]; exact I.2 j hj
end
