/-! the small methods -/
/-- how far from its home the key at place p stands -/
def ds_d (w : Int32) (k : Nat → Int32) (p : Nat) : Nat := (p + 32 - hm_h w (k p)) % 32
theorem ds_lt (w : Int32) (k : Nat → Int32) (p : Nat) : ds_d w k p < 32 := Nat.mod_lt _ (by decide)
/-- what a search for c owes -/
def fd_ok (b : Nat) (K M : Nat → Int32) (c : Int32) (post : Int32 → Prop) : Prop :=
  (∀ i, i < 64 → rg_r b M i = 1 → rg_r b K i = c → post (nI (b + i))) ∧ ((∀ i, i < 64 → rg_r b M i = 1 → ¬ rg_r b K i = c) → post (-1))
/-- what a change of one table owes -/
def kn_k (b : Nat) (I : (Nat → Int32) → (Nat → Int32) → (Nat → Int32) → Prop) (ml : List (Int32 × Int32)) (fh w : Int32) (K V M L P Q : Nat → Int32) (post : SX → Prop) : Prop :=
  ∀ K' V' M' L' : Nat → Int32, fr_f b K K' → fr_f b V V' → fr_f b M M' → fr_f b L L' → I (rg_r b K') (rg_r b M') (rg_r b L') →
    List.Perm (cc_c (rg_r b K') (rg_r b V') (rg_r b M')) ml → post (fh, w, K', V', M', L', P, Q)
section
variable {fh w : Int32} {K V M L P Q : Nat → Int32}
theorem hw_home {post : Int32 → Prop} {c : Int32} (h : post (nI (hm_h w c))) : wpX_home post (fh, w, K, V, M, L, P, Q) c := by
  intro x ex y ey
  subst ex
  subst ey
  show post ((hm_b w c).toUInt32 >>> ((27 : Int32).toUInt32 &&& Int32.toUInt32 31)).toInt32
  rw [hm_sh]
  exact h
theorem hw_other {post : Int32 → Prop} {c : Int32} (h : post (nI (om_h w c))) : wpX_otherHome post (fh, w, K, V, M, L, P, Q) c := by
  intro x ex y ey
  subst ex
  subst ey
  show post ((om_b w c).toUInt32 >>> ((27 : Int32).toUInt32 &&& Int32.toUInt32 31)).toInt32
  rw [hm_sh]
  exact h
theorem hw_dist {post : Int32 → Prop} {x : Int32} {b p : Nat} (hx : x = nI (b + p)) (hp : p < 64) (hb : b ≤ 448) (h32 : b % 32 = 0) (h : post (nI (ds_d w (rg_r b K) p))) : wpX_distance post (fh, w, K, V, M, L, P, Q) x := by
  subst hx
  refine ⟨vp_in_nI (by omega) (by decide), hw_home ?_⟩
  have h1 := hm_lt w (K (b + p))
  rw [nI_clamp (by omega), hm_d (by omega) (by omega)]
  unfold ds_d at h
  rw [rg_at hp] at h
  have e : (b + p + 512 - hm_h w (K (b + p))) % 32 = (p + 32 - hm_h w (K (b + p))) % 32 := by omega
  rw [e]
  exact h
theorem hw_holds {post : Int32 → Prop} {x c : Int32} {b p : Nat} (hx : x = nI (b + p)) (hp : p < 64) (hb : b ≤ 448) (h1 : rg_r b M p = 1 → rg_r b K p = c → post 1) (h0 : ¬ (rg_r b M p = 1 ∧ rg_r b K p = c) → post 0) : wpX_holds post (fh, w, K, V, M, L, P, Q) x c := by
  subst hx
  rw [rg_at hp, rg_at hp] at h1 h0
  have hi : vp_in (nI (b + p)) 512 := vp_in_nI (by omega) (by decide)
  refine ⟨hi, ?_⟩
  rw [nI_clamp (by omega)]
  exact br_c (fun a => ⟨hi, br_c (fun d => h1 a d) (fun d => h0 (fun z => d z.2))⟩) (fun a => h0 (fun z => a z.1))
theorem hw_next {post : Int32 → Prop} {x : Int32} {q j : Nat} (hx : x = nI q) (hq : q < 512) (hl : L q = nI j) (hj : j < 512) (h : post (nI j)) : wpX_nextOf post (fh, w, K, V, M, L, P, Q) x := by
  subst hx
  refine ⟨vp_in_nI hq (by decide), nm_r (e' := nI j) (by rw [nI_clamp (by omega)]; exact hl) ?_⟩
  refine pk_le j 0 (fun h0 => ?_) (fun h0 => pk_le 512 j (fun h5 => absurd h5 (by omega)) (fun _ => h))
  have e : j = 0 := by omega
  subst e
  exact h
theorem hw_hold {post : SX → Prop} {x c v : Int32} {q : Nat} (hx : x = nI q) (hq : q < 512) (h : post (fh, w, upd K q c, upd V q v, upd M q 1, L, P, Q)) : wpX_hold post (fh, w, K, V, M, L, P, Q) x c v := by
  subst hx
  have hi : vp_in (nI q) 512 := vp_in_nI hq (by decide)
  refine ⟨hi, nm_r (e' := upd K q c) (by rw [nI_clamp (by omega)]) ⟨hi, nm_r (e' := upd V q v) (by rw [nI_clamp (by omega)]) ⟨hi, nm_r (e' := upd M q 1) (by rw [nI_clamp (by omega), hm_n1]) h⟩⟩⟩
theorem hw_release {post : SX → Prop} {x : Int32} {q : Nat} (hx : x = nI q) (hq : q < 512) (h : post (fh, w, K, V, upd M q 0, upd L q 0, P, Q)) : wpX_release post (fh, w, K, V, M, L, P, Q) x := by
  subst hx
  have hi : vp_in (nI q) 512 := vp_in_nI hq (by decide)
  exact ⟨hi, nm_r (e' := upd M q 0) (by rw [nI_clamp (by omega), hm_n0]) ⟨hi, nm_r (e' := upd L q 0) (by rw [nI_clamp (by omega)]) h⟩⟩
/-- the scan of the spare slots -/
theorem hw_spareL {post : Int32 → Prop} {c : Int32} {b : Nat} (hb : b ≤ 448) (hf : ∀ i, i < 64 → rg_r b M i = 1 → rg_r b K i = c → post (nI (b + i))) (hn : (∀ i, 32 ≤ i → i < 64 → rg_r b M i = 1 → ¬ rg_r b K i = c) → post (-1)) : ∀ n i, 32 ≤ i → i ≤ 64 → 64 - i < n → (∀ j, 32 ≤ j → j < i → rg_r b M j = 1 → ¬ rg_r b K j = c) → wX_findSpare_11 post c (nI b) fh w K V M L P Q n (nI (b + i)) := by
  intro n
  induction n with
  | zero => intro i _ _ h; omega
  | succ n ih =>
    intro i h32 h64 hm hno
    refine pk_le (b + 64) (b + i) (fun h => ?_) (fun h => ?_) (nI_add b 64)
    · exact hn fun j hj1 hj2 => hno j hj1 (by omega)
    · refine hw_holds rfl (by omega) hb (fun a d => br_f (by decide) (hf i (by omega) a d)) (fun z => br_t rfl (nm_r (nI_1 _) ?_))
      refine ih (i + 1) (by omega) (by omega) (by omega) fun j hj1 hj2 => ?_
      by_cases e : j = i
      · rw [e]; exact fun a d => z ⟨a, d⟩
      · exact hno j hj1 (by omega)
theorem hw_spare {post : Int32 → Prop} {c x : Int32} {e : Nat} (he : e < 8) (hx : x = nI e) (hf : ∀ i, i < 64 → rg_r (64 * e) M i = 1 → rg_r (64 * e) K i = c → post (nI (64 * e + i))) (hn : (∀ i, 32 ≤ i → i < 64 → rg_r (64 * e) M i = 1 → ¬ rg_r (64 * e) K i = c) → post (-1)) : wpX_findSpare post (fh, w, K, V, M, L, P, Q) x c := by
  subst hx
  refine nm_r (e' := nI (64 * e)) ((pk_mul e 64).trans (congrArg nI (by omega))) (nm_r (e' := nI (64 * e + 32)) (nI_add _ 32) ⟨33, ?_⟩)
  exact hw_spareL (by omega) hf hn 33 32 (by omega) (by omega) (by omega) (fun j h1 h2 => by omega)
/-- the first spare slot that isn't held -/
theorem hw_roomL {post : Int32 → Prop} {b f : Nat} (hb : b ≤ 448) (hf : f < 32) (h1 : ¬ rg_r b M (32 + f) = 1) (h : ∀ i, 32 ≤ i → i < 64 → ¬ rg_r b M i = 1 → post (nI (b + i))) : ∀ n i, i ≤ f → 32 - i < n → wX_freeSpare_10 post fh w K V M L P Q n (nI (b + (32 + i))) (nI (i + 1)) := by
  intro n
  induction n with
  | zero => intro i _ hm; omega
  | succ n ih =>
    intro i hi hm
    refine pk_le 32 (i + 1) (fun h5 => ?_) (fun h5 => ?_)
    · have e : i = f := by omega
      rw [e]
      exact h _ (by omega) (by omega) h1
    · refine ⟨vp_in_nI (by omega) (by decide), ?_⟩
      rw [nI_clamp (by omega), ← rg_at (b := b) (a := M) (i := 32 + i) (by omega)]
      refine br_c (fun a => nm_r (nI_1 _) (nm_r (nI_1 _) ?_)) (fun a => h _ (by omega) (by omega) a)
      have e : i ≠ f := fun e => h1 (e ▸ a)
      exact ih (i + 1) (by omega) (by omega)
theorem hw_room {post : Int32 → Prop} {x : Int32} {e : Nat} (he : e < 8) (hx : x = nI e) (hr : ∃ i, 32 ≤ i ∧ i < 32 + 32 ∧ ¬ rg_r (64 * e) M i = 1) (h : ∀ i, 32 ≤ i → i < 64 → ¬ rg_r (64 * e) M i = 1 → post (nI (64 * e + i))) : wpX_freeSpare post (fh, w, K, V, M, L, P, Q) x := by
  subst hx
  obtain ⟨f, f1, f2, f3⟩ := hr
  refine nm_r (e' := nI (64 * e + 32)) ?_ ⟨33, ?_⟩
  · rw [show nI e * 64 = nI (64 * e) from (pk_mul e 64).trans (congrArg nI (by omega))]
    exact nI_add _ 32
  · exact hw_roomL (f := f - 32) (by omega) (by omega) (by rw [show 32 + (f - 32) = f by omega]; exact f3) h 33 0 (by omega) (by omega)
end
