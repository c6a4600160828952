/-! all tables -/
def tb_I : Nat → Int32 → (Nat → Int32) → (Nat → Int32) → (Nat → Int32) → Prop
  | 0, w, k, m, _ => pr_inv w 0 k m
  | 1, w, k, m, _ => pr_inv w 1 k m
  | 2, w, k, m, _ => pr_inv w 2 k m
  | 3, w, k, m, _ => rb_inv w k m
  | 4, w, k, m, _ => ck_inv w k m
  | 5, w, k, m, l => cn_inv w k m l
  | 6, w, k, m, l => co_inv w k m l
  | 7, w, k, m, l => hp_inv w k m l
  | _, _, _, _, _ => True
def tb_t (e : Nat) (w : Int32) (K V M L : Nat → Int32) (ml : List (Int32 × Int32)) : Prop :=
  tb_I e w (rg_r (64 * e) K) (rg_r (64 * e) M) (rg_r (64 * e) L) ∧ List.Perm (cc_c (rg_r (64 * e) K) (rg_r (64 * e) V) (rg_r (64 * e) M)) ml
theorem tb_fr {e e' : Nat} {w : Int32} {K V M L K' V' M' L' : Nat → Int32} {ml : List (Int32 × Int32)} (ne : e' ≠ e) (fK : fr_f (64 * e) K K') (fV : fr_f (64 * e) V V') (fM : fr_f (64 * e) M M') (fL : fr_f (64 * e) L L') (h : tb_t e' w K V M L ml) : tb_t e' w K' V' M' L' ml := by
  have d : 64 * e' + 64 ≤ 64 * e ∨ 64 * e + 64 ≤ 64 * e' := by omega
  unfold tb_t
  rw [fr_o fK d, fr_o fV d, fr_o fM d, fr_o fL d]
  exact h
theorem tb_pm {e : Nat} {w : Int32} {K V M L : Nat → Int32} {ml ml' : List (Int32 × Int32)} (p : List.Perm ml ml') (h : tb_t e w K V M L ml) : tb_t e w K V M L ml' := ⟨h.1, h.2.trans p⟩
theorem tb_8 {e : Nat} (he : e < 8) : e = 0 ∨ e = 1 ∨ e = 2 ∨ e = 3 ∨ e = 4 ∨ e = 5 ∨ e = 6 ∨ e = 7 := by omega
theorem tb_zero {e : Nat} (he : e < 8) {w : Int32} {k m l : Nat → Int32} (hm : ∀ i, i < 64 → m i = 0) (hl : ∀ i, i < 64 → l i = 0) : tb_I e w k m l := by
  have h1 : ∀ i, i < 64 → ¬ m i = 1 := fun i hi z => by rw [hm i hi] at z; exact absurd z (by decide)
  have pr : ∀ e, pr_inv w e k m := fun e => ⟨fun i hi a => absurd a (h1 i (by omega)), fun i _ hi => hm i hi, fun _ i hi => .inl (hm i hi)⟩
  have nz : ∀ (p : Nat → Bool) n, (∀ i, i < n → p i = false) → nb_n p n = 0 := by
    intro p n
    induction n with
    | zero => intro _; rfl
    | succ n ih =>
      intro h
      show nb_n p n + _ = 0
      rw [ih fun i hi => h i (by omega), h n (by omega)]
      rfl
  rcases tb_8 he with e | e | e | e | e | e | e | e <;> subst e
  · exact pr 0
  · exact pr 1
  · exact pr 2
  · exact ⟨fun p hp a => absurd a (h1 p (by omega)), fun i hi => .inl (hm i hi), fun i _ hi => hm i hi⟩
  · exact ⟨fun i hi a => absurd a (h1 i (by omega)), fun i hi => .inl (hm i hi)⟩
  · refine ⟨fun i hi => .inl (hm i hi), fun i hi => hm i (by omega), fun i hi _ _ => hl i hi, ⟨fun _ => [], fun h hh => ⟨hl h (by omega), fun x => ⟨fun z => (List.not_mem_nil z).elim, fun z => absurd z.2.2.1 (h1 x z.2.1)⟩⟩⟩, ?_⟩
    rw [nz _ 64 fun i hi => by simp [hl i hi], nz _ 64 fun i hi => by simp [hm i hi]]
  · exact ⟨[], fun i hi => .inl (hm i hi), fun i _ hi => hm i hi, fun i hi _ => hl i hi, fun p hp => (List.not_mem_nil hp).elim, List.nodup_nil, fun x => ⟨fun z => (List.not_mem_nil z).elim, fun z => absurd z.2 (h1 x (by omega))⟩, trivial, List.Pairwise.nil⟩
  · refine ⟨fun i hi => .inl (hm i hi), fun i hi a => absurd a (h1 i (by omega)), fun h d hh hd => ?_, ?_⟩
    · rw [hl h (by omega), b_0]
      have h5 : (h + d) % 32 < 64 := by omega
      exact ⟨fun z => absurd z (by decide), fun z => absurd z.1 (h1 _ h5)⟩
    · rw [nz _ 32 fun i hi => by simp [hm i (by omega)], nz (hp_bits l) 1024 fun q hq => ?_]
      unfold hp_bits
      rw [hl (q / 32) (by omega), b_0]
theorem tb_empty {e : Nat} (he : e < 8) {w : Int32} {K V M L : Nat → Int32} (hm : ∀ j, j < 512 → M j = 0) (hl : ∀ j, j < 512 → L j = 0) : tb_t e w K V M L [] := by
  have h1 : ∀ i, i < 64 → rg_r (64 * e) M i = 0 := fun i hi => by rw [rg_at hi]; exact hm _ (by omega)
  refine ⟨tb_zero he h1 (fun i hi => by rw [rg_at hi]; exact hl _ (by omega)), ?_⟩
  have : cc_c (rg_r (64 * e) K) (rg_r (64 * e) V) (rg_r (64 * e) M) = [] := by
    have n : (cc_c (rg_r (64 * e) K) (rg_r (64 * e) V) (rg_r (64 * e) M)).length = 0 := by
      unfold cc_c
      rw [nb_len, nb_ext (p := fun _ => false) 64 fun i hi => by simp [h1 i hi]]
      rfl
    exact List.eq_nil_of_length_eq_zero n
  rw [this]
theorem tb_nm {q : Nat} (h : q < 2 ^ 31) : ¬ nI q = -1 := by
  intro z
  have : nI q < 0 := by rw [z]; decide
  exact nI_pos h this
section
variable {fh w : Int32} {K V M L P Q : Nat → Int32}
theorem tb_find {post : Int32 → Prop} {c : Int32} {e : Nat} {ml : List (Int32 × Int32)} (he : e < 8) (I : tb_t e w K V M L ml) (F : fd_ok (64 * e) K M c post) : wpX_find post (fh, w, K, V, M, L, P, Q) (nI e) c := by
  rcases tb_8 he with z | z | z | z | z | z | z | z <;> subst z
  · refine br_f (by decide) (br_f (by decide) (br_t (by decide) ?_))
    unfold wX_find_48
    exact pr_find (e := 0) (by decide) I.1 F
  · refine br_f (by decide) (br_f (by decide) (br_f (by decide) (br_t (by decide) ?_)))
    unfold wX_find_48
    exact pr_find (e := 1) (by decide) I.1 F
  · refine br_f (by decide) (br_f (by decide) (br_f (by decide) (br_f (by decide) (br_t (by decide) ?_))))
    unfold wX_find_48
    exact pr_find (e := 2) (by decide) I.1 F
  · refine br_f (by decide) (br_f (by decide) (br_f (by decide) (br_f (by decide) (br_f (by decide) (br_t (by decide) ?_)))))
    exact rb_find I.1 F
  · refine br_f (by decide) (br_f (by decide) (br_f (by decide) (br_f (by decide) (br_f (by decide) (br_f (by decide) (br_t (by decide) ?_))))))
    exact ck_find I.1 F
  · refine br_f (by decide) (br_f (by decide) (br_f (by decide) (br_f (by decide) (br_f (by decide) (br_f (by decide) (br_f (by decide) (br_t (by decide) ?_)))))))
    unfold wX_find_67
    exact cn_find I.1 F
  · refine br_f (by decide) (br_f (by decide) (br_f (by decide) (br_f (by decide) (br_f (by decide) (br_f (by decide) (br_f (by decide) (br_f (by decide) (br_t (by decide) ?_))))))))
    unfold wX_find_67
    exact co_find I.1 F
  · refine br_f (by decide) (br_f (by decide) (br_f (by decide) (br_f (by decide) (br_f (by decide) (br_f (by decide) (br_f (by decide) (br_f (by decide) (br_f (by decide) (br_t (by decide) ?_)))))))))
    exact hp_find I.1 F
theorem tb_insert {post : SX → Prop} {c v : Int32} {e : Nat} {ml : List (Int32 × Int32)} (he : e < 8) (I : tb_t e w K V M L ml) (hl : ml.length < 32) (F : kn_k (64 * e) (tb_I e w) ((c, v) :: ml) fh w K V M L P Q post) : wpX_insert post (fh, w, K, V, M, L, P, Q) (nI e) c v := by
  rcases tb_8 he with z | z | z | z | z | z | z | z <;> subst z
  · refine br_f (by decide) (br_f (by decide) (br_t (by decide) ?_))
    unfold wX_insert_48
    exact pr_insert (e := 0) (by decide) I.1 hl I.2 F
  · refine br_f (by decide) (br_f (by decide) (br_f (by decide) (br_t (by decide) ?_)))
    unfold wX_insert_48
    exact pr_insert (e := 1) (by decide) I.1 hl I.2 F
  · refine br_f (by decide) (br_f (by decide) (br_f (by decide) (br_f (by decide) (br_t (by decide) ?_))))
    unfold wX_insert_48
    exact pr_insert (e := 2) (by decide) I.1 hl I.2 F
  · refine br_f (by decide) (br_f (by decide) (br_f (by decide) (br_f (by decide) (br_f (by decide) (br_t (by decide) ?_)))))
    exact rb_insert I.1 hl I.2 F
  · refine br_f (by decide) (br_f (by decide) (br_f (by decide) (br_f (by decide) (br_f (by decide) (br_f (by decide) (br_t (by decide) ?_))))))
    exact ck_insert I.1 hl I.2 F
  · refine br_f (by decide) (br_f (by decide) (br_f (by decide) (br_f (by decide) (br_f (by decide) (br_f (by decide) (br_f (by decide) (br_t (by decide) ?_)))))))
    exact cn_insert I.1 hl I.2 F
  · refine br_f (by decide) (br_f (by decide) (br_f (by decide) (br_f (by decide) (br_f (by decide) (br_f (by decide) (br_f (by decide) (br_f (by decide) (br_t (by decide) ?_))))))))
    exact co_insert I.1 hl I.2 F
  · refine br_f (by decide) (br_f (by decide) (br_f (by decide) (br_f (by decide) (br_f (by decide) (br_f (by decide) (br_f (by decide) (br_f (by decide) (br_f (by decide) (br_t (by decide) ?_)))))))))
    exact hp_insert I.1 hl I.2 F
theorem tb_take {post : SX → Prop} {e i : Nat} {ml : List (Int32 × Int32)} (he : e < 8) (I : tb_t e w K V M L ml) (n : ct_nd ml) (hl : ml.length < 25) (hi : i < 64) (hh : rg_r (64 * e) M i = 1) (F : kn_k (64 * e) (tb_I e w) (ct_er (rg_r (64 * e) K i) ml) fh w K V M L P Q post) : wpX_takeOut post (fh, w, K, V, M, L, P, Q) (nI e) (nI (64 * e + i)) := by
  have left : ∀ e, (e = 1 ∨ e = 2) → pr_inv w e (rg_r (64 * e) K) (rg_r (64 * e) M) → rg_r (64 * e) M i = 1 → List.Perm (cc_c (rg_r (64 * e) K) (rg_r (64 * e) V) (rg_r (64 * e) M)) ml → kn_k (64 * e) (fun k m _ => pr_inv w e k m) (ct_er (rg_r (64 * e) K i) ml) fh w K V M L P Q post →
      vp_in (nI (64 * e + i)) 512 ∧ ∀ a : Nat → Int32, a = upd M (nI (64 * e + i)).toNatClampNeg (vp_nar .byte 2) → post (fh, w, K, V, a, L, P, Q) := by
    intro e he J hh pm F
    have hi3 : i < 32 := by
      rcases Nat.lt_or_ge i 32 with q | q
      · exact q
      · rw [J.2.1 i q hi] at hh; exact absurd hh (by decide)
    refine ⟨vp_in_nI (by omega) (by decide), nm_r (e' := upd M (64 * e + i) 2) (by rw [nI_clamp (by omega), hm_n2]) ?_⟩
    refine F K V _ L fr_r fr_r (fr_u fr_r hi) fr_r ?_ ?_
    · rw [rg_upd hi]; exact pr_left (by omega) hi3 J
    · rw [rg_upd hi]; exact cc_take hi hh (by decide) n pm
  rcases tb_8 he with z | z | z | z | z | z | z | z <;> subst z
  · refine br_f (by decide) (br_f (by decide) (br_t (by decide) ?_))
    unfold wX_takeOut_48
    have e0 : 64 * 0 + i = i := by omega
    rw [e0]
    exact ln_take hi hh I.1 n hl I.2 F
  · refine br_f (by decide) (br_f (by decide) (br_f (by decide) (br_t (by decide) ?_)))
    exact left 1 (.inl rfl) I.1 hh I.2 F
  · refine br_f (by decide) (br_f (by decide) (br_f (by decide) (br_f (by decide) (br_t (by decide) ?_))))
    exact left 2 (.inr rfl) I.1 hh I.2 F
  · refine br_f (by decide) (br_f (by decide) (br_f (by decide) (br_f (by decide) (br_f (by decide) (br_t (by decide) ?_)))))
    unfold wX_takeOut_48
    exact rb_take hi hh I.1 n hl I.2 F
  · refine br_f (by decide) (br_f (by decide) (br_f (by decide) (br_f (by decide) (br_f (by decide) (br_f (by decide) (br_t (by decide) ?_))))))
    refine ⟨vp_in_nI (by omega) (by decide), nm_r (e' := upd M (256 + i) 0) (by rw [nI_clamp (by omega), hm_n0]) ?_⟩
    refine F K V _ L fr_r fr_r (fr_u fr_r hi) fr_r ?_ ?_
    · show ck_inv w (rg_r 256 K) (rg_r 256 (upd M (256 + i) 0))
      rw [rg_upd hi]; exact ck_take I.1
    · show List.Perm (cc_c (rg_r 256 K) (rg_r 256 V) (rg_r 256 (upd M (256 + i) 0))) _
      rw [rg_upd hi]; exact cc_take hi hh (by decide) n I.2
  · refine br_f (by decide) (br_f (by decide) (br_f (by decide) (br_f (by decide) (br_f (by decide) (br_f (by decide) (br_f (by decide) (br_t (by decide) ?_)))))))
    exact cn_take hi hh I.1 n I.2 F
  · refine br_f (by decide) (br_f (by decide) (br_f (by decide) (br_f (by decide) (br_f (by decide) (br_f (by decide) (br_f (by decide) (br_f (by decide) (br_t (by decide) ?_))))))))
    exact co_take hi hh I.1 n hl I.2 F
  · refine br_f (by decide) (br_f (by decide) (br_f (by decide) (br_f (by decide) (br_f (by decide) (br_f (by decide) (br_f (by decide) (br_f (by decide) (br_f (by decide) (br_t (by decide) ?_)))))))))
    exact hp_takeX hi hh I.1 n I.2 F
end
