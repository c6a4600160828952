/-! all tables at once -/
theorem ev_len {c x : Int32} {ml : List (Int32 × Int32)} (n : ct_nd ml) (h : (c, x) ∈ ml) : (ct_er c ml).length + 1 = ml.length := by
  have := (ct_er2 n h).length_eq
  rw [List.length_cons] at this
  exact this.symm
/-- a state that stands for ml -/
def st_ok (fh w : Int32) (K V M L : Nat → Int32) (ml : List (Int32 × Int32)) : Prop := fh = nI ml.length ∧ ct_nd ml ∧ ml.length ≤ 24 ∧ ∀ e, e < 8 → tb_t e w K V M L ml
theorem st_pm {fh w : Int32} {K V M L : Nat → Int32} {ml ml' : List (Int32 × Int32)} (p : List.Perm ml ml') (h : st_ok fh w K V M L ml) : st_ok fh w K V M L ml' :=
  ⟨by rw [← p.length_eq]; exact h.1, ct_ndP p h.2.1, by rw [← p.length_eq]; exact h.2.2.1, fun e he => tb_pm p (h.2.2.2 e he)⟩
section
variable {fh w : Int32} {K V M L P Q : Nat → Int32}
/-- a search in one table, told by the content -/
theorem ev_find {post : Int32 → Prop} {c : Int32} {e : Nat} {ml : List (Int32 × Int32)} (he : e < 8) (I : tb_t e w K V M L ml)
    (h1 : ∀ i, i < 64 → rg_r (64 * e) M i = 1 → rg_r (64 * e) K i = c → (c, rg_r (64 * e) V i) ∈ ml → post (nI (64 * e + i))) (h0 : (∀ x, (c, x) ∉ ml) → post (-1)) : wpX_find post (fh, w, K, V, M, L, P, Q) (nI e) c := by
  refine tb_find he I ⟨fun i hi a d => h1 i hi a d ?_, fun hn => h0 fun x hx => ?_⟩
  · have := I.2.subset (cc_in (k := rg_r (64 * e) K) (v := rg_r (64 * e) V) hi a)
    rw [d] at this
    exact this
  · obtain ⟨i, hi, a, d, _⟩ := cc_of (I.2.symm.subset hx)
    exact hn i hi a d
theorem ev_setL {post : SX → Prop} {c v x3 fh' : Int32} {ml : List (Int32 × Int32)} (n : ct_nd ml) (hl : ml.length ≤ 24) (hx : (x3 = 0 ∧ fh' = fh) ∨ (¬ x3 = 0 ∧ fh' = fh + 1))
    (F : ∀ K' V' M' L', (∀ e, e < 8 → tb_t e w K' V' M' L' ((c, v) :: ct_er c ml)) → post (fh', w, K', V', M', L', P, Q)) :
    ∀ k j (K V M L : Nat → Int32), j ≤ 8 → 8 - j < k → (∀ e, e < j → tb_t e w K V M L ((c, v) :: ct_er c ml)) → (∀ e, j ≤ e → e < 8 → tb_t e w K V M L ml) →
      wX_setEverywhere_19 post c v x3 k (nI j) fh w K V M L P Q := by
  intro k
  induction k with
  | zero => intro j K V M L _ hk; omega
  | succ k ih =>
    intro j K V M L hj hk hd ht
    refine pk_le 8 j (fun h5 => ?_) (fun h5 => ?_)
    · have G := F K V M L (fun e he => hd e (by omega))
      rcases hx with ⟨x0, f0⟩ | ⟨x0, f0⟩
      · rw [f0] at G; exact br_t x0 G
      · rw [f0] at G; exact br_f x0 (nm_e G)
    · have hj8 : j < 8 := by omega
      have I := ht j (by omega) hj8
      refine ev_find hj8 I (fun i hi a d hin => br_f (tb_nm (by omega)) ?_) (fun hno => br_t rfl ?_)
      · refine ⟨vp_in_nI (by omega) (by decide), nm_r (e' := upd V (64 * j + i) v) (by rw [nI_clamp (by omega)]) (nm_r (nI_1 _) ?_)⟩
        refine ih (j + 1) _ _ _ _ (by omega) (by omega) (fun e he => ?_) (fun e he1 he2 => tb_fr (e := j) (by omega) fr_r (fr_u fr_r hi) fr_r fr_r (ht e (by omega) he2))
        by_cases ej : e = j
        · subst ej
          refine ⟨I.1, ?_⟩
          rw [rg_upd hi]
          have := cc_set (x := v) hi a n I.2
          rw [d] at this
          exact this
        · exact tb_fr (e := j) ej fr_r (fr_u fr_r hi) fr_r fr_r (hd e (by omega))
      · refine tb_insert hj8 I (by omega) fun K' V' M' L' fK fV fM fL I' pm' => nm_r (nI_1 _) ?_
        refine ih (j + 1) _ _ _ _ (by omega) (by omega) (fun e he => ?_) (fun e he1 he2 => tb_fr (e := j) (by omega) fK fV fM fL (ht e (by omega) he2))
        by_cases ej : e = j
        · subst ej
          refine ⟨I', ?_⟩
          rw [ct_er0 hno]
          exact pm'
        · exact tb_fr (e := j) ej fK fV fM fL (hd e (by omega))
theorem ev_set {post : SX → Prop} {c v : Int32} {ml : List (Int32 × Int32)} (I : st_ok fh w K V M L ml)
    (F : ∀ fh' K' V' M' L', fh' = nI ((c, v) :: ct_er c ml).length → (∀ e, e < 8 → tb_t e w K' V' M' L' ((c, v) :: ct_er c ml)) → post (fh', w, K', V', M', L', P, Q)) : wpX_setEverywhere post (fh, w, K, V, M, L, P, Q) c v := by
  obtain ⟨hf, n, hl, ht⟩ := I
  unfold wpX_setEverywhere
  dsimp only
  refine ev_find (e := 0) (by decide) (ht 0 (by decide)) (fun i hi a d hin => br_f (tb_nm (by omega)) ⟨9, ?_⟩) (fun hno => br_t rfl ⟨9, ?_⟩)
  · refine ev_setL (fh' := fh) n hl (.inl ⟨rfl, rfl⟩) (fun K' V' M' L' h => F fh K' V' M' L' ?_ h) 9 0 K V M L (by omega) (by omega) (fun e he => by omega) (fun e _ he => ht e he)
    rw [List.length_cons, ev_len n hin]
    exact hf
  · refine ev_setL (fh' := fh + 1) n hl (.inr ⟨by decide, rfl⟩) (fun K' V' M' L' h => F (fh + 1) K' V' M' L' ?_ h) 9 0 K V M L (by omega) (by omega) (fun e he => by omega) (fun e _ he => ht e he)
    rw [List.length_cons, ct_er0 hno, hf, nI_1]
theorem ev_takeL {post : Int32 → SX → Prop} {c x2 fh' : Int32} {ml : List (Int32 × Int32)} (n : ct_nd ml) (hl : ml.length ≤ 24) (hx : (x2 = 0 ∧ fh' = fh) ∨ (x2 = 1 ∧ fh' = fh - 1))
    (F : ∀ K' V' M' L', (∀ e, e < 8 → tb_t e w K' V' M' L' (ct_er c ml)) → post x2 (fh', w, K', V', M', L', P, Q)) :
    ∀ k j (K V M L : Nat → Int32), j ≤ 8 → 8 - j < k → (∀ e, e < j → tb_t e w K V M L (ct_er c ml)) → (∀ e, j ≤ e → e < 8 → tb_t e w K V M L ml) →
      wX_takeEverywhere_18 post c x2 k (nI j) fh w K V M L P Q := by
  intro k
  induction k with
  | zero => intro j K V M L _ hk; omega
  | succ k ih =>
    intro j K V M L hj hk hd ht
    refine pk_le 8 j (fun h5 => ?_) (fun h5 => ?_)
    · have G := F K V M L (fun e he => hd e (by omega))
      rcases hx with ⟨x0, f0⟩ | ⟨x0, f0⟩
      · subst x0; rw [f0] at G; exact br_t rfl ⟨rfl, G⟩
      · subst x0; rw [f0] at G; exact br_f (by decide) (nm_e ⟨rfl, G⟩)
    · have hj8 : j < 8 := by omega
      have I := ht j (by omega) hj8
      refine ev_find hj8 I (fun i hi a d hin => br_f (tb_nm (by omega)) ?_) (fun hno => br_t rfl (nm_r (nI_1 _) ?_))
      · refine tb_take hj8 I n (by omega) hi a fun K' V' M' L' fK fV fM fL I' pm' => nm_r (nI_1 _) ?_
        refine ih (j + 1) _ _ _ _ (by omega) (by omega) (fun e he => ?_) (fun e he1 he2 => tb_fr (e := j) (by omega) fK fV fM fL (ht e (by omega) he2))
        by_cases ej : e = j
        · subst ej
          rw [d] at pm'
          exact ⟨I', pm'⟩
        · exact tb_fr (e := j) ej fK fV fM fL (hd e (by omega))
      · refine ih (j + 1) _ _ _ _ (by omega) (by omega) (fun e he => ?_) (fun e he1 he2 => ht e (by omega) he2)
        by_cases ej : e = j
        · subst ej
          rw [ct_er0 hno]
          exact I
        · exact hd e (by omega)
theorem ev_take {post : Int32 → SX → Prop} {c : Int32} {ml : List (Int32 × Int32)} (I : st_ok fh w K V M L ml)
    (F : ∀ fh' K' V' M' L', st_ok fh' w K' V' M' L' (ct_er c ml) → ((∃ x, (c, x) ∈ ml) → post 1 (fh', w, K', V', M', L', P, Q)) ∧ ((∀ x, (c, x) ∉ ml) → post 0 (fh', w, K', V', M', L', P, Q))) : wpX_takeEverywhere post (fh, w, K, V, M, L, P, Q) c := by
  obtain ⟨hf, n, hl, ht⟩ := I
  have hle : (ct_er c ml).length ≤ 24 := Nat.le_trans (List.length_filter_le _ _) hl
  unfold wpX_takeEverywhere
  dsimp only
  refine ev_find (e := 0) (by decide) (ht 0 (by decide)) (fun i hi a d hin => br_f (tb_nm (by omega)) ⟨9, ?_⟩) (fun hno => br_t rfl ⟨9, ?_⟩)
  · refine ev_takeL (fh' := fh - 1) n hl (.inr ⟨rfl, rfl⟩) (fun K' V' M' L' h => (F (fh - 1) K' V' M' L' ⟨?_, ct_erN n, hle, h⟩).1 ⟨_, hin⟩) 9 0 K V M L (by omega) (by omega) (fun e he => by omega) (fun e _ he => ht e he)
    rw [hf, ← ev_len n hin, nI_pred]
  · refine ev_takeL (fh' := fh) n hl (.inl ⟨rfl, rfl⟩) (fun K' V' M' L' h => (F fh K' V' M' L' ⟨?_, ct_erN n, hle, h⟩).2 hno) 9 0 K V M L (by omega) (by omega) (fun e he => by omega) (fun e _ he => ht e he)
    rw [ct_er0 hno]; exact hf
theorem ev_wipeL {post : SX → Prop} (F : ∀ M' L' : Nat → Int32, (∀ j, j < 512 → M' j = 0) → (∀ j, j < 512 → L' j = 0) → post (0, w, K, V, M', L', P, Q)) :
    ∀ k j (M L : Nat → Int32), j ≤ 512 → 512 - j < k → (∀ i, i < j → M i = 0) → (∀ i, i < j → L i = 0) → wX_wipe_2 post fh w k (nI j) K V M L P Q := by
  intro k
  induction k with
  | zero => intro j M L _ hk; omega
  | succ k ih =>
    intro j M L hj hk hm hl
    refine pk_le 512 j (fun h5 => F M L (fun i hi => hm i (by omega)) (fun i hi => hl i (by omega))) (fun h5 => ?_)
    have hi : vp_in (nI j) 512 := vp_in_nI (by omega) (by decide)
    refine ⟨hi, nm_r (e' := upd M j 0) (by rw [nI_clamp (by omega), hm_n0]) ⟨hi, nm_r (e' := upd L j 0) (by rw [nI_clamp (by omega)]) (nm_r (nI_1 _) ?_)⟩⟩
    refine ih (j + 1) _ _ (by omega) (by omega) (fun i hi => ?_) (fun i hi => ?_)
    · by_cases e : i = j
      · rw [e, pk_us]
      · rw [pk_un e]; exact hm i (by omega)
    · by_cases e : i = j
      · rw [e, pk_us]
      · rw [pk_un e]; exact hl i (by omega)
theorem ev_wipe {post : SX → Prop} (F : ∀ M' L' : Nat → Int32, (∀ w', st_ok 0 w' K V M' L' []) → post (0, w, K, V, M', L', P, Q)) : wpX_wipe post (fh, w, K, V, M, L, P, Q) :=
  ⟨513, ev_wipeL (fun M' L' hm hl => F M' L' fun w' => ⟨rfl, List.nodup_nil, by simp, fun e he => tb_empty he hm hl⟩) 513 0 M L (by omega) (by omega) (fun i hi => by omega) (fun i hi => by omega)⟩
end
