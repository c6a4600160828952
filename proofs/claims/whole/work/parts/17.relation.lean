/-! the relation -/
/-- the reference's entries are what all eight tables hold -/
def i_Rel (k : Nat) (u : SX) (v : SY) : Prop :=
  ∃ (fh w : Int32) (K V M L P Q : Nat → Int32) (n : Nat) (ks vs : Nat → Int32), u = (fh, w, K, V, M, L, P, Q) ∧ v = (nI n, ks, vs) ∧ n ≤ 24 ∧ st_ok fh w K V M L (ar_l ks vs n)
theorem i_up {k : Nat} {u : SX} {v : SY} (h : i_Rel k u v) : i_Rel (k + 3) u v := h
theorem i_vc0 : wpX_init (fun u => wpY_init (fun v => i_Rel 0 u v)) :=
  ⟨0, 0, _, _, _, _, _, _, 0, _, _, rfl, rfl, by omega, rfl, List.nodup_nil, by simp [ar_len], fun e he => tb_empty he (fun _ _ => rfl) (fun _ _ => rfl)⟩
section
variable {fh w : Int32} {K V M L P Q : Nat → Int32} {n : Nat} {ks vs : Nat → Int32}
theorem rl_mk {k : Nat} {ml : List (Int32 × Int32)} (hn : n ≤ 24) (hp : List.Perm (ar_l ks vs n) ml) (S : st_ok fh w K V M L ml) : i_Rel k (fh, w, K, V, M, L, P, Q) (nI n, ks, vs) :=
  ⟨fh, w, K, V, M, L, P, Q, n, ks, vs, rfl, rfl, hn, st_pm hp.symm S⟩
theorem rl_set {k : Nat} {c v : Int32} {ml : List (Int32 × Int32)} (hn : n ≤ 24) (hp : List.Perm (ar_l ks vs n) ((c, v) :: ct_er c ml)) (nd : ct_nd ml) (hf : fh = nI ((c, v) :: ct_er c ml).length)
    (ht : ∀ e, e < 8 → tb_t e w K V M L ((c, v) :: ct_er c ml)) : nI n = fh ∧ i_Rel k (fh, w, K, V, M, L, P, Q) (nI n, ks, vs) := by
  refine ⟨?_, rl_mk hn hp ⟨hf, ct_erC nd, ?_, ht⟩⟩
  · rw [hf, ← hp.length_eq, ar_len]
  · rw [← hp.length_eq, ar_len]; exact hn
theorem rm_for {post : Int32 → Prop} {c : Int32} {ml : List (Int32 × Int32)} (S : st_ok fh w K V M L ml) (h1 : (ml.length < 24 ∨ ∃ x, (c, x) ∈ ml) → post 1) (h0 : ml.length = 24 → (∀ x, (c, x) ∉ ml) → post 0) : wpX_hasRoomFor post (fh, w, K, V, M, L, P, Q) c := by
  have hl := S.2.2.1
  unfold wpX_hasRoomFor
  dsimp only
  refine pk_lt ml.length 24 (fun h => h1 (.inl h)) (fun h => ?_) S.1
  exact ev_find (e := 0) (by decide) (S.2.2.2 0 (by decide)) (fun i hi a d hin => br_f (tb_nm (by omega)) (h1 (.inr ⟨_, hin⟩))) (fun hno => br_t rfl (h0 (by omega) hno))
theorem eg_find {post : Int32 → Prop} {x c : Int32} (h : x < 0 ∨ nI 8 ≤ x) (F : post (-1)) : wpX_find post (fh, w, K, V, M, L, P, Q) x c := by
  rcases h with h | h
  · exact br_t h F
  · exact br_f (eg_7 h).2.1 (br_t (eg_7 h).1 F)
theorem eg_or (x : Int32) : (x < 0 ∨ nI 8 ≤ x) ∨ ∃ e, e < 8 ∧ x = nI e := by
  rcases pk_ix x (n := 8) (by decide) with h | h | h
  · exact .inl (.inl h)
  · exact .inl (.inr h)
  · exact .inr h
theorem ls_32 {ml : List (Int32 × Int32)} (I : st_ok fh w K V M L ml) : List.Perm (ct_con (ct_sl (rg_r 0 K) (rg_r 0 V) (rg_r 0 M)) 32) ml := by
  have T := I.2.2.2 0 (by decide)
  have hp : List.Perm (ct_con (ct_sl (rg_r 0 K) (rg_r 0 V) (rg_r 0 M)) 64) ml := T.2
  have hz : ∀ i, 32 ≤ i → i < 64 → rg_r 0 M i = 0 := (show pr_inv w 0 (rg_r 0 K) (rg_r 0 M) from T.1).2.1
  have key : ∀ n, n ≤ 32 → ct_con (ct_sl (rg_r 0 K) (rg_r 0 V) (rg_r 0 M)) (32 + n) = ct_con (ct_sl (rg_r 0 K) (rg_r 0 V) (rg_r 0 M)) 32 := by
    intro n
    induction n with
    | zero => intro _; rfl
    | succ n ih =>
      intro hn
      show (ct_sl (rg_r 0 K) (rg_r 0 V) (rg_r 0 M) (32 + n)).toList ++ ct_con _ (32 + n) = _
      rw [ct_sl0 (by rw [hz (32 + n) (by omega) (by omega)]; decide), ih (by omega)]
      rfl
  have e64 := key 32 (by omega)
  rw [← e64]
  exact hp
theorem ft_len (f : Int32 × Int32 → Bool) : ∀ l : List (Int32 × Int32), (l.filter f).length + (l.filter (fun p => !f p)).length = l.length := by
  intro l
  induction l with
  | nil => rfl
  | cons p l ih =>
    by_cases h : f p = true
    · rw [List.filter_cons_of_pos h, List.filter_cons_of_neg (p := fun p => !f p) (by simp [h]), List.length_cons, List.length_cons]
      omega
    · rw [List.filter_cons_of_neg h, List.filter_cons_of_pos (p := fun p => !f p) (by simpa using h), List.length_cons, List.length_cons]
      omega
theorem ft_all : ∀ l : List (Int32 × Int32), l.filter (mt_f 1 0) = l ∧ l.filter (fun p => !mt_f 1 0 p) = [] := by
  intro l
  have h : ∀ p, mt_f 1 0 p = true := fun p => by unfold mt_f; simp [mt_1]
  refine ⟨List.filter_eq_self.mpr fun p _ => h p, ?_⟩
  refine List.filter_eq_nil_iff.mpr fun p _ => ?_
  simp [h p]
theorem rl_1 {x : Int32} (h : ¬ x < 1) : 1 ≤ x.toInt := by
  rw [Int32.lt_iff_toInt_lt, show (1 : Int32).toInt = 1 by decide] at h
  omega
theorem rl_1000 {x : Int32} (h : ¬ 1000 < x) : x.toInt ≤ 1000 := by
  rw [Int32.lt_iff_toInt_lt, show (1000 : Int32).toInt = 1000 by decide] at h
  omega
end
