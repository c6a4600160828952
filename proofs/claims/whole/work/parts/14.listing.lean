/-! listKeys, and what sift and scatter make of it -/
def ar_l (ks vs : Nat → Int32) (n : Nat) : List (Int32 × Int32) := ct_con (fun i => some (ks i, vs i)) n
theorem ar_s (ks vs : Nat → Int32) (n : Nat) : ar_l ks vs (n + 1) = (ks n, vs n) :: ar_l ks vs n := rfl
theorem ar_len (ks vs : Nat → Int32) : ∀ n, (ar_l ks vs n).length = n := by
  intro n
  induction n with
  | zero => rfl
  | succ n ih => rw [ar_s, List.length_cons, ih]
theorem ar_ext {ks vs ks' vs' : Nat → Int32} {n : Nat} (h1 : ∀ i, i < n → ks' i = ks i) (h2 : ∀ i, i < n → vs' i = vs i) : ar_l ks' vs' n = ar_l ks vs n :=
  ct_ext n fun i hi => by rw [h1 i hi, h2 i hi]
theorem ar_mem {ks vs : Nat → Int32} {n : Nat} {p : Int32 × Int32} : p ∈ ar_l ks vs n ↔ ∃ i, i < n ∧ (ks i, vs i) = p := by
  unfold ar_l
  rw [ct_mem]
  exact ⟨fun ⟨i, hi, e⟩ => ⟨i, hi, Option.some.inj e⟩, fun ⟨i, hi, e⟩ => ⟨i, hi, congrArg some e⟩⟩
theorem ct_pre (s : Nat → Option (Int32 × Int32)) : ∀ n m, m ≤ n → ct_nd (ct_con s n) → ct_nd (ct_con s m) := by
  intro n
  induction n with
  | zero => intro m hm h; rw [show m = 0 by omega]; exact h
  | succ n ih =>
    intro m hm h
    by_cases e : m = n + 1
    · rw [e]; exact h
    · refine ih m (by omega) ?_
      have h' : ((((s n).toList ++ ct_con s n)).map Prod.fst).Nodup := h
      rw [List.map_append, List.nodup_append] at h'
      exact h'.2.1
theorem ct_nodup : ∀ {l : List (Int32 × Int32)}, ct_nd l → l.Nodup := by
  intro l
  induction l with
  | nil => intro _; exact List.nodup_nil
  | cons p l ih =>
    intro h
    have h' : (p.1 :: l.map Prod.fst).Nodup := h
    have h2 := List.nodup_cons.mp h'
    exact List.nodup_cons.mpr ⟨fun z => h2.1 (List.mem_map.mpr ⟨p, z, rfl⟩), ih h2.2⟩
/-- a key's rest, as the reference has it -/
def mt_r (m k : Int32) : Int32 := ((k - k / m * m) + m) - ((k - k / m * m) + m) / m * m
theorem mt_add {t m : Int32} (h1 : -2000 < t.toInt) (h2 : t.toInt < 2000) (h3 : 0 ≤ m.toInt) (h4 : m.toInt ≤ 1000) : (t + m).toInt = t.toInt + m.toInt := by
  rw [Int32.toInt_add]
  exact Int.bmod_eq_of_le (by omega) (by omega)
theorem mt_x {m k : Int32} (h1 : 1 ≤ m.toInt) (h2 : m.toInt ≤ 1000) : (0 ≤ k - k / m * m → mt_r m k = k - k / m * m) ∧ (¬ 0 ≤ k - k / m * m → mt_r m k = (k - k / m * m) + m) := by
  have hb := tmod_bounds (a := k.toInt) (M := m.toInt) (by omega)
  have ht := rem_toInt k m
  rw [← ht] at hb
  unfold mt_r
  generalize k - k / m * m = t at *
  have ha : (t + m).toInt = t.toInt + m.toInt := mt_add (by omega) (by omega) (by omega) h2
  have hr := rem_toInt (t + m) m
  have z0 : (0 : Int32).toInt = 0 := by decide
  constructor
  · intro h
    have h0 : 0 ≤ t.toInt := by
      have := Int32.le_iff_toInt_le.mp h
      rw [z0] at this
      exact this
    apply Int32.toInt_inj.mp
    rw [hr, ha, Int.tmod_eq_emod_of_nonneg (by omega), Int.add_emod_right]
    exact Int.emod_eq_of_lt h0 (by omega)
  · intro h
    have h0 : t.toInt < 0 := by
      have : ¬ 0 ≤ t.toInt := fun z => h (Int32.le_iff_toInt_le.mpr (by rw [z0]; exact z))
      omega
    apply Int32.toInt_inj.mp
    rw [hr, ha, Int.tmod_eq_emod_of_nonneg (by omega)]
    exact Int.emod_eq_of_lt (by omega) (by omega)
theorem mt_1 (k : Int32) : mt_r 1 k = 0 := by
  have e1 : (1 : Int32).toInt = 1 := by decide
  have hr := rem_toInt ((k - k / 1 * 1) + 1) 1
  apply Int32.toInt_inj.mp
  show (mt_r 1 k).toInt = _
  unfold mt_r
  rw [hr, e1, Int.tmod_one]
  decide
def mt_f (m r : Int32) (p : Int32 × Int32) : Bool := decide (mt_r m p.1 = r)
section
variable {fh w : Int32} {K V M L P Q : Nat → Int32}
theorem ls_loop {post : Int32 → SX → Prop} {m r : Int32} (h1 : 1 ≤ m.toInt) (h2 : m.toInt ≤ 1000) (hc : (ct_con (ct_sl (rg_r 0 K) (rg_r 0 V) (rg_r 0 M)) 64).length ≤ 24)
    (F : ∀ P' Q' cnt, cnt ≤ 24 → ar_l P' Q' cnt = (ct_con (ct_sl (rg_r 0 K) (rg_r 0 V) (rg_r 0 M)) 32).filter (mt_f m r) → post (nI cnt) (fh, w, K, V, M, L, P', Q')) :
    ∀ n i (P Q : Nat → Int32) cnt, i ≤ 32 → 32 - i < n → ar_l P Q cnt = (ct_con (ct_sl (rg_r 0 K) (rg_r 0 V) (rg_r 0 M)) i).filter (mt_f m r) →
      wX_listKeys_5 post m r fh w n (nI cnt) (nI i) K V M L P Q := by
  intro n
  induction n with
  | zero => intro i P Q cnt _ hn; omega
  | succ n ih =>
    intro i P Q cnt hi hn hcnt
    have len : ∀ j cnt' P' Q', j ≤ 64 → ar_l P' Q' cnt' = (ct_con (ct_sl (rg_r 0 K) (rg_r 0 V) (rg_r 0 M)) j).filter (mt_f m r) → cnt' ≤ 24 := by
      intro j cnt' P' Q' hj e
      have e1 := ar_len P' Q' cnt'
      rw [e] at e1
      have e2 : ((ct_con (ct_sl (rg_r 0 K) (rg_r 0 V) (rg_r 0 M)) j).filter (mt_f m r)).length ≤ (ct_con (ct_sl (rg_r 0 K) (rg_r 0 V) (rg_r 0 M)) j).length := List.length_filter_le _ _
      have e3 := ct_lenM (ct_sl (rg_r 0 K) (rg_r 0 V) (rg_r 0 M)) j 64 hj
      omega
    refine pk_le 32 i (fun h5 => ?_) (fun h5 => ?_)
    · have e : i = 32 := by omega
      subst e
      exact F P Q cnt (len 32 cnt P Q (by omega) hcnt) hcnt
    · have hi6 : i < 64 := by omega
      have eK : rg_r 0 K i = K i := by rw [rg_at hi6, Nat.zero_add]
      have eV : rg_r 0 V i = V i := by rw [rg_at hi6, Nat.zero_add]
      have eM : rg_r 0 M i = M i := by rw [rg_at hi6, Nat.zero_add]
      have m0 : ¬ m = 0 := fun z => by rw [z] at h1; exact absurd h1 (by decide)
      have hin : vp_in (nI i) 512 := vp_in_nI (by omega) (by decide)
      refine ⟨hin, m0, ?_⟩
      rw [nI_clamp (by omega)]
      -- the common end
      have tail : wX_listKeys_34 post (wX_listKeys_5 post m r fh w n) m r (nI cnt) (nI i) (mt_r m (K i)) fh w K V M L P Q := by
        refine ⟨hin, ?_⟩
        rw [nI_clamp (by omega)]
        refine br_c (fun a => br_c (fun b => ?_) (fun b => nm_r (nI_1 _) ?_)) (fun a => nm_r (nI_1 _) ?_)
        · have hs : ct_con (ct_sl (rg_r 0 K) (rg_r 0 V) (rg_r 0 M)) (i + 1) = (K i, V i) :: ct_con (ct_sl (rg_r 0 K) (rg_r 0 V) (rg_r 0 M)) i := by
            show (ct_sl (rg_r 0 K) (rg_r 0 V) (rg_r 0 M) i).toList ++ _ = _
            rw [ct_sl1 (by rw [eM]; exact a), eK, eV]
            rfl
          have hf : (ct_con (ct_sl (rg_r 0 K) (rg_r 0 V) (rg_r 0 M)) (i + 1)).filter (mt_f m r) = (K i, V i) :: (ct_con (ct_sl (rg_r 0 K) (rg_r 0 V) (rg_r 0 M)) i).filter (mt_f m r) := by
            rw [hs, List.filter_cons_of_pos]
            unfold mt_f
            simp [b]
          have new : ar_l (upd P cnt (K i)) (upd Q cnt (V i)) (cnt + 1) = (ct_con (ct_sl (rg_r 0 K) (rg_r 0 V) (rg_r 0 M)) (i + 1)).filter (mt_f m r) := by
            rw [ar_s, pk_us, pk_us, hf, ← hcnt]
            exact congrArg _ (ar_ext (fun j hj => pk_un (by omega)) (fun j hj => pk_un (by omega)))
          have hl := len (i + 1) (cnt + 1) _ _ (by omega) new
          refine pk_le 24 cnt (fun h => absurd h (by omega)) (fun h => ?_)
          have hin2 : vp_in (nI cnt) 24 := vp_in_nI (by omega) (by decide)
          refine ⟨hin, hin2, nm_r (e' := upd P cnt (K i)) (by rw [nI_clamp (by omega)]) ⟨hin, hin2, nm_r (e' := upd Q cnt (V i)) (by rw [nI_clamp (by omega)]) (nm_r (nI_1 _) (nm_r (nI_1 _) ?_))⟩⟩
          exact ih (i + 1) _ _ (cnt + 1) (by omega) (by omega) new
        · refine ih (i + 1) P Q cnt (by omega) (by omega) ?_
          show _ = ((ct_sl (rg_r 0 K) (rg_r 0 V) (rg_r 0 M) i).toList ++ _).filter (mt_f m r)
          rw [ct_sl1 (by rw [eM]; exact a), eK, eV, hcnt]
          show _ = ((K i, V i) :: _).filter (mt_f m r)
          have hneg : ¬ mt_f m r (K i, V i) = true := by
            unfold mt_f
            simp [b]
          rw [List.filter_cons_of_neg hneg]
          rfl
        · refine ih (i + 1) P Q cnt (by omega) (by omega) ?_
          show _ = ((ct_sl (rg_r 0 K) (rg_r 0 V) (rg_r 0 M) i).toList ++ _).filter (mt_f m r)
          rw [ct_sl0 (by rw [eM]; exact a), hcnt]
          rfl
      refine nm_e (br_c (fun h => ?_) (fun h => nm_e ?_))
      · rw [← (mt_x h1 h2).1 h]; exact tail
      · rw [← (mt_x h1 h2).2 h]; exact tail
theorem ls_keys {post : Int32 → SX → Prop} {m r : Int32} {ml : List (Int32 × Int32)} (I : st_ok fh w K V M L ml) (h1 : 1 ≤ m.toInt) (h2 : m.toInt ≤ 1000)
    (F : ∀ P' Q' cnt, cnt ≤ 24 → List.Perm (ar_l P' Q' cnt) (ml.filter (mt_f m r)) → post (nI cnt) (fh, w, K, V, M, L, P', Q')) : wpX_listKeys post (fh, w, K, V, M, L, P, Q) m r := by
  have T := I.2.2.2 0 (by decide)
  have hp : List.Perm (ct_con (ct_sl (rg_r 0 K) (rg_r 0 V) (rg_r 0 M)) 64) ml := T.2
  have hz : ∀ i, 32 ≤ i → i < 64 → rg_r 0 M i = 0 := (show pr_inv w 0 (rg_r 0 K) (rg_r 0 M) from T.1).2.1
  have key : ∀ n, n ≤ 32 → ct_con (ct_sl (rg_r 0 K) (rg_r 0 V) (rg_r 0 M)) (32 + n) = ct_con (ct_sl (rg_r 0 K) (rg_r 0 V) (rg_r 0 M)) 32 := by
    intro n
    induction n with
    | zero => intro _; rfl
    | succ n ih =>
      intro hn
      show (ct_sl (rg_r 0 K) (rg_r 0 V) (rg_r 0 M) (32 + n)).toList ++ ct_con _ (32 + n) = _
      rw [ct_sl0 (by rw [hz (32 + n) (by omega) (by omega)]; decide), ih (by omega)]
      rfl
  have e64 := key 32 (by omega)
  refine ⟨33, ls_loop h1 h2 (by rw [hp.length_eq]; exact I.2.2.1) (fun P' Q' cnt hc e => F P' Q' cnt hc ?_) 33 0 P Q 0 (by omega) (by omega) rfl⟩
  rw [e, ← e64]
  exact hp.filter _
/-- sift: the listed keys, taken one by one -/
def sf_er (P : Nat → Int32) (ml : List (Int32 × Int32)) : Nat → List (Int32 × Int32)
  | 0 => ml
  | j + 1 => ct_er (P j) (sf_er P ml j)
theorem sf_mem {ml : List (Int32 × Int32)} {p : Int32 × Int32} : ∀ j, p ∈ sf_er P ml j ↔ p ∈ ml ∧ ∀ i, i < j → P i ≠ p.1 := by
  intro j
  induction j with
  | zero => exact ⟨fun h => ⟨h, fun i hi => by omega⟩, fun h => h.1⟩
  | succ j ih =>
    show p ∈ ct_er (P j) (sf_er P ml j) ↔ _
    rw [ct_erM, ih]
    constructor
    · intro ⟨⟨a, b⟩, c⟩
      refine ⟨a, fun i hi => ?_⟩
      by_cases e : i = j
      · rw [e]; exact Ne.symm c
      · exact b i (by omega)
    · intro ⟨a, b⟩
      exact ⟨⟨a, fun i hi => b i (by omega)⟩, Ne.symm (b j (by omega))⟩
theorem sf_nd {ml : List (Int32 × Int32)} (h : ct_nd ml) : ∀ j, ct_nd (sf_er P ml j) := by
  intro j
  induction j with
  | zero => exact h
  | succ j ih => exact ct_erN ih
theorem sf_end {m r : Int32} {ml : List (Int32 × Int32)} {cnt : Nat} (n : ct_nd ml) (hp : List.Perm (ar_l P Q cnt) (ml.filter (mt_f m r))) : List.Perm (sf_er P ml cnt) (ml.filter (fun p => !mt_f m r p)) := by
  refine (List.perm_ext_iff_of_nodup (ct_nodup (sf_nd n cnt)) (List.Nodup.sublist List.filter_sublist (ct_nodup n))).mpr fun p => ?_
  rw [sf_mem, List.mem_filter]
  constructor
  · intro ⟨a, b⟩
    refine ⟨a, ?_⟩
    by_cases z : mt_f m r p = true
    · have := hp.symm.subset (List.mem_filter.mpr ⟨a, z⟩)
      obtain ⟨i, hi, e⟩ := ar_mem.mp this
      exact absurd (congrArg Prod.fst e) (b i hi)
    · simpa using z
  · intro ⟨a, b⟩
    refine ⟨a, fun i hi e => ?_⟩
    have := hp.subset (ar_mem.mpr ⟨i, hi, rfl⟩)
    have z := (List.mem_filter.mp this).2
    unfold mt_f at z b
    rw [e] at z
    simp [of_decide_eq_true z] at b
theorem sf_loop {post : Int32 → SX → Prop} {ml : List (Int32 × Int32)} {cnt : Nat} (hcnt : cnt ≤ 24)
    (F : ∀ fh' K' V' M' L', st_ok fh' w K' V' M' L' (sf_er P ml cnt) → post (nI cnt) (fh', w, K', V', M', L', P, Q)) :
    ∀ n j (fh : Int32) (K V M L : Nat → Int32), j ≤ cnt → cnt - j < n → st_ok fh w K V M L (sf_er P ml j) → wX_sift_34 post (nI cnt) n (nI j) fh w K V M L P Q := by
  intro n
  induction n with
  | zero => intro j fh K V M L _ hn; omega
  | succ n ih =>
    intro j fh K V M L hj hn I
    refine pk_le cnt j (fun h5 => ?_) (fun h5 => ⟨vp_in_nI (by omega) (by decide), ?_⟩)
    · have e : j = cnt := by omega
      subst e
      exact F _ _ _ _ _ I
    · rw [nI_clamp (by omega)]
      refine ev_take I fun fh' K' V' M' L' I' => ?_
      have W : ∀ r : Int32, (fun (r_16 : Int32) (u : SX) => match u with | (a, b, c, d, e, f, g, h) => ∀ x4_25 : Int32, x4_25 = nI j + 1 → wX_sift_34 post (nI cnt) n x4_25 a b c d e f g h) r (fh', w, K', V', M', L', P, Q) :=
        fun _ => nm_r (nI_1 _) (ih (j + 1) fh' K' V' M' L' (by omega) (by omega) I')
      exact ⟨fun _ => W 1, fun _ => W 0⟩
theorem sf_sift {post : Int32 → SX → Prop} {m r : Int32} {ml : List (Int32 × Int32)} (I : st_ok fh w K V M L ml) (h1 : 1 ≤ m.toInt) (h2 : m.toInt ≤ 1000)
    (F : ∀ fh' K' V' M' L' P' Q', st_ok fh' w K' V' M' L' (ml.filter (fun p => !mt_f m r p)) → post (nI (ml.filter (mt_f m r)).length) (fh', w, K', V', M', L', P', Q')) :
    wpX_listKeys (fun r_5 u => match u with | (a, b, c, d, e, f, g, h) => ∃ n34 : Nat, wX_sift_34 post r_5 n34 0 a b c d e f g h) (fh, w, K, V, M, L, P, Q) m r := by
  refine ls_keys I h1 h2 fun P' Q' cnt hc hp => ⟨cnt + 1, ?_⟩
  refine sf_loop hc (fun fh' K' V' M' L' I' => ?_) (cnt + 1) 0 fh K V M L (by omega) (by omega) I
  have := F fh' K' V' M' L' P' Q' (st_pm (sf_end I.2.1 hp) I')
  rw [← hp.length_eq, ar_len] at this
  exact this
/-- scatter: the listed keys, set one by one -/
theorem sc_loop {post : SX → Prop} {cnt : Nat} (hcnt : cnt ≤ 24) (n : ct_nd (ar_l P Q cnt))
    (F : ∀ fh' K' V' M' L', st_ok fh' w K' V' M' L' (ar_l P Q cnt) → post (fh', w, K', V', M', L', P, Q)) :
    ∀ k j (fh : Int32) (K V M L : Nat → Int32), j ≤ cnt → cnt - j < k → st_ok fh w K V M L (ar_l P Q j) → wX_scatter_18 post (nI cnt) k (nI j) fh w K V M L P Q := by
  intro k
  induction k with
  | zero => intro j fh K V M L _ hn; omega
  | succ k ih =>
    intro j fh K V M L hj hn I
    refine pk_le cnt j (fun h5 => ?_) (fun h5 => ⟨vp_in_nI (by omega) (by decide), vp_in_nI (by omega) (by decide), ?_⟩)
    · have e : j = cnt := by omega
      subst e
      exact F _ _ _ _ _ I
    · rw [nI_clamp (by omega)]
      have nj : ct_nd (ar_l P Q (j + 1)) := ct_pre _ cnt (j + 1) (by omega) n
      have hno : ∀ x, (P j, x) ∉ ar_l P Q j := by
        intro x hx
        have nj' : (P j :: (ar_l P Q j).map Prod.fst).Nodup := nj
        exact (List.nodup_cons.mp nj').1 (List.mem_map.mpr ⟨_, hx, rfl⟩)
      refine ev_set I fun fh' K' V' M' L' hf ht => nm_r (nI_1 _) ?_
      rw [ct_er0 hno] at hf ht
      refine ih (j + 1) fh' K' V' M' L' (by omega) (by omega) ⟨hf, nj, ?_, ht⟩
      rw [ar_len]; omega
end
