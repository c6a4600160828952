/-! lists of links -/
def li_ch (b : Nat) (L : Nat → Int32) : Nat → List Nat → Prop
  | i, [] => L i = 0
  | i, j :: r => L i = nI (b + j) ∧ j < 64 ∧ li_ch b L j r
theorem li_ne {b j : Nat} (hb : 64 ≤ b) (hB : b ≤ 448) (hj : j < 64) : nI (b + j) ≠ 0 := nI_ne0 (by omega) (by omega)
theorem li_inj {b i j : Nat} (hB : b ≤ 448) (hi : i < 64) (hj : j < 64) (h : nI (b + i) = nI (b + j)) : i = j := by
  have := (nI_eq (a := b + i) (b := b + j) (by omega) (by omega)).mp h
  omega
theorem li_det {b : Nat} {L : Nat → Int32} (hb : 64 ≤ b) (hB : b ≤ 448) : ∀ (l l' : List Nat) (i : Nat), li_ch b L i l → li_ch b L i l' → l = l' := by
  intro l
  induction l with
  | nil =>
    intro l' i h h'
    cases l' with
    | nil => rfl
    | cons j r => exact absurd (h'.1.symm.trans h) (li_ne hb hB h'.2.1)
  | cons j r ih =>
    intro l' i h h'
    cases l' with
    | nil => exact absurd (h.1.symm.trans h') (li_ne hb hB h.2.1)
    | cons j' r' =>
      have e : j = j' := li_inj hB h.2.1 h'.2.1 (h.1.symm.trans h'.1)
      subst e
      rw [ih r' j h.2.2 h'.2.2]
theorem li_suf {b : Nat} {L : Nat → Int32} : ∀ (l : List Nat) (i x : Nat), li_ch b L i l → x ∈ i :: l → ∃ pre post, i :: l = pre ++ x :: post ∧ li_ch b L x post := by
  intro l
  induction l with
  | nil =>
    intro i x h hx
    have e : x = i := by simpa using hx
    subst e
    exact ⟨[], [], rfl, h⟩
  | cons j r ih =>
    intro i x h hx
    rcases List.mem_cons.mp hx with e | hx
    · subst e; exact ⟨[], j :: r, rfl, h⟩
    · obtain ⟨pre, post, e, hp⟩ := ih j x h.2.2 hx
      exact ⟨i :: pre, post, by rw [e]; rfl, hp⟩
theorem li_self {b : Nat} {L : Nat → Int32} (hb : 64 ≤ b) (hB : b ≤ 448) {l : List Nat} {i : Nat} (h : li_ch b L i l) : i ∉ l := by
  intro hi
  cases l with
  | nil => exact (List.not_mem_nil hi).elim
  | cons j r =>
    obtain ⟨pre, post, e, hp⟩ := li_suf r j i h.2.2 hi
    have e2 := li_det hb hB post (j :: r) i hp h
    have e3 := congrArg List.length e
    rw [e2] at e3
    simp at e3
    omega
theorem li_nd {b : Nat} {L : Nat → Int32} (hb : 64 ≤ b) (hB : b ≤ 448) : ∀ (l : List Nat) (i : Nat), li_ch b L i l → (i :: l).Nodup := by
  intro l
  induction l with
  | nil => intro i _; simp
  | cons j r ih => intro i h; exact List.nodup_cons.mpr ⟨li_self hb hB h, ih j h.2.2⟩
/-- a list is its links -/
theorem li_cg {b : Nat} {L L' : Nat → Int32} : ∀ (t : List Nat) (s s' : Nat), L' s' = L s → (∀ y, y ∈ t → L' y = L y) → li_ch b L s t → li_ch b L' s' t := by
  intro t
  induction t with
  | nil => intro s s' e _ h; exact e.trans h
  | cons j r ih =>
    intro s s' e f h
    exact ⟨e.trans h.1, h.2.1, ih j j (f j List.mem_cons_self) (fun y hy => f y (List.mem_cons_of_mem _ hy)) h.2.2⟩
def li_nx (b : Nat) : List Nat → Nat
  | [] => 0
  | j :: _ => b + j
theorem li_hd {b : Nat} {L : Nat → Int32} {s : Nat} {l : List Nat} (h : li_ch b L s l) : L s = nI (li_nx b l) ∧ (b ≤ 448 → li_nx b l < 512) := by
  cases l with
  | nil => exact ⟨h, fun _ => by show 0 < 512; decide⟩
  | cons j r => exact ⟨h.1, fun hb => by have := h.2.1; show b + j < 512; omega⟩
def li_last : Nat → List Nat → Nat
  | i, [] => i
  | _, j :: r => li_last j r
theorem li_lastM : ∀ (l : List Nat) (i : Nat), li_last i l ∈ i :: l := by
  intro l
  induction l with
  | nil => intro i; exact List.mem_cons_self
  | cons j r ih => intro i; exact List.mem_cons_of_mem _ (ih j)
theorem li_last0 {b : Nat} {L : Nat → Int32} : ∀ (l : List Nat) (i : Nat), li_ch b L i l → L (li_last i l) = 0 := by
  intro l
  induction l with
  | nil => intro i h; exact h
  | cons j r ih => intro i h; exact ih j h.2.2
theorem li_lt64 {b : Nat} {L : Nat → Int32} : ∀ (l : List Nat) (i : Nat), li_ch b L i l → ∀ x, x ∈ l → x < 64 := by
  intro l
  induction l with
  | nil => intro i _ x hx; exact (List.not_mem_nil hx).elim
  | cons j r ih =>
    intro i h x hx
    rcases List.mem_cons.mp hx with e | hx
    · rw [e]; exact h.2.1
    · exact ih j h.2.2 x hx
/-- z, which has no link, hung behind the last -/
theorem li_app {b : Nat} {L : Nat → Int32} (hb : 64 ≤ b) (hB : b ≤ 448) {z : Nat} (hz : z < 64) : ∀ (l : List Nat) (i : Nat), li_ch b L i l → z ∉ i :: l → L z = 0 → li_ch b (upd L (li_last i l) (nI (b + z))) i (l ++ [z]) := by
  intro l
  induction l with
  | nil =>
    intro i _ hn h0
    refine ⟨pk_us, hz, ?_⟩
    show upd L i (nI (b + z)) z = 0
    rw [pk_un (fun e => hn (by simp [e])), h0]
  | cons j r ih =>
    intro i h hn h0
    have hi : i ∉ j :: r := li_self hb hB h
    refine ⟨?_, h.2.1, ih j h.2.2 (fun hh => hn (List.mem_cons_of_mem _ hh)) h0⟩
    show upd L (li_last j r) (nI (b + z)) i = nI (b + j)
    rw [pk_un (show i ≠ li_last j r from fun e => hi (e ▸ li_lastM r j))]
    exact h.1
/-- cut ahead of x -/
theorem li_cut {b : Nat} {L : Nat → Int32} (hb : 64 ≤ b) (hB : b ≤ 448) {x : Nat} {post : List Nat} : ∀ (pre : List Nat) (i : Nat), li_ch b L i (pre ++ x :: post) → li_ch b (upd L (li_last i pre) 0) i pre ∧ L (li_last i pre) = nI (b + x) ∧ li_ch b L x post := by
  intro pre
  induction pre with
  | nil => intro i h; exact ⟨pk_us, h.1, h.2.2⟩
  | cons j r ih =>
    intro i h
    have h' : L i = nI (b + j) ∧ j < 64 ∧ li_ch b L j (r ++ x :: post) := h
    obtain ⟨a, c, d⟩ := ih j h'.2.2
    refine ⟨⟨?_, h'.2.1, a⟩, c, d⟩
    have hi : i ∉ j :: (r ++ x :: post) := li_self hb hB h
    show upd L (li_last j r) 0 i = nI (b + j)
    rw [pk_un (fun e => hi ?_)]
    · exact h'.1
    · rw [e]
      rcases List.mem_cons.mp (li_lastM r j) with e' | m
      · rw [e']; exact List.mem_cons_self
      · exact List.mem_cons_of_mem _ (List.mem_append_left _ m)
/-- x taken out -/
theorem li_del {b : Nat} {L : Nat → Int32} {x : Nat} {post : List Nat} : ∀ (pre : List Nat) (i : Nat), (i :: (pre ++ x :: post)).Nodup → li_ch b L i (pre ++ x :: post) → li_ch b (upd (upd L (li_last i pre) (L x)) x 0) i (pre ++ post) := by
  intro pre
  induction pre with
  | nil =>
    intro i n h
    have n1 := List.nodup_cons.mp n
    have n2 := List.nodup_cons.mp n1.2
    refine li_cg post x i ?_ (fun y hy => ?_) h.2.2
    · show upd (upd L i (L x)) x 0 i = L x
      rw [pk_un (fun e => n1.1 (by simp [e])), pk_us]
    · show upd (upd L i (L x)) x 0 y = L y
      rw [pk_un (show y ≠ x from fun e => n2.1 (e ▸ hy)), pk_un (show y ≠ i from fun e => n1.1 (e ▸ List.mem_cons_of_mem _ hy))]
  | cons j r ih =>
    intro i n h
    have n1 := List.nodup_cons.mp n
    have h' : L i = nI (b + j) ∧ j < 64 ∧ li_ch b L j (r ++ x :: post) := h
    refine ⟨?_, h'.2.1, ih j n1.2 h'.2.2⟩
    show upd (upd L (li_last j r) (L x)) x 0 i = nI (b + j)
    have m1 : li_last j r ∈ j :: r ++ x :: post := List.mem_append_left _ (li_lastM r j)
    rw [pk_un (show i ≠ x from fun e => n1.1 (e ▸ List.mem_append_right _ List.mem_cons_self)), pk_un (show i ≠ li_last j r from fun e => n1.1 (e ▸ m1))]
    exact h'.1
/-- how many below n -/
def nb_n (p : Nat → Bool) : Nat → Nat
  | 0 => 0
  | n + 1 => nb_n p n + (if p n = true then 1 else 0)
theorem nb_ext {p q : Nat → Bool} : ∀ n, (∀ i, i < n → q i = p i) → nb_n q n = nb_n p n := by
  intro n
  induction n with
  | zero => intro _; rfl
  | succ n ih =>
    intro h
    show nb_n q n + _ = nb_n p n + _
    rw [ih fun i hi => h i (by omega), h n (by omega)]
theorem nb_set {p q : Nat → Bool} {i : Nat} (h0 : p i = false) (h1 : q i = true) (hn : ∀ j, j ≠ i → q j = p j) : ∀ n, i < n → nb_n q n = nb_n p n + 1 := by
  intro n
  induction n with
  | zero => intro h; omega
  | succ n ih =>
    intro h
    show nb_n q n + _ = nb_n p n + _ + 1
    by_cases e : n = i
    · rw [nb_ext (p := p) (q := q) n fun j hj => hn j (by omega), e, h0, h1]
      simp
    · rw [ih (by omega), hn n e]
      omega
theorem nb_len (k v m : Nat → Int32) : ∀ n, (ct_con (ct_sl k v m) n).length = nb_n (fun i => decide (m i = 1)) n := by
  intro n
  induction n with
  | zero => rfl
  | succ n ih =>
    show ((ct_sl k v m n).toList ++ ct_con (ct_sl k v m) n).length = nb_n _ n + _
    rw [List.length_append, ih]
    by_cases e : m n = 1
    · rw [ct_sl1 e]; simp [e]; omega
    · rw [ct_sl0 e]; simp [e]
section
variable {fh w : Int32} {K V M L P Q : Nat → Int32}
theorem li_fl {post : Int32 → Prop} {c : Int32} {b : Nat} (hb : 64 ≤ b) (hB : b ≤ 448) (hf : ∀ i, i < 64 → rg_r b M i = 1 → rg_r b K i = c → post (nI (b + i))) :
    ∀ (l : List Nat) (s n j : Nat), s < 64 → li_ch b (rg_r b L) s l → j + l.length ≤ 32 → l.length < n → ((∀ x, x ∈ s :: l → ¬ (rg_r b M x = 1 ∧ rg_r b K x = c)) → post (-1)) → wX_findLinked_14 post c fh w K V M L P Q n (nI (b + s)) (nI j) := by
  intro l
  induction l with
  | nil =>
    intro s n j hs h hj hn hno
    obtain ⟨n, rfl⟩ : ∃ n', n = n' + 1 := ⟨n - 1, by simp at hn; omega⟩
    have hj' : j ≤ 32 := by simpa using hj
    refine pk_lt 32 j (fun h5 => absurd h5 (by omega)) (fun h5 => hw_holds rfl hs hB (fun a d => br_f (by decide) (hf s hs a d)) (fun z => br_t rfl ?_))
    refine hw_next (q := b + s) (j := 0) rfl (by omega) (by rw [← rg_at (b := b) (a := L) hs]; exact h) (by decide) (br_t rfl (hno fun x hx => ?_))
    have e : x = s := by simpa using hx
    rw [e]; exact z
  | cons y r ih =>
    intro s n j hs h hj hn hno
    rw [List.length_cons] at hj hn
    obtain ⟨n, rfl⟩ : ∃ n', n = n' + 1 := ⟨n - 1, by omega⟩
    refine pk_lt 32 j (fun h5 => absurd h5 (by omega)) (fun h5 => hw_holds rfl hs hB (fun a d => br_f (by decide) (hf s hs a d)) (fun z => br_t rfl ?_))
    have hy := h.2.1
    refine hw_next (q := b + s) (j := b + y) rfl (by omega) (by rw [← rg_at (b := b) (a := L) hs]; exact h.1) (by omega) (br_f (nI_ne0 (by omega) (by omega)) (nm_r (nI_1 _) ?_))
    refine ih y n (j + 1) hy h.2.2 (by omega) (by omega) (fun g => hno fun x hx => ?_)
    rcases List.mem_cons.mp hx with e | hx
    · rw [e]; exact z
    · exact g x hx
theorem li_find {post : Int32 → Prop} {c : Int32} {e : Nat} {l : List Nat} (he : 1 ≤ e) (he8 : e < 8) (hc : li_ch (64 * e) (rg_r (64 * e) L) (hm_h w c) l) (hlen : l.length ≤ 32)
    (hin : ∀ x, x < 64 → rg_r (64 * e) M x = 1 → rg_r (64 * e) K x = c → x ∈ hm_h w c :: l) (F : fd_ok (64 * e) K M c post) : wpX_findLinked post (fh, w, K, V, M, L, P, Q) (nI e) c := by
  have hh := hm_lt w c
  unfold wpX_findLinked
  dsimp only
  refine hw_home (nm_r (e' := nI (64 * e + hm_h w c)) ?_ ⟨33, ?_⟩)
  · rw [show nI e * 64 = nI (64 * e) from (pk_mul e 64).trans (congrArg nI (by omega)), nI_add]
  · refine li_fl (by omega) (by omega) F.1 l (hm_h w c) 33 0 (by omega) hc (by omega) (by omega) (fun g => F.2 fun i hi a d => ?_)
    exact g i (hin i hi a d) ⟨a, d⟩
/-- the slot that links to x -/
theorem li_to {post : Int32 → Prop} {b x : Nat} {po : List Nat} (hb : 64 ≤ b) (hB : b ≤ 448) (hx : x < 64) :
    ∀ (pre : List Nat) (s n j : Nat), s < 64 → li_ch b (rg_r b L) s (pre ++ x :: po) → x ∉ pre → j + pre.length < 32 → pre.length < n → post (nI (b + li_last s pre)) →
      wX_linkingTo_26 post (nI (b + x)) fh w K V M L P Q n (nI (b + s)) (nI (li_nx b (pre ++ x :: po))) (nI j) := by
  intro pre
  induction pre with
  | nil =>
    intro s n j hs h hno hj hn hp
    obtain ⟨n, rfl⟩ : ∃ n', n = n' + 1 := ⟨n - 1, by simp at hn; omega⟩
    have hj' : j < 32 := by simpa using hj
    exact pk_le 32 j (fun h5 => absurd h5 (by omega)) (fun h5 => br_t rfl hp)
  | cons y r ih =>
    intro s n j hs h hno hj hn hp
    rw [List.length_cons] at hj hn
    obtain ⟨n, rfl⟩ : ∃ n', n = n' + 1 := ⟨n - 1, by omega⟩
    have h' : rg_r b L s = nI (b + y) ∧ y < 64 ∧ li_ch b (rg_r b L) y (r ++ x :: po) := h
    have hy := h'.2.1
    have hne : y ≠ x := fun e => hno (e ▸ List.mem_cons_self)
    refine pk_le 32 j (fun h5 => absurd h5 (by omega)) (fun h5 => pk_eq (b + y) (b + x) (fun e => absurd e (by omega)) (fun _ => br_f (nI_ne0 (n := b + y) (by omega) (by omega)) ?_))
    have hd := li_hd h'.2.2
    refine hw_next (q := b + y) (j := li_nx b (r ++ x :: po)) rfl (by omega) (by rw [← rg_at (b := b) (a := L) hy]; exact hd.1) (hd.2 hB) (nm_r (nI_1 _) ?_)
    exact ih y n (j + 1) hy h'.2.2 (fun m => hno (List.mem_cons_of_mem _ m)) (by omega) (by omega) hp
/-- .. or the last, if none does -/
theorem li_none {post : Int32 → Prop} {b x : Nat} (hb : 64 ≤ b) (hB : b ≤ 448) (hx : x < 64) :
    ∀ (l : List Nat) (s n j : Nat), s < 64 → li_ch b (rg_r b L) s l → x ∉ l → j + l.length < 32 → l.length < n → post (nI (b + li_last s l)) →
      wX_linkingTo_26 post (nI (b + x)) fh w K V M L P Q n (nI (b + s)) (nI (li_nx b l)) (nI j) := by
  intro l
  induction l with
  | nil =>
    intro s n j hs h hno hj hn hp
    obtain ⟨n, rfl⟩ : ∃ n', n = n' + 1 := ⟨n - 1, by simp at hn; omega⟩
    have hj' : j < 32 := by simpa using hj
    exact pk_le 32 j (fun h5 => absurd h5 (by omega)) (fun h5 => pk_eq 0 (b + x) (fun e => absurd e (by omega)) (fun _ => br_t rfl hp))
  | cons y r ih =>
    intro s n j hs h hno hj hn hp
    rw [List.length_cons] at hj hn
    obtain ⟨n, rfl⟩ : ∃ n', n = n' + 1 := ⟨n - 1, by omega⟩
    have hy := h.2.1
    have hne : y ≠ x := fun e => hno (e ▸ List.mem_cons_self)
    refine pk_le 32 j (fun h5 => absurd h5 (by omega)) (fun h5 => pk_eq (b + y) (b + x) (fun e => absurd e (by omega)) (fun _ => br_f (nI_ne0 (n := b + y) (by omega) (by omega)) ?_))
    have hd := li_hd h.2.2
    refine hw_next (q := b + y) (j := li_nx b r) rfl (by omega) (by rw [← rg_at (b := b) (a := L) hy]; exact hd.1) (hd.2 hB) (nm_r (nI_1 _) ?_)
    exact ih y n (j + 1) hy h.2.2 (fun m => hno (List.mem_cons_of_mem _ m)) (by omega) (by omega) hp
/-- CHAINED -/
def cn_inv (w : Int32) (k m l : Nat → Int32) : Prop :=
  (∀ i, i < 64 → m i = 0 ∨ m i = 1) ∧ (∀ i, i < 32 → m i = 0) ∧ (∀ i, i < 64 → 32 ≤ i → ¬ m i = 1 → l i = 0) ∧
  (∃ T : Nat → List Nat, ∀ h, h < 32 → li_ch 320 l h (T h) ∧ ∀ x, x ∈ T h ↔ (32 ≤ x ∧ x < 64 ∧ m x = 1 ∧ hm_h w (k x) = h)) ∧
  nb_n (fun i => decide (¬ l i = 0)) 64 = nb_n (fun i => decide (m i = 1)) 64
theorem cn_len {b : Nat} {l : Nat → Int32} {t : List Nat} {h : Nat} (hb : 64 ≤ b) (hB : b ≤ 448) (hc : li_ch b l h t) (hm : ∀ x, x ∈ t → 32 ≤ x) : t.length ≤ 32 := by
  have n := (List.nodup_cons.mp (li_nd hb hB t h hc)).2
  have s : t ⊆ (List.range 32).map (· + 32) := by
    intro x hx
    have h1 := hm x hx
    have h2 := li_lt64 t h hc x hx
    exact List.mem_map.mpr ⟨x - 32, List.mem_range.mpr (by omega), by omega⟩
  have := n.length_le_of_subset s
  simpa using this
theorem cn_find {post : Int32 → Prop} {c : Int32} (I : cn_inv w (rg_r 320 K) (rg_r 320 M) (rg_r 320 L)) (F : fd_ok 320 K M c post) : wpX_findLinked post (fh, w, K, V, M, L, P, Q) (nI 5) c := by
  obtain ⟨i1, i2, i3, ⟨T, i4⟩, i5⟩ := I
  have hh := hm_lt w c
  obtain ⟨c1, c2⟩ := i4 _ hh
  refine li_find (e := 5) (by decide) (by decide) c1 (cn_len (by decide) (by decide) c1 fun x hx => ((c2 x).mp hx).1) (fun x hx a d => List.mem_cons_of_mem _ ((c2 x).mpr ⟨?_, hx, a, ?_⟩)) F
  · rcases Nat.lt_or_ge x 32 with q | q
    · exfalso
      have : rg_r 320 M x = 0 := i2 x q
      have a' : rg_r 320 M x = 1 := a
      rw [this] at a'
      exact absurd a' (by decide)
    · exact q
  · have d' : rg_r 320 K x = c := d
    rw [d']
theorem cn_insert {post : SX → Prop} {c v : Int32} {ml : List (Int32 × Int32)} (I : cn_inv w (rg_r 320 K) (rg_r 320 M) (rg_r 320 L)) (hl : ml.length < 32)
    (hp : List.Perm (cc_c (rg_r 320 K) (rg_r 320 V) (rg_r 320 M)) ml)
    (F : kn_k 320 (fun k m l => cn_inv w k m l) ((c, v) :: ml) fh w K V M L P Q post) : wpX_insertChained post (fh, w, K, V, M, L, P, Q) c v := by
  have hh := hm_lt w c
  obtain ⟨i1, i2, i3, ⟨T, i4⟩, i5⟩ := I
  unfold wpX_insertChained
  dsimp only
  refine hw_home (nm_r (e' := nI (320 + hm_h w c)) (nI_add 320 _) (hw_room (e := 5) (by decide) rfl (cc_room (k := rg_r 320 K) (v := rg_r 320 V) (m := rg_r 320 M) 32 (by omega) (by rw [hp.length_eq]; exact hl)) (fun x h1 h2 h3 => hw_hold (q := 320 + x) rfl (by omega) ?_)))
  have hh6 : hm_h w c < 64 := by omega
  have h3' : ¬ rg_r 320 M x = 1 := h3
  refine ⟨vp_in_nI (by omega) (by decide), vp_in_nI (by omega) (by decide), nm_r (e' := upd L (320 + x) (L (320 + hm_h w c))) ?_ ⟨vp_in_nI (by omega) (by decide), nm_r (e' := upd (upd L (320 + x) (L (320 + hm_h w c))) (320 + hm_h w c) (nI (320 + x))) ?_ ?_⟩⟩
  · rw [nI_clamp (n := 64 * 5 + x) (by omega), nI_clamp (n := 320 + hm_h w c) (by omega)]
  · rw [nI_clamp (n := 320 + hm_h w c) (by omega)]
  refine F _ _ _ _ (fr_u fr_r h2) (fr_u fr_r h2) (fr_u fr_r h2) (fr_u (fr_u fr_r h2) hh6) ?_ ?_
  · rw [rg_upd h2, rg_upd h2, rg_upd hh6, rg_upd h2, ← rg_at (b := 320) (a := L) hh6]
    have lx : rg_r 320 L x = 0 := i3 x h2 h1 h3'
    have hxh : x ≠ hm_h w c := by omega
    have unch : ∀ y, y ≠ x → y ≠ hm_h w c → upd (upd (rg_r 320 L) x (rg_r 320 L (hm_h w c))) (hm_h w c) (nI (320 + x)) y = rg_r 320 L y := fun y e1 e2 => by rw [pk_un e2, pk_un e1]
    have atx : upd (upd (rg_r 320 L) x (rg_r 320 L (hm_h w c))) (hm_h w c) (nI (320 + x)) x = rg_r 320 L (hm_h w c) := by rw [pk_un hxh, pk_us]
    have notin : ∀ h, h < 32 → x ∉ T h := fun h hh' z => h3' (((i4 h hh').2 x).mp z).2.2.1
    refine ⟨fun i hi => ?_, fun i hi => ?_, fun i hi hi2 a => ?_, ⟨fun h => if h = hm_h w c then x :: T h else T h, fun h hh' => ?_⟩, ?_⟩
    · by_cases e : i = x
      · rw [e, pk_us]; exact .inr rfl
      · rw [pk_un e]; exact i1 i hi
    · rw [pk_un (by omega)]; exact i2 i hi
    · have e : i ≠ x := fun e => a (by rw [e, pk_us])
      rw [pk_un e] at a
      rw [unch i e (by omega)]
      exact i3 i hi hi2 a
    · dsimp only
      obtain ⟨c1, c2⟩ := i4 h hh'
      by_cases e : h = hm_h w c
      · rw [if_pos e]
        constructor
        · refine ⟨?_, h2, li_cg (T h) h x ?_ (fun y hy => ?_) c1⟩
          · rw [e, pk_us]
          · rw [atx, e]
          · have := ((c2 y).mp hy).1
            exact unch y (fun e' => notin h hh' (e' ▸ hy)) (by omega)
        · intro y
          rw [List.mem_cons, c2]
          by_cases ey : y = x
          · rw [ey, pk_us, pk_us]
            exact ⟨fun _ => ⟨h1, h2, rfl, e.symm⟩, fun _ => .inl rfl⟩
          · rw [pk_un ey, pk_un ey]
            exact ⟨fun z => z.resolve_left ey, fun z => .inr z⟩
      · rw [if_neg e]
        constructor
        · refine li_cg (T h) h h (unch h (by omega) e) (fun y hy => ?_) c1
          have := ((c2 y).mp hy).1
          exact unch y (fun e' => notin h hh' (e' ▸ hy)) (by omega)
        · intro y
          rw [c2]
          by_cases ey : y = x
          · rw [ey, pk_us, pk_us]
            exact ⟨fun z => absurd z.2.2.1 h3', fun z => absurd z.2.2.2.symm e⟩
          · rw [pk_un ey, pk_un ey]
    · have hM := nb_set (p := fun i => decide (rg_r 320 M i = 1)) (q := fun i => decide (upd (rg_r 320 M) x 1 i = 1)) (i := x) (by simp [h3']) (by simp [pk_us]) (fun j hj => by rw [pk_un hj]) 64 h2
      rw [hM, ← i5]
      have n0 : ¬ nI (320 + x) = 0 := nI_ne0 (by omega) (by omega)
      by_cases z : rg_r 320 L (hm_h w c) = 0
      · refine nb_set (i := hm_h w c) ?_ ?_ (fun j hj => ?_) 64 hh6
        · simp [z]
        · simp [pk_us, n0]
        · try dsimp only
          rw [pk_un hj]
          by_cases ej : j = x
          · rw [ej, pk_us, z, lx]
          · rw [pk_un ej]
      · refine nb_set (i := x) ?_ ?_ (fun j hj => ?_) 64 h2
        · simp [lx]
        · rw [atx]; simp [z]
        · try dsimp only
          by_cases ej : j = hm_h w c
          · rw [ej, pk_us]; simp [n0, z]
          · rw [unch j hj ej]
  · rw [rg_upd h2, rg_upd h2, rg_upd h2]
    exact (cc_hold h2 h3').trans (hp.cons _)
theorem cn_take {post : SX → Prop} {x : Nat} {ml : List (Int32 × Int32)} (hx : x < 64) (hh : rg_r 320 M x = 1) (I : cn_inv w (rg_r 320 K) (rg_r 320 M) (rg_r 320 L)) (n : ct_nd ml)
    (pm : List.Perm (cc_c (rg_r 320 K) (rg_r 320 V) (rg_r 320 M)) ml)
    (F : kn_k 320 (fun k m l => cn_inv w k m l) (ct_er (rg_r 320 K x) ml) fh w K V M L P Q post) : wpX_takeChained post (fh, w, K, V, M, L, P, Q) (nI (320 + x)) := by
  obtain ⟨i1, i2, i3, ⟨T, i4⟩, i5⟩ := I
  have hk := hm_lt w (rg_r 320 K x)
  have hx32 : 32 ≤ x := by
    rcases Nat.lt_or_ge x 32 with q | q
    · rw [i2 x q] at hh; exact absurd hh (by decide)
    · exact q
  obtain ⟨c1, c2⟩ := i4 _ hk
  have hin : x ∈ T (hm_h w (rg_r 320 K x)) := (c2 x).mpr ⟨hx32, hx, hh, rfl⟩
  have tlen := cn_len (by decide) (by decide) c1 fun y hy => ((c2 y).mp hy).1
  have tnd := li_nd (by decide) (by decide) _ _ c1
  obtain ⟨pre, po, et⟩ := List.append_of_mem hin
  rw [et] at c1 tlen tnd
  generalize eh : hm_h w (rg_r 320 K x) = h at *
  have hpre : x ∉ pre := by
    intro z
    have := (List.nodup_cons.mp tnd).2
    rw [List.nodup_append] at this
    exact this.2.2 x z x List.mem_cons_self rfl
  have hlast : li_last h pre < 64 := by
    rcases List.mem_cons.mp (li_lastM pre h) with e | e
    · omega
    · exact li_lt64 _ _ c1 _ (List.mem_append_left _ e)
  have hcut := (li_cut (by decide) (by decide) pre h c1).2.1
  unfold wpX_takeChained
  dsimp only
  unfold wpX_linkingTo
  dsimp only
  refine ⟨vp_in_nI (by omega) (by decide), ?_⟩
  rw [nI_clamp (n := 320 + x) (by omega), ← rg_at (b := 320) (a := K) hx]
  refine hw_home (nm_r (e' := nI (320 + h)) ?_ ?_)
  · rw [eh]
    exact nI_add 320 _
  have hd := li_hd c1
  have hlx : x ≠ li_last h pre := by
    intro e
    rcases List.mem_cons.mp (li_lastM pre h) with q | q
    · omega
    · exact hpre (e ▸ q)
  refine hw_next (q := 320 + h) (j := li_nx 320 (pre ++ x :: po)) rfl (by omega) (by rw [← rg_at (b := 320) (a := L) (by omega)]; exact hd.1) (hd.2 (by decide)) ⟨33, ?_⟩
  have hlen : pre.length < 32 := by
    rw [List.length_append, List.length_cons] at tlen
    omega
  refine li_to (by decide) (by decide) hx pre h 33 0 (by omega) c1 hpre (by omega) (by omega) ?_
  refine ⟨vp_in_nI (by omega) (by decide), vp_in_nI (by omega) (by decide), nm_r (e' := upd L (320 + li_last h pre) (L (320 + x))) ?_ (hw_release (q := 320 + x) rfl (by omega) ?_)⟩
  · rw [nI_clamp (n := 320 + li_last h pre) (by omega)]
  refine F _ _ _ _ fr_r fr_r (fr_u fr_r hx) (fr_u (fr_u fr_r hlast) hx) ?_ ?_
  · rw [rg_upd hx, rg_upd hx, rg_upd hlast, ← rg_at (b := 320) (a := L) hx]
    have unch : ∀ y, y ≠ x → y ≠ li_last h pre → upd (upd (rg_r 320 L) (li_last h pre) (rg_r 320 L x)) x 0 y = rg_r 320 L y := fun y e1 e2 => by rw [pk_un e1, pk_un e2]
    have n0 : ¬ nI (320 + x) = 0 := nI_ne0 (by omega) (by omega)
    refine ⟨fun i hi => ?_, fun i hi => ?_, fun i hi hi2 a => ?_, ⟨fun h' => if h' = h then pre ++ po else T h', fun h' hh' => ?_⟩, ?_⟩
    · by_cases e : i = x
      · rw [e, pk_us]; exact .inl rfl
      · rw [pk_un e]; exact i1 i hi
    · rw [pk_un (by omega)]; exact i2 i hi
    · by_cases e : i = x
      · rw [e, pk_us]
      · rw [pk_un e] at a
        rw [unch i e ?_]
        · exact i3 i hi hi2 a
        · intro e2
          rcases List.mem_cons.mp (li_lastM pre h) with q | q
          · omega
          · exact a (((c2 i).mp (by rw [et, e2]; exact List.mem_append_left _ q)).2.2.1)
    · dsimp only
      by_cases e : h' = h
      · rw [if_pos e, e]
        constructor
        · exact li_del pre h tnd c1
        · intro y
          have c2' := c2 y
          rw [et] at c2'
          have hnd := (List.nodup_cons.mp tnd).2
          rw [List.nodup_append, List.nodup_cons] at hnd
          by_cases ey : y = x
          · rw [ey, pk_us]
            constructor
            · intro z
              rcases List.mem_append.mp z with z | z
              · exact absurd z hpre
              · exact absurd z hnd.2.1.1
            · intro z
              exact absurd z.2.2.1 (by decide)
          · rw [pk_un ey, ← c2', List.mem_append, List.mem_append, List.mem_cons]
            exact ⟨fun z => z.elim .inl (fun z => .inr (.inr z)), fun z => z.elim .inl (fun z => .inr (z.resolve_left ey))⟩
      · rw [if_neg e]
        obtain ⟨d1, d2⟩ := i4 h' hh'
        have sep : ∀ y, y ∈ T h' → y ≠ x ∧ y ≠ li_last h pre := by
          intro y hy
          obtain ⟨y1, y2, y3, y4⟩ := (d2 y).mp hy
          refine ⟨fun e1 => ?_, fun e1 => ?_⟩
          · rw [e1, eh] at y4; exact e y4.symm
          · rcases List.mem_cons.mp (li_lastM pre h) with q | q
            · omega
            · have := ((c2 y).mp (by rw [et, e1]; exact List.mem_append_left _ q)).2.2.2
              exact e (y4.symm.trans this)
        constructor
        · refine li_cg (T h') h' h' (unch h' (by omega) ?_) (fun y hy => unch y (sep y hy).1 (sep y hy).2) d1
          intro e1
          rcases List.mem_cons.mp (li_lastM pre h) with q | q
          · exact e (e1.trans q)
          · have := ((c2 h').mp (by rw [et, e1]; exact List.mem_append_left _ q)).1
            omega
        · intro y
          rw [d2]
          by_cases ey : y = x
          · rw [ey, pk_us]
            exact ⟨fun z => absurd (eh.symm.trans z.2.2.2) (fun z => e z.symm), fun z => absurd z.2.2.1 (by decide)⟩
          · rw [pk_un ey]
    · have hM := nb_set (p := fun i => decide (upd (rg_r 320 M) x 0 i = 1)) (q := fun i => decide (rg_r 320 M i = 1)) (i := x) (by simp [pk_us]) (by simp [hh]) (fun j hj => by rw [pk_un hj]) 64 hx
      have hL : nb_n (fun i => decide (¬ rg_r 320 L i = 0)) 64 = nb_n (fun i => decide (¬ upd (upd (rg_r 320 L) (li_last h pre) (rg_r 320 L x)) x 0 i = 0)) 64 + 1 := by
        by_cases z : rg_r 320 L x = 0
        · refine nb_set (i := li_last h pre) ?_ ?_ (fun j hj => ?_) 64 hlast
          · try dsimp only
            rw [pk_un (Ne.symm hlx), pk_us]; simp [z]
          · simp [hcut, n0]
          · try dsimp only
            by_cases ej : j = x
            · rw [ej, pk_us, z]
            · rw [unch j ej hj]
        · refine nb_set (i := x) ?_ ?_ (fun j hj => ?_) 64 hx
          · simp [pk_us]
          · simp [z]
          · try dsimp only
            by_cases ej : j = li_last h pre
            · rw [ej, pk_un (Ne.symm hlx), pk_us, hcut]; simp [n0, z]
            · rw [unch j hj ej]
      omega
  · rw [rg_upd hx]
    exact cc_take hx hh (by decide) n pm
end
