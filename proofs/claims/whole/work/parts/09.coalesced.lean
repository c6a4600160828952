/-! COALESCED: paths of links through the homes; T: a cut-off tail that waits to be inserted anew -/
def co_ho (w : Int32) (k : Nat → Int32) : List Nat → List Nat → Prop
  | _, [] => True
  | acc, y :: r => hm_h w (k y) ∈ acc ∧ co_ho w k (y :: acc) r
def co_path (w : Int32) (k l : Nat → Int32) (p : List Nat) : Prop := ∃ h r, p = h :: r ∧ li_ch 384 l h r ∧ hm_h w (k h) = h ∧ co_ho w k [h] r
def co_T (l : Nat → Int32) : List Nat → Prop
  | [] => True
  | t :: r => li_ch 384 l t r
def co_st (w : Int32) (k m l : Nat → Int32) (PS : List (List Nat)) (T : List Nat) : Prop :=
  (∀ i, i < 64 → m i = 0 ∨ m i = 1) ∧ (∀ i, 32 ≤ i → i < 64 → m i = 0) ∧ (∀ i, i < 64 → ¬ m i = 1 → l i = 0) ∧
  (∀ p, p ∈ PS → co_path w k l p) ∧ (PS.flatten ++ T).Nodup ∧ (∀ x, x ∈ PS.flatten ++ T ↔ x < 32 ∧ m x = 1) ∧ co_T l T ∧ T.Pairwise (fun y y' => hm_h w (k y) ≠ y')
def co_inv (w : Int32) (k m l : Nat → Int32) : Prop := ∃ PS, co_st w k m l PS []
theorem co_hc {w : Int32} {k k' : Nat → Int32} : ∀ (r acc : List Nat), (∀ y, y ∈ r → k' y = k y) → co_ho w k acc r → co_ho w k' acc r := by
  intro r
  induction r with
  | nil => intro _ _ _; trivial
  | cons y r ih =>
    intro acc e h
    refine ⟨?_, ih _ (fun z hz => e z (List.mem_cons_of_mem _ hz)) h.2⟩
    rw [e y List.mem_cons_self]; exact h.1
theorem co_pc {w : Int32} {k k' l l' : Nat → Int32} {p : List Nat} (ek : ∀ y, y ∈ p → k' y = k y) (el : ∀ y, y ∈ p → l' y = l y) (h : co_path w k l p) : co_path w k' l' p := by
  obtain ⟨h0, r, e, c, hh, ho⟩ := h
  subst e
  refine ⟨h0, r, rfl, li_cg r h0 h0 (el h0 List.mem_cons_self) (fun y hy => el y (List.mem_cons_of_mem _ hy)) c, ?_, co_hc r _ (fun y hy => ek y (List.mem_cons_of_mem _ hy)) ho⟩
  rw [ek h0 List.mem_cons_self]; exact hh
theorem co_ha {w : Int32} {k : Nat → Int32} {z : Nat} : ∀ (r acc : List Nat), co_ho w k acc r → (hm_h w (k z) ∈ acc ∨ hm_h w (k z) ∈ r) → co_ho w k acc (r ++ [z]) := by
  intro r
  induction r with
  | nil =>
    intro acc _ h
    exact ⟨h.resolve_right List.not_mem_nil, trivial⟩
  | cons y r ih =>
    intro acc h hz
    refine ⟨h.1, ih _ h.2 ?_⟩
    rcases hz with q | q
    · exact .inl (List.mem_cons_of_mem _ q)
    · rcases List.mem_cons.mp q with e | q
      · exact .inl (e ▸ List.mem_cons_self)
      · exact .inr q
theorem co_hp {w : Int32} {k : Nat → Int32} {po : List Nat} : ∀ (pre acc : List Nat), co_ho w k acc (pre ++ po) → co_ho w k acc pre := by
  intro pre
  induction pre with
  | nil => intro _ _; trivial
  | cons y r ih => intro acc h; exact ⟨h.1, ih _ h.2⟩
/-- a key's home stands ahead of it -/
theorem co_hb {w : Int32} {k : Nat → Int32} {x : Nat} {po : List Nat} : ∀ (pre acc : List Nat), co_ho w k acc (pre ++ x :: po) → hm_h w (k x) ∈ acc ∨ hm_h w (k x) ∈ pre := by
  intro pre
  induction pre with
  | nil => intro acc h; exact .inl h.1
  | cons y r ih =>
    intro acc h
    rcases ih _ h.2 with q | q
    · rcases List.mem_cons.mp q with e | q
      · exact .inr (e ▸ List.mem_cons_self)
      · exact .inl q
    · exact .inr (List.mem_cons_of_mem _ q)
theorem co_pw {w : Int32} {k : Nat → Int32} : ∀ (r acc : List Nat), co_ho w k acc r → (acc ++ r).Nodup → r.Pairwise (fun y y' => hm_h w (k y) ≠ y') := by
  intro r
  induction r with
  | nil => intro _ _ _; exact List.Pairwise.nil
  | cons y r ih =>
    intro acc h n
    refine List.Pairwise.cons (fun y' hy' e => ?_) (ih (y :: acc) h.2 ?_)
    · have n' := (List.nodup_append.mp n).2.2
      exact n' _ h.1 y' (List.mem_cons_of_mem _ hy') e
    · exact (List.perm_middle (l₁ := acc) (a := y) (l₂ := r)).nodup n
theorem co_pm (A C po : List Nat) (x : Nat) : List.Perm (A ++ (x :: (po ++ C))) (x :: ((A ++ C) ++ po)) := by
  refine List.perm_middle.trans (List.Perm.cons x ?_)
  rw [List.append_assoc]
  exact List.perm_append_comm.append_left A
/-- what is on a path is held, and below 32 -/
theorem co_mem {w : Int32} {k m l : Nat → Int32} {PS : List (List Nat)} {T p : List Nat} (S : co_st w k m l PS T) (hp : p ∈ PS) {x : Nat} (hx : x ∈ p) : x < 32 ∧ m x = 1 :=
  (S.2.2.2.2.2.1 x).mp (List.mem_append_left _ (List.mem_flatten.mpr ⟨p, hp, hx⟩))
theorem co_at {w : Int32} {k m l : Nat → Int32} {PS : List (List Nat)} {T : List Nat} (S : co_st w k m l PS T) {x : Nat} (hx : x < 32) (h : m x = 1) (hT : x ∉ T) : ∃ p, p ∈ PS ∧ x ∈ p :=
  List.mem_flatten.mp ((List.mem_append.mp ((S.2.2.2.2.2.1 x).mpr ⟨hx, h⟩)).resolve_right hT)
theorem co_len {l : Nat → Int32} {r : List Nat} {h : Nat} (c : li_ch 384 l h r) (hh : h < 32) (hr : ∀ x, x ∈ r → x < 32) : r.length ≤ 31 := by
  have n := li_nd (by decide) (by decide) r h c
  have s : h :: r ⊆ List.range 32 := by
    intro x hx
    rcases List.mem_cons.mp hx with e | hx
    · rw [e]; exact List.mem_range.mpr hh
    · exact List.mem_range.mpr (hr x hx)
  have := n.length_le_of_subset s
  rw [List.length_cons, List.length_range] at this
  omega
/-- the list from a home -/
theorem co_from {w : Int32} {k m l : Nat → Int32} {PS : List (List Nat)} {T : List Nat} (S : co_st w k m l PS T) {h : Nat} (hh : h < 32) (hm : m h = 1) (hT : h ∉ T) :
    ∃ p A B, p ∈ PS ∧ p = A ++ h :: B ∧ li_ch 384 l h B ∧ B.length ≤ 31 ∧ ∀ x, x ∈ B → x < 32 ∧ m x = 1 := by
  obtain ⟨p, hp, hx⟩ := co_at S hh hm hT
  obtain ⟨h0, r, e, c, _, _⟩ := S.2.2.2.1 p hp
  subst e
  obtain ⟨A, B, e2, c2⟩ := li_suf r h0 h c hx
  have hB : ∀ x, x ∈ B → x < 32 ∧ m x = 1 := fun x hx => co_mem S hp (by rw [e2]; exact List.mem_append_right _ (List.mem_cons_of_mem _ hx))
  exact ⟨_, A, B, hp, e2, c2, co_len c2 hh fun x hx => (hB x hx).1, hB⟩
theorem co_list {w : Int32} {k m l : Nat → Int32} {PS : List (List Nat)} (S : co_st w k m l PS []) {h : Nat} (hh : h < 32) :
    ∃ B, li_ch 384 l h B ∧ B.length ≤ 31 ∧ ∀ x, x < 64 → m x = 1 → hm_h w (k x) = h → x ∈ h :: B := by
  have main : ∀ x, x < 64 → m x = 1 → hm_h w (k x) = h → m h = 1 ∧ ∃ B, li_ch 384 l h B ∧ x ∈ h :: B := by
    intro x hx a e
    have hx3 : x < 32 := by
      rcases Nat.lt_or_ge x 32 with q | q
      · exact q
      · rw [S.2.1 x q hx] at a; exact absurd a (by decide)
    obtain ⟨p, hp, hxp⟩ := co_at S hx3 a List.not_mem_nil
    obtain ⟨h0, r, ep, c, c0, ho⟩ := S.2.2.2.1 p hp
    subst ep
    rcases List.mem_cons.mp hxp with q | q
    · have e0 : h0 = h := by rw [← c0, ← q]; exact e
      subst e0
      exact ⟨by rw [← q]; exact a, r, c, hxp⟩
    · obtain ⟨pre, po, er⟩ := List.append_of_mem q
      have hb : h ∈ h0 :: pre := by
        rw [er] at ho
        rcases co_hb pre [h0] ho with z | z
        · rw [e] at z
          have : h = h0 := by simpa using z
          rw [this]; exact List.mem_cons_self
        · rw [e] at z; exact List.mem_cons_of_mem _ z
      have hhp : h ∈ h0 :: r := by
        rw [er]
        rcases List.mem_cons.mp hb with z | z
        · rw [z]; exact List.mem_cons_self
        · exact List.mem_cons_of_mem _ (List.mem_append_left _ z)
      refine ⟨(co_mem S hp hhp).2, ?_⟩
      obtain ⟨A, B, e2, c2⟩ := li_suf r h0 h c hhp
      refine ⟨B, c2, ?_⟩
      -- x comes at or behind h
      obtain ⟨A', B', e3⟩ := List.append_of_mem hb
      have e4 : h0 :: r = A' ++ h :: (B' ++ x :: po) := by
        rw [er, show h0 :: (pre ++ x :: po) = (h0 :: pre) ++ x :: po from rfl, e3, List.append_assoc]
        rfl
      have e5 : ∀ (A1 A2 B1 B2 : List Nat), (A1 ++ h :: B1).Nodup → A1 ++ h :: B1 = A2 ++ h :: B2 → B1 = B2 := by
        intro A1
        induction A1 with
        | nil =>
          intro A2 B1 B2 n e
          cases A2 with
          | nil => injection e
          | cons a A2 =>
            injection e with e6 e7
            have e7' : B1 = A2 ++ h :: B2 := e7
            have := (List.nodup_cons.mp n).1
            rw [e7'] at this
            exact absurd (List.mem_append_right _ List.mem_cons_self) this
        | cons a A1 ih =>
          intro A2 B1 B2 n e
          cases A2 with
          | nil =>
            injection e with e6 e7
            have := (List.nodup_cons.mp n).1
            rw [e6] at this
            exact absurd (List.mem_append_right _ List.mem_cons_self) this
          | cons a' A2 =>
            injection e with e6 e7
            exact ih A2 B1 B2 (List.nodup_cons.mp n).2 e7
      have nd := li_nd (by decide) (by decide) r h0 c
      have e8 := e5 A A' B (B' ++ x :: po) (by rw [← e2]; exact nd) (e2.symm.trans e4)
      rw [e8]
      exact List.mem_cons_of_mem _ (List.mem_append_right _ List.mem_cons_self)
  by_cases hm : m h = 1
  · obtain ⟨p, A, B, hp, e, c, len, hB⟩ := co_from S hh hm List.not_mem_nil
    refine ⟨B, c, len, fun x hx a d => ?_⟩
    obtain ⟨_, B', c', hx'⟩ := main x hx a d
    rw [li_det (by decide) (by decide) B B' h c c']
    exact hx'
  · exact ⟨[], S.2.2.1 h (by omega) hm, by simp, fun x hx a d => absurd (main x hx a d).1 hm⟩
/-- a new path -/
theorem co_new {w : Int32} {k m l : Nat → Int32} {PS : List (List Nat)} {T : List Nat} (S : co_st w k m l PS T) {h : Nat} {c : Int32} (hh : h < 32) (hm : ¬ m h = 1) (hc : hm_h w c = h) : co_st w (upd k h c) (upd m h 1) l ([h] :: PS) T := by
  obtain ⟨s1, s2, s3, s4, s5, s6, s7, s8⟩ := S
  have hout : h ∉ PS.flatten ++ T := fun z => hm ((s6 h).mp z).2
  have hk : ∀ y, y ∈ PS.flatten ++ T → upd k h c y = k y := fun y hy => pk_un (fun e => hout (e ▸ hy))
  refine ⟨fun i hi => ?_, fun i h1 h2 => ?_, fun i hi a => ?_, fun p hp => ?_, ?_, fun x => ?_, s7, ?_⟩
  · by_cases e : i = h
    · rw [e, pk_us]; exact .inr rfl
    · rw [pk_un e]; exact s1 i hi
  · rw [pk_un (by omega)]; exact s2 i h1 h2
  · have e : i ≠ h := fun e => a (by rw [e, pk_us])
    rw [pk_un e] at a
    exact s3 i hi a
  · rcases List.mem_cons.mp hp with e | hp
    · rw [e]
      exact ⟨h, [], rfl, s3 h (by omega) hm, by rw [pk_us]; exact hc, trivial⟩
    · exact co_pc (fun y hy => hk y (List.mem_append_left _ (List.mem_flatten.mpr ⟨p, hp, hy⟩))) (fun _ _ => rfl) (s4 p hp)
  · show (h :: (PS.flatten ++ T)).Nodup
    exact List.nodup_cons.mpr ⟨hout, s5⟩
  · show x ∈ h :: (PS.flatten ++ T) ↔ _
    rw [List.mem_cons, s6]
    by_cases e : x = h
    · rw [e, pk_us]; exact ⟨fun _ => ⟨hh, rfl⟩, fun _ => .inl rfl⟩
    · rw [pk_un e]; exact ⟨fun z => z.resolve_left e, fun z => .inr z⟩
  · refine List.Pairwise.imp_of_mem (fun {a b} ha _ hab => ?_) s8
    rw [hk a (List.mem_append_right _ ha)]; exact hab
/-- z hung behind the path of h -/
theorem co_hang {w : Int32} {k m l : Nat → Int32} {PS : List (List Nat)} {T : List Nat} (S : co_st w k m l PS T) {h z : Nat} {c : Int32} {p A B : List Nat} (hz : z < 32) (hm : ¬ m z = 1) (hc : hm_h w c = h)
    (hp : p ∈ PS) (ep : p = A ++ h :: B) : ∃ PS', co_st w (upd k z c) (upd m z 1) (upd l (li_last h B) (nI (384 + z))) PS' T := by
  obtain ⟨PS1, PS2, ePS⟩ := List.append_of_mem hp
  have S0 := S
  obtain ⟨s1, s2, s3, s4, s5, s6, s7, s8⟩ := S
  have hout : z ∉ PS.flatten ++ T := fun y => hm ((s6 z).mp y).2
  have hk : ∀ y, y ∈ PS.flatten ++ T → upd k z c y = k y := fun y hy => pk_un (fun e => hout (e ▸ hy))
  obtain ⟨h0, r, er, c1, c2, c3⟩ := s4 p hp
  have elast : li_last h B = li_last h0 r := by
    have key : ∀ (A : List Nat) (h0 : Nat) (r : List Nat), h0 :: r = A ++ h :: B → li_last h0 r = li_last h B := by
      intro A
      induction A with
      | nil => intro h0 r e; injection e with e1 e2; rw [e1, e2]
      | cons a A ih =>
        intro h0 r e
        injection e with e1 e2
        cases r with
        | nil =>
          have := congrArg List.length e2
          simp at this
        | cons y r => exact ih y r e2
    exact (key A h0 r (er.symm.trans ep)).symm
  have hlp : li_last h B ∈ p := by rw [elast, er]; exact li_lastM r h0
  have e1 : PS.flatten ++ T = (PS1.flatten ++ p) ++ (PS2.flatten ++ T) := by rw [ePS]; simp
  have e2 : (PS1 ++ (p ++ [z]) :: PS2).flatten ++ T = (PS1.flatten ++ p) ++ z :: (PS2.flatten ++ T) := by simp
  have pm : List.Perm ((PS1 ++ (p ++ [z]) :: PS2).flatten ++ T) (z :: (PS.flatten ++ T)) := by rw [e1, e2]; exact List.perm_middle
  -- the last is on no other path and not in T
  have sep : ∀ y, (y ∈ PS1.flatten ∨ y ∈ PS2.flatten ∨ y ∈ T) → y ≠ li_last h B := by
    intro y hy e
    have n := s5
    rw [e1, List.nodup_append] at n
    have n1 := List.nodup_append.mp n.1
    rcases hy with q | q | q
    · exact n1.2.2 y q _ hlp e
    · exact n.2.2 _ (List.mem_append_right _ hlp) y (List.mem_append_left _ q) e.symm
    · exact n.2.2 _ (List.mem_append_right _ hlp) y (List.mem_append_right _ q) e.symm
  have hlh := (co_mem S0 hp hlp)
  have hzp : z ∉ h0 :: r := fun q => hm (co_mem S0 hp (by rw [er]; exact q)).2
  have l0 : l z = 0 := s3 z (by omega) hm
  have oth : ∀ q, (q ∈ PS1 ∨ q ∈ PS2) → co_path w (upd k z c) (upd l (li_last h B) (nI (384 + z))) q := by
    intro q hq
    have hq' : q ∈ PS := by
      rw [ePS]
      rcases hq with y | y
      · exact List.mem_append_left _ y
      · exact List.mem_append_right _ (List.mem_cons_of_mem _ y)
    refine co_pc (fun y hy => hk y (List.mem_append_left _ (List.mem_flatten.mpr ⟨q, hq', hy⟩))) (fun y hy => pk_un (sep y ?_)) (s4 q hq')
    rcases hq with u | u
    · exact .inl (List.mem_flatten.mpr ⟨q, u, hy⟩)
    · exact .inr (.inl (List.mem_flatten.mpr ⟨q, u, hy⟩))
  refine ⟨PS1 ++ (p ++ [z]) :: PS2, fun i hi => ?_, fun i h1 h2 => ?_, fun i hi a => ?_, fun q hq => ?_, ?_, fun x => ?_, ?_, ?_⟩
  · by_cases e : i = z
    · rw [e, pk_us]; exact .inr rfl
    · rw [pk_un e]; exact s1 i hi
  · rw [pk_un (by omega)]; exact s2 i h1 h2
  · have e : i ≠ z := fun e => a (by rw [e, pk_us])
    rw [pk_un e] at a
    rw [pk_un (fun e' : i = li_last h B => a (by rw [e']; exact hlh.2))]
    exact s3 i hi a
  · rcases List.mem_append.mp hq with q1 | q1
    · exact oth q (.inl q1)
    · rcases List.mem_cons.mp q1 with q2 | q2
      · rw [q2, er]
        have hk' : ∀ y, y ∈ h0 :: r → upd k z c y = k y := fun y hy => pk_un (fun e => hzp (e ▸ hy))
        refine ⟨h0, r ++ [z], rfl, ?_, ?_, ?_⟩
        · rw [elast]
          exact li_app (by decide) (by decide) (by omega) r h0 c1 hzp l0
        · rw [hk' h0 List.mem_cons_self]; exact c2
        · refine co_ha r [h0] (co_hc r _ (fun y hy => hk' y (List.mem_cons_of_mem _ hy)) c3) ?_
          rw [pk_us, hc]
          have : h ∈ h0 :: r := by rw [← er, ep]; exact List.mem_append_right _ List.mem_cons_self
          rcases List.mem_cons.mp this with e | e
          · left; rw [e]; exact List.mem_cons_self
          · exact .inr e
      · exact oth q (.inr q2)
  · exact pm.symm.nodup (List.nodup_cons.mpr ⟨hout, s5⟩)
  · rw [pm.mem_iff, List.mem_cons, s6]
    by_cases e : x = z
    · rw [e, pk_us]; exact ⟨fun _ => ⟨hz, rfl⟩, fun _ => .inl rfl⟩
    · rw [pk_un e]; exact ⟨fun z => z.resolve_left e, fun z => .inr z⟩
  · cases T with
    | nil => trivial
    | cons t T' =>
      exact li_cg T' t t (pk_un (sep t (.inr (.inr List.mem_cons_self)))) (fun y hy => pk_un (sep y (.inr (.inr (List.mem_cons_of_mem _ hy))))) s7
  · refine List.Pairwise.imp_of_mem (fun {a b} ha _ hab => ?_) s8
    rw [hk a (List.mem_append_right _ ha)]; exact hab
/-- the tail's first is released -/
theorem co_rel {w : Int32} {k m l : Nat → Int32} {PS : List (List Nat)} {t : Nat} {T : List Nat} (S : co_st w k m l PS (t :: T)) : co_st w k (upd m t 0) (upd l t 0) PS T := by
  obtain ⟨s1, s2, s3, s4, s5, s6, s7, s8⟩ := S
  have pm : List.Perm (PS.flatten ++ t :: T) (t :: (PS.flatten ++ T)) := List.perm_middle
  have n := List.nodup_cons.mp (pm.nodup s5)
  have ht : t < 32 := ((s6 t).mp (List.mem_append_right _ List.mem_cons_self)).1
  have sep : ∀ y, y ∈ PS.flatten ++ T → y ≠ t := fun y hy e => n.1 (e ▸ hy)
  refine ⟨fun i hi => ?_, fun i h1 h2 => ?_, fun i hi a => ?_, fun p hp => ?_, n.2, fun x => ?_, ?_, (List.pairwise_cons.mp s8).2⟩
  · by_cases e : i = t
    · rw [e, pk_us]; exact .inl rfl
    · rw [pk_un e]; exact s1 i hi
  · rw [pk_un (by omega)]; exact s2 i h1 h2
  · by_cases e : i = t
    · rw [e, pk_us]
    · rw [pk_un e] at a ⊢; exact s3 i hi a
  · exact co_pc (fun _ _ => rfl) (fun y hy => pk_un (sep y (List.mem_append_left _ (List.mem_flatten.mpr ⟨p, hp, hy⟩)))) (s4 p hp)
  · by_cases e : x = t
    · rw [e, pk_us]
      exact ⟨fun z => absurd z n.1, fun z => absurd z.2 (by decide)⟩
    · rw [pk_un e, ← s6, pm.mem_iff, List.mem_cons]
      exact ⟨fun z => .inr z, fun z => z.resolve_left e⟩
  · cases T with
    | nil => trivial
    | cons u T' =>
      refine li_cg T' u u (pk_un (sep u (List.mem_append_right _ List.mem_cons_self))) (fun y hy => pk_un (sep y (List.mem_append_right _ (List.mem_cons_of_mem _ hy)))) ?_
      exact s7.2.2
/-- a path's slot is taken: the one at its head .. -/
theorem co_cut0 {w : Int32} {k m l : Nat → Int32} {PS1 PS2 : List (List Nat)} {x : Nat} {r : List Nat} (S : co_st w k m l (PS1 ++ (x :: r) :: PS2) []) : co_st w k (upd m x 0) (upd l x 0) (PS1 ++ PS2) r := by
  have S0 := S
  obtain ⟨s1, s2, s3, s4, s5, s6, s7, s8⟩ := S
  have e0 : (PS1 ++ (x :: r) :: PS2).flatten ++ [] = PS1.flatten ++ (x :: (r ++ PS2.flatten)) := by simp
  have pm : List.Perm ((PS1 ++ (x :: r) :: PS2).flatten ++ []) (x :: ((PS1 ++ PS2).flatten ++ r)) := by
    rw [e0, List.flatten_append]; exact co_pm _ _ _ _
  have n := List.nodup_cons.mp (pm.nodup s5)
  have hx : x < 32 := ((s6 x).mp (pm.symm.subset List.mem_cons_self)).1
  have sep : ∀ y, y ∈ (PS1 ++ PS2).flatten ++ r → y ≠ x := fun y hy e => n.1 (e ▸ hy)
  have hpath : co_path w k l (x :: r) := s4 _ (List.mem_append_right _ List.mem_cons_self)
  obtain ⟨h0, r0, e, c1, c2, c3⟩ := hpath
  injection e with ea eb
  subst ea
  subst eb
  refine ⟨fun i hi => ?_, fun i h1 h2 => ?_, fun i hi a => ?_, fun p hp => ?_, n.2, fun y => ?_, ?_, ?_⟩
  · by_cases e : i = x
    · rw [e, pk_us]; exact .inl rfl
    · rw [pk_un e]; exact s1 i hi
  · rw [pk_un (by omega)]; exact s2 i h1 h2
  · by_cases e : i = x
    · rw [e, pk_us]
    · rw [pk_un e] at a ⊢; exact s3 i hi a
  · refine co_pc (fun _ _ => rfl) (fun y hy => pk_un (sep y (List.mem_append_left _ (List.mem_flatten.mpr ⟨p, hp, hy⟩)))) (s4 p ?_)
    rcases List.mem_append.mp hp with q | q
    · exact List.mem_append_left _ q
    · exact List.mem_append_right _ (List.mem_cons_of_mem _ q)
  · by_cases e : y = x
    · rw [e, pk_us]
      exact ⟨fun z => absurd z n.1, fun z => absurd z.2 (by decide)⟩
    · rw [pk_un e, ← s6, pm.mem_iff, List.mem_cons]
      exact ⟨fun z => .inr z, fun z => z.resolve_left e⟩
  · cases r with
    | nil => trivial
    | cons u T' =>
      refine li_cg T' u u (pk_un (sep u (List.mem_append_right _ List.mem_cons_self))) (fun y hy => pk_un (sep y (List.mem_append_right _ (List.mem_cons_of_mem _ hy)))) ?_
      exact c1.2.2
  · refine co_pw r [x] c3 ?_
    exact li_nd (by decide) (by decide) r x c1
/-- .. or one behind it, with the link to it cut -/
theorem co_cut1 {w : Int32} {k m l : Nat → Int32} {PS1 PS2 : List (List Nat)} {h0 x : Nat} {pre po : List Nat} (S : co_st w k m l (PS1 ++ (h0 :: (pre ++ x :: po)) :: PS2) []) : co_st w k (upd m x 0) (upd (upd l (li_last h0 pre) 0) x 0) (PS1 ++ (h0 :: pre) :: PS2) po := by
  have S0 := S
  obtain ⟨s1, s2, s3, s4, s5, s6, s7, s8⟩ := S
  have e0 : (PS1 ++ (h0 :: (pre ++ x :: po)) :: PS2).flatten ++ [] = (PS1.flatten ++ (h0 :: pre)) ++ (x :: (po ++ PS2.flatten)) := by simp
  have e1 : (PS1 ++ (h0 :: pre) :: PS2).flatten = (PS1.flatten ++ (h0 :: pre)) ++ PS2.flatten := by simp
  have pm : List.Perm ((PS1 ++ (h0 :: (pre ++ x :: po)) :: PS2).flatten ++ []) (x :: ((PS1 ++ (h0 :: pre) :: PS2).flatten ++ po)) := by
    rw [e0, e1]; exact co_pm _ _ _ _
  have n := List.nodup_cons.mp (pm.nodup s5)
  have hx : x < 32 := ((s6 x).mp (pm.symm.subset List.mem_cons_self)).1
  have sep : ∀ y, y ∈ (PS1 ++ (h0 :: pre) :: PS2).flatten ++ po → y ≠ x := fun y hy e => n.1 (e ▸ hy)
  have hpath : co_path w k l (h0 :: (pre ++ x :: po)) := s4 _ (List.mem_append_right _ List.mem_cons_self)
  obtain ⟨h0', r0, e, c1, c2, c3⟩ := hpath
  injection e with ea eb
  subst ea
  subst eb
  have hlp : li_last h0 pre ∈ h0 :: pre := li_lastM pre h0
  have n2 := n.2
  rw [e1, List.append_assoc, List.nodup_append, List.nodup_append] at n2
  have sepl : ∀ y, (y ∈ PS1.flatten ∨ y ∈ PS2.flatten ∨ y ∈ po) → y ≠ li_last h0 pre := by
    intro y hy e
    rcases hy with q | q | q
    · exact n2.1.2.2 y q _ hlp e
    · exact n2.2.2 _ (List.mem_append_right _ hlp) y (List.mem_append_left _ q) e.symm
    · exact n2.2.2 _ (List.mem_append_right _ hlp) y (List.mem_append_right _ q) e.symm
  obtain ⟨d1, d2, d3⟩ := li_cut (by decide) (by decide) pre h0 c1
  refine ⟨fun i hi => ?_, fun i h1 h2 => ?_, fun i hi a => ?_, fun p hp => ?_, n.2, fun y => ?_, ?_, ?_⟩
  · by_cases e : i = x
    · rw [e, pk_us]; exact .inl rfl
    · rw [pk_un e]; exact s1 i hi
  · rw [pk_un (by omega)]; exact s2 i h1 h2
  · by_cases e : i = x
    · rw [e, pk_us]
    · rw [pk_un e] at a ⊢
      by_cases e' : i = li_last h0 pre
      · rw [e', pk_us]
      · rw [pk_un e']; exact s3 i hi a
  · have inn : ∀ y, y ∈ p → y ∈ (PS1 ++ (h0 :: pre) :: PS2).flatten := fun y hy => List.mem_flatten.mpr ⟨p, hp, hy⟩
    rcases List.mem_append.mp hp with q | q
    · exact co_pc (fun _ _ => rfl) (fun y hy => by rw [pk_un (sep y (List.mem_append_left _ (inn y hy))), pk_un (sepl y (.inl (List.mem_flatten.mpr ⟨p, q, hy⟩)))]) (s4 p (List.mem_append_left _ q))
    · rcases List.mem_cons.mp q with q | q
      · subst q
        refine ⟨h0, pre, rfl, ?_, c2, co_hp pre _ c3⟩
        refine li_cg pre h0 h0 (pk_un (sep h0 (List.mem_append_left _ (inn h0 List.mem_cons_self)))) (fun y hy => pk_un (sep y (List.mem_append_left _ (inn y (List.mem_cons_of_mem _ hy))))) d1
      · exact co_pc (fun _ _ => rfl) (fun y hy => by rw [pk_un (sep y (List.mem_append_left _ (inn y hy))), pk_un (sepl y (.inr (.inl (List.mem_flatten.mpr ⟨p, q, hy⟩))))]) (s4 p (List.mem_append_right _ (List.mem_cons_of_mem _ q)))
  · by_cases e : y = x
    · rw [e, pk_us]
      exact ⟨fun z => absurd z n.1, fun z => absurd z.2 (by decide)⟩
    · rw [pk_un e, ← s6, pm.mem_iff, List.mem_cons]
      exact ⟨fun z => .inr z, fun z => z.resolve_left e⟩
  · cases po with
    | nil => trivial
    | cons u T' =>
      refine li_cg T' u u ?_ (fun y hy => ?_) d3.2.2
      · rw [pk_un (sep u (List.mem_append_right _ List.mem_cons_self)), pk_un (sepl u (.inr (.inr List.mem_cons_self)))]
      · rw [pk_un (sep y (List.mem_append_right _ (List.mem_cons_of_mem _ hy))), pk_un (sepl y (.inr (.inr (List.mem_cons_of_mem _ hy))))]
  · have pw := co_pw (pre ++ x :: po) [h0] c3 (li_nd (by decide) (by decide) _ h0 c1)
    exact (List.pairwise_cons.mp (List.pairwise_append.mp pw).2.1).2
