/-! A law's value: the reference works its codes as they stand, the class its parts and then their signs. -/
def RunR (V row : Nat → Int32) (a b : Nat) (s1 s2 : List Int32) : Prop := a ≤ b ∧ runR V row (b - a) a s1 = some s2
def RunW (V cd : Nat → Int32) (a b d : Nat) (E : Nat → Nat → Int32) (d' : Nat) (E' : Nat → Nat → Int32) : Prop := a ≤ b ∧ runW V cd (b - a) a d E = some (d', E')
theorem runR_app {V row : Nat → Int32} : ∀ (a b p : Nat) (s1 s2 : List Int32), runR V row a p s1 = some s2 → runR V row (a + b) p s1 = runR V row b (p + a) s2 := by
  intro a
  induction a with
  | zero => intro b p s1 s2 h; rw [runR] at h; cases h; rw [Nat.zero_add, Nat.add_zero]
  | succ a ih =>
    intro b p s1 s2 h
    rw [runR] at h
    rw [show a + 1 + b = (a + b) + 1 by omega, runR]
    cases e : stepR V (row p) s1 with
    | none => rw [e] at h; cases h
    | some s' =>
      rw [e] at h
      dsimp only at h ⊢
      rw [ih b (p + 1) s' s2 h, show p + 1 + a = p + (a + 1) by omega]
theorem runW_app {V cd : Nat → Int32} : ∀ (a b p d : Nat) (E : Nat → Nat → Int32) (d' : Nat) (E' : Nat → Nat → Int32), runW V cd a p d E = some (d', E') → runW V cd (a + b) p d E = runW V cd b (p + a) d' E' := by
  intro a
  induction a with
  | zero => intro b p d E d' E' h; rw [runW] at h; cases h; rw [Nat.zero_add, Nat.add_zero]
  | succ a ih =>
    intro b p d E d' E' h
    rw [runW] at h
    rw [show a + 1 + b = (a + b) + 1 by omega, runW]
    cases e : stepW V (cd p) d E with
    | none => rw [e] at h; cases h
    | some q =>
      obtain ⟨q1, q2⟩ := q
      rw [e] at h
      dsimp only at h ⊢
      rw [ih b (p + 1) q1 q2 d' E' h, show p + 1 + a = p + (a + 1) by omega]
theorem RunR.tr {V row : Nat → Int32} {a b c : Nat} {s1 s2 s3 : List Int32} (h1 : RunR V row a b s1 s2) (h2 : RunR V row b c s2 s3) : RunR V row a c s1 s3 := by
  obtain ⟨x1, y1⟩ := h1
  obtain ⟨x2, y2⟩ := h2
  refine ⟨by omega, ?_⟩
  rw [show c - a = (b - a) + (c - b) by omega, runR_app _ _ _ _ _ y1, show a + (b - a) = b by omega]
  exact y2
theorem RunW.tr {V cd : Nat → Int32} {a b c d1 d2 d3 : Nat} {E1 E2 E3 : Nat → Nat → Int32} (h1 : RunW V cd a b d1 E1 d2 E2) (h2 : RunW V cd b c d2 E2 d3 E3) : RunW V cd a c d1 E1 d3 E3 := by
  obtain ⟨x1, y1⟩ := h1
  obtain ⟨x2, y2⟩ := h2
  refine ⟨by omega, ?_⟩
  rw [show c - a = (b - a) + (c - b) by omega, runW_app _ _ _ _ _ _ _ y1, show a + (b - a) = b by omega]
  exact y2
theorem RunR.one {V row : Nat → Int32} {a : Nat} {s1 s2 : List Int32} (h : stepR V (row a) s1 = some s2) : RunR V row a (a + 1) s1 s2 := by
  refine ⟨Nat.le_succ _, ?_⟩
  rw [show a + 1 - a = 0 + 1 by omega, runR, h]
  rfl
theorem RunW.one {V cd : Nat → Int32} {a d1 d2 : Nat} {E1 E2 : Nat → Nat → Int32} (h : stepW V (cd a) d1 E1 = some (d2, E2)) : RunW V cd a (a + 1) d1 E1 d2 E2 := by
  refine ⟨Nat.le_succ _, ?_⟩
  rw [show a + 1 - a = 0 + 1 by omega, runW, h]
  rfl
theorem RunR.nil {V row : Nat → Int32} {a : Nat} {s1 : List Int32} : RunR V row a a s1 s1 := ⟨Nat.le_refl _, by rw [Nat.sub_self]; rfl⟩
theorem RunW.nil {V cd : Nat → Int32} {a d : Nat} {E : Nat → Nat → Int32} : RunW V cd a a d E d E := ⟨Nat.le_refl _, by rw [Nat.sub_self]; rfl⟩
/-! rows of a depth -/
def SVv (b s t : Int32) : Int32 := if b = 21 then s - t else s + t
def TVv (ag ah s : Int32) : Int32 := if ag = 25 then (if ah = s then 1 else 0) else if ag = 24 then (if s ≤ ah then 0 else 1) else s
def FVv (kb kp v : Int32) : Int32 := if kb = 27 then (if kp = 0 then (if v = 0 then 0 else 1) else 1) else if kb = 26 then (if kp = 0 then 0 else if v = 0 then 0 else 1) else v
theorem up2_at (E : Nat → Nat → Int32) (o i : Nat) (v : Int32) (o' k : Nat) : up2 E o i v o' k = if o' = o then (if k = i then v else E o' k) else E o' k := by
  unfold up2
  by_cases c : o' = o
  · subst c
    rw [if_pos rfl, va_up_self]
    by_cases c2 : k = i
    · rw [if_pos c2, c2, va_up_self]
    · rw [if_neg c2, va_up_ne _ _ c2]
  · rw [if_neg c, va_up_ne _ _ c]
def SVe (E : Nat → Nat → Int32) (i : Nat) : Int32 := SVv (E 20 i) (E 19 i) (E 21 i)
def TVe (E : Nat → Nat → Int32) (i : Nat) : Int32 := TVv (E 18 i) (E 17 i) (SVe E i)
def FVe (E : Nat → Nat → Int32) (i : Nat) : Int32 := FVv (E 16 i) (E 15 i) (TVe E i)
theorem sumsE_at (i : Nat) (E : Nat → Nat → Int32) (o k : Nat) : sumsE i E o k = if k = i then (if o = 22 then 0 else if o = 19 then SVe E i else E o k) else E o k := by
  unfold sumsE SVe SVv
  rw [up2_at, up2_at]
  by_cases c : k = i
  · rw [if_pos c, if_pos c, if_pos c]
  · rw [if_neg c, if_neg c, if_neg c]
    repeat (first | rfl | split)
theorem testsE_at (i : Nat) (E : Nat → Nat → Int32) (o k : Nat) : testsE i E o k = if k = i then (if o = 20 then 20 else if o = 19 then 0 else if o = 18 then 0 else if o = 15 then FVe E i else if o = 22 then 0 else E o k) else E o k := by
  have e : tvD i (sumsE i E) (tvC i (sumsE i E) (tvB i (sumsE i E) (tvA i (sumsE i E)))) = FVe E i := by
    unfold tvD tvC tvB tvA FVe TVe FVv TVv
    simp only [sumsE_at, if_true, if_false, show ¬ (18 : Nat) = 22 by decide, show ¬ (18 : Nat) = 19 by decide, show ¬ (19 : Nat) = 22 by decide, show ¬ (17 : Nat) = 22 by decide, show ¬ (17 : Nat) = 19 by decide, show ¬ (16 : Nat) = 22 by decide, show ¬ (16 : Nat) = 19 by decide, show ¬ (15 : Nat) = 22 by decide, show ¬ (15 : Nat) = 19 by decide]
    by_cases c : E 16 i = 27
    · rw [if_pos c, if_pos c, c, if_neg (show ¬ (27 : Int32) = 26 by decide)]
    · rw [if_neg c, if_neg c]
  unfold testsE
  rw [e, up2_at, up2_at, up2_at, up2_at, sumsE_at]
  by_cases c : k = i
  · rw [if_pos c, if_pos c, if_pos c, if_pos c, if_pos c, if_pos c]
    by_cases c1 : o = 20
    · rw [if_pos c1, if_pos c1]
    · rw [if_neg c1, if_neg c1]
      by_cases c2 : o = 19
      · rw [if_pos c2, if_pos c2]
      · rw [if_neg c2, if_neg c2, if_neg c2]
  · rw [if_neg c, if_neg c, if_neg c, if_neg c, if_neg c, if_neg c]
    repeat (first | rfl | split)
theorem opensE_at (i : Nat) (E : Nat → Nat → Int32) (o k : Nat) : opensE i E o k = if k = i then (if o = 22 then 0 else if o = 20 then 20 else if o = 19 then 0 else if o = 18 then 0 else if o = 16 then 0 else E o k) else E o k := by
  unfold opensE
  rw [up2_at, up2_at, up2_at, up2_at, up2_at]
  by_cases c : k = i
  · rw [if_pos c, if_pos c, if_pos c, if_pos c, if_pos c, if_pos c]
  · rw [if_neg c, if_neg c, if_neg c, if_neg c, if_neg c, if_neg c]
    repeat (first | rfl | split)
theorem nots_cg {E E' : Nat → Nat → Int32} : ∀ (d : Nat) (v : Int32), (∀ k, k ≤ d → E' 23 k = E 23 k) → nots E' d v = nots E d v := by
  intro d
  induction d with
  | zero => intro v _; rfl
  | succ d ih =>
    intro v h
    rw [nots, nots, h (d + 1) (Nat.le_refl _)]
    split
    · exact ih _ (fun k hk => h k (by omega))
    · rfl
def BaseE (d : Nat) (E : Nat → Nat → Int32) : Prop := ∀ v, nots E d v = (d, v)
/-- rows that a level leaves -/
def KE (j d : Nat) (E E' : Nat → Nat → Int32) : Prop := ∀ o k, (k < d ∨ (k = d ∧ (o < 23 - 2 * j ∨ 22 < o))) → E' o k = E o k
def KE0 (d : Nat) (E E' : Nat → Nat → Int32) : Prop := ∀ o k, (k < d ∨ (k = d ∧ o ≠ 21)) → E' o k = E o k
def KEj (j d : Nat) (E E' : Nat → Nat → Int32) : Prop := if j = 0 then KE0 d E E' else KE j d E E'
theorem KE.tr {j d : Nat} {E E' E'' : Nat → Nat → Int32} (h1 : KE j d E E') (h2 : KE j d E' E'') : KE j d E E'' := fun o k h => (h2 o k h).trans (h1 o k h)
theorem KEj.up {j d : Nat} {E E' : Nat → Nat → Int32} (h : KEj j d E E') (hj : j ≤ 3) : KE (j + 1) d E E' := by
  unfold KEj at h
  split at h
  · intro o k y; exact h o k (by omega)
  · intro o k y; exact h o k (by omega)
theorem KEj.at {j d : Nat} {E E' : Nat → Nat → Int32} (h : KEj j d E E') {o : Nat} (ho : o < 21 ∧ o < 23 - 2 * j) : E' o d = E o d := by
  unfold KEj at h
  split at h
  · exact h o d (by omega)
  · exact h o d (by omega)
theorem BaseE.ke {j d : Nat} {E E' : Nat → Nat → Int32} (B : BaseE d E) (h : KE j d E E') : BaseE d E' := fun v => by
  rw [nots_cg d v (fun k hk => h 23 k (by omega))]
  exact B v
def PreE (j d : Nat) (E : Nat → Nat → Int32) : Prop := (1 ≤ j → E 22 d = 0) ∧ (2 ≤ j → E 19 d = 0 ∧ E 20 d = 20) ∧ (3 ≤ j → E 18 d = 0) ∧ (4 ≤ j → E 16 d = 0)
def valE (j d : Nat) (E : Nat → Nat → Int32) : Int32 := if j = 1 then E 21 d else if j = 2 then SVe E d else if j = 3 then TVe E d else FVe E d
def FinE (j d : Nat) (E E' : Nat → Nat → Int32) (v : Int32) : Prop := if j = 0 then E' 21 d = (if E 22 d = 0 then v else E 21 d * v) else valE j d E' = v
theorem PreE.dn {j d : Nat} {E : Nat → Nat → Int32} (h : PreE (j + 1) d E) : PreE j d E := ⟨fun y => h.1 (by omega), fun y => h.2.1 (by omega), fun y => h.2.2.1 (by omega), fun y => h.2.2.2 (by omega)⟩
/-- the first part of a level -/
theorem FinE.up {j d : Nat} {E E2 : Nat → Nat → Int32} {v : Int32} (hj : j ≤ 3) (P : PreE (j + 1) d E) (K : KEj j d E E2) (F : FinE j d E E2 v) : valE (j + 1) d E2 = v := by
  have hh : j = 0 ∨ j = 1 ∨ j = 2 ∨ j = 3 := by omega
  rcases hh with e | e | e | e
  · subst e
    have F : E2 21 d = (if E 22 d = 0 then v else E 21 d * v) := F
    rw [if_pos (P.1 (by decide))] at F
    exact F
  · subst e
    have F : E2 21 d = v := F
    show SVv (E2 20 d) (E2 19 d) (E2 21 d) = v
    rw [K.at (o := 20) (by decide), K.at (o := 19) (by decide), (P.2.1 (by decide)).1, (P.2.1 (by decide)).2, F]
    show (0 : Int32) + v = v
    exact Int32.zero_add v
  · subst e
    have F : SVe E2 d = v := F
    show TVv (E2 18 d) (E2 17 d) (SVe E2 d) = v
    rw [K.at (o := 18) (by decide), P.2.2.1 (by decide), F]
    rfl
  · subst e
    have F : TVe E2 d = v := F
    show FVv (E2 16 d) (E2 15 d) (TVe E2 d) = v
    rw [K.at (o := 16) (by decide), P.2.2.2 (by decide), F]
    rfl
