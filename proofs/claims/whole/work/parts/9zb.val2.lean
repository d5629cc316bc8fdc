/-! A law's value: the signs. -/
theorem lvl_2 {k : Int32} (h : lvl k = 2) : k = 43 ∨ k = 45 := by
  rcases lvl_cases k with ⟨_, e⟩ | ⟨k2, e⟩ | ⟨k2, e⟩ | ⟨k2, e⟩ | ⟨_, _, _, _, _, _, _, e⟩
  · rw [e] at h; exact absurd h (by decide)
  · exact k2
  · rw [e] at h; exact absurd h (by decide)
  · rw [e] at h; exact absurd h (by decide)
  · rw [e] at h; exact absurd h (by decide)
theorem lvl_1 {k : Int32} (h : lvl k = 1) : k = 60 ∨ k = 61 := by
  rcases lvl_cases k with ⟨_, e⟩ | ⟨k2, e⟩ | ⟨k2, e⟩ | ⟨k2, e⟩ | ⟨_, _, _, _, _, _, _, e⟩
  · rw [e] at h; exact absurd h (by decide)
  · rw [e] at h; exact absurd h (by decide)
  · exact k2
  · rw [e] at h; exact absurd h (by decide)
  · rw [e] at h; exact absurd h (by decide)
theorem lvl_0 {k : Int32} (h : lvl k = 0) : k = 88 ∨ k = 89 := by
  rcases lvl_cases k with ⟨_, e⟩ | ⟨k2, e⟩ | ⟨k2, e⟩ | ⟨k2, e⟩ | ⟨_, _, _, _, _, _, _, e⟩
  · rw [e] at h; exact absurd h (by decide)
  · rw [e] at h; exact absurd h (by decide)
  · rw [e] at h; exact absurd h (by decide)
  · exact k2
  · rw [e] at h; exact absurd h (by decide)
theorem stepR_sign {V : Nat → Int32} {k a b : Int32} {r : List Int32} {j : Nat} (hj : j ≤ 3) (hl : lvl k = nI (3 - j)) (hr : r.length + 2 < 32) : stepR V (-k) (b :: a :: r) = some (jnd k a b :: r) := by
  have hn : ¬ 32 ≤ (b :: a :: r).length := by rw [List.length_cons, List.length_cons]; omega
  have k7 : k = 42 ∨ (k = 43 ∨ k = 45) ∨ (k = 60 ∨ k = 61) ∨ (k = 88 ∨ k = 89) := by
    have hh : j = 0 ∨ j = 1 ∨ j = 2 ∨ j = 3 := by omega
    rcases hh with e | e | e | e <;> subst e
    · exact Or.inl (lvl_3 hl)
    · exact Or.inr (Or.inl (lvl_2 hl))
    · exact Or.inr (Or.inr (Or.inl (lvl_1 hl)))
    · exact Or.inr (Or.inr (Or.inr (lvl_0 hl)))
  rw [stepR.eq_def, if_neg hn]
  rcases k7 with e | (e | e) | (e | e) | (e | e) <;> subst e <;> rw [if_neg (by decide), if_neg (by decide), if_neg (by decide)] <;> rfl
theorem ke_sums {d : Nat} {E : Nat → Nat → Int32} : KE 2 d E (sumsE d E) := fun o k h => by
  rw [sumsE_at]
  by_cases c : k = d
  · rw [if_pos c, if_neg (by omega), if_neg (by omega)]
  · rw [if_neg c]
theorem ke_tests {d : Nat} {E : Nat → Nat → Int32} : KE 4 d E (testsE d E) := fun o k h => by
  rw [testsE_at]
  by_cases c : k = d
  · rw [if_pos c, if_neg (by omega), if_neg (by omega), if_neg (by omega), if_neg (by omega), if_neg (by omega)]
  · rw [if_neg c]
theorem ke_up {j d o' : Nat} {E : Nat → Nat → Int32} {v : Int32} (h' : 23 - 2 * j ≤ o' ∧ o' ≤ 22) : KE j d E (up2 E o' d v) := fun o k h => by
  rw [up2_at]
  by_cases c : o = o'
  · rw [if_pos c, if_neg (by omega)]
  · rw [if_neg c]
theorem KE.mono {j j' d : Nat} {E E' : Nat → Nat → Int32} (h : KE j d E E') (hj : j ≤ j') : KE j' d E E' := fun o k y => h o k (by omega)
theorem stepW_sign {j d : Nat} {E : Nat → Nat → Int32} {V : Nat → Int32} {k v0 : Int32} (hj : j ≤ 3) (hl : lvl k = nI (3 - j)) (h18 : j = 2 → E 18 d = 0) : ∃ E1, stepW V (cdT k v0) d E = some (d, E1) ∧ PreE j d E1 ∧ KE (j + 1) d E E1 ∧ ∀ E2 v, KEj j d E1 E2 → FinE j d E1 E2 v → valE (j + 1) d E2 = jnd k (valE (j + 1) d E) v := by
  have hh : j = 0 ∨ j = 1 ∨ j = 2 ∨ j = 3 := by omega
  rcases hh with e | e | e | e
  · subst e
    have e := lvl_3 hl
    subst e
    refine ⟨up2 E 22 d 22, rfl, ⟨fun y => by omega, fun y => by omega, fun y => by omega, fun y => by omega⟩, ke_up (by decide), fun E2 v K F => ?_⟩
    have F : E2 21 d = (if up2 E 22 d 22 22 d = 0 then v else up2 E 22 d 22 21 d * v) := F
    rw [up2_at, if_pos rfl, if_pos rfl, if_neg (by decide), up2_at, if_neg (by decide)] at F
    exact F
  · subst e
    have main : ∀ c : Int32, ∃ E1, some (d, up2 (sumsE d E) 20 d c) = some (d, E1) ∧ PreE 1 d E1 ∧ KE 2 d E E1 ∧ ∀ E2 v, KEj 1 d E1 E2 → FinE 1 d E1 E2 v → valE 2 d E2 = SVv c (valE 2 d E) v := by
      intro c
      refine ⟨_, rfl, ⟨fun _ => ?_, fun y => by omega, fun y => by omega, fun y => by omega⟩, ke_sums.tr (ke_up (by decide)), fun E2 v K F => ?_⟩
      · rw [up2_at, if_neg (by decide), sumsE_at, if_pos rfl, if_pos rfl]
      · have F : E2 21 d = v := F
        show SVv (E2 20 d) (E2 19 d) (E2 21 d) = SVv c (SVe E d) v
        rw [K.at (o := 20) (by decide), K.at (o := 19) (by decide), F, up2_at, if_pos rfl, if_pos rfl, up2_at, if_neg (by decide), sumsE_at, if_pos rfl, if_neg (by decide), if_pos rfl]
    rcases lvl_2 hl with e | e
    · subst e; exact main 20
    · subst e; exact main 21
  · subst e
    have z := h18 rfl
    have main : ∀ c : Int32, ∃ E1, some (d, up2 (up2 (up2 (up2 (sumsE d E) 17 d (sumsE d E 19 d)) 18 d c) 19 d 0) 20 d 20) = some (d, E1) ∧ PreE 2 d E1 ∧ KE 3 d E E1 ∧ ∀ E2 v, KEj 2 d E1 E2 → FinE 2 d E1 E2 v → valE 3 d E2 = TVv c (valE 3 d E) v := by
      intro c
      refine ⟨_, rfl, ⟨fun _ => ?_, fun _ => ⟨?_, ?_⟩, fun y => by omega, fun y => by omega⟩, ((((ke_sums.mono (by decide)).tr (ke_up (by decide))).tr (ke_up (by decide))).tr (ke_up (by decide))).tr (ke_up (by decide)), fun E2 v K F => ?_⟩
      · rw [up2_at, if_neg (by decide), up2_at, if_neg (by decide), up2_at, if_neg (by decide), up2_at, if_neg (by decide), sumsE_at, if_pos rfl, if_pos rfl]
      · rw [up2_at, if_neg (by decide), up2_at, if_pos rfl, if_pos rfl]
      · rw [up2_at, if_pos rfl, if_pos rfl]
      · have F : SVe E2 d = v := F
        have e3 : valE 3 d E = SVe E d := by
          show TVv (E 18 d) (E 17 d) (SVe E d) = _
          rw [z]
          rfl
        rw [e3]
        show TVv (E2 18 d) (E2 17 d) (SVe E2 d) = TVv c (SVe E d) v
        rw [F, K.at (o := 18) (by decide), K.at (o := 17) (by decide), up2_at, if_neg (by decide), up2_at, if_neg (by decide), up2_at, if_pos rfl, if_pos rfl, up2_at, if_neg (by decide), up2_at, if_neg (by decide), up2_at, if_neg (by decide), up2_at, if_pos rfl, if_pos rfl, sumsE_at, if_pos rfl, if_neg (by decide), if_pos rfl]
    rcases lvl_1 hl with e | e
    · subst e; exact main 24
    · subst e; exact main 25
  · subst e
    have main : ∀ c : Int32, ∃ E1, some (d, up2 (testsE d E) 16 d c) = some (d, E1) ∧ PreE 3 d E1 ∧ KE 4 d E E1 ∧ ∀ E2 v, KEj 3 d E1 E2 → FinE 3 d E1 E2 v → valE 4 d E2 = FVv c (valE 4 d E) v := by
      intro c
      have g : ∀ o v, ¬ o = 16 → testsE d E o d = v → up2 (testsE d E) 16 d c o d = v := fun o v ho e => by rw [up2_at, if_neg ho]; exact e
      refine ⟨_, rfl, ⟨fun _ => g 22 _ (by decide) ?_, fun _ => ⟨g 19 _ (by decide) ?_, g 20 _ (by decide) ?_⟩, fun _ => g 18 _ (by decide) ?_, fun y => by omega⟩, ke_tests.tr (ke_up (by decide)), fun E2 v K F => ?_⟩
      · rw [testsE_at, if_pos rfl, if_neg (by decide), if_neg (by decide), if_neg (by decide), if_neg (by decide), if_pos rfl]
      · rw [testsE_at, if_pos rfl, if_neg (by decide), if_pos rfl]
      · rw [testsE_at, if_pos rfl, if_pos rfl]
      · rw [testsE_at, if_pos rfl, if_neg (by decide), if_neg (by decide), if_pos rfl]
      · have F : TVe E2 d = v := F
        show FVv (E2 16 d) (E2 15 d) (TVe E2 d) = FVv c (FVe E d) v
        rw [F, K.at (o := 16) (by decide), K.at (o := 15) (by decide), up2_at, if_pos rfl, if_pos rfl, up2_at, if_neg (by decide), testsE_at, if_pos rfl, if_neg (by decide), if_neg (by decide), if_neg (by decide), if_pos rfl]
    rcases lvl_0 hl with e | e
    · subst e; exact main 26
    · subst e; exact main 27
