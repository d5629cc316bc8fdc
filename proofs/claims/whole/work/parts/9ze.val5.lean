/-! A law's value: what it hangs on. -/
theorem stepR_cg {V V' : Nat → Int32} {c : Int32} {st : List Int32} (h : ∀ i, 1 ≤ i → i ≤ 6 → (c = -79 ∨ c = -80 ∨ i ≤ 4) → V i = V' i) : stepR V c st = stepR V' c st := by
  rw [stepR.eq_def, stepR.eq_def]
  by_cases c1 : 32 ≤ st.length
  · rw [if_pos c1, if_pos c1]
  rw [if_neg c1, if_neg c1]
  by_cases c2 : ¬ c < 0
  · rw [if_pos c2, if_pos c2]
  rw [if_neg c2, if_neg c2]
  by_cases c3 : ¬ (-c - 75) < 0 ∧ ¬ 6 ≤ (-c - 75)
  · rw [if_pos c3, if_pos c3]
    obtain ⟨f, hf, ef⟩ := nI_of c3.1
    have c4 := c3.2
    rw [ef, show (6 : Int32) = nI 6 by decide, nI_leI (by decide) hf] at c4
    have hc : c = -(nI f + 75) := by
      rw [← ef, Int32.sub_add_cancel, Int32.neg_neg]
    rw [ef, nI_clamp hf, h (f + 1) (by omega) (by omega) ?_]
    by_cases x : f + 1 ≤ 4
    · exact Or.inr (Or.inr x)
    · have : f = 4 ∨ f = 5 := by omega
      rcases this with e | e
      · rw [hc, e]; exact Or.inl (by decide)
      · rw [hc, e]; exact Or.inr (Or.inl (by decide))
  · rw [if_neg c3, if_neg c3]
theorem runR_cg {V V' row : Nat → Int32} : ∀ (k p : Nat) (st : List Int32), (∀ q, p ≤ q → q < p + k → ∀ i, 1 ≤ i → i ≤ 6 → (row q = -79 ∨ row q = -80 ∨ i ≤ 4) → V i = V' i) → runR V row k p st = runR V' row k p st := by
  intro k
  induction k with
  | zero => intro p st _; rfl
  | succ k ih =>
    intro p st h
    rw [runR, runR, stepR_cg (h p (Nat.le_refl _) (by omega))]
    cases stepR V' (row p) st with
    | none => rfl
    | some s' => exact ih (p + 1) s' (fun q q1 q2 => h q (by omega) (by omega))
theorem lawV_lfC {row : Nat → Int32} {a b : Nat} : lfC (lawV row a b) := fun V V' h => by
  unfold lawV
  rw [runR_cg (b - a) a [] (fun q _ _ i h1 h2 _ => h i h1 h2)]
theorem lawV_un {row : Nat → Int32} {a b : Nat} (hr : ∀ p, a ≤ p → p < b → ¬ row p = -79 ∧ ¬ row p = -80) {V V' : Nat → Int32} (h : ∀ i, 1 ≤ i → i ≤ 4 → V i = V' i) : lawV row a b V = lawV row a b V' := by
  unfold lawV
  rw [runR_cg (b - a) a [] (fun q q1 q2 i h1 _ h3 => ?_)]
  obtain ⟨x1, x2⟩ := hr q q1 (by omega)
  rcases h3 with e | e | e
  · exact absurd e x1
  · exact absurd e x2
  · exact h i h1 e
/-- what is written is marked where it hangs on the time -/
def TmS (l : Nat) (S T : ES) : Prop := S.2.1 ≤ T.2.1 ∧ (∀ p, p < S.2.1 → T.2.2.1 p = S.2.2.1 p) ∧ ∀ t, t < 16 → S.2.2.2 = nI t → ∃ t', t' < 16 ∧ T.2.2.2 = nI t' ∧ (∀ u, u < 4 → t'.testBit u = false → t.testBit u = false) ∧ (t'.testBit l = false → ∀ p, S.2.1 ≤ p → p < T.2.1 → ¬ T.2.2.1 p = -79 ∧ ¬ T.2.2.1 p = -80)
theorem TmS.rf {l : Nat} {S T : ES} (h : T.2 = S.2) : TmS l S T := by
  unfold TmS
  rw [h]
  exact ⟨Nat.le_refl _, fun _ _ => rfl, fun t ht e => ⟨t, ht, e, fun _ _ h => h, fun _ p p1 p2 => by omega⟩⟩
theorem TmS.tr {l : Nat} {S T U : ES} (hl : l < 4) (A : TmS l S T) (B : TmS l T U) : TmS l S U := by
  obtain ⟨a1, a2, a3⟩ := A
  obtain ⟨b1, b2, b3⟩ := B
  refine ⟨by omega, fun p hp => by rw [b2 p (by omega)]; exact a2 p hp, fun t ht e => ?_⟩
  obtain ⟨t1, x1, x2, x3, x4⟩ := a3 t ht e
  obtain ⟨t2, y1, y2, y3, y4⟩ := b3 t1 x1 x2
  refine ⟨t2, y1, y2, fun u hu h => x3 u hu (y3 u hu h), fun h p p1 p2 => ?_⟩
  by_cases c : p < T.2.1
  · rw [b2 p c]; exact x4 (y3 l hl h) p p1 c
  · exact y4 h p (by omega) p2
theorem TmS.wr {l : Nat} {S : ES} {c : Int32} (hc : ¬ c = -79 ∧ ¬ c = -80) : TmS l S (wrt c S) := by
  unfold wrt
  split
  · refine ⟨Nat.le_succ _, fun p hp => by show va_up S.2.2.1 S.2.1 c p = _; rw [va_up_ne _ _ (by omega)], fun t ht e => ⟨t, ht, e, fun _ _ h => h, fun _ p p1 p2 => ?_⟩⟩
    have p2 : p < S.2.1 + 1 := p2
    have : p = S.2.1 := by omega
    subst this
    show ¬ va_up S.2.2.1 S.2.1 c S.2.1 = -79 ∧ ¬ va_up S.2.2.1 S.2.1 c S.2.1 = -80
    rw [va_up_self]
    exact hc
  · exact TmS.rf rfl
theorem tm_or {l t : Nat} (hl : l < 4) (ht : t < 16) : nI t ||| ((1 : Int32) <<< (nI l &&& 31)) = nI (t ||| 2 ^ l) ∧ t ||| 2 ^ l < 16 ∧ (t ||| 2 ^ l).testBit l = true ∧ ∀ u, u < 4 → (t ||| 2 ^ l).testBit u = false → t.testBit u = false := by
  have : ∀ (l : Fin 4) (t : Fin 16), nI t.1 ||| ((1 : Int32) <<< (nI l.1 &&& 31)) = nI (t.1 ||| 2 ^ l.1) ∧ t.1 ||| 2 ^ l.1 < 16 ∧ (t.1 ||| 2 ^ l.1).testBit l.1 = true ∧ ∀ u : Fin 4, (t.1 ||| 2 ^ l.1).testBit u.1 = false → t.1.testBit u.1 = false := by decide +kernel
  obtain ⟨a1, a2, a3, a4⟩ := this ⟨l, hl⟩ ⟨t, ht⟩
  exact ⟨a1, a2, a3, fun u hu => a4 ⟨u, hu⟩⟩
theorem tm_bit {l t : Nat} (hl : l < 4) (ht : t < 16) : (nI t >>> (nI l &&& 31)) &&& 1 = 0 ↔ t.testBit l = false := by
  have : ∀ (l : Fin 4) (t : Fin 16), (nI t.1 >>> (nI l.1 &&& 31)) &&& 1 = 0 ↔ t.1.testBit l.1 = false := by decide +kernel
  exact this ⟨l, hl⟩ ⟨t, ht⟩
theorem TmS.fact {l : Nat} {S : ES} {k : Int32} (hl : l < 4) (hk : isF k = true) : TmS l S (tmE (nI l) k (wrt (-k) S)) := by
  by_cases a : S.1.1 = 0
  · have e0 : (wrt (-k) S).1.1 = 0 := by rw [wrt_1]; exact a
    have e1 : (tmE (nI l) k (wrt (-k) S)).2.1 = S.2.1 + 1 := by rw [tmE, if_pos e0, wrt, if_pos a]
    have e2 : (tmE (nI l) k (wrt (-k) S)).2.2.1 = va_up S.2.2.1 S.2.1 (-k) := by rw [tmE, if_pos e0, wrt, if_pos a]
    have e3 : (tmE (nI l) k (wrt (-k) S)).2.2.2 = S.2.2.2 ||| (if k = 79 then 1 <<< (nI l &&& 31) else if k = 80 then 1 <<< (nI l &&& 31) else 0) := by rw [tmE, if_pos e0, wrt, if_pos a]
    unfold TmS
    rw [e1, e2, e3]
    refine ⟨Nat.le_succ _, fun p hp => by rw [va_up_ne _ _ (by omega)], fun t ht e => ?_⟩
    rw [e]
    obtain ⟨o1, o2, o3, o4⟩ := tm_or hl ht
    have z : ∀ p, S.2.1 ≤ p → p < S.2.1 + 1 → p = S.2.1 := fun p _ _ => by omega
    rcases isF_or hk with x | x | x | x | x | x <;> subst x
    · exact ⟨t, ht, Int32.or_zero, fun _ _ h => h, fun _ p p1 p2 => by rw [z p p1 p2, va_up_self]; decide⟩
    · exact ⟨t, ht, Int32.or_zero, fun _ _ h => h, fun _ p p1 p2 => by rw [z p p1 p2, va_up_self]; decide⟩
    · exact ⟨t, ht, Int32.or_zero, fun _ _ h => h, fun _ p p1 p2 => by rw [z p p1 p2, va_up_self]; decide⟩
    · exact ⟨t, ht, Int32.or_zero, fun _ _ h => h, fun _ p p1 p2 => by rw [z p p1 p2, va_up_self]; decide⟩
    · exact ⟨_, o2, o1, o4, fun h => by rw [o3] at h; exact absurd h (by decide)⟩
    · exact ⟨_, o2, o1, o4, fun h => by rw [o3] at h; exact absurd h (by decide)⟩
  · have e0 : ¬ (wrt (-k) S).1.1 = 0 := by rw [wrt_1]; exact a
    refine TmS.rf ?_
    rw [tmE, if_neg e0, wrt, if_neg a]
section VAL5
variable {kd pc nv : Nat → Int32} {K l : Nat}
theorem lvl_wr {k : Int32} {j : Nat} (hj : j ≤ 3) (h : lvl k = nI (3 - j)) : ¬ -k = -79 ∧ ¬ -k = -80 := by
  have k7 : k = 42 ∨ (k = 43 ∨ k = 45) ∨ (k = 60 ∨ k = 61) ∨ (k = 88 ∨ k = 89) := by
    have hh : j = 0 ∨ j = 1 ∨ j = 2 ∨ j = 3 := by omega
    rcases hh with e | e | e | e <;> subst e
    · exact Or.inl (lvl_3 h)
    · exact Or.inr (Or.inl (lvl_2 h))
    · exact Or.inr (Or.inr (Or.inl (lvl_1 h)))
    · exact Or.inr (Or.inr (Or.inr (lvl_0 h)))
  rcases k7 with e | (e | e) | (e | e) | (e | e) <;> subst e <;> decide
theorem TmS.lp {C : ES → ES} {j : Nat} (hl : l < 4) (hj : j ≤ 3) (M : ∀ S, TmS l S (C S)) : ∀ k S, TmS l S (lpc kd C (nI (3 - j)) k S) := by
  intro k
  induction k with
  | zero => intro S; exact TmS.rf rfl
  | succ k ih =>
    intro S
    rw [lpc]
    by_cases q : S.1.1 = 0 ∧ lvl (kd S.1.2) = nI (3 - j)
    · rw [if_pos q]
      exact TmS.tr hl (TmS.tr hl (TmS.tr hl (TmS.rf rfl) (M (onE stp S))) (TmS.wr (lvl_wr hj q.2))) (ih _)
    · rw [if_neg q]; exact TmS.rf rfl
theorem TmS.ch {P : ES → ES} (hl : l < 4) (M : ∀ S, TmS l S (P S)) : ∀ j, j ≤ 4 → ∀ S, TmS l S (chn kd K P j S) := by
  intro j
  induction j with
  | zero => intro _ S; exact M S
  | succ j ih =>
    intro hj S
    rw [chn]
    exact TmS.tr hl (ih (by omega) S) (TmS.lp hl (by omega) (ih (by omega)) _ _)
theorem TmS.pr (hl : l < 4) (hnv : ∀ i, kd i = 2 → ∃ k, k ≤ 9999 ∧ nv i = nI k) : ∀ r S, TmS l S (prt kd pc nv (nI l) K r S) := by
  intro r
  induction r with
  | zero =>
    intro S
    rw [prt]
    split
    · split <;> exact TmS.rf rfl
    · exact TmS.rf rfl
  | succ r ih =>
    intro S
    rw [prt]
    by_cases a : S.1.1 = 0
    · rw [if_pos a]
      by_cases c : isSt (kd S.1.2) = true
      · rw [if_pos c]
        by_cases c2 : kd S.1.2 = 2
        · rw [if_pos c2]
          obtain ⟨k, k1, k2⟩ := hnv _ c2
          refine TmS.tr hl (T := onE stp S) (TmS.rf rfl) (TmS.wr ?_)
          rw [k2]
          have hp : ¬ nI k < 0 := nI_pos (by omega)
          exact ⟨fun e => hp (by rw [e]; decide), fun e => hp (by rw [e]; decide)⟩
        rw [if_neg c2]
        by_cases c3 : kd S.1.2 = 87
        · rw [if_pos c3]
          exact TmS.tr hl (TmS.tr hl (TmS.rf rfl) (ih (onE stp S))) (TmS.wr (by decide))
        rw [if_neg c3]
        by_cases c4 : isF (kd S.1.2) = true
        · rw [if_pos c4]
          exact TmS.tr hl (T := onE stp S) (TmS.rf rfl) (TmS.fact hl c4)
        rw [if_neg c4]
        exact TmS.tr hl (TmS.tr hl (TmS.rf rfl) (TmS.ch hl ih 4 (Nat.le_refl _) (onE stp S))) (TmS.rf rfl)
      · rw [if_neg c]; exact TmS.rf rfl
    · rw [if_neg a]; exact TmS.rf rfl
end VAL5
