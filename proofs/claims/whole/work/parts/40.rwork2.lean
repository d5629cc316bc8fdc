/-- nots are closed over a value -/
def nots (E : Nat → Nat → Int32) : Nat → Int32 → Nat × Int32
  | 0, v => (0, v)
  | d + 1, v => if E 23 (d + 1) = 1 then nots E d (if v = 0 then 1 else 0) else (d + 1, v)
theorem nots_le (E : Nat → Nat → Int32) : ∀ (d : Nat) (v : Int32), (nots E d v).1 ≤ d := by
  intro d
  induction d with
  | zero => intro v; exact Nat.le_refl _
  | succ d ih =>
    intro v
    rw [nots]
    split
    · exact Nat.le_succ_of_le (ih _)
    · exact Nat.le_refl _
def termE (i : Nat) (v : Int32) (E : Nat → Nat → Int32) : Nat → Nat → Int32 := up2 E 21 i (if E 22 i = 0 then v else E 21 i * v)
/-- a bracket is closed -/
def closeW (E : Nat → Nat → Int32) : Nat → Option (Nat × (Nat → Nat → Int32))
  | 0 => none
  | j + 1 => some ((nots (testsE (j + 1) E) j (testsE (j + 1) E 15 (j + 1))).1, termE (nots (testsE (j + 1) E) j (testsE (j + 1) E 15 (j + 1))).1 (nots (testsE (j + 1) E) j (testsE (j + 1) E 15 (j + 1))).2 (testsE (j + 1) E))
/-- a code worked at a depth; none: it goes beyond the rows -/
def stepW (vl : Nat → Int32) (c : Int32) (i : Nat) (E : Nat → Nat → Int32) : Option (Nat × (Nat → Nat → Int32)) :=
  if c = 28 then (if i + 1 < 7 then some (i + 1, opensE (i + 1) (up2 E 23 (i + 1) 0)) else none)
  else if c = 30 then (if i + 1 < 7 then some (i + 1, opensE (i + 1) (up2 E 23 (i + 1) 1)) else none)
  else if c = 20 then some (i, up2 (sumsE i E) 20 i c)
  else if c = 21 then some (i, up2 (sumsE i E) 20 i c)
  else if c = 22 then some (i, up2 E 22 i c)
  else if c = 24 then some (i, up2 (up2 (up2 (up2 (sumsE i E) 17 i (sumsE i E 19 i)) 18 i c) 19 i 0) 20 i 20)
  else if c = 25 then some (i, up2 (up2 (up2 (up2 (sumsE i E) 17 i (sumsE i E 19 i)) 18 i c) 19 i 0) 20 i 20)
  else if c = 26 then some (i, up2 (testsE i E) 16 i c)
  else if c = 27 then some (i, up2 (testsE i E) 16 i c)
  else if c = 29 then closeW E i
  else if c < 100 then (if 20 ≤ c then some ((nots E i 0).1, termE (nots E i 0).1 (nots E i 0).2 E) else if c < 0 then none else some ((nots E i (vl c.toNatClampNeg)).1, termE (nots E i (vl c.toNatClampNeg)).1 (nots E i (vl c.toNatClampNeg)).2 E))
  else some ((nots E i (c - 100)).1, termE (nots E i (c - 100)).1 (nots E i (c - 100)).2 E)
/-- k codes from a place on -/
def runW (vl cd : Nat → Int32) : Nat → Nat → Nat → (Nat → Nat → Int32) → Option (Nat × (Nat → Nat → Int32))
  | 0, _, i, E => some (i, E)
  | k + 1, p, i, E => match stepW vl (cd p) i E with
    | none => none
    | some (i', E') => runW vl cd k (p + 1) i' E'
section RWORK2
variable {w : am_W} {d : Nat} {h : am_H} {Q : Option Value → am_H → Prop} {m : Nat} {E : Nat → Nat → Int32}
set_option maxHeartbeats 4000000 in
theorem c_worked {l a b e : Nat} (M : Md m h) (hl : l < 24) (ha : hI h (m + 3) l = nI a) (hb : hI h (m + 4) l = nI b) (hab : a ≤ b) (hb2 : b ≤ 6000) (hrun : runW (hI h (m + 24)) (hI h (m + 5)) (b - a) a 0 (opensE 0 (fun o => hI h (m + o))) = some (e, E)) (q : Q (some (.int (testsE 0 E 15 0))) (putE h m (testsE 0 E))) : EvM w mX10_worked (d + 2) [.ref m, .int (nI l)] h Q := by
  have hlc : (nI l).toNatClampNeg = l := nI_clamp (by omega)
  have loop : ∀ k p : Nat, p + k = b → ∀ (i : Nat) (F : Nat → Nat → Int32), i < 7 → runW (hI h (m + 24)) (hI h (m + 5)) k p i F = some (e, E) →
      Ev w (am_Z w) mX10_worked (d + 1 + 1) 14 [(0, .ref m), (1, .int (nI l)), (2, .int (nI i)), (3, .int (nI p))] [] (putE h m F) Q := by
    intro k
    induction k with
    | zero =>
      intro p hp i F hi hr
      cases hr
      refine bX10_worked_14 ⟨M.1, M.in 3 rfl rfl hl (by decide), fun _ => c_tests M (i := 0) (by decide) ⟨rfl, M.1, M.in 14 rfl (k := 0) (by decide) (by decide) (by decide), ?_⟩, fun c => absurd ?_ c⟩
      · rw [cl0, putE_i _ _ _ (by decide) (by decide)]
        exact q
      · rw [hlc, putE_o _ _ _ (by omega), hb, nI_leI (by omega) (by omega)]
        omega
    | succ k ih =>
      intro p hp i F hi hr
      have hpc : (nI p).toNatClampNeg = p := nI_clamp (by omega)
      have hic : (nI i).toNatClampNeg = i := nI_clamp (by omega)
      have hcd : hI (putE h m F) (m + 5) (nI p).toNatClampNeg = hI h (m + 5) p := by rw [hpc, putE_o _ _ _ (by omega)]
      have nx : nI p + 1 = nI (p + 1) := (nI_succ p).symm
      rw [runW] at hr
      generalize hc : hI h (m + 5) p = c at hr hcd
      have go : ∀ (i' : Nat) (F' : Nat → Nat → Int32), i' < 7 → stepW (hI h (m + 24)) c i F = some (i', F') → Ev w (am_Z w) mX10_worked (d + 1 + 1) 14 [(0, .ref m), (1, .int (nI l)), (2, .int (nI i')), (3, .int (nI p + 1))] [] (putE h m F') Q := by
        intro i' F' hi' hs
        rw [hs] at hr
        rw [nx]
        exact ih (p + 1) (by omega) i' F' hi' hr
      have t300 : ∀ (j : Nat) (v : Int32) (G : Nat → Nat → Int32), j < 7 → stepW (hI h (m + 24)) c i F = some (j, termE j v G) → Ev w (am_Z w) mX10_worked (d + 1 + 1) 300 [(0, .ref m), (1, .int (nI l)), (2, .int (nI j)), (3, .int (nI p)), (5, .int v)] [] (putE h m G) Q := by
        intro j v G hj hs
        have hjc : (nI j).toNatClampNeg = j := nI_clamp (by omega)
        have g := go j (termE j v G) hj hs
        unfold termE at g
        refine bX10_worked_300 ⟨M.1, M.in 21 rfl rfl hj (by decide), fun c1 => ⟨M.in 20 rfl rfl hj (by decide), fun h4 e4 => ?_⟩, fun c1 => ⟨M.in 20 rfl rfl hj (by decide), M.in 20 rfl rfl hj (by decide), fun h4 e4 => ?_⟩⟩
        · rw [hjc, putE_i _ _ _ (by decide) (by decide)] at c1
          rw [if_pos c1] at g
          rw [hjc, putE_s _ _ _ (by decide) (by decide)] at e4
          subst e4
          exact g
        · rw [hjc, putE_i _ _ _ (by decide) (by decide)] at c1
          rw [if_neg c1] at g
          rw [hjc, putE_i _ _ _ (by decide) (by decide), putE_s _ _ _ (by decide) (by decide)] at e4
          subst e4
          exact g
      have t268 : ∀ (j : Nat) (v : Int32) (G : Nat → Nat → Int32), j < 7 → stepW (hI h (m + 24)) c i F = some ((nots G j v).1, termE (nots G j v).1 (nots G j v).2 G) → Ev w (am_Z w) mX10_worked (d + 1 + 1) 268 [(0, .ref m), (1, .int (nI l)), (2, .int (nI j)), (3, .int (nI p)), (5, .int v)] [] (putE h m G) Q := by
        intro j
        induction j with
        | zero =>
          intro v G hj hs
          exact bX10_worked_268 ⟨fun _ => t300 0 v G (by decide) hs, fun c1 => absurd (by decide) c1⟩
        | succ j ihj =>
          intro v G hj hs
          have hjc : (nI (j + 1)).toNatClampNeg = j + 1 := nI_clamp (by omega)
          have pr : nI (j + 1) + (-1) = nI j := pk_m1 j
          rw [nots] at hs
          refine bX10_worked_268 ⟨fun c1 => absurd c1 (nI_nle (by omega) (by omega)), fun _ => ⟨M.1, M.in 22 rfl rfl hj (by decide), fun c1 => ?_, fun c1 => ?_⟩⟩
          · rw [hjc, putE_i _ _ _ (by decide) (by decide)] at c1
            rw [if_pos c1] at hs
            rw [pr]
            refine ⟨fun c2 => ihj 1 G (by omega) ?_, fun c2 => ihj 0 G (by omega) ?_⟩
            · rw [if_pos c2] at hs; exact hs
            · rw [if_neg c2] at hs; exact hs
          · rw [hjc, putE_i _ _ _ (by decide) (by decide)] at c1
            rw [if_neg c1] at hs
            exact t300 (j + 1) v G hj hs
      have t243 : ∀ v : Int32, ¬ c = 29 → stepW (hI h (m + 24)) c i F = some ((nots F i v).1, termE (nots F i v).1 (nots F i v).2 F) → Ev w (am_Z w) mX10_worked (d + 1 + 1) 243 [(0, .ref m), (1, .int (nI l)), (2, .int (nI i)), (3, .int (nI p)), (4, .int c)] [.int v] (putE h m F) Q := by
        intro v hn hs
        exact bX10_worked_243 ⟨fun c1 => absurd c1 hn, fun _ => t268 i v F hi hs⟩
      refine bX10_worked_14 ⟨M.1, M.in 3 rfl rfl hl (by decide), fun c1 => absurd c1 ?_, fun _ => ⟨M.in 4 rfl rfl (show p < 6000 by omega) (by decide), ?_⟩⟩
      · rw [hlc, putE_o _ _ _ (by omega), hb, nI_leI (by omega) (by omega)]
        omega
      rw [hcd]
      have hadd : nI i + 1 = nI (i + 1) := (nI_succ i).symm
      have hstep : ∀ r, stepW (hI h (m + 24)) c i F = r → (∃ i' F', r = some (i', F')) := by
        intro r hrr
        rw [hrr] at hr
        cases r with
        | none => cases hr
        | some x => exact ⟨x.1, x.2, rfl⟩
      refine ⟨fun c1 => ?_, fun n28 => ⟨fun c1 => ?_, fun n30 => ⟨fun c1 => ?_, fun n20 => ⟨fun c1 => ?_, fun n21 => ⟨fun c1 => ?_, fun n22 => ⟨fun c1 => ?_, fun n24 => ⟨fun c1 => ?_, fun n25 => ⟨fun c1 => ?_, fun n26 => ⟨fun c1 => ?_, fun n27 => ?_⟩⟩⟩⟩⟩⟩⟩⟩⟩
      · have hi1 : i + 1 < 7 := by
          obtain ⟨i', F', hq⟩ := hstep _ rfl
          rw [stepW, if_pos c1] at hq
          split at hq
          · assumption
          · cases hq
        have hic1 : (nI (i + 1)).toNatClampNeg = i + 1 := nI_clamp (by omega)
        refine bX10_worked_46 ⟨M.1, fun c2 => absurd (c1.symm.trans c2) (by decide), fun _ => ⟨by rw [hadd]; exact M.in 22 rfl rfl hi1 (by decide), fun h3 e3 => ?_⟩⟩
        rw [hadd, hic1, putE_s _ _ _ (by decide) (by decide)] at e3
        subst e3
        rw [hadd]
        refine c_opens M hi1 ⟨rfl, go _ _ hi1 ?_⟩
        rw [stepW, if_pos c1, if_pos hi1]
      · have hi1 : i + 1 < 7 := by
          obtain ⟨i', F', hq⟩ := hstep _ rfl
          rw [stepW, if_neg n28, if_pos c1] at hq
          split at hq
          · assumption
          · cases hq
        have hic1 : (nI (i + 1)).toNatClampNeg = i + 1 := nI_clamp (by omega)
        refine bX10_worked_46 ⟨M.1, fun _ => ⟨by rw [hadd]; exact M.in 22 rfl rfl hi1 (by decide), fun h3 e3 => ?_⟩, fun c2 => absurd c1 c2⟩
        rw [hadd, hic1, putE_s _ _ _ (by decide) (by decide)] at e3
        subst e3
        rw [hadd]
        refine c_opens M hi1 ⟨rfl, go _ _ hi1 ?_⟩
        rw [stepW, if_neg n28, if_pos c1, if_pos hi1]
      · refine c_sums M hi ⟨rfl, M.1, M.in 19 rfl rfl hi (by decide), fun h12 e12 => ?_⟩
        rw [hic, putE_s _ _ _ (by decide) (by decide)] at e12
        subst e12
        refine go _ _ hi ?_
        rw [stepW, if_neg n28, if_neg n30, if_pos c1]
      · refine c_sums M hi ⟨rfl, M.1, M.in 19 rfl rfl hi (by decide), fun h12 e12 => ?_⟩
        rw [hic, putE_s _ _ _ (by decide) (by decide)] at e12
        subst e12
        refine go _ _ hi ?_
        rw [stepW, if_neg n28, if_neg n30, if_neg n20, if_pos c1]
      · refine ⟨M.in 21 rfl rfl hi (by decide), fun h12 e12 => ?_⟩
        rw [hic, putE_s _ _ _ (by decide) (by decide)] at e12
        subst e12
        refine go _ _ hi ?_
        rw [stepW, if_neg n28, if_neg n30, if_neg n20, if_neg n21, if_pos c1]
      · refine bX10_worked_137 ⟨M.1, c_sums M hi ⟨rfl, M.1, M.in 18 rfl rfl hi (by decide), M.in 16 rfl rfl hi (by decide), fun h7 e7 => ?_⟩⟩
        rw [hic, putE_i _ _ _ (by decide) (by decide), putE_s _ _ _ (by decide) (by decide)] at e7
        subst e7
        refine ⟨M.in 17 rfl rfl hi (by decide), fun h9 e9 => ?_⟩
        rw [hic, putE_s _ _ _ (by decide) (by decide)] at e9
        subst e9
        refine ⟨M.in 18 rfl rfl hi (by decide), fun h11 e11 => ?_⟩
        rw [hic, putE_s _ _ _ (by decide) (by decide)] at e11
        subst e11
        refine ⟨M.in 19 rfl rfl hi (by decide), fun h13 e13 => ?_⟩
        rw [hic, putE_s _ _ _ (by decide) (by decide)] at e13
        subst e13
        refine go _ _ hi ?_
        rw [stepW, if_neg n28, if_neg n30, if_neg n20, if_neg n21, if_neg n22, if_pos c1]
      · refine bX10_worked_137 ⟨M.1, c_sums M hi ⟨rfl, M.1, M.in 18 rfl rfl hi (by decide), M.in 16 rfl rfl hi (by decide), fun h7 e7 => ?_⟩⟩
        rw [hic, putE_i _ _ _ (by decide) (by decide), putE_s _ _ _ (by decide) (by decide)] at e7
        subst e7
        refine ⟨M.in 17 rfl rfl hi (by decide), fun h9 e9 => ?_⟩
        rw [hic, putE_s _ _ _ (by decide) (by decide)] at e9
        subst e9
        refine ⟨M.in 18 rfl rfl hi (by decide), fun h11 e11 => ?_⟩
        rw [hic, putE_s _ _ _ (by decide) (by decide)] at e11
        subst e11
        refine ⟨M.in 19 rfl rfl hi (by decide), fun h13 e13 => ?_⟩
        rw [hic, putE_s _ _ _ (by decide) (by decide)] at e13
        subst e13
        refine go _ _ hi ?_
        rw [stepW, if_neg n28, if_neg n30, if_neg n20, if_neg n21, if_neg n22, if_neg n24, if_pos c1]
      · refine c_tests M hi ⟨rfl, M.1, M.in 15 rfl rfl hi (by decide), fun h12 e12 => ?_⟩
        rw [hic, putE_s _ _ _ (by decide) (by decide)] at e12
        subst e12
        refine go _ _ hi ?_
        rw [stepW, if_neg n28, if_neg n30, if_neg n20, if_neg n21, if_neg n22, if_neg n24, if_neg n25, if_pos c1]
      · refine c_tests M hi ⟨rfl, M.1, M.in 15 rfl rfl hi (by decide), fun h12 e12 => ?_⟩
        rw [hic, putE_s _ _ _ (by decide) (by decide)] at e12
        subst e12
        refine go _ _ hi ?_
        rw [stepW, if_neg n28, if_neg n30, if_neg n20, if_neg n21, if_neg n22, if_neg n24, if_neg n25, if_neg n26, if_pos c1]
      · obtain ⟨S, hst⟩ : ∃ S, S = stepW (hI h (m + 24)) c i F := ⟨_, rfl⟩
        have hst0 := hst
        rw [stepW, if_neg n28, if_neg n30, if_neg n20, if_neg n21, if_neg n22, if_neg n24, if_neg n25, if_neg n26, if_neg n27] at hst
        by_cases c29 : c = 29
        · rw [if_pos c29] at hst
          refine ⟨fun _ => ⟨fun _ => ?_, fun c1 => absurd (by rw [c29]; decide) c1⟩, fun c1 => absurd (by rw [c29]; decide) c1⟩
          cases i with
          | zero =>
            obtain ⟨i', F', hq⟩ := hstep S hst0.symm
            rw [hst] at hq
            cases hq
          | succ j =>
            have pr : nI (j + 1) + (-1) = nI j := pk_m1 j
            refine bX10_worked_243 ⟨fun _ => ⟨M.1, c_tests M hi ⟨rfl, M.1, M.in 14 rfl rfl hi (by decide), ?_⟩⟩, fun c1 => absurd c29 c1⟩
            rw [pr, hic, putE_i _ _ _ (by decide) (by decide)]
            exact t268 j _ _ (by omega) (hst0.symm.trans hst)
        · rw [if_neg c29] at hst
          refine ⟨fun c1 => ⟨fun c2 => t243 _ c29 ?_, fun c2 => ⟨?_, t243 _ c29 ?_⟩⟩, fun c1 => t243 _ c29 ?_⟩
          · rw [if_pos c1, if_pos c2] at hst
            exact hst0.symm.trans hst
          · rw [if_pos c1, if_neg c2] at hst
            have hc0 : ¬ c < 0 := by
              intro hn
              rw [if_pos hn] at hst
              obtain ⟨i', F', hq⟩ := hstep S hst0.symm
              rw [hst] at hq
              cases hq
            obtain ⟨j, hj, rfl⟩ := nI_of hc0
            refine M.in 23 rfl rfl ?_ (by decide)
            have : ¬ nI 20 ≤ nI j := c2
            rw [nI_leI (by decide) hj] at this
            omega
          · rw [if_pos c1, if_neg c2] at hst
            have hc0 : ¬ c < 0 := by
              intro hn
              rw [if_pos hn] at hst
              obtain ⟨i', F', hq⟩ := hstep S hst0.symm
              rw [hst] at hq
              cases hq
            rw [if_neg hc0] at hst
            rw [putE_o _ _ _ (by omega)]
            exact hst0.symm.trans hst
          · rw [if_neg c1] at hst
            exact hst0.symm.trans hst
  refine bX10_worked_0 ⟨M.1, ?_⟩
  have h0 : putE h m (fun o => hI h (m + o)) = h := putE_id h m
  have key : EvM w mX10_opens (d + 1) [.ref m, .int (nI 0)] (putE h m (fun o => hI h (m + o))) (fun r3 h2 => r3 = none ∧ ((am_L 10 m h2) ∧ ((vp_in (nI l) (hN h2 (m + 3))) ∧ (Ev w (am_Z w) mX10_worked (d + 1 + 1) 14 [(0, .ref m), (1, .int (nI l)), (2, .int 0), (3, .int (hI h2 (m + 3) (Int32.toNatClampNeg (nI l))))] [] h2 Q)))) := by
    refine c_opens M (by decide) ⟨rfl, M.1, M.in 2 rfl rfl hl (by decide), ?_⟩
    rw [hlc, putE_o _ _ _ (by omega), ha]
    exact loop (b - a) a (by omega) 0 _ (by decide) hrun
  rw [h0] at key
  exact key
end RWORK2
