/-! The class's weigh, choice, rests, rest. -/
section XWEIGH2
variable {w : am_W} {d : Nat} {h h1 : am_H} {Q : Option Value → am_H → Prop} {x y : Nat} {A : rA} {r : rV}
/-- while nothing is known of choices, their rows are free -/
theorem RepX.chz (R : RepX x y h A) (F : FrA (fun a => x + 57 ≤ a ∧ a ≤ x + 61) h h1) (z : hI h1 (x + 57) 6 = 0 ∨ (hI h1 (x + 57) 6 = 1 ∧ ChX x h1 (rvOf A.2.2.1))) : RepX x y h1 A := by
  have hy := R.1
  obtain ⟨V, s1, G, Rv⟩ := R.st
  have Q1 : QF x h h1 := F.q (fun a ha => by omega)
  have S := R.2.2.2.1
  have C := R.2.2.2.2.2
  obtain ⟨g1, g2⟩ := G.same (h1 := h1) (fun a p q => Q1.1 a (by omega)) (Q1.e2 hy)
  refine R.mk' (H := A.2.2.1) F.kn (fun a h1 h2 h3 h4 h5 h6 h7 h8 => F.same (by omega)) (Q1.e2 hy) (by rw [Q1.2.1]; exact Nat.le_refl _) (S.sm (F.same (by omega)) (F.same (by omega)) (fun a p q => Q1.1 a (by omega)) (Q1.e2 hy) (by rw [Q1.2.1]; exact Nat.le_refl _)) ⟨?_, z, ?_⟩
  · rw [F.I (show ¬ (x + 57 ≤ x ∧ x ≤ x + 61) by omega), F.R]
    rcases C.1 with c1 | ⟨c1, c1'⟩
    · exact Or.inl c1
    · exact Or.inr ⟨c1, c1'.sm (fun a p q => F.same (by omega)) g1 g2 (g1 _ (by omega) (by omega))⟩
  · unfold LtX
    rw [F.I (show ¬ (x + 57 ≤ x + 62 ∧ x + 62 ≤ x + 61) by omega)]
    exact C.2.2
set_option maxHeartbeats 4000000 in
theorem c_weigh (R : RepX x y h A) (q : ∀ h', QF x h h' → RepX x y h' A → ChX x h' (rvOf A.2.2.1) → Q none h') : EvM w mX1_weigh (d + 5) [.ref (x + 57), .ref (x + 20), .ref (x + 44)] h Q := by
  obtain ⟨V, s1, G, Rv⟩ := R.st
  have X := R.2.1
  have hy := R.1
  have hNn := V.1.1
  have h8 : ncs (rvOf A.2.2.1) ≤ 8 := V.1.2.2.2.2.2.2.2.2.2.2.2.2.1
  have p8 := p2_8 h8
  have b7 : hI h (hR h (x + 20) 1) 12 = nI (ncs (rvOf A.2.2.1)) := Rv.2.2.2.2.2.2.1.2.2.2.2.2.2.1
  have ncN : ncs (rvOf A.2.2.1) ≤ tN A.2.2.1.1 := chs_le _ _
  have Kx : ∃ K, K = 1440 := ⟨_, rfl⟩
  obtain ⟨K, hK'⟩ := Kx
  have ccK : ∀ c, ccost (rvOf A.2.2.1) c = cstS (tCo A.2.2.1.1) (dayK (rvOf A.2.2.1) (nI c) K).1 (tAt A.2.2.1.1) (-1) (tN A.2.2.1.1) := fun c => by rw [hK']; rfl
  have owK : ∀ c p, ownV (rvOf A.2.2.1) c p = tCo A.2.2.1.1 p * wof (dayK (rvOf A.2.2.1) (nI c) K).1 (tAt A.2.2.1.1) p := fun c p => by rw [hK']; rfl
  have loop : ∀ k c, c + k = 2 ^ ncs (rvOf A.2.2.1) → ∀ hc, QF x h hc → RepX x y hc A → hI hc (x + 57) 6 = 0 → hR hc (x + 20) = hR h (x + 20) → chR (rvOf A.2.2.1) c (hI hc (x + 58)) (hI hc (x + 59)) →
      Ev w (am_Z w) mX1_weigh (d + 4 + 1) 30 [(0, .ref (x + 57)), (1, .ref (x + 20)), (2, .ref (x + 44)), (3, .ref (hR h (x + 20) 1)), (4, .int (nI (2 ^ ncs (rvOf A.2.2.1)))), (5, .int (nI c))] [] hc Q := by
    intro k
    induction k with
    | zero =>
      intro c hc' hc F Rc z er T
      have hc' : c = 2 ^ ncs (rvOf A.2.2.1) := by omega
      subst hc'
      obtain ⟨Vc, s1c, Gc, Rvc⟩ := Rc.st
      rw [er] at s1c Gc Rvc
      have Xc := Rc.2.1
      have L1 := Xc.2.2.2.2.2.2.2.2.2.2.2.1
      obtain ⟨n58, n59, n60, n61⟩ := Xc.2.2.2.2.2.2.2.2.2.2.2.2.1
      have ρn := (Gc.ne hy (b := x + 57) (by omega)).1
      refine bX1_weigh_30 ⟨fun _ => ⟨L1, c_findCheapest (d := d + 3) L1 n58 h8 (fun c hc => (T c hc).1) (fun h2 F2 e2 => ⟨rfl, F2.L Rvc.1, F2.L L1, ?_⟩)⟩, fun cc => absurd (Int32.le_refl _) cc⟩
      have b7' : hI h2 (hR h (x + 20) 1) 12 = nI (ncs (rvOf A.2.2.1)) := by rw [F2.I (ρn _ (by omega) (by omega))]; exact Rvc.2.2.2.2.2.2.1.2.2.2.2.2.2.1
      rw [b7']
      refine c_findResting (d := d + 2) (F2.L L1) (by rw [F2.N]; exact n59) (by rw [F2.N]; exact n60) h8 (by rw [F2.I (by omega)]; exact fun c' h1 k h2 => (T c' h1).2 k h2) (fun h6 F6 e6 U6 => ⟨rfl, F6.L (F2.L L1), fun h9 e9 => ?_⟩)
      have F9 : FrA (fun a => x + 57 ≤ a ∧ a ≤ x + 61) hc h9 := by
        rw [e9]
        exact ((F2.mono (fun a e => by omega)).tr (F6.mono (fun a e => by omega))).fld (by omega)
      have i57 : hI h9 (x + 57) = va_up (va_up (va_up (hI hc (x + 57)) 4 (nI (bstL (rvOf A.2.2.1) (2 ^ ncs (rvOf A.2.2.1))))) 5 (nI (rssL (rvOf A.2.2.1) (2 ^ ncs (rvOf A.2.2.1))))) 6 1 := by rw [e9, sI_r, hI_rs, e6, e2]
      have ch : ChX x h9 (rvOf A.2.2.1) := by
        refine ⟨?_, ?_, ?_, ?_⟩
        · rw [e9, sI_r, hI_rn _ _ (by omega), hI_rn _ _ (by omega), F6.I (by omega), F6.I (by omega), F2.I (by omega), F2.I (by omega)]
          exact T
        · rw [i57, va_up_ne _ _ (by decide), va_up_ne _ _ (by decide), va_up_self]
        · rw [i57, va_up_ne _ _ (by decide), va_up_self]
        · rw [e9, sI_r, hI_rn _ _ (by omega)]
          exact U6
      exact q h9 (F.tr (F9.q (fun a ha => by omega))) (Rc.chz F9 (Or.inr ⟨by rw [i57, va_up_self], ch⟩)) ch
    | succ k ih =>
      intro c hc' hc F Rc z er T
      obtain ⟨Vc, s1c, Gc, Rvc⟩ := Rc.st
      have Xc := Rc.2.1
      refine bX1_weigh_30 ⟨fun cc => absurd cc (by rw [nI_leI (by omega) (by omega)]; omega), fun _ => ⟨Xc.2.2.2.2.2.2.2.2.2.2.2.1, ?_⟩⟩
      rw [← er]
      refine EvM.mono (c_chosenDay (d := d) (bits := nI c) (Q := fun r21 h20 => r21 = none ∧ ((am_L 1 (x + 57) h20) ∧ ((am_L 3 (x + 44) h20) ∧ (EvM w mX3_costWithout (d + 4) [.ref (x + 44), .int ((-1))] h20 (fun r25 h24 => ∃ v26 : Int32, r25 = some (.int v26) ∧ (EvM w mX9_set (d + 4) [.ref (x + 57 + 1), .int (nI c), .int v26] h24 (fun r28 h27 => r28 = none ∧ (Ev w (am_Z w) mX1_weigh (d + 4 + 1) 85 [(0, .ref (x + 57)), (1, .ref (x + 20)), (2, .ref (x + 44)), (3, .ref (hR hc (x + 20) 1)), (4, .int (nI (2 ^ ncs (rvOf A.2.2.1)))), (5, .int (nI c)), (6, .int 0)] [] h27 Q)))))))) hK' (nI_pos (by omega)) Rc (fun h20 N20 e20 Q20 R20 D20 => ⟨rfl, R20.2.1.2.2.2.2.2.2.2.2.2.2.2.1, R20.2.1.2.2.2.2.2.2.2.2.2.2.1.1, ?_⟩)) (fun r6 h5 hq => ⟨hq.1, hq.2.2.1, hq.2.2.2.1, hq.2.2.2.2.1, hq.2.2.2.2.2.1, EvM.mono hq.2.2.2.2.2.2 (fun r12 h11 hq2 => ⟨hq2.1, hq2.2.2.1, hq2.2.2.2⟩)⟩)
      have er20 : hR h20 (x + 20) = hR hc (x + 20) := (e20 (x + 20) (by omega) (by omega) (by unfold Scr; omega)).2.2.2.2
      have L1 := R20.2.1.2.2.2.2.2.2.2.2.2.2.2.1
      obtain ⟨n58, n59, n60, n61⟩ := R20.2.1.2.2.2.2.2.2.2.2.2.2.2.2.1
      have n58' : hN h20 (x + 57 + 1) = 256 := n58
      have i58 := (e20 (x + 58) (by omega) (by omega) (by unfold Scr; omega)).2.2.1
      have i59 := (e20 (x + 59) (by omega) (by omega) (by unfold Scr; omega)).2.2.1
      have i57 := (e20 (x + 57) (by omega) (by omega) (by unfold Scr; omega)).2.2.1
      obtain ⟨l, kr, j, Dc, Y⟩ := id D20
      refine c_costWithout (d := d + 1) (co := tCo A.2.2.1.1) Dc Y (R20.co' er20) ⟨_, rfl, c_set (L1.s 0 rfl) (by omega) ⟨rfl, ?_⟩⟩
      rw [n58', sv_nI (by omega) (by decide)]
      have v0 : cstS (tCo A.2.2.1.1) (dayK (rvOf A.2.2.1) (nI c) K).1 (canP (rvOf A.2.2.1) (nI c)).2.2.2.1 (-1) (vN (rvOf A.2.2.1)) = ccost (rvOf A.2.2.1) c := (ccK c).symm
      rw [v0]
      generalize hg27 : rI h20 (x + 57 + 1) (va_up (hI h20 (x + 57 + 1)) c (ccost (rvOf A.2.2.1) c)) = h27
      have F27 : FrA (fun a => a = x + 58) h20 h27 := by rw [← hg27]; exact FrA.rf.row rfl
      have j58 : hI h27 (x + 58) = va_up (hI hc (x + 58)) c (ccost (rvOf A.2.2.1) c) := by
        rw [← hg27, ← i58]
        exact hI_rs h20 (x + 57 + 1) _
      have G20 := R20.st.2.2.1
      rw [er20] at G20
      -- the choosers' own costs
      have own : ∀ k2 i, i + k2 = ncs (rvOf A.2.2.1) → ∀ hx, FrA (fun a => a = x + 58 ∨ a = x + 59) h20 hx → hI hx (x + 58) = va_up (hI hc (x + 58)) c (ccost (rvOf A.2.2.1) c) → (∀ c', c' < c → ∀ k, k < ncs (rvOf A.2.2.1) → hI hx (x + 59) (8 * c' + k) = ownK (rvOf A.2.2.1) c' k) → (∀ k, k < i → hI hx (x + 59) (8 * c + k) = ownK (rvOf A.2.2.1) c k) →
          Ev w (am_Z w) mX1_weigh (d + 4 + 1) 85 [(0, .ref (x + 57)), (1, .ref (x + 20)), (2, .ref (x + 44)), (3, .ref (hR hc (x + 20) 1)), (4, .int (nI (2 ^ ncs (rvOf A.2.2.1)))), (5, .int (nI c)), (6, .int (nI i))] [] hx Q := by
        intro k2
        induction k2 with
        | zero =>
          intro i hi hx Fx E58 T1 T2
          have hi : i = ncs (rvOf A.2.2.1) := by omega
          subst hi
          have Fx' : FrA (fun a => x + 57 ≤ a ∧ a ≤ x + 61) h20 hx := Fx.mono (fun a e => by omega)
          have zx : hI hx (x + 57) 6 = 0 := by rw [Fx.I (by omega), i57]; exact z
          have Rx := R20.chz Fx' (Or.inl zx)
          obtain ⟨Vx, s1x, Gx, Rvx⟩ := Rx.st
          have erx : hR hx (x + 20) = hR hc (x + 20) := by rw [Fx.2.2.2.1, er20]
          rw [erx] at Rvx
          have b7x : hI hx (hR hc (x + 20) 1) 12 = nI (ncs (rvOf A.2.2.1)) := Rvx.2.2.2.2.2.2.1.2.2.2.2.2.2.1
          refine bX1_weigh_85 ⟨Rvx.1, fun _ => ?_, fun cc => absurd (by rw [b7x]; exact Int32.le_refl _) cc⟩
          rw [nI_1, er]
          refine ih (c + 1) (by omega) hx ((F.tr Q20).tr (Fx.q (fun a ha => by omega))) Rx zx (by rw [erx, er]) (fun c' hc2 => ?_)
          by_cases ec : c' = c
          · subst ec
            exact ⟨by rw [E58, va_up_self], T2⟩
          · exact ⟨by rw [E58, va_up_ne _ _ ec]; exact (T c' (by omega)).1, T1 c' (by omega)⟩
        | succ k2 ih2 =>
          intro i hi hx Fx E58 T1 T2
          have Fx' : FrA (fun a => x + 57 ≤ a ∧ a ≤ x + 61) h20 hx := Fx.mono (fun a e => by omega)
          have zx : hI hx (x + 57) 6 = 0 := by rw [Fx.I (by omega), i57]; exact z
          have Rx := R20.chz Fx' (Or.inl zx)
          obtain ⟨Vx, s1x, Gx, Rvx⟩ := Rx.st
          have erx : hR hx (x + 20) = hR hc (x + 20) := by rw [Fx.2.2.2.1, er20]
          rw [erx] at Rvx
          have b7x : hI hx (hR hc (x + 20) 1) 12 = nI (ncs (rvOf A.2.2.1)) := Rvx.2.2.2.2.2.2.1.2.2.2.2.2.2.1
          obtain ⟨a6, a6'⟩ := Rvx.2.2.2.2.2.1
          have L1x := Rx.2.1.2.2.2.2.2.2.2.2.2.2.2.1
          have n59x : hN hx (x + 57 + 2) = 2048 := Rx.2.1.2.2.2.2.2.2.2.2.2.2.2.2.1.2.1
          have Dx : DyX (x + 44) 300 (hR hc (x + 20) 1) (x + 61) hx (rvOf A.2.2.1) (nI c) (dayK (rvOf A.2.2.1) (nI c) K) := by
            have g58 := G20.ne hy (b := x + 58) (by omega)
            have g59 := G20.ne hy (b := x + 59) (by omega)
            exact D20.sm (fun b h1 h2 => Fx.same (by omega)) (fun b h1 h2 => Fx.same (by have := g58.1 b h1 h2; have := g59.1 b h1 h2; omega)) (Fx.same (by have := g58.2; have := g59.2; omega)) (Fx.same (by omega))
          obtain ⟨lx, krx, jx, Dcx, Yx⟩ := Dx
          obtain ⟨p, p1, p2, p3, p4⟩ := chp_of (kd := tKd A.2.2.1.1) (k := i) (n := tN A.2.2.1.1) (show i < ncs (rvOf A.2.2.1) by omega)
          refine bX1_weigh_85 ⟨Rvx.1, fun cc => absurd cc (by rw [b7x, nI_leI (by omega) (by omega)]; omega), fun _ => ⟨L1x, c_get (Rvx.1.s 3 rfl) (by omega) ⟨_, rfl, Rx.2.1.2.2.2.2.2.2.2.2.2.2.1.1, ?_⟩⟩⟩
          rw [a6, gv_nI (by omega) (by decide), a6' i (show i < ncs (rvOf A.2.2.1) by omega), p4]
          refine c_costOf (d := d + 2) (co := tCo A.2.2.1.1) Dcx Yx (Rx.co' erx) p1 ⟨_, rfl, c_set (L1x.s 1 rfl) (by omega) ⟨rfl, ?_⟩⟩
          have e2 : nI c * 8 + nI i = nI (8 * c + i) := by
            rw [show (8 : Int32) = nI 8 by decide, pk_mul, nI_add]
            congr 1
            omega
          rw [n59x, e2, sv_nI (by omega) (by decide), nI_1]
          have vo : tCo A.2.2.1.1 p * wof (dayK (rvOf A.2.2.1) (nI c) K).1 (canP (rvOf A.2.2.1) (nI c)).2.2.2.1 p = ownK (rvOf A.2.2.1) c i := by
            unfold ownK
            rw [show chp (vKd (rvOf A.2.2.1)) (vN (rvOf A.2.2.1)) i = p from p4]
            exact (owK c p).symm
          rw [vo]
          have j59 : ∀ f, hI (rI hx (x + 57 + 2) f) (x + 59) = f := fun f => hI_rs hx (x + 57 + 2) f
          refine ih2 (i + 1) (by omega) _ (Fx.row (Or.inr rfl)) (by rw [hI_rn _ _ (by omega)]; exact E58) (fun c' h1 k h2 => ?_) (fun k hk => ?_)
          · rw [j59, va_up_ne _ _ (by omega)]
            exact T1 c' h1 k h2
          · rw [j59]
            by_cases ek : k = i
            · rw [ek, va_up_self]
            · rw [va_up_ne _ _ (by omega)]
              exact T2 k (by omega)
      refine own _ 0 (Nat.zero_add _) h27 (F27.mono (fun a e => Or.inl e)) j58 (fun c' h1 k h2 => ?_) (fun k hk => absurd hk (Nat.not_lt_zero _))
      rw [F27.I (by omega), i59]
      exact (T c' h1).2 k h2
  refine bX1_weigh_0 ⟨X.2.2.2.2.2.2.2.2.2.2.2.1, fun c => ⟨X.2.2.2.2.2.1, s1, Rv.1, ?_⟩, fun c => ?_⟩
  · have hs : (1 : Int32) <<< (nI (ncs (rvOf A.2.2.1)) &&& 31) = nI (2 ^ ncs (rvOf A.2.2.1)) := sh1 _ (by omega)
    have e : (if ((1 : Int32) <<< ((hI h (hR h (x + 20) 1) 12) &&& 31)) < 256 then ((1 : Int32) <<< ((hI h (hR h (x + 20) 1) 12) &&& 31)) else 256) = nI (2 ^ ncs (rvOf A.2.2.1)) := by
      rw [b7, hs, show (256 : Int32) = nI 256 by decide]
      by_cases hh : 2 ^ ncs (rvOf A.2.2.1) < 256
      · rw [if_pos (nI_lt hh (by decide))]
      · rw [if_neg (nI_nlt (by omega) (by omega))]
        congr 1
        omega
    rw [e]
    exact loop _ 0 (Nat.zero_add _) h QF.rf R c rfl (fun c' h1 => absurd h1 (Nat.not_lt_zero _))
  · rcases R.2.2.2.2.2.2.1 with e | ⟨e, ch⟩
    · exact absurd e c
    · exact q h QF.rf R ch
theorem ncs8 (R : RepX x y h A) : ncs (rvOf A.2.2.1) ≤ 8 := R.st.1.1.2.2.2.2.2.2.2.2.2.2.2.2.1
theorem c_choiceX {what : Int32} (R : RepX x y h A) (q : ∀ h', QF x h h' → RepX x y h' A → Q (some (.int (aChoice (rvOf A.2.2.1) what))) h') : EvM w mX9_choice (d + 6) [.ref x, .int what] h Q := by
  have h8 := ncs8 R
  have p8 := p2_8 h8
  refine bX9_choice_0 ⟨R.2.1.1, c_weigh (d := d) R (fun h2 F2 R2 C2 => ⟨rfl, ?_⟩)⟩
  have q := q h2 F2 R2
  unfold aChoice at q
  obtain ⟨c1, c2, c3, c4⟩ := C2
  have L1 := R2.2.1.2.2.2.2.2.2.2.2.2.2.2.1
  have n58 : hN h2 (x + 58) = 256 := R2.2.1.2.2.2.2.2.2.2.2.2.2.2.2.1.1
  have bl := bstL_lt (rvOf A.2.2.1) (c := 2 ^ ncs (rvOf A.2.2.1)) (Nat.pow_pos (by decide))
  refine ⟨fun e => ⟨R2.2.1.1, L1, ?_⟩, fun e => ⟨fun e2 => ⟨R2.2.1.1, L1, ?_⟩, fun e2 => ?_⟩⟩
  · subst e
    rw [c2]
    refine c_get (L1.s 0 rfl) (by rw [n58]; decide) ⟨_, rfl, ?_⟩
    rw [n58, gv_nI (by omega) (by decide), (c1 _ bl).1]
    exact q
  · subst e2
    rw [c2]
    exact q
  · rw [if_neg] at q
    · exact q
    · intro hh
      obtain ⟨k, hk, ee⟩ := w_of (n := 1) (by decide) hh
      have : k = 0 ∨ k = 1 := by omega
      rcases this with e3 | e3
      · exact e (by rw [ee, e3]; decide)
      · exact e2 (by rw [ee, e3]; decide)
theorem c_restsX (R : RepX x y h A) (q : ∀ h', QF x h h' → RepX x y h' A → Q (some (.int (nI (rssL (rvOf A.2.2.1) (2 ^ ncs (rvOf A.2.2.1)))))) h') : EvM w mX9_rests (d + 6) [.ref x] h Q := by
  refine bX9_rests_0 ⟨R.2.1.1, c_weigh (d := d) R (fun h2 F2 R2 C2 => ⟨rfl, R2.2.1.1, R2.2.1.2.2.2.2.2.2.2.2.2.2.2.1, ?_⟩)⟩
  rw [C2.2.2.1]
  exact q h2 F2 R2
/-- the ith at rest -/
theorem rstI_none {i : Int32} : ∀ (k c : Nat), (∀ c', c ≤ c' → c' < c + k → isR r c' = true → ¬ nI (rssL r c') = i) → rstI r i k c = -1 := by
  intro k
  induction k with
  | zero => intro c _; rfl
  | succ k ih =>
    intro c hno
    rw [rstI]
    split
    · rename_i e
      rw [if_neg (hno c (by omega) (by omega) e)]
      exact ih (c + 1) (fun c' h1 h2 => hno c' (by omega) (by omega))
    · exact ih (c + 1) (fun c' h1 h2 => hno c' (by omega) (by omega))
theorem rss_mono : ∀ {a b : Nat}, a ≤ b → rssL r a ≤ rssL r b := by
  intro a b
  induction b with
  | zero => intro h; have : a = 0 := by omega
            rw [this]; exact Nat.le_refl _
  | succ b ih =>
    intro h
    by_cases e : a = b + 1
    · rw [e]; exact Nat.le_refl _
    · have := ih (by omega)
      rw [rssL]
      omega
theorem rstI_at {i c0 : Nat} (h1 : isR r c0 = true) (h2 : rssL r c0 = i) (hb : i < 2 ^ 31) : ∀ (k c : Nat), c ≤ c0 → c0 < c + k → (∀ c', c' ≤ c + k → rssL r c' < 2 ^ 31) → rstI r (nI i) k c = nI c0 := by
  intro k
  induction k with
  | zero => intro c h3 h4; omega
  | succ k ih =>
    intro c h3 h4 hB
    rw [rstI]
    by_cases e : c = c0
    · subst e
      rw [if_pos h1, if_pos (by rw [h2])]
    · have go := ih (c + 1) (by omega) (by omega) (fun c' h => hB c' (by omega))
      by_cases hc : isR r c = true
      · rw [if_pos hc]
        have lt : rssL r c < rssL r c0 := by
          have : rssL r (c + 1) ≤ rssL r c0 := rss_mono (by omega)
          rw [rssL, hc] at this
          simp only [if_pos] at this
          omega
        rw [if_neg (fun hh => by
          have := (nI_eq (hB c (by omega)) hb).mp hh
          omega)]
        exact go
      · rw [if_neg hc]
        exact go
theorem rss_find {i : Nat} : ∀ {n : Nat}, i < rssL r n → ∃ c0, c0 < n ∧ isR r c0 = true ∧ rssL r c0 = i := by
  intro n
  induction n with
  | zero => intro h; rw [rssL] at h; omega
  | succ n ih =>
    intro h
    rw [rssL] at h
    by_cases hi : i < rssL r n
    · obtain ⟨c0, a, b, c⟩ := ih hi
      exact ⟨c0, by omega, b, c⟩
    · by_cases e : isR r n = true
      · rw [if_pos e] at h
        exact ⟨n, by omega, e, by omega⟩
      · rw [if_neg e] at h
        omega
theorem c_restX {i : Int32} (R : RepX x y h A) (q : ∀ h', QF x h h' → RepX x y h' A → Q (some (.int (rstI (rvOf A.2.2.1) i (2 ^ ncs (rvOf A.2.2.1)) 0))) h') : EvM w mX9_rest (d + 6) [.ref x, .int i] h Q := by
  have h8 := ncs8 R
  have p8 := p2_8 h8
  refine bX9_rest_0 ⟨R.2.1.1, c_weigh (d := d) R (fun h2 F2 R2 C2 => ⟨rfl, ?_⟩)⟩
  have q := q h2 F2 R2
  obtain ⟨c1, c2, c3, c4⟩ := C2
  have L1 := R2.2.1.2.2.2.2.2.2.2.2.2.2.2.1
  have n60 : hN h2 (x + 60) = 256 := R2.2.1.2.2.2.2.2.2.2.2.2.2.2.2.1.2.2.1
  have rB : ∀ c, c ≤ 2 ^ ncs (rvOf A.2.2.1) → rssL (rvOf A.2.2.1) c ≤ 256 := fun c hc => by have := rssL_le (rvOf A.2.2.1) c; omega
  have rl := rB _ (Nat.le_refl _)
  refine ⟨fun e => ?_, fun e => ⟨R2.2.1.1, L1, fun e2 => ?_, fun e2 => ?_⟩⟩
  · rw [rstI_none] at q
    · exact q
    · intro c' _ h4 _ hh
      rw [← hh] at e
      exact absurd e (nI_pos (by have := rB c' (by omega); omega))
  · rw [c3] at e2
    obtain ⟨k, hk, rfl⟩ := nI_of e
    rw [nI_ltI hk (by omega)] at e2
    obtain ⟨c0, a1, a2, a3⟩ := rss_find e2
    refine c_get (L1.s 2 rfl) (by rw [n60]; decide) ⟨_, rfl, ?_⟩
    rw [n60, gv_nI (by omega) (by decide), ← a3, c4 c0 a1 a2]
    rw [rstI_at a2 a3 hk _ 0 (Nat.zero_le _) (by omega) (fun c' h => by have := rB c' (by omega); omega)] at q
    exact q
  · rw [c3] at e2
    rw [rstI_none] at q
    · exact q
    · intro c' _ h4 h5 hh
      have lt : rssL (rvOf A.2.2.1) c' < rssL (rvOf A.2.2.1) (2 ^ ncs (rvOf A.2.2.1)) := by
        have : rssL (rvOf A.2.2.1) (c' + 1) ≤ rssL (rvOf A.2.2.1) (2 ^ ncs (rvOf A.2.2.1)) := rss_mono (by omega)
        rw [rssL, h5] at this
        simp only [if_pos] at this
        omega
      rw [← hh] at e2
      exact e2 (nI_lt lt (by omega))
end XWEIGH2
