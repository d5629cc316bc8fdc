/-! The class's river. -/
section XRIVER
variable {w : am_W} {d : Nat} {h : am_H} {Q : Option Value → am_H → Prop} {ad av : Nat → Nat} {sf : Value} {x y : Nat} {A : rA}
set_option maxHeartbeats 1000000 in
theorem c_riverX {K : Nat} (eK : K = 1000) (hw : StW w ad av sf) (R : RepX x y h A) (hyz : y ≤ hZ h) (q : ∀ h', (∀ a, a < x ∨ (x + 1 ≤ a ∧ a ≤ x + 12) ∨ (x + 69 ≤ a ∧ a < hZ h) → same h h' a) → hZ h' = hZ h + 13 → hS h' ≤ hS h + 1146 → RepX x y h' (oRiv A K (hI h (x + 19))) → Q (some (.int (aRiv A K (hI h (x + 19))))) h') : EvM w mX9_river (d + 43) [.ref x] h Q := by
  have hy := R.1
  have X := R.2.1
  have T := R.2.2.1
  refine bX9_river_0 ⟨X.1, c_cutX (d := d + 36) hw X T (fun h2 N C hN1 hN2 hbN hlt => ⟨rfl, ?_⟩)⟩
  obtain ⟨F2, f2, e4, k1, k2⟩ := C
  have z2 : hZ h2 = hZ h := F2.2.2.2.2.1
  have s2 : ∀ b, ¬ (b = x + 13 ∨ b = x + 15 ∨ b = x + 16) → same h h2 b := fun b hb => F2.same hb
  refine ⟨F2.L X.1, fun h5 e5 => ?_⟩
  rw [z2]
  have s5 : ∀ b, b < hZ h → same h2 h5 b := fun b hb => by rw [e5]; exact nO_same _ _ _ (by omega)
  have nw := nO_new h2 6 15
  rw [← e5, z2] at nw
  have z5 : hZ h5 = hZ h + 1 := by rw [e5]; show hZ h2 + 1 = _; omega
  refine c_riverI (d := d + 40) z5 nw.1 nw.2.1 (fun h6 s6 z6 S6 R6 r14 r5 _ _ => ⟨rfl, ?_⟩)
  have kn2 : KN x h h2 := F2.kn
  have kn6 : KN x h h6 := ⟨fun a y1 y2 => by
      have t := (s5 a (by omega)).tr (s6 a (by omega))
      exact ⟨t.1.trans (by rw [F2.K]), t.2.1.trans (by rw [F2.N])⟩, fun a f y1 y2 _ => by
      have t := (s5 a (by omega)).tr (s6 a (by omega))
      rw [t.2.2.2.2, F2.R]⟩
  have X6 : XL x h6 := X.kn kn6
  have i6 : ∀ b, b < hZ h → hI h6 b = hI h2 b := fun b hb => ((s5 b hb).tr (s6 b hb)).2.2.1
  have T6 : TpX x h6 (A.1, A.2.1) := ⟨by rw [i6 _ (by omega), f2 3 (by decide)]; exact T.1, by rw [i6 _ (by omega), F2.I (fun z => by omega)]; exact T.2.1, T.2.2⟩
  refine ⟨X6.2.2.2.1, ?_⟩
  have e19 : hI h6 (x + 19) = hI h (x + 19) := by rw [i6 _ (by omega), F2.I (fun z => by omega)]
  refine c_readX (d := d) (ρ := hZ h) (N := N) eK hw X6 T6 (by rw [i6 _ (by omega)]; exact e4) hN1 (by rw [i6 _ (by omega)]; exact k1) (by rw [i6 _ (by omega)]; exact k2) (bgn_end hbN) (by omega) z6 R6 r14 r5 (fun h9 s9 z9 S9 kn9 r3 r59 l69 A9 => ⟨_, rfl, ?_⟩)
  rw [e19] at A9
  rw [e19]
  have eR : pAll (tKD A.2.1 A.1) (tPC A.2.1 A.1) (tNV A.2.1 A.1) (kyR A.2.1 A.1) K (K + 1) (0, 0) (D0 (hI h (x + 19))) = rvR A K (hI h (x + 19)) := rfl
  rw [eR] at A9
  rw [eR]
  have kn : KN x h h9 := kn6.tr kn9
  have X9 : XL x h9 := X.kn kn
  have S9' : hS h9 ≤ hS h + 1146 := by
    have a1 : hS h5 = hS h2 + 15 := by rw [e5]; rfl
    have a2 : hS h2 = hS h := F2.2.2.2.2.2.1
    omega
  -- what stays from h to h9
  have st : ∀ b, b < hZ h → ¬ (b = x + 13 ∨ (x + 15 ≤ b ∧ b ≤ x + 19)) → same h h9 b := fun b hb hn => (((s2 b (by omega)).tr (s5 b hb)).tr (s6 b hb)).tr (s9 b (by omega))
  refine ⟨X9.1, X9.2.1, fun h14 e14 => ?_⟩
  have s14 : ∀ b, b ≠ x + 13 → same h9 h14 b := fun b hb => by rw [e14]; exact sI_same _ _ _ _ hb
  have E14 : hK h14 = hK h9 ∧ hN h14 = hN h9 ∧ hJ h14 = hJ h9 ∧ hR h14 = hR h9 ∧ hZ h14 = hZ h9 ∧ hS h14 = hS h9 := by rw [e14]; exact ⟨rfl, rfl, rfl, rfl, rfl, rfl⟩
  obtain ⟨E1, E2, E3, E4, E5, E6⟩ := E14
  have kn14 : KN x h h14 := kn.tr ⟨fun a _ _ => ⟨by rw [E1], by rw [E2]⟩, fun a f _ _ _ => by rw [E4]⟩
  have st14 : ∀ b, b < hZ h → ¬ (b = x + 13 ∨ (x + 15 ≤ b ∧ b ≤ x + 19)) → same h h14 b := fun b hb hn => (st b hb hn).tr (s14 b (by omega))
  have t3 : hI h14 (x + 13) 3 = 0 := by rw [e14, sI_f, if_pos rfl]
  have e13 : hK h14 (x + 13) = hK h (x + 13) ∧ hN h14 (x + 13) = hN h (x + 13) ∧ hJ h14 (x + 13) = hJ h (x + 13) ∧ hR h14 (x + 13) = hR h (x + 13) := by
    have t := ((s5 (x + 13) (by omega)).tr (s6 (x + 13) (by omega))).tr (s9 (x + 13) (by omega))
    rw [E1, E2, E3, E4]
    exact ⟨t.1.trans (by rw [F2.K]), t.2.1.trans (by rw [F2.N]), t.2.2.2.1.trans (by rw [F2.2.2.1]), t.2.2.2.2.trans (by rw [F2.2.2.2.1])⟩
  have R14 : RepX x y h14 (0, A.2.1, A.2.2) := by
    have Fv : FrA (fun a => a = x + 13 ∨ a = x + 14) h (rI h (x + 13) (hI h14 (x + 13))) := FrA.rf.row (Or.inl rfl)
    have Rv := R.tp Fv (T := (0, A.2.1)) ⟨by rw [hI_rs]; exact t3, fun p hp => absurd hp (Nat.not_lt_zero _), Nat.zero_le _, fun p hp => absurd hp (Nat.not_lt_zero _)⟩
    refine Rv.scr ?_ (fun a y1 y2 hs => ?_) (fun a y1 y2 => ?_) (by show hZ h ≤ _; rw [E5, z9]; omega)
    · exact ⟨kn14.1, kn14.2⟩
    · by_cases c : a = x + 13
      · subst c
        exact ⟨e13.1, e13.2.1, by rw [hI_rs], e13.2.2.1, e13.2.2.2⟩
      · obtain ⟨u1, u2, u3, u4, u5⟩ := st14 a (by omega) (by unfold Scr at hs; omega)
        exact ⟨u1, u2, by rw [hI_rn _ _ c]; exact u3, u4, u5⟩
    · obtain ⟨u1, u2, u3, u4, u5⟩ := st14 a y2 (by omega)
      exact ⟨u1, u2, by rw [hI_rn _ _ (by omega)]; exact u3, u4, u5⟩
  have X14 : XL x h14 := R14.2.1
  have r314 : hR h14 (x + 17) 3 = hZ h := by rw [E4]; exact r3
  refine ⟨fun z => ⟨X14.2.2.2.1, by rw [r314]; omega, ?_⟩, fun z => ?_⟩
  · obtain ⟨Rx, Vt⟩ := A9 z
    have hl4 : tLaws (rvR A K (hI h (x + 19))).2.2.2.1 ≤ 4 := Vt.2.2.2.2.2.2.1
    have eO : oRiv A K (hI h (x + 19)) = (0, A.2.1, ((rvR A K (hI h (x + 19))).2.2.2.1, (if 0 < tLaws (rvR A K (hI h (x + 19))).2.2.2.1 then 0 else -1), 0, fun _ => 0), A.2.2.2) := by
      unfold oRiv; rw [if_pos z]
    have eA : aRiv A K (hI h (x + 19)) = (rvR A K (hI h (x + 19))).1.1 := rfl
    rw [eO, eA] at q
    generalize rvR A K (hI h (x + 19)) = RR at z Rx Vt hl4 q
    rw [r314]
    have fin : ∀ (h17 : am_H) (u : Int32), u = (if 0 < tLaws RR.2.2.2.1 then 0 else -1) → h17 = sI (sI (sR h14 (x + 20) 1 (hZ h)) (x + 20) 2 u) (x + 20) 3 0 → am_L 9 x h17 ∧ EvM w mX9_forget (d + 42) [.ref x] h17 (fun r21 h20 => r21 = none ∧ Q (some (.int RR.1.1)) h20) := by
      intro h17 u hu e17
      have s17 : ∀ b, b ≠ x + 20 → same h14 h17 b := fun b hb => by rw [e17]; exact ((sR_same _ _ _ _ hb).tr (sI_same _ _ _ _ hb)).tr (sI_same _ _ _ _ hb)
      have kn17 : KN x h14 h17 := ⟨fun a _ _ => by rw [e17]; exact ⟨rfl, rfl⟩, fun a f _ _ hk => by
        rw [e17]
        show hR (sR h14 (x + 20) 1 (hZ h)) a f = _
        rw [sR_r, if_neg (fun yy => hk.2.1 ⟨Or.inl yy.1, yy.2⟩)]⟩
      have X17 : XL x h17 := X14.kn kn17
      refine ⟨X17.1, c_forget X17 (fun h20 F20 c1 c2 c3 => ⟨rfl, ?_⟩)⟩
      have r20 : hR h20 (x + 20) 1 = hZ h := by
        rw [F20.R, e17]
        show hR (sR h14 (x + 20) 1 (hZ h)) (x + 20) 1 = _
        rw [sR_r, if_pos ⟨rfl, rfl⟩]
      have i20 : ∀ k, hI h20 (x + 20) k = if k = 3 then 0 else if k = 2 then u else hI h14 (x + 20) k := fun k => by
        rw [F20.I (fun yy => by omega), e17]
        simp only [sI_f]
        rfl
      have s20 : ∀ b, b ≠ x + 20 → ¬ (b = x ∨ b = x + 57 ∨ b = x + 62) → same h14 h20 b := fun b hb hn => (s17 b hb).tr (F20.same hn)
      have z20 : hZ h20 = hZ h + 13 := by
        rw [F20.2.2.2.2.1, e17]
        show hZ h14 = _
        rw [E5, z9]
      have S20 : hS h20 ≤ hS h + 1146 := by
        rw [F20.2.2.2.2.2.1, e17]
        show hS h14 ≤ _
        rw [E6]; exact S9'
      have sr : ∀ b, hZ h ≤ b → same h9 h20 b := fun b hb => (s14 b (by omega)).tr (s20 b (by omega) (by omega))
      have RvN' : RvX (hZ h) h20 RR.2.2.2.1 := Rx.sm (fun a y1 y2 => sr a y1) (by rw [r59]; exact sr _ (by omega))
      refine q h20 (fun a ha => (st14 a (by omega) (by omega)).tr (s20 a (by omega) (by omega))) z20 S20 ?_
      have R20 := R14.mk' (H := (RR.2.2.2.1, u, 0, fun _ => 0)) (kn17.tr F20.kn) (fun a y1 y2 y3 y4 y5 y6 y7 y8 => s20 a y5 (by omega)) (fun a y1 y2 => s20 a (by omega) (by omega)) (by rw [z20, E5, z9]; exact Nat.le_refl _) ⟨⟨Vt, ?_, Nat.zero_le _, fun i hi => absurd hi (Nat.not_lt_zero _)⟩, by rw [r20]; omega, by rw [r20]; exact Or.inr ⟨hyz, by rw [z20]; omega, by rw [(sr (hZ h) (Nat.le_refl _)).2.2.2.2]; exact r59⟩, by rw [r20]; exact RvN', by rw [i20]; rfl, by rw [i20]; rfl, fun p hp => absurd hp (Nat.not_lt_zero _)⟩ (CaX.none c1 c2 c3)
      · rw [← hu]; exact R20
      · show ∃ u', u' ≤ tLaws RR.2.2.2.1 ∧ u = nI u' - 1
        rw [hu]
        by_cases c : 0 < tLaws RR.2.2.2.1
        · rw [if_pos c]; exact ⟨1, c, by decide⟩
        · rw [if_neg c]; exact ⟨0, Nat.zero_le _, by decide⟩
    have L6 : am_L 6 (hZ h) (sR h14 (x + 20) 1 (hZ h)) := Rx.1.sm (M := 11) (by decide) (fun b y1 y2 => (s14 b (by omega)).tr (sR_same _ _ _ _ (by omega)))
    have i13 : hI (sR h14 (x + 20) 1 (hZ h)) (hZ h) 13 = nI (tLaws RR.2.2.2.1) := by
      show hI h14 (hZ h) 13 = _
      rw [(s14 (hZ h) (by omega)).2.2.1]
      exact Rx.2.2.2.2.2.2.1.2.2.2.2.2.2.2
    refine bX7_start_0 ⟨X14.2.2.2.2.2.1, by omega, fun h3 e3 => ?_⟩
    rw [← e3] at L6 i13
    rw [i13]
    refine ⟨L6, fun c => fun h5' e5' h6' e6' => ⟨rfl, ?_⟩, fun c => fun h5' e5' h6' e6' => ⟨rfl, ?_⟩⟩
    · rw [← nI_0, nI_leI (by omega) (by decide)] at c
      exact fin h6' (-1) (by rw [if_neg (by omega)]) (by rw [e6', e5', e3])
    · rw [← nI_0, nI_leI (by omega) (by decide)] at c
      exact fin h6' 0 (by rw [if_pos (by omega)]) (by rw [e6', e5', e3])
  · have eO : oRiv A K (hI h (x + 19)) = (0, A.2.1, A.2.2) := by unfold oRiv; rw [if_neg z]
    rw [eO] at q
    exact q h14 (fun a ha => st14 a (by omega) (by omega)) (by rw [E5, z9]) (by rw [E6]; exact S9') R14
end XRIVER
