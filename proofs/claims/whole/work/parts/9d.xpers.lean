/-! The class's parser: the line of a person, on the heap. -/
theorem kd_81 {v : Int32} (y1 : ¬ v < 81) (y2 : v ≤ 86) : ∃ k, k ≤ 5 ∧ v = nI k + 81 := by
  obtain ⟨j, hj, ej⟩ := nI_of (x := v) (fun z => y1 (Int32.lt_trans z (by decide)))
  rw [ej, show (81 : Int32) = nI 81 by decide, nI_ltI hj (by decide)] at y1
  rw [ej, show (86 : Int32) = nI 86 by decide, nI_leI hj (by decide)] at y2
  refine ⟨j - 81, by omega, ?_⟩
  rw [ej, show (81 : Int32) = nI 81 by decide, nI_add]
  congr 1
  omega
section XPERS
variable {w : am_W} {d : Nat} {h : am_H} {Q : Option Value → am_H → Prop} {x ρ n N : Nat} {s kd pc : Nat → Int32} {bg : Nat → Nat}
set_option maxHeartbeats 400000 in
theorem c_personLine {S : P2} {D : LD} (P : PK x ρ s n N kd pc h) (B : BgO N pc bg) (I : P0 x N h S) (a : S.1 = 0) (hk : kd S.2 = 70) (A : DL x ρ n s bg h D) (hN' : tN D.2.2.1 < 16)
    (q : ∀ h', FrJ (ZP x ρ) (x + 18) h h' → P0 x N h' (perP kd pc (fun i => nvT s n (bg i)) (fun i => kyT s n (bg i)) D.2.1 (tN D.2.2.1) (chs (tKd D.2.2.1) (tN D.2.2.1)) S) → ((perP kd pc (fun i => nvT s n (bg i)) (fun i => kyT s n (bg i)) D.2.1 (tN D.2.2.1) (chs (tKd D.2.2.1) (tN D.2.2.1)) S).1 = 0 → DL x ρ n s bg h' (perD kd (fun i => nvT s n (bg i)) S.2 D)) → Q none h') : EvM w mX5_personLine (d + 3) [.ref (x + 17)] h Q := by
  have hρ := P.hr
  have r3 : hR h (x + 17) 3 = ρ := P.2.2.2.1
  obtain ⟨A1, A2, A3, A4, A5, A6, A7, A8⟩ := id A
  have sz : hI h (ρ + 1) 5 = nI (tN D.2.2.1) := by obtain ⟨_, ⟨l, c⟩, _⟩ := A4; exact c.2.2.2.1
  refine bX5_personLine_0 ⟨P.l5, by rw [r3]; omega, by rw [r3]; exact P.2.2.2.2.2.1, by rw [r3]; exact P.2.2.2.2.2.2.1, fun _ => ?_, fun c => absurd (by rw [r3, sz, show (16 : Int32) = nI 16 by decide, nI_ltI (by omega) (by decide)]; exact hN') c⟩
  refine c_step P I (fun _ => by rw [hk]; decide) (fun h1 F1 I1 => ⟨rfl, (P.fr F1.J).l5, ?_⟩)
  have G1 : FN x (tN D.2.2.1) h h1 := F1.fn
  have P1 := P.fr (G1.J (ρ := ρ))
  have D1 := A.fn hρ G1
  have sz1 : hI h1 (ρ + 1) 5 = nI (tN D.2.2.1) := by rw [G1.1.I (show ¬ ρ + 1 = x + 17 by omega)]; exact sz
  refine c_name P1 B I1 sz1 hN' (fun _ => D1.2.2.1) (fun h2 F2 I2 K2 => ⟨rfl, (P1.fr F2.J).l5, ?_⟩)
  have G2 := G1.tr F2
  have P2 := P.fr (G2.J (ρ := ρ))
  refine c_sideWord P2 B I2 (fun v3 h3 F3 I3 V3 => ⟨v3, rfl, (P2.fr F3.J).l5, ?_⟩)
  have G3 := G2.tr F3.fn
  have P3 := P.fr (G3.J (ρ := ρ))
  refine c_expect P3 I3 (by decide) (fun h4 F4 I4 => ⟨rfl, (P3.fr F4.J).l5, ?_⟩)
  have G4 := G3.tr F4.fn
  have P4 := P.fr (G4.J (ρ := ρ))
  refine c_numberP P4 B I4 (fun v5 h5 F5 I5 V5 => ⟨v5, rfl, (P4.fr F5.J).l5, ?_⟩)
  have G5 := G4.tr F5.fn
  have P5 := P.fr (G5.J (ρ := ρ))
  refine c_expect P5 I5 (by decide) (fun h6 F6 I6 => ⟨rfl, (P5.fr F6.J).l5, ?_⟩)
  have G6 := G5.tr F6.fn
  have P6 := P.fr (G6.J (ρ := ρ))
  refine c_numberP P6 B I6 (fun v7 h7 F7 I7 V7 => ⟨v7, rfl, (P6.fr F7.J).l5, ?_⟩)
  have G7 := G6.tr F7.fn
  have P7 := P.fr (G7.J (ρ := ρ))
  refine c_expect P7 I7 (by decide) (fun h8 F8 I8 => ⟨rfl, (P7.fr F8.J).l5, ?_⟩)
  have G8 := G7.tr F8.fn
  have P8 := P.fr (G8.J (ρ := ρ))
  refine c_numberP P8 B I8 (fun v9 h9 F9 I9 V9 => ⟨v9, rfl, (P8.fr F9.J).l5, ?_⟩)
  have G9 := G8.tr F9.fn
  have P9 := P.fr (G9.J (ρ := ρ))
  have D9 := A.fn hρ G9
  refine c_kindWord P9 B I9 D9.2.2.2.1.2.2.2.2.2.2.1.2.2.2.2.2.2.1 A7 (fun vk hk' Fk Ik Vk => ⟨vk, rfl, (P9.fr Fk.J).l5, ?_⟩)
  have Gk := G9.tr Fk.fn
  have Pk := P.fr (Gk.J (ρ := ρ))
  have Dk := A.fn hρ Gk
  have rk : hR hk' (x + 17) 3 = ρ := Pk.2.2.2.1
  have J2 : hJ hk' (x + 18) = hJ h2 (x + 18) := by rw [Fk.1.2.2.1, F9.1.2.2.1, F8.1.2.2.1, F7.1.2.2.1, F6.1.2.2.1, F5.1.2.2.1, F4.1.2.2.1, F3.1.2.2.1]
  have fin := perP_al (ch := chs (tKd D.2.2.1) (tN D.2.2.1)) B (fun z => (I.2 z).2) (fun z => (I1.2 z).2) (fun z => (I2.2 z).2) (fun z => (I3.2 z).2) (fun z => (I4.2 z).2) (fun z => (I5.2 z).2) (fun z => (I6.2 z).2) (fun z => (I7.2 z).2) (fun z => (I8.2 z).2) (fun z => (I9.2 z).2)
  refine ⟨fun c => ?_, fun c => q hk' Gk.J Ik (fun z => absurd (Ik.1.trans z) c)⟩
  rw [Ik.1] at c
  obtain ⟨_, f0, f2, f4, f6, f8, f9, f1, _⟩ := fin c
  rw [rk]
  refine ⟨by omega, Pk.2.2.2.2.2.1, ?_⟩
  obtain ⟨zk, uk, _⟩ := Vk c
  obtain ⟨z9, u9, _⟩ := V9 zk
  obtain ⟨z8, _, e8⟩ := xpt_al B (fun z => (I7.2 z).2) z9
  obtain ⟨z7, u7, _⟩ := V7 z8
  obtain ⟨z6, _, e6⟩ := xpt_al B (fun z => (I5.2 z).2) z7
  obtain ⟨z5, u5, _⟩ := V5 z6
  obtain ⟨z4, _, e4⟩ := xpt_al B (fun z => (I3.2 z).2) z5
  obtain ⟨z3, u3, _⟩ := V3 z4
  obtain ⟨z2, k2, n2⟩ := K2 z3
  obtain ⟨_, e1⟩ := stp_al z2
  obtain ⟨_, _, e2⟩ := nme_al B (fun z => (I1.2 z).2) z3
  obtain ⟨_, _, e3⟩ := sdw_al B (fun z => (I2.2 z).2) z4
  obtain ⟨_, _, _, _, e5⟩ := num_al B (fun z => (I4.2 z).2) z6
  obtain ⟨_, _, _, _, e7⟩ := num_al B (fun z => (I6.2 z).2) z8
  obtain ⟨_, _, _, _, e9⟩ := num_al B (fun z => (I8.2 z).2) zk
  rw [e1] at n2 e2
  have n2 : hJ h2 (x + 18) (tN D.2.2.1) = kyT s n (bg (S.2 + 1)) := n2
  have e2 : _ = ((0 : Int32), S.2 + 2) := e2
  rw [e1, e2] at u3 e3
  have u3 : v3 = kd (S.2 + 2) - 75 := u3
  have e3 : _ = ((0 : Int32), S.2 + 3) := e3
  rw [e1, e2, e3] at e4
  have e4 : _ = ((0 : Int32), S.2 + 4) := e4
  rw [e1, e2, e3, e4] at u5 e5
  have u5 : v5 = nvT s n (bg (S.2 + 4)) := u5
  have e5 : _ = ((0 : Int32), S.2 + 5) := e5
  rw [e1, e2, e3, e4, e5] at e6
  have e6 : _ = ((0 : Int32), S.2 + 6) := e6
  rw [e1, e2, e3, e4, e5, e6] at u7 e7
  have u7 : v7 = nvT s n (bg (S.2 + 6)) := u7
  have e7 : _ = ((0 : Int32), S.2 + 7) := e7
  rw [e1, e2, e3, e4, e5, e6, e7] at e8
  have e8 : _ = ((0 : Int32), S.2 + 8) := e8
  rw [e1, e2, e3, e4, e5, e6, e7, e8] at u9 e9
  have u9 : v9 = nvT s n (bg (S.2 + 8)) := u9
  have e9 : _ = ((0 : Int32), S.2 + 9) := e9
  rw [e1, e2, e3, e4, e5, e6, e7, e8, e9] at uk
  have uk : vk = kd (S.2 + 9) := uk
  obtain ⟨y1, y2, y3⟩ := f9
  obtain ⟨k, hk5, ek⟩ := kd_81 y1 y2
  rw [uk, ek, u3, u5, u7, u9]
  refine c_addPerson (w := w) (d := d) Dk.2.2.2.1 hk5 hN' (fun e => y3 (by rw [ek, e]; decide)) (fun h' F' j' R' => ⟨rfl, q h' ?_ ?_ (fun _ => ?_)⟩)
  · exact (Gk.J (ρ := ρ)).tr (F'.toJ (fun a ha => by unfold ZP; omega))
  · have i17 : hI h' (x + 17) = hI hk' (x + 17) := F'.I (fun z => by omega)
    unfold P0 at Ik ⊢
    rw [i17]
    exact Ik
  · have i17 : hI h' (x + 17) = hI hk' (x + 17) := F'.I (fun z => by omega)
    obtain ⟨B1, B2, B3, B4, ⟨B5, B6, B7⟩, B8, B9, B10⟩ := Dk
    have ek' : kd (S.2 + 9) - 81 = nI k := by rw [ek, Int32.add_sub_cancel]
    unfold perD
    rw [ek']
    refine ⟨by rw [i17]; exact B1, B2, fun j hj => ?_, R', ⟨by rw [i17]; exact B5, ?_, ?_⟩, ?_, ?_, B10⟩
    · have hj : j < tN D.2.2.1 + 1 := hj
      rw [F'.2.2.1, J2]
      show _ = kyT s n (bg (if j = tN D.2.2.1 then S.2 + 1 else D.2.1 j))
      by_cases cj : j = tN D.2.2.1
      · rw [if_pos cj, cj]; exact n2
      · rw [if_neg cj, ← J2]; exact B3 j (by omega)
    · rw [F'.I (fun z => by omega)]; exact B6
    · rw [j' 14 (by decide)]; exact B7
    · show tN D.2.2.1 + 1 ≤ 16; omega
    · show chs (va_up (tKd D.2.2.1) (tN D.2.2.1) (nI k)) (tN D.2.2.1 + 1) ≤ 8
      rw [chs_up]
      by_cases c5 : nI k = 5
      · rw [if_pos c5]
        have : k = 5 := by rw [show (5 : Int32) = nI 5 by decide, nI_eq (by omega) (by decide)] at c5; exact c5
        have := y3 (by rw [ek, this]; decide)
        omega
      · rw [if_neg c5]; exact B9
end XPERS
