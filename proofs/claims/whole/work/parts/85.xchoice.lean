/-! The class's asks; seat, chosen. -/
section XCHOICE
variable {w : am_W} {d : Nat} {h h1 : am_H} {Q : Option Value → am_H → Prop} {x y : Nat} {A : rA} {H : rH}
theorem askL_1 (r : rV) (mi : Int32) : ∀ p, (askL r mi p).1 = -1 ∨ ∃ k, k < p ∧ (askL r mi p).1 = nI k := by
  intro p
  induction p with
  | zero => exact Or.inl rfl
  | succ p ih =>
    rw [askL]
    split
    · split
      · exact Or.inr ⟨p, by omega, rfl⟩
      · rcases ih with e | ⟨k, h1, h2⟩
        · exact Or.inl e
        · exact Or.inr ⟨k, by omega, h2⟩
    · rcases ih with e | ⟨k, h1, h2⟩
      · exact Or.inl e
      · exact Or.inr ⟨k, by omega, h2⟩
theorem mayT_w {r : rV} {p : Nat} {minute : Int32} (hp : p < vN r) (hN : vN r ≤ 16) (h : mayT r (nI p) minute = true) : ∃ a, a < 1440 ∧ minute = nI a ∧ wbh (dayK r (-1) 1440).1 (vAt r) (nI a) p = true := by
  unfold mayT at h
  simp only [Bool.and_eq_true, decide_eq_true_eq] at h
  obtain ⟨h1, h2, h3, h4⟩ := h
  obtain ⟨a, ha, rfl⟩ := nI_of (Int32.not_lt.mpr h2.1)
  have := h2.2
  rw [show (1440 : Int32) = nI 1440 by decide, nI_ltI ha (by decide)] at this
  rw [nI_clamp (by omega)] at h4
  exact ⟨a, this, rfl, h4⟩
theorem c_asksX {minute : Int32} (R : RepX x y h A) (q : ∀ h', QF x h h' → RepX x y h' A → Q (some (.int (askL (rvOf A.2.2.1) minute (tN A.2.2.1.1)).1)) h') : EvM w mX9_asks (d + 6) [.ref x, .int minute] h Q := by
  refine bX9_asks_0 ⟨R.2.1.1, c_knowDay R (fun h2 F2 R2 D2 => ⟨rfl, ?_⟩)⟩
  have hNn := R.st.1.1.1
  have hy := R.1
  have loop : ∀ k p, p + k = tN A.2.2.1.1 → ∀ hc, FrG (x + 44) h2 hc → Ev w (am_Z w) mX9_asks (d + 5 + 1) 11 [(0, .ref x), (1, .int minute), (2, .int (askL (rvOf A.2.2.1) minute p).1), (3, .int (askL (rvOf A.2.2.1) minute p).2), (4, .int (nI p))] [] hc Q := by
    intro k
    induction k with
    | zero =>
      intro p hp hc F
      have Rc := R2.tri F
      obtain ⟨V, s1, G, Rv⟩ := Rc.st
      obtain ⟨a1, ⟨l2, C2⟩, _⟩ := id Rv
      have hp : p = tN A.2.2.1.1 := by omega
      subst hp
      exact bX9_asks_11 ⟨Rc.2.1.1, Rc.2.1.2.2.2.2.2.1, s1, a1, C2.1, fun _ => q hc (F2.tr (F.q (by omega))) Rc, fun c => absurd (by rw [C2.2.2.2.1]; exact Int32.le_refl _) c⟩
    | succ k ih =>
      intro p hp hc F
      have Rc := R2.tri F
      obtain ⟨V, s1, G, Rv⟩ := Rc.st
      obtain ⟨a1, ⟨l2, C2⟩, _⟩ := id Rv
      have er : hR hc (x + 20) = hR h2 (x + 20) := (F.same (a := x + 20) (by unfold Out; omega)).2.2.2.2
      have Dc : DyX (x + 31) 16 (hR hc (x + 20) 1) (hR hc (x + 20) 1 + 3) hc (rvOf A.2.2.1) (-1) (dayK (rvOf A.2.2.1) (-1) 1440) := by
        obtain ⟨V2, s12, G2, Rv2⟩ := R2.st
        obtain ⟨g1, g2⟩ := G2.out (D := x + 44) hy (by omega)
        rw [er]
        exact D2.sm (fun b h1 h2 => F.same (by unfold Out; omega)) (fun b h1 h2 => F.same (g1 b h1 h2)) (F.same g2) (F.same (g1 _ (by omega) (by omega)))
      have ih := ih (p + 1) (by omega)
      rw [askL] at ih
      have b1 := askL_1 (rvOf A.2.2.1) minute p
      refine bX9_asks_11 ⟨Rc.2.1.1, Rc.2.1.2.2.2.2.2.1, s1, a1, C2.1, fun c => absurd c (by rw [C2.2.2.2.1, nI_leI (by omega) (by omega)]; omega), fun _ => c_mayTurn (d := d + 3) Rc Dc ⟨_, rfl, fun c => ?_, fun c => ⟨Rc.2.1.1, ?_⟩⟩⟩
      · have e : mayT (rvOf A.2.2.1) (nI p) minute = false := by
          cases hh : mayT (rvOf A.2.2.1) (nI p) minute with
          | false => rfl
          | true => rw [hh] at c; exact absurd c (by decide)
        rw [e, if_neg (by decide)] at ih
        rw [nI_1]
        exact ih hc F
      · have e : mayT (rvOf A.2.2.1) (nI p) minute = true := by
          cases hh : mayT (rvOf A.2.2.1) (nI p) minute with
          | true => rfl
          | false => rw [hh] at c; exact absurd rfl c
        obtain ⟨a, ha, ea, hw⟩ := mayT_w (r := rvOf A.2.2.1) (show p < tN A.2.2.1.1 by omega) hNn e
        rw [e, if_pos rfl] at ih
        subst ea
        rw [nI_clamp (show a < 2 ^ 31 by omega)] at ih
        refine c_gain (d := d) Rc Dc (by omega) ha hw (fun h10 F10 => ⟨_, rfl, ?_⟩)
        have ih := ih h10 (F.tr F10)
        rw [nI_1]
        generalize hX : askL (rvOf A.2.2.1) (nI a) p = X at ih b1
        refine ⟨fun c2 => ?_, fun c2 => ⟨fun c3 => ?_, fun c3 => ?_⟩⟩
        · rw [if_pos (Or.inl (by rw [c2]; decide))] at ih
          exact ih
        · rw [if_neg (fun hh => by
            rcases hh with hh | hh
            · rcases b1 with e | ⟨k, k1, k2⟩
              · exact c2 e
              · rw [k2] at hh; exact absurd hh (nI_pos (by omega))
            · exact absurd (Int32.lt_of_lt_of_le hh c3) Int32.lt_irrefl)] at ih
          exact ih
        · rw [if_pos (Or.inr (Int32.not_le.mp c3))] at ih
          exact ih
  exact loop _ 0 (Nat.zero_add _) h2 FrG.rf
set_option maxHeartbeats 4000000 in
theorem c_seat {ρ : Nat} {t : rT} {bits : Int32} (hb : ¬ bits < 0) (L1 : am_L 1 (x + 57) h) (n61 : hN h (x + 61) = 16) (V : VT t) (Rv : RvX ρ h t) (hρ : (∀ a, ρ ≤ a → a ≤ ρ + 11 → a ≠ x + 61)) (q : ∀ h', FrA (fun a => a = x + 61) h h' → eqR (tN t) (hI h' (x + 61)) (sdf (tKd t) (tSd t) bits) → Q none h') : EvM w mX1_seat (d + 1) [.ref (x + 57), .ref ρ, .int bits] h Q := by
  obtain ⟨a1, ⟨l2, C2⟩, a3, a4, a5, ⟨a6, a6'⟩, ⟨b1, b2, b3, b4, b5, b6, b7, b8⟩, _⟩ := id Rv
  have hN16 := V.1
  have h8 : chs (tKd t) (tN t) ≤ 8 := V.2.2.2.2.2.2.2.2.2.2.2.2.1
  have k61 : hK h (x + 57 + 4) = 12 := L1.s 3 rfl
  have n61' : hN h (x + 57 + 4) = 16 := n61
  -- the choosers
  have loop2 : ∀ k i, i + k = chs (tKd t) (tN t) → ∀ hc, FrA (fun a => a = x + 61) h hc → (∀ p, p < tN t → hI hc (x + 61) p = if tKd t p = 5 ∧ chs (tKd t) p < i then (bits >>> (nI (chs (tKd t) p) &&& 31)) &&& 1 else tSd t p) → Ev w (am_Z w) mX1_seat (d + 1) 40 [(0, .ref (x + 57)), (1, .ref ρ), (2, .int bits), (3, .int (nI i))] [] hc Q := by
    intro k
    induction k with
    | zero =>
      intro i hi hc F E
      have i12 : hI hc ρ 12 = nI (chs (tKd t) (tN t)) := by rw [F.I (hρ ρ (by omega) (by omega))]; exact b7
      refine bX1_seat_40 ⟨F.L a1, fun _ => q hc F (fun p hp => ?_), fun c => absurd (by rw [i12, show i = chs (tKd t) (tN t) by omega]; exact Int32.le_refl _) c⟩
      rw [E p hp]
      unfold sdf
      by_cases e : tKd t p = 5
      · rw [if_pos ⟨e, by have := chs_lt (tKd t) hp e; omega⟩, if_pos e, if_neg hb]
      · rw [if_neg (fun hh => e hh.1), if_neg e]
    | succ k ih =>
      intro i hi hc F E
      have i12 : hI hc ρ 12 = nI (chs (tKd t) (tN t)) := by rw [F.I (hρ ρ (by omega) (by omega))]; exact b7
      obtain ⟨p, p1, p2, p3, p4⟩ := chp_of (kd := tKd t) (k := i) (n := tN t) (by omega)
      refine bX1_seat_40 ⟨F.L a1, fun c => absurd c (by rw [i12, nI_leI (by omega) (by omega)]; omega), fun _ => ⟨F.L L1, c_get (by rw [F.K]; exact a1.s 3 rfl) (by rw [F.N]; omega) ⟨_, rfl, c_set (by rw [F.K]; exact k61) (by rw [F.N]; omega) ⟨rfl, ?_⟩⟩⟩⟩
      rw [F.N (ρ + 9), a6, gv_nI (by omega) (by decide), F.I (hρ (ρ + 9) (by omega) (by omega)), a6' i (by omega), p4, F.N, n61', sv_nI (by omega) (by decide), nI_1]
      refine ih (i + 1) (by omega) _ (F.row rfl) (fun z hz => ?_)
      show hI (rI hc (x + 57 + 4) _) (x + 57 + 4) z = _
      rw [hI_rs]
      by_cases e : z = p
      · subst e
        rw [va_up_self, if_pos ⟨p2, by omega⟩, p3]
      · rw [va_up_ne _ _ e]
        refine (E z hz).trans ?_
        by_cases e5 : tKd t z = 5
        · by_cases el : chs (tKd t) z < i
          · rw [if_pos ⟨e5, el⟩, if_pos ⟨e5, by omega⟩]
          · have ne : ¬ chs (tKd t) z = i := by
              intro ee
              have := chp_at e5 hz
              rw [ee, p4] at this
              exact e this.symm
            rw [if_neg (fun hh => el hh.2), if_neg (fun hh => by have := hh.2; omega)]
        · rw [if_neg (fun hh => e5 hh.1), if_neg (fun hh => e5 hh.1)]
  have loop1 : ∀ k p, p + k = tN t → ∀ hc, FrA (fun a => a = x + 61) h hc → eqR p (hI hc (x + 61)) (tSd t) → Ev w (am_Z w) mX1_seat (d + 1) 2 [(0, .ref (x + 57)), (1, .ref ρ), (2, .int bits), (3, .int (nI p))] [] hc Q := by
    intro k
    induction k with
    | zero =>
      intro p hp hc F E
      have hp : p = tN t := by omega
      subst hp
      have i5 : hI hc (ρ + 1) 5 = nI (tN t) := by rw [F.I (hρ _ (by omega) (by omega))]; exact C2.2.2.2.1
      refine bX1_seat_2 ⟨F.L a1, F.L C2.1, fun _ => loop2 _ 0 (Nat.zero_add _) hc F (fun z hz => ?_), fun c => absurd (by rw [i5]; exact Int32.le_refl _) c⟩
      rw [if_neg (fun hh => absurd hh.2 (Nat.not_lt_zero _))]
      exact E z hz
    | succ k ih =>
      intro p hp hc F E
      have i5 : hI hc (ρ + 1) 5 = nI (tN t) := by rw [F.I (hρ _ (by omega) (by omega))]; exact C2.2.2.2.1
      refine bX1_seat_2 ⟨F.L a1, F.L C2.1, fun c => absurd c (by rw [i5, nI_leI (by omega) (by omega)]; omega), fun _ => ⟨F.L L1, c_get (by rw [F.K]; exact C2.1.s 1 rfl) (by rw [F.N, show hN h (ρ + 3) = 16 from C2.2.1.2.1]; decide) ⟨_, rfl, c_set (by rw [F.K]; exact k61) (by rw [F.N]; omega) ⟨rfl, ?_⟩⟩⟩⟩
      rw [F.N (ρ + 3), show hN h (ρ + 3) = 16 from C2.2.1.2.1, gv_nI (by omega) (by decide), F.I (hρ (ρ + 3) (by omega) (by omega)), a3 p (by omega), F.N, n61', sv_nI (by omega) (by decide), nI_1]
      refine ih (p + 1) (by omega) _ (F.row rfl) ?_
      show eqR (p + 1) (hI (rI hc (x + 57 + 4) _) (x + 57 + 4)) (tSd t)
      rw [hI_rs]
      exact eqR.sv E rfl
  exact bX1_seat_0 (loop1 _ 0 (Nat.zero_add _) h FrA.rf (fun p hp => absurd hp (Nat.not_lt_zero _)))
theorem Rgd.ne {ρ b : Nat} (G : Rgd x y ρ h) (hy : x + 69 ≤ y) (hb : x + 13 ≤ b ∧ b ≤ x + 68 ∨ b = x) : (∀ a, ρ ≤ a → a ≤ ρ + 11 → a ≠ b) ∧ hR h ρ 5 ≠ b := by
  rcases G with ⟨e, f⟩ | ⟨e, f, g⟩
  · exact ⟨fun a h1 h2 => by omega, by omega⟩
  · exact ⟨fun a h1 h2 => by omega, by omega⟩
/-- a day by a choice of sides, and its cost -/
theorem c_chosenDay {K : Nat} {bits : Int32} (hK' : K = 1440) (hb : ¬ bits < 0) (R : RepX x y h A) (q : ∀ h', KN x h h' → (∀ a, x ≤ a → a ≤ x + 68 → ¬ Scr x a → same h h' a) → QF x h h' → RepX x y h' A → DyX (x + 44) 300 (hR h (x + 20) 1) (x + 61) h' (rvOf A.2.2.1) bits (dayK (rvOf A.2.2.1) bits K) → Q none h') :
    EvM w mX1_seat (d + 4) [.ref (x + 57), .ref (hR h (x + 20) 1), .int bits] h (fun r6 h5 => r6 = none ∧ ((am_L 9 x h5) ∧ ((am_L 7 (x + 20) h5) ∧ ((am_L 6 (hR h (x + 20) 1) h5) ∧ ((am_L 1 (x + 57) h5) ∧ (am_L 3 (x + 44) h5) ∧ (EvM w mX3_begin (d + 4) [.ref (x + 44), .ref (hR h (x + 20) 1), .int (hI h5 (x + 20) 2), .ref ((hR h (x + 20) 1) + 1), .ref (x + 61)] h5 (fun r12 h11 => r12 = none ∧ ((am_L 9 x h11) ∧ (am_L 3 (x + 44) h11) ∧ (EvM w mX3_run (d + 4) [.ref (x + 44), .int 1440] h11 Q)))))))))  := by
  obtain ⟨V, s1, G, Rv⟩ := R.st
  have X := R.2.1
  have hy := R.1
  have hNn := V.1.1
  refine c_seat (d := d + 3) hb X.2.2.2.2.2.2.2.2.2.2.2.1 X.2.2.2.2.2.2.2.2.2.2.2.2.1.2.2.2 V.1 Rv (G.ne hy (by omega)).1 (fun h5 F5 E5 => ?_)
  have Q5 : QF x h h5 := F5.q (fun a ha => by omega)
  have R5 : RepX x y h5 A := R.scr F5.kn (fun a h1 h2 h3 => F5.same (by unfold Scr at h3; omega)) (Q5.e2 hy) (by rw [Q5.2.1]; exact Nat.le_refl _)
  obtain ⟨V5, s15, G5, Rv5⟩ := R5.st
  rw [F5.R] at s15 G5 Rv5
  have X5 := R5.2.1
  refine ⟨rfl, X5.1, X5.2.2.2.2.2.1, Rv5.1, X5.2.2.2.2.2.2.2.2.2.2.2.1, X5.2.2.2.2.2.2.2.2.2.2.1.1, ?_⟩
  obtain ⟨l, N⟩ := RvX.need (H := A.2.2.1) (D := x + 44) (v := bits) (s := x + 61) V s15 G5 Rv5 hy (by omega) (by omega) (by unfold Out; omega) (X5.2.2.2.2.2.2.2.2.2.2.2.1.s 3 rfl) X5.2.2.2.2.2.2.2.2.2.2.2.2.1.2.2.2 E5
  rw [show hI h5 (x + 20) 2 = (canP (rvOf A.2.2.1) bits).2.1 from R5.2.2.2.1.2.2.2.2.1]
  refine c_begin (d := d + 3) (L := 300) X5.2.2.2.2.2.2.2.2.2.2.1 (by omega) N (fun h11 F11 D11 Y11 e16 e17 => ⟨rfl, (X5.kn (F11.kn (Or.inr rfl))).1, D11.1, c_runK (d := d) hK' D11 Y11 e17 (fun h14 kr j F14 Y14 => ?_)⟩)
  have F1 := F11.tr F14.g
  exact q h14 (F5.kn.tr (F1.kn (Or.inr rfl))) (fun a h1 h2 h3 => (F5.same (by unfold Scr at h3; omega)).tr (F1.same (by unfold Scr at h3; unfold Out; omega))) (Q5.tr (F1.q (by omega))) (R5.tri F1) ⟨l, kr, j, D11.fr F14, Y14⟩
theorem c_chosenX {v : Int32} (R : RepX x y h A) (q : ∀ h', QF x h h' → RepX x y h' A → Q (some (.int (aChosen (rvOf A.2.2.1) v))) h') : EvM w mX9_chosen (d + 5) [.ref x, .int v] h Q := by
  obtain ⟨V, s1, G, Rv⟩ := R.st
  have X := R.2.1
  have h8 : chs (tKd A.2.2.1.1) (tN A.2.2.1.1) ≤ 8 := V.1.2.2.2.2.2.2.2.2.2.2.2.2.1
  have b7 : hI h (hR h (x + 20) 1) 12 = nI (ncs (rvOf A.2.2.1)) := Rv.2.2.2.2.2.2.1.2.2.2.2.2.2.1
  have p8 := p2_8 h8
  have hs : (1 : Int32) <<< (nI (ncs (rvOf A.2.2.1)) &&& 31) = nI (2 ^ ncs (rvOf A.2.2.1)) := sh1 _ (by show chs (tKd A.2.2.1.1) (tN A.2.2.1.1) < 9; omega)
  have p8' : 2 ^ ncs (rvOf A.2.2.1) ≤ 256 := p8
  unfold aChosen at q
  refine bX9_chosen_0 ⟨X.1, X.2.2.2.2.2.1, s1, fun c => ?_, fun c => ⟨Rv.1, fun c2 => ?_, fun c2 => ?_⟩⟩
  · rw [if_neg (fun hh => absurd (Int32.lt_of_lt_of_le c hh.1) Int32.lt_irrefl)] at q; exact q h QF.rf R
  · rw [b7, hs] at c2
    rw [if_pos ⟨Int32.not_lt.mp c, (le_p1 (by omega)).mpr c2⟩] at q
    refine EvM.mono (c_chosenDay (d := d) (Q := fun r15 h14 => r15 = none ∧ ((am_L 9 x h14) ∧ (EvM w mX3_costWithout (d + 4) [.ref (x + 44), .int ((-1))] h14 (fun r18 h17 => ∃ v19 : Int32, r18 = some (.int v19) ∧ (Q (some (.int v19)) h17))))) rfl c R (fun h14 N14 e14 Q14 R14 D14 => ⟨rfl, R14.2.1.1, ?_⟩)) (fun r6 h5 hq => ⟨hq.1, hq.2.1, hq.2.2.1, hq.2.2.2.1, hq.2.2.2.2.1, EvM.mono hq.2.2.2.2.2.2 (fun r12 h11 hq2 => ⟨hq2.1, hq2.2.1, hq2.2.2.2⟩)⟩)
    obtain ⟨l, kr, j, Dc, Y⟩ := D14
    have er : hR h14 (x + 20) = hR h (x + 20) := (e14 (x + 20) (by omega) (by omega) (by unfold Scr; omega)).2.2.2.2
    refine c_costWithout (d := d + 1) (co := tCo A.2.2.1.1) Dc Y (R14.co' er) ⟨_, rfl, ?_⟩
    exact q h14 Q14 R14
  · rw [b7, hs] at c2
    rw [if_neg (fun hh => c2 ((le_p1 (by omega)).mp hh.2))] at q
    exact q h QF.rf R
end XCHOICE
