/-! The class's days drawn, added up. -/
section XLOTS3
variable {w : am_W} {d : Nat} {h h1 : am_H} {Q : Option Value → am_H → Prop} {x y : Nat} {A : rA} {ρ n room kr j : Nat} {P : rP} {l : List Nat} {trip boats : Int32} {lf : (Nat → Int32) → Int32} {S : rS}
set_option maxHeartbeats 4000000 in
theorem c_addUp (A : DC (x + 44) 300 300 n ρ (x + 63) (x + 65) P l room trip boats lf h) (Y : YS (x + 44) n P l boats h S kr j) (L4 : am_L 4 (x + 62) h) (hρ : (∀ a, ρ ≤ a → a ≤ ρ + 11 → a ≠ x + 62) ∧ hR h ρ 5 ≠ x + 62) (gb : GB n S.1 S.2.1)
    (q : ∀ h', FrA (fun a => a = x + 62) h h' → (∀ k, k < 4 → hI h' (x + 62) k = hI h (x + 62) k) → hI h' (x + 62) 4 = hI h (x + 62) 4 + S.2.2.1 → hI h' (x + 62) 5 = hI h (x + 62) 5 + nI n → (hI h' (x + 62) 6, hI h' (x + 62) 7, hI h' (x + 62) 8) = ltP S.1 P.2.2.2.1 n (hI h (x + 62) 6, hI h (x + 62) 7, hI h (x + 62) 8) → Q none h') : EvM w mX4_addUp (d + 2) [.ref (x + 62), .ref (x + 44)] h Q := by
  have C := A.2.2.2.2.2.2.2.1
  have hL := C.2.2.1
  have sm : ∀ hc, FrA (fun a => a = x + 62) h hc → DC (x + 44) 300 300 n ρ (x + 63) (x + 65) P l room trip boats lf hc ∧ YS (x + 44) n P l boats hc S kr j := fun hc F =>
    ⟨A.sm (fun b h1 h2 => F.same (by omega)) (fun b h1 h2 => F.same (hρ.1 b h1 h2)) (F.same hρ.2) (fun b h1 h2 => F.same (by omega)) (F.same (by omega)), Y.sm (fun b h1 h2 => F.same (by omega))⟩
  have loop : ∀ k p, p + k = n → ∀ hc, FrA (fun a => a = x + 62) h hc → (∀ k, k < 4 → hI hc (x + 62) k = hI h (x + 62) k) → hI hc (x + 62) 4 = hI h (x + 62) 4 + S.2.2.1 → hI hc (x + 62) 5 = hI h (x + 62) 5 + nI n → (hI hc (x + 62) 6, hI hc (x + 62) 7, hI hc (x + 62) 8) = ltP S.1 P.2.2.2.1 p (hI h (x + 62) 6, hI h (x + 62) 7, hI h (x + 62) 8) →
      Ev w (am_Z w) mX4_addUp (d + 1 + 1) 31 [(0, .ref (x + 62)), (1, .ref (x + 44)), (2, .int (nI p))] [] hc Q := by
    intro k
    induction k with
    | zero =>
      intro p hp hc F e0 e4 e5 e6
      have hp : p = n := by omega
      subst hp
      obtain ⟨Dc, Yc⟩ := sm hc F
      have Cc := Dc.2.2.2.2.2.2.2.1
      exact bX4_addUp_31 ⟨F.L L4, Cc.1, fun _ => q hc F e0 e4 e5 e6, fun c => absurd (by rw [show hI hc (x + 62 + 1) 5 = _ from Cc.2.2.2.1]; exact Int32.le_refl _) c⟩
    | succ k ih =>
      intro p hp hc F e0 e4 e5 e6
      obtain ⟨Dc, Yc⟩ := sm hc F
      have Cc := Dc.2.2.2.2.2.2.2.1
      have ih := ih (p + 1) (by omega)
      rw [ltP, ← e6] at ih
      refine bX4_addUp_31 ⟨F.L L4, Cc.1, fun c => absurd c (by rw [show hI hc (x + 62 + 1) 5 = _ from Cc.2.2.2.1, nI_leI (by omega) (by omega)]; omega), fun _ => ⟨Dc.1, c_waitOfX (d := d) Dc Yc (by omega) ⟨_, rfl, F.L L4, fun h8 e8 h9 e9 => ?_⟩⟩⟩
      generalize wof S.1 P.2.2.2.1 p = v at ih e8 e9
      have F9 : FrA (fun a => a = x + 62) h h9 := by rw [e9, e8]; exact (F.fld rfl).fld rfl
      have x8 : hI h8 (x + 62) = va_up (hI hc (x + 62)) 6 (hI hc (x + 62) 6 + v) := by rw [e8, sI_r, hI_rs]
      have x9 : hI h9 (x + 62) = va_up (va_up (hI hc (x + 62)) 6 (hI hc (x + 62) 6 + v)) 8 (if hI hc (x + 62) 8 < v then v else hI hc (x + 62) 8) := by
        rw [e9, sI_r, hI_rs, x8]
        simp [va_ui]
      obtain ⟨D9, Y9⟩ := sm h9 F9
      have n9 : hN h9 (x + 44 + 9) = 300 := D9.2.2.2.1.2.2.2.2.1
      refine ⟨D9.1, c_get (D9.1.s 6 rfl) (by omega) ⟨_, rfl, ?_⟩⟩
      rw [n9, gv_nI (by omega) (by decide), Y9.2.2.2.1.2 p (by omega), nI_1]
      have go : ∀ h15 z, h15 = sI h9 (x + 62) 7 (hI h9 (x + 62) 7 + z) → z = (if 0 ≤ S.1 p then 0 else 1) → Ev w (am_Z w) mX4_addUp (d + 1 + 1) 31 [(0, .ref (x + 62)), (1, .ref (x + 44)), (2, .int (nI (p + 1)))] [] h15 Q := by
        intro h15 z e15 hz
        have x15 : hI h15 (x + 62) = va_up (va_up (va_up (hI hc (x + 62)) 6 (hI hc (x + 62) 6 + v)) 8 (if hI hc (x + 62) 8 < v then v else hI hc (x + 62) 8)) 7 (hI hc (x + 62) 7 + z) := by
          rw [e15, sI_r, hI_rs, x9]
          simp [va_ui]
        refine ih h15 (by rw [e15]; exact F9.fld rfl) (fun k hk => ?_) ?_ ?_ ?_
        · rw [x15, va_up_ne _ _ (by omega), va_up_ne _ _ (by omega), va_up_ne _ _ (by omega)]; exact e0 k hk
        · rw [x15]; simpa [va_ui] using e4
        · rw [x15]; simpa [va_ui] using e5
        · rw [x15, ← hz]; simp [va_ui]
      refine ⟨fun c => ⟨F9.L L4, fun h15 e15 => go h15 1 e15 ?_⟩, fun c => ⟨F9.L L4, fun h15 e15 => go h15 0 e15 ?_⟩⟩
      · rcases gb p (by omega) with ⟨g1, g2⟩ | ⟨g1, g2⟩
        · rw [g1, if_neg (by decide)]
        · rw [c] at g2; exact absurd g2 (by decide)
      · rcases gb p (by omega) with ⟨g1, g2⟩ | ⟨g1, g2⟩
        · exact absurd g2 c
        · rw [if_pos g1]
  refine bX4_addUp_0 ⟨L4, A.1, fun h3 e3 => ?_⟩
  have F3 : FrA (fun a => a = x + 62) h h3 := by rw [e3]; exact FrA.rf.fld rfl
  have x3 : hI h3 (x + 62) = va_up (hI h (x + 62)) 4 (hI h (x + 62) 4 + hI h (x + 44) 10) := by rw [e3, sI_r, hI_rs]
  refine ⟨F3.L C.1, fun h5 e5 => ?_⟩
  have x5 : hI h5 (x + 62) = va_up (va_up (hI h (x + 62)) 4 (hI h (x + 62) 4 + hI h (x + 44) 10)) 5 (hI h (x + 62) 5 + nI n) := by
    rw [e5, sI_r, hI_rs, x3, show hI h3 (x + 62 + 1) 5 = nI n by rw [F3.I (by omega)]; exact C.2.2.2.1]
    simp [va_ui]
  refine loop n 0 (by omega) h5 (by rw [e5]; exact F3.fld rfl) (fun k hk => ?_) ?_ ?_ ?_
  · rw [x5, va_up_ne _ _ (by omega), va_up_ne _ _ (by omega)]
  · rw [x5]
    simp [va_ui]
    rw [Y.2.1.1, ← Y.2.1.2.1]
  · rw [x5]; simp [va_ui]
  · rw [x5]; simp [va_ui]; rfl
/-- what a going through drawn days may change -/
def LG (x : Nat) (h h' : am_H) : Prop := KN x h h' ∧ QF x h h' ∧ ∀ a, x ≤ a → a ≤ x + 68 → ¬ Scr x a → a ≠ x + 62 → same h h' a
theorem LG.rf : LG x h h := ⟨⟨fun _ _ _ => ⟨rfl, rfl⟩, fun _ _ _ _ _ => rfl⟩, QF.rf, fun _ _ _ _ _ => same.rf⟩
theorem LG.tr {h2 : am_H} (a : LG x h h1) (b : LG x h1 h2) : LG x h h2 := ⟨a.1.tr b.1, a.2.1.tr b.2.1, fun c p q r s => (a.2.2 c p q r s).tr (b.2.2 c p q r s)⟩
theorem FrA.lg {Z : Nat → Prop} (F : FrA Z h h1) (hz : ∀ a, Z a → a = x + 62 ∨ (x + 44 ≤ a ∧ a ≤ x + 56) ∨ (x + 63 ≤ a ∧ a ≤ x + 68)) : LG x h h1 := ⟨F.kn, F.q (fun a ha => by have := hz a ha; omega), fun a _ _ h3 h4 => F.same (fun z => by have := hz a z; unfold Scr at h3; omega)⟩
theorem FrJ.lg {Z : Nat → Prop} (F : FrJ Z (x + 62) h h1) (hz : ∀ a, Z a → a = x + 62 ∨ (x + 63 ≤ a ∧ a ≤ x + 68)) : LG x h h1 := by
  refine ⟨F.kn, F.q (fun a ha => ?_), fun a _ _ h3 h4 => F.same (fun z => by have := hz a z; unfold Scr at h3; omega) h4⟩
  rcases ha with ha | ha
  · have := hz a ha
    omega
  · omega
theorem FrG.lg (F : FrG (x + 44) h h1) : LG x h h1 := ⟨F.kn (Or.inr rfl), F.q (by omega), fun a _ _ h3 _ => F.same (by unfold Scr at h3; unfold Out; omega)⟩
theorem LG.st {hc : am_H} (R : RepX x y h A) (F : LG x h hc) : XL x hc ∧ StX x y (x + 20) hc A.2.2.1 ∧ hR hc (x + 20) = hR h (x + 20) := by
  have hy := R.1
  have ns : ∀ a, (a ≤ x + 14 ∨ (x + 20 ≤ a ∧ a ≤ x + 43)) → ¬ Scr x a := fun a ha => by unfold Scr; omega
  have s20 := F.2.2 (x + 20) (by omega) (by omega) (ns _ (by omega)) (by omega)
  exact ⟨R.2.1.kn F.1, R.2.2.2.1.sm s20 (F.2.2 _ (by omega) (by omega) (ns _ (by omega)) (by omega)) (fun a p q => F.2.1.1 a (by omega)) (F.2.1.e2 hy) (by rw [F.2.1.2.1]; exact Nat.le_refl _), s20.2.2.2.2⟩
set_option maxHeartbeats 4000000 in
theorem c_goLots {K sn dn : Nat} (hK' : K = 1440) (hs : sn ≤ 9999) (hd : dn ≤ 50) (R : RepX x y h A)
    (q : ∀ h', LG x h h' → hI h' (x + 62) 1 = 1 → LtX K x h' A.2.2.1 → hI h' (x + 62) 2 = nI sn → hI h' (x + 62) 3 = nI dn → (hI h' (x + 62) 4, hI h' (x + 62) 5, hI h' (x + 62) 6, hI h' (x + 62) 7, hI h' (x + 62) 8) = (ltA K A.2.2.1 sn dn).2 → Q none h') : EvM w mX4_go (d + 5) [.ref (x + 62), .ref (x + 20), .ref (x + 44), .int (nI sn), .int (nI dn)] h Q := by
  obtain ⟨V, s1, G, Rv⟩ := R.st
  have hy := R.1
  have X := R.2.1
  have vS := V.1.2.2.2.2.1
  have loop : ∀ k e, e + k = dn → ∀ hc, LG x h hc → hJ hc (x + 62) 9 = lN (ltA K A.2.2.1 sn e).1 → (hI hc (x + 62) 4, hI hc (x + 62) 5, hI hc (x + 62) 6, hI hc (x + 62) 7, hI hc (x + 62) 8) = (ltA K A.2.2.1 sn e).2 →
      Ev w (am_Z w) mX4_go (d + 4 + 1) 34 [(0, .ref (x + 62)), (1, .ref (x + 20)), (2, .ref (x + 44)), (3, .int (nI sn)), (4, .int (nI dn)), (5, .int (nI e))] [] hc Q := by
    intro k
    induction k with
    | zero =>
      intro e he hc F J E
      have he : e = dn := by omega
      subst he
      obtain ⟨Xc, Sc, er⟩ := F.st R
      have L4 := Xc.2.2.2.2.2.2.2.2.2.2.2.2.2.1
      refine bX4_go_34 ⟨fun _ => ⟨L4, fun h2 e2 h3 e3 h4 e4 => ?_⟩, fun c => absurd (Int32.le_refl _) c⟩
      have x4 : hI h4 (x + 62) = va_up (va_up (va_up (hI hc (x + 62)) 1 1) 2 (nI sn)) 3 (nI e) := by
        rw [e4, e3, e2]; simp only [sI_r, hI_rs]
      have F4 : FrA (fun a => a = x + 62) hc h4 := by rw [e4, e3, e2]; refine FrA.fld (FrA.fld (FrA.fld FrA.rf ?_) ?_) ?_ <;> exact rfl
      have E4 : (hI h4 (x + 62) 4, hI h4 (x + 62) 5, hI h4 (x + 62) 6, hI h4 (x + 62) 7, hI h4 (x + 62) 8) = (ltA K A.2.2.1 sn e).2 := by
        rw [← E, x4]; simp [va_ui]
      have y2 : hI h4 (x + 62) 2 = nI sn := by rw [x4]; simp [va_ui]
      have y3 : hI h4 (x + 62) 3 = nI e := by rw [x4]; simp [va_ui]
      refine q h4 (F.tr (F4.lg (fun a ha => Or.inl ha))) (by rw [x4]; simp [va_ui]) ⟨sn, e, hs, hd, y2, y3, ?_⟩ y2 y3 E4
      rw [← E4]
      exact ⟨rfl, rfl, rfl, rfl, rfl⟩
    | succ k ih =>
      intro e he hc F J E
      obtain ⟨Xc, Sc, er⟩ := F.st R
      obtain ⟨Vc, s1c, Gc, Rvc, u1, u2, u3⟩ := id Sc
      have L4 := Xc.2.2.2.2.2.2.2.2.2.2.2.2.2.1
      have ih := ih (e + 1) (by omega)
      rw [ltA] at ih
      have g3 := ltA_g K A.2.2.1 sn (by omega) e
      generalize ltA K A.2.2.1 sn e = Z at ih J E g3
      refine bX4_go_34 ⟨fun c => absurd c (by rw [nI_leI (by omega) (by omega)]; omega), fun _ => ⟨Xc.2.2.2.2.2.1, s1c, L4, ?_⟩⟩
      have hρ : ∀ a, hR hc (x + 20) 1 ≤ a → a ≤ hR hc (x + 20) 1 + 11 → (a < x + 62 ∨ x + 68 < a) := by
        rcases Gc with ⟨g1, g2⟩ | ⟨g1, g2, g4⟩
        · exact fun a h1 h2 => by omega
        · exact fun a h1 h2 => by omega
      have CC : ltC K A.2.2.1.1 Z.1 = crw (tCome A.2.2.1.1) (tShare A.2.2.1.1) (tOf A.2.2.1.1) Z.1 K := rfl
      refine c_drawCrowd (d := d + 2) (K := K) (g0 := Z.1) (C := ltC K A.2.2.1.1 Z.1) hK' g3 V.1 CC L4 Xc.2.2.2.2.2.2.2.2.2.2.2.2.2.2.1 Xc.2.2.2.2.2.2.2.2.2.2.2.2.2.2.2 Rvc hρ J (fun h8 l F8 C8 E8 J8 => ⟨rfl, ?_⟩)
      have G8 := F8.lg (x := x) (fun a ha => by omega)
      obtain ⟨X8, S8, er8⟩ := (F.tr G8).st R
      obtain ⟨V8, s18, R8g, R8, w1, w2, w3⟩ := id S8
      have er8' : hR h8 (x + 20) = hR hc (x + 20) := by rw [er8, er]
      refine ⟨X8.2.2.2.2.2.1, s18, X8.2.2.2.2.2.2.2.2.2.2.2.2.2.1, X8.2.2.2.2.2.2.2.2.2.2.2.2.2.2.1, X8.2.2.2.2.2.2.2.2.2.2.1.1, ?_⟩
      have n300 : (ltC K A.2.2.1.1 Z.1).2.1 ≤ 300 := (crw_300 _ _ _ _ _).1
      have pp : PpOK (lotP A.2.2.1.2.1 (ltC K A.2.2.1.1 Z.1)) (ltC K A.2.2.1.1 Z.1).2.1 := by
        refine ⟨fun p hp => (crw_at _ _ _ _ _ p hp).2, fun p hp => ?_⟩
        obtain ⟨⟨m, m1, m2⟩, _⟩ := crw_at (tCome A.2.2.1.1) (tShare A.2.2.1.1) (tOf A.2.2.1.1) Z.1 K p hp
        exact ⟨m, by omega, m2⟩
      obtain ⟨o1, o2⟩ := R8g.out (D := x + 44) hy (by omega)
      have k65 : hK h8 (x + 65) = 12 := X8.2.2.2.2.2.2.2.2.2.2.2.2.2.2.1.s 1 rfl
      have n65 : hN h8 (x + 65) = 300 := X8.2.2.2.2.2.2.2.2.2.2.2.2.2.2.2.2.1
      have N : DNeed (x + 44) 300 (ltC K A.2.2.1.1 Z.1).2.1 (hR h8 (x + 20) 1) (x + 63) (x + 65) (lotP A.2.2.1.2.1 (ltC K A.2.2.1.1 Z.1)) l (tRoom A.2.2.1.1) (nI (tTrip A.2.2.1.1)) (nI (tBoats A.2.2.1.1)) (vLf (rvOf A.2.2.1)) h8 :=
        ⟨⟨s18, by omega, by omega⟩, ⟨o1, fun a h1 h2 => by unfold Out; omega, by unfold Out; omega, o2⟩, C8, ⟨k65, by omega, by omega, E8⟩, R8.toY V8, pp⟩
      rw [show hI h8 (x + 20) 2 = (lotP A.2.2.1.2.1 (ltC K A.2.2.1.1 Z.1)).2.1 from w1]
      refine c_begin (d := d + 3) (L := 300) X8.2.2.2.2.2.2.2.2.2.2.1 n300 N (fun h15 F15 D15 Y15 e16 e17 => ⟨rfl, D15.1, c_runK (d := d) hK' D15 Y15 e17 (fun h18 kr j F18 Y18 => ⟨rfl, (D15.fr F18).1 |> fun _ => ?_, ?_⟩)⟩)
      · exact (((F.tr G8).tr (F15.tr F18.g).lg).st R).1.2.2.2.2.2.2.2.2.2.2.2.2.2.1
      have GF := (F.tr G8).tr (F15.tr F18.g).lg
      obtain ⟨X18, S18, er18⟩ := GF.st R
      have D18 := D15.fr F18
      have F1 := F15.tr F18.g
      have G18 := S18.2.2.1
      have Y18 : YS (x + 44) (ltC K A.2.2.1.1 Z.1).2.1 (lotP A.2.2.1.2.1 (ltC K A.2.2.1.1 Z.1)) l (nI (tBoats A.2.2.1.1)) h18 (ltS K A.2.2.1 (ltC K A.2.2.1.1 Z.1)) kr j := Y18
      have er' : hR h18 (x + 20) 1 = hR h8 (x + 20) 1 := by rw [er18, er8]
      rw [er'] at G18
      have hb : K * (ltC K A.2.2.1.1 Z.1).2.1 ≤ 1440 * 300 := Nat.mul_le_mul (by omega) n300
      have gb : GB (ltC K A.2.2.1.1 Z.1).2.1 (ltS K A.2.2.1 (ltC K A.2.2.1.1 Z.1)).1 (ltS K A.2.2.1 (ltC K A.2.2.1.1 Z.1)).2.1 :=
        goS_gb (P := lotP A.2.2.1.2.1 (ltC K A.2.2.1.1 Z.1)) (n := (ltC K A.2.2.1.1 Z.1).2.1) (room := tRoom A.2.2.1.1) (trip := nI (tTrip A.2.2.1.1)) (lf := vLf (rvOf A.2.2.1)) K 0 (k := 0) (S := canS (rvOf A.2.2.1)) (by omega) (by omega) nI_0.symm (fun p _ => Or.inl ⟨rfl, rfl⟩)
      refine c_addUp (d := d + 2) D18 Y18 X18.2.2.2.2.2.2.2.2.2.2.2.2.2.1 (G18.ne hy (by omega)) gb (fun h21 F21 z0 z4 z5 z6 => ⟨rfl, ?_⟩)
      have i62 : hI h18 (x + 62) = hI hc (x + 62) := by rw [(F1.same (a := x + 62) (by unfold Out; omega)).2.2.1, F8.I (by omega)]
      have j62 : hJ h21 (x + 62) 9 = lN (ltC K A.2.2.1.1 Z.1).1 := by rw [F21.2.2.1, (F1.same (a := x + 62) (by unfold Out; omega)).2.2.2.1, J8]
      rw [i62] at z4 z5 z6
      rw [nI_1]
      refine ih h21 (GF.tr (F21.lg (fun a ha => Or.inl ha))) j62 ?_
      have E' := E
      have q4 : hI hc (x + 62) 4 = Z.2.1 := congrArg (fun u => u.1) E'
      have q5 : hI hc (x + 62) 5 = Z.2.2.1 := congrArg (fun u => u.2.1) E'
      have q6 : (hI hc (x + 62) 6, hI hc (x + 62) 7, hI hc (x + 62) 8) = Z.2.2.2 := congrArg (fun u => u.2.2) E'
      rw [q6] at z6
      show (hI h21 (x + 62) 4, hI h21 (x + 62) 5, hI h21 (x + 62) 6, hI h21 (x + 62) 7, hI h21 (x + 62) 8) = (Z.2.1 + (ltS K A.2.2.1 (ltC K A.2.2.1.1 Z.1)).2.2.1, Z.2.2.1 + nI (ltC K A.2.2.1.1 Z.1).2.1, ltP (ltS K A.2.2.1 (ltC K A.2.2.1.1 Z.1)).1 (ltC K A.2.2.1.1 Z.1).2.2.2 (ltC K A.2.2.1.1 Z.1).2.1 Z.2.2.2)
      rw [z4, z5, q4, q5]
      have z6 : (hI h21 (x + 62) 6, hI h21 (x + 62) 7, hI h21 (x + 62) 8) = ltP (ltS K A.2.2.1 (ltC K A.2.2.1.1 Z.1)).1 (ltC K A.2.2.1.1 Z.1).2.2.2 (ltC K A.2.2.1.1 Z.1).2.1 Z.2.2.2 := z6
      rw [← z6]
  have L4 := X.2.2.2.2.2.2.2.2.2.2.2.2.2.1
  refine bX4_go_0 ⟨L4, fun h2 e2 h3 e3 h4 e4 h5 e5 h6 e6 h7 e7 => ?_⟩
  have F7 : FrJ (fun a => a = x + 62) (x + 62) h h7 := by
    rw [e7, e6, e5, e4, e3, e2]
    refine FrJ.fld (FrJ.fld (FrJ.fld (FrJ.fld (FrJ.fld (FrJ.j FrJ.rf) ?_) ?_) ?_) ?_) ?_ <;> exact rfl
  have x7 : hI h7 (x + 62) = va_up (va_up (va_up (va_up (va_up (hI h (x + 62)) 4 0) 5 0) 6 0) 7 0) 8 0 := by
    rw [e7, e6, e5, e4, e3, e2]
    simp only [sI_r, hI_rs]
    rfl
  have j7 : hJ h7 (x + 62) 9 = lN sn := by
    rw [e7, e6, e5, e4, e3, e2]
    show va_up (hJ h) (x + 62) _ (x + 62) 9 = _
    rw [va_up_self, va_up_self, nI_l (by omega)]
  refine loop dn 0 (by omega) h7 (F7.lg (fun a ha => Or.inl ha)) j7 ?_
  rw [x7]
  simp [va_ui]
  rfl
end XLOTS3
