/-! turn: the class's call, where it answers and where it throws. -/
section TURN
variable {w : am_W} {Z : am_Zt} {d x y sa : Nat} {h : am_H} {A : rA} {Q : Option Value → am_H → Prop}
theorem bX9_turn_0 {a0 : Nat} {x1 x2 : Int32} (k : hK h a0 = 9 ∧ EvM w mX9_knowDay d [.ref a0] h (fun r3 h2 => r3 = none ∧ hK h2 a0 = 9 ∧ EvM w mX9_mayTurn d [.ref a0, .int x1, .int x2] h2 (fun r5 h4 => ∃ v : Int32, r5 = some (.int v) ∧ (¬ v = 0 → Ev w Z mX9_turn (d + 1) 23 [(0, .ref a0), (1, .int x1), (2, .int x2)] [] h4 Q) ∧ (v = 0 → Ev w Z mX9_turn (d + 1) 13 [(0, .ref a0), (1, .int x1), (2, .int x2)] [] h4 Q)))) :
    Ev w Z mX9_turn (d + 1) 0 [(0, .ref a0), (1, .int x1), (2, .int x2)] [] h Q := by
  refine Ev.aload_n 0 (am_dt kX9_turn 0 rfl) rfl rfl ?_
  obtain ⟨f1, k⟩ := k
  refine Ev.callV (ci := 9) (v := mX9_knowDay) (As := []) (st := []) okX9_knowDay wd_438 wd_439 wd_440 (am_dt kX9_turn 1 rfl) (by decide) rfl rfl (Nat.le_of_ble_eq_true rfl) (Nat.le_of_ble_eq_true rfl) f1 ?_
  refine EvM.mono k (fun r3 h2 k => ?_)
  obtain ⟨rfl, f2, k⟩ := k
  show Ev w _ _ _ 4 _ [] _ _
  refine Ev.aload_n 0 (am_dt kX9_turn 2 rfl) rfl rfl ?_
  refine Ev.iload_n 1 (am_dt kX9_turn 3 rfl) rfl rfl ?_
  refine Ev.iload_n 2 (am_dt kX9_turn 4 rfl) rfl rfl ?_
  refine Ev.callV (ci := 9) (v := mX9_mayTurn) (As := [.int x1, .int x2]) (st := []) okX9_mayTurn wd_471 wd_472 wd_473 (am_dt kX9_turn 5 rfl) (by decide) rfl rfl (Nat.le_of_ble_eq_true rfl) (Nat.le_of_ble_eq_true rfl) f2 ?_
  refine EvM.mono k (fun r7 h6 k => ?_)
  obtain ⟨v8, rfl, k1, k2⟩ := k
  show Ev w _ _ _ 10 _ [.int v8] _ _
  exact Ev.if_ne (tgt := 23) (am_dt kX9_turn 6 rfl) (by decide) k1 k2
theorem bX9_turn_23 {a0 : Nat} {x1 x2 : Int32} (k : hK h a0 = 9 ∧ EvM w mX9_gainByTurning d [.ref a0, .int x1, .int x2] h (fun r3 h2 => ∃ v : Int32, r3 = some (.int v) ∧ Q (some (.int v)) h2)) :
    Ev w (am_Z w) mX9_turn (d + 1) 23 [(0, .ref a0), (1, .int x1), (2, .int x2)] [] h Q := by
  obtain ⟨f1, k⟩ := k
  refine Ev.aload_n 0 (am_dt kX9_turn 12 rfl) rfl rfl ?_
  refine Ev.iload_n 1 (am_dt kX9_turn 13 rfl) rfl rfl ?_
  refine Ev.iload_n 2 (am_dt kX9_turn 14 rfl) rfl rfl ?_
  refine Ev.callV (ci := 9) (v := mX9_gainByTurning) (As := [.int x1, .int x2]) (st := []) okX9_gainByTurning wd_474 wd_475 wd_476 (am_dt kX9_turn 15 rfl) (by decide) rfl rfl (Nat.le_of_ble_eq_true rfl) (Nat.le_of_ble_eq_true rfl) f1 ?_
  refine EvM.mono k (fun r3 h2 k => ?_)
  obtain ⟨v, rfl, k⟩ := k
  show Ev w _ _ _ 29 _ [.int v] _ _
  exact Ev.iret .int (am_dt kX9_turn 16 rfl) rfl rfl k
theorem c_turnX {p mi : Int32} (R : RepX x y h A) (e : mayT (rvOf A.2.2.1) p mi = true) (q : ∀ h', QF x h h' → RepX x y h' A → Q (some (.int (gain (rvOf A.2.2.1) p.toNatClampNeg mi.toNatClampNeg))) h') : EvM w mX9_turn (d + 6) [.ref x, .int p, .int mi] h Q := by
  refine bX9_turn_0 (Z := am_Z w) (d := d + 5) ⟨R.2.1.1.1, c_knowDay R (fun h2 F2 R2 D2 => ⟨rfl, R2.2.1.1.1, c_mayTurn (d := d + 3) R2 D2 ⟨_, rfl, fun _ => ?_, fun c => ?_⟩⟩)⟩
  · have hNn := R.st.1.1.1
    have hy := R.1
    have e0 := e
    unfold mayT at e0
    simp only [Bool.and_eq_true, decide_eq_true_eq] at e0
    obtain ⟨⟨h1, h2'⟩, -⟩ := e0
    obtain ⟨n, hn, rfl⟩ := nI_of (Int32.not_lt.mpr h1)
    have hNv : vN (rvOf A.2.2.1) ≤ 16 := hNn
    have hp : n < vN (rvOf A.2.2.1) := (nI_ltI hn (by omega)).mp h2'
    obtain ⟨a, ha, ea, hwb⟩ := mayT_w hp hNv e
    subst ea
    rw [nI_clamp hn, nI_clamp (show a < 2 ^ 31 by omega)] at q
    exact bX9_turn_23 (d := d + 5) ⟨R2.2.1.1.1, c_gain (d := d) R2 D2 hp ha hwb (fun h4 F4 => ⟨_, rfl, q h4 (F2.tr (F4.q (by omega))) (R2.tri F4)⟩)⟩
  · rw [e] at c
    exact absurd c (by decide)
theorem c_turnT {p mi : Int32} (hw : TuW w sa) (R : RepX x y h A) (e : mayT (rvOf A.2.2.1) p mi = false) (q : ∀ h', QF x h h' → RepX x y h' A → Q none (nO h' 16 6)) : Ev w (tX w) mX9_turn (d + 6) 0 [(0, .ref x), (1, .int p), (2, .int mi)] [] h Q := by
  refine bX9_turn_0 (Z := tX w) (d := d + 5) ⟨R.2.1.1.1, c_knowDay R (fun h2 F2 R2 D2 => ⟨rfl, R2.2.1.1.1, c_mayTurn (d := d + 3) R2 D2 ⟨_, rfl, fun c => ?_, fun _ => ?_⟩⟩)⟩
  · rw [e] at c
    exact absurd rfl c
  · refine Ev.tuThrow hw rfl (by omega) (am_dt kX9_turn 7 rfl) (am_dt kX9_turn 8 rfl) (am_dt kX9_turn 9 rfl) (am_dt kX9_turn 10 rfl) (am_dt kX9_turn 11 rfl) (q h2 F2 R2)
end TURN
