/-! The class's all, bank, person, use, count, tell, clear. -/
theorem w_of {what : Int32} {n : Nat} {M : Int32} (hM : M.toInt = n) (hh : 0 ≤ what ∧ what ≤ M) : ∃ k, k ≤ n ∧ what = nI k := nI_of2 hM (Int32.not_lt.mpr hh.1) hh.2
section XPUB2
variable {w : am_W} {d : Nat} {h h1 : am_H} {Q : Option Value → am_H → Prop} {x y : Nat} {A : rA} {H : rH}
theorem RepX.co (R : RepX x y h A) : hN h (hR h (x + 20) 1 + 7) = 16 ∧ tN A.2.2.1.1 ≤ 16 ∧ eqR (tN A.2.2.1.1) (hI h (hR h (x + 20) 1 + 7)) (tCo A.2.2.1.1) := ⟨R.st.2.2.2.2.2.2.1.1, R.st.1.1.1, R.st.2.2.2.2.2.2.1.2⟩
theorem day_gb (H : rH) (V : VH H) {K : Nat} (hK' : K = 1440) : GB (tN H.1) (dayK (rvOf H) (-1) K).1 (dayK (rvOf H) (-1) K).2.1 := by
  have hN := V.1.1
  have : K * tN H.1 ≤ 1440 * 16 := Nat.mul_le_mul (by omega) hN
  exact goS_gb (P := canP (rvOf H) (-1)) (n := tN H.1) (room := tRoom H.1) (trip := nI (tTrip H.1)) (lf := vLf (rvOf H)) K 0 (k := 0) (S := canS (rvOf H)) (by omega) (by omega) nI_0.symm (fun p _ => Or.inl ⟨rfl, rfl⟩)
theorem c_nightBits {K : Nat} (R : RepX x y h A) (D : DyX (x + 31) 16 (hR h (x + 20) 1) (hR h (x + 20) 1 + 3) h (rvOf A.2.2.1) (-1) (dayK (rvOf A.2.2.1) (-1) K)) (hK' : K = 1440) (q : Q (some (.int (ntS (dayK (rvOf A.2.2.1) (-1) K).1 (tN A.2.2.1.1)))) h) : EvM w mX9_nightBits (d + 1) [.ref x] h Q := by
  obtain ⟨V, s1, G, Rv⟩ := R.st
  obtain ⟨_, ⟨l2, C2⟩, _⟩ := id Rv
  have hNn := V.1.1
  have gb := day_gb A.2.2.1 V hK'
  obtain ⟨l, kr, j, Dc, Y⟩ := D
  have Y9 := Y.2.2.2.1.2
  generalize dayK (rvOf A.2.2.1) (-1) K = S at q gb Y9
  have dl := R.2.1.2.2.2.2.2.2.2.2.2.1
  have loop : ∀ k p, p + k = tN A.2.2.1.1 → Ev w (am_Z w) mX9_nightBits (d + 1) 4 [(0, .ref x), (1, .int (ntS S.1 p)), (2, .int (nI p))] [] h Q := by
    intro k
    induction k with
    | zero =>
      intro p hp
      have hp : p = tN A.2.2.1.1 := by omega
      subst hp
      exact bX9_nightBits_4 ⟨R.2.1.1, R.2.1.2.2.2.2.2.1, s1, Rv.1, C2.1, fun _ => q, fun c => absurd (by rw [C2.2.2.2.1]; exact Int32.le_refl _) c⟩
    | succ k ih =>
      intro p hp
      have ih := ih (p + 1) (by omega)
      rw [ntS] at ih
      refine bX9_nightBits_4 ⟨R.2.1.1, R.2.1.2.2.2.2.2.1, s1, Rv.1, C2.1, fun c => absurd c (by rw [C2.2.2.2.1, nI_leI (by omega) (by omega)]; omega), fun _ => ⟨dl.1, c_get (a := x + 31 + 9) (dl.1.s 6 rfl) (by rw [dl.2.2.2.2.2.2.2.1]; decide) ⟨_, rfl, ?_⟩⟩⟩
      rw [dl.2.2.2.2.2.2.2.1, gv_nI (by omega) (by decide), Y9 p (show p < tN A.2.2.1.1 by omega), nI_1]
      refine ⟨fun c => ?_, fun c => ?_⟩
      · rcases gb p (by omega) with ⟨e1, e2⟩ | ⟨e1, e2⟩
        · rw [if_neg (by rw [e1]; decide)] at ih
          exact ih
        · rw [c] at e2; exact absurd e2 (by decide)
      · rcases gb p (by omega) with ⟨e1, e2⟩ | ⟨e1, e2⟩
        · exact absurd e2 c
        · rw [if_pos e1, Int32.or_zero] at ih
          exact ih
  exact bX9_nightBits_0 (loop _ 0 (Nat.zero_add _))
theorem c_allX {what : Int32} (R : RepX x y h A) (q : ∀ h', QF x h h' → RepX x y h' A → Q (some (.int (aAll (rvOf A.2.2.1) what))) h') : EvM w mX9_all (d + 6) [.ref x, .int what] h Q := by
  refine bX9_all_0 ⟨R.2.1.1, c_knowDay R (fun h2 F2 R2 D2 => ⟨rfl, ?_⟩)⟩
  have q := q h2 F2 R2
  unfold aAll at q
  refine ⟨fun c => ⟨R2.2.1.1, ?_⟩, fun c => ⟨fun c2 => ⟨R2.2.1.1, ?_⟩, fun c2 => ⟨fun c3 => ⟨R2.2.1.1, ?_⟩, fun c3 => ?_⟩⟩⟩
  · subst c
    obtain ⟨l, kr, j, Dc, Y⟩ := D2
    refine c_costWithout (d := d + 2) Dc Y R2.co ⟨_, rfl, ?_⟩
    exact q
  · subst c2
    obtain ⟨l, kr, j, Dc, Y⟩ := D2
    refine c_longestWait (d := d + 3) Dc Y ⟨_, rfl, ?_⟩
    exact q
  · subst c3
    refine c_nightBits (d := d + 4) R2 D2 rfl ⟨_, rfl, ?_⟩
    exact q
  · rw [if_neg] at q
    · exact q
    · intro hh
      obtain ⟨k, hk, e⟩ := w_of (n := 2) (by decide) hh
      have : k = 0 ∨ k = 1 ∨ k = 2 := by omega
      rcases this with e2 | e2 | e2
      · exact c (by rw [e, e2]; decide)
      · exact c2 (by rw [e, e2]; decide)
      · exact c3 (by rw [e, e2]; decide)
theorem c_waitsAt {p a : Nat} {side : Int32} {S : rS} (R : RepX x y h A) (D : DyX (x + 31) 16 (hR h (x + 20) 1) (hR h (x + 20) 1 + 3) h (rvOf A.2.2.1) (-1) S) (hp : p < tN A.2.2.1.1) (ha : a < 1440) (q : Q (some (.int (if (decide (tSd A.2.2.1.1 p = side) && wbh S.1 (tAt A.2.2.1.1) (nI a) p) then 1 else 0))) h) : EvM w mX9_waitsAt (d + 2) [.ref x, .int (nI p), .int side, .int (nI a)] h Q := by
  obtain ⟨V, s1, G, Rv⟩ := R.st
  obtain ⟨_, ⟨l2, C2⟩, a3, _⟩ := id Rv
  have hNn := V.1.1
  obtain ⟨l, kr, j, Dc, Y⟩ := D
  refine bX9_waitsAt_0 ⟨R.2.1.1, R.2.1.2.2.2.2.2.1, s1, Rv.1, C2.1, c_get (C2.1.s 1 rfl) (by rw [C2.2.1.2.1]; decide) ⟨_, rfl, ?_⟩⟩
  rw [C2.2.1.2.1, gv_nI (by omega) (by decide), show hI h (hR h (x + 20) 1 + 1 + 2) p = tSd A.2.2.1.1 p from a3 p hp]
  refine ⟨fun c => ⟨R.2.1.1, c_isWaitingBehind Dc Y hp ha ⟨_, rfl, fun c2 => ?_, fun c2 => ?_⟩⟩, fun c => ?_⟩
  · rw [show (canP (rvOf A.2.2.1) (-1)).2.2.2.1 = tAt A.2.2.1.1 from rfl] at c2
    cases hh : wbh S.1 (tAt A.2.2.1.1) (nI a) p with
    | true => rw [hh] at c2; exact absurd c2 (by decide)
    | false => rw [hh, Bool.and_false] at q; exact q
  · rw [show (canP (rvOf A.2.2.1) (-1)).2.2.2.1 = tAt A.2.2.1.1 from rfl] at c2
    cases hh : wbh S.1 (tAt A.2.2.1.1) (nI a) p with
    | true => rw [hh, decide_eq_true c] at q; exact q
    | false => rw [hh] at c2; exact absurd rfl c2
  · rw [decide_eq_false c] at q
    exact q
theorem bk_s {sd at_ g : Nat → Int32} {side mi : Int32} {f : Nat → Int32} {p : Nat} : bkS sd at_ g side mi f (p + 1) = bkS sd at_ g side mi f p + if (decide (sd p = side) && wbh g at_ mi p) then f p else 0 := by
  rw [bkS]
  by_cases e : sd p = side
  · rw [if_pos e, decide_eq_true e, Bool.true_and]
  · rw [if_neg e, decide_eq_false e]; rfl
theorem c_heads {a : Nat} {side : Int32} {S : rS} (R : RepX x y h A) (D : DyX (x + 31) 16 (hR h (x + 20) 1) (hR h (x + 20) 1 + 3) h (rvOf A.2.2.1) (-1) S) (ha : a < 1440) (q : Q (some (.int (bkS (tSd A.2.2.1.1) (tAt A.2.2.1.1) S.1 side (nI a) (fun _ => 1) (tN A.2.2.1.1)))) h) : EvM w mX9_heads (d + 3) [.ref x, .int side, .int (nI a)] h Q := by
  obtain ⟨V, s1, G, Rv⟩ := R.st
  obtain ⟨_, ⟨l2, C2⟩, a3, _⟩ := id Rv
  have hNn := V.1.1
  have loop : ∀ k p, p + k = tN A.2.2.1.1 → Ev w (am_Z w) mX9_heads (d + 2 + 1) 5 [(0, .ref x), (1, .int side), (2, .int (nI a)), (3, .int (bkS (tSd A.2.2.1.1) (tAt A.2.2.1.1) S.1 side (nI a) (fun _ => 1) p)), (4, .int (nI p))] [] h Q := by
    intro k
    induction k with
    | zero =>
      intro p hp
      have hp : p = tN A.2.2.1.1 := by omega
      subst hp
      exact bX9_heads_5 ⟨R.2.1.1, R.2.1.2.2.2.2.2.1, s1, Rv.1, C2.1, fun _ => q, fun c => absurd (by rw [C2.2.2.2.1]; exact Int32.le_refl _) c⟩
    | succ k ih =>
      intro p hp
      have ih := ih (p + 1) (by omega)
      rw [bk_s] at ih
      refine bX9_heads_5 ⟨R.2.1.1, R.2.1.2.2.2.2.2.1, s1, Rv.1, C2.1, fun c => absurd c (by rw [C2.2.2.2.1, nI_leI (by omega) (by omega)]; omega), fun _ => c_waitsAt R D (by omega) ha ⟨_, rfl, fun c => ?_, fun c => ?_⟩⟩
      · cases hh : (decide (tSd A.2.2.1.1 p = side) && wbh S.1 (tAt A.2.2.1.1) (nI a) p) with
        | true => rw [hh] at c; exact absurd c (by decide)
        | false => rw [hh] at ih; rw [nI_1]; exact ih
      · cases hh : (decide (tSd A.2.2.1.1 p = side) && wbh S.1 (tAt A.2.2.1.1) (nI a) p) with
        | true => rw [hh] at ih; rw [nI_1]; exact ih
        | false => rw [hh] at c; exact absurd rfl c
  exact bX9_heads_0 (loop _ 0 (Nat.zero_add _))
theorem c_together {a ro : Nat} {side : Int32} {S : rS} {f : Nat → Int32} (R : RepX x y h A) (D : DyX (x + 31) 16 (hR h (x + 20) 1) (hR h (x + 20) 1 + 3) h (rvOf A.2.2.1) (-1) S) (ha : a < 1440) (r1 : hK h ro = 12) (r2 : hN h ro = 16) (r3 : eqR (tN A.2.2.1.1) (hI h ro) f) (q : Q (some (.int (bkS (tSd A.2.2.1.1) (tAt A.2.2.1.1) S.1 side (nI a) f (tN A.2.2.1.1)))) h) : EvM w mX9_together (d + 3) [.ref x, .ref ro, .int side, .int (nI a)] h Q := by
  obtain ⟨V, s1, G, Rv⟩ := R.st
  obtain ⟨_, ⟨l2, C2⟩, a3, _⟩ := id Rv
  have hNn := V.1.1
  have loop : ∀ k p, p + k = tN A.2.2.1.1 → Ev w (am_Z w) mX9_together (d + 2 + 1) 6 [(0, .ref x), (1, .ref ro), (2, .int side), (3, .int (nI a)), (4, .int (bkS (tSd A.2.2.1.1) (tAt A.2.2.1.1) S.1 side (nI a) f p)), (5, .int (nI p))] [] h Q := by
    intro k
    induction k with
    | zero =>
      intro p hp
      have hp : p = tN A.2.2.1.1 := by omega
      subst hp
      exact bX9_together_6 ⟨R.2.1.1, R.2.1.2.2.2.2.2.1, s1, Rv.1, C2.1, fun _ => q, fun c => absurd (by rw [C2.2.2.2.1]; exact Int32.le_refl _) c⟩
    | succ k ih =>
      intro p hp
      have ih := ih (p + 1) (by omega)
      rw [bk_s] at ih
      refine bX9_together_6 ⟨R.2.1.1, R.2.1.2.2.2.2.2.1, s1, Rv.1, C2.1, fun c => absurd c (by rw [C2.2.2.2.1, nI_leI (by omega) (by omega)]; omega), fun _ => c_waitsAt R D (by omega) ha ⟨_, rfl, fun c => ?_, fun c => c_get r1 (by omega) ⟨_, rfl, ?_⟩⟩⟩
      · cases hh : (decide (tSd A.2.2.1.1 p = side) && wbh S.1 (tAt A.2.2.1.1) (nI a) p) with
        | true => rw [hh] at c; exact absurd c (by decide)
        | false => rw [hh] at ih; rw [nI_1]; exact ih
      · rw [r2, gv_nI (by omega) (by decide), r3 p (by omega)]
        cases hh : (decide (tSd A.2.2.1.1 p = side) && wbh S.1 (tAt A.2.2.1.1) (nI a) p) with
        | true => rw [hh] at ih; rw [nI_1]; exact ih
        | false => rw [hh] at c; exact absurd rfl c
  exact bX9_together_0 (loop _ 0 (Nat.zero_add _))
theorem c_bankX {side minute what : Int32} (R : RepX x y h A) (q : ∀ h', QF x h h' → RepX x y h' A → Q (some (.int (aBank (rvOf A.2.2.1) side minute what))) h') : EvM w mX9_bank (d + 6) [.ref x, .int side, .int minute, .int what] h Q := by
  unfold aBank at q
  have sd : ¬ side < 0 → (¬ 2 ≤ side ↔ (0 ≤ side ∧ side ≤ 1)) := by
    intro h0
    obtain ⟨k, hk, rfl⟩ := nI_of h0
    rw [show (2 : Int32) = nI 2 by decide, show (1 : Int32) = nI 1 by decide, nI_leI (by decide) hk, nI_leI hk (by decide)]
    exact ⟨fun h1 => ⟨nI_pos' hk, by omega⟩, fun h1 => by omega⟩
  refine bX9_bank_0 ⟨fun c => ?_, fun c => ⟨fun c2 => ?_, fun c2 => c_isMinute ⟨_, rfl, fun c3 => ?_, fun c3 => ⟨R.2.1.1, c_knowDay R (fun h5 F5 R5 D5 => ⟨rfl, ?_⟩)⟩⟩⟩⟩
  · rw [if_neg (fun hh => absurd (Int32.lt_of_lt_of_le c hh.1) Int32.lt_irrefl)] at q; exact q h QF.rf R
  · rw [if_neg (fun hh => ((sd c).mpr hh) c2)] at q; exact q h QF.rf R
  · rw [if_pos ((sd c).mp c2), if_neg (b01_z c3)] at q; exact q h QF.rf R
  · rw [if_pos ((sd c).mp c2), if_pos (b01_n c3)] at q
    have q := q h5 F5 R5
    have c3 := b01_n c3
    obtain ⟨a, ha, rfl⟩ := nI_of (Int32.not_lt.mpr c3.1)
    have ha' : a < 1440 := by
      have := c3.2
      rw [show (1440 : Int32) = nI 1440 by decide, nI_ltI ha (by decide)] at this
      exact this
    obtain ⟨V, s1, G, Rv⟩ := R5.st
    obtain ⟨_, ⟨l2, C2⟩, a3, _⟩ := id Rv
    refine ⟨fun c4 => ⟨R5.2.1.1, ?_⟩, fun c4 => ⟨fun c5 => ⟨R5.2.1.1, R5.2.1.2.2.2.2.2.1, s1, Rv.1, C2.1, ?_⟩, fun c5 => ⟨fun c6 => ⟨R5.2.1.1, R5.2.1.2.2.2.2.2.1, s1, Rv.1, C2.1, ?_⟩, fun c6 => ?_⟩⟩⟩
    · subst c4
      exact c_heads (d := d + 2) R5 D5 ha' ⟨_, rfl, q⟩
    · subst c5
      exact c_together (d := d + 2) R5 D5 ha' (C2.1.s 3 rfl) C2.2.1.2.2.2.1 C2.2.2.2.2.2.2.1 ⟨_, rfl, q⟩
    · subst c6
      exact c_together (d := d + 2) R5 D5 ha' (C2.1.s 2 rfl) C2.2.1.2.2.1 C2.2.2.2.2.2.1 ⟨_, rfl, q⟩
    · rw [if_neg] at q
      · exact q
      · intro hh
        obtain ⟨k, hk, e⟩ := w_of (n := 2) (by decide) hh
        have : k = 0 ∨ k = 1 ∨ k = 2 := by omega
        rcases this with e2 | e2 | e2
        · exact c4 (by rw [e, e2]; decide)
        · exact c5 (by rw [e, e2]; decide)
        · exact c6 (by rw [e, e2]; decide)
theorem c_personX {p what : Int32} (R : RepX x y h A) (q : Q (some (.int (aPerson A.2.2.1 p what))) h) : EvM w mX9_person (d + 1) [.ref x, .int p, .int what] h Q := by
  obtain ⟨V, s1, G, Rv⟩ := R.st
  obtain ⟨a1, ⟨l2, C2⟩, a3, a4, a5, a6⟩ := id Rv
  have hNn := V.1.1
  unfold aPerson at q
  refine bX9_person_0 ⟨R.2.1.1, R.2.1.2.2.2.2.2.1, s1, c_isPersonX R ⟨_, rfl, fun c => ?_, fun c => ?_⟩⟩
  · rw [if_neg (b01_z c)] at q; exact q
  have c := b01_n c
  rw [if_pos c] at q
  obtain ⟨k, hk, rfl⟩ := pers_of hNn c
  rw [nI_clamp (by omega)] at q
  refine ⟨fun c0 => ⟨a1, C2.1, c_get (C2.1.s 1 rfl) (by rw [C2.2.1.2.1]; decide) ⟨_, rfl, ?_⟩⟩, fun c0 => ⟨fun c1 => ⟨a1, C2.1, c_get (C2.1.s 0 rfl) (by rw [C2.2.1.1]; decide) ⟨_, rfl, ?_⟩⟩, fun c1 => ⟨fun c2 => ⟨a1, C2.1, c_get (C2.1.s 2 rfl) (by rw [C2.2.1.2.2.1]; decide) ⟨_, rfl, ?_⟩⟩, fun c2 => ⟨fun c3 => ⟨a1, c_get (a1.s 1 rfl) (by omega) ⟨_, rfl, ?_⟩⟩, fun c3 => ⟨fun c4 => ⟨a1, c_get (a1.s 2 rfl) (by omega) ⟨_, rfl, ?_⟩⟩, fun c4 => ⟨fun c5 => ⟨a1, C2.1, c_get (C2.1.s 3 rfl) (by rw [C2.2.1.2.2.2.1]; decide) ⟨_, rfl, ?_⟩⟩, fun c5 => ?_⟩⟩⟩⟩⟩⟩
  · subst c0
    rw [C2.2.1.2.1, gv_nI (by omega) (by decide), show hI h (hR h (x + 20) 1 + 1 + 2) k = _ from a3 k hk]
    exact q
  · subst c1
    rw [C2.2.1.1, gv_nI (by omega) (by decide), C2.2.2.2.2.1 k hk]
    exact q
  · subst c2
    rw [C2.2.1.2.2.1, gv_nI (by omega) (by decide), C2.2.2.2.2.2.1 k hk]
    exact q
  · subst c3
    rw [a4.1, gv_nI (by omega) (by decide), a4.2 k hk]
    exact q
  · subst c4
    rw [a5.1, gv_nI (by omega) (by decide), a5.2 k hk, Int32.add_sub_cancel]
    exact q
  · subst c5
    rw [C2.2.1.2.2.2.1, gv_nI (by omega) (by decide), C2.2.2.2.2.2.2.1 k hk]
    exact q
  · rw [if_neg] at q
    · exact q
    · intro hh
      obtain ⟨k, hk, e⟩ := w_of (n := 5) (by decide) hh
      have : k = 0 ∨ k = 1 ∨ k = 2 ∨ k = 3 ∨ k = 4 ∨ k = 5 := by omega
      rcases this with e2 | e2 | e2 | e2 | e2 | e2
      · exact c0 (by rw [e, e2]; decide)
      · exact c1 (by rw [e, e2]; decide)
      · exact c2 (by rw [e, e2]; decide)
      · exact c3 (by rw [e, e2]; decide)
      · exact c4 (by rw [e, e2]; decide)
      · exact c5 (by rw [e, e2]; decide)
theorem c_countX {what : Int32} (R : RepX x y h A) (q : Q (some (.int (aCount A what))) h) : EvM w mX9_count d [.ref x, .int what] h Q := by
  obtain ⟨V, s1, G, Rv⟩ := R.st
  obtain ⟨a1, ⟨l2, C2⟩, a3, a4, a5, a6, ⟨b1, b2, b3, b4, b5, b6, b7, b8⟩, _⟩ := id Rv
  have S := R.2.2.2.1
  unfold aCount at q
  refine bX9_count_0 ⟨R.2.1.1, R.2.1.2.2.2.2.2.1, s1, fun c0 => ⟨a1, C2.1, ?_⟩, fun c0 => ⟨fun c1 => ⟨a1, ?_⟩, fun c1 => ⟨fun c2 => ?_, fun c2 => ⟨fun c3 => ⟨a1, ?_⟩, fun c3 => ⟨fun c4 => ⟨a1, ?_⟩, fun c4 => ⟨fun c5 => ⟨a1, ?_⟩, fun c5 => ⟨fun c6 => ⟨a1, ?_⟩, fun c6 => ⟨fun c7 => ?_, fun c7 => ⟨fun c8 => ⟨R.2.1.2.1, ?_⟩, fun c8 => ?_⟩⟩⟩⟩⟩⟩⟩⟩⟩
  · subst c0; rw [C2.2.2.2.1]; exact q
  · subst c1; rw [b8]; exact q
  · subst c2; rw [S.2.2.2.2.1]; exact q
  · subst c3; rw [b1]; exact q
  · subst c4; rw [b2]; exact q
  · subst c5; rw [b3]; exact q
  · subst c6; rw [b7]; exact q
  · subst c7; rw [S.2.2.2.2.2.1]; exact q
  · subst c8; rw [R.2.2.1.1]; exact q
  · rw [if_neg] at q
    · exact q
    · intro hh
      obtain ⟨k, hk, e⟩ := w_of (n := 8) (by decide) hh
      have : k = 0 ∨ k = 1 ∨ k = 2 ∨ k = 3 ∨ k = 4 ∨ k = 5 ∨ k = 6 ∨ k = 7 ∨ k = 8 := by omega
      rcases this with e2 | e2 | e2 | e2 | e2 | e2 | e2 | e2 | e2
      · exact c0 (by rw [e, e2]; decide)
      · exact c1 (by rw [e, e2]; decide)
      · exact c2 (by rw [e, e2]; decide)
      · exact c3 (by rw [e, e2]; decide)
      · exact c4 (by rw [e, e2]; decide)
      · exact c5 (by rw [e, e2]; decide)
      · exact c6 (by rw [e, e2]; decide)
      · exact c7 (by rw [e, e2]; decide)
      · exact c8 (by rw [e, e2]; decide)
end XPUB2
