/-! The class's judged. -/
section XJUDGED
variable {w : am_W} {d : Nat} {h h1 : am_H} {Q : Option Value → am_H → Prop} {x y : Nat} {A : rA} {H : rH}
/-- a told ringing at a minute -/
theorem c_isTold {n : Nat} {tl : Nat → Int32} {v : Int32} (X : XL x h) (h3 : hI h (x + 20) 3 = nI n) (hn : n ≤ 30) (he : eqR n (hI h (x + 21)) tl) (q : ∀ b : Bool, (b = true ↔ ∃ i, i < n ∧ tl i = v) → Q (some (.int (if b then 1 else 0))) h) : EvM w mX7_isTold (d + 1) [.ref (x + 20), .int v] h Q := by
  have k21 : hK h (x + 21) = 12 := X.2.2.2.2.2.1.s 0 rfl
  have n21 : hN h (x + 20 + 1) = 30 := X.2.2.2.2.2.2.1
  have loop : ∀ k p, p + k = n → (∀ i, i < p → ¬ tl i = v) → Ev w (am_Z w) mX7_isTold (d + 1) 2 [(0, .ref (x + 20)), (1, .int v), (2, .int (nI p))] [] h Q := by
    intro k
    induction k with
    | zero =>
      intro p hp hno
      refine bX7_isTold_2 ⟨X.2.2.2.2.2.1, fun _ => q false ⟨fun hb => (by cases hb), fun ⟨i, h1, h2⟩ => absurd h2 (hno i (by omega))⟩, fun c => absurd (by rw [h3]; exact nI_le (by omega) (by omega)) c⟩
    | succ k ih =>
      intro p hp hno
      refine bX7_isTold_2 ⟨X.2.2.2.2.2.1, fun c => absurd c (by rw [h3, nI_leI (by omega) (by omega)]; omega), fun _ => c_get k21 (by rw [n21]; decide) ⟨_, rfl, ?_⟩⟩
      rw [n21, gv_nI (by omega) (by decide), show hI h (x + 20 + 1) p = tl p from he p (by omega)]
      refine ⟨fun c => q true ⟨fun _ => ⟨p, by omega, c⟩, fun _ => rfl⟩, fun c => ?_⟩
      rw [nI_1]
      refine ih (p + 1) (by omega) (fun i hi => ?_)
      by_cases e : i = p
      · rw [e]; exact c
      · exact hno i (by omega)
  exact bX7_isTold_0 (loop n 0 (by omega) (fun i hi => absurd hi (Nat.not_lt_zero _)))
theorem mj_is {P : rP} {n room : Nat} {trip : Int32} {lf : (Nat → Int32) → Int32} {tells : Nat} {tl : Nat → Int32} (T : tldOK tells tl) : ∀ (k mn nx : Nat) (S : rS) {m' : Nat} {b : Bool}, mn + k ≤ 1440 → (∀ i, i < nx → i < tells → tl i < nI mn) → (∀ i, nx ≤ i → i < tells → nI mn ≤ tl i) → mjL P n room trip lf tells tl k mn nx S = some (m', b) → m' < 1440 ∧ (b = true ↔ ∃ i, i < tells ∧ tl i = nI m') := by
  intro k
  induction k with
  | zero => intro mn nx S m' b _ _ _ h; cases h
  | succ k ih =>
    intro mn nx S m' b hk I1 I2 h
    rw [mjL] at h
    split at h
    · split at h
      · rename_i hh
        simp only [Bool.and_eq_true, decide_eq_true_eq] at hh
        refine ih (mn + 1) (nx + 1) _ (by omega) (fun i h1 h2 => ?_) (fun i h1 h2 => ?_) h
        · by_cases e : i = nx
          · rw [e, hh.2]; exact nI_lt (by omega) (by omega)
          · exact Int32.lt_trans (I1 i (by omega) h2) (nI_lt (by omega) (by omega))
        · obtain ⟨⟨t, ht, et⟩, lt⟩ := T i h2
          have := lt nx (by omega)
          rw [hh.2, et, nI_ltI (by omega) (by omega)] at this
          rw [et]
          exact nI_le (by omega) (by omega)
      · rename_i hh
        refine ih (mn + 1) nx _ (by omega) (fun i h1 h2 => Int32.lt_trans (I1 i h1 h2) (nI_lt (by omega) (by omega))) (fun i h1 h2 => ?_) h
        obtain ⟨⟨t, ht, et⟩, lt⟩ := T i h2
        have := I2 i h1 h2
        rw [et, nI_leI (by omega) (by omega)] at this
        rw [et]
        refine nI_le ?_ (by omega)
        apply Classical.byContradiction
        intro hn
        have e3 : t = mn := by omega
        rw [e3] at et
        have l1 := tld_next T h1 h2
        have l2 := I2 nx (Nat.le_refl _) (by omega)
        have e4 : tl nx = nI mn := Int32.le_antisymm (by rw [← et]; exact l1) l2
        exact hh (by rw [decide_eq_true (show nx < tells by omega), decide_eq_true e4]; rfl)
    · cases h
      refine ⟨by omega, ?_⟩
      simp only [Bool.and_eq_true, decide_eq_true_eq]
      refine ⟨fun hh => ⟨nx, hh⟩, fun ⟨i, h1, h2⟩ => ?_⟩
      by_cases hi : i < nx
      · have := I1 i hi h1
        rw [h2] at this
        exact absurd this Int32.lt_irrefl
      · have l1 := tld_next T (show nx ≤ i by omega) h1
        have l2 := I2 nx (Nat.le_refl _) (by omega)
        exact ⟨by omega, Int32.le_antisymm (by rw [← h2]; exact l1) l2⟩
theorem c_judgedK {K : Nat} {what : Int32} (hK' : K = 1440) (R : RepX x y h A) (q : ∀ h', QF x h h' → RepX x y h' A → Q (some (.int (if 0 ≤ what ∧ what ≤ 1 then jdL (rvOf A.2.2.1) A.2.2.1.2.2.1 A.2.2.1.2.2.2 what K 0 0 (canS (rvOf A.2.2.1)) else -1))) h') : EvM w mX9_judged (d + 6) [.ref x, .int what] h Q := by
  obtain ⟨V, s1, G, Rv⟩ := R.st
  have X := R.2.1
  have S := R.2.2.2.1
  have hT := V.2.2.1
  refine bX9_judged_0 ⟨fun c => ?_, fun c => ⟨fun c2 => ⟨X.1, X.2.2.2.2.2.1, ?_⟩, fun c2 => ?_⟩⟩
  · rw [if_neg (fun hh => absurd (Int32.lt_of_lt_of_le c hh.1) Int32.lt_irrefl)] at q; exact q h QF.rf R
  · rw [if_pos ⟨Int32.not_lt.mp c, c2⟩, jdL_mj] at q
    rw [S.2.2.2.2.1]
    refine c_beginTrial (d := d + 3) R V.self (fun h3 l F3 R3 D3 Y3 e16 e17 => ⟨rfl, R3.2.1.1, R3.2.1.2.2.2.2.2.1, ?_⟩)
    have D3 : DC (x + 44) 300 16 (tN A.2.2.1.1) (hR h (x + 20) 1) (hR h (x + 20) 1 + 1) (hR h (x + 20) 1 + 3) (canP (rvOf A.2.2.1) (-1)) l (tRoom A.2.2.1.1) (nI (tTrip A.2.2.1.1)) (nI (tBoats A.2.2.1.1)) (vLf (rvOf A.2.2.1)) h3 := D3
    have Y3 : YS (x + 44) (tN A.2.2.1.1) (canP (rvOf A.2.2.1) (-1)) l (nI (tBoats A.2.2.1.1)) h3 (canS (rvOf A.2.2.1)) 0 0 := Y3
    have t3 : hI h3 (x + 20) 3 = nI A.2.2.1.2.2.1 := R3.2.2.2.1.2.2.2.2.2.1
    have tt := R3.2.2.2.1.2.2.2.2.2.2
    have T : tldOK A.2.2.1.2.2.1 A.2.2.1.2.2.2 := V.2.2.2
    rw [t3]
    have mi := fun (m' : Nat) (b : Bool) => mj_is (m' := m') (b := b) (P := canP (rvOf A.2.2.1) (-1)) (n := tN A.2.2.1.1) (room := tRoom A.2.2.1.1) (trip := nI (tTrip A.2.2.1.1)) (lf := vLf (rvOf A.2.2.1)) T K 0 0 (canS (rvOf A.2.2.1)) (by omega) (fun i hi _ => absurd hi (Nat.not_lt_zero _)) (fun i _ hi => by obtain ⟨⟨t, ht, et⟩, _⟩ := T i hi; rw [et]; exact nI_le (Nat.zero_le _) (by omega))
    refine c_misjudged (d := d + 1) (K := K) (tells := A.2.2.1.2.2.1) (tl := A.2.2.1.2.2.2) (S0 := canS (rvOf A.2.2.1)) hK' D3 Y3 e17 (R3.2.1.2.2.2.2.2.1.s 0 rfl) R3.2.1.2.2.2.2.2.2.1 (by unfold Out; omega) hT tt T (fun h7 F7 => ⟨_, rfl, ?_⟩)
    have R7 := R3.tri F7.g
    have q := q h7 ((F3.tr F7.g).q (by omega)) R7
    have q : Q (some (.int (mjA what (mjL (canP (rvOf A.2.2.1) (-1)) (tN A.2.2.1.1) (tRoom A.2.2.1.1) (nI (tTrip A.2.2.1.1)) (vLf (rvOf A.2.2.1)) A.2.2.1.2.2.1 A.2.2.1.2.2.2 K 0 0 (canS (rvOf A.2.2.1)))))) h7 := q
    generalize mjL (canP (rvOf A.2.2.1) (-1)) (tN A.2.2.1.1) (tRoom A.2.2.1.1) (nI (tTrip A.2.2.1.1)) (vLf (rvOf A.2.2.1)) A.2.2.1.2.2.1 A.2.2.1.2.2.2 K 0 0 (canS (rvOf A.2.2.1)) = o at q mi ⊢
    cases o with
    | none => exact ⟨fun _ => q, fun c3 => absurd rfl c3⟩
    | some z =>
      obtain ⟨m', b⟩ := z
      obtain ⟨m1, m2⟩ := mi m' b rfl
      have z0 : mjA 0 (some (m', b)) = nI m' := rfl
      rw [z0]
      refine ⟨fun c3 => absurd c3 (nI_nm (by omega)), fun c3 => ⟨fun c4 => ?_, fun c4 => ⟨R7.2.1.1, c_isTold (d := d + 4) R7.2.1 R7.2.2.2.1.2.2.2.2.2.1 hT R7.2.2.2.1.2.2.2.2.2.2 (fun b' hb' => ⟨_, rfl, fun c5 => ?_, fun c5 => ?_⟩)⟩⟩⟩
      · have e : mjA what (some (m', b)) = nI m' := if_pos c4
        rw [e] at q
        exact q
      · have e : mjA what (some (m', b)) = 2 := by
          show (if what = 0 then _ else if b then (1 : Int32) else 2) = 2
          rw [if_neg c4]
          cases b' with
          | true => exact absurd c5 (by decide)
          | false =>
            have : b = false := by
              cases hb : b with
              | false => rfl
              | true => exact absurd (hb'.mpr (m2.mp hb)) (by decide)
            rw [this]
            rfl
        rw [e] at q
        exact q
      · have e : mjA what (some (m', b)) = 1 := by
          show (if what = 0 then _ else if b then (1 : Int32) else 2) = 1
          rw [if_neg c4]
          cases b' with
          | false => exact absurd rfl c5
          | true => rw [m2.mpr (hb'.mp rfl)]; rfl
        rw [e] at q
        exact q
  · rw [if_neg (fun hh => c2 hh.2)] at q; exact q h QF.rf R
theorem c_judgedX {what : Int32} (R : RepX x y h A) (q : ∀ h', QF x h h' → RepX x y h' A → Q (some (.int (aJudged A.2.2.1 what))) h') : EvM w mX9_judged (d + 6) [.ref x, .int what] h Q := by
  unfold aJudged at q
  exact c_judgedK rfl R q
end XJUDGED
