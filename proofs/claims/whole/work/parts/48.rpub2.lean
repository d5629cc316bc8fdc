theorem mx_eq {n : Nat} {g g' a a' : Nat → Int32} : ∀ k, k ≤ n → eqR n g g' → eqR n a a' → mxS g a k = mxS g' a' k := by
  intro k
  induction k with
  | zero => intro _ _ _; rfl
  | succ k ih =>
    intro hk h1 h2
    rw [mxS, mxS, ih (by omega) h1 h2]
    unfold wof
    rw [h1 k (by omega), h2 k (by omega)]
theorem nt_eq {n : Nat} {g g' : Nat → Int32} : ∀ k, k ≤ n → eqR n g g' → ntS g k = ntS g' k := by
  intro k
  induction k with
  | zero => intro _ _; rfl
  | succ k ih =>
    intro hk h1
    rw [ntS, ntS, ih (by omega) h1, h1 k (by omega)]
theorem bk_eq {n : Nat} {sd sd' a a' g g' f f' : Nat → Int32} {side minute : Int32} : ∀ k, k ≤ n → eqR n sd sd' → eqR n a a' → eqR n g g' → eqR n f f' → bkS sd a g side minute f k = bkS sd' a' g' side minute f' k := by
  intro k
  induction k with
  | zero => intro _ _ _ _ _; rfl
  | succ k ih =>
    intro hk h1 h2 h3 h4
    rw [bkS, bkS, ih (by omega) h1 h2 h3 h4]
    unfold wbh
    rw [h1 k (by omega), h2 k (by omega), h3 k (by omega), h4 k (by omega)]
section RPUB2
variable {w : am_W} {d : Nat} {h : am_H} {Q : Option Value → am_H → Prop} {m : Nat} {r : rV}
theorem c_all {what : Int32} (R : RvC w (d + 2) m h r) (q : ∀ h', FrZ m h h' → Q (some (.int (aAll r what))) h') : EvM w mX10_all (d + 6) [.ref m, .int what] h Q := by
  refine bX10_all_0 ⟨R.1.1.1, fun h2 e2 => ?_⟩
  have F2 : FrZ m h h2 := by rw [e2]; exact FrZ.rf.fld
  have R2 := R.fr F2
  have hN2 := R.1.2.2.1
  unfold aAll at q
  refine c_within ⟨_, rfl, fun c => ?_, fun c => ⟨R2.1.1.1, c_dayC R2 (fun h3 k F3 D => ⟨rfl, ?_⟩)⟩⟩
  · rw [if_neg (b01_z c)] at q; exact q h2 F2
  · have F := F2.tr F3
    have M3 := F.md R.1.1
    rw [if_pos (b01_n c)] at q
    obtain ⟨d1, d2, d3, d4, d5, s1, s2, s3⟩ := D
    have s1 : eqR (vN r) (hI h3 (m + 30)) (dayK r (-1) 1440).1 := s1
    have a1 : eqR (vN r) (hI h3 (m + 26)) (vAt r) := d2.2.2.1
    have q := q h3 F
    refine ⟨fun c1 => ⟨M3.1, c_costAll M3 d1 (by omega) ⟨_, rfl, ?_⟩⟩, fun c1 => ?_⟩
    · rw [if_pos c1] at q
      rw [cst_eq (vN r) (Nat.le_refl _) d3 s1 a1]
      exact q
    · rw [if_neg c1] at q
      have loop : ∀ k p : Nat, p + k = vN r → Ev w (am_Z w) mX10_all (d + 5 + 1) 38 [(0, .ref m), (1, .int what), (2, .int (mxS (hI h3 (m + 30)) (hI h3 (m + 26)) p)), (3, .int (ntS (hI h3 (m + 30)) p)), (4, .int (nI p))] [] h3 Q := by
        intro k
        induction k with
        | zero =>
          intro p hp
          have hp : p = vN r := by omega
          subst hp
          refine bX10_all_38 ⟨M3.1, fun _ => ⟨fun c2 => ?_, fun c2 => ?_⟩, fun c2 => absurd (by rw [d1]; exact Int32.le_refl _) c2⟩
          · rw [if_pos c2] at q
            rw [mx_eq (vN r) (Nat.le_refl _) s1 a1]
            exact q
          · rw [if_neg c2] at q
            rw [nt_eq (vN r) (Nat.le_refl _) s1]
            exact q
        | succ k ih =>
          intro p hp
          have hpc : (nI p).toNatClampNeg = p := nI_clamp (by omega)
          have ih := ih (p + 1) (by omega)
          rw [mxS, ntS] at ih
          refine bX10_all_38 ⟨M3.1, fun c2 => absurd c2 (by rw [d1, nI_leI (by omega) (by omega)]; omega), fun _ => c_waitOf M3 (by omega) ⟨_, rfl, M3.1, M3.in 29 rfl rfl (show p < 360 by omega) (by decide), fun c2 => ?_, fun c2 => ?_⟩⟩
          · rw [hpc] at c2
            rw [if_pos c2] at ih
            rw [(nI_succ p).symm]
            exact ih
          · rw [hpc] at c2
            rw [if_neg c2] at ih
            rw [(nI_succ p).symm]
            exact ih
      exact loop (vN r) 0 (by omega)
theorem c_waitsBehind {minute : Int32} {p : Nat} (M : Md m h) (hp : p < 360) (q : Q (some (.int (if wbh (hI h (m + 30)) (hI h (m + 26)) minute p then 1 else 0))) h) : EvM w mX10_waitsBehind d [.ref m, .int (nI p), .int minute] h Q := by
  have hc : (nI p).toNatClampNeg = p := nI_clamp (by omega)
  refine bX10_waitsBehind_0 ⟨M.1, M.in 25 rfl rfl hp (by decide), fun c => ?_, fun c => ⟨M.in 29 rfl rfl hp (by decide), fun c2 => ?_, fun c2 => ⟨M.in 29 rfl rfl hp (by decide), fun c3 => ?_, fun c3 => ?_⟩⟩⟩
  · rw [hc] at c
    simpa [wbh, c] using q
  · rw [hc] at c c2
    simpa [wbh, c, c2] using q
  · rw [hc] at c c2 c3
    simpa [wbh, c, c2, c3] using q
  · rw [hc] at c c2 c3
    simpa [wbh, c, c2, c3] using q
set_option maxHeartbeats 2000000 in
theorem c_bank {side minute what : Int32} (R : RvC w (d + 2) m h r) (q : ∀ h', FrZ m h h' → Q (some (.int (aBank r side minute what))) h') : EvM w mX10_bank (d + 6) [.ref m, .int side, .int minute, .int what] h Q := by
  refine bX10_bank_0 ⟨R.1.1.1, fun h2 e2 => ?_⟩
  have F2 : FrZ m h h2 := by rw [e2]; exact FrZ.rf.fld
  have R2 := R.fr F2
  have hN2 := R.1.2.2.1
  unfold aBank at q
  refine c_within ⟨_, rfl, fun c => ?_, fun c => c_isMinuteM ⟨_, rfl, fun c2 => ?_, fun c2 => c_within ⟨_, rfl, fun c3 => ?_, fun c3 => ⟨R2.1.1.1, c_dayC R2 (fun h3 k F3 D => ⟨rfl, ?_⟩)⟩⟩⟩⟩
  · rw [if_neg (b01_z c)] at q; exact q h2 F2
  · rw [if_pos (b01_n c), if_neg (b01_z c2)] at q; exact q h2 F2
  · rw [if_pos (b01_n c), if_pos (b01_n c2), if_neg (b01_z c3)] at q; exact q h2 F2
  · have F := F2.tr F3
    have M3 := F.md R.1.1
    rw [if_pos (b01_n c), if_pos (b01_n c2), if_pos (b01_n c3)] at q
    obtain ⟨d1, d2, d3, d4, d5, s1, s2, s3⟩ := D
    have s1 : eqR (vN r) (hI h3 (m + 30)) (dayK r (-1) 1440).1 := s1
    have a1 : eqR (vN r) (hI h3 (m + 26)) (vAt r) := d2.2.2.1
    have q := q h3 F
    have loop : ∀ k p : Nat, p + k = vN r → Ev w (am_Z w) mX10_bank (d + 5 + 1) 43 [(0, .ref m), (1, .int side), (2, .int minute), (3, .int what), (4, .int (bkS (hI h3 (m + 25)) (hI h3 (m + 26)) (hI h3 (m + 30)) side minute (if what = 0 then (fun _ => 1) else if what = 1 then hI h3 (m + 29) else hI h3 (m + 27)) p)), (5, .int (nI p))] [] h3 Q := by
      intro k
      induction k with
      | zero =>
        intro p hp
        have hp : p = vN r := by omega
        subst hp
        refine bX10_bank_43 ⟨M3.1, fun _ => ?_, fun c2 => absurd (by rw [d1]; exact Int32.le_refl _) c2⟩
        rw [bk_eq (vN r) (Nat.le_refl _) (sd' := vSd r) (a' := vAt r) (g' := (dayK r (-1) 1440).1) (f' := if what = 0 then (fun _ => 1) else if what = 1 then (fun p => cof (vKd r p)) else vWt r) (fun p hp => ?_) a1 s1 (fun p hp => ?_)]
        · exact q
        · exact (d2.2.1 p hp).trans (sdf_m1 _ _ _)
        · split
          · rfl
          · split
            · exact d2.2.2.2.2 p hp
            · exact d2.2.2.2.1 p hp
      | succ k ih =>
        intro p hp
        have hpc : (nI p).toNatClampNeg = p := nI_clamp (by omega)
        have ih := ih (p + 1) (by omega)
        rw [bkS] at ih
        refine bX10_bank_43 ⟨M3.1, fun c2 => absurd c2 (by rw [d1, nI_leI (by omega) (by omega)]; omega), fun _ => ⟨M3.in 24 rfl rfl (show p < 360 by omega) (by decide), fun c4 => ?_, fun c4 => ?_⟩⟩
        · rw [hpc] at c4
          rw [if_pos c4] at ih
          refine c_waitsBehind M3 (by omega) ⟨_, rfl, fun c5 => ?_, fun c5 => ?_⟩
          · have hw : wbh (hI h3 (m + 30)) (hI h3 (m + 26)) minute p = false := by
              cases hh : wbh (hI h3 (m + 30)) (hI h3 (m + 26)) minute p with
              | false => rfl
              | true => rw [hh] at c5; exact absurd c5 (by decide)
            rw [hw] at ih
            rw [(nI_succ p).symm]
            simpa using ih
          · have hw : wbh (hI h3 (m + 30)) (hI h3 (m + 26)) minute p = true := by
              cases hh : wbh (hI h3 (m + 30)) (hI h3 (m + 26)) minute p with
              | true => rfl
              | false => rw [hh] at c5; exact absurd rfl c5
            rw [hw, if_pos rfl] at ih
            rw [(nI_succ p).symm, hpc]
            refine ⟨fun c6 => ?_, fun c6 => ⟨fun c7 => ⟨M3.1, M3.in 28 rfl rfl (show p < 360 by omega) (by decide), ?_⟩, fun c7 => ⟨M3.1, M3.in 26 rfl rfl (show p < 360 by omega) (by decide), ?_⟩⟩⟩
            · simp only [if_pos c6] at ih ⊢; exact ih
            · simp only [if_neg c6, if_pos c7] at ih ⊢; exact ih
            · simp only [if_neg c6, if_neg c7] at ih ⊢; exact ih
        · rw [hpc] at c4
          rw [if_neg c4] at ih
          rw [(nI_succ p).symm]
          simpa using ih
    exact loop (vN r) 0 (by omega)
end RPUB2
