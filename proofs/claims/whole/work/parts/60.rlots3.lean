/-! The reference's lots, whole. -/
section RLOTS3
variable {w : am_W} {d : Nat} {h : am_H} {Q : Option Value → am_H → Prop} {m : Nat} {A : rA}
/-- the waits of a drawn day, added up -/
theorem c_lots187 {n : Nat} {x2 x3 x4 x5 x9 : Int32} {z : Int32 × Int32 × Int32} {hb : am_H} (Mb : Md m hb) (hn : hI hb m 36 = nI n) (hn2 : n ≤ 300)
    (q : Ev w (am_Z w) mX10_lots (d + 1) 61 [(0, .ref m), (2, .int x2), (3, .int x3), (4, .int x4), (5, .int x5), (6, .int (ltP (hI hb (m + 30)) (hI hb (m + 26)) n z).1), (7, .int (ltP (hI hb (m + 30)) (hI hb (m + 26)) n z).2.1), (8, .int (ltP (hI hb (m + 30)) (hI hb (m + 26)) n z).2.2), (9, .int (x9 + 1))] [] hb Q) :
    ∀ k p, p + k = n → Ev w (am_Z w) mX10_lots (d + 1) 187 [(0, .ref m), (2, .int x2), (3, .int x3), (4, .int x4), (5, .int x5), (6, .int (ltP (hI hb (m + 30)) (hI hb (m + 26)) p z).1), (7, .int (ltP (hI hb (m + 30)) (hI hb (m + 26)) p z).2.1), (8, .int (ltP (hI hb (m + 30)) (hI hb (m + 26)) p z).2.2), (9, .int x9), (10, .int (nI p))] [] hb Q := by
  intro k
  induction k with
  | zero =>
    intro p hp
    have hp : p = n := by omega
    subst hp
    exact bX10_lots_187 ⟨Mb.1, fun _ => q, fun c => absurd (by rw [hn]; exact Int32.le_refl _) c⟩
  | succ k ih =>
    intro p hp
    have hpc : (nI p).toNatClampNeg = p := nI_clamp (by omega)
    have ih := ih (p + 1) (by omega)
    rw [ltP] at ih
    refine bX10_lots_187 ⟨Mb.1, fun c => absurd c (by rw [hn, nI_leI (by omega) (by omega)]; omega), fun _ => c_waitOf Mb (by omega) ⟨_, rfl, Mb.1, Mb.in 29 rfl rfl (show p < 360 by omega) (by decide), fun c => ?_, fun c => ?_⟩⟩
    · rw [hpc] at c
      rw [if_pos c] at ih
      refine c_waitOf Mb (by omega) ⟨_, rfl, ?_⟩
      rw [nI_1]
      exact ih
    · rw [hpc] at c
      rw [if_neg c] at ih
      refine c_waitOf Mb (by omega) ⟨_, rfl, ?_⟩
      rw [nI_1]
      exact ih
set_option maxHeartbeats 4000000 in
theorem c_lotsK {K : Nat} {seed days what : Int32} (hK : K = 1440) (R : RepM m h A) (q : ∀ h', FrZ m h h' → Q (some (.int (if 0 ≤ seed ∧ seed ≤ 9999 then (if 1 ≤ days ∧ days ≤ 50 then (if 0 ≤ what ∧ what ≤ 4 then ltW (ltA K A.2.2.1 seed.toNatClampNeg days.toNatClampNeg) what else -1) else -1) else -1))) h') : EvM w mX10_lots (d + 5 + 1) [.ref m, .int seed, .int days, .int what] h Q := by
  refine bX10_lots_0 ⟨R.1.1, fun h2 e2 => ?_⟩
  have F2 : FrZ m h h2 := by rw [e2]; exact FrZ.rf.fld
  have R2 := R.fr F2
  refine c_within ⟨_, rfl, fun c => ?_, fun c => c_within ⟨_, rfl, fun c2 => ?_, fun c2 => c_within ⟨_, rfl, fun c3 => ?_, fun c3 => ⟨R2.1.1, fun h13 e13 => ?_⟩⟩⟩⟩
  · rw [if_neg (b01_z c)] at q; exact q h2 F2
  · rw [if_pos (b01_n c), if_neg (b01_z c2)] at q; exact q h2 F2
  · rw [if_pos (b01_n c), if_pos (b01_n c2), if_neg (b01_z c3)] at q; exact q h2 F2
  rw [if_pos (b01_n c), if_pos (b01_n c2), if_pos (b01_n c3)] at q
  obtain ⟨sn, s1, s2, s3⟩ := w16 (a := 0) (b := 9999) (by decide) (by decide) (by decide) (by decide) (b01_n c)
  obtain ⟨dn, d1, d2, d3⟩ := w16 (a := 1) (b := 50) (by decide) (by decide) (by decide) (by decide) (b01_n c2)
  subst s3 d3
  rw [nI_clamp (by omega), nI_clamp (by omega)] at q
  have F13 : FrZ m h h13 := by rw [e13]; exact F2.j
  have J13 : hJ h13 m 53 = lN sn := by
    rw [e13]
    show va_up (hJ h2) m _ m 53 = _
    rw [va_up_self, va_up_self, nI_l (by omega)]
  have loop : ∀ k e, e + k = dn → ∀ hc, FrZ m h hc → hJ hc m 53 = lN (ltA K A.2.2.1 sn e).1 →
      Ev w (am_Z w) mX10_lots (d + 5 + 1) 61 [(0, .ref m), (2, .int (nI dn)), (3, .int what), (4, .int (ltA K A.2.2.1 sn e).2.1), (5, .int (ltA K A.2.2.1 sn e).2.2.1), (6, .int (ltA K A.2.2.1 sn e).2.2.2.1), (7, .int (ltA K A.2.2.1 sn e).2.2.2.2.1), (8, .int (ltA K A.2.2.1 sn e).2.2.2.2.2), (9, .int (nI e))] [] hc Q := by
    intro k
    induction k with
    | zero =>
      intro e he hc Fc Jc
      have he : e = dn := by omega
      subst he
      have q := q hc Fc
      unfold ltW at q
      refine bX10_lots_61 ⟨fun _ => ⟨fun c => ?_, fun c => ⟨fun c2 => ?_, fun c2 => ⟨fun c3 => ?_, fun c3 => ⟨fun c4 => ?_, fun c4 => ?_⟩⟩⟩⟩, fun c => absurd (Int32.le_refl _) c⟩
      · rw [if_pos c] at q; exact q
      · rw [if_neg c, if_pos c2] at q; exact q
      · rw [if_neg c, if_neg c2, if_pos c3] at q; exact q
      · rw [if_neg c, if_neg c2, if_neg c3, if_pos c4] at q; exact q
      · rw [if_neg c, if_neg c2, if_neg c3, if_neg c4] at q; exact q
    | succ k ih =>
      intro e he hc Fc Jc
      have ih := ih (e + 1) (by omega)
      rw [ltA] at ih
      have g3 := ltA_g K A.2.2.1 sn (by omega) e
      generalize ltA K A.2.2.1 sn e = X at ih Jc g3 ⊢
      have Rc := R.fr Fc
      obtain ⟨_, ⟨a0, a1, a2, a3, a4, a5, a6, a7, a8, a9⟩, _⟩ := id Rc.2.2.2.2.2.1
      simp only [Nat.mul_zero, Nat.zero_add] at a2 a8
      refine bX10_lots_61 ⟨fun c => absurd c (by rw [nI_leI (by omega) (by omega)]; omega), fun _ => ⟨Rc.1.1, c_dawns Rc.1 (fun h3 F3 P3 S3 => ⟨rfl, ?_⟩)⟩⟩
      have P3' := P3
      simp only [perS, Prod.mk.injEq] at P3'
      refine c_lots74 (K := K) (g0 := X.1) (C := ltC K A.2.2.1.1 X.1) R hK g3 rfl (fun h' kr F' D' J' => ?_) K 0 (by omega) h3 0 (Fc.tr F3) ⟨by rw [P3'.1]; rfl, ⟨?_, fun p hp => absurd hp (Nat.not_lt_zero _), fun p hp => absurd hp (Nat.not_lt_zero _), fun p hp => absurd hp (Nat.not_lt_zero _), fun p hp => absurd hp (Nat.not_lt_zero _)⟩, Nat.le_refl _, ?_⟩ (by rw [F3.2.2.1, Jc]; rfl) (fun p _ _ => ⟨rfl, rfl⟩)
      · have M' := F'.md R.1
        have n300 : (ltC K A.2.2.1.1 X.1).2.1 ≤ 300 := (crw_300 _ _ _ _ _).1
        refine c_lots187 (z := X.2.2.2) (x9 := nI e) M' D'.1 n300 ?_ (ltC K A.2.2.1.1 X.1).2.1 0 (by omega)
        have eL : ltP (hI h' (m + 30)) (hI h' (m + 26)) (ltC K A.2.2.1.1 X.1).2.1 X.2.2.2 = ltP (ltS K A.2.2.1 (ltC K A.2.2.1.1 X.1)).1 (ltC K A.2.2.1.1 X.1).2.2.2 (ltC K A.2.2.1.1 X.1).2.1 X.2.2.2 := ltP_eq (n := (ltC K A.2.2.1.1 X.1).2.1) D'.2.2.2.1 D'.2.1.2.2.1 X.2.2.2 _ (Nat.le_refl _)
        rw [eL, nI_1]
        exact ih h' F' J'
      · rw [P3]
        exact a8
      · rw [S3]
        refine ⟨fun p hp => absurd hp (Nat.not_lt_zero _), fun p hp => absurd hp (Nat.not_lt_zero _), rfl, rfl, fun p hp => absurd hp (Nat.not_lt_zero _), fun p hp => absurd hp (Nat.not_lt_zero _), fun p hp => absurd hp (Nat.not_lt_zero _), rfl, ?_⟩
        show (if hI hc (m + 2) 2 = 2 then (0 : Int32) else 100000) = if nI (tBoats A.2.2.1.1) = 2 then 0 else 100000
        rw [a2]
  exact loop dn 0 (by omega) h13 F13 J13
theorem c_lots {seed days what : Int32} (R : RepM m h A) (q : ∀ h', FrZ m h h' → Q (some (.int (aLots A.2.2.1 seed days what))) h') : EvM w mX10_lots (d + 5 + 1) [.ref m, .int seed, .int days, .int what] h Q := by
  unfold aLots at q
  exact c_lotsK rfl R q
end RLOTS3
