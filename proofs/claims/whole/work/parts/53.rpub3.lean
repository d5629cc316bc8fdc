/-! The reference's person, use, tell, clear, count. -/
def aPerson (H : rH) (p what : Int32) : Int32 := if 0 ≤ p ∧ p < nI (tN H.1) then (if 0 ≤ what ∧ what ≤ 5 then (if what = 0 then tSd H.1 p.toNatClampNeg else if what = 1 then tAt H.1 p.toNatClampNeg else if what = 2 then tWt H.1 p.toNatClampNeg else if what = 3 then tCo H.1 p.toNatClampNeg else if what = 4 then tKd H.1 p.toNatClampNeg else cof (tKd H.1 p.toNatClampNeg)) else -1) else -1
def aCount (A : rA) (what : Int32) : Int32 := if 0 ≤ what ∧ what ≤ 8 then (if 3 ≤ what then (if what = 3 then nI (tRoom A.2.2.1.1) else if what = 4 then nI (tTrip A.2.2.1.1) else if what = 5 then nI (tBoats A.2.2.1.1) else if what = 6 then nI (chs (tKd A.2.2.1.1) (tN A.2.2.1.1)) else if what = 7 then nI A.2.2.1.2.2.1 else nI A.1) else if what = 0 then nI (tN A.2.2.1.1) else if what = 1 then nI (tLaws A.2.2.1.1) else A.2.2.1.2.1) else -1
def setH (A : rA) (H : rH) : rA := (A.1, A.2.1, H, A.2.2.2)
def canUse (H : rH) (law : Int32) : Bool := decide (-1 ≤ law ∧ law ≤ nI (tLaws H.1) - 1)
def oUse (A : rA) (law : Int32) : rA := if canUse A.2.2.1 law then setH A (A.2.2.1.1, law, A.2.2.1.2.2) else A
def canTell (H : rH) (minute : Int32) : Bool := decide (0 ≤ minute ∧ minute < 1440) && (!decide (H.2.2.1 = 30) && (decide (H.2.2.1 = 0) || decide (H.2.2.2 (H.2.2.1 - 1) < minute)))
def aTell (H : rH) (minute : Int32) : Int32 := if canTell H minute then nI (H.2.2.1 + 1) else -1
def oTell (A : rA) (minute : Int32) : rA := if canTell A.2.2.1 minute then setH A (A.2.2.1.1, A.2.2.1.2.1, A.2.2.1.2.2.1 + 1, va_up A.2.2.1.2.2.2 A.2.2.1.2.2.1 minute) else A
def oClear (A : rA) : rA := setH A (A.2.2.1.1, A.2.2.1.2.1, 0, A.2.2.1.2.2.2)
theorem m1_of {x : Int32} (h1 : -1 ≤ x) (h2 : x < 0) : x = -1 := by
  apply Int32.toInt_inj.mp
  rw [Int32.le_iff_toInt_le] at h1
  rw [Int32.lt_iff_toInt_lt] at h2
  have e1 : (-1 : Int32).toInt = -1 := by decide
  have e0 : (0 : Int32).toInt = 0 := by decide
  rw [e1] at h1 ⊢
  rw [e0] at h2
  omega
theorem VH.usable {H : rH} (V : VH H) {law : Int32} (c : canUse H law = true) : VH (H.1, law, H.2.2) := by
  obtain ⟨v1, v2, v3, v4⟩ := V
  refine ⟨v1, ?_, v3, v4⟩
  have hL : tLaws H.1 ≤ 4 := v1.2.2.2.2.2.2.1
  unfold canUse at c
  have c := of_decide_eq_true c
  by_cases h0 : law < 0
  · exact ⟨0, Nat.zero_le _, by show law = nI 0 - 1; rw [m1_of c.1 h0]; decide⟩
  · obtain ⟨j, hj, rfl⟩ := nI_of h0
    have c2 := c.2
    cases hk : tLaws H.1 with
    | zero =>
      rw [hk] at c2
      exact absurd (Int32.lt_of_le_of_lt c2 (by decide)) (nI_pos hj)
    | succ k =>
      rw [hk, nI_pred, nI_leI hj (by omega)] at c2
      exact ⟨j + 1, by omega, by show nI j = nI (j + 1) - 1; rw [nI_pred]⟩
theorem nI_inv {a b : Nat} (ha : a < 2 ^ 31) (hb : b < 2 ^ 31) (h : nI a = nI b) : a = b := (nI_eq ha hb).mp h
theorem VH.tell {H : rH} (V : VH H) {minute : Int32} (c : canTell H minute = true) : VH (H.1, H.2.1, H.2.2.1 + 1, va_up H.2.2.2 H.2.2.1 minute) := by
  obtain ⟨v1, v2, v3, v4⟩ := V
  unfold canTell at c
  simp only [Bool.and_eq_true, Bool.or_eq_true, Bool.not_eq_true', decide_eq_true_eq, decide_eq_false_iff_not] at c
  obtain ⟨c1, c2, c3⟩ := c
  refine ⟨v1, v2, by show H.2.2.1 + 1 ≤ 30; omega, fun i hi => ?_⟩
  have hi : i < H.2.2.1 + 1 := hi
  show (∃ a, a < 1440 ∧ va_up H.2.2.2 H.2.2.1 minute i = nI a) ∧ ∀ j, j < i → va_up H.2.2.2 H.2.2.1 minute j < va_up H.2.2.2 H.2.2.1 minute i
  by_cases ci : i = H.2.2.1
  · subst ci
    rw [va_up_self]
    obtain ⟨j, hj, rfl⟩ := nI_of (Int32.not_lt.mpr c1.1)
    have c1 := c1.2
    rw [show (1440 : Int32) = nI 1440 by decide, nI_ltI hj (by decide)] at c1
    refine ⟨⟨j, c1, rfl⟩, fun j' hj' => ?_⟩
    rw [va_up_ne _ _ (by omega)]
    rcases c3 with c3 | c3
    · omega
    · by_cases cj : j' = H.2.2.1 - 1
      · subst cj; exact c3
      · exact Int32.lt_trans ((v4 (H.2.2.1 - 1) (by omega)).2 j' (by omega)) c3
  · rw [va_up_ne _ _ ci]
    refine ⟨(v4 i (by omega)).1, fun j hj => ?_⟩
    rw [va_up_ne _ _ (by omega)]
    exact (v4 i (by omega)).2 j hj
/-- rows alike but for the slot at hand -/
def Fr0 (m : Nat) (h h' : am_H) : Prop := hK h' = hK h ∧ hN h' = hN h ∧ hJ h' = hJ h ∧ hR h' = hR h ∧ hZ h' = hZ h ∧ hS h' = hS h ∧ (∀ a, a ≠ m → a ≠ m + 2 → a ≠ m + 12 → hI h' a = hI h a) ∧ (∀ k, k ≠ 0 → hI h' m k = hI h m k) ∧ (∀ k, 10 ≤ k → hI h' (m + 2) k = hI h (m + 2) k) ∧ ∀ k, 30 ≤ k → hI h' (m + 12) k = hI h (m + 12) k
theorem RepM.set {m : Nat} {h h' : am_H} {A : rA} (R : RepM m h A) (F : Fr0 m h h') {H : rH} (S : Slt m h' 0 H) : RepM m h' (setH A H) := by
  obtain ⟨M, a1, a2, a3, a3', a4, a5⟩ := R
  obtain ⟨f1, f2, f3, f4, f5, f6, f7, f8, f9, f10⟩ := F
  refine ⟨⟨⟨by rw [f1]; exact M.1.1, fun q hq => by rw [f1, f4]; exact M.1.2 q hq⟩, fun q hq => by rw [f2]; exact M.2 q hq⟩, by rw [f8 1 (by decide)]; exact a1, a2, by rw [f7 _ (by omega) (by omega) (by omega)]; exact a3, a3', S, fun i hi => ⟨?_, fun c => ?_⟩⟩
  · rw [f7 _ (by omega) (by omega) (by omega)]; exact (a5 i hi).1
  · refine ((a5 i hi).2 c).mv (fun k hk => f9 _ (by omega)) (fun o h1 h2 k hk => by rw [f7 _ (by omega) (by omega) (by omega)]) (fun k hk => f10 _ (by omega)) (fun k hk => by rw [f7 _ (by omega) (by omega) (by omega)]) (fun k a hk x => by rw [f7 _ (by omega) (by omega) (by omega)]; exact x) (fun k a hk x => by rw [f7 _ (by omega) (by omega) (by omega)]; exact x)
theorem Fr0.rf {m : Nat} {h : am_H} : Fr0 m h h := ⟨rfl, rfl, rfl, rfl, rfl, rfl, fun _ _ _ _ => rfl, fun _ _ => rfl, fun _ _ => rfl, fun _ _ => rfl⟩
theorem Fr0.tr {m : Nat} {h h1 h2 : am_H} (a : Fr0 m h h1) (b : Fr0 m h1 h2) : Fr0 m h h2 := by
  obtain ⟨a1, a2, a3, a4, a5, a6, a7, a8, a9, a10⟩ := a
  obtain ⟨b1, b2, b3, b4, b5, b6, b7, b8, b9, b10⟩ := b
  exact ⟨b1.trans a1, b2.trans a2, b3.trans a3, b4.trans a4, b5.trans a5, b6.trans a6, fun x h1 h2 h3 => (b7 x h1 h2 h3).trans (a7 x h1 h2 h3), fun k hk => (b8 k hk).trans (a8 k hk), fun k hk => (b9 k hk).trans (a9 k hk), fun k hk => (b10 k hk).trans (a10 k hk)⟩
theorem Fr0.z {m : Nat} {h h1 : am_H} {v : Int32} (F : Fr0 m h h1) : Fr0 m h (sI h1 m 0 v) :=
  F.tr ⟨rfl, rfl, rfl, rfl, rfl, rfl, fun a ha _ _ => by rw [sI_r, hI_rn _ _ ha], fun k hk => by rw [sI_r, hI_rs, va_up_ne _ _ hk], fun k _ => by rw [sI_r, hI_rn _ _ (by omega)], fun k _ => by rw [sI_r, hI_rn _ _ (by omega)]⟩
theorem Fr0.r2 {m : Nat} {h h1 : am_H} {k : Nat} {v : Int32} (F : Fr0 m h h1) (hk : k < 10) : Fr0 m h (sI h1 (m + 2) k v) :=
  F.tr ⟨rfl, rfl, rfl, rfl, rfl, rfl, fun a _ ha _ => by rw [sI_r, hI_rn _ _ ha], fun k hk => by rw [sI_r, hI_rn _ _ (by omega)], fun j hj => by rw [sI_r, hI_rs, va_up_ne _ _ (by omega)], fun k _ => by rw [sI_r, hI_rn _ _ (by omega)]⟩
theorem Fr0.r12 {m : Nat} {h h1 : am_H} {k : Nat} {v : Int32} (F : Fr0 m h h1) (hk : k < 30) : Fr0 m h (sI h1 (m + 12) k v) :=
  F.tr ⟨rfl, rfl, rfl, rfl, rfl, rfl, fun a _ _ ha => by rw [sI_r, hI_rn _ _ ha], fun k hk => by rw [sI_r, hI_rn _ _ (by omega)], fun k _ => by rw [sI_r, hI_rn _ _ (by omega)], fun j hj => by rw [sI_r, hI_rs, va_up_ne _ _ (by omega)]⟩
/-- nothing but the model is changed -/
def FrM (m : Nat) (h h' : am_H) : Prop := hK h' = hK h ∧ hN h' = hN h ∧ hR h' = hR h ∧ hZ h' = hZ h ∧ hS h' = hS h ∧ ∀ a, (a < m ∨ m + 37 < a) → hI h' a = hI h a ∧ hJ h' a = hJ h a
theorem FrZ.M {m : Nat} {h h' : am_H} (F : FrZ m h h') : FrM m h h' := by
  obtain ⟨a1, a2, a3, a4, a5, a6, a7, a8, a9⟩ := F
  exact ⟨a1, a2, a3, a4, a5, fun a ha => ⟨a6 a (by omega) (by omega), a8 a (by omega)⟩⟩
theorem Fr0.M {m : Nat} {h h' : am_H} (F : Fr0 m h h') : FrM m h h' := by
  obtain ⟨f1, f2, f3, f4, f5, f6, f7, f8, f9, f10⟩ := F
  exact ⟨f1, f2, f4, f5, f6, fun a ha => ⟨f7 a (by omega) (by omega) (by omega), by rw [f3]⟩⟩
section RPUB3
variable {w : am_W} {d : Nat} {h : am_H} {Q : Option Value → am_H → Prop} {m : Nat} {A : rA}
theorem c_person {p what : Int32} (R : RepM m h A) (q : ∀ h', FrZ m h h' → Q (some (.int (aPerson A.2.2.1 p what))) h') : EvM w mX10_person (d + 1) [.ref m, .int p, .int what] h Q := by
  refine bX10_person_0 ⟨R.1.1, fun h2 e2 => ?_⟩
  have F2 : FrZ m h h2 := by rw [e2]; exact FrZ.rf.fld
  have R2 := R.fr F2
  have q := q h2 F2
  obtain ⟨V, ⟨a0, a1, a2, a3, a4, a5, a6, a7, a8, a9⟩, ⟨b1, b2, b3, b4, b5⟩, c, L⟩ := R2.2.2.2.2.2.1
  simp only [Nat.mul_zero, Nat.zero_add] at a0 a1 a2 a3 a4 a5 a6 a7 a8 a9 b1 b2 b3 b4 b5
  have hN : tN A.2.2.1.1 ≤ 16 := V.1.1
  unfold aPerson at q
  refine c_isPersonM R2.1 a7 ⟨_, rfl, fun c => ?_, fun c => c_within ⟨_, rfl, fun c2 => ?_, fun c2 => ?_⟩⟩
  · rw [if_neg (b01_z c)] at q; exact q
  · rw [if_pos (b01_n c), if_neg (b01_z c2)] at q; exact q
  · rw [if_pos (b01_n c), if_pos (b01_n c2)] at q
    have c := b01_n c
    obtain ⟨j, hj, rfl⟩ := nI_of (Int32.not_lt.mpr c.1)
    have c1 := c.2
    rw [nI_ltI hj (by omega)] at c1
    have hc : (nI j).toNatClampNeg = j := nI_clamp hj
    rw [hc] at q ⊢
    have e1 : hI h2 (m + 7) j = tSd A.2.2.1.1 j := b1 j c1
    have e2 : hI h2 (m + 8) j = tAt A.2.2.1.1 j := b2 j c1
    have e3 : hI h2 (m + 9) j = tWt A.2.2.1.1 j := b3 j c1
    have e4 : hI h2 (m + 10) j = tCo A.2.2.1.1 j := b4 j c1
    have e5 : hI h2 (m + 11) j = tKd A.2.2.1.1 j := b5 j c1
    rw [e1, e2, e3, e4, e5]
    refine ⟨fun d0 => ⟨R2.1.1, R2.1.in 6 rfl rfl (show j < 96 by omega) (by decide), ?_⟩, fun d0 => ⟨fun d1 => ⟨R2.1.1, R2.1.in 7 rfl rfl (show j < 96 by omega) (by decide), ?_⟩, fun d1 => ⟨fun d2 => ⟨R2.1.1, R2.1.in 8 rfl rfl (show j < 96 by omega) (by decide), ?_⟩, fun d2 => ⟨fun d3 => ⟨R2.1.1, R2.1.in 9 rfl rfl (show j < 96 by omega) (by decide), ?_⟩, fun d3 => ⟨fun d4 => ⟨R2.1.1, R2.1.in 10 rfl rfl (show j < 96 by omega) (by decide), ?_⟩, fun d4 => ⟨R2.1.1, R2.1.in 10 rfl rfl (show j < 96 by omega) (by decide), c_countOf ⟨_, rfl, ?_⟩⟩⟩⟩⟩⟩⟩
    · rw [if_pos d0] at q; exact q
    · rw [if_neg d0, if_pos d1] at q; exact q
    · rw [if_neg d0, if_neg d1, if_pos d2] at q; exact q
    · rw [if_neg d0, if_neg d1, if_neg d2, if_pos d3] at q; exact q
    · rw [if_neg d0, if_neg d1, if_neg d2, if_neg d3, if_pos d4] at q; exact q
    · rw [if_neg d0, if_neg d1, if_neg d2, if_neg d3, if_neg d4] at q; exact q
theorem c_count {what : Int32} (R : RepM m h A) (q : ∀ h', FrZ m h h' → Q (some (.int (aCount A what))) h') : EvM w mX10_count (d + 1) [.ref m, .int what] h Q := by
  refine bX10_count_0 ⟨R.1.1, fun h2 e2 => ?_⟩
  have F2 : FrZ m h h2 := by rw [e2]; exact FrZ.rf.fld
  have R2 := R.fr F2
  have q := q h2 F2
  obtain ⟨V, ⟨a0, a1, a2, a3, a4, a5, a6, a7, a8, a9⟩, ⟨b1, b2, b3, b4, b5⟩, c, L⟩ := R2.2.2.2.2.2.1
  simp only [Nat.mul_zero, Nat.zero_add] at a0 a1 a2 a3 a4 a5 a6 a7 a8 a9 b1 b2 b3 b4 b5
  unfold aCount at q
  refine c_within ⟨_, rfl, fun c => ?_, fun c => ?_⟩
  · rw [if_neg (b01_z c)] at q; exact q
  · rw [if_pos (b01_n c)] at q
    rw [cl0, cl1, cl2, cl6, cl7, cl8, cl9, a0, a1, a2, a6, a7, a8, a9, R2.2.1]
    have M := R2.1
    refine ⟨fun c3 => ⟨fun d3 => ⟨M.1, M.in 1 rfl (k := 0) (by decide) (by decide) (by decide), ?_⟩, fun d3 => ⟨fun d4 => ⟨M.1, M.in 1 rfl (k := 1) (by decide) (by decide) (by decide), ?_⟩, fun d4 => ⟨fun d5 => ⟨M.1, M.in 1 rfl (k := 2) (by decide) (by decide) (by decide), ?_⟩, fun d5 => ⟨fun d6 => ⟨M.1, c_choosers0 (w := w) (d := 2) (R2.rv (d := 0)) ⟨_, rfl, ?_⟩⟩, fun d6 => ⟨fun d7 => ⟨M.1, M.in 1 rfl (k := 9) (by decide) (by decide) (by decide), ?_⟩, fun d7 => ⟨M.1, ?_⟩⟩⟩⟩⟩⟩, fun c3 => ⟨fun d0 => ⟨M.1, M.in 1 rfl (k := 7) (by decide) (by decide) (by decide), ?_⟩, fun d0 => ⟨fun d1 => ⟨M.1, M.in 1 rfl (k := 6) (by decide) (by decide) (by decide), ?_⟩, fun d1 => ⟨M.1, M.in 1 rfl (k := 8) (by decide) (by decide) (by decide), ?_⟩⟩⟩⟩
    · rw [if_pos c3, if_pos d3] at q; exact q
    · rw [if_pos c3, if_neg d3, if_pos d4] at q; exact q
    · rw [if_pos c3, if_neg d3, if_neg d4, if_pos d5] at q; exact q
    · rw [if_pos c3, if_neg d3, if_neg d4, if_neg d5, if_pos d6] at q; exact q
    · rw [if_pos c3, if_neg d3, if_neg d4, if_neg d5, if_neg d6, if_pos d7] at q; exact q
    · rw [if_pos c3, if_neg d3, if_neg d4, if_neg d5, if_neg d6, if_neg d7] at q; exact q
    · rw [if_neg c3, if_pos d0] at q; exact q
    · rw [if_neg c3, if_neg d0, if_pos d1] at q; exact q
    · rw [if_neg c3, if_neg d0, if_neg d1] at q; exact q
theorem c_use {law : Int32} (R : RepM m h A) (q : ∀ h', FrM m h h' → RepM m h' (oUse A law) → Q (some (.int (if canUse A.2.2.1 law then 1 else 0))) h') : EvM w mX10_use (d + 1) [.ref m, .int law] h Q := by
  refine bX10_use_0 ⟨R.1.1, fun h2 e2 => ?_⟩
  have F2 : FrZ m h h2 := by rw [e2]; exact FrZ.rf.fld
  have R2 := R.fr F2
  obtain ⟨V, ⟨a0, a1, a2, a3, a4, a5, a6, a7, a8, a9⟩, ⟨b1, b2, b3, b4, b5⟩, c, L⟩ := R2.2.2.2.2.2.1
  simp only [Nat.mul_zero, Nat.zero_add] at a6
  refine ⟨R2.1.in 1 rfl (k := 6) (by decide) (by decide) (by decide), c_within ⟨_, rfl, fun c1 => ?_, fun c1 => ⟨R2.1.1, R2.1.in 1 rfl (k := 8) (by decide) (by decide) (by decide), fun h9 e9 => ?_⟩⟩⟩
  · rw [cl6, a6] at c1
    have e : canUse A.2.2.1 law = false := decide_eq_false (b01_z c1)
    unfold oUse at q
    rw [e] at q
    exact q h2 F2.M R2
  · rw [cl6, a6] at c1
    have e : canUse A.2.2.1 law = true := decide_eq_true (b01_n c1)
    rw [cl8] at e9
    have F9 : Fr0 m h h9 := by rw [e9, e2]; exact Fr0.rf.z.r2 (by decide)
    have g2 : hI h9 (m + 2) = va_up (hI h2 (m + 2)) 8 law := by rw [e9, sI_r, hI_rs]
    have go : ∀ a, a ≠ m + 2 → hI h9 a = hI h2 a := fun a ha => by rw [e9, sI_r, hI_rn _ _ ha]
    unfold oUse at q
    rw [if_pos e, if_pos e] at q
    refine q h9 F9.M (R.set F9 ⟨V.usable e, ⟨?_, ?_, ?_, ?_, ?_, ?_, ?_, ?_, ?_, ?_⟩, ⟨?_, ?_, ?_, ?_, ?_⟩, ?_, ?_⟩)
    · rw [g2, va_up_ne _ _ (by decide)]; exact a0
    · rw [g2, va_up_ne _ _ (by decide)]; exact a1
    · rw [g2, va_up_ne _ _ (by decide)]; exact a2
    · rw [g2, va_up_ne _ _ (by decide)]; exact a3
    · rw [g2, va_up_ne _ _ (by decide)]; exact a4
    · rw [g2, va_up_ne _ _ (by decide)]; exact a5
    · rw [g2, va_up_ne _ _ (by decide)]; simpa using a6
    · rw [g2, va_up_ne _ _ (by decide)]; exact a7
    · rw [g2]; exact va_up_self _ _ _
    · rw [g2, va_up_ne _ _ (by decide)]; exact a9
    · rw [go _ (by omega)]; exact b1
    · rw [go _ (by omega)]; exact b2
    · rw [go _ (by omega)]; exact b3
    · rw [go _ (by omega)]; exact b4
    · rw [go _ (by omega)]; exact b5
    · rw [go _ (by omega)]; exact c
    · intro l hl
      obtain ⟨x, y, l1, l2, l3⟩ := L l hl
      exact ⟨x, y, by rw [go _ (by omega)]; exact l1, by rw [go _ (by omega)]; exact l2, by rw [go _ (by omega)]; exact l3⟩
theorem c_clear (R : RepM m h A) (q : ∀ h', FrM m h h' → RepM m h' (oClear A) → Q (some (.int 1)) h') : EvM w mX10_clear d [.ref m] h Q := by
  refine bX10_clear_0 ⟨R.1.1, fun h2 e2 => ?_⟩
  have F2 : FrZ m h h2 := by rw [e2]; exact FrZ.rf.fld
  have R2 := R.fr F2
  obtain ⟨V, ⟨a0, a1, a2, a3, a4, a5, a6, a7, a8, a9⟩, ⟨b1, b2, b3, b4, b5⟩, c, L⟩ := R2.2.2.2.2.2.1
  refine ⟨R2.1.in 1 rfl (k := 9) (by decide) (by decide) (by decide), fun h9 e9 => ?_⟩
  rw [cl9] at e9
  have F9 : Fr0 m h h9 := by rw [e9, e2]; exact Fr0.rf.z.r2 (by decide)
  have g2 : hI h9 (m + 2) = va_up (hI h2 (m + 2)) 9 0 := by rw [e9, sI_r, hI_rs]
  have go : ∀ a, a ≠ m + 2 → hI h9 a = hI h2 a := fun a ha => by rw [e9, sI_r, hI_rn _ _ ha]
  refine q h9 F9.M (R.set F9 ⟨⟨V.1, V.2.1, by show 0 ≤ 30; decide, fun i hi => absurd hi (by show ¬ i < 0; omega)⟩, ⟨?_, ?_, ?_, ?_, ?_, ?_, ?_, ?_, ?_, ?_⟩, ⟨?_, ?_, ?_, ?_, ?_⟩, fun i hi => absurd hi (by show ¬ i < 0; omega), ?_⟩)
  · rw [g2, va_up_ne _ _ (by decide)]; exact a0
  · rw [g2, va_up_ne _ _ (by decide)]; exact a1
  · rw [g2, va_up_ne _ _ (by decide)]; exact a2
  · rw [g2, va_up_ne _ _ (by decide)]; exact a3
  · rw [g2, va_up_ne _ _ (by decide)]; exact a4
  · rw [g2, va_up_ne _ _ (by decide)]; exact a5
  · rw [g2, va_up_ne _ _ (by decide)]; exact a6
  · rw [g2, va_up_ne _ _ (by decide)]; exact a7
  · rw [g2, va_up_ne _ _ (by decide)]; exact a8
  · rw [g2]; exact va_up_self _ _ _
  · rw [go _ (by omega)]; exact b1
  · rw [go _ (by omega)]; exact b2
  · rw [go _ (by omega)]; exact b3
  · rw [go _ (by omega)]; exact b4
  · rw [go _ (by omega)]; exact b5
  · intro l hl
    obtain ⟨x, y, l1, l2, l3⟩ := L l hl
    exact ⟨x, y, by rw [go _ (by omega)]; exact l1, by rw [go _ (by omega)]; exact l2, by rw [go _ (by omega)]; exact l3⟩
theorem c_tell {minute : Int32} (R : RepM m h A) (q : ∀ h', FrM m h h' → RepM m h' (oTell A minute) → Q (some (.int (aTell A.2.2.1 minute))) h') : EvM w mX10_tell (d + 1) [.ref m, .int minute] h Q := by
  refine bX10_tell_0 ⟨R.1.1, fun h2 e2 => ?_⟩
  have F2 : FrZ m h h2 := by rw [e2]; exact FrZ.rf.fld
  have R2 := R.fr F2
  obtain ⟨V, ⟨a0, a1, a2, a3, a4, a5, a6, a7, a8, a9⟩, ⟨b1, b2, b3, b4, b5⟩, c, L⟩ := R2.2.2.2.2.2.1
  have a9' := a9
  simp only [Nat.mul_zero, Nat.zero_add] at a9
  have hT : A.2.2.1.2.2.1 ≤ 30 := V.2.2.1
  have no : canTell A.2.2.1 minute = false → Q (some (.int (-1))) h2 := by
    intro e
    unfold oTell aTell at q
    rw [e] at q
    exact q h2 F2.M R2
  rw [cl9, a9]
  have yes : canTell A.2.2.1 minute = true → Ev w (am_Z w) mX10_tell (d + 1) 44 [(0, .ref m), (1, .int minute), (2, .int (nI A.2.2.1.2.2.1))] [] h2 Q := by
    intro e
    have e' := e
    unfold canTell at e'
    simp only [Bool.and_eq_true, Bool.not_eq_true', decide_eq_true_eq, decide_eq_false_iff_not] at e'
    refine bX10_tell_44 ⟨R2.1.1, R2.1.in 11 rfl rfl (show A.2.2.1.2.2.1 < 180 by omega) (by decide), fun h3 e3 => ?_⟩
    rw [nI_clamp (by omega)] at e3
    have M3 : Md m h3 := by rw [e3]; exact R2.1
    refine ⟨M3.in 1 rfl (k := 9) (by decide) (by decide) (by decide), M3.in 1 rfl (k := 9) (by decide) (by decide) (by decide), fun h9 e9 => ?_⟩
    have t3 : hI h3 (m + 2) = hI h2 (m + 2) := by rw [e3, sI_r, hI_rn _ _ (by omega)]
    rw [cl9, t3, a9, nI_1] at e9
    have F9 : Fr0 m h h9 := by rw [e9, e3, e2]; exact (Fr0.rf.z.r12 (by omega)).r2 (by decide)
    have g2 : hI h9 (m + 2) = va_up (hI h2 (m + 2)) 9 (nI (A.2.2.1.2.2.1 + 1)) := by rw [e9, sI_r, hI_rs, t3]
    have g12 : hI h9 (m + 12) = va_up (hI h2 (m + 12)) A.2.2.1.2.2.1 minute := by rw [e9, sI_r, hI_rn _ _ (by omega), e3, sI_r, hI_rs]
    have go : ∀ a, a ≠ m + 2 → a ≠ m + 12 → hI h9 a = hI h2 a := fun a ha hb => by rw [e9, sI_r, hI_rn _ _ ha, e3, sI_r, hI_rn _ _ hb]
    unfold oTell aTell at q
    rw [if_pos e, if_pos e] at q
    rw [nI_1]
    refine q h9 F9.M (R.set F9 ⟨V.tell e, ⟨?_, ?_, ?_, ?_, ?_, ?_, ?_, ?_, ?_, ?_⟩, ⟨?_, ?_, ?_, ?_, ?_⟩, fun i hi => ?_, ?_⟩)
    · rw [g2, va_up_ne _ _ (by decide)]; exact a0
    · rw [g2, va_up_ne _ _ (by decide)]; exact a1
    · rw [g2, va_up_ne _ _ (by decide)]; exact a2
    · rw [g2, va_up_ne _ _ (by decide)]; exact a3
    · rw [g2, va_up_ne _ _ (by decide)]; exact a4
    · rw [g2, va_up_ne _ _ (by decide)]; exact a5
    · rw [g2, va_up_ne _ _ (by decide)]; exact a6
    · rw [g2, va_up_ne _ _ (by decide)]; exact a7
    · rw [g2, va_up_ne _ _ (by decide)]; exact a8
    · rw [g2]; exact va_up_self _ _ _
    · rw [go _ (by omega) (by omega)]; exact b1
    · rw [go _ (by omega) (by omega)]; exact b2
    · rw [go _ (by omega) (by omega)]; exact b3
    · rw [go _ (by omega) (by omega)]; exact b4
    · rw [go _ (by omega) (by omega)]; exact b5
    · have hi : i < A.2.2.1.2.2.1 + 1 := hi
      show hI h9 (m + 12) (30 * 0 + i) = va_up A.2.2.1.2.2.2 A.2.2.1.2.2.1 minute i
      rw [g12, Nat.mul_zero, Nat.zero_add]
      by_cases ci : i = A.2.2.1.2.2.1
      · subst ci; rw [va_up_self, va_up_self]
      · rw [va_up_ne _ _ ci, va_up_ne _ _ ci]
        have := c i (by omega)
        simp only [Nat.mul_zero, Nat.zero_add] at this
        exact this
    · intro l hl
      obtain ⟨x, y, l1, l2, l3⟩ := L l hl
      exact ⟨x, y, by rw [go _ (by omega) (by omega)]; exact l1, by rw [go _ (by omega) (by omega)]; exact l2, by rw [go _ (by omega) (by omega)]; exact l3⟩
  refine ⟨R2.1.in 1 rfl (k := 9) (by decide) (by decide) (by decide), c_isMinuteM ⟨_, rfl, fun c1 => no ?_, fun c1 => ⟨fun c2 => no ?_, fun c2 => ⟨fun c3 => yes ?_, fun c3 => ?_⟩⟩⟩⟩
  · unfold canTell
    rw [decide_eq_false (b01_z c1)]; rfl
  · have : A.2.2.1.2.2.1 = 30 := nI_inv (by omega) (by decide) c2
    unfold canTell
    rw [this]; simp
  · have c2' : ¬ A.2.2.1.2.2.1 = 30 := fun e => c2 (by rw [e]; decide)
    rw [show (0 : Int32) = nI 0 by decide, nI_leI (by omega) (by decide)] at c3
    unfold canTell
    rw [decide_eq_true (b01_n c1), decide_eq_false c2', decide_eq_true (show A.2.2.1.2.2.1 = 0 by omega)]
    rfl
  · have c2' : ¬ A.2.2.1.2.2.1 = 30 := fun e => c2 (by rw [e]; decide)
    rw [show (0 : Int32) = nI 0 by decide, nI_leI (by omega) (by decide)] at c3
    obtain ⟨n, hn⟩ : ∃ n, A.2.2.1.2.2.1 = n + 1 := ⟨A.2.2.1.2.2.1 - 1, by omega⟩
    have c' := c
    simp only [Nat.mul_zero, Nat.zero_add] at c'
    have e12 : hI h2 (m + 12) n = A.2.2.1.2.2.2 n := c' n (by omega)
    have no := no
    have yes := yes
    unfold canTell at no yes
    rw [decide_eq_true (b01_n c1), decide_eq_false c2', decide_eq_false (show ¬ A.2.2.1.2.2.1 = 0 by omega)] at no yes
    rw [hn] at no yes ⊢
    rw [nI_pred]
    refine ⟨R2.1.1, R2.1.in 11 rfl rfl (show n < 180 by omega) (by decide), fun c4 => yes ?_, fun c4 => no ?_⟩
    · rw [nI_clamp (by omega), e12] at c4
      show (true && (!false && (false || decide (A.2.2.1.2.2.2 n < minute)))) = true
      rw [decide_eq_true c4]; rfl
    · rw [nI_clamp (by omega), e12] at c4
      show (true && (!false && (false || decide (A.2.2.1.2.2.2 n < minute)))) = false
      rw [decide_eq_false c4]; rfl
end RPUB3
