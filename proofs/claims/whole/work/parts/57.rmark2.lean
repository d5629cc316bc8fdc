/-! The reference's mark and feed. -/
def canMark (A : rA) (i : Int32) (back : Bool) : Bool := decide (0 ≤ i ∧ i ≤ 3) && (!back || A.2.2.2.1 i.toNatClampNeg)
def oMark (A : rA) (i : Int32) (back : Bool) : rA := if canMark A i back then (if back then (A.1, A.2.1, A.2.2.2.2 i.toNatClampNeg, A.2.2.2) else (A.1, A.2.1, A.2.2.1, va_up A.2.2.2.1 i.toNatClampNeg true, va_up A.2.2.2.2 i.toNatClampNeg A.2.2.1)) else A
/-- the kth sign of three words -/
def sgnR (x : Int64) (k : Int32) : Int32 := Int64.toInt32 (((Int64.toUInt64 x >>> ((Int32.toInt64 (56 - (8 * (k &&& 7)))).toUInt64 &&& Int64.toUInt64 63)).toInt64) &&& 255)
def fd1 (T : Nat × (Nat → Int32)) (s : Int32) : Nat × (Nat → Int32) := if T.1 < 1000 ∧ (s = 10 ∨ (32 ≤ s ∧ s ≤ 126)) then (T.1 + 1, va_up T.2 T.1 s) else T
def fdK (a b c : Int64) (T : Nat × (Nat → Int32)) : Nat → Nat × (Nat → Int32)
  | 0 => T
  | k + 1 => fd1 (fdK a b c T k) (sgnR (if k < 8 then a else if k < 16 then b else c) (nI k))
def oFeed (A : rA) (a b c : Int64) : rA := ((fdK a b c (A.1, A.2.1) 24).1, (fdK a b c (A.1, A.2.1) 24).2, A.2.2)
/-- signs on the tape are signs -/
def tpOK (T : Nat × (Nat → Int32)) : Prop := T.1 ≤ 1000 ∧ ∀ i, i < T.1 → T.2 i = 10 ∨ ∃ k, 32 ≤ k ∧ k ≤ 126 ∧ T.2 i = nI k
theorem fd1_ok {T : Nat × (Nat → Int32)} {s : Int32} (h : tpOK T) : tpOK (fd1 T s) := by
  unfold fd1
  split
  · rename_i c
    refine ⟨by show T.1 + 1 ≤ 1000; omega, fun i hi => ?_⟩
    have hi : i < T.1 + 1 := hi
    show va_up T.2 T.1 s i = 10 ∨ ∃ k, 32 ≤ k ∧ k ≤ 126 ∧ va_up T.2 T.1 s i = nI k
    rw [va_ui]
    by_cases ci : i = T.1
    · rw [if_pos ci]
      rcases c.2 with c2 | c2
      · exact Or.inl c2
      · obtain ⟨j, j1, j2, e⟩ := w16 (a := 32) (b := 126) (by decide) (by decide) (by decide) (by decide) c2
        exact Or.inr ⟨j, j1, j2, e⟩
    · rw [if_neg ci]
      exact h.2 i (by omega)
  · exact h
/-- rows alike but for the tape -/
def FrT (m : Nat) (h h' : am_H) : Prop := hK h' = hK h ∧ hN h' = hN h ∧ hJ h' = hJ h ∧ hR h' = hR h ∧ hZ h' = hZ h ∧ hS h' = hS h ∧ (∀ a, a ≠ m → a ≠ m + 1 → hI h' a = hI h a)
theorem FrT.rf {m : Nat} {h : am_H} : FrT m h h := ⟨rfl, rfl, rfl, rfl, rfl, rfl, fun _ _ _ => rfl⟩
theorem FrT.tr {m : Nat} {h h1 h2 : am_H} (a : FrT m h h1) (b : FrT m h1 h2) : FrT m h h2 := by
  obtain ⟨a1, a2, a3, a4, a5, a6, a7⟩ := a
  obtain ⟨b1, b2, b3, b4, b5, b6, b7⟩ := b
  exact ⟨b1.trans a1, b2.trans a2, b3.trans a3, b4.trans a4, b5.trans a5, b6.trans a6, fun x h1 h2 => (b7 x h1 h2).trans (a7 x h1 h2)⟩
theorem FrT.md {m : Nat} {h h' : am_H} (f : FrT m h h') (M : Md m h) : Md m h' := by
  obtain ⟨a1, a2, a3, a4, -⟩ := f
  refine ⟨⟨by rw [a1]; exact M.1.1, fun q hq => by rw [a1, a4]; exact M.1.2 q hq⟩, fun q hq => by rw [a2]; exact M.2 q hq⟩
theorem FrT.M {m : Nat} {h h' : am_H} (F : FrT m h h') : FrM m h h' := by
  obtain ⟨f1, f2, f3, f4, f5, f6, f7⟩ := F
  exact ⟨f1, f2, f4, f5, f6, fun a ha => ⟨f7 a (by omega) (by omega), by rw [f3]⟩⟩
theorem RepM.tape {m : Nat} {h h' : am_H} {A : rA} (R : RepM m h A) (F : FrT m h h') {T : Nat × (Nat → Int32)} (h1 : hI h' m 1 = nI T.1) (ok : tpOK T) (e : eqR T.1 (hI h' (m + 1)) T.2) : RepM m h' (T.1, T.2, A.2.2) := by
  obtain ⟨M, a1, a2, a3, a3', a4, a5⟩ := R
  have f7 := F.2.2.2.2.2.2
  exact ⟨F.md M, h1, ok.1, e, ok.2, a4.cg (fun o h1 h0 h2 _ => f7 _ (by omega) (by omega)), fun i hi => ⟨by rw [f7 _ (by omega) (by omega)]; exact (a5 i hi).1, fun c => ((a5 i hi).2 c).cg (fun o h1 h0 h2 _ => f7 _ (by omega) (by omega))⟩⟩
section RMARK2
variable {w : am_W} {d : Nat} {h : am_H} {Q : Option Value → am_H → Prop} {m : Nat} {A : rA}
theorem c_feed {a b c : Int64} (R : RepM m h A) (q : ∀ h', FrM m h h' → RepM m h' (oFeed A a b c) → Q (some (.int (nI (oFeed A a b c).1))) h') : EvM w mX10_feed d [.ref m, .long a, .long b, .long c] h Q := by
  refine bX10_feed_0 ⟨R.1.1, fun h2 e2 => ?_⟩
  have F2 : FrT m h h2 := ⟨by rw [e2]; rfl, by rw [e2]; rfl, by rw [e2]; rfl, by rw [e2]; rfl, by rw [e2]; rfl, by rw [e2]; rfl, fun x hx _ => by rw [e2, sI_r, hI_rn _ _ hx]⟩
  have i2 : hI h2 m 1 = nI A.1 := by rw [e2, sI_r, hI_rs, va_up_ne _ _ (by decide)]; exact R.2.1
  have j2 : eqR A.1 (hI h2 (m + 1)) A.2.1 := by rw [e2, sI_r, hI_rn _ _ (by omega)]; exact R.2.2.2.1
  unfold oFeed at q
  generalize hT24 : fdK a b c (A.1, A.2.1) 24 = T24 at q
  have loop : ∀ i k, k + i = 24 → ∀ hc, FrT m h hc → hI hc m 1 = nI (fdK a b c (A.1, A.2.1) k).1 → tpOK (fdK a b c (A.1, A.2.1) k) → eqR (fdK a b c (A.1, A.2.1) k).1 (hI hc (m + 1)) (fdK a b c (A.1, A.2.1) k).2 → Ev w (am_Z w) mX10_feed d 8 [(0, .ref m), (1, .long a), (3, .long b), (5, .long c), (7, .int (nI k))] [] hc Q := by
    intro i
    induction i with
    | zero =>
      intro k hk hc Fc e1 ok e
      have hk : k = 24 := by omega
      subst hk
      rw [hT24] at e1 ok e
      refine bX10_feed_8 ⟨fun _ => ⟨(Fc.md R.1).1, ?_⟩, fun c => absurd (by decide) c⟩
      rw [e1]
      exact q hc Fc.M (R.tape Fc e1 ok e)
    | succ i ih =>
      intro k hk hc Fc e1 ok e
      have Mc := Fc.md R.1
      have ih := ih (k + 1) (by omega)
      rw [fdK] at ih
      generalize hT : fdK a b c (A.1, A.2.1) k = T at e1 ok e ih
      have tail : ∀ x : Int64, x = (if k < 8 then a else if k < 16 then b else c) → Ev w (am_Z w) mX10_feed d 39 [(0, .ref m), (1, .long a), (3, .long b), (5, .long c), (7, .int (nI k))] [.long x] hc Q := by
        intro x hx
        rw [← hx] at ih
        have ok1 := fd1_ok (s := sgnR x (nI k)) ok
        have no : ¬ (T.1 < 1000 ∧ (sgnR x (nI k) = 10 ∨ (32 ≤ sgnR x (nI k) ∧ sgnR x (nI k) ≤ 126))) → Ev w (am_Z w) mX10_feed d 8 [(0, .ref m), (1, .long a), (3, .long b), (5, .long c), (7, .int (nI k + 1))] [] hc Q := by
          intro n
          have e3 : fd1 T (sgnR x (nI k)) = T := if_neg n
          rw [e3] at ih
          rw [nI_1]
          exact ih hc Fc e1 ok e
        have yes : (T.1 < 1000 ∧ (sgnR x (nI k) = 10 ∨ (32 ≤ sgnR x (nI k) ∧ sgnR x (nI k) ≤ 126))) → Ev w (am_Z w) mX10_feed d 93 [(0, .ref m), (1, .long a), (3, .long b), (5, .long c), (7, .int (nI k)), (10, .int (sgnR x (nI k)))] [] hc Q := by
          intro y
          have e3 : fd1 T (sgnR x (nI k)) = (T.1 + 1, va_up T.2 T.1 (sgnR x (nI k))) := if_pos y
          rw [e3] at ih ok1
          refine bX10_feed_93 ⟨Mc.1, Mc.in 0 rfl e1 y.1 (by decide), fun h3 e3 h4 e4 => ?_⟩
          rw [e1, nI_clamp (show T.1 < 2 ^ 31 by omega)] at e3
          have m3 : hI h3 m = hI hc m := by rw [e3, sI_r, hI_rn _ _ (by omega)]
          rw [m3, e1, nI_1] at e4
          rw [nI_1]
          refine ih h4 (Fc.tr ⟨by rw [e4, e3]; rfl, by rw [e4, e3]; rfl, by rw [e4, e3]; rfl, by rw [e4, e3]; rfl, by rw [e4, e3]; rfl, by rw [e4, e3]; rfl, fun z h1 h2 => by rw [e4, sI_r, hI_rn _ _ h1, e3, sI_r, hI_rn _ _ h2]⟩) (by rw [e4, sI_r, hI_rs, va_up_self]) ok1 ?_
          have : hI h4 (m + 1) = va_up (hI hc (m + 1)) T.1 (sgnR x (nI k)) := by rw [e4, sI_r, hI_rn _ _ (by omega), e3, sI_r, hI_rs]
          rw [this]
          exact e.s rfl
        refine bX10_feed_39 ⟨Mc.1, fun c1 => no ?_, fun c1 => ⟨fun c2 => yes ?_, fun c2 => ⟨fun c3 => no ?_, fun c3 => ⟨fun c4 => no ?_, fun c4 => yes ?_⟩⟩⟩⟩
        · rw [e1, show (1000 : Int32) = nI 1000 by decide, nI_leI (by decide) (by have := ok.1; omega)] at c1
          omega
        · rw [e1, show (1000 : Int32) = nI 1000 by decide, nI_leI (by decide) (by have := ok.1; omega)] at c1
          exact ⟨by omega, Or.inl c2⟩
        · intro y
          rcases y.2 with y | y
          · exact c2 y
          · exact absurd (Int32.lt_of_lt_of_le c3 y.1) (Int32.lt_irrefl)
        · intro y
          rcases y.2 with y | y
          · exact c2 y
          · exact absurd (Int32.lt_of_lt_of_le c4 y.2) (Int32.lt_irrefl)
        · rw [e1, show (1000 : Int32) = nI 1000 by decide, nI_leI (by decide) (by have := ok.1; omega)] at c1
          exact ⟨by omega, Or.inr ⟨Int32.not_lt.mp c3, Int32.not_lt.mp c4⟩⟩
      refine bX10_feed_8 ⟨fun c => absurd c (by rw [show (24 : Int32) = nI 24 by decide, nI_leI (by decide) (by omega)]; omega), fun _ => ⟨fun c8 => ⟨fun c16 => tail _ ?_, fun c16 => tail _ ?_⟩, fun c8 => tail _ ?_⟩⟩
      · rw [show (8 : Int32) = nI 8 by decide, nI_leI (by decide) (by omega)] at c8
        rw [show (16 : Int32) = nI 16 by decide, nI_leI (by decide) (by omega)] at c16
        rw [if_neg (by omega), if_neg (by omega)]
      · rw [show (8 : Int32) = nI 8 by decide, nI_leI (by decide) (by omega)] at c8
        rw [show (16 : Int32) = nI 16 by decide, nI_leI (by decide) (by omega)] at c16
        rw [if_neg (by omega), if_pos (by omega)]
      · rw [show (8 : Int32) = nI 8 by decide, nI_leI (by decide) (by omega)] at c8
        rw [if_pos (by omega)]
  exact loop 24 0 (by omega) h2 F2 i2 ⟨R.2.2.1, R.2.2.2.2.1⟩ j2
theorem c_mark {i b : Int32} (hb : b = 0 ∨ b = 1) (R : RepM m h A) (q : ∀ h', FrM m h h' → RepM m h' (oMark A i (!decide (b = 0))) → Q (some (.int (if canMark A i (!decide (b = 0)) then 1 else 0))) h') : EvM w mX10_mark (d + 2) [.ref m, .int i, .int b] h Q := by
  refine bX10_mark_0 ⟨R.1.1, fun h2 e2 => ?_⟩
  have F2 : FrZ m h h2 := by rw [e2]; exact FrZ.rf.fld
  have R2 := R.fr F2
  have no : canMark A i (!decide (b = 0)) = false → Q (some (.int 0)) h2 := by
    intro n
    unfold oMark at q
    rw [n] at q
    exact q h2 F2.M R2
  have yes : canMark A i (!decide (b = 0)) = true → Ev w (am_Z w) mX10_mark (d + 1 + 1) 29 [(0, .ref m), (1, .int i), (2, .int b)] [] h2 Q := by
    intro y
    have y' := y
    unfold canMark at y'
    rw [Bool.and_eq_true] at y'
    obtain ⟨j, j1, j2, rfl⟩ := w16 (a := 0) (b := 3) (by decide) (by decide) (by decide) (by decide) (of_decide_eq_true y'.1)
    have hc : (nI j).toNatClampNeg = j := nI_clamp (by omega)
    have e2j : (2 : Int32) + nI j = nI (2 + j) := by rw [show (2 : Int32) = nI 2 by decide, nI_add]
    unfold oMark at q
    rw [if_pos y, if_pos y, hc] at q
    refine bX10_mark_29 ⟨R2.1.1, R2.1.in 36 rfl rfl (show j < 4 by omega) (by decide), fun h3 e3 => ?_⟩
    rw [hc] at e3
    have M3 : Md m h3 := by rw [e3]; exact R2.1
    have o3 : ∀ a, a ≠ m + 37 → hI h3 a = hI h2 a := fun a ha => by rw [e3, sI_r, hI_rn _ _ ha]
    have g3 : hI h3 (m + 37) = va_up (hI h2 (m + 37)) j 1 := by rw [e3, sI_r, hI_rs]
    have F3 : FrM m h h3 := F2.M.tr ⟨by rw [e3]; rfl, by rw [e3]; rfl, by rw [e3]; rfl, by rw [e3]; rfl, by rw [e3]; rfl, fun a ha => ⟨o3 a (by omega), by rw [e3]; rfl⟩⟩
    have S3 : ∀ u H, Slt m h2 u H → Slt m h3 u H := fun u H S => S.cg (fun o _ _ h1 _ => o3 _ (by omega))
    obtain ⟨_, a1, a2, a3, a3', a4, a5⟩ := id R2
    have ly1 : ∀ s t, hI (lyH m s t 4 h3) m 1 = nI A.1 := fun s t => by
      rw [lyH_I]; simp only [lyI]; rw [if_neg (by omega), if_neg (by omega), if_neg (by omega), if_neg (by omega), if_neg (by omega), if_neg (by omega), o3 m (by omega)]; exact a1
    have ly2 : ∀ s t, hI (lyH m s t 4 h3) (m + 1) = hI h2 (m + 1) := fun s t => by
      rw [lyH_I]; simp only [lyI]; rw [if_neg (by omega), if_neg (by omega), if_neg (by omega), if_neg (by omega), if_neg (by omega), if_neg (by omega), o3 _ (by omega)]
    have ly37 : ∀ s t, hI (lyH m s t 4 h3) (m + 37) = va_up (hI h2 (m + 37)) j 1 := fun s t => by
      rw [lyH_I]; simp only [lyI]; rw [if_neg (by omega), if_neg (by omega), if_neg (by omega), if_neg (by omega), if_neg (by omega), if_neg (by omega), g3]
    refine ⟨fun c0 => ?_, fun c0 => ?_⟩
    · rw [if_neg (by rw [decide_eq_true c0]; decide)] at q
      rw [e2j, show (0 : Int32) = nI 0 by decide]
      refine c_lays M3 (by omega) (by omega) (by omega) ⟨rfl, q _ (F3.tr (lyH_M _ _ _ _ _)) ⟨M3, ly1 _ _, a2, by rw [ly2]; exact a3, a3', lyH_oth (S3 _ _ a4) (by omega), fun u hu => ⟨?_, fun c => ?_⟩⟩⟩
      · rw [ly37]
        show va_up (hI h2 (m + 37)) j 1 u = if va_up A.2.2.2.1 j true u then 1 else 0
        rw [va_ui, va_ui]
        by_cases cu : u = j
        · rw [if_pos cu, if_pos cu]; rfl
        · rw [if_neg cu, if_neg cu]; exact (a5 u hu).1
      · show Slt m _ (2 + u) (va_up A.2.2.2.2 j A.2.2.1 u)
        have c : va_up A.2.2.2.1 j true u = true := c
        rw [va_ui] at c ⊢
        by_cases cu : u = j
        · rw [if_pos cu, cu]
          exact lyH_slt (S3 _ _ a4)
        · rw [if_neg cu] at c ⊢
          exact lyH_oth (S3 _ _ ((a5 u hu).2 c)) (by omega)
    · rw [if_pos (by rw [decide_eq_false c0]; decide)] at q
      have lj : A.2.2.2.1 j = true := by
        have := y'.2
        rw [decide_eq_false c0, hc] at this
        simpa using this
      rw [e2j, show (0 : Int32) = nI 0 by decide]
      refine c_lays M3 (by omega) (by omega) (by omega) ⟨rfl, q _ (F3.tr (lyH_M _ _ _ _ _)) ⟨M3, ly1 _ _, a2, by rw [ly2]; exact a3, a3', lyH_slt (S3 _ _ ((a5 j (by omega)).2 lj)), fun u hu => ⟨?_, fun c => ?_⟩⟩⟩
      · rw [ly37]
        show va_up (hI h2 (m + 37)) j 1 u = if A.2.2.2.1 u then 1 else 0
        rw [va_ui]
        by_cases cu : u = j
        · rw [if_pos cu, cu, lj]; rfl
        · rw [if_neg cu]; exact (a5 u hu).1
      · exact lyH_oth (S3 _ _ ((a5 u hu).2 c)) (by omega)
  refine c_within ⟨_, rfl, fun c => no ?_, fun c => ⟨fun c0 => yes ?_, fun c0 => ?_⟩⟩
  · unfold canMark
    rw [decide_eq_false (b01_z c)]; rfl
  · unfold canMark
    rw [decide_eq_true (b01_n c), decide_eq_true c0]; rfl
  · have c' := b01_n c
    obtain ⟨j, j1, j2, rfl⟩ := w16 (a := 0) (b := 3) (by decide) (by decide) (by decide) (by decide) c'
    have hc : (nI j).toNatClampNeg = j := nI_clamp (by omega)
    have l := (R2.2.2.2.2.2.2 j (by omega)).1
    have e : canMark A (nI j) (!decide (b = 0)) = A.2.2.2.1 j := by
      unfold canMark
      rw [decide_eq_true c', decide_eq_false c0, hc]; rfl
    rw [e] at no yes
    refine ⟨R2.1.1, R2.1.in 36 rfl rfl (show j < 4 by omega) (by decide), fun c3 => no ?_, fun c3 => yes ?_⟩
    · rw [hc, l] at c3
      cases hl : A.2.2.2.1 j with
      | false => rfl
      | true => rw [hl] at c3; exact absurd c3 (by decide)
    · rw [hc, l] at c3
      cases hl : A.2.2.2.1 j with
      | true => rfl
      | false => rw [hl] at c3; exact absurd rfl c3
end RMARK2
