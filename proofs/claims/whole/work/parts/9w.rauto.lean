/-! The reference's reading of a law: one loop, as a pure automaton. -/
def cdT (k v : Int32) : Int32 := if k = 2 then 100 + v else if k = 87 then 30 else if k = 40 then 28 else if k = 43 then 20 else if k = 45 then 21 else if k = 42 then 22 else if k = 60 then 24 else if k = 61 then 25 else if k = 88 then 26 else if k = 89 then 27 else if k = 41 then 29 else fcA k
abbrev SK : Type := List (Bool × Bool)
def popN : SK → SK
  | [] => []
  | e :: r => if e.1 then popN r else e :: r
def Bs : SK → Prop
  | [] => False
  | e :: r => (r = [] → e.1 = false) ∧ (r ≠ [] → Bs r)
def cmpT : SK → Bool
  | [] => false
  | e :: _ => e.2
def setT (c : Bool) : SK → SK
  | [] => []
  | e :: r => (e.1, c) :: r
def rd (kd pc : Nat → Int32) : Nat → Nat → Bool → SK → P2
  | 0, i, _, _ => (0, i)
  | k + 1, i, true, st => if isSt (kd i) then (if st.length = 6 then (5 + 16 * pc i, i) else if kd i = 87 then rd kd pc k (i + 1) true ((true, false) :: st) else if kd i = 40 then rd kd pc k (i + 1) true ((false, false) :: st) else rd kd pc k (i + 1) false (popN st)) else (1 + 16 * pc i, i)
  | k + 1, i, false, st => if kd i = 43 ∨ kd i = 45 ∨ kd i = 42 then rd kd pc k (i + 1) true st else if (kd i = 60 ∨ kd i = 61) ∧ cmpT st = false then rd kd pc k (i + 1) true (setT true st) else if kd i = 88 ∨ kd i = 89 then rd kd pc k (i + 1) true (setT false st) else if kd i = 41 ∧ 1 < st.length then rd kd pc k (i + 1) false (popN st.tail) else if st.length = 1 ∧ kd i = 59 then (0, i + 1) else (1 + 16 * pc i, i)
theorem isF_or {k : Int32} (h : isF k = true) : k = 75 ∨ k = 76 ∨ k = 77 ∨ k = 78 ∨ k = 79 ∨ k = 80 := by
  unfold isF at h
  rw [Bool.and_eq_true, Bool.not_eq_true', Bool.not_eq_true', decide_eq_false_iff_not, decide_eq_false_iff_not] at h
  obtain ⟨h1, h2⟩ := h
  have hn : ¬ k < 0 := fun z => h1 (Int32.lt_trans z (by decide))
  obtain ⟨j, hj, rfl⟩ := nI_of hn
  rw [show (75 : Int32) = nI 75 by decide, nI_ltI hj (by decide)] at h1
  rw [show (80 : Int32) = nI 80 by decide, nI_ltI (by decide) hj] at h2
  rw [show (75 : Int32) = nI 75 by decide, show (76 : Int32) = nI 76 by decide, show (77 : Int32) = nI 77 by decide, show (78 : Int32) = nI 78 by decide, show (79 : Int32) = nI 79 by decide, show (80 : Int32) = nI 80 by decide, nI_eq hj (by decide), nI_eq hj (by decide), nI_eq hj (by decide), nI_eq hj (by decide), nI_eq hj (by decide), nI_eq hj (by decide)]
  omega
theorem fcA_F {k : Int32} (h : isF k = true) : ¬ fcA k ≤ 0 ∧ ¬ fcA k = 0 ∧ cdT k 0 = fcA k := by
  rcases isF_or h with e | e | e | e | e | e <;> rw [e] <;> decide
theorem fcA_N {k : Int32} (h : ¬ isF k = true) : fcA k = 0 := by
  have e : ∀ c : Int32, isF c = true → ¬ k = c := fun c hc e => h (by rw [e]; exact hc)
  rw [fcA, if_neg (e 75 (by decide)), if_neg (e 76 (by decide)), if_neg (e 77 (by decide)), if_neg (e 78 (by decide)), if_neg (e 79 (by decide)), if_neg (e 80 (by decide))]
theorem isSt_or {k : Int32} : isSt k = true ↔ (k = 2 ∨ k = 87 ∨ k = 40 ∨ isF k = true) := by
  unfold isSt
  rw [Bool.or_eq_true, Bool.or_eq_true, Bool.or_eq_true, decide_eq_true_eq, decide_eq_true_eq, decide_eq_true_eq]
theorem cdT_F {k v : Int32} (h : isF k = true) : cdT k v = fcA k := by
  rcases isF_or h with e | e | e | e | e | e <;> rw [e] <;> rfl
theorem Bs.ne {st : SK} (h : Bs st) : st ≠ [] := fun e => by rw [e] at h; exact h
theorem Bs.pop : ∀ {st : SK}, Bs st → Bs (popN st) ∧ (popN st).length ≤ st.length := by
  intro st
  induction st with
  | nil => intro h; exact absurd h (fun z => z)
  | cons e r ih =>
    intro h
    rw [popN]
    by_cases c : e.1 = true
    · rw [if_pos c]
      have hr : r ≠ [] := fun z => by have := h.1 z; rw [c] at this; exact absurd this (by decide)
      obtain ⟨i1, i2⟩ := ih (h.2 hr)
      exact ⟨i1, Nat.le_succ_of_le i2⟩
    · rw [if_neg c]; exact ⟨h, Nat.le_refl _⟩
theorem Bs.push {st : SK} {e : Bool × Bool} (h : Bs st) : Bs (e :: st) := ⟨fun z => absurd z h.ne, fun _ => h⟩
theorem Bs.set {st : SK} {c : Bool} (h : Bs st) : Bs (setT c st) ∧ (setT c st).length = st.length := by
  cases st with
  | nil => exact absurd h (fun z => z)
  | cons e r => exact ⟨h, rfl⟩
/-- the rows opened and compared hold the stack -/
def SkH (m : Nat) (h : am_H) : SK → Prop
  | [] => True
  | e :: r => (r ≠ [] → hI h (m + 13) r.length = (if e.1 then 1 else 2)) ∧ hI h (m + 14) r.length = (if e.2 then 1 else 0) ∧ SkH m h r
section RAUTO
variable {w : am_W} {d : Nat} {h : am_H} {Q : Option Value → am_H → Prop} {m n i : Nat} {s : Nat → Int32}
theorem SkH.cg {h1 : am_H} : ∀ {st : SK}, SkH m h st → (∀ k, k < st.length → hI h1 (m + 13) k = hI h (m + 13) k ∧ hI h1 (m + 14) k = hI h (m + 14) k) → SkH m h1 st := by
  intro st
  induction st with
  | nil => intro _ _; exact trivial
  | cons e r ih =>
    intro S g
    obtain ⟨g1, g2⟩ := g r.length (by rw [List.length_cons]; omega)
    exact ⟨fun z => by rw [g1]; exact S.1 z, by rw [g2]; exact S.2.1, ih S.2.2 (fun k hk => g k (by rw [List.length_cons]; omega))⟩
theorem SkH.pop : ∀ {st : SK}, SkH m h st → SkH m h (popN st) := by
  intro st
  induction st with
  | nil => intro _; exact trivial
  | cons e r ih =>
    intro S
    rw [popN]
    split
    · exact ih S.2.2
    · exact S
theorem SkH.fr {h1 : am_H} {st : SK} (S : SkH m h st) (F : FrN m h h1) : SkH m h1 st := S.cg (fun k _ => ⟨by rw [(F.2.2.2.2.2.1 _ (by omega)).1], by rw [(F.2.2.2.2.2.1 _ (by omega)).1]⟩)
theorem pop152 {x2 : Int32} : ∀ {st : SK}, Bs st → SkH m h st → st.length ≤ 6 → Md m h → EvM w mX10_nextToken d [.ref m] h (fun r h' => r = none ∧ Ev w (am_Z w) mX10_reads (d + 1) 11 [(0, .ref m), (1, .int (nI ((popN st).length - 1))), (2, .int x2)] [] h' Q) → Ev w (am_Z w) mX10_reads (d + 1) 152 [(0, .ref m), (1, .int (nI (st.length - 1))), (2, .int x2)] [] h Q := by
  intro st
  induction st with
  | nil => intro B; exact absurd B (fun z => z)
  | cons e r ih =>
    intro B S hl M k
    rw [List.length_cons] at hl
    rw [popN] at k
    show Ev w (am_Z w) mX10_reads (d + 1) 152 [(0, .ref m), (1, .int (nI r.length)), (2, .int x2)] [] h Q
    refine bX10_reads_152 ⟨fun c => ⟨M.1, ?_⟩, fun c => ⟨M.1, M.in 12 rfl rfl (by omega) (by decide), ?_⟩⟩
    · rw [← nI_0, nI_leI (by omega) (by decide)] at c
      have hr : r = [] := List.length_eq_zero_iff.mp (by omega)
      rw [if_neg (by rw [B.1 hr]; decide)] at k
      exact k
    · rw [← nI_0, nI_leI (by omega) (by decide)] at c
      have hr : r ≠ [] := fun z => by rw [z] at c; exact c (Nat.le_refl _)
      rw [nI_clamp (by omega), S.1 hr]
      refine ⟨fun c2 => ?_, fun c2 => ?_⟩
      · have e1 : e.1 = true := Decidable.byContradiction (fun z => by rw [if_neg z] at c2; exact absurd c2 (by decide))
        rw [if_pos e1] at k
        have := ih (B.2 hr) S.2.2 (by omega) M k
        obtain ⟨j, hj⟩ : ∃ j, r.length = j + 1 := ⟨r.length - 1, by omega⟩
        rw [hj] at this ⊢
        rw [pk_m1]
        exact this
      · rw [if_neg (fun z => c2 (if_pos z))] at k
        exact k
theorem pop379 {x2 : Int32} : ∀ {st : SK}, Bs st → SkH m h st → st.length ≤ 6 → Md m h → EvM w mX10_nextToken d [.ref m] h (fun r h' => r = none ∧ Ev w (am_Z w) mX10_reads (d + 1) 11 [(0, .ref m), (1, .int (nI ((popN st).length - 1))), (2, .int x2)] [] h' Q) → Ev w (am_Z w) mX10_reads (d + 1) 379 [(0, .ref m), (1, .int (nI (st.length - 1))), (2, .int x2)] [] h Q := by
  intro st
  induction st with
  | nil => intro B; exact absurd B (fun z => z)
  | cons e r ih =>
    intro B S hl M k
    rw [List.length_cons] at hl
    rw [popN] at k
    show Ev w (am_Z w) mX10_reads (d + 1) 379 [(0, .ref m), (1, .int (nI r.length)), (2, .int x2)] [] h Q
    refine bX10_reads_379 ⟨fun c => ⟨M.1, ?_⟩, fun c => ⟨M.1, M.in 12 rfl rfl (by omega) (by decide), ?_⟩⟩
    · rw [← nI_0, nI_leI (by omega) (by decide)] at c
      have hr : r = [] := List.length_eq_zero_iff.mp (by omega)
      rw [if_neg (by rw [B.1 hr]; decide)] at k
      exact k
    · rw [← nI_0, nI_leI (by omega) (by decide)] at c
      have hr : r ≠ [] := fun z => by rw [z] at c; exact c (Nat.le_refl _)
      rw [nI_clamp (by omega), S.1 hr]
      refine ⟨fun c2 => ?_, fun c2 => ?_⟩
      · have e1 : e.1 = true := Decidable.byContradiction (fun z => by rw [if_neg z] at c2; exact absurd c2 (by decide))
        rw [if_pos e1] at k
        have := ih (B.2 hr) S.2.2 (by omega) M k
        obtain ⟨j, hj⟩ : ∃ j, r.length = j + 1 := ⟨r.length - 1, by omega⟩
        rw [hj] at this ⊢
        rw [pk_m1]
        exact this
      · rw [if_neg (fun z => c2 (if_pos z))] at k
        exact k
/-- what has been put so far of a law that begins at token i0, codes from c0 on -/
def FrL (m : Nat) (h h' : am_H) : Prop := hK h' = hK h ∧ hN h' = hN h ∧ hR h' = hR h ∧ hZ h' = hZ h ∧ hS h' = hS h ∧ (∀ a, a ≠ m → hJ h' a = hJ h a) ∧ (∀ a, a ≠ m → a ≠ m + 5 → a ≠ m + 13 → a ≠ m + 14 → hI h' a = hI h a) ∧ ∀ k, k ≠ 4 → k ≠ 5 → k ≠ 6 → k ≠ 8 → k ≠ 9 → k ≠ 35 → k ≠ 21 → hI h' m k = hI h m k
theorem FrL.rf : FrL m h h := ⟨rfl, rfl, rfl, rfl, rfl, fun _ _ => rfl, fun _ _ _ _ _ => rfl, fun _ _ _ _ _ _ _ _ => rfl⟩
theorem FrL.tr {h1 h2 : am_H} (F : FrL m h h1) (G : FrL m h1 h2) : FrL m h h2 := by
  obtain ⟨a1, a2, a3, a4, a5, a6, a7, a8⟩ := F
  obtain ⟨b1, b2, b3, b4, b5, b6, b7, b8⟩ := G
  exact ⟨b1.trans a1, b2.trans a2, b3.trans a3, b4.trans a4, b5.trans a5, fun a x => (b6 a x).trans (a6 a x), fun a x y z v => (b7 a x y z v).trans (a7 a x y z v), fun k x1 x2 x3 x4 x5 x6 x7 => (b8 k x1 x2 x3 x4 x5 x6 x7).trans (a8 k x1 x2 x3 x4 x5 x6 x7)⟩
theorem FrR.l {h1 : am_H} (F : FrR m h h1) : FrL m h h1 := by
  obtain ⟨a1, a2, a3, a4, a5, a6, a7⟩ := F
  exact ⟨a1, a2, a3, a4, a5, fun a x => (a6 a x).2, fun a x _ _ _ => (a6 a x).1, fun k x1 x2 x3 x4 x5 x6 _ => a7 k x1 x2 x3 x4 x5 x6⟩
theorem FrL.row {o k : Nat} {v : Int32} (ho : o = 5 ∨ o = 13 ∨ o = 14) : FrL m h (sI h (m + o) k v) :=
  ⟨rfl, rfl, rfl, rfl, rfl, fun _ _ => rfl, fun a _ y z v => by rw [sI_r, hI_rn _ _ (by omega)], fun j _ _ _ _ _ _ _ => by rw [sI_r, hI_rn _ _ (by omega)]⟩
theorem FrL.f21 {v : Int32} : FrL m h (sI h m 21 v) :=
  ⟨rfl, rfl, rfl, rfl, rfl, fun _ _ => rfl, fun a x _ _ _ => by rw [sI_r, hI_rn _ _ x], fun j _ _ _ _ _ _ x => by rw [sI_f, if_neg x]⟩
theorem FrL.md {h1 : am_H} (F : FrL m h h1) (M : Md m h) : Md m h1 := by
  obtain ⟨a1, a2, a3, _⟩ := F
  unfold Md am_L at *
  rw [a1, a2, a3]
  exact M
def LI (m : Nat) (s : Nat → Int32) (n c0 i0 : Nat) (h0 h : am_H) (t : Nat) : Prop := FrL m h0 h ∧ hI h m 21 = nI (c0 + t) ∧ (∀ p, p < c0 ∨ c0 + t ≤ p → hI h (m + 5) p = hI h0 (m + 5) p) ∧ ∀ j, j < t → hI h (m + 5) (c0 + j) = cdT (tKD s n (i0 + j)) (tNV s n (i0 + j))
theorem LI.nx {h0 h1 : am_H} {c0 i0 t : Nat} (L : LI m s n c0 i0 h0 h t) (F : FrN m h h1) : LI m s n c0 i0 h0 h1 t := by
  obtain ⟨a1, a2, a3, a4⟩ := L
  have e : hI h1 (m + 5) = hI h (m + 5) := (F.2.2.2.2.2.1 _ (by omega)).1
  refine ⟨a1.tr F.r.l, ?_, ?_, ?_⟩
  · rw [F.2.2.2.2.2.2 21 (by decide) (by decide) (by decide) (by decide)]; exact a2
  · rw [e]; exact a3
  · rw [e]; exact a4
theorem LI.row {h0 : am_H} {c0 i0 t o k : Nat} {v : Int32} (L : LI m s n c0 i0 h0 h t) (ho : o = 13 ∨ o = 14) : LI m s n c0 i0 h0 (sI h (m + o) k v) t := by
  obtain ⟨a1, a2, a3, a4⟩ := L
  have e : hI (sI h (m + o) k v) (m + 5) = hI h (m + 5) := by rw [sI_r, hI_rn _ _ (by omega)]
  refine ⟨a1.tr (FrL.row (by omega)), ?_, ?_, ?_⟩
  · rw [sI_r, hI_rn _ _ (by omega)]; exact a2
  · rw [e]; exact a3
  · rw [e]; exact a4
theorem LI.put {h0 : am_H} {c0 i0 t : Nat} {c : Int32} (L : LI m s n c0 i0 h0 h t) (hc : c = cdT (tKD s n (i0 + t)) (tNV s n (i0 + t))) : LI m s n c0 i0 h0 (sI (sI h (m + 5) (c0 + t) c) m 21 (nI (c0 + t + 1))) (t + 1) := by
  obtain ⟨a1, a2, a3, a4⟩ := L
  have e : hI (sI (sI h (m + 5) (c0 + t) c) m 21 (nI (c0 + t + 1))) (m + 5) = va_up (hI h (m + 5)) (c0 + t) c := by rw [sI_r, hI_rn _ _ (by omega), sI_r, hI_rs]
  refine ⟨(a1.tr (FrL.row (o := 5) (by omega))).tr FrL.f21, ?_, ?_, ?_⟩
  · rw [sI_f, if_pos rfl]; rfl
  · intro p hp
    rw [e, va_up_ne _ _ (by omega)]
    exact a3 p (by omega)
  · intro j hj
    rw [e]
    by_cases x : j = t
    · rw [x, va_up_self, hc]
    · rw [va_up_ne _ _ (by omega)]
      exact a4 j (by omega)
/-- a code is put, its token is left -/
theorem puts_nx {h0 : am_H} {c0 i0 t : Nat} {c : Int32} (T : TM m h s n (i0 + t)) (L : LI m s n c0 i0 h0 h t) (hc : c = cdT (tKD s n (i0 + t)) (tNV s n (i0 + t))) (hb : c0 + t < 6000) (q : ∀ h', FrA (fun a => a = m ∨ a = m + 5) h h' → TM m h' s n (i0 + t) → LI m s n c0 i0 h0 h' (t + 1) → Q none h') : EvM w mX10_puts d [.ref m, .int c] h Q := by
  refine c_putsR T.1 L.2.1 hb (q _ ?_ ?_ (L.put hc))
  · exact (FrA.rf.fld (Or.inr rfl)).fld (Or.inl rfl)
  · exact (T.rowO (o := 5) (by decide)).fld (by decide)
end RAUTO
