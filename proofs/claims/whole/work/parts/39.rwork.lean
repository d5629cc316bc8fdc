/-! The reference's worked: a law's value out of its codes. Rows 15 kept, 16 keptBy, 17 ahead, 18 against, 19 sum, 20 sumBy, 21 term, 22 termBy, 23 byNot. -/
def up2 (E : Nat → Nat → Int32) (o i : Nat) (v : Int32) : Nat → Nat → Int32 := va_up E o (va_up (E o) i v)
def putE (h : am_H) (m : Nat) (E : Nat → Nat → Int32) : am_H := (hK h, hN h, fun a => if m + 15 ≤ a ∧ a ≤ m + 23 then E (a - m) else hI h a, hJ h, hR h, hZ h, hS h)
theorem putE_i (h : am_H) (m : Nat) (E : Nat → Nat → Int32) {o : Nat} (h1 : 15 ≤ o) (h2 : o ≤ 23) : hI (putE h m E) (m + o) = E o := by
  show (if m + 15 ≤ m + o ∧ m + o ≤ m + 23 then E (m + o - m) else hI h (m + o)) = E o
  rw [if_pos (by omega), Nat.add_sub_cancel_left]
theorem putE_o (h : am_H) (m : Nat) (E : Nat → Nat → Int32) {a : Nat} (ha : a < m + 15 ∨ m + 23 < a) : hI (putE h m E) a = hI h a := by
  show (if m + 15 ≤ a ∧ a ≤ m + 23 then E (a - m) else hI h a) = hI h a
  rw [if_neg (by omega)]
theorem putE_id (h : am_H) (m : Nat) : putE h m (fun o => hI h (m + o)) = h := by
  have e : (fun a => if m + 15 ≤ a ∧ a ≤ m + 23 then hI h (m + (a - m)) else hI h a) = hI h := by
    funext a
    by_cases ha : m + 15 ≤ a ∧ a ≤ m + 23
    · rw [if_pos ha, show m + (a - m) = a by omega]
    · rw [if_neg ha]
  show (hK h, hN h, (fun a => if m + 15 ≤ a ∧ a ≤ m + 23 then hI h (m + (a - m)) else hI h a), hJ h, hR h, hZ h, hS h) = h
  rw [e]
  rfl
theorem putE_s (h : am_H) (m : Nat) (E : Nat → Nat → Int32) {o : Nat} (h1 : 15 ≤ o) (h2 : o ≤ 23) (i : Nat) (v : Int32) : sI (putE h m E) (m + o) i v = putE h m (up2 E o i v) := by
  have e : va_up (hI (putE h m E)) (m + o) (va_up (hI (putE h m E) (m + o)) i v) = fun a => if m + 15 ≤ a ∧ a ≤ m + 23 then up2 E o i v (a - m) else hI h a := by
    funext a
    by_cases ha : a = m + o
    · subst ha
      rw [va_up_self, putE_i h m E h1 h2, if_pos (by omega), Nat.add_sub_cancel_left]
      unfold up2
      rw [va_up_self]
    · rw [va_up_ne _ _ ha]
      show (if m + 15 ≤ a ∧ a ≤ m + 23 then E (a - m) else hI h a) = _
      by_cases hb : m + 15 ≤ a ∧ a ≤ m + 23
      · rw [if_pos hb, if_pos hb]
        unfold up2
        rw [va_up_ne _ _ (by omega)]
      · rw [if_neg hb, if_neg hb]
  show (hK h, hN h, va_up (hI (putE h m E)) (m + o) (va_up (hI (putE h m E) (m + o)) i v), hJ h, hR h, hZ h, hS h) = _
  rw [e]
  rfl
theorem Md.e {m : Nat} {h : am_H} (M : Md m h) (E : Nat → Nat → Int32) : Md m (putE h m E) := M
def opensE (i : Nat) (E : Nat → Nat → Int32) : Nat → Nat → Int32 := up2 (up2 (up2 (up2 (up2 E 16 i 0) 18 i 0) 19 i 0) 20 i 20) 22 i 0
def sumsE (i : Nat) (E : Nat → Nat → Int32) : Nat → Nat → Int32 := up2 (up2 E 19 i (if E 20 i = 21 then E 19 i - E 21 i else E 19 i + E 21 i)) 22 i 0
def tvA (i : Nat) (E : Nat → Nat → Int32) : Int32 := if E 18 i = 24 then (if E 19 i ≤ E 17 i then 0 else 1) else E 19 i
def tvB (i : Nat) (E : Nat → Nat → Int32) (v : Int32) : Int32 := if E 18 i = 25 then (if E 17 i = E 19 i then 1 else 0) else v
def tvC (i : Nat) (E : Nat → Nat → Int32) (v : Int32) : Int32 := if E 16 i = 26 then (if E 15 i = 0 then 0 else if v = 0 then 0 else 1) else v
def tvD (i : Nat) (E : Nat → Nat → Int32) (v : Int32) : Int32 := if E 16 i = 27 then (if E 15 i = 0 then (if v = 0 then 0 else 1) else 1) else v
def testsE (i : Nat) (E : Nat → Nat → Int32) : Nat → Nat → Int32 := up2 (up2 (up2 (up2 (sumsE i E) 15 i (tvD i (sumsE i E) (tvC i (sumsE i E) (tvB i (sumsE i E) (tvA i (sumsE i E)))))) 18 i 0) 19 i 0) 20 i 20
section RWORK
variable {w : am_W} {d : Nat} {h : am_H} {Q : Option Value → am_H → Prop} {m : Nat} {E : Nat → Nat → Int32}
theorem c_opens {i : Nat} (M : Md m h) (hi : i < 7) (q : Q none (putE h m (opensE i E))) : EvM w mX10_opens d [.ref m, .int (nI i)] (putE h m E) Q := by
  have hc : (nI i).toNatClampNeg = i := nI_clamp (by omega)
  refine bX10_opens_0 ⟨M.1, M.in 15 rfl rfl hi (by decide), fun h3 e3 => ?_⟩
  rw [hc, putE_s _ _ _ (by decide) (by decide)] at e3
  subst e3
  refine ⟨M.in 17 rfl rfl hi (by decide), fun h5 e5 => ?_⟩
  rw [hc, putE_s _ _ _ (by decide) (by decide)] at e5
  subst e5
  refine ⟨M.in 18 rfl rfl hi (by decide), fun h7 e7 => ?_⟩
  rw [hc, putE_s _ _ _ (by decide) (by decide)] at e7
  subst e7
  refine ⟨M.in 19 rfl rfl hi (by decide), fun h9 e9 => ?_⟩
  rw [hc, putE_s _ _ _ (by decide) (by decide)] at e9
  subst e9
  refine ⟨M.in 21 rfl rfl hi (by decide), fun h11 e11 => ?_⟩
  rw [hc, putE_s _ _ _ (by decide) (by decide)] at e11
  subst e11
  exact q
theorem c_sums {i : Nat} (M : Md m h) (hi : i < 7) (q : Q none (putE h m (sumsE i E))) : EvM w mX10_sums d [.ref m, .int (nI i)] (putE h m E) Q := by
  have hc : (nI i).toNatClampNeg = i := nI_clamp (by omega)
  unfold sumsE at q
  refine bX10_sums_0 ⟨M.1, M.in 19 rfl rfl hi (by decide), fun c => ⟨M.in 18 rfl rfl hi (by decide), M.in 20 rfl rfl hi (by decide), M.in 18 rfl rfl hi (by decide), fun h6 e6 => ?_⟩, fun c => ⟨M.in 18 rfl rfl hi (by decide), M.in 20 rfl rfl hi (by decide), M.in 18 rfl rfl hi (by decide), fun h6 e6 => ?_⟩⟩
  · rw [hc, putE_i _ _ _ (by decide) (by decide)] at c
    rw [if_pos c] at q
    rw [hc, putE_i _ _ _ (by decide) (by decide), putE_i _ _ _ (by decide) (by decide), putE_s _ _ _ (by decide) (by decide)] at e6
    subst e6
    refine ⟨M.in 21 rfl rfl hi (by decide), fun h8 e8 => ?_⟩
    rw [hc, putE_s _ _ _ (by decide) (by decide)] at e8
    subst e8
    exact q
  · rw [hc, putE_i _ _ _ (by decide) (by decide)] at c
    rw [if_neg c] at q
    rw [hc, putE_i _ _ _ (by decide) (by decide), putE_i _ _ _ (by decide) (by decide), putE_s _ _ _ (by decide) (by decide)] at e6
    subst e6
    refine ⟨M.in 21 rfl rfl hi (by decide), fun h8 e8 => ?_⟩
    rw [hc, putE_s _ _ _ (by decide) (by decide)] at e8
    subst e8
    exact q
theorem c_tests {i : Nat} (M : Md m h) (hi : i < 7) (q : Q none (putE h m (testsE i E))) : EvM w mX10_tests (d + 1) [.ref m, .int (nI i)] (putE h m E) Q := by
  have hc : (nI i).toNatClampNeg = i := nI_clamp (by omega)
  refine bX10_tests_0 ⟨M.1, c_sums M hi ⟨rfl, M.1, M.in 18 rfl rfl hi (by decide), M.in 17 rfl rfl hi (by decide), ?_⟩⟩
  unfold testsE at q
  generalize sumsE i E = F at q ⊢
  have t136 : ∀ v : Int32, v = tvD i F (tvC i F (tvB i F (tvA i F))) → Ev w (am_Z w) mX10_tests (d + 1) 136 [(0, .ref m), (1, .int (nI i)), (2, .int v)] [] (putE h m F) Q := by
    intro v hv
    rw [← hv] at q
    refine bX10_tests_136 ⟨M.1, M.in 14 rfl rfl hi (by decide), fun h3 e3 => ?_⟩
    rw [hc, putE_s _ _ _ (by decide) (by decide)] at e3
    subst e3
    refine ⟨M.in 17 rfl rfl hi (by decide), fun h5 e5 => ?_⟩
    rw [hc, putE_s _ _ _ (by decide) (by decide)] at e5
    subst e5
    refine ⟨M.in 18 rfl rfl hi (by decide), fun h7 e7 => ?_⟩
    rw [hc, putE_s _ _ _ (by decide) (by decide)] at e7
    subst e7
    refine ⟨M.in 19 rfl rfl hi (by decide), fun h9 e9 => ?_⟩
    rw [hc, putE_s _ _ _ (by decide) (by decide)] at e9
    subst e9
    exact q
  have t106 : ∀ v : Int32, v = tvC i F (tvB i F (tvA i F)) → Ev w (am_Z w) mX10_tests (d + 1) 106 [(0, .ref m), (1, .int (nI i)), (2, .int v)] [] (putE h m F) Q := by
    intro v hv
    rw [← hv] at t136
    unfold tvD at t136
    refine bX10_tests_106 ⟨M.1, M.in 15 rfl rfl hi (by decide), fun c => ⟨M.in 14 rfl rfl hi (by decide), fun c2 => ⟨fun c3 => t136 _ ?_, fun c3 => t136 _ ?_⟩, fun c2 => t136 _ ?_⟩, fun c => t136 _ ?_⟩ <;> (first | rw [hc, putE_i _ _ _ (by decide) (by decide)] at c) <;> (try rw [hc, putE_i _ _ _ (by decide) (by decide)] at c2) <;> simp_all
  have t76 : ∀ v : Int32, v = tvB i F (tvA i F) → Ev w (am_Z w) mX10_tests (d + 1) 76 [(0, .ref m), (1, .int (nI i)), (2, .int v)] [] (putE h m F) Q := by
    intro v hv
    rw [← hv] at t106
    unfold tvC at t106
    refine bX10_tests_76 ⟨M.1, M.in 15 rfl rfl hi (by decide), fun c => ⟨M.in 14 rfl rfl hi (by decide), fun c2 => t106 _ ?_, fun c2 => ⟨fun c3 => t106 _ ?_, fun c3 => t106 _ ?_⟩⟩, fun c => t106 _ ?_⟩ <;> (first | rw [hc, putE_i _ _ _ (by decide) (by decide)] at c) <;> (try rw [hc, putE_i _ _ _ (by decide) (by decide)] at c2) <;> simp_all
  have t44 : ∀ v : Int32, v = tvA i F → Ev w (am_Z w) mX10_tests (d + 1) 44 [(0, .ref m), (1, .int (nI i)), (2, .int v)] [] (putE h m F) Q := by
    intro v hv
    rw [← hv] at t76
    unfold tvB at t76
    refine bX10_tests_44 ⟨M.1, M.in 17 rfl rfl hi (by decide), fun c => ⟨M.in 16 rfl rfl hi (by decide), M.in 18 rfl rfl hi (by decide), fun c2 => t76 _ ?_, fun c2 => t76 _ ?_⟩, fun c => t76 _ ?_⟩ <;> (first | rw [hc, putE_i _ _ _ (by decide) (by decide)] at c) <;> (try rw [hc, putE_i _ _ _ (by decide) (by decide), putE_i _ _ _ (by decide) (by decide)] at c2) <;> simp_all
  unfold tvA at t44
  refine ⟨fun c => ⟨M.in 16 rfl rfl hi (by decide), M.in 18 rfl rfl hi (by decide), fun c2 => t44 _ ?_, fun c2 => t44 _ ?_⟩, fun c => t44 _ ?_⟩
  · rw [hc, putE_i _ _ _ (by decide) (by decide)] at c
    rw [hc, putE_i _ _ _ (by decide) (by decide), putE_i _ _ _ (by decide) (by decide)] at c2
    rw [if_pos c, if_pos c2]
  · rw [hc, putE_i _ _ _ (by decide) (by decide)] at c
    rw [hc, putE_i _ _ _ (by decide) (by decide), putE_i _ _ _ (by decide) (by decide)] at c2
    rw [if_pos c, if_neg c2]
  · rw [hc, putE_i _ _ _ (by decide) (by decide)] at c ⊢
    rw [if_neg c]
end RWORK
