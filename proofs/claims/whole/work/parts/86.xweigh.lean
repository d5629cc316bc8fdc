/-! The class's choices weighed. -/
section XWEIGH
variable {w : am_W} {d : Nat} {h h1 : am_H} {Q : Option Value → am_H → Prop} {x y : Nat} {A : rA} {r : rV}
theorem c_findCheapest (L1 : am_L 1 (x + 57) h) (n58 : hN h (x + 58) = 256) (h8 : ncs r ≤ 8) (T : ∀ c, c < 2 ^ ncs r → hI h (x + 58) c = ccost r c) (q : ∀ h', FrA (fun a => a = x + 57) h h' → hI h' (x + 57) = va_up (hI h (x + 57)) 4 (nI (bstL r (2 ^ ncs r))) → Q none h') : EvM w mX1_findCheapest (d + 1) [.ref (x + 57), .int (nI (2 ^ ncs r))] h Q := by
  have p8 := p2_8 h8
  have p0 : 0 < 2 ^ ncs r := Nat.pow_pos (by decide)
  have k58 : hK h (x + 57 + 1) = 12 := L1.s 0 rfl
  have n58' : hN h (x + 57 + 1) = 256 := n58
  have bst1 : bstL r 1 = 0 := by
    rw [bstL, bstL, if_pos (Int32.le_refl _)]
  have loop : ∀ k c, c + k = 2 ^ ncs r → 1 ≤ c → ∀ hc, FrA (fun a => a = x + 57) h hc → hI hc (x + 57) = va_up (hI h (x + 57)) 4 (nI (bstL r c)) → Ev w (am_Z w) mX1_findCheapest (d + 1) 7 [(0, .ref (x + 57)), (1, .int (nI (2 ^ ncs r))), (2, .int (nI c))] [] hc Q := by
    intro k
    induction k with
    | zero =>
      intro c hc' h1 hc F E
      have hc' : c = 2 ^ ncs r := by omega
      subst hc'
      exact bX1_findCheapest_7 ⟨fun _ => q hc F E, fun cc => absurd (Int32.le_refl _) cc⟩
    | succ k ih =>
      intro c hc' h1 hc F E
      have ih := ih (c + 1) (by omega) (by omega)
      rw [bstL] at ih
      have bl := bstL_lt r (c := c) (by omega)
      have x58 : hI hc (x + 57 + 1) = hI h (x + 57 + 1) := F.I (by omega)
      have T' : ∀ c, c < 2 ^ ncs r → hI h (x + 57 + 1) c = ccost r c := T
      refine bX1_findCheapest_7 ⟨fun cc => absurd cc (by rw [nI_leI (by omega) (by omega)]; omega), fun _ => ⟨F.L L1, c_get (by rw [F.K]; exact k58) (by rw [F.N]; omega) ⟨_, rfl, F.L L1, c_get (by rw [F.K]; exact k58) (by rw [F.N]; omega) ⟨_, rfl, ?_⟩⟩⟩⟩
      rw [F.N, n58', x58, E, va_up_self, gv_nI (by omega) (by decide), gv_nI (by omega) (by decide), T' c (by omega), T' _ (by omega), nI_1]
      refine ⟨fun cc => ?_, fun cc => ⟨F.L L1, fun h10 e10 => ?_⟩⟩
      · rw [if_pos cc] at ih
        exact ih hc F E
      · rw [if_neg cc] at ih
        refine ih h10 (by rw [e10]; exact F.fld rfl) ?_
        rw [e10, sI_r, hI_rs, E, va_up_up]
  refine bX1_findCheapest_0 ⟨L1, fun h2 e2 => ?_⟩
  exact loop (2 ^ ncs r - 1) 1 (by omega) (by decide) h2 (by rw [e2]; exact FrA.rf.fld rfl) (by rw [e2, sI_r, hI_rs, bst1]; rfl)
theorem rstL_s (c k : Nat) : rstL r c (k + 1) = (rstL r c k && decide (ownK r c k ≤ ownK r (c ^^^ 2 ^ k) k)) := rfl
theorem rstL_f {c : Nat} : ∀ {k j : Nat}, j ≤ k → rstL r c j = false → rstL r c k = false := by
  intro k
  induction k with
  | zero => intro j hj h; have : j = 0 := by omega
            rw [this] at h; exact h
  | succ k ih =>
    intro j hj h
    by_cases e : j = k + 1
    · rw [e] at h; exact h
    · rw [rstL_s, ih (by omega) h]; rfl
theorem xor_lt {c k n : Nat} (hc : c < 2 ^ n) (hk : k < n) : c ^^^ 2 ^ k < 2 ^ n := Nat.xor_lt_two_pow hc (Nat.pow_lt_pow_right (by decide) hk)
theorem c_isAtRest {c : Nat} (L1 : am_L 1 (x + 57) h) (n59 : hN h (x + 59) = 2048) (h8 : ncs r ≤ 8) (hc : c < 2 ^ ncs r) (T : ∀ c', c' < 2 ^ ncs r → ∀ k, k < ncs r → hI h (x + 59) (8 * c' + k) = ownK r c' k) (q : Q (some (.int (if isR r c then 1 else 0))) h) : EvM w mX1_isAtRest (d + 1) [.ref (x + 57), .int (nI c), .int (nI (ncs r))] h Q := by
  have p8 := p2_8 h8
  have k59 : hK h (x + 57 + 2) = 12 := L1.s 1 rfl
  have n59' : hN h (x + 57 + 2) = 2048 := n59
  have T' : ∀ c', c' < 2 ^ ncs r → ∀ k, k < ncs r → hI h (x + 57 + 2) (8 * c' + k) = ownK r c' k := T
  unfold isR at q
  have loop : ∀ k i, i + k = ncs r → rstL r c i = true → Ev w (am_Z w) mX1_isAtRest (d + 1) 2 [(0, .ref (x + 57)), (1, .int (nI c)), (2, .int (nI (ncs r))), (3, .int (nI i))] [] h Q := by
    intro k
    induction k with
    | zero =>
      intro i hi E
      have hi : i = ncs r := by omega
      subst hi
      rw [E] at q
      exact bX1_isAtRest_2 ⟨fun _ => q, fun cc => absurd (Int32.le_refl _) cc⟩
    | succ k ih =>
      intro i hi E
      have xl := xor_lt (k := i) hc (by omega)
      have e1 : (nI c ^^^ (1 : Int32) <<< (nI i &&& 31)) * 8 + nI i = nI (8 * (c ^^^ 2 ^ i) + i) := by
        rw [sh1 i (by omega), nI_xor, show (8 : Int32) = nI 8 by decide, pk_mul, nI_add]
        congr 1
        omega
      have e2 : nI c * 8 + nI i = nI (8 * c + i) := by
        rw [show (8 : Int32) = nI 8 by decide, pk_mul, nI_add]
        congr 1
        omega
      refine bX1_isAtRest_2 ⟨fun cc => absurd cc (by rw [nI_leI (by omega) (by omega)]; omega), fun _ => ⟨L1, c_get k59 (by omega) ⟨_, rfl, L1, c_get k59 (by omega) ⟨_, rfl, ?_⟩⟩⟩⟩
      rw [e1, e2, n59', gv_nI (by omega) (by decide), gv_nI (by omega) (by decide), T' _ xl i (by omega), T' c hc i (by omega), nI_1]
      refine ⟨fun cc => ih (i + 1) (by omega) ?_, fun cc => ?_⟩
      · rw [rstL_s, E, decide_eq_true cc]; rfl
      · have f : rstL r c (ncs r) = false := rstL_f (j := i + 1) (by omega) (by rw [rstL_s, E, decide_eq_false cc]; rfl)
        rw [f] at q
        exact q
  exact bX1_isAtRest_0 (loop _ 0 (Nat.zero_add _) rfl)
theorem c_findResting (L1 : am_L 1 (x + 57) h) (n59 : hN h (x + 59) = 2048) (n60 : hN h (x + 60) = 256) (h8 : ncs r ≤ 8) (T : ∀ c', c' < 2 ^ ncs r → ∀ k, k < ncs r → hI h (x + 59) (8 * c' + k) = ownK r c' k)
    (q : ∀ h', FrA (fun a => a = x + 57 ∨ a = x + 60) h h' → hI h' (x + 57) = va_up (hI h (x + 57)) 5 (nI (rssL r (2 ^ ncs r))) → (∀ c, c < 2 ^ ncs r → isR r c = true → hI h' (x + 60) (rssL r c) = nI c) → Q none h') : EvM w mX1_findResting (d + 2) [.ref (x + 57), .int (nI (2 ^ ncs r)), .int (nI (ncs r))] h Q := by
  have p8 := p2_8 h8
  have k60 : hK h (x + 57 + 3) = 12 := L1.s 2 rfl
  have n60' : hN h (x + 57 + 3) = 256 := n60
  have mono : ∀ c, rssL r c ≤ rssL r (c + 1) := fun c => by rw [rssL]; omega
  have loop : ∀ k c, c + k = 2 ^ ncs r → ∀ hc, FrA (fun a => a = x + 57 ∨ a = x + 60) h hc → hI hc (x + 57) = va_up (hI h (x + 57)) 5 (nI (rssL r c)) → (∀ c', c' < c → isR r c' = true → hI hc (x + 60) (rssL r c') = nI c' ∧ rssL r c' < rssL r c) → Ev w (am_Z w) mX1_findResting (d + 1 + 1) 7 [(0, .ref (x + 57)), (1, .int (nI (2 ^ ncs r))), (2, .int (nI (ncs r))), (3, .int (nI c))] [] hc Q := by
    intro k
    induction k with
    | zero =>
      intro c hc' hc F E U
      have hc' : c = 2 ^ ncs r := by omega
      subst hc'
      exact bX1_findResting_7 ⟨fun _ => q hc F E (fun c h1 h2 => (U c h1 h2).1), fun cc => absurd (Int32.le_refl _) cc⟩
    | succ k ih =>
      intro c hc' hc F E U
      have ih := ih (c + 1) (by omega)
      have rl := rssL_le r c
      refine bX1_findResting_7 ⟨fun cc => absurd cc (by rw [nI_leI (by omega) (by omega)]; omega), fun _ => ⟨F.L L1, c_isAtRest (F.L L1) (by rw [F.N]; exact n59) h8 (by omega) (by rw [F.I (by omega)]; exact T) ⟨_, rfl, fun cc => ?_, fun cc => ⟨F.L L1, c_set (by rw [F.K]; exact k60) (by rw [F.N]; omega) ⟨rfl, FrA.L (Z := fun _ => True) (FrA.rf.row trivial) (F.L L1), fun h9 e9 => ?_⟩⟩⟩⟩⟩
      · have e : isR r c = false := by
          cases hh : isR r c with
          | false => rfl
          | true => rw [hh] at cc; exact absurd cc (by decide)
        have es : rssL r (c + 1) = rssL r c := by rw [rssL, e]; rfl
        rw [nI_1]
        refine ih hc F (by rw [es]; exact E) (fun c' h1 h2 => ?_)
        by_cases ec : c' = c
        · rw [ec, e] at h2; cases h2
        · rw [es]; exact U c' (by omega) h2
      · have e : isR r c = true := by
          cases hh : isR r c with
          | true => rfl
          | false => rw [hh] at cc; exact absurd rfl cc
        have es : rssL r (c + 1) = rssL r c + 1 := by rw [rssL, e]; rfl
        rw [F.N, n60', E, va_up_self, sv_nI (by omega) (by decide), hI_rn _ _ (show x + 57 ≠ x + 57 + 3 by omega), E, va_up_self, nI_1] at e9
        have i60 : hI h9 (x + 60) = va_up (hI hc (x + 60)) (rssL r c) (nI c) := by
          rw [e9, sI_r, hI_rn _ _ (by omega)]
          exact hI_rs hc (x + 57 + 3) _
        rw [nI_1]
        refine ih h9 (by rw [e9]; exact (F.row (Or.inr rfl)).fld (Or.inl rfl)) ?_ (fun c' h1 h2 => ?_)
        · rw [e9, sI_r, hI_rs, hI_rn _ _ (show x + 57 ≠ x + 57 + 3 by omega), E, va_up_up, es]
        · rw [i60, es]
          by_cases ec : c' = c
          · rw [ec, va_up_self]; exact ⟨rfl, by omega⟩
          · obtain ⟨u1, u2⟩ := U c' (by omega) h2
            rw [va_up_ne _ _ (by omega)]
            exact ⟨u1, by omega⟩
  refine bX1_findResting_0 ⟨L1, fun h2 e2 => ?_⟩
  exact loop (2 ^ ncs r) 0 (by omega) h2 (by rw [e2]; exact FrA.rf.fld (Or.inl rfl)) (by rw [e2, sI_r, hI_rs]; rfl) (fun c' h1 => absurd h1 (Nat.not_lt_zero _))
end XWEIGH
