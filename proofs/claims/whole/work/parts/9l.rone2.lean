/-! The reference's lines of one number. -/
section RONE2
variable {w : am_W} {d : Nat} {h : am_H} {Q : Option Value → am_H → Prop} {m n i : Nat} {s : Nat → Int32}
theorem loJ_nn (j : Nat) : ¬ loJ j < 0 := by
  unfold loJ
  split
  · decide
  · split
    · decide
    · split <;> decide
set_option maxHeartbeats 1000000 in
theorem c_readsOneR {j tb : Nat} {t : rT} (T : TM m h s n i) (hj : j < 5) (hj3 : ¬ j = 3) (htb : tb < 32) (h22 : hI h m 22 = nI (ftb tb)) (R : RvN m h t)
    (q1 : xpt (tKD s n) (tPC s n) 59 (tolP (tKD s n) (tPC s n) (tNV s n) j tb (0, i)) = (0, i + 3) → ∀ h', FrO m h h' → TM m h' s n (i + 3) → hI h' m 22 = nI (ftb (tb ||| 2 ^ j)) → RvN m h' (tSet j (tNV s n (i + 1)) (tNV s n (i + 3)) t) → Q (some (.int 1)) h')
    (q0 : ∀ h', FrO m h h' → hI h' m 9 = (xpt (tKD s n) (tPC s n) 59 (tolP (tKD s n) (tPC s n) (tNV s n) j tb (0, i))).1 → ¬ (xpt (tKD s n) (tPC s n) 59 (tolP (tKD s n) (tPC s n) (tNV s n) j tb (0, i))).1 = 0 → Q (some (.int 0)) h') : EvM w mX10_readsOne (d + 3) [.ref m, .int (nI (whj j)), .int (loJ j), .int (hiJ j)] h Q := by
  obtain ⟨b1, b2⟩ := ftb_bit htb hj
  have B := BgO.of (s := s) T.2.2.1 i
  have hw : whj j ≤ 5 := by unfold whj; split <;> omega
  have e10 : (10 : Int32) + nI (whj j) = nI (10 + whj j) := by rw [show (10 : Int32) = nI 10 by decide, nI_add]
  have dn : ∀ S : P2, ¬ S.1 = 0 → xpt (tKD s n) (tPC s n) 59 S = S := fun S a => by rw [xpt, if_neg a]
  have es : stp ((0, i) : P2) = (0, i + 1) := rfl
  refine bX10_readsOne_0 ⟨T.1.1, ?_⟩
  rw [h22, b1, b2]
  refine ⟨fun c => c_failsR T (fun h' F e => ⟨_, rfl, nar0, ?_⟩), fun c h6 e6 => ?_⟩
  · have et : tolP (tKD s n) (tPC s n) (tNV s n) j tb (0, i) = (3 + 16 * tPC s n i, i) := by rw [tolP, if_pos c]; rfl
    have ne : ¬ (3 : Int32) + 16 * tPC s n i = 0 := flt_no B 3 (by decide) (by decide) (Nat.le_refl _)
    rw [et, dn _ ne] at q0
    exact q0 h' F.o e ne
  have et : tolP (tKD s n) (tPC s n) (tNV s n) j tb (0, i) = num (tKD s n) (tPC s n) (tNV s n) (loJ j) (hiJ j) (0, i + 1) := by rw [tolP, if_neg c, if_neg hj3, es]
  rw [et] at q0 q1
  have T6 : TM m h6 s n i := by rw [e6]; exact T.fld (by decide)
  have F6 : FrO m h h6 := by rw [e6]; exact FrO.t
  refine c_nextT T6 (fun h7 F7 T7 => ⟨rfl, T7.1.1, c_needsNumberR T7 (fun en h8 F8 T8 g8 v1 v2 => ⟨_, rfl, fun z => absurd z (by decide), fun _ => ⟨T8.1.1, ?_⟩⟩) (fun h8 F8 e9 ne => ⟨_, rfl, fun _ => ?_, fun z => absurd rfl z⟩)⟩)
  · rw [e10, nI_clamp (by omega), g8]
    refine ⟨T8.1.in 1 rfl rfl (by omega) (by decide), fun h9 e9 => ?_⟩
    have T9 : TM m h9 s n (i + 2) := by rw [e9]; exact T8.row
    have F9 : FrO m h h9 := ((F6.tr F7.r.o).tr F8.o).tr (by rw [e9]; exact FrO.v (by omega))
    rw [en] at q0 q1
    have hv : ¬ tNV s n (i + 1) < 0 := fun y => v1 (Int32.lt_of_lt_of_le y (Int32.not_lt.mp (loJ_nn j)))
    have r8 : hI h8 (m + 2) = hI h (m + 2) := by
      rw [(F8.2.2.2.2.2.1 (m + 2) (by omega)).1, (F7.2.2.2.2.2.1 (m + 2) (by omega)).1, e6, sI_r, hI_rn _ _ (by omega)]
    refine c_endsR T9 (fun ex h10 F10 T10 => ⟨_, rfl, by decide, q1 ex h10 (F9.tr F10.o) T10 ?_ ?_⟩) (fun h10 F10 e10 ne => ⟨_, rfl, nar0, q0 h10 (F9.tr F10.o) e10 ne⟩)
    · rw [F10.2.2.2.2.2.2 22 (by decide) (by decide) (by decide) (by decide) (by decide) (by decide), e9, sI_r, hI_rn _ _ (by omega), F8.2.2.2.2.2.2 22 (by decide) (by decide) (by decide) (by decide) (by decide) (by decide), F7.2.2.2.2.2.2 22 (by decide) (by decide) (by decide) (by decide), e6, sI_f, if_pos rfl]
    · have r10 : ∀ k, hI h10 (m + 2) k = if k = 10 + whj j then tNV s n (i + 1) else hI h (m + 2) k := fun k => by
        rw [(F10.2.2.2.2.2.1 (m + 2) (by omega)).1, e9, sI_f, r8]
      obtain ⟨a0, a1, a2, a3, a4, a5, a6, a7, a8, a9⟩ := R
      have cv := clampN hv
      have hjj : j = 0 ∨ j = 1 ∨ j = 2 ∨ j = 4 := by omega
      unfold RvN
      rw [r10, r10, r10, r10, r10, r10, r10, r10, r10, r10]
      rcases hjj with e | e | e | e <;> subst e
      · exact ⟨cv.symm, a1, a2, a3, a4, a5, a6, a7, a8, a9⟩
      · exact ⟨a0, cv.symm, a2, a3, a4, a5, a6, a7, a8, a9⟩
      · exact ⟨a0, a1, cv.symm, a3, a4, a5, a6, a7, a8, a9⟩
      · exact ⟨a0, a1, a2, a3, a4, cv.symm, a6, a7, a8, a9⟩
  · rw [dn _ ne] at q0
    exact q0 h8 ((F6.tr F7.r.o).tr F8.o) e9 ne
end RONE2
