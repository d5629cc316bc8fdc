/-! The reference's line of a person: its tail. -/
section RPERS2
variable {w : am_W} {d : Nat} {h : am_H} {Q : Option Value → am_H → Prop} {m n i : Nat} {s : Nat → Int32}
theorem c_pers277 {p : Nat} {x3 : Int32} (T : TM m h s n i) (hp : p < 16)
    (q1 : xpt (tKD s n) (tPC s n) 59 (0, i + 1) = (0, i + 2) → ∀ h', FrQ m h h' → TM m h' s n (i + 2) → hI h' (m + 11) = va_up (hI h (m + 11)) (16 + p) x3 → hI h' (m + 2) = va_up (hI h (m + 2)) 17 (hI h (m + 2) 17 + 1) → (∀ o, 7 ≤ o → o ≤ 10 → hI h' (m + o) = hI h (m + o)) → hJ h' (m + 6) = hJ h (m + 6) → Q (some (.int 1)) h')
    (q0 : ∀ h', FrQ m h h' → hI h' m 9 = (xpt (tKD s n) (tPC s n) 59 (0, i + 1)).1 → ¬ (xpt (tKD s n) (tPC s n) 59 (0, i + 1)).1 = 0 → Q (some (.int 0)) h') : Ev w (am_Z w) mX10_readsPerson (d + 2 + 1) 277 [(0, .ref m), (1, .int (nI p)), (3, .int x3)] [] h Q := by
  have e16 : (16 : Int32) + nI p = nI (16 + p) := by rw [show (16 : Int32) = nI 16 by decide, nI_add]
  have c17 : Int32.toNatClampNeg 17 = 17 := by decide
  refine bX10_readsPerson_277 ⟨T.1.1, ?_⟩
  rw [e16, nI_clamp (by omega), c17]
  refine ⟨T.1.in 10 rfl rfl (by omega) (by decide), fun h3 e3 => ?_⟩
  have T3 : TM m h3 s n i := by rw [e3]; exact T.rowO (by decide)
  have F3 : FrQ m h h3 := by rw [e3]; exact FrQ.row (by decide) (by omega)
  refine ⟨T3.1.in 1 rfl (show (17 : Int32) = nI 17 by decide) (by decide) (by decide), T3.1.in 1 rfl (show (17 : Int32) = nI 17 by decide) (by decide) (by decide), fun h6 e6 => ?_⟩
  have T6 : TM m h6 s n i := by rw [e6]; exact T3.row
  have F6 : FrQ m h h6 := F3.tr (by rw [e6]; exact FrQ.cnt)
  refine c_nextT T6 (fun h7 F7 T7 => ⟨rfl, T7.1.1, c_endsR T7 (fun ex h8 F8 T8 => ⟨_, rfl, by decide, q1 ex h8 ((F6.tr F7.r.q).tr F8.q) T8 ?_ ?_ (fun o o1 o2 => ?_) ?_⟩) (fun h8 F8 e8 ne => ⟨_, rfl, nar0, q0 h8 ((F6.tr F7.r.q).tr F8.q) e8 ne⟩)⟩)
  · rw [(F8.2.2.2.2.2.1 (m + 11) (by omega)).1, (F7.2.2.2.2.2.1 (m + 11) (by omega)).1, e6, sI_r, hI_rn _ _ (by omega), e3, sI_r, hI_rs]
  · rw [(F8.2.2.2.2.2.1 (m + 2) (by omega)).1, (F7.2.2.2.2.2.1 (m + 2) (by omega)).1, e6, sI_r, hI_rs, e3, sI_r, hI_rn _ _ (by omega)]
  · rw [(F8.2.2.2.2.2.1 (m + o) (by omega)).1, (F7.2.2.2.2.2.1 (m + o) (by omega)).1, e6, sI_r, hI_rn _ _ (by omega), e3, sI_r, hI_rn _ _ (by omega)]
  · rw [(F8.2.2.2.2.2.1 (m + 6) (by omega)).2, (F7.2.2.2.2.2.1 (m + 6) (by omega)).2, e6, e3]
    rfl
end RPERS2
