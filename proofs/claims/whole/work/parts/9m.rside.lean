/-! The reference's line of sides. -/
theorem max2 {v : Int32} (h1 : ¬ v < 1) (h2 : v ≤ 8) : (if 2 < v + 1 then v + 1 else 2) = v + 1 := by
  obtain ⟨j, hj, rfl⟩ := nI_of (x := v) (fun z => h1 (Int32.lt_trans z (by decide)))
  rw [show (1 : Int32) = nI 1 by decide, nI_ltI hj (by decide)] at h1
  rw [show (8 : Int32) = nI 8 by decide, nI_leI hj (by decide)] at h2
  have : ∀ j : Fin 9, 1 ≤ j.1 → (if 2 < nI j.1 + 1 then nI j.1 + 1 else 2) = nI j.1 + 1 := by decide
  exact this ⟨j, by omega⟩ (by show 1 ≤ j; omega)
section RSIDE
variable {w : am_W} {d : Nat} {h : am_H} {Q : Option Value → am_H → Prop} {m n i : Nat} {s : Nat → Int32}
set_option maxHeartbeats 1000000 in
theorem c_readsSideR {tb : Nat} {t : rT} (T : TM m h s n i) (htb : tb < 32) (h22 : hI h m 22 = nI (ftb tb)) (R : RvN m h t)
    (q1 : xpt (tKD s n) (tPC s n) 59 (tolP (tKD s n) (tPC s n) (tNV s n) 3 tb (0, i)) = (0, i + 5) → ∀ h', FrO m h h' → TM m h' s n (i + 5) → hI h' m 22 = nI (ftb (tb ||| 2 ^ 3)) → RvN m h' (tSet 3 (tNV s n (i + 1)) (tNV s n (i + 3)) t) → Q (some (.int 1)) h')
    (q0 : ∀ h', FrO m h h' → hI h' m 9 = (xpt (tKD s n) (tPC s n) 59 (tolP (tKD s n) (tPC s n) (tNV s n) 3 tb (0, i))).1 → ¬ (xpt (tKD s n) (tPC s n) 59 (tolP (tKD s n) (tPC s n) (tNV s n) 3 tb (0, i))).1 = 0 → Q (some (.int 0)) h') : EvM w mX10_readsSide (d + 3) [.ref m] h Q := by
  obtain ⟨b1, b2⟩ := ftb_bit htb (show 3 < 5 by decide)
  have b1 : (nI (ftb tb) >>> ((3 : Int32) &&& 31)) &&& 1 = 1 ↔ tb.testBit 3 = true := b1
  have b2 : nI (ftb tb) ||| (8 : Int32) = nI (ftb (tb ||| 2 ^ 3)) := b2
  have B := BgO.of (s := s) T.2.2.1 i
  have dn : ∀ (k : Int32) (S : P2), ¬ S.1 = 0 → xpt (tKD s n) (tPC s n) k S = S := fun k S a => by rw [xpt, if_neg a]
  have es : stp ((0, i) : P2) = (0, i + 1) := rfl
  have c13 : Int32.toNatClampNeg 13 = 13 := by decide
  have c14 : Int32.toNatClampNeg 14 = 14 := by decide
  have tr1 : ∀ h1, hI h1 m 22 = hI h1 m 22 := fun _ => rfl
  have r22 : ∀ {ha hb : am_H}, FrR m ha hb → hI hb m 22 = hI ha m 22 := fun F => F.2.2.2.2.2.2 22 (by decide) (by decide) (by decide) (by decide) (by decide) (by decide)
  have rr : ∀ {ha hb : am_H}, FrR m ha hb → hI hb (m + 2) = hI ha (m + 2) := fun F => (F.2.2.2.2.2.1 (m + 2) (by omega)).1
  refine bX10_readsSide_0 ⟨T.1.1, ?_⟩
  rw [h22, b1, b2]
  refine ⟨fun c => c_failsR T (fun h' F e => ⟨_, rfl, nar0, ?_⟩), fun c h6 e6 => ?_⟩
  · have et : tolP (tKD s n) (tPC s n) (tNV s n) 3 tb (0, i) = (3 + 16 * tPC s n i, i) := by rw [tolP, if_pos c]; rfl
    have ne : ¬ (3 : Int32) + 16 * tPC s n i = 0 := flt_no B 3 (by decide) (by decide) (Nat.le_refl _)
    rw [et, dn 59 _ ne] at q0
    exact q0 h' F.o e ne
  have et : tolP (tKD s n) (tPC s n) (tNV s n) 3 tb (0, i) = num (tKD s n) (tPC s n) (tNV s n) (tNV s n (i + 1) + 1) 9 (xpt (tKD s n) (tPC s n) 71 (num (tKD s n) (tPC s n) (tNV s n) 1 8 (0, i + 1))) := by rw [tolP, if_neg c, if_pos rfl, sidP, es]
  rw [et] at q0 q1
  have T6 : TM m h6 s n i := by rw [e6]; exact T.fld (by decide)
  have F6 : FrO m h h6 := by rw [e6]; exact FrO.t
  refine c_nextT T6 (fun h7 F7 T7 => ⟨rfl, T7.1.1, c_needsNumberR T7 (fun en h8 F8 T8 g8 v1 v2 => ⟨_, rfl, fun z => absurd z (by decide), fun _ => ⟨T8.1.1, ?_⟩⟩) (fun h8 F8 e9 ne => ⟨_, rfl, fun _ => ?_, fun z => absurd rfl z⟩)⟩)
  · rw [en] at q0 q1
    rw [c13, g8]
    refine ⟨T8.1.in 1 rfl (show (13 : Int32) = nI 13 by decide) (by decide) (by decide), fun h9 e9 => ?_⟩
    have T9 : TM m h9 s n (i + 2) := by rw [e9]; exact T8.row
    have F9 : FrO m h h9 := ((F6.tr F7.r.o).tr F8.o).tr (by rw [e9]; exact FrO.v (by decide))
    refine c_needsWordR (k := 7) T9 (by decide) rfl (fun ex h10 F10 T10 _ => ⟨_, rfl, fun z => absurd z (by decide), fun _ => ⟨T10.1.1, ?_⟩⟩) (fun h10 F10 e10 ne => ⟨_, rfl, fun _ => ?_, fun z => absurd rfl z⟩)
    · have ex : xpt (tKD s n) (tPC s n) 71 (0, i + 2) = (0, i + 3) := ex
      rw [ex] at q0 q1
      have x13 : hI h10 (m + 2) 13 = tNV s n (i + 1) := by rw [rr F10, e9, sI_f, if_pos rfl]
      rw [x13, max2 v1 v2]
      refine ⟨T10.1.in 1 rfl (show (13 : Int32) = nI 13 by decide) (by decide) (by decide), c_needsNumberR T10 (fun en2 h11 F11 T11 g11 w1 w2 => ⟨_, rfl, fun z => absurd z (by decide), fun _ => ⟨T11.1.1, ?_⟩⟩) (fun h11 F11 e11 ne => ⟨_, rfl, fun _ => ?_, fun z => absurd rfl z⟩)⟩
      · rw [en2] at q0 q1
        rw [c14, g11]
        refine ⟨T11.1.in 1 rfl (show (14 : Int32) = nI 14 by decide) (by decide) (by decide), fun h12 e12 => ?_⟩
        have T12 : TM m h12 s n (i + 4) := by rw [e12]; exact T11.row
        have F12 : FrO m h h12 := ((F9.tr F10.o).tr F11.o).tr (by rw [e12]; exact FrO.v (by decide))
        have hv : ¬ tNV s n (i + 1) < 0 := fun y => v1 (Int32.lt_trans y (by decide))
        have hv2 : ¬ tNV s n (i + 3) < 0 := fun y => w1 (by
          obtain ⟨k, hk, e⟩ := nI_of hv
          rw [e, nI_1]
          refine Int32.lt_of_lt_of_le y (Int32.not_lt.mp (nI_pos ?_))
          rw [e, show (8 : Int32) = nI 8 by decide, nI_leI hk (by decide)] at v2
          omega)
        refine c_endsR T12 (fun ex2 h13 F13 T13 => ⟨_, rfl, by decide, q1 ex2 h13 (F12.tr F13.o) T13 ?_ ?_⟩) (fun h13 F13 e13 ne => ⟨_, rfl, nar0, q0 h13 (F12.tr F13.o) e13 ne⟩)
        · rw [r22 F13, e12, sI_r, hI_rn _ _ (by omega), r22 F11, r22 F10, e9, sI_r, hI_rn _ _ (by omega), r22 F8, r22 F7.r, e6, sI_f, if_pos rfl]
        · have r13 : ∀ k, hI h13 (m + 2) k = if k = 14 then tNV s n (i + 3) else if k = 13 then tNV s n (i + 1) else hI h (m + 2) k := fun k => by
            rw [rr F13, e12, sI_f, rr F11, rr F10, e9, sI_f, rr F8, rr F7.r, e6, sI_r, hI_rn _ _ (by omega)]
          obtain ⟨a0, a1, a2, a3, a4, a5, a6, a7, a8, a9⟩ := R
          unfold RvN
          rw [r13, r13, r13, r13, r13, r13, r13, r13, r13, r13]
          exact ⟨a0, a1, a2, (clampN hv).symm, (clampN hv2).symm, a5, a6, a7, a8, a9⟩
      · rw [dn 59 _ ne] at q0
        exact q0 h11 ((F9.tr F10.o).tr F11.o) e11 ne
    · have ne : ¬ (xpt (tKD s n) (tPC s n) 71 (0, i + 2)).1 = 0 := ne
      rw [num_d ne, dn 59 _ ne] at q0
      exact q0 h10 (F9.tr F10.o) e10 ne
  · rw [dn 71 _ ne, num_d ne, dn 59 _ ne] at q0
    exact q0 h8 ((F6.tr F7.r.o).tr F8.o) e9 ne
end RSIDE
