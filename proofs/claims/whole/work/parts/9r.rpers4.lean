/-! The reference's line of a person, from its side on. -/
def psT (kd pc nv : Nat → Int32) (ch : Nat) (S : P2) : P2 := xpt kd pc 59 (kwd kd pc ch (num kd pc nv 0 99 (xpt kd pc 74 (num kd pc nv 0 999 (xpt kd pc 73 (num kd pc nv 0 1439 (xpt kd pc 72 S)))))))
theorem xpt_d {kd pc : Nat → Int32} {k : Int32} {S : P2} (a : ¬ S.1 = 0) : xpt kd pc k S = S := by rw [xpt, if_neg a]
theorem kwd_d {kd pc : Nat → Int32} {ch : Nat} {S : P2} (a : ¬ S.1 = 0) : kwd kd pc ch S = S := by rw [kwd, if_neg a]
section RPERS4
variable {w : am_W} {d : Nat} {h : am_H} {Q : Option Value → am_H → Prop} {m n i : Nat} {s : Nat → Int32}
set_option maxHeartbeats 1000000 in
theorem c_pers129 {p ch : Nat} {s0 : Int32} (T : TM m h s n i) (hp : p < 16) (hc : hI h (m + 2) 17 = nI p) (hch : ch = chs (fun q => hI h (m + 11) (16 + q)) p) (hc8 : ch ≤ 8)
    (q1 : psT (tKD s n) (tPC s n) (tNV s n) ch (0, i + 1) = (0, i + 9) → ∀ h', FrQ m h h' → TM m h' s n (i + 9) → hI h' (m + 7) = va_up (hI h (m + 7)) (16 + p) s0 → hI h' (m + 8) = va_up (hI h (m + 8)) (16 + p) (tNV s n (i + 2)) → hI h' (m + 9) = va_up (hI h (m + 9)) (16 + p) (tNV s n (i + 4)) → hI h' (m + 10) = va_up (hI h (m + 10)) (16 + p) (tNV s n (i + 6)) → hI h' (m + 11) = va_up (hI h (m + 11)) (16 + p) (kdA (tKD s n (i + 7))) → hI h' (m + 2) = va_up (hI h (m + 2)) 17 (nI (p + 1)) → hJ h' (m + 6) = hJ h (m + 6) → Q (some (.int 1)) h')
    (q0 : ∀ h', FrQ m h h' → hI h' m 9 = (psT (tKD s n) (tPC s n) (tNV s n) ch (0, i + 1)).1 → ¬ (psT (tKD s n) (tPC s n) (tNV s n) ch (0, i + 1)).1 = 0 → Q (some (.int 0)) h') : Ev w (am_Z w) mX10_readsPerson (d + 2 + 1) 129 [(0, .ref m), (1, .int (nI p))] [.int s0, .int (16 + nI p), .ref (m + 7)] h Q := by
  have e16 : (16 : Int32) + nI p = nI (16 + p) := by rw [show (16 : Int32) = nI 16 by decide, nI_add]
  have rr : ∀ {ha hb : am_H}, FrR m ha hb → ∀ o, 0 < o → hI hb (m + o) = hI ha (m + o) := fun F o ho => (F.2.2.2.2.2.1 (m + o) (by omega)).1
  have rj : ∀ {ha hb : am_H}, FrR m ha hb → hJ hb (m + 6) = hJ ha (m + 6) := fun F => (F.2.2.2.2.2.1 (m + 6) (by omega)).2
  unfold psT at q0 q1
  rw [e16]
  refine bX10_readsPerson_129 ⟨T.1.1.s 6 rfl, T.1.in 6 rfl rfl (by omega) (by decide), fun h3 e3 => ?_⟩
  rw [nI_clamp (by omega)] at e3
  have T3 : TM m h3 s n i := by rw [e3]; exact T.rowO (by decide)
  have F3 : FrQ m h h3 := by rw [e3]; exact FrQ.row (by decide) (by omega)
  refine ⟨T3.1.1, c_nextT T3 (fun h5 F5 T5 => ⟨rfl, T5.1.1, ?_⟩)⟩
  have G5 := F3.tr F5.r.q
  refine c_needsWordR (k := 8) T5 (by decide) rfl (fun x1 h8 F8 T8 _ => ⟨_, rfl, fun z => absurd z (by decide), fun _ => ⟨T8.1.1, ?_⟩⟩) (fun h8 F8 e8 ne => ⟨_, rfl, fun _ => ?_, fun z => absurd rfl z⟩)
  rotate_left
  · have ne : ¬ (xpt (tKD s n) (tPC s n) 72 (0, i + 1)).1 = 0 := ne
    rw [num_d ne, xpt_d ne, num_d ne, xpt_d ne, num_d ne, kwd_d ne, xpt_d ne] at q0
    exact q0 h8 (G5.tr F8.q) e8 ne
  have x1 : xpt (tKD s n) (tPC s n) 72 (0, i + 1) = (0, i + 2) := x1
  rw [x1] at q0 q1
  have G8 := G5.tr F8.q
  refine c_needsNumberR T8 (fun x2 h12 F12 T12 g12 _ _ => ⟨_, rfl, fun z => absurd z (by decide), fun _ => ⟨T12.1.1, ?_⟩⟩) (fun h12 F12 e12 ne => ⟨_, rfl, fun _ => ?_, fun z => absurd rfl z⟩)
  rotate_left
  · rw [xpt_d ne, num_d ne, xpt_d ne, num_d ne, kwd_d ne, xpt_d ne] at q0
    exact q0 h12 (G8.tr F12.q) e12 ne
  rw [x2] at q0 q1
  have G12 := G8.tr F12.q
  rw [e16, nI_clamp (by omega), g12]
  refine ⟨T12.1.in 7 rfl rfl (by omega) (by decide), fun h17 e17 => ?_⟩
  have T17 : TM m h17 s n (i + 3) := by rw [e17]; exact T12.rowO (by decide)
  have G17 := G12.tr (show FrQ m h12 h17 by rw [e17]; exact FrQ.row (by decide) (by omega))
  refine c_needsWordR (k := 9) T17 (by decide) rfl (fun x3 h18 F18 T18 _ => ⟨_, rfl, fun z => absurd z (by decide), fun _ => ⟨T18.1.1, ?_⟩⟩) (fun h18 F18 e18 ne => ⟨_, rfl, fun _ => ?_, fun z => absurd rfl z⟩)
  rotate_left
  · have ne : ¬ (xpt (tKD s n) (tPC s n) 73 (0, i + 3)).1 = 0 := ne
    rw [num_d ne, xpt_d ne, num_d ne, kwd_d ne, xpt_d ne] at q0
    exact q0 h18 (G17.tr F18.q) e18 ne
  have x3 : xpt (tKD s n) (tPC s n) 73 (0, i + 1 + 1 + 1) = (0, i + 4) := x3
  rw [x3] at q0 q1
  have G18 := G17.tr F18.q
  refine c_needsNumberR T18 (fun x4 h22 F22 T22 g22 _ _ => ⟨_, rfl, fun z => absurd z (by decide), fun _ => ⟨T22.1.1, ?_⟩⟩) (fun h22 F22 e22 ne => ⟨_, rfl, fun _ => ?_, fun z => absurd rfl z⟩)
  rotate_left
  · rw [xpt_d ne, num_d ne, kwd_d ne, xpt_d ne] at q0
    exact q0 h22 (G18.tr F22.q) e22 ne
  rw [x4] at q0 q1
  have G22 := G18.tr F22.q
  rw [g22]
  refine ⟨T22.1.in 8 rfl rfl (by omega) (by decide), fun h27 e27 => ?_⟩
  have T27 : TM m h27 s n (i + 5) := by rw [e27]; exact T22.rowO (by decide)
  have G27 := G22.tr (show FrQ m h22 h27 by rw [e27]; exact FrQ.row (by decide) (by omega))
  refine c_needsWordR (k := 10) T27 (by decide) rfl (fun x5 h28 F28 T28 _ => ⟨_, rfl, fun z => absurd z (by decide), fun _ => ⟨T28.1.1, ?_⟩⟩) (fun h28 F28 e28 ne => ⟨_, rfl, fun _ => ?_, fun z => absurd rfl z⟩)
  rotate_left
  · have ne : ¬ (xpt (tKD s n) (tPC s n) 74 (0, i + 5)).1 = 0 := ne
    rw [num_d ne, kwd_d ne, xpt_d ne] at q0
    exact q0 h28 (G27.tr F28.q) e28 ne
  have x5 : xpt (tKD s n) (tPC s n) 74 (0, i + 4 + 1) = (0, i + 6) := x5
  rw [x5] at q0 q1
  have G28 := G27.tr F28.q
  refine c_needsNumberR T28 (fun x6 h32 F32 T32 g32 _ _ => ⟨_, rfl, fun z => absurd z (by decide), fun _ => ⟨T32.1.1, ?_⟩⟩) (fun h32 F32 e32 ne => ⟨_, rfl, fun _ => ?_, fun z => absurd rfl z⟩)
  rotate_left
  · rw [kwd_d ne, xpt_d ne] at q0
    exact q0 h32 (G28.tr F32.q) e32 ne
  rw [x6] at q0 q1
  have G32 := G28.tr F32.q
  rw [g32]
  refine ⟨T32.1.in 9 rfl rfl (by omega) (by decide), fun h37 e37 => ?_⟩
  have T37 : TM m h37 s n (i + 7) := by rw [e37]; exact T32.rowO (by decide)
  have G37 := G32.tr (show FrQ m h32 h37 by rw [e37]; exact FrQ.row (by decide) (by omega))
  have st : ∀ o, 0 < o → ¬ o = 7 → ¬ o = 8 → ¬ o = 9 → ¬ o = 10 → hI h37 (m + o) = hI h (m + o) := fun o o0 o7 o8 o9 o10 => by
    rw [e37, sI_r, hI_rn _ _ (by omega), rr F32 o o0, rr F28 o o0, e27, sI_r, hI_rn _ _ (by omega), rr F22 o o0, rr F18 o o0, e17, sI_r, hI_rn _ _ (by omega), rr F12 o o0, rr F8 o o0, rr F5.r o o0, e3, sI_r, hI_rn _ _ (by omega)]
  refine c_persKind T37 hp (by rw [st 2 (by decide) (by decide) (by decide) (by decide) (by decide)]; exact hc) (by rw [st 11 (by decide) (by decide) (by decide) (by decide) (by decide)]; exact hch) hc8 (fun ex h' F' T' r11 r2 ro rj' => q1 ex h' (G37.tr F') T' ?_ ?_ ?_ ?_ ?_ ?_ ?_) (fun h' F' e' ne => q0 h' (G37.tr F') e' ne)
  · rw [ro 7 (by decide) (by decide), e37, sI_r, hI_rn _ _ (by omega), rr F32 7 (by decide), rr F28 7 (by decide), e27, sI_r, hI_rn _ _ (by omega), rr F22 7 (by decide), rr F18 7 (by decide), e17, sI_r, hI_rn _ _ (by omega), rr F12 7 (by decide), rr F8 7 (by decide), rr F5.r 7 (by decide), e3, sI_r, hI_rs]
  · rw [ro 8 (by decide) (by decide), e37, sI_r, hI_rn _ _ (by omega), rr F32 8 (by decide), rr F28 8 (by decide), e27, sI_r, hI_rn _ _ (by omega), rr F22 8 (by decide), rr F18 8 (by decide), e17, sI_r, hI_rs, rr F12 8 (by decide), rr F8 8 (by decide), rr F5.r 8 (by decide), e3, sI_r, hI_rn _ _ (by omega)]
  · rw [ro 9 (by decide) (by decide), e37, sI_r, hI_rn _ _ (by omega), rr F32 9 (by decide), rr F28 9 (by decide), e27, sI_r, hI_rs, rr F22 9 (by decide), rr F18 9 (by decide), e17, sI_r, hI_rn _ _ (by omega), rr F12 9 (by decide), rr F8 9 (by decide), rr F5.r 9 (by decide), e3, sI_r, hI_rn _ _ (by omega)]
  · rw [ro 10 (by decide) (by decide), e37, sI_r, hI_rs, rr F32 10 (by decide), rr F28 10 (by decide), e27, sI_r, hI_rn _ _ (by omega), rr F22 10 (by decide), rr F18 10 (by decide), e17, sI_r, hI_rn _ _ (by omega), rr F12 10 (by decide), rr F8 10 (by decide), rr F5.r 10 (by decide), e3, sI_r, hI_rn _ _ (by omega)]
  · rw [r11, st 11 (by decide) (by decide) (by decide) (by decide) (by decide)]
  · rw [r2, st 2 (by decide) (by decide) (by decide) (by decide) (by decide)]
  · rw [rj', e37, show hJ (sI h32 (m + 10) (16 + p) (tNV s n (i + 6))) (m + 6) = hJ h32 (m + 6) from rfl, rj F32, rj F28, e27, show hJ (sI h22 (m + 9) (16 + p) (tNV s n (i + 4))) (m + 6) = hJ h22 (m + 6) from rfl, rj F22, rj F18, e17, show hJ (sI h12 (m + 8) (16 + p) (tNV s n (i + 2))) (m + 6) = hJ h12 (m + 6) from rfl, rj F12, rj F8, rj F5.r, e3]
    rfl
end RPERS4
