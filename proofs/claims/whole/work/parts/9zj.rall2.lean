/-! The reference's line of a law. -/
section RALL2
variable {w : am_W} {d : Nat} {h : am_H} {Q : Option Value → am_H → Prop} {m n i N K : Nat} {s : Nat → Int32} {D : LD} {ky : Nat → Int64}
theorem hB_of (hn : n ≤ 1000) : ∀ M, BgO M (tPC s n) (bgn s n) := fun M => BgO.of hn M
theorem pLn_law (hk : tKD s n i = 69) : pLn (tKD s n) (tPC s n) (tNV s n) ky K (0, i) D = if tLaws D.2.2.1 < 4 then (xpt (tKD s n) (tPC s n) 59 (lawE (tKD s n) (tPC s n) (tNV s n) K (0, i) D).1, lawD (lawE (tKD s n) (tPC s n) (tNV s n) K (0, i) D) D) else (xpt (tKD s n) (tPC s n) 59 (wrg (tPC s n) 5 (0, i)), D) := by
  unfold pLn
  dsimp only
  rw [hk, if_neg (by decide), if_pos rfl]
set_option maxHeartbeats 1000000 in
theorem c_readsLawR (hzz : ∀ i, N ≤ i → tKD s n i = 0) (hN : N ≤ 1000) (hK : N ≤ K) (hnv : ∀ i, tKD s n i = 2 → ∃ k, k ≤ 9999 ∧ tNV s n i = nI k) (T : TM m h s n i) (A : DM m h s n D i) (V : VD (tKD s n) D i) (hk : tKD s n i = 69)
    (q1 : ∀ h' j, FrB m h h' → TM m h' s n j → DM m h' s n (pLn (tKD s n) (tPC s n) (tNV s n) ky K (0, i) D).2 j → (pLn (tKD s n) (tPC s n) (tNV s n) ky K (0, i) D).1 = (0, j) → Q (some (.int 1)) h')
    (q0 : ∀ h', FrB m h h' → hI h' m 9 = (pLn (tKD s n) (tPC s n) (tNV s n) ky K (0, i) D).1.1 → ¬ (pLn (tKD s n) (tPC s n) (tNV s n) ky K (0, i) D).1.1 = 0 → Q (some (.int 0)) h') : EvM w mX10_readsLaw (d + 3) [.ref m] h Q := by
  have M := T.1
  have hn := T.2.2.1
  have hB := hB_of (s := s) hn
  have hf := hf_of hB
  have c16 : Int32.toNatClampNeg 16 = 16 := by decide
  have hi : i < N := Nat.lt_of_not_le (fun y => by rw [hzz i y] at hk; exact absurd hk (by decide))
  have hl4 : tLaws D.2.2.1 ≤ 4 := V.2.1.2.2.2.2.2.2.1
  obtain ⟨a1, ⟨r0, r1, r2, r3, r4, r5, r6, r7, r8, r9⟩, a3, c, a4, a5, a6⟩ := A
  rw [pLn_law hk] at q1 q0
  refine bX10_readsLaw_0 ⟨M.1, M.in 1 rfl (k := 16) (by decide) (by decide) (by decide), ?_⟩
  rw [c16, r6]
  refine ⟨fun c4 => ?_, fun c4 => ?_⟩
  · rw [show (4 : Int32) = nI 4 by decide, nI_eq (by omega) (by decide)] at c4
    rw [if_neg (by omega)] at q0
    refine c_failsR T (fun h' F e => ⟨_, rfl, nar0, q0 h' F.b ?_ ?_⟩)
    · dsimp only
      rw [xpt_d (by rw [wrg, if_pos rfl]; exact (hf i).2), wrg, if_pos rfl]
      exact e
    · dsimp only
      rw [xpt_d (by rw [wrg, if_pos rfl]; exact (hf i).2), wrg, if_pos rfl]
      exact (hf i).2
  · rw [show (4 : Int32) = nI 4 by decide, nI_eq (by omega) (by decide)] at c4
    have hl : tLaws D.2.2.1 < 4 := by omega
    rw [if_pos hl] at q1 q0
    dsimp only at q1 q0
    have e4 : (4 : Int32) + nI (tLaws D.2.2.1) = nI (4 + tLaws D.2.2.1) := by rw [show (4 : Int32) = nI 4 by decide, nI_add]
    rw [e4, nI_clamp (by omega)]
    refine c_nextT T (fun h1 F1 T1 => ⟨rfl, T1.1.1, T1.1.in 2 rfl rfl (by omega) (by decide), fun h2 e2 => ?_⟩)
    have k21 : hI h1 m 21 = nI (1000 + c) := by rw [F1.2.2.2.2.2.2 21 (by decide) (by decide) (by decide) (by decide)]; exact a4
    rw [k21] at e2
    have T2 : TM m h2 s n (i + 1) := by rw [e2]; exact T1.rowO (o := 3) (by decide)
    have F2 : FrB m h h2 := by rw [e2]; exact F1.r.b.tr (FrB.lw (Or.inl rfl) (by omega))
    have m21 : hI h2 m 21 = nI (1000 + c) := by rw [e2, sI_r, hI_rn _ _ (by omega)]; exact k21
    have R := rd_law (nv := tNV s n) (L := nI (tLaws D.2.2.1)) (hzz N (Nat.le_refl _)) hK (hB N) (S := (stp ((0, i) : P2), D.2.2.2.2)) rfl (by show i + 1 ≤ N; omega)
    have W := law_val (kd := tKD s n) (nv := tNV s n) (pc := tPC s n) (L := nI (tLaws D.2.2.1)) (K := K) hf hnv (S := (stp ((0, i) : P2), D.2.2.2.2)) rfl
    unfold lawE at q1 q0
    generalize chn (tKD s n) K (prt (tKD s n) (tPC s n) (tNV s n) (nI (tLaws D.2.2.1)) K 5) 4 (stp ((0, i) : P2), D.2.2.2.2) = E at R W q1 q0
    have R1 : ¬ (xpt (tKD s n) (tPC s n) 59 E.1).1 = 0 → (rd (tKD s n) (tPC s n) (N + 1 - (i + 1)) (i + 1) true [(false, false)]).1 = (xpt (tKD s n) (tPC s n) 59 E.1).1 := R.1
    have R2 : (xpt (tKD s n) (tPC s n) 59 E.1).1 = 0 → rd (tKD s n) (tPC s n) (N + 1 - (i + 1)) (i + 1) true [(false, false)] = xpt (tKD s n) (tPC s n) 59 E.1 ∧ E.1.1 = 0 ∧ E.1.2 + 1 ≤ N ∧ i + 1 < E.1.2 ∧ xpt (tKD s n) (tPC s n) 59 E.1 = (0, E.1.2 + 1) := R.2
    refine c_readsR (N := N) (c0 := 1000 + c) (hzz N (Nat.le_refl _)) hN (by omega) (by omega) T2 m21 (fun h3 t L3 T3 e3 ht => ⟨_, rfl, fun z => absurd z (by decide), fun _ => ?_⟩) (fun h3 F3 p3 e9 ne => ⟨_, rfl, fun _ => ?_, fun z => absurd rfl z⟩)
    · have z : (xpt (tKD s n) (tPC s n) 59 E.1).1 = 0 := Decidable.byContradiction (fun y => by
        have := R1 y
        rw [e3] at this
        exact y this.symm)
      obtain ⟨x1, x2, x3, x4, x5⟩ := R2 z
      rw [x5, e3] at x1
      have et : i + 1 + t + 1 = E.1.2 + 1 := congrArg Prod.snd x1
      obtain ⟨L1, L2, L3', L4⟩ := L3
      have l2 : ∀ k, hI h3 (m + 2) k = hI h (m + 2) k := fun k => by rw [L1.2.2.2.2.2.2.1 _ (by omega) (by omega) (by omega) (by omega), e2, sI_r, hI_rn _ _ (by omega), (F1.2.2.2.2.2.1 _ (by omega)).1]
      refine ⟨T3.1.1, T3.1.in 3 rfl rfl (by omega) (by decide), fun h4 e5 => ⟨?_, ?_, fun h5 e6 => ?_⟩⟩
      · rw [e5]; exact T3.1.in 1 rfl (k := 16) (by decide) (by decide) (by decide)
      · rw [e5]; exact T3.1.in 1 rfl (k := 16) (by decide) (by decide) (by decide)
      rw [L2] at e5
      have i16 : hI h4 (m + 2) 16 = nI (tLaws D.2.2.1) := by rw [e5, sI_r, hI_rn _ _ (by omega), l2]; exact r6
      rw [i16, nI_1] at e6
      have FL : FrB m h2 h3 := L1.b (fun k hk => L3' k (by omega))
      have FF : FrB m h h5 := by rw [e6, e5]; exact ((F2.tr FL).tr (FrB.lw (Or.inr rfl) (by omega))).tr (FrB.rv (by decide))
      have TT : TM m h5 s n (E.1.2 + 1) := by
        rw [e6, e5, ← et]
        exact (T3.rowO (o := 4) (by decide)).row
      refine q1 h5 (E.1.2 + 1) FF TT ?_ x5
      obtain ⟨_, _, _, w4, w5⟩ := W x2
      have w4 : i + 1 ≤ E.1.2 := w4
      -- rows as they stand at the end
      have i5 : hI h5 (m + 5) = hI h3 (m + 5) := by rw [e6, sI_r, hI_rn _ _ (by omega), e5, sI_r, hI_rn _ _ (by omega)]
      have i3 : ∀ k, hI h5 (m + 3) k = if k = 4 + tLaws D.2.2.1 then nI (1000 + c) else hI h (m + 3) k := fun k => by
        rw [e6, sI_r, hI_rn _ _ (by omega), e5, sI_r, hI_rn _ _ (by omega), L1.2.2.2.2.2.2.1 _ (by omega) (by omega) (by omega) (by omega), e2, sI_f, (F1.2.2.2.2.2.1 _ (by omega)).1]
      have i4 : ∀ k, hI h5 (m + 4) k = if k = 4 + tLaws D.2.2.1 then nI (1000 + c + t) else hI h (m + 4) k := fun k => by
        rw [e6, sI_r, hI_rn _ _ (by omega), e5, sI_f, L1.2.2.2.2.2.2.1 _ (by omega) (by omega) (by omega) (by omega), e2, sI_r, hI_rn _ _ (by omega), (F1.2.2.2.2.2.1 _ (by omega)).1]
      have i2 : ∀ k v, ¬ k = 16 → hI h (m + 2) k = v → hI h5 (m + 2) k = v := fun k v hk e => by rw [e6, sI_f, if_neg hk, e5, sI_r, hI_rn _ _ (by omega), l2]; exact e
      have im : ∀ k, ¬ k = 4 → ¬ k = 5 → ¬ k = 6 → ¬ k = 8 → ¬ k = 9 → ¬ k = 35 → ¬ k = 21 → hI h5 m k = hI h m k := fun k y1 y2 y3 y4 y5 y6 y7 => by
        rw [e6, sI_r, hI_rn _ _ (by omega), e5, sI_r, hI_rn _ _ (by omega), L1.2.2.2.2.2.2.2 k y1 y2 y3 y4 y5 y6 y7, e2, sI_r, hI_rn _ _ (by omega), F1.2.2.2.2.2.2 k y1 y2 y3 y4]
      have rest : ∀ a, a = m + 7 ∨ a = m + 8 ∨ a = m + 9 ∨ a = m + 10 ∨ a = m + 11 → hI h5 a = hI h a := fun a ha => by
        rw [e6, sI_r, hI_rn _ _ (by omega), e5, sI_r, hI_rn _ _ (by omega), L1.2.2.2.2.2.2.1 _ (by omega) (by omega) (by omega) (by omega), e2, sI_r, hI_rn _ _ (by omega), (F1.2.2.2.2.2.1 _ (by omega)).1]
      have ej : hJ h5 (m + 6) = hJ h (m + 6) := by
        have : hJ h5 (m + 6) = hJ h3 (m + 6) := by rw [e6, e5]; rfl
        rw [this, L1.2.2.2.2.2.1 _ (by omega)]
        have : hJ h2 (m + 6) = hJ h1 (m + 6) := by rw [e2]; rfl
        rw [this, (F1.2.2.2.2.2.1 _ (by omega)).2]
      refine ⟨by rw [im 22 (by decide) (by decide) (by decide) (by decide) (by decide) (by decide) (by decide)]; exact a1, ⟨i2 10 _ (by decide) r0, i2 11 _ (by decide) r1, i2 12 _ (by decide) r2, i2 13 _ (by decide) r3, i2 14 _ (by decide) r4, i2 15 _ (by decide) r5, ?_, i2 17 _ (by decide) r7, i2 18 _ (by decide) r8, i2 19 _ (by decide) r9⟩, ?_, c + t, ?_, by omega, fun l hl' => ?_⟩
      · rw [e6, sI_f, if_pos rfl]; rfl
      · have R3 := a3.cg (h1 := h5) (fun o o1 o2 => rest _ (by omega)) ej
        exact R3
      · rw [e6, sI_r, hI_rn _ _ (by omega), e5, sI_r, hI_rn _ _ (by omega), L2, Nat.add_assoc]
      · have hl' : l < tLaws D.2.2.1 + 1 := hl'
        rw [i3, i4, i5]
        show ∃ a e, _ ∧ _ ∧ _ ∧ _ ∧ CdOK _ _ _ (if l = tLaws D.2.2.1 then lawV E.2.2.1 D.2.2.2.2.1 E.2.1 else tLf D.2.2.1 l)
        by_cases x : l = tLaws D.2.2.1
        · rw [if_pos (by omega), if_pos (by omega), if_pos x]
          refine ⟨c, c + t, rfl, by rw [Nat.add_assoc], by omega, Nat.le_refl _, ?_⟩
          have C0 : CdOK (fun i => cdT (tKD s n i) (tNV s n i)) (i + 1) E.1.2 (lawV E.2.2.1 D.2.2.2.2.1 E.2.1) := w5
          exact C0.cg (by omega) (fun j hj => L4 j (by omega))
        · rw [if_neg (by omega), if_neg (by omega), if_neg x]
          obtain ⟨a, e, y1, y2, y3, y4, y5⟩ := a6 l (by omega)
          refine ⟨a, e, y1, y2, y3, by omega, y5.cg rfl (fun j hj => ?_)⟩
          rw [L3' _ (by omega), e2, sI_r, hI_rn _ _ (by omega), (F1.2.2.2.2.2.1 _ (by omega)).1]
    · have z : ¬ (xpt (tKD s n) (tPC s n) 59 E.1).1 = 0 := fun y => by
        obtain ⟨x1, _⟩ := R2 y
        rw [x1] at ne
        exact ne y
      refine q0 h3 (F2.tr (F3.b (fun k hk => p3 k (by omega)))) ?_ z
      rw [e9, R1 z]
end RALL2
