/-! The reference reads all lines. -/
section RALL3
variable {w : am_W} {d : Nat} {Q : Option Value → am_H → Prop} {m n N K : Nat} {s : Nat → Int32}
theorem pLn_tol {kd pc nv : Nat → Int32} {ky : Nat → Int64} {i j : Nat} {D : LD} (hj : j < 5) (hk : kd i = nI (64 + j)) : pLn kd pc nv ky K (0, i) D = (xpt kd pc 59 (tolP kd pc nv j D.1 (0, i)), tolD nv j i D) := by
  unfold pLn
  dsimp only
  have e : (kd i - 64).toNatClampNeg = j := by
    rw [hk, show (64 : Int32) = nI 64 by decide, nI_sub (by omega), Nat.add_sub_cancel_left, nI_clamp (by omega)]
  rw [if_pos ⟨by rw [hk, show (64 : Int32) = nI 64 by decide, nI_ltI (by omega) (by decide)]; omega, by rw [hk, show (68 : Int32) = nI 68 by decide, nI_ltI (by decide) (by omega)]; omega⟩, e]
theorem pLn_per {kd pc nv : Nat → Int32} {ky : Nat → Int64} {i : Nat} {D : LD} (hk : kd i = 70) : pLn kd pc nv ky K (0, i) D = if tN D.2.2.1 < 16 then (xpt kd pc 59 (perP kd pc nv ky D.2.1 (tN D.2.2.1) (chs (tKd D.2.2.1) (tN D.2.2.1)) (0, i)), perD kd nv i D) else (xpt kd pc 59 (wrg pc 5 (0, i)), D) := by
  unfold pLn
  dsimp only
  rw [hk, if_neg (by decide), if_neg (by decide), if_pos rfl]
theorem pLn_els {kd pc nv : Nat → Int32} {ky : Nat → Int64} {i : Nat} {D : LD} (h1 : ∀ j, j < 5 → ¬ kd i = nI (64 + j)) (h2 : ¬ kd i = 69) (h3 : ¬ kd i = 70) : pLn kd pc nv ky K (0, i) D = (xpt kd pc 59 (wrg pc 1 (0, i)), D) := by
  unfold pLn
  dsimp only
  rw [if_neg (fun y => by
    obtain ⟨x1, x2⟩ := kd_64 y.1 y.2
    exact h1 _ x1 x2), if_neg h2, if_neg h3]
/-- a line of the reference -/
theorem c_tolR {h : am_H} {i j : Nat} {D : LD} {ky : Nat → Int64} (T : TM m h s n i) (A : DM m h s n D i) (V : VD (tKD s n) D i) (hj : j < 5) (hj3 : ¬ j = 3) (hk : tKD s n i = nI (64 + j))
    (q1 : ∀ h' j, FrB m h h' → TM m h' s n j → DM m h' s n (pLn (tKD s n) (tPC s n) (tNV s n) ky K (0, i) D).2 j → (pLn (tKD s n) (tPC s n) (tNV s n) ky K (0, i) D).1 = (0, j) → Q (some (.int 1)) h')
    (q0 : ∀ h', FrB m h h' → hI h' m 9 = (pLn (tKD s n) (tPC s n) (tNV s n) ky K (0, i) D).1.1 → ¬ (pLn (tKD s n) (tPC s n) (tNV s n) ky K (0, i) D).1.1 = 0 → Q (some (.int 0)) h') : EvM w mX10_readsOne (d + 3) [.ref m, .int (nI (whj j)), .int (loJ j), .int (hiJ j)] h Q := by
  rw [pLn_tol hj hk] at q1 q0
  exact c_readsOneR T hj hj3 V.1 A.1 A.2.1 (fun e h' F T' h22 R => q1 h' (i + 3) F.b T' (A.tol F h22 R (by omega)) e) (fun h' F e ne => q0 h' F.b e ne)
theorem c_sideR {h : am_H} {i : Nat} {D : LD} {ky : Nat → Int64} (T : TM m h s n i) (A : DM m h s n D i) (V : VD (tKD s n) D i) (hk : tKD s n i = 67)
    (q1 : ∀ h' j, FrB m h h' → TM m h' s n j → DM m h' s n (pLn (tKD s n) (tPC s n) (tNV s n) ky K (0, i) D).2 j → (pLn (tKD s n) (tPC s n) (tNV s n) ky K (0, i) D).1 = (0, j) → Q (some (.int 1)) h')
    (q0 : ∀ h', FrB m h h' → hI h' m 9 = (pLn (tKD s n) (tPC s n) (tNV s n) ky K (0, i) D).1.1 → ¬ (pLn (tKD s n) (tPC s n) (tNV s n) ky K (0, i) D).1.1 = 0 → Q (some (.int 0)) h') : EvM w mX10_readsSide (d + 3) [.ref m] h Q := by
  rw [pLn_tol (j := 3) (by decide) hk] at q1 q0
  exact c_readsSideR T V.1 A.1 A.2.1 (fun e h' F T' h22 R => q1 h' (i + 5) F.b T' (A.tol F h22 R (by omega)) e) (fun h' F e ne => q0 h' F.b e ne)
set_option maxHeartbeats 1000000 in
theorem c_perR {h : am_H} {i : Nat} {D : LD} (T : TM m h s n i) (A : DM m h s n D i) (V : VD (tKD s n) D i) (hk : tKD s n i = 70)
    (q1 : ∀ h' j, FrB m h h' → TM m h' s n j → DM m h' s n (pLn (tKD s n) (tPC s n) (tNV s n) (kyR s n) K (0, i) D).2 j → (pLn (tKD s n) (tPC s n) (tNV s n) (kyR s n) K (0, i) D).1 = (0, j) → Q (some (.int 1)) h')
    (q0 : ∀ h', FrB m h h' → hI h' m 9 = (pLn (tKD s n) (tPC s n) (tNV s n) (kyR s n) K (0, i) D).1.1 → ¬ (pLn (tKD s n) (tPC s n) (tNV s n) (kyR s n) K (0, i) D).1.1 = 0 → Q (some (.int 0)) h') : EvM w mX10_readsPerson (d + 3) [.ref m] h Q := by
  have hB := hB_of (s := s) T.2.2.1
  have hf := hf_of hB
  have hn16 : tN D.2.2.1 ≤ 16 := V.2.1.1
  have c17 : Int32.toNatClampNeg 17 = 17 := by decide
  have e17 : hI h (m + 2) 17 = nI (tN D.2.2.1) := A.2.1.2.2.2.2.2.2.2.1
  rw [pLn_per hk] at q1 q0
  by_cases c : tN D.2.2.1 < 16
  · rw [if_pos c] at q1 q0
    dsimp only at q1 q0
    have ec : chs (tKd D.2.2.1) (tN D.2.2.1) = chs (fun q => hI h (m + 11) (16 + q)) (tN D.2.2.1) := (chs_eq (fun p hp => (A.2.2.1.1 p hp).2.2.2.2) _ (Nat.le_refl _)).symm
    have hc8 : chs (tKd D.2.2.1) (tN D.2.2.1) ≤ 8 := V.2.1.2.2.2.2.2.2.2.2.2.2.2.2.1
    refine c_readsPersonR (nm := D.2.1) T c e17 ec hc8 (fun j hj => A.2.2.1.2 j hj) (fun e h' F T' g7 g8 g9 g10 g11 g2 gj => q1 h' (i + 11) F.b T' (A.per F ?_ g7 g8 g9 g10 g11 g2 gj (by omega)) e) (fun h' F e ne => q0 h' F.b e ne)
    obtain ⟨_, _, _, _, V'⟩ := per_ok (ky := kyR s n) (nv := tNV s n) hB V c (by rw [e])
    have L5 : leR (tN D.2.2.1 + 1) 5 (va_up (tKd D.2.2.1) (tN D.2.2.1) (tKD s n (i + 9) - 81)) := V'.2.1.2.2.2.2.2.2.2.1
    obtain ⟨k, k1, k2⟩ := L5 (tN D.2.2.1) (by omega)
    rw [va_up_self] at k2
    exact kdA_sub k1 k2
  · rw [if_neg c] at q0
    have M := T.1
    refine bX10_readsPerson_0 ⟨M.1, M.in 1 rfl (k := 17) (by decide) (by decide) (by decide), ?_⟩
    rw [c17, e17]
    refine ⟨fun _ => c_failsR T (fun h' F e => ⟨_, rfl, nar0, q0 h' F.b ?_ ?_⟩), fun c4 => absurd ?_ c4⟩
    · dsimp only
      rw [xpt_d (by rw [wrg, if_pos rfl]; exact (hf i).2), wrg, if_pos rfl]
      exact e
    · dsimp only
      rw [xpt_d (by rw [wrg, if_pos rfl]; exact (hf i).2), wrg, if_pos rfl]
      exact (hf i).2
    · rw [show tN D.2.2.1 = 16 by omega]; rfl
end RALL3
