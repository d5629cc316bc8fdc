/-! The reference's river: the call. -/
section RRIVER2
variable {w : am_W} {d : Nat} {h : am_H} {Q : Option Value → am_H → Prop} {m : Nat} {A : rA} {row : Nat → Int32}
theorem Slt.used {k : Nat} {H : rH} {v : Int32} (S : Slt m h k H) (hv : ∃ u, u ≤ tLaws H.1 ∧ v = nI u - 1) : Slt m (sI h (m + 2) (10 * k + 8) v) k (H.1, v, H.2.2) := by
  obtain ⟨⟨V1, V2, V3, V4⟩, ⟨a0, a1, a2, a3, a4, a5, a6, a7, a8, a9⟩, b, c, L⟩ := S
  have g : ∀ j, ¬ j = 10 * k + 8 → hI (sI h (m + 2) (10 * k + 8) v) (m + 2) j = hI h (m + 2) j := fun j hj => by rw [sI_f, if_neg hj]
  have o : ∀ a, ¬ a = m + 2 → hI (sI h (m + 2) (10 * k + 8) v) a = hI h a := fun a ha => by rw [sI_r, hI_rn _ _ ha]
  unfold Slt LnM
  rw [o (m + 7) (by omega), o (m + 8) (by omega), o (m + 9) (by omega), o (m + 10) (by omega), o (m + 11) (by omega), o (m + 12) (by omega), o (m + 3) (by omega), o (m + 4) (by omega), o (m + 5) (by omega)]
  exact ⟨⟨V1, hv, V3, V4⟩, ⟨(g _ (by omega)).trans a0, (g _ (by omega)).trans a1, (g _ (by omega)).trans a2, (g _ (by omega)).trans a3, (g _ (by omega)).trans a4, (g _ (by omega)).trans a5, (g _ (by omega)).trans a6, (g _ (by omega)).trans a7, by rw [sI_f, if_pos rfl], (g _ (by omega)).trans a9⟩, b, c, L⟩
theorem lyI_o {m s t k a : Nat} {g : Nat → Nat → Int32} (ha : a < m + 2 ∨ a = m + 6 ∨ m + 12 < a) : lyI m s t k g a = g a := by
  unfold lyI
  rw [if_neg (by omega), if_neg (by omega), if_neg (by omega), if_neg (by omega), if_neg (by omega), if_neg (by omega)]
theorem c_riverR {K : Nat} (eK : K = 1000) (R : RepM m h A) (q : ∀ h', FrM m h h' → RepM m h' (oRiv A K row) → Q (some (.int (aRiv A K row))) h') : EvM w mX10_river (d + 5) [.ref m] h Q := by
  obtain ⟨M, a1, a2, a3, a3', a4, a5⟩ := R
  refine bX10_river_0 ⟨M.1, fun h2 e2 => ?_⟩
  have M2 : Md m h2 := by rw [e2]; exact M
  have o2 : ∀ a, a ≠ m → hI h2 a = hI h a := fun a ha => by rw [e2, sI_r, hI_rn _ _ ha]
  have oz : ∀ a, a ≠ m → hI (sI h2 m 1 0) a = hI h a := fun a ha => by rw [sI_r, hI_rn _ _ ha]; exact o2 a ha
  have S0 : ∀ k H, Slt m h k H → Slt m (sI h2 m 1 0) k H := fun k H S => S.cg (fun o h1 h2 h3 h4 => oz _ (by omega))
  have EK : hK h2 = hK h ∧ hN h2 = hN h ∧ hR h2 = hR h ∧ hZ h2 = hZ h ∧ hS h2 = hS h ∧ hJ h2 = hJ h := by rw [e2]; exact ⟨rfl, rfl, rfl, rfl, rfl, rfl⟩
  have FM : ∀ h', FrB m (sI h2 m 1 0) h' → FrM m h h' := fun h' F => by
    obtain ⟨f1, f2, f3, f4, f5, f6, f7, _⟩ := F
    obtain ⟨g1, g2, g3, g4, g5, g6⟩ := EK
    refine ⟨f1.trans g1, f2.trans g2, f3.trans g3, f4.trans g4, f5.trans g5, fun a ha => ⟨(f7 a (by omega)).trans (oz a (by omega)), (f6 a (by omega) (by omega)).trans ?_⟩⟩
    show hJ h2 a = hJ h a
    rw [g6]
  have mk : ∀ h', FrB m (sI h2 m 1 0) h' → ∀ i, i < 4 → hI h' (m + 37) i = (if A.2.2.2.1 i then 1 else 0) ∧ (A.2.2.2.1 i = true → Slt m h' (2 + i) (A.2.2.2.2 i)) := fun h' F i hi => by
    obtain ⟨x1, x2⟩ := a5 i hi
    refine ⟨?_, fun c => F.slt (by omega) (S0 _ _ (x2 c))⟩
    rw [F.2.2.2.2.2.2.1 _ (by omega), oz _ (by omega)]
    exact x1
  have f1z : ∀ h', FrB m (sI h2 m 1 0) h' → hI h' m 1 = nI 0 := fun h' F => by
    obtain ⟨_, _, _, _, _, _, _, _, _, _, _, x⟩ := F
    rw [x, sI_f, if_pos rfl]; rfl
  refine c_readsAllR (n := A.1) (s := A.2.1) (row := row) (R := rvR A K row) M2 eK (by rw [e2, sI_f, if_neg (by decide)]; exact a1) a2 (by rw [o2 _ (by omega)]; exact a3) rfl (fun h3 j D' F T DM3 V e hj => ⟨_, rfl, fun z => absurd z (by decide), fun _ => ⟨T.1.1, ?_⟩⟩) (fun h3 F e9 ne => ⟨_, rfl, fun _ => ⟨(F.md M2).1, ?_⟩, fun z => absurd rfl z⟩)
  · have eO : oRiv A K row = (0, A.2.1, (D'.2.2.1, (if 0 < tLaws D'.2.2.1 then 0 else -1), 0, fun _ => 0), A.2.2.2) := by
      unfold oRiv; rw [e, if_pos rfl]
    have eA : aRiv A K row = 0 := by unfold aRiv; rw [e]
    rw [eO, eA] at q
    have S3 := DM3.slt V.2.1 hj
    refine c_lays (s := 1) (t := 0) T.1 (by decide) (by decide) (by decide) ⟨rfl, T.1.1, ?_⟩
    have M4 : Md m (lyH m 1 0 4 h3) := T.1
    have S4 : Slt m (lyH m 1 0 4 h3) 0 (D'.2.2.1, -1, 0, fun _ => 0) := lyH_slt S3
    have F4 : ∀ a, a < m + 2 ∨ a = m + 6 ∨ m + 12 < a → hI (lyH m 1 0 4 h3) a = hI h3 a := fun a ha => by rw [lyH_I]; exact lyI_o ha
    have i6 : hI (lyH m 1 0 4 h3) (m + 2) 6 = nI (tLaws D'.2.2.1) := by
      have := S4.2.1.2.2.2.2.2.2.1
      exact this
    have hl4 : tLaws D'.2.2.1 ≤ 4 := V.2.1.2.2.2.2.2.2.1
    have mk3 := mk h3 F
    generalize hL : lyH m 1 0 4 h3 = h4 at M4 S4 F4 i6
    have fin : ∀ v : Int32, v = (if 0 < tLaws D'.2.2.1 then 0 else -1) → Q (some (.int 0)) (sI h4 (m + 2) 8 v) := by
      intro v hv
      refine q _ ?_ ⟨M4, ?_, Nat.zero_le _, fun p hp => absurd hp (Nat.not_lt_zero _), fun p hp => absurd hp (Nat.not_lt_zero _), ?_, fun i hi => ?_⟩
      · have G := FM h3 F
        obtain ⟨g1, g2, g3, g4, g5, g6⟩ := G
        have k1 : hK h4 = hK h3 ∧ hN h4 = hN h3 ∧ hR h4 = hR h3 ∧ hZ h4 = hZ h3 ∧ hS h4 = hS h3 ∧ hJ h4 = hJ h3 := by rw [← hL]; exact ⟨rfl, rfl, rfl, rfl, rfl, rfl⟩
        obtain ⟨k1, k2, k3, k4, k5, k6⟩ := k1
        refine ⟨k1.trans g1, k2.trans g2, k3.trans g3, k4.trans g4, k5.trans g5, fun a ha => ⟨?_, ?_⟩⟩
        · rw [sI_r, hI_rn _ _ (by omega), F4 a (by omega)]; exact (g6 a ha).1
        · show hJ h4 a = hJ h a
          rw [k6]; exact (g6 a ha).2
      · rw [sI_r, hI_rn _ _ (by omega), F4 m (by omega)]; exact f1z h3 F
      · have := S4.used (v := v) (by
          rw [hv]
          by_cases c : 0 < tLaws D'.2.2.1
          · rw [if_pos c]; exact ⟨1, c, by decide⟩
          · rw [if_neg c]; exact ⟨0, Nat.zero_le _, by decide⟩)
        rw [← hv]
        exact this
      · obtain ⟨y1, y2⟩ := mk3 i hi
        refine ⟨?_, fun c => ?_⟩
        · rw [sI_r, hI_rn _ _ (by omega), F4 _ (by omega)]; exact y1
        · have Z : Slt m h4 (2 + i) (A.2.2.2.2 i) := by rw [← hL]; exact lyH_oth (y2 c) (by omega)
          have e8 : ∀ a, ¬ a = m + 2 → hI (sI h4 (m + 2) 8 v) a = hI h4 a := fun a ha => by rw [sI_r, hI_rn _ _ ha]
          exact Z.mv (fun j hj => by rw [sI_f, if_neg (by omega)]) (fun o h1 h2 j hj => by rw [e8 _ (by omega)]) (fun j hj => by rw [e8 _ (by omega)]) (fun j hj => by rw [e8 _ (by omega)]) (fun j a hj x => by rw [e8 _ (by omega)]; exact x) (fun j a hj x => by rw [e8 _ (by omega)]; exact x)
    have c6 : Int32.toNatClampNeg 6 = 6 := by decide
    have c8 : Int32.toNatClampNeg 8 = 8 := by decide
    rw [c6, c8, i6]
    refine ⟨M4.in 1 rfl (k := 6) (by decide) (by decide) (by decide), fun c => ⟨M4.in 1 rfl (k := 8) (by decide) (by decide) (by decide), fun h5 e5 => ?_⟩, fun c => ⟨M4.in 1 rfl (k := 8) (by decide) (by decide) (by decide), fun h5 e5 => ?_⟩⟩
    · rw [← nI_0, nI_leI (by omega) (by decide)] at c
      rw [e5]
      exact fin (-1) (by rw [if_neg (by omega)])
    · rw [← nI_0, nI_leI (by omega) (by decide)] at c
      rw [e5]
      exact fin 0 (by rw [if_pos (by omega)])
  · have eO : oRiv A K row = (0, A.2.1, A.2.2) := by unfold oRiv; rw [if_neg ne]
    rw [eO] at q
    rw [e9]
    exact q h3 (FM h3 F) ⟨F.md M2, f1z h3 F, Nat.zero_le _, fun p hp => absurd hp (Nat.not_lt_zero _), fun p hp => absurd hp (Nat.not_lt_zero _), F.slt (by decide) (S0 _ _ a4), mk h3 F⟩
end RRIVER2
