/-! The reference reads all lines: the loop. -/
section RALL4
variable {w : am_W} {d : Nat} {Q : Option Value → am_H → Prop} {m n N K : Nat} {s : Nat → Int32}
theorem pAll_d {kd pc nv : Nat → Int32} {ky : Nat → Int64} {k : Nat} {S : P2} {D : LD} (h : ¬ (S.1 = 0 ∧ ¬ kd S.2 = 0)) : pAll kd pc nv ky K k S D = (S, D) := by
  cases k with
  | zero => rfl
  | succ k => rw [pAll, if_neg h]
set_option maxHeartbeats 2000000 in
theorem c_allLoop {h0 : am_H} {R : P2 × LD} (hzz : ∀ i, N ≤ i → tKD s n i = 0) (hN : N ≤ 1000) (hK : N ≤ K) (hnv : ∀ i, tKD s n i = 2 → ∃ k, k ≤ 9999 ∧ tNV s n i = nI k)
    (q1 : ∀ h' j D', FrB m h0 h' → TM m h' s n j → DM m h' s n D' j → VD (tKD s n) D' j → R = ((0, j), D') → tKD s n j = 0 → j ≤ N → Q (some (.int 1)) h')
    (q0 : ∀ h', FrB m h0 h' → hI h' m 9 = R.1.1 → ¬ R.1.1 = 0 → Q (some (.int 0)) h') :
    ∀ k i D h, N < i + k → i ≤ N → FrB m h0 h → TM m h s n i → DM m h s n D i → VD (tKD s n) D i → pAll (tKD s n) (tPC s n) (tNV s n) (kyR s n) K k (0, i) D = R → Ev w (am_Z w) mX10_readsAll (d + 4) 39 [(0, .ref m)] [] h Q := by
  intro k
  induction k with
  | zero =>
    intro i D h h1 h2
    omega
  | succ k ih =>
    intro i D h h1 h2 F0 T A V hR
    have M := T.1
    have hB := hB_of (s := s) T.2.2.1
    have hf := hf_of hB
    have t6 : hI h m 6 = tkK s n (bgn s n i) := T.2.2.2.2.2.2.1
    have z0 : tkK s n (bgn s n i) = 0 ↔ tKD s n i = 0 := (tk_small (s := s) (n := n) (b := bgn s n i)).1
    refine bX10_readsAll_39 ⟨M.1, fun z => ?_, fun z => ?_⟩
    · rw [t6, z0] at z
      rw [pAll, if_neg (fun y => y.2 z)] at hR
      exact q1 h i D F0 T A V hR.symm z h2
    rw [t6, z0] at z
    rw [pAll, if_pos ⟨rfl, z⟩] at hR
    have O := pLn_ok (ky := kyR s n) (nv := tNV s n) hB hzz hK hnv V
    have dead : ¬ (pLn (tKD s n) (tPC s n) (tNV s n) (kyR s n) K (0, i) D).1.1 = 0 → (pLn (tKD s n) (tPC s n) (tNV s n) (kyR s n) K (0, i) D).1 = R.1 := fun y => by
      rw [pAll_d (fun x => y x.1)] at hR
      rw [← hR]
    have qq1 : ∀ h' j, FrB m h h' → TM m h' s n j → DM m h' s n (pLn (tKD s n) (tPC s n) (tNV s n) (kyR s n) K (0, i) D).2 j → (pLn (tKD s n) (tPC s n) (tNV s n) (kyR s n) K (0, i) D).1 = (0, j) → (∃ v4 : Int32, (some (.int 1) : Option Value) = some (.int v4) ∧ ((v4 = 0 → Q (some (.int 0)) h') ∧ (¬ v4 = 0 → Ev w (am_Z w) mX10_readsAll (d + 4) 39 [(0, .ref m)] [] h' Q))) := by
      intro h' j F' T' A' e
      refine ⟨_, rfl, fun y => absurd y (by decide), fun _ => ?_⟩
      obtain ⟨e', o1, o2, o3, o4⟩ := O (by rw [e])
      rw [e] at o1
      have ej : j = e' + 1 := congrArg Prod.snd o1
      have le : e' < N := Nat.lt_of_not_le (fun y => by rw [hzz e' y] at o2; exact absurd o2 (by decide))
      rw [e] at hR
      refine ih j _ h' (by omega) (by omega) (F0.tr F') T' A' (by rw [ej]; exact o4) hR
    have qq0 : ∀ h', FrB m h h' → hI h' m 9 = (pLn (tKD s n) (tPC s n) (tNV s n) (kyR s n) K (0, i) D).1.1 → ¬ (pLn (tKD s n) (tPC s n) (tNV s n) (kyR s n) K (0, i) D).1.1 = 0 → (∃ v4 : Int32, (some (.int 0) : Option Value) = some (.int v4) ∧ ((v4 = 0 → Q (some (.int 0)) h') ∧ (¬ v4 = 0 → Ev w (am_Z w) mX10_readsAll (d + 4) 39 [(0, .ref m)] [] h' Q))) := by
      intro h' F' e ne
      refine ⟨_, rfl, fun _ => q0 h' (F0.tr F') ?_ ?_, fun y => absurd rfl y⟩
      · rw [e, dead ne]
      · rw [← dead ne]; exact ne
    refine c_isWordR (k := 0) T (by decide) rfl ⟨_, rfl, fun c0 => ⟨M.1, c_isWordR (k := 1) T (by decide) rfl ⟨_, rfl, fun c1 => ⟨M.1, c_isWordR (k := 2) T (by decide) rfl ⟨_, rfl, fun c2 => ⟨M.1, c_isWordR (k := 3) T (by decide) rfl ⟨_, rfl, fun c3 => ⟨M.1, c_isWordR (k := 4) T (by decide) rfl ⟨_, rfl, fun c4 => ⟨M.1, c_isWordR (k := 5) T (by decide) rfl ⟨_, rfl, fun c5 => ⟨M.1, c_isWordR (k := 6) T (by decide) rfl ⟨_, rfl, fun c6 => ⟨M.1, ?_⟩, fun c6 => ⟨M.1, ?_⟩⟩⟩, fun c5 => ⟨M.1, ?_⟩⟩⟩, fun c4 => ⟨M.1, ?_⟩⟩⟩, fun c3 => ⟨M.1, ?_⟩⟩⟩, fun c2 => ⟨M.1, ?_⟩⟩⟩, fun c1 => ⟨M.1, ?_⟩⟩⟩, fun c0 => ⟨M.1, ?_⟩⟩
    · have hk : ∀ j, j < 5 → ¬ tKD s n i = nI (64 + j) := fun j hj => by
        have : j = 0 ∨ j = 1 ∨ j = 2 ∨ j = 3 ∨ j = 4 := by omega
        rcases this with e | e | e | e | e <;> subst e
        · exact b01_nz.mp c0
        · exact b01_nz.mp c1
        · exact b01_nz.mp c2
        · exact b01_nz.mp c3
        · exact b01_nz.mp c4
      have ep := pLn_els (K := K) (kd := tKD s n) (pc := tPC s n) (nv := tNV s n) (ky := kyR s n) (i := i) (D := D) hk (b01_nz.mp c5) (b01_nz.mp c6)
      refine c_failsR T (fun h' F e => qq0 h' F.b ?_ ?_)
      · rw [ep]
        dsimp only
        rw [xpt_d (by rw [wrg, if_pos rfl]; exact (hf i).1), wrg, if_pos rfl]
        exact e
      · rw [ep]
        dsimp only
        rw [xpt_d (by rw [wrg, if_pos rfl]; exact (hf i).1), wrg, if_pos rfl]
        exact (hf i).1
    · exact c_perR T A V (Decidable.byContradiction (fun y => c6 (b01_nz.mpr y))) qq1 qq0
    · exact c_readsLawR hzz hN hK hnv T A V (Decidable.byContradiction (fun y => c5 (b01_nz.mpr y))) qq1 qq0
    · exact c_tolR (j := 4) T A V (by decide) (by decide) (Decidable.byContradiction (fun y => c4 (b01_nz.mpr y))) qq1 qq0
    · exact c_sideR T A V (Decidable.byContradiction (fun y => c3 (b01_nz.mpr y))) qq1 qq0
    · exact c_tolR (j := 2) T A V (by decide) (by decide) (Decidable.byContradiction (fun y => c2 (b01_nz.mpr y))) qq1 qq0
    · exact c_tolR (j := 1) T A V (by decide) (by decide) (Decidable.byContradiction (fun y => c1 (b01_nz.mpr y))) qq1 qq0
    · exact c_tolR (j := 0) T A V (by decide) (by decide) (Decidable.byContradiction (fun y => c0 (b01_nz.mpr y))) qq1 qq0
end RALL4
