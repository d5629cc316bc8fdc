/-! The reference's line of a person: its middle. -/
theorem kdA_c {k : Int32} : (0 ≤ kdA k ↔ ¬ k < 81 ∧ k ≤ 86) ∧ (kdA k = 5 ↔ k = 86) := by
  by_cases c : ¬ k < 81 ∧ k ≤ 86
  · obtain ⟨j, hj, rfl⟩ := kd_81 c.1 c.2
    have : ∀ j : Fin 6, (0 ≤ kdA (nI j.1 + 81) ↔ ¬ nI j.1 + 81 < 81 ∧ nI j.1 + 81 ≤ 86) ∧ (kdA (nI j.1 + 81) = 5 ↔ nI j.1 + 81 = 86) := by decide
    exact this ⟨j, by omega⟩
  · have no : ∀ j : Int32, ¬ j < 81 → j ≤ 86 → ¬ k = j := fun j h1 h2 e => c (by rw [e]; exact ⟨h1, h2⟩)
    have e : kdA k = -1 := by
      unfold kdA
      rw [if_neg (no 81 (by decide) (by decide)), if_neg (no 82 (by decide) (by decide)), if_neg (no 83 (by decide) (by decide)), if_neg (no 84 (by decide) (by decide)), if_neg (no 85 (by decide) (by decide)), if_neg (no 86 (by decide) (by decide))]
    rw [e]
    exact ⟨⟨fun h => absurd h (by decide), fun h => absurd h c⟩, ⟨fun h => absurd h (by decide), fun h => absurd h (no 86 (by decide) (by decide))⟩⟩
section RPERS3
variable {w : am_W} {d : Nat} {h : am_H} {Q : Option Value → am_H → Prop} {m n i : Nat} {s : Nat → Int32}
/-- kind, and what follows -/
theorem c_persKind {p ch : Nat} (T : TM m h s n i) (hp : p < 16) (hc : hI h (m + 2) 17 = nI p) (hch : ch = chs (fun q => hI h (m + 11) (16 + q)) p) (hc8 : ch ≤ 8)
    (q1 : xpt (tKD s n) (tPC s n) 59 (kwd (tKD s n) (tPC s n) ch (0, i)) = (0, i + 2) → ∀ h', FrQ m h h' → TM m h' s n (i + 2) → hI h' (m + 11) = va_up (hI h (m + 11)) (16 + p) (kdA (tKD s n i)) → hI h' (m + 2) = va_up (hI h (m + 2)) 17 (nI (p + 1)) → (∀ o, 7 ≤ o → o ≤ 10 → hI h' (m + o) = hI h (m + o)) → hJ h' (m + 6) = hJ h (m + 6) → Q (some (.int 1)) h')
    (q0 : ∀ h', FrQ m h h' → hI h' m 9 = (xpt (tKD s n) (tPC s n) 59 (kwd (tKD s n) (tPC s n) ch (0, i))).1 → ¬ (xpt (tKD s n) (tPC s n) 59 (kwd (tKD s n) (tPC s n) ch (0, i))).1 = 0 → Q (some (.int 0)) h') :
    EvM w mX10_kindAt (d + 2) [.ref m] h (fun r39 h38 => ∃ v40 : Int32, r39 = some (.int v40) ∧ ((0 ≤ v40 → ((v40 = 5 → ((am_L 10 m h38) ∧ (EvM w mX10_choosers (d + 2) [.ref m, .int 1] h38 (fun r43 h42 => ∃ v44 : Int32, r43 = some (.int v44) ∧ ((v44 = 8 → ((am_L 10 m h42) ∧ (EvM w mX10_fails (d + 2) [.ref m, .int 5] h42 (fun r47 h46 => ∃ v48 : Int32, r47 = some (.int v48) ∧ (narrow .boolean (.int v48) = .int v48 ∧ (Q (some (.int v48)) h46)))))) ∧ (¬ v44 = 8 → (Ev w (am_Z w) mX10_readsPerson (d + 2 + 1) 277 [(0, .ref m), (1, .int (nI p)), (3, .int v40)] [] h42 Q))))))) ∧ (¬ v40 = 5 → (Ev w (am_Z w) mX10_readsPerson (d + 2 + 1) 277 [(0, .ref m), (1, .int (nI p)), (3, .int v40)] [] h38 Q)))) ∧ (¬ 0 ≤ v40 → ((am_L 10 m h38) ∧ (EvM w mX10_fails (d + 2) [.ref m, .int 1] h38 (fun r52 h51 => ∃ v53 : Int32, r52 = some (.int v53) ∧ (narrow .boolean (.int v53) = .int v53 ∧ (Q (some (.int v53)) h51)))))))) := by
  have B := BgO.of (s := s) T.2.2.1 i
  obtain ⟨k1, k2⟩ := kdA_c (k := tKD s n i)
  have dn : ∀ S : P2, ¬ S.1 = 0 → xpt (tKD s n) (tPC s n) 59 S = S := fun S a => by rw [xpt, if_neg a]
  have fl : ∀ k : Nat, 1 ≤ k → k ≤ 15 → kwd (tKD s n) (tPC s n) ch (0, i) = (nI k + 16 * tPC s n i, i) → ∀ h', FrR m h h' → hI h' m 9 = nI k + 16 * tPC s n i → Q (some (.int 0)) h' := by
    intro k h1 h2 e h' F e9
    have ne : ¬ nI k + 16 * tPC s n i = 0 := flt_no B k h1 h2 (Nat.le_refl _)
    rw [e, dn _ ne] at q0
    exact q0 h' F.q e9 ne
  have go : (0 ≤ kdA (tKD s n i)) → ¬ (tKD s n i = 86 ∧ 8 ≤ ch) → Ev w (am_Z w) mX10_readsPerson (d + 2 + 1) 277 [(0, .ref m), (1, .int (nI p)), (3, .int (kdA (tKD s n i)))] [] h Q := by
    intro a b
    obtain ⟨a1, a2⟩ := k1.mp a
    have e : kwd (tKD s n) (tPC s n) ch (0, i) = (0, i + 1) := by
      rw [kwd, if_pos rfl]
      dsimp only
      rw [if_neg a1, if_pos a2, if_neg b]
    rw [e] at q0 q1
    refine c_pers277 T hp (fun ex h' F T' r11 r2 ro rj => q1 ex h' F T' r11 ?_ ro rj) q0
    rw [r2, hc, nI_1]
  refine c_kindAtR T ⟨_, rfl, fun a => ⟨fun b => ⟨T.1.1, c_choosers (s := 1) T.1 (by decide) hc (by omega) ⟨_, rfl, fun c => ⟨T.1.1, c_failsR T (fun h' F e9 => ⟨_, rfl, nar0, ?_⟩)⟩, fun c => go a ?_⟩⟩, fun b => go a (fun z => b (k2.mpr z.1))⟩, fun a => ⟨T.1.1, c_failsR T (fun h' F e9 => ⟨_, rfl, nar0, ?_⟩)⟩⟩
  · have c : nI ch = 8 := by rw [hch]; exact c
    rw [show (8 : Int32) = nI 8 by decide, nI_eq (by omega) (by decide)] at c
    obtain ⟨a1, a2⟩ := k1.mp a
    refine fl 5 (by decide) (by decide) ?_ h' F e9
    rw [kwd, if_pos rfl]
    dsimp only
    rw [if_neg a1, if_pos a2, if_pos ⟨k2.mp b, by omega⟩]
    rfl
  · intro z
    refine c ?_
    have : ch = 8 := by omega
    rw [hch] at this
    show nI (chs (fun q => hI h (m + 11) (16 * 1 + q)) p) = 8
    have e : (fun q => hI h (m + 11) (16 * 1 + q)) = (fun q => hI h (m + 11) (16 + q)) := rfl
    rw [e, this]
    decide
  · refine fl 1 (by decide) (by decide) ?_ h' F e9
    have a' : ¬ (¬ tKD s n i < 81 ∧ tKD s n i ≤ 86) := fun z => a (k1.mpr z)
    rw [kwd, if_pos rfl]
    dsimp only
    by_cases a1 : tKD s n i < 81
    · rw [if_pos a1]; rfl
    · rw [if_neg a1, if_neg (fun z => a' ⟨a1, z⟩)]; rfl
end RPERS3
