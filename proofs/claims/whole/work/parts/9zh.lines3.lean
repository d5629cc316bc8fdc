/-! A law's line keeps the bounds; all lines. -/
section LINES3
variable {kd pc nv : Nat → Int32} {ky : Nat → Int64} {K N i : Nat} {bg : Nat → Nat} {S : P2} {D : LD}
theorem hf_of (hB : ∀ M, BgO M pc bg) : ∀ i, ¬ (1 : Int32) + 16 * pc i = 0 ∧ ¬ (5 : Int32) + 16 * pc i = 0 := fun i => ⟨flt_no (hB i) 1 (by decide) (by decide) (Nat.le_refl _), flt_no (hB i) 5 (by decide) (by decide) (Nat.le_refl _)⟩
set_option maxHeartbeats 1000000 in
theorem law_ok (hB : ∀ M, BgO M pc bg) (hzz : ∀ i, N ≤ i → kd i = 0) (hK : N ≤ K) (hnv : ∀ i, kd i = 2 → ∃ k, k ≤ 9999 ∧ nv i = nI k) (V : VD kd D i) (hi : i < N) (hl : tLaws D.2.2.1 < 4) : OKL kd i (xpt kd pc 59 (lawE kd pc nv K (0, i) D).1) (lawD (lawE kd pc nv K (0, i) D) D) := by
  intro z
  obtain ⟨V1, ⟨a1, a2, a3, a4, a5, a6, a7, a8, a9, a10, a11, a12, a13, a14⟩, V3, ⟨w1, w2, t, w3, w4, w5⟩, V5⟩ := V
  have hf := hf_of hB
  have hS : ((stp ((0, i) : P2), D.2.2.2.2) : ES).1.1 = 0 := rfl
  have r := rd_law (nv := nv) (L := nI (tLaws D.2.2.1)) (hzz N (Nat.le_refl _)) hK (hB N) (S := (stp ((0, i) : P2), D.2.2.2.2)) hS (by show i + 1 ≤ N; omega)
  have T := TmS.ch (kd := kd) (K := K) hl (TmS.pr (pc := pc) (K := K) hl hnv 5) 4 (Nat.le_refl _) (stp ((0, i) : P2), D.2.2.2.2)
  have M := (Mn.pr (kd := kd) (pc := pc) (nv := nv) (L := nI (tLaws D.2.2.1)) (K := K) 5).ch (kd := kd) (K := K) 4 (stp ((0, i) : P2), D.2.2.2.2)
  have W := law_val (kd := kd) (nv := nv) (pc := pc) (L := nI (tLaws D.2.2.1)) (K := K) hf hnv (S := (stp ((0, i) : P2), D.2.2.2.2)) hS
  unfold lawE at z ⊢
  generalize chn kd K (prt kd pc nv (nI (tLaws D.2.2.1)) K 5) 4 (stp ((0, i) : P2), D.2.2.2.2) = E at z r T M W ⊢
  obtain ⟨_, r2, r3, r4, r5⟩ := r.2 z
  have r4 : i + 1 < E.1.2 := r4
  obtain ⟨v1, v2, v3, v4, v5⟩ := W r2
  have v1 : D.2.2.2.2.1 ≤ E.2.1 := v1
  have v2 : ∀ p, p < D.2.2.2.2.1 → E.2.2.1 p = D.2.2.2.2.2.1 p := v2
  obtain ⟨_, M2⟩ := M.1 r2
  have M2 : i + 1 + E.2.1 ≤ E.1.2 + D.2.2.2.2.1 := M2
  obtain ⟨_, _, T3⟩ := T
  obtain ⟨t', t1, t2, t3, t4⟩ := T3 t w3 w4
  have x2 : kd E.1.2 = 59 := Decidable.byContradiction (fun y => by
    rw [xpt, if_pos r2, if_neg y] at z
    exact (hf _).1 z)
  refine ⟨E.1.2, r5, x2, by omega, V1, ⟨a1, a2, a3, a4, a5, a6, ?_, a8, a9, a10, a11, a12, a13, ?_⟩, V3, ⟨?_, ?_, t', t1, t2, ?_⟩, ?_⟩
  · show tLaws D.2.2.1 + 1 ≤ 4; omega
  · intro l hl'
    have hl' : l < tLaws D.2.2.1 + 1 := hl'
    show lfC (if l = tLaws D.2.2.1 then lawV E.2.2.1 D.2.2.2.2.1 E.2.1 else tLf D.2.2.1 l)
    by_cases c : l = tLaws D.2.2.1
    · rw [if_pos c]; exact lawV_lfC
    · rw [if_neg c]; exact a14 l (by omega)
  · show (if tLaws D.2.2.1 + 1 = tLaws D.2.2.1 + 1 then E.2.1 else _) = E.2.1
    rw [if_pos rfl]
  · intro l hl'
    have hl' : l < tLaws D.2.2.1 + 1 := hl'
    show (if l = tLaws D.2.2.1 + 1 then E.2.1 else D.2.2.2.1 l) ≤ (if l + 1 = tLaws D.2.2.1 + 1 then E.2.1 else D.2.2.2.1 (l + 1)) ∧ (if l + 1 = tLaws D.2.2.1 + 1 then E.2.1 else D.2.2.2.1 (l + 1)) ≤ E.2.1 ∧ RpnOK E.2.2.1 (if l = tLaws D.2.2.1 + 1 then E.2.1 else D.2.2.2.1 l) (if l + 1 = tLaws D.2.2.1 + 1 then E.2.1 else D.2.2.2.1 (l + 1)) (if l = tLaws D.2.2.1 then lawV E.2.2.1 D.2.2.2.2.1 E.2.1 else tLf D.2.2.1 l)
    rw [if_neg (show ¬ l = tLaws D.2.2.1 + 1 by omega)]
    by_cases c : l = tLaws D.2.2.1
    · rw [if_pos (by omega), if_pos c, c, w1]
      exact ⟨v1, Nat.le_refl _, v3 E.2.2.1 (fun _ _ _ => rfl)⟩
    · rw [if_neg (by omega), if_neg c]
      obtain ⟨y1, y2, y3⟩ := w2 l (by omega)
      exact ⟨y1, by omega, y3.cg (fun q q1 q2 => v2 q (by omega))⟩
  · intro l hl' hb U U' hU
    have hl' : l < tLaws D.2.2.1 + 1 := hl'
    show (if l = tLaws D.2.2.1 then lawV E.2.2.1 D.2.2.2.2.1 E.2.1 else tLf D.2.2.1 l) U = (if l = tLaws D.2.2.1 then lawV E.2.2.1 D.2.2.2.2.1 E.2.1 else tLf D.2.2.1 l) U'
    by_cases c : l = tLaws D.2.2.1
    · rw [if_pos c]
      rw [c] at hb
      exact lawV_un (fun p p1 p2 => t4 hb p p1 p2) hU
    · rw [if_neg c]
      exact w5 l (by omega) (t3 l (by omega) hb) U U' hU
  · show E.2.1 ≤ E.1.2 + 1; omega
theorem pLn_ok (hB : ∀ M, BgO M pc bg) (hzz : ∀ i, N ≤ i → kd i = 0) (hK : N ≤ K) (hnv : ∀ i, kd i = 2 → ∃ k, k ≤ 9999 ∧ nv i = nI k) (V : VD kd D i) : OKL kd i (pLn kd pc nv ky K (0, i) D).1 (pLn kd pc nv ky K (0, i) D).2 := by
  have bad : ∀ k : Nat, 1 ≤ k → k ≤ 15 → ∀ D', OKL kd i (xpt kd pc 59 (wrg pc (nI k) (0, i))) D' := fun k k1 k2 D' z => by
    obtain ⟨x1, _⟩ := xpt_al (hB (i + 20)) (fun _ => by have := wrg_le (pc := pc) (k := nI k) (S := (0, i)); show _ ≤ i + 20; omega) z
    exact absurd x1 (by rw [wrg, if_pos rfl]; exact flt_no (hB (i + 20)) k k1 k2 (by show i ≤ i + 20; omega))
  unfold pLn
  dsimp only
  by_cases c1 : ¬ kd i < 64 ∧ ¬ 68 < kd i
  · rw [if_pos c1]
    dsimp only
    exact tol_ok (nv := nv) hB (kd_64 c1.1 c1.2).1 V
  · rw [if_neg c1]
    by_cases c2 : kd i = 69
    · rw [if_pos c2]
      have hi : i < N := Nat.lt_of_not_le (fun y => by rw [hzz i y] at c2; exact absurd c2 (by decide))
      by_cases c3 : tLaws D.2.2.1 < 4
      · rw [if_pos c3]; dsimp only; exact law_ok hB hzz hK hnv V hi c3
      · rw [if_neg c3]; exact bad 5 (by decide) (by decide) D
    · rw [if_neg c2]
      by_cases c3 : kd i = 70
      · rw [if_pos c3]
        by_cases c4 : tN D.2.2.1 < 16
        · rw [if_pos c4]; dsimp only; exact per_ok (nv := nv) (ky := ky) hB V c4
        · rw [if_neg c4]; exact bad 5 (by decide) (by decide) D
      · rw [if_neg c3]; exact bad 1 (by decide) (by decide) D
/-- all lines -/
def pAll (kd pc nv : Nat → Int32) (ky : Nat → Int64) (K : Nat) : Nat → P2 → LD → P2 × LD
  | 0, S, D => (S, D)
  | k + 1, S, D => if S.1 = 0 ∧ ¬ kd S.2 = 0 then pAll kd pc nv ky K k (pLn kd pc nv ky K S D).1 (pLn kd pc nv ky K S D).2 else (S, D)
end LINES3
