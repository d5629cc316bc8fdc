/-! The reference: is a word kept, which kind is told. -/
theorem tk_name {s : Nat → Int32} {n b : Nat} : tkC s n b = 3 ↔ tkK s n b = 1 ∧ ¬ tkW s n b ∈ wtb := by
  have lit : ∀ j : Nat, ¬ j = 3 → j < 100 → ¬ nI j = 3 := fun j h1 h2 e => by rw [show (3 : Int32) = nI 3 by decide, nI_eq (by omega) (by decide)] at e; exact h1 e
  rcases tk_cases s n b with ⟨e1, e2⟩ | ⟨e1, e2⟩ | ⟨e1, e2⟩ | ⟨e1, e2, e3, e4⟩ | ⟨e1, e2⟩
  · rw [e1, e2]; exact ⟨fun h => absurd h (by decide), fun h => absurd h.1 (by decide)⟩
  · rw [e1, e2, wdk]
    by_cases c : tkW s n b ∈ wtb
    · rw [if_pos c]; exact ⟨fun h => absurd h (lit _ (by omega) (by have := wdk_lt c; omega)), fun h => absurd c h.2⟩
    · rw [if_neg c]; exact ⟨fun _ => ⟨rfl, c⟩, fun _ => rfl⟩
  · rw [e1, e2]; exact ⟨fun h => absurd h (by decide), fun h => absurd h.1 (by decide)⟩
  · rw [e1, e2]
    refine ⟨fun h => ?_, fun h => absurd h.1 (by decide)⟩
    rcases isG_or e3 with e | e | e | e | e | e | e | e <;> rw [e] at h <;> exact absurd h (by decide)
  · rw [e1, e2]; exact ⟨fun h => absurd h (by decide), fun h => absurd h.1 (by decide)⟩
section RKEPT
variable {w : am_W} {d : Nat} {h : am_H} {Q : Option Value → am_H → Prop} {m n i : Nat} {s : Nat → Int32}
theorem c_isKeptR (T : TM m h s n i) (q : Q (some (.int (b01 (¬ tKD s n i = 3)))) h) : EvM w mX10_isKept d [.ref m] h Q := by
  obtain ⟨t1, t2, t3, t4, t5, t6, t7, t8, t9⟩ := T
  have e := tk_name (s := s) (n := n) (b := bgn s n i)
  unfold b01 tKD at q
  have yes : tkW s n (bgn s n i) ∈ wtb → Q (some (.int 1)) h := fun c => by
    rw [if_pos (fun z => (e.mp z).2 c)] at q; exact q
  refine bX10_isKept_0 ⟨t1.1, ?_⟩
  rw [t7, t8]
  refine ⟨fun c => ⟨fun c0 => yes (by rw [c0]; decide), fun c0 => ⟨fun c1 => yes (by rw [c1]; decide), fun c1 => ⟨fun c2 => yes (by rw [c2]; decide), fun c2 => ⟨fun c3 => yes (by rw [c3]; decide), fun c3 => ⟨fun c4 => yes (by rw [c4]; decide), fun c4 => ⟨fun c5 => yes (by rw [c5]; decide), fun c5 => ⟨fun c6 => yes (by rw [c6]; decide), fun c6 => ⟨fun c7 => yes (by rw [c7]; decide), fun c7 => ⟨fun c8 => yes (by rw [c8]; decide), fun c8 => ⟨fun c9 => yes (by rw [c9]; decide), fun c9 => ⟨fun c10 => yes (by rw [c10]; decide), fun c10 => ⟨fun c11 => yes (by rw [c11]; decide), fun c11 => ⟨fun c12 => yes (by rw [c12]; decide), fun c12 => ⟨fun c13 => yes (by rw [c13]; decide), fun c13 => ⟨fun c14 => yes (by rw [c14]; decide), fun c14 => ⟨fun c15 => yes (by rw [c15]; decide), fun c15 => ⟨fun c16 => yes (by rw [c16]; decide), fun c16 => ⟨fun c17 => yes (by rw [c17]; decide), fun c17 => ⟨fun c18 => yes (by rw [c18]; decide), fun c18 => ⟨fun c19 => yes (by rw [c19]; decide), fun c19 => ⟨fun c20 => yes (by rw [c20]; decide), fun c20 => ⟨fun c21 => yes (by rw [c21]; decide), fun c21 => ⟨fun c22 => yes (by rw [c22]; decide), fun c22 => ⟨fun c23 => yes (by rw [c23]; decide), fun c23 => ⟨fun c24 => yes (by rw [c24]; decide), fun c24 => ⟨fun c25 => yes (by rw [c25]; decide), fun c25 => ?_⟩⟩⟩⟩⟩⟩⟩⟩⟩⟩⟩⟩⟩⟩⟩⟩⟩⟩⟩⟩⟩⟩⟩⟩⟩⟩, fun c => ?_⟩
  · rw [if_neg (fun z => z (e.mpr ⟨c, fun y => by simp only [wtb, List.mem_cons, List.not_mem_nil, or_false, c0, c1, c2, c3, c4, c5, c6, c7, c8, c9, c10, c11, c12, c13, c14, c15, c16, c17, c18, c19, c20, c21, c22, c23, c24, c25] at y⟩))] at q; exact q
  · rw [if_pos (fun z => c (e.mp z).1)] at q; exact q
def kdA (k : Int32) : Int32 := if k = 81 then 0 else if k = 82 then 1 else if k = 83 then 2 else if k = 84 then 3 else if k = 85 then 4 else if k = 86 then 5 else -1
theorem c_kindAtR (T : TM m h s n i) (q : Q (some (.int (kdA (tKD s n i)))) h) : EvM w mX10_kindAt (d + 1) [.ref m] h Q := by
  have t1 := T.1.1
  have pos : ∀ {k : Int32}, ¬ b01 (tKD s n i = k) = 0 → tKD s n i = k := fun c => Decidable.byContradiction (fun z => c (b01_nz.mpr z))
  unfold kdA at q
  refine bX10_kindAt_0 ⟨t1, c_isWordR (k := 17) T (by decide) rfl ⟨_, rfl, fun c1 => ⟨t1, c_isWordR (k := 18) T (by decide) rfl ⟨_, rfl, fun c2 => ⟨t1, c_isWordR (k := 19) T (by decide) rfl ⟨_, rfl, fun c3 => ⟨t1, c_isWordR (k := 20) T (by decide) rfl ⟨_, rfl, fun c4 => ⟨t1, c_isWordR (k := 21) T (by decide) rfl ⟨_, rfl, fun c5 => ⟨t1, c_isWordR (k := 22) T (by decide) rfl ⟨_, rfl, fun c6 => ?_, fun c6 => ?_⟩⟩, fun c5 => ?_⟩⟩, fun c4 => ?_⟩⟩, fun c3 => ?_⟩⟩, fun c2 => ?_⟩⟩, fun c1 => ?_⟩⟩
  · have y1 : ¬ tKD s n i = 81 := b01_nz.mp c1
    have y2 : ¬ tKD s n i = 82 := b01_nz.mp c2
    have y3 : ¬ tKD s n i = 83 := b01_nz.mp c3
    have y4 : ¬ tKD s n i = 84 := b01_nz.mp c4
    have y5 : ¬ tKD s n i = 85 := b01_nz.mp c5
    have y6 : ¬ tKD s n i = 86 := b01_nz.mp c6
    rw [if_neg y1, if_neg y2, if_neg y3, if_neg y4, if_neg y5, if_neg y6] at q; exact q
  · have y : tKD s n i = 86 := pos c6
    rw [y] at q; exact q
  · have y : tKD s n i = 85 := pos c5
    rw [y] at q; exact q
  · have y : tKD s n i = 84 := pos c4
    rw [y] at q; exact q
  · have y : tKD s n i = 83 := pos c3
    rw [y] at q; exact q
  · have y : tKD s n i = 82 := pos c2
    rw [y] at q; exact q
  · have y : tKD s n i = 81 := pos c1
    rw [y] at q; exact q
end RKEPT
