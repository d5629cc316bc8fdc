/-! The automaton follows the class's parts and chains. -/
theorem lvl_3 {k : Int32} (h : lvl k = 3) : k = 42 := by
  unfold lvl at h
  repeat (first | (split at h; first | assumption | exact absurd h (by decide)))
  all_goals first | assumption | exact absurd h (by decide)
theorem lvl_cases (k : Int32) : (k = 42 ∧ lvl k = 3) ∨ ((k = 43 ∨ k = 45) ∧ lvl k = 2) ∨ ((k = 60 ∨ k = 61) ∧ lvl k = 1) ∨ ((k = 88 ∨ k = 89) ∧ lvl k = 0) ∨ (¬ k = 42 ∧ ¬ k = 43 ∧ ¬ k = 45 ∧ ¬ k = 60 ∧ ¬ k = 61 ∧ ¬ k = 88 ∧ ¬ k = 89 ∧ lvl k = -1) := by
  by_cases c1 : k = 42
  · exact Or.inl ⟨c1, by rw [c1]; rfl⟩
  by_cases c2 : k = 43
  · exact Or.inr (Or.inl ⟨Or.inl c2, by rw [c2]; rfl⟩)
  by_cases c3 : k = 45
  · exact Or.inr (Or.inl ⟨Or.inr c3, by rw [c3]; rfl⟩)
  by_cases c4 : k = 60
  · exact Or.inr (Or.inr (Or.inl ⟨Or.inl c4, by rw [c4]; rfl⟩))
  by_cases c5 : k = 61
  · exact Or.inr (Or.inr (Or.inl ⟨Or.inr c5, by rw [c5]; rfl⟩))
  by_cases c6 : k = 88
  · exact Or.inr (Or.inr (Or.inr (Or.inl ⟨Or.inl c6, by rw [c6]; rfl⟩)))
  by_cases c7 : k = 89
  · exact Or.inr (Or.inr (Or.inr (Or.inl ⟨Or.inr c7, by rw [c7]; rfl⟩)))
  · refine Or.inr (Or.inr (Or.inr (Or.inr ⟨c1, c2, c3, c4, c5, c6, c7, ?_⟩)))
    rw [lvl, if_neg c1, if_neg c2, if_neg c3, if_neg c4, if_neg c5, if_neg c6, if_neg c7]
def rdF (kd pc : Nat → Int32) (N i : Nat) (b : Bool) (st : SK) : P2 := rd kd pc (N + 1 - i) i b st
section RAUTO3
variable {kd pc nv : Nat → Int32} {L : Int32} {K N : Nat} {bg : Nat → Nat}
theorem rdF_T {i : Nat} {st : SK} (hi : i ≤ N) : rdF kd pc N i true st = if isSt (kd i) then (if st.length = 6 then (5 + 16 * pc i, i) else if kd i = 87 then rdF kd pc N (i + 1) true ((true, false) :: st) else if kd i = 40 then rdF kd pc N (i + 1) true ((false, false) :: st) else rdF kd pc N (i + 1) false (popN st)) else (1 + 16 * pc i, i) := by
  unfold rdF
  rw [show N + 1 - i = (N + 1 - (i + 1)) + 1 by omega, rd]
theorem rdF_F {i : Nat} {st : SK} (hi : i ≤ N) : rdF kd pc N i false st = if kd i = 43 ∨ kd i = 45 ∨ kd i = 42 then rdF kd pc N (i + 1) true st else if (kd i = 60 ∨ kd i = 61) ∧ cmpT st = false then rdF kd pc N (i + 1) true (setT true st) else if kd i = 88 ∨ kd i = 89 then rdF kd pc N (i + 1) true (setT false st) else if kd i = 41 ∧ 1 < st.length then rdF kd pc N (i + 1) false (popN st.tail) else if st.length = 1 ∧ kd i = 59 then (0, i + 1) else (1 + 16 * pc i, i) := by
  unfold rdF
  rw [show N + 1 - i = (N + 1 - (i + 1)) + 1 by omega, rd]
theorem kd_lt (hz : kd N = 0) {i : Nat} (hi : i ≤ N) (h : ¬ kd i = 0) : i + 1 ≤ N := by
  have : i ≠ N := fun e => h (by rw [e]; exact hz)
  omega
def Pst (kd : Nat → Int32) (j i : Nat) (c : Bool) : Prop := (1 ≤ j → ¬ lvl (kd i) = 3) ∧ (2 ≤ j → ¬ lvl (kd i) = 2) ∧ (3 ≤ j → lvl (kd i) = 1 → c = true) ∧ (4 ≤ j → ¬ lvl (kd i) = 0)
/-- what a reading that begins wanting and ends not wanting gives -/
def Rd1 (kd pc : Nat → Int32) (N : Nat) (A : P2) (S T : P2) (D : Nat → Prop) : Prop := (¬ T.1 = 0 → A.1 = T.1) ∧ (T.1 = 0 → T.2 ≤ N ∧ S.2 < T.2 ∧ D T.2)
def PaE (kd pc nv : Nat → Int32) (L : Int32) (K N r : Nat) : Prop := ∀ (S : ES) (st : SK), S.1.1 = 0 → S.1.2 ≤ N → st.length + r = 6 → Bs st → (¬ (prt kd pc nv L K r S).1.1 = 0 → (rdF kd pc N S.1.2 true st).1 = (prt kd pc nv L K r S).1.1) ∧ ((prt kd pc nv L K r S).1.1 = 0 → (prt kd pc nv L K r S).1.2 ≤ N ∧ S.1.2 < (prt kd pc nv L K r S).1.2 ∧ rdF kd pc N S.1.2 true st = rdF kd pc N (prt kd pc nv L K r S).1.2 false (popN st))
def ChE (kd pc : Nat → Int32) (K N r : Nat) (P : ES → ES) (j : Nat) : Prop := ∀ (S : ES) (c : Bool) (st : SK), S.1.1 = 0 → S.1.2 ≤ N → st.length + 1 + r = 6 → Bs ((false, c) :: st) → (3 ≤ j → c = false) → (¬ (chn kd K P j S).1.1 = 0 → (rdF kd pc N S.1.2 true ((false, c) :: st)).1 = (chn kd K P j S).1.1) ∧ ((chn kd K P j S).1.1 = 0 → (chn kd K P j S).1.2 ≤ N ∧ S.1.2 < (chn kd K P j S).1.2 ∧ ∃ c', rdF kd pc N S.1.2 true ((false, c) :: st) = rdF kd pc N (chn kd K P j S).1.2 false ((false, c') :: st) ∧ (j ≤ 2 → c' = c) ∧ Pst kd j (chn kd K P j S).1.2 c')
theorem ChE.z {r : Nat} (P : PaE kd pc nv L K N r) : ChE kd pc K N r (prt kd pc nv L K r) 0 := by
  intro S c st a h1 h2 B _
  obtain ⟨p1, p2⟩ := P S ((false, c) :: st) a h1 (by rw [List.length_cons]; omega) B
  refine ⟨p1, fun z => ?_⟩
  obtain ⟨y1, y2, y3⟩ := p2 z
  exact ⟨y1, y2, c, y3, fun _ => rfl, fun x => absurd x (by decide), fun x => absurd x (by decide), fun x => absurd x (by decide), fun x => absurd x (by decide)⟩
theorem lp_dead {C : ES → ES} {lev : Int32} {U : ES} {c : Int32} (k : Nat) (h : ¬ U.1.1 = 0) : lpc kd C lev k (wrt c U) = U := by
  rw [show wrt c U = U by rw [wrt, if_neg h]]
  cases k with
  | zero => rfl
  | succ k => rw [lpc, if_neg (fun y => h y.1)]
theorem wrt_1 {c : Int32} {U : ES} : (wrt c U).1 = U.1 := by
  unfold wrt
  split <;> rfl
/-- the signs of the levels 3, 2 and 0 -/
theorem LpE {r j : Nat} {P : ES → ES} (hz : kd N = 0) (hj : j = 0 ∨ j = 1 ∨ j = 3) (C : ChE kd pc K N r P j) {st : SK} (hr : st.length + 1 + r = 6) (hB : ∀ c, Bs ((false, c) :: st)) : ∀ (k : Nat) (S : ES) (c : Bool), S.1.1 = 0 → S.1.2 ≤ N → N < S.1.2 + k → Pst kd j S.1.2 c →
    (¬ (lpc kd (chn kd K P j) (nI (3 - j)) k S).1.1 = 0 → (rdF kd pc N S.1.2 false ((false, c) :: st)).1 = (lpc kd (chn kd K P j) (nI (3 - j)) k S).1.1) ∧ ((lpc kd (chn kd K P j) (nI (3 - j)) k S).1.1 = 0 → (lpc kd (chn kd K P j) (nI (3 - j)) k S).1.2 ≤ N ∧ S.1.2 ≤ (lpc kd (chn kd K P j) (nI (3 - j)) k S).1.2 ∧ ∃ c', rdF kd pc N S.1.2 false ((false, c) :: st) = rdF kd pc N (lpc kd (chn kd K P j) (nI (3 - j)) k S).1.2 false ((false, c') :: st) ∧ (j + 1 ≤ 2 → c' = c) ∧ Pst kd j (lpc kd (chn kd K P j) (nI (3 - j)) k S).1.2 c' ∧ ¬ lvl (kd (lpc kd (chn kd K P j) (nI (3 - j)) k S).1.2) = nI (3 - j)) := by
  intro k
  induction k with
  | zero => intro S c _ h1 h2; omega
  | succ k ih =>
    intro S c a h1 h2 hp
    rw [lpc]
    by_cases q : lvl (kd S.1.2) = nI (3 - j)
    · rw [if_pos ⟨a, q⟩]
      have step : ∃ c2, (3 ≤ j → c2 = false) ∧ (j + 1 ≤ 2 → c2 = c) ∧ rdF kd pc N S.1.2 false ((false, c) :: st) = rdF kd pc N (S.1.2 + 1) true ((false, c2) :: st) ∧ ¬ kd S.1.2 = 0 := by
        rcases hj with e | e | e
        · subst e
          have q : lvl (kd S.1.2) = 3 := q
          have k3 := lvl_3 q
          exact ⟨c, fun y => by omega, fun _ => rfl, by rw [rdF_F h1, if_pos (Or.inr (Or.inr k3))], by rw [k3]; decide⟩
        · subst e
          have q : lvl (kd S.1.2) = 2 := q
          rcases lvl_cases (kd S.1.2) with ⟨_, e⟩ | ⟨k2, e⟩ | ⟨_, e⟩ | ⟨_, e⟩ | ⟨_, _, _, _, _, _, _, e⟩
          · rw [e] at q; exact absurd q (by decide)
          · refine ⟨c, fun y => by omega, fun _ => rfl, by rw [rdF_F h1, if_pos (k2.elim Or.inl (fun x => Or.inr (Or.inl x)))], by rcases k2 with x | x <;> rw [x] <;> decide⟩
          · rw [e] at q; exact absurd q (by decide)
          · rw [e] at q; exact absurd q (by decide)
          · rw [e] at q; exact absurd q (by decide)
        · subst e
          have q : lvl (kd S.1.2) = 0 := q
          rcases lvl_cases (kd S.1.2) with ⟨_, e⟩ | ⟨k2, e⟩ | ⟨_, e⟩ | ⟨k2, e⟩ | ⟨_, _, _, _, _, _, _, e⟩
          · rw [e] at q; exact absurd q (by decide)
          · rw [e] at q; exact absurd q (by decide)
          · rw [e] at q; exact absurd q (by decide)
          · refine ⟨false, fun _ => rfl, fun y => by omega, ?_, by rcases k2 with x | x <;> rw [x] <;> decide⟩
            rw [rdF_F h1, if_neg (fun y => by rcases k2 with x | x <;> rw [x] at y <;> exact absurd y (by decide)), if_neg (fun y => by rcases k2 with x | x <;> rw [x] at y <;> exact absurd y.1 (by decide)), if_pos k2]
            rfl
          · rw [e] at q; exact absurd q (by decide)
      obtain ⟨c2, s1, s2, s3, s4⟩ := step
      have es : (onE stp S).1 = (0, S.1.2 + 1) := by unfold onE stp; rw [if_pos a]
      have ha : (onE stp S).1.1 = 0 := by rw [es]
      have hb : (onE stp S).1.2 = S.1.2 + 1 := by rw [es]
      obtain ⟨p1, p2⟩ := C (onE stp S) c2 st ha (by rw [hb]; exact kd_lt hz h1 s4) hr (hB c2) s1
      rw [hb, ← s3] at p1 p2
      generalize chn kd K P j (onE stp S) = U at p1 p2 ⊢
      by_cases u : U.1.1 = 0
      · obtain ⟨y1, y2, c', y3, y4, y5⟩ := p2 u
        have I := ih (wrt (-(kd S.1.2)) U) c' (by rw [wrt_1]; exact u) (by rw [wrt_1]; exact y1) (by rw [wrt_1]; omega) (by rw [wrt_1]; exact y5)
        rw [y3]
        rw [wrt_1] at I
        refine ⟨I.1, fun z => ?_⟩
        obtain ⟨z1, z2, c'', z3, z4, z5, z6⟩ := I.2 z
        exact ⟨z1, by omega, c'', z3, fun y => by rw [z4 y, y4 (by omega), s2 y], z5, z6⟩
      · rw [lp_dead k u]
        exact ⟨p1, fun z => absurd z u⟩
    · rw [if_neg (fun y => q y.2)]
      exact ⟨fun z => absurd a z, fun _ => ⟨h1, Nat.le_refl _, c, rfl, fun _ => rfl, hp, q⟩⟩
theorem ChE.s {r j : Nat} {P : ES → ES} (hz : kd N = 0) (hK : N ≤ K) (hj : j < 4) (C : ChE kd pc K N r P j) : ChE kd pc K N r P (j + 1) := by
  intro S c st a h1 h2 B hc
  obtain ⟨p1, p2⟩ := C S c st a h1 h2 B (fun y => hc (by omega))
  have hB : ∀ c, Bs ((false, c) :: st) := fun c' => ⟨fun _ => rfl, B.2⟩
  rw [chn]
  generalize chn kd K P j S = U at p1 p2 ⊢
  by_cases u : U.1.1 = 0
  · obtain ⟨y1, y2, c', y3, y4, y5⟩ := p2 u
    rw [y3]
    by_cases j2 : j = 2
    · subst j2
      rw [if_pos rfl]
      have cf : c' = false := by rw [y4 (by decide), hc (by decide)]
      subst cf
      show (¬ (lpc kd (chn kd K P 2) (nI 1) 1 U).1.1 = 0 → _) ∧ _
      rw [lpc]
      by_cases q : lvl (kd U.1.2) = nI 1
      · rw [if_pos ⟨u, q⟩, lpc]
        have q : lvl (kd U.1.2) = 1 := q
        have k2 : kd U.1.2 = 60 ∨ kd U.1.2 = 61 := by
          rcases lvl_cases (kd U.1.2) with ⟨_, e⟩ | ⟨k2, e⟩ | ⟨k2, e⟩ | ⟨k2, e⟩ | ⟨_, _, _, _, _, _, _, e⟩
          · rw [e] at q; exact absurd q (by decide)
          · rw [e] at q; exact absurd q (by decide)
          · exact k2
          · rw [e] at q; exact absurd q (by decide)
          · rw [e] at q; exact absurd q (by decide)
        have nz : ¬ kd U.1.2 = 0 := by rcases k2 with x | x <;> rw [x] <;> decide
        have s3 : rdF kd pc N U.1.2 false ((false, false) :: st) = rdF kd pc N (U.1.2 + 1) true ((false, true) :: st) := by
          rw [rdF_F y1, if_neg (fun y => by rcases k2 with x | x <;> rw [x] at y <;> exact absurd y (by decide)), if_pos ⟨k2, rfl⟩]
          rfl
        have es : (onE stp U).1 = (0, U.1.2 + 1) := by unfold onE stp; rw [if_pos u]
        have ha : (onE stp U).1.1 = 0 := by rw [es]
        have hb : (onE stp U).1.2 = U.1.2 + 1 := by rw [es]
        obtain ⟨p1, p2⟩ := C (onE stp U) true st ha (by rw [hb]; exact kd_lt hz y1 nz) h2 (hB true) (fun y => by omega)
        rw [hb, ← s3] at p1 p2
        generalize chn kd K P 2 (onE stp U) = V at p1 p2 ⊢
        rw [wrt_1]
        refine ⟨p1, fun z => ?_⟩
        obtain ⟨z1, z2, c'', z3, z4, z5⟩ := p2 z
        have e'' : c'' = true := z4 (by decide)
        exact ⟨z1, by omega, c'', z3, fun y => by omega, fun _ => z5.1 (by decide), fun _ => z5.2.1 (by decide), fun _ _ => e'', fun y => by omega⟩
      · rw [if_neg (fun y => q y.2)]
        exact ⟨fun z => absurd u z, fun _ => ⟨y1, y2, false, rfl, fun _ => (y4 (by decide)), fun _ => y5.1 (by decide), fun _ => y5.2.1 (by decide), fun _ y => absurd y q, fun y => by omega⟩⟩
    · rw [if_neg j2]
      have I := LpE hz (j := j) (by omega) C h2 hB K U c' u y1 (by omega) y5
      refine ⟨I.1, fun z => ?_⟩
      obtain ⟨z1, z2, c'', z3, z4, z5, z6⟩ := I.2 z
      refine ⟨z1, by omega, c'', z3, fun y => by rw [z4 y, y4 (by omega)], ?_⟩
      have hj3 : j = 0 ∨ j = 1 ∨ j = 3 := by omega
      rcases hj3 with e | e | e
      · subst e
        exact ⟨fun _ => z6, fun y => by omega, fun y => by omega, fun y => by omega⟩
      · subst e
        exact ⟨fun _ => z5.1 (by decide), fun _ => z6, fun y => by omega, fun y => by omega⟩
      · subst e
        exact ⟨fun _ => z5.1 (by decide), fun _ => z5.2.1 (by decide), fun _ => z5.2.2.1 (by decide), fun _ => z6⟩
  · have dd : ∀ k, lpc kd (chn kd K P j) (nI (3 - j)) k U = U := fun k => by
      cases k with
      | zero => rfl
      | succ k => rw [lpc, if_neg (fun y => u y.1)]
    rw [dd]
    exact ⟨p1, fun z => absurd z u⟩
end RAUTO3
