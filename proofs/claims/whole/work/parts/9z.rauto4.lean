/-! The automaton follows the class's parts and chains: parts, and the whole of a law. -/
section RAUTO4
variable {kd pc nv : Nat → Int32} {L : Int32} {K N : Nat} {bg : Nat → Nat}
theorem stp_1 {S : ES} (a : S.1.1 = 0) : (onE stp S).1 = (0, S.1.2 + 1) := by unfold onE stp; rw [if_pos a]
theorem wrg_1 {S : ES} {k : Int32} (a : S.1.1 = 0) : (onE (wrg pc k) S).1 = (k + 16 * pc S.1.2, S.1.2) := by unfold onE wrg; rw [if_pos a]
theorem tmE_1 {S : ES} {k : Int32} : (tmE L k S).1 = S.1 := by unfold tmE; split <;> rfl
theorem PaE.z (B : BgO N pc bg) : PaE kd pc nv L K N 0 := by
  intro S st a h1 h2 _
  rw [prt, if_pos a, rdF_T h1]
  by_cases c : isSt (kd S.1.2) = true
  · rw [if_pos c, if_pos c, if_pos (by omega), wrg_1 a]
    exact ⟨fun _ => rfl, fun z => absurd z (flt_no B 5 (by decide) (by decide) h1)⟩
  · rw [if_neg c, if_neg c, wrg_1 a]
    exact ⟨fun _ => rfl, fun z => absurd z (flt_no B 1 (by decide) (by decide) h1)⟩
set_option maxHeartbeats 1000000 in
theorem PaE.s {r : Nat} (hz : kd N = 0) (B : BgO N pc bg) (P : PaE kd pc nv L K N r) (C : ChE kd pc K N r (prt kd pc nv L K r) 4) : PaE kd pc nv L K N (r + 1) := by
  intro S st a h1 h2 hB
  rw [prt, if_pos a, rdF_T h1]
  by_cases c : isSt (kd S.1.2) = true
  · rw [if_pos c, if_pos c, if_neg (show ¬ st.length = 6 by omega)]
    have es := stp_1 a
    have ha : (onE stp S).1.1 = 0 := by rw [es]
    have hb : (onE stp S).1.2 = S.1.2 + 1 := by rw [es]
    have nz : ¬ kd S.1.2 = 0 := fun e => by rw [e] at c; exact absurd c (by decide)
    have h3 := kd_lt hz h1 nz
    by_cases c2 : kd S.1.2 = 2
    · rw [if_pos c2, if_neg (by rw [c2]; decide), if_neg (by rw [c2]; decide), wrt_1, es]
      exact ⟨fun z => absurd rfl z, fun _ => ⟨h3, Nat.lt_succ_self _, rfl⟩⟩
    rw [if_neg c2]
    by_cases c3 : kd S.1.2 = 87
    · rw [if_pos c3, if_pos c3, wrt_1]
      obtain ⟨p1, p2⟩ := P (onE stp S) ((true, false) :: st) ha (by rw [hb]; exact h3) (by rw [List.length_cons]; omega) hB.push
      rw [hb] at p1 p2
      refine ⟨p1, fun z => ?_⟩
      obtain ⟨y1, y2, y3⟩ := p2 z
      exact ⟨y1, by omega, y3⟩
    rw [if_neg c3, if_neg c3]
    by_cases c4 : isF (kd S.1.2) = true
    · rw [if_pos c4, if_neg (fun e => by rw [e] at c4; exact absurd c4 (by decide)), tmE_1, wrt_1, es]
      exact ⟨fun z => absurd rfl z, fun _ => ⟨h3, Nat.lt_succ_self _, rfl⟩⟩
    rw [if_neg c4]
    have k4 : kd S.1.2 = 40 := by
      rcases isSt_or.mp c with e | e | e | e
      · exact absurd e c2
      · exact absurd e c3
      · exact e
      · exact absurd e c4
    rw [if_pos k4]
    obtain ⟨p1, p2⟩ := C (onE stp S) false st ha (by rw [hb]; exact h3) (by omega) hB.push (fun _ => rfl)
    rw [hb] at p1 p2
    generalize chn kd K (prt kd pc nv L K r) 4 (onE stp S) = U at p1 p2 ⊢
    by_cases u : U.1.1 = 0
    · obtain ⟨y1, y2, c', y3, _, y5⟩ := p2 u
      rw [y3, rdF_F y1]
      have hl : ((false, c') :: st).length = st.length + 1 := rfl
      have hl0 : 0 < st.length := List.length_pos_iff.mpr hB.ne
      have ex : (onE (xpt kd pc 41) U).1 = if kd U.1.2 = 41 then (0, U.1.2 + 1) else (1 + 16 * pc U.1.2, U.1.2) := by unfold onE xpt; rw [if_pos u]
      rw [ex]
      by_cases k : kd U.1.2 = 41
      · rw [if_pos k, if_neg (by rw [k]; decide), if_neg (fun y => by rw [k] at y; exact absurd y.1 (by decide)), if_neg (by rw [k]; decide), if_pos ⟨k, by rw [hl]; omega⟩]
        exact ⟨fun z => absurd rfl z, fun _ => ⟨kd_lt hz y1 (by rw [k]; decide), by show S.1.2 < U.1.2 + 1; omega, rfl⟩⟩
      · rw [if_neg k]
        have n1 : ¬ (kd U.1.2 = 43 ∨ kd U.1.2 = 45 ∨ kd U.1.2 = 42) := fun y => by
          rcases y with e | e | e
          · exact y5.2.1 (by decide) (by rw [e]; rfl)
          · exact y5.2.1 (by decide) (by rw [e]; rfl)
          · exact y5.1 (by decide) (by rw [e]; rfl)
        have n2 : ¬ ((kd U.1.2 = 60 ∨ kd U.1.2 = 61) ∧ cmpT ((false, c') :: st) = false) := fun y => by
          have hc : c' = false := y.2
          have : c' = true := y5.2.2.1 (by decide) (by rcases y.1 with e | e <;> rw [e] <;> rfl)
          rw [hc] at this
          exact absurd this (by decide)
        have n3 : ¬ (kd U.1.2 = 88 ∨ kd U.1.2 = 89) := fun y => y5.2.2.2 (by decide) (by rcases y with e | e <;> rw [e] <;> rfl)
        rw [if_neg n1, if_neg n2, if_neg n3, if_neg (fun y => k y.1), if_neg (fun y => by rw [hl] at y; omega)]
        exact ⟨fun _ => rfl, fun z => absurd z (flt_no B 1 (by decide) (by decide) y1)⟩
    · have ex : (onE (xpt kd pc 41) U).1 = U.1 := by unfold onE xpt; rw [if_neg u]
      rw [ex]
      exact ⟨p1, fun z => absurd z u⟩
  · rw [if_neg c, if_neg c, wrg_1 a]
    exact ⟨fun _ => rfl, fun z => absurd z (flt_no B 1 (by decide) (by decide) h1)⟩
theorem ChE.of {r : Nat} (hz : kd N = 0) (hK : N ≤ K) (P : PaE kd pc nv L K N r) : ChE kd pc K N r (prt kd pc nv L K r) 4 :=
  ((((ChE.z P).s hz hK (by decide)).s hz hK (by decide)).s hz hK (by decide)).s hz hK (by decide)
theorem PaE.of (hz : kd N = 0) (hK : N ≤ K) (B : BgO N pc bg) : ∀ r, PaE kd pc nv L K N r := by
  intro r
  induction r with
  | zero => exact PaE.z B
  | succ r ih => exact ih.s hz B (ChE.of hz hK ih)
/-- a law and its sign of end -/
theorem rd_law (hz : kd N = 0) (hK : N ≤ K) (B : BgO N pc bg) {S : ES} (a : S.1.1 = 0) (h1 : S.1.2 ≤ N) : (¬ (xpt kd pc 59 (chn kd K (prt kd pc nv L K 5) 4 S).1).1 = 0 → (rdF kd pc N S.1.2 true [(false, false)]).1 = (xpt kd pc 59 (chn kd K (prt kd pc nv L K 5) 4 S).1).1) ∧ ((xpt kd pc 59 (chn kd K (prt kd pc nv L K 5) 4 S).1).1 = 0 → rdF kd pc N S.1.2 true [(false, false)] = xpt kd pc 59 (chn kd K (prt kd pc nv L K 5) 4 S).1 ∧ (chn kd K (prt kd pc nv L K 5) 4 S).1.1 = 0 ∧ (chn kd K (prt kd pc nv L K 5) 4 S).1.2 + 1 ≤ N ∧ S.1.2 < (chn kd K (prt kd pc nv L K 5) 4 S).1.2 ∧ xpt kd pc 59 (chn kd K (prt kd pc nv L K 5) 4 S).1 = (0, (chn kd K (prt kd pc nv L K 5) 4 S).1.2 + 1)) := by
  obtain ⟨p1, p2⟩ := ChE.of hz hK (PaE.of (nv := nv) (L := L) hz hK B 5) S false [] a h1 rfl ⟨fun _ => rfl, fun z => absurd rfl z⟩ (fun _ => rfl)
  generalize chn kd K (prt kd pc nv L K 5) 4 S = U at p1 p2 ⊢
  by_cases u : U.1.1 = 0
  · obtain ⟨y1, y2, c', y3, _, y5⟩ := p2 u
    rw [y3, rdF_F y1, xpt, if_pos u]
    by_cases k : kd U.1.2 = 59
    · rw [if_pos k, if_neg (by rw [k]; decide), if_neg (fun y => by rw [k] at y; exact absurd y.1 (by decide)), if_neg (by rw [k]; decide), if_neg (fun y => by rw [k] at y; exact absurd y.1 (by decide)), if_pos ⟨rfl, k⟩]
      exact ⟨fun z => absurd rfl z, fun _ => ⟨rfl, u, kd_lt hz y1 (by rw [k]; decide), y2, rfl⟩⟩
    · have n1 : ¬ (kd U.1.2 = 43 ∨ kd U.1.2 = 45 ∨ kd U.1.2 = 42) := fun y => by
        rcases y with e | e | e
        · exact y5.2.1 (by decide) (by rw [e]; rfl)
        · exact y5.2.1 (by decide) (by rw [e]; rfl)
        · exact y5.1 (by decide) (by rw [e]; rfl)
      have n2 : ¬ ((kd U.1.2 = 60 ∨ kd U.1.2 = 61) ∧ cmpT [(false, c')] = false) := fun y => by
        have hc : c' = false := y.2
        have : c' = true := y5.2.2.1 (by decide) (by rcases y.1 with e | e <;> rw [e] <;> rfl)
        rw [hc] at this
        exact absurd this (by decide)
      have n3 : ¬ (kd U.1.2 = 88 ∨ kd U.1.2 = 89) := fun y => y5.2.2.2 (by decide) (by rcases y with e | e <;> rw [e] <;> rfl)
      rw [if_neg k, if_neg n1, if_neg n2, if_neg n3, if_neg (fun y => Nat.lt_irrefl 1 y.2), if_neg (fun y => k y.2)]
      exact ⟨fun _ => rfl, fun z => absurd z (flt_no B 1 (by decide) (by decide) y1)⟩
  · rw [show xpt kd pc 59 U.1 = U.1 by rw [xpt, if_neg u]]
    exact ⟨p1, fun z => absurd z u⟩
end RAUTO4
