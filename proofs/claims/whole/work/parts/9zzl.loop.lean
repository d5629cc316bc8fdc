/-! The law's loop: every call is answered alike. -/
def LwI (x : Nat) (h : am_H) (A : rA) (zb sb t : Nat) : Prop := RepX x (x + 108) h A ∧ RepM (x + 69) h A ∧ (hK h (x + 107) = 13 ∧ hN h (x + 107) = 1) ∧ x + 108 ≤ hZ h ∧ hZ h ≤ zb + 13 * t ∧ hS h ≤ sb + 1146 * t
def lvL (b x i : Nat) : List (Nat × Value) := [(0, .ref b), (1, .ref x), (2, .ref (x + 69)), (3, .ref (x + 107)), (4, .int (nI i))]
/-- the call of turn, in the law's own method -/
def TurnC (w : am_W) (b x : Nat) : Prop := ∀ (h : am_H) (A : rA) (i : Nat) (p mi : Int32) (Q : Option Value → am_H → Prop), RepX x (x + 108) h A → hK h (x + 107) = 13 → hN h (x + 107) = 1 → x + 108 ≤ hZ h →
  (∀ (h' : am_H) (k : Int32), ((k = 0 ∧ mayT (rvOf A.2.2.1) p mi = true ∧ hJ h' (x + 107) 0 = Int32.toInt64 (gain (rvOf A.2.2.1) p.toNatClampNeg mi.toNatClampNeg)) ∨ (k = 1 ∧ mayT (rvOf A.2.2.1) p mi = false)) → (∀ a, x + 69 ≤ a → a ≤ x + 106 → same h h' a) → hK h' (x + 107) = 13 → hN h' (x + 107) = 1 → RepX x (x + 108) h' A → hZ h ≤ hZ h' → hZ h' ≤ hZ h + 13 → hS h' ≤ hS h + 1146 → Ev w (zL w b) mL_law 61 597 (lvL b x i) [.int k] h' Q) →
  Ev w (zL w b) mL_law 61 594 (lvL b x i) [.ref (x + 107), .int mi, .int p, .ref x] h Q
section LOOP
variable {w : am_W} {Q : Option Value → am_H → Prop} {x zb sb t : Nat} {h h1 h2 : am_H} {A A' : rA}
theorem LwI.mid (I : LwI x h A zb sb t) (F : QF x h h1) : RepM (x + 69) h1 A := I.2.1.sm (fun a y1 y2 => F.1 a (by omega))
theorem LwI.end' (I : LwI x h A zb sb t) (F : QF x h h1) (R1 : RepX x (x + 108) h1 A') (G : FrM (x + 69) h1 h2) (R2 : RepM (x + 69) h2 A') : LwI x h2 A' zb sb (t + 1) := by
  obtain ⟨_, _, ⟨k, n⟩, z, z1, s1⟩ := I
  have so := F.1 (x + 107) (by omega)
  obtain ⟨g1, g2, g3, g4, g5, g6⟩ := G
  refine ⟨R1.frM ⟨g1, g2, g3, g4, g5, g6⟩ (by omega) (by omega), R2, ⟨by rw [g1, so.1]; exact k, by rw [g2, so.2.1]; exact n⟩, by rw [g4, F.2.1]; exact z, by rw [g4, F.2.1]; omega, by rw [g5, F.2.2]; omega⟩
theorem LwI.end2 (I : LwI x h A zb sb t) (z0 : hZ h ≤ hZ h1) (z1 : hZ h1 ≤ hZ h + 13) (s1 : hS h1 ≤ hS h + 1146) (o1 : hK h1 (x + 107) = 13) (o2 : hN h1 (x + 107) = 1) (R1 : RepX x (x + 108) h1 A') (G : FrM (x + 69) h1 h2) (R2 : RepM (x + 69) h2 A') : LwI x h2 A' zb sb (t + 1) := by
  obtain ⟨_, _, _, z, zz, ss⟩ := I
  obtain ⟨g1, g2, g3, g4, g5, g6⟩ := G
  exact ⟨R1.frM ⟨g1, g2, g3, g4, g5, g6⟩ (by omega) (by omega), R2, ⟨by rw [g1]; exact o1, by rw [g2]; exact o2⟩, by omega, by omega, by omega⟩
theorem LwI.k9 (I : LwI x h A zb sb t) : hK h x = 9 := I.1.2.1.1.1
theorem ix_lt {L i : Nat} (hL : L ≤ 3584) (hi : i ≤ 4000) : nI L - 7 < nI i ↔ L < i + 7 := by
  by_cases c : 7 ≤ L
  · rw [show (7 : Int32) = nI 7 by decide, nI_sub c, nI_ltI (by omega) (by omega)]; omega
  · have : ∀ l : Fin 7, nI l.1 - 7 < 0 := by decide
    refine ⟨fun _ => by omega, fun _ => Int32.lt_of_lt_of_le (this ⟨L, by omega⟩) ?_⟩
    rw [← nI_0, nI_leI (by decide) (by omega)]; exact Nat.zero_le _
theorem law_loop {ad av : Nat → Nat} {sf : Value} {b L : Nat} {xs : Nat → Int32} (hs : ScW w b L xs) (hw : StW w ad av sf) (hT : TurnC w b x) (hL : L ≤ 3584)
    (q : ∀ h A t, t ≤ 512 → LwI x h A zb sb t → Q (some (.int 1)) h) : ∀ k t h A, t + k = 513 → 7 * t ≤ L → LwI x h A zb sb t → Ev w (zL w b) mL_law 61 23 (lvL b x (7 * t)) [] h Q := by
  intro k
  induction k with
  | zero => intro t h A ht hl I; omega
  | succ k ih =>
    intro t h A ht hl I
    have nx : ∀ h' A', 7 * t + 7 ≤ L → LwI x h' A' zb sb (t + 1) → Ev w (zL w b) mL_law 61 1066 (lvL b x (7 * t)) [] h' Q := fun h' A' hl' I' => by
      refine bL_law_1066 (d := 60) hs ?_
      have e : nI (7 * t) + 7 = nI (7 * (t + 1)) := by rw [show (7 : Int32) = nI 7 by decide, nI_add]; congr 1
      rw [e]
      exact ih (t + 1) h' A' (by omega) (by omega) I'
    have R := I.1
    have RM := I.2.1
    have k9 := I.k9
    have k10 : ∀ h', RepM (x + 69) h' A → hK h' (x + 69) = 10 := fun h' R' => R'.1.1.1
    have n8 : ncs (rvOf A.2.2.1) ≤ 8 := R.2.2.2.1.1.1.2.2.2.2.2.2.2.2.2.2.2.2.1
    refine bL_law_23 (d := 60) hs ⟨fun c => q h A t (by omega) I, fun c => ?_⟩
    rw [ix_lt hL (by omega)] at c
    have hl' : 7 * t + 7 ≤ L := by omega
    have vp : ∀ j : Nat, j ≤ 6 → vp_in (nI (7 * t) + nI j) L := fun j hj => by rw [nI_add]; exact vp_in_nI (by omega) (by omega)
    have v1 : vp_in (nI (7 * t) + 1) L := vp 1 (by decide)
    have v2 : vp_in (nI (7 * t) + 2) L := vp 2 (by decide)
    have v3 : vp_in (nI (7 * t) + 3) L := vp 3 (by decide)
    have v4 : vp_in (nI (7 * t) + 4) L := vp 4 (by decide)
    have v5 : vp_in (nI (7 * t) + 5) L := vp 5 (by decide)
    have v6 : vp_in (nI (7 * t) + 6) L := vp 6 (by decide)
    refine ⟨vp_in_nI (by omega) (by omega), ?_⟩
    have c0 : Ev w (zL w b) mL_law 61 160 (lvL b x (7 * t)) [] h Q := bL_law_160 (d := 60) hs ⟨v1, v2, v3, v4, v5, v6, k9, c_feedX (d := 59) R (fun h1 F1 R1 => ⟨_, rfl, v1, v2, v3, v4, v5, v6, k10 h1 (I.mid F1), c_feed (d := 60) (I.mid F1) (fun h2 F2 R2 => ⟨_, rfl, fun _ => nx h2 _ hl' (I.end' F1 R1 F2 R2), fun z => absurd rfl z⟩)⟩)⟩
    obtain ⟨K, eK⟩ : ∃ K, K = 1000 := ⟨_, rfl⟩
    have c1 : Ev w (zL w b) mL_law 61 307 (lvL b x (7 * t)) [] h Q := by
      refine bL_law_307 (d := 60) hs ⟨k9, c_riverX (d := 17) (K := K) eK hw R I.2.2.2.1 (fun h1 F1 z1 s1 R1 => ⟨_, rfl, ?_⟩)⟩
      have hz := I.2.2.2.1
      have M1 : RepM (x + 69) h1 A := RM.sm (fun a y1 y2 => F1 a (Or.inr (Or.inr ⟨by omega, by omega⟩)))
      have so := F1 (x + 107) (Or.inr (Or.inr ⟨by omega, by omega⟩))
      refine ⟨k10 h1 M1, c_riverR (d := 55) (K := K) (row := hI h (x + 19)) eK M1 (fun h2 F2 R2 => ⟨_, rfl, fun _ => nx h2 _ hl' (I.end2 (by omega) (by omega) s1 (so.1.trans I.2.2.1.1) (so.2.1.trans I.2.2.1.2) R1 F2 R2), fun z => absurd rfl z⟩)⟩
    have c2 : Ev w (zL w b) mL_law 61 320 (lvL b x (7 * t)) [] h Q := bL_law_320 (d := 60) hs ⟨v1, v2, k9, c_personX (d := 59) R ⟨_, rfl, v1, v2, k10 h (RM), c_person (d := 59) (RM) (fun h2 F2 => ⟨_, rfl, fun _ => nx h2 _ hl' (I.end' QF.rf R F2.M ((RM).fr F2)), fun z => absurd rfl z⟩)⟩⟩
    have c3 : Ev w (zL w b) mL_law 61 357 (lvL b x (7 * t)) [] h Q := bL_law_357 (d := 60) hs ⟨v1, k9, c_useX (d := 59) R (fun h1 F1 R1 => ⟨_, rfl, v1, k10 h1 (I.mid F1), c_use (d := 59) (I.mid F1) (fun h2 F2 R2 => ⟨_, rfl, fun _ => nx h2 _ hl' (I.end' F1 R1 F2 R2), fun z => absurd rfl z⟩)⟩)⟩
    have c4 : Ev w (zL w b) mL_law 61 382 (lvL b x (7 * t)) [] h Q := bL_law_382 (d := 60) hs ⟨k9, c_ringsX (d := 54) R (fun h1 F1 R1 => ⟨_, rfl, k10 h1 (I.mid F1), c_rings (d := 54) (I.mid F1).rv (fun h2 F2 => ⟨_, rfl, fun _ => nx h2 _ hl' (I.end' F1 R1 F2.M ((I.mid F1).fr F2)), fun z => absurd rfl z⟩)⟩)⟩
    have c5 : Ev w (zL w b) mL_law 61 395 (lvL b x (7 * t)) [] h Q := bL_law_395 (d := 60) hs ⟨v1, v2, k9, c_ringX (d := 54) R (fun h1 F1 R1 => ⟨_, rfl, v1, v2, k10 h1 (I.mid F1), c_ring (d := 54) (I.mid F1).rv (fun h2 F2 => ⟨_, rfl, fun _ => nx h2 _ hl' (I.end' F1 R1 F2.M ((I.mid F1).fr F2)), fun z => absurd rfl z⟩)⟩)⟩
    have c6 : Ev w (zL w b) mL_law 61 432 (lvL b x (7 * t)) [] h Q := bL_law_432 (d := 60) hs ⟨v1, v2, k9, c_waitsX (d := 54) R (fun h1 F1 R1 => ⟨_, rfl, v1, v2, k10 h1 (I.mid F1), c_waits (d := 54) (I.mid F1).rv (fun h2 F2 => ⟨_, rfl, fun _ => nx h2 _ hl' (I.end' F1 R1 F2.M ((I.mid F1).fr F2)), fun z => absurd rfl z⟩)⟩)⟩
    have c7 : Ev w (zL w b) mL_law 61 469 (lvL b x (7 * t)) [] h Q := bL_law_469 (d := 60) hs ⟨v1, k9, c_allX (d := 54) R (fun h1 F1 R1 => ⟨_, rfl, v1, k10 h1 (I.mid F1), c_all (d := 54) (I.mid F1).rv (fun h2 F2 => ⟨_, rfl, fun _ => nx h2 _ hl' (I.end' F1 R1 F2.M ((I.mid F1).fr F2)), fun z => absurd rfl z⟩)⟩)⟩
    have c8 : Ev w (zL w b) mL_law 61 494 (lvL b x (7 * t)) [] h Q := bL_law_494 (d := 60) hs ⟨v1, v2, v3, k9, c_bankX (d := 54) R (fun h1 F1 R1 => ⟨_, rfl, v1, v2, v3, k10 h1 (I.mid F1), c_bank (d := 54) (I.mid F1).rv (fun h2 F2 => ⟨_, rfl, fun _ => nx h2 _ hl' (I.end' F1 R1 F2.M ((I.mid F1).fr F2)), fun z => absurd rfl z⟩)⟩)⟩
    have c9 : Ev w (zL w b) mL_law 61 543 (lvL b x (7 * t)) [] h Q := bL_law_543 (d := 60) hs ⟨v1, v2, k9, c_sendX (d := 54) R (fun h1 F1 R1 => ⟨_, rfl, v1, v2, k10 h1 (I.mid F1), c_send (d := 54) (I.mid F1).rv (fun h2 F2 => ⟨_, rfl, fun _ => nx h2 _ hl' (I.end' F1 R1 F2.M ((I.mid F1).fr F2)), fun z => absurd rfl z⟩)⟩)⟩
    have c10 : Ev w (zL w b) mL_law 61 580 (lvL b x (7 * t)) [] h Q := by
      refine bL_law_580 (d := 60) hs ⟨v1, v2, hT h A (7 * t) _ _ Q R I.2.2.1.1 I.2.2.1.2 I.2.2.2.1 (fun h1 kk hk F1 o1 o2 R1 z0 z1 s1 => ?_)⟩
      have M1 : RepM (x + 69) h1 A := RM.sm (fun a y1 y2 => F1 a y1 (by omega))
      have fin : ∀ h2, FrM (x + 69) h1 h2 → RepM (x + 69) h2 A → LwI x h2 A zb sb (t + 1) := fun h2 F2 R2 => I.end2 z0 z1 s1 o1 o2 R1 F2 R2
      refine bL_law_597 (d := 60) hs ⟨v1, v2, k10 h1 M1, c_turn (d := 53) M1.rv (fun h2 F2 e2 => ⟨_, rfl, ?_⟩)⟩
      have M2 := M1.fr F2
      refine ⟨k10 h2 M2, bX10_thrown_0 ⟨M2.1.1, ?_⟩⟩
      rw [e2]
      have o2' : hK h2 (x + 107) = 13 ∧ hN h2 (x + 107) = 1 ∧ hJ h2 (x + 107) = hJ h1 (x + 107) := ⟨by rw [F2.1]; exact o1, by rw [F2.2.1]; exact o2, F2.2.2.2.2.2.2.2.1 _ (by omega)⟩
      rcases hk with ⟨e0, e1, e3⟩ | ⟨e0, e1⟩
      · rw [e1, e0]
        refine ⟨_, rfl, fun _ => ⟨fun _ => ⟨o2'.1, by rw [o2'.2.1]; show vp_in (nI 0) 1; exact vp_in_nI (by decide) (by decide), fun _ => nx h2 A hl' (fin h2 F2.M M2), fun z => absurd ?_ z⟩, fun z => absurd rfl z⟩, fun z => absurd rfl z⟩
        rw [cl0, o2'.2.2]
        exact e3
      · rw [e1, e0]
        exact ⟨_, rfl, fun _ => ⟨fun z => absurd z (by decide), fun _ => nx h2 A hl' (fin h2 F2.M M2)⟩, fun z => absurd rfl z⟩
    have c11 : Ev w (zL w b) mL_law 61 648 (lvL b x (7 * t)) [] h Q := bL_law_648 (d := 60) hs ⟨v1, k9, c_asksX (d := 54) R (fun h1 F1 R1 => ⟨_, rfl, v1, k10 h1 (I.mid F1), c_asks (d := 53) (I.mid F1).rv (fun h2 F2 => ⟨_, rfl, fun _ => nx h2 _ hl' (I.end' F1 R1 F2.M ((I.mid F1).fr F2)), fun z => absurd rfl z⟩)⟩)⟩
    have c12 : Ev w (zL w b) mL_law 61 673 (lvL b x (7 * t)) [] h Q := bL_law_673 (d := 60) hs ⟨v1, k9, c_choiceX (d := 54) R (fun h1 F1 R1 => ⟨_, rfl, v1, k10 h1 (I.mid F1), c_choice (d := 53) (I.mid F1).rv n8 (fun h2 F2 => ⟨_, rfl, fun _ => nx h2 _ hl' (I.end' F1 R1 F2.M ((I.mid F1).fr F2)), fun z => absurd rfl z⟩)⟩)⟩
    have c13 : Ev w (zL w b) mL_law 61 698 (lvL b x (7 * t)) [] h Q := bL_law_698 (d := 60) hs ⟨v1, k9, c_chosenX (d := 55) R (fun h1 F1 R1 => ⟨_, rfl, v1, k10 h1 (I.mid F1), c_chosen (d := 54) (I.mid F1).rv n8 (fun h2 F2 => ⟨_, rfl, fun _ => nx h2 _ hl' (I.end' F1 R1 F2.M ((I.mid F1).fr F2)), fun z => absurd rfl z⟩)⟩)⟩
    have c14 : Ev w (zL w b) mL_law 61 723 (lvL b x (7 * t)) [] h Q := bL_law_723 (d := 60) hs ⟨k9, c_restsX (d := 54) R (fun h1 F1 R1 => ⟨_, rfl, k10 h1 (I.mid F1), c_rests (d := 53) (I.mid F1).rv n8 (fun h2 F2 => ⟨_, rfl, fun _ => nx h2 _ hl' (I.end' F1 R1 F2.M ((I.mid F1).fr F2)), fun z => absurd rfl z⟩)⟩)⟩
    have c15 : Ev w (zL w b) mL_law 61 736 (lvL b x (7 * t)) [] h Q := bL_law_736 (d := 60) hs ⟨v1, k9, c_restX (d := 54) R (fun h1 F1 R1 => ⟨_, rfl, v1, k10 h1 (I.mid F1), c_rest (d := 53) (I.mid F1).rv n8 (fun h2 F2 => ⟨_, rfl, fun _ => nx h2 _ hl' (I.end' F1 R1 F2.M ((I.mid F1).fr F2)), fun z => absurd rfl z⟩)⟩)⟩
    have c16 : Ev w (zL w b) mL_law 61 761 (lvL b x (7 * t)) [] h Q := bL_law_761 (d := 60) hs ⟨v1, k9, c_tellX (d := 58) R (fun h1 F1 R1 => ⟨_, rfl, v1, k10 h1 (I.mid F1), c_tell (d := 59) (I.mid F1) (fun h2 F2 R2 => ⟨_, rfl, fun _ => nx h2 _ hl' (I.end' F1 R1 F2 R2), fun z => absurd rfl z⟩)⟩)⟩
    have c17 : Ev w (zL w b) mL_law 61 786 (lvL b x (7 * t)) [] h Q := bL_law_786 (d := 60) hs ⟨k9, c_clearX (d := 60) R (fun h1 F1 R1 => ⟨_, rfl, k10 h1 (I.mid F1), c_clear (d := 60) (I.mid F1) (fun h2 F2 R2 => ⟨_, rfl, fun _ => nx h2 _ hl' (I.end' F1 R1 F2 R2), fun z => absurd rfl z⟩)⟩)⟩
    have c18 : Ev w (zL w b) mL_law 61 799 (lvL b x (7 * t)) [] h Q := bL_law_799 (d := 60) hs ⟨v1, k9, c_judgedX (d := 54) R (fun h1 F1 R1 => ⟨_, rfl, v1, k10 h1 (I.mid F1), c_judged (d := 54) (I.mid F1) (fun h2 F2 => ⟨_, rfl, fun _ => nx h2 _ hl' (I.end' F1 R1 F2.M ((I.mid F1).fr F2)), fun z => absurd rfl z⟩)⟩)⟩
    have c19 : Ev w (zL w b) mL_law 61 824 (lvL b x (7 * t)) [] h Q := bL_law_824 (d := 60) hs ⟨v1, v2, k9, c_likelyX (d := 57) R ⟨_, rfl, v1, v2, k10 h (RM), c_likely (d := 58) (RM) (fun h2 F2 => ⟨_, rfl, fun _ => nx h2 _ hl' (I.end' QF.rf R F2.M ((RM).fr F2)), fun z => absurd rfl z⟩)⟩⟩
    have c20 : Ev w (zL w b) mL_law 61 862 (lvL b x (7 * t)) [] h Q := bL_law_862 (d := 60) hs ⟨v1, v2, k9, c_meanX (d := 57) R ⟨_, rfl, v1, v2, k10 h (RM), c_mean (d := 58) (RM) (fun h2 F2 => ⟨_, rfl, fun _ => nx h2 _ hl' (I.end' QF.rf R F2.M ((RM).fr F2)), fun z => absurd rfl z⟩)⟩⟩
    have c21 : Ev w (zL w b) mL_law 61 900 (lvL b x (7 * t)) [] h Q := bL_law_900 (d := 60) hs ⟨v1, k9, c_cameX (d := 59) ⟨_, rfl, v1, k10 h (RM), c_came (d := 59) (RM) (fun h2 F2 => ⟨_, rfl, fun _ => nx h2 _ hl' (I.end' QF.rf R F2.M ((RM).fr F2)), fun z => absurd rfl z⟩)⟩⟩
    have c22 : Ev w (zL w b) mL_law 61 926 (lvL b x (7 * t)) [] h Q := bL_law_926 (d := 60) hs ⟨v1, v2, v3, k9, c_lotsX (d := 54) R (fun h1 F1 R1 => ⟨_, rfl, v1, v2, v3, k10 h1 (I.mid F1), c_lots (d := 54) (I.mid F1) (fun h2 F2 => ⟨_, rfl, fun _ => nx h2 _ hl' (I.end' F1 R1 F2.M ((I.mid F1).fr F2)), fun z => absurd rfl z⟩)⟩)⟩
    have c23 : Ev w (zL w b) mL_law 61 975 (lvL b x (7 * t)) [] h Q := bL_law_975 (d := 60) hs ⟨k9, c_bestX (d := 55) R (fun h1 F1 R1 => ⟨_, rfl, k10 h1 (I.mid F1), c_best (d := 54) (I.mid F1) (fun h2 F2 R2 => ⟨_, rfl, fun _ => nx h2 _ hl' (I.end' F1 R1 F2 R2), fun z => absurd rfl z⟩)⟩)⟩
    have c24 : Ev w (zL w b) mL_law 61 988 (lvL b x (7 * t)) [] h Q := by
      refine bL_law_988 (d := 60) hs ⟨v1, v2, fun e => bL_law_1009 (d := 60) hs ⟨k9, c_markX (d := 58) R (fun h1 F1 R1 => ⟨_, rfl, v1, v2, fun _ => ⟨k10 h1 (I.mid F1), c_mark (d := 58) (Or.inl rfl) (I.mid F1) (fun h2 F2 R2 => ⟨_, rfl, fun _ => nx h2 _ hl' (I.end' F1 R1 F2 R2), fun z => absurd rfl z⟩)⟩, fun z => absurd e z⟩)⟩, fun e => bL_law_1009 (d := 60) hs ⟨k9, c_markX (d := 58) R (fun h1 F1 R1 => ⟨_, rfl, v1, v2, fun z => absurd z e, fun _ => ⟨k10 h1 (I.mid F1), c_mark (d := 58) (Or.inr rfl) (I.mid F1) (fun h2 F2 R2 => ⟨_, rfl, fun _ => nx h2 _ hl' (I.end' F1 R1 F2 R2), fun z => absurd rfl z⟩)⟩⟩)⟩⟩
    have c25 : Ev w (zL w b) mL_law 61 1041 (lvL b x (7 * t)) [] h Q := bL_law_1041 (d := 60) hs ⟨v1, k9, c_countX (d := 60) R ⟨_, rfl, v1, k10 h (RM), c_count (d := 59) (RM) (fun h2 F2 => ⟨_, rfl, fun _ => nx h2 _ hl' (I.end' QF.rf R F2.M ((RM).fr F2)), fun z => absurd rfl z⟩)⟩⟩
    exact ⟨fun _ => c0, fun _ => ⟨fun _ => c1, fun _ => ⟨fun _ => c2, fun _ => ⟨fun _ => c3, fun _ => ⟨fun _ => c4, fun _ => ⟨fun _ => c5, fun _ => ⟨fun _ => c6, fun _ => ⟨fun _ => c7, fun _ => ⟨fun _ => c8, fun _ => ⟨fun _ => c9, fun _ => ⟨fun _ => c10, fun _ => ⟨fun _ => c11, fun _ => ⟨fun _ => c12, fun _ => ⟨fun _ => c13, fun _ => ⟨fun _ => c14, fun _ => ⟨fun _ => c15, fun _ => ⟨fun _ => c16, fun _ => ⟨fun _ => c17, fun _ => ⟨fun _ => c18, fun _ => ⟨fun _ => c19, fun _ => ⟨fun _ => c20, fun _ => ⟨fun _ => c21, fun _ => ⟨fun _ => c22, fun _ => ⟨fun _ => c23, fun _ => ⟨fun _ => c24, fun _ => ⟨fun _ => c25, fun _ => nx h A hl' ⟨R, RM, I.2.2.1, I.2.2.2.1, by have := I.2.2.2.2.1; omega, by have := I.2.2.2.2.2; omega⟩⟩⟩⟩⟩⟩⟩⟩⟩⟩⟩⟩⟩⟩⟩⟩⟩⟩⟩⟩⟩⟩⟩⟩⟩⟩⟩
end LOOP
