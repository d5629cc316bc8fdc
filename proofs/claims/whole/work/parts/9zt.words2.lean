/-! The class's words: a word's kind; the signs. -/
section WORDS2
variable {w : am_W} {d : Nat} {h : am_H} {Q : Option Value → am_H → Prop} {ad av : Nat → Nat} {sf : Value} {x n : Nat} {s : Nat → Int32}
theorem sgn_tb : ∀ c : Fin 127, (isG (nI c.1) = true ↔ ∃ j : Fin 8, sBy 1 j.1 = nI c.1) ∧ (Int32.toInt8 (nI c.1)).toInt32 = nI c.1 := by decide +kernel
theorem c_indexOfS {c : Nat} (hw : StW w ad av sf) (hc : c ≤ 126) (q : ∀ r : Int32, (r < 0 ↔ ¬ isG (nI c) = true) → Q (some (.int r)) h) : EvM w mJ0_indexOf_0f7a4 (d + 4) [.ref (ad 1), .int (nI c)] h Q := by
  obtain ⟨t1, t2⟩ := sgn_tb ⟨c, by omega⟩
  dsimp only at t1 t2
  have loop : ∀ (Q' : Option Value → am_H → Prop), (∀ r : Int32, (r < 0 ↔ ¬ isG (nI c) = true) → Q' (some (.int r)) h) → ∀ k j : Nat, j + k = 8 → (∀ i, i < j → ¬ sBy 1 i = nI c) → Ev w (am_Z w) mJ1_indexOfChar_4cfef (d + 1) 7 [(0, .ref (av 1)), (3, .int (nI 8)), (4, .int (nI c)), (5, .int (nI j))] [] h Q' := by
    intro Q' q k
    induction k with
    | zero =>
      intro j hj hn
      have hj : j = 8 := by omega
      subst hj
      refine bJ1_indexOfChar_4cfef_7 hw (by decide) ⟨fun _ => q _ ⟨fun _ z => ?_, fun _ => by decide⟩, fun y => absurd (Int32.le_refl _) y⟩
      obtain ⟨i, hi⟩ := t1.mp z
      exact hn i.1 i.2 hi
    | succ k ih =>
      intro j hj hn
      refine bJ1_indexOfChar_4cfef_7 hw (by decide) ⟨fun y => absurd y (by rw [nI_leI (by decide) (by omega)]; omega), fun _ => ⟨vp_in_nI (by show j < 8; omega) (by decide), fun y => q _ ⟨fun z => absurd z (nI_pos (by omega)), fun z => absurd (t1.mpr ⟨⟨j, by omega⟩, ?_⟩) z⟩, fun y => ?_⟩⟩
      · rw [nI_clamp (by omega)] at y; exact y
      · rw [nI_clamp (by omega)] at y
        rw [nI_1]
        exact ih (j + 1) (by omega) (fun i hi => by
          by_cases e : i = j
          · rw [e]; exact y
          · exact hn i (by omega))
  refine bJ0_indexOf_0f7a4_0 hw (by decide) (bJ0_indexOf_7cf53_0 hw (by decide) (bJ0_isLatin1_aae02_0 hw (by decide) ⟨_, rfl, fun z => absurd z (by decide), fun _ => c_lengthS (d := d + 1) hw (by decide) ⟨_, rfl, bJ1_indexOf_4cfef_0 hw (by decide) (bJ1_canEncode_9a6ad_0 hw (i := 1) (by decide) ⟨fun z => absurd z (nI_pos (by omega)), fun _ => ⟨fun z => absurd z ?_, fun _ => ⟨_, rfl, fun z => absurd z (by decide), fun _ => ⟨fun _ => ?_, fun z => absurd (by decide) z⟩⟩⟩⟩)⟩⟩))
  · rw [show (255 : Int32) = nI 255 by decide, nI_ltI (by decide) (by omega)]; omega
  · have e3 : (if nI (sLn 1) < nI (sLn 1) then nI (sLn 1) else nI (sLn 1)) = nI 8 := by decide
    have e2 : (if (0 : Int32) < 0 then (0 : Int32) else 0) = nI 0 := by decide
    rw [e3, e2]
    refine bJ1_indexOfChar_4cfef_0 hw (by decide) ?_
    rw [t2]
    exact loop _ (fun r hr => ⟨_, rfl, _, rfl, _, rfl, q r hr⟩) 8 0 rfl (fun i hi => by omega)
theorem c_isWordX {k b len : Nat} (hw : StW w ad av sf) (L8 : am_L 8 (x + 13) h) (hN' : hN h (x + 14) = 1000) (T : TpX x h (n, s)) (hk : k < 26) (hb : b + len ≤ n) (q1 : wEq s b len k → Q (some (.int 1)) h) (q0 : ¬ wEq s b len k → Q (some (.int 0)) h) : EvM w mX8_isWord (d + 4) [.ref (x + 13), .int (nI k), .int (nI b), .int (nI (b + len))] h Q := by
  have hn : n ≤ 1000 := T.2.2.1
  have loop : ∀ e j : Nat, j + e = 8 → (∀ i, i < j → sBy 0 (8 * k + i) = if i < len then s (b + i) else 32) → Ev w (am_Z w) mX8_isWord (d + 4) 3 [(0, .ref (x + 13)), (1, .int (nI k)), (2, .int (nI b)), (3, .int (nI (b + len))), (4, .int (nI j))] [] h Q := by
    intro e
    induction e with
    | zero =>
      intro j hj hh
      have hj : j = 8 := by omega
      subst hj
      exact bX8_isWord_3 hw ⟨fun _ => q1 hh, fun y => absurd (Int32.le_refl _) y⟩
    | succ e ih =>
      intro j hj hh
      have ep : nI k * 8 + nI j = nI (8 * k + j) := by rw [show (8 : Int32) = nI 8 by decide, pk_mul, nI_add, Nat.mul_comm]
      have go : ∀ v : Int32, v = (if j < len then s (b + j) else 32) → Ev w (am_Z w) mX8_isWord (d + 4) 40 [(0, .ref (x + 13)), (1, .int (nI k)), (2, .int (nI b)), (3, .int (nI (b + len))), (4, .int (nI j)), (5, .int (nI k * 8 + nI j))] [.int v] h Q := by
        intro v hv
        rw [ep]
        refine bX8_isWord_40 hw ⟨fun y => absurd y (nI_pos (by omega)), fun _ => c_lengthS (d := d + 2) hw (by decide) ⟨_, rfl, fun y => absurd y ?_, fun _ => c_charAtS hw (k := 8 * k + j) (by omega) ⟨_, rfl, fun y => ?_, fun y => q0 (fun z => y ?_)⟩⟩⟩
        · show ¬ nI 208 ≤ nI (8 * k + j)
          rw [nI_leI (by decide) (by omega)]; omega
        · rw [nI_1]
          exact ih (j + 1) (by omega) (fun i hi => by
            by_cases c : i = j
            · rw [c, y, hv]
            · exact hh i (by omega))
        · rw [z j (by omega), hv]
      refine bX8_isWord_3 hw ⟨fun y => absurd y ?_, fun _ => ⟨fun y => go 32 ?_, fun y => ⟨L8, c_signAtX L8 hN' T ⟨_, rfl, go _ ?_⟩⟩⟩⟩
      · rw [show (8 : Int32) = nI 8 by decide, nI_leI (by decide) (by omega)]; omega
      · rw [nI_add, nI_leI (by omega) (by omega)] at y
        rw [if_neg (by omega)]
      · rw [nI_add, nI_leI (by omega) (by omega)] at y
        rw [nI_add, sgA_nI (by omega) (by omega), if_neg (by omega), if_pos (by omega)]
  exact bX8_isWord_0 hw (loop 8 0 rfl (fun i hi => by omega))
theorem c_wordKindX {b len : Nat} (hw : StW w ad av sf) (L8 : am_L 8 (x + 13) h) (hN' : hN h (x + 14) = 1000) (T : TpX x h (n, s)) (hl : len ≤ 8) (hb : b + len ≤ n) (hL : ∀ i, i < len → isL (s (b + i)) = true) (q : Q (some (.int (wdk (wd27 s b len)))) h) : EvM w mX8_wordKind (d + 5) [.ref (x + 13), .int (nI b), .int (nI (b + len))] h Q := by
  have loop : ∀ e j : Nat, j + e = 26 → (∀ i, i < j → ¬ wtb[i]? = some (wd27 s b len)) → Ev w (am_Z w) mX8_wordKind (d + 5) 2 [(0, .ref (x + 13)), (1, .int (nI b)), (2, .int (nI (b + len))), (3, .int (nI j))] [] h Q := by
    intro e
    induction e with
    | zero =>
      intro j hj hh
      have hj : j = 26 := by omega
      subst hj
      refine bX8_wordKind_2 hw (c_lengthS (d := d + 3) hw (by decide) ⟨_, rfl, fun _ => ?_, fun y => absurd (by decide) y⟩)
      have : wdk (wd27 s b len) = 3 := by
        unfold wdk
        rw [if_neg]
        intro m
        obtain ⟨i, hi, e⟩ := List.mem_iff_getElem.mp m
        exact hh i hi (by rw [List.getElem?_eq_getElem hi, e])
      rw [this] at q
      exact q
    | succ e ih =>
      intro j hj hh
      refine bX8_wordKind_2 hw (c_lengthS (d := d + 3) hw (by decide) ⟨_, rfl, fun y => absurd y ?_, fun _ => ⟨L8, c_isWordX hw L8 hN' T (by omega) hb (fun z => ⟨_, rfl, fun y => absurd y (by decide), fun _ => ?_⟩) (fun z => ⟨_, rfl, fun _ => ?_, fun y => absurd rfl y⟩)⟩⟩)
      · rw [show nI (sLn 0) / 8 = nI 26 by decide, nI_leI (by decide) (by omega)]; omega
      · have m := (wEq_iff (by omega) hl hL).mp z
        rw [(wdk_iff (by omega) m).mpr rfl] at q
        rw [show (64 : Int32) = nI 64 by decide, nI_add]
        exact q
      · rw [nI_1]
        exact ih (j + 1) (by omega) (fun i hi => by
          by_cases c : i = j
          · rw [c]; exact fun m => z ((wEq_iff (by omega) hl hL).mpr m)
          · exact hh i (by omega))
  exact bX8_wordKind_0 hw (loop 26 0 rfl (fun i hi => by omega))
end WORDS2
