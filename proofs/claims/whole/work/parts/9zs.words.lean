/-! The class's words: its table of letters and the numbers of the reference. -/
def wtN : List Nat := [365647, 407041, 1359415, 380651, 70340, 8798, 232608281, 411, 47, 332864552, 70517, 240023, 9748424, 6624454, 9813100, 453701, 191610176, 8740238, 3328, 1758676, 60284, 298503054, 1285333587, 10631, 1111, 423]
def wlN : List Nat := [4, 4, 5, 4, 4, 3, 6, 2, 2, 6, 4, 4, 5, 5, 5, 4, 6, 5, 3, 5, 4, 6, 7, 3, 3, 2]
def wfN (k i : Nat) : Nat := (sBy 0 (8 * k + i)).toNatClampNeg - 96
theorem wtb_N : wtb = wtN.map Int64.ofNat := by decide
theorem wrd_ok : ∀ k : Fin 26, wlN.getD k.1 0 ≤ 8 ∧ encN 27 (wfN k.1) (wlN.getD k.1 0) = wtN.getD k.1 0 ∧ ∀ i : Fin 8, (i.1 < wlN.getD k.1 0 → 1 ≤ wfN k.1 i.1 ∧ wfN k.1 i.1 ≤ 26 ∧ sBy 0 (8 * k.1 + i.1) = nI (96 + wfN k.1 i.1)) ∧ (¬ i.1 < wlN.getD k.1 0 → sBy 0 (8 * k.1 + i.1) = 32) := by decide +kernel
/-- the word k stands from b on, len letters -/
def wEq (s : Nat → Int32) (b len k : Nat) : Prop := ∀ i, i < 8 → sBy 0 (8 * k + i) = if i < len then s (b + i) else 32
theorem wEq_iff {s : Nat → Int32} {b len k : Nat} (hk : k < 26) (hl : len ≤ 8) (h : ∀ i, i < len → isL (s (b + i)) = true) : wEq s b len k ↔ wtb[k]? = some (wd27 s b len) := by
  obtain ⟨w1, w2, w3⟩ := wrd_ok ⟨k, hk⟩
  dsimp only at w1 w2 w3
  have w3 : ∀ i, i < 8 → (i < wlN.getD k 0 → 1 ≤ wfN k i ∧ wfN k i ≤ 26 ∧ sBy 0 (8 * k + i) = nI (96 + wfN k i)) ∧ (¬ i < wlN.getD k 0 → sBy 0 (8 * k + i) = 32) := fun i hi => w3 ⟨i, hi⟩
  have ne : ∀ j, 1 ≤ j → j ≤ 26 → ¬ nI (96 + j) = 32 := fun j j1 j2 e => by rw [show (32 : Int32) = nI 32 by decide, nI_eq (by omega) (by decide)] at e; omega
  have e27 := wd27_enc len h
  have hw : wtb[k]? = some (Int64.ofNat (encN 27 (wfN k) (wlN.getD k 0))) := by
    have hlen : k < wtN.length := by show k < 26; exact hk
    rw [wtb_N, List.getElem?_map, w2, List.getElem?_eq_getElem hlen, Option.map_some, List.getD_eq_getElem?_getD, List.getElem?_eq_getElem hlen, Option.getD_some]
  rw [hw, e27, Option.some.injEq, ofN_inj (encB (Or.inl rfl) w1 (fun i hi => ((w3 i (by omega)).1 hi).2.1)) (encB (Or.inl rfl) hl (fun i hi => (ltr_ok (h i hi)).2.1))]
  constructor
  · intro e
    have el : wlN.getD k 0 = len := by
      by_cases c1 : wlN.getD k 0 < len
      · have x := e (wlN.getD k 0) (by omega)
        rw [if_pos c1, (w3 _ (by omega)).2 (Nat.lt_irrefl _), (ltr_ok (h _ c1)).2.2] at x
        exact absurd x.symm (ne _ (ltr_ok (h _ c1)).1 (ltr_ok (h _ c1)).2.1)
      · by_cases c2 : len < wlN.getD k 0
        · have x := e len (by omega)
          obtain ⟨y1, y2, y3⟩ := (w3 len (by omega)).1 c2
          rw [if_neg (Nat.lt_irrefl _), y3] at x
          exact absurd x (ne _ y1 y2)
        · omega
    rw [el]
    refine encN_cg len (fun i hi => ?_)
    have x := e i (by omega)
    obtain ⟨y1, y2, y3⟩ := (w3 i (by omega)).1 (by omega)
    obtain ⟨z1, z2, z3⟩ := ltr_ok (h i hi)
    rw [if_pos hi, y3, z3, nI_eq (by omega) (by omega)] at x
    omega
  · intro e i hi
    obtain ⟨x1, x2⟩ := encN_inj (Or.inl rfl) _ _ (fun i hi => ⟨((w3 i (by omega)).1 hi).1, ((w3 i (by omega)).1 hi).2.1⟩) (fun i hi => ⟨(ltr_ok (h i hi)).1, (ltr_ok (h i hi)).2.1⟩) e
    by_cases c : i < len
    · rw [if_pos c, ((w3 i hi).1 (by omega)).2.2, (ltr_ok (h i c)).2.2, x2 i (by omega)]
    · rw [if_neg c]; exact (w3 i hi).2 (by omega)
section WORDS
variable {w : am_W} {d : Nat} {h : am_H} {Q : Option Value → am_H → Prop} {ad av : Nat → Nat} {sf : Value} {i : Nat} {x n : Nat} {s : Nat → Int32}
theorem c_lengthS (hw : StW w ad av sf) (hi : i < 2) (q : Q (some (.int (nI (sLn i)))) h) : EvM w mJ0_length_8abf5 (d + 1) [.ref (ad i)] h Q := by
  refine bJ0_length_8abf5_0 hw hi (bJ0_coder_7d493_0 hw hi ⟨_, rfl, ?_⟩)
  have : ∀ i : Fin 2, (nI (sLn i.1)) >>> ((0 : Int32) &&& 31) = nI (sLn i.1) := by decide
  rw [this ⟨i, hi⟩]
  exact q
theorem c_ck3 {a b : Int32} (hs : sf = .null ∨ ∃ r, sf = .ref r) (h1 : ¬ a < 0) (h2 : a < b) (q : Q (some (.int a)) h) : EvM w mJ3_checkIndex_8e157 d [.int a, .int b, sf] h Q := by
  have main : ∀ y : Value, Ev w (am_Z w) mJ3_checkIndex_8e157 d 0 [(0, .int a), (1, .int b), (2, y)] [] h Q := fun y => by
    refine Ev.iload_n 0 (am_dt kJ3_checkIndex_8e157 0 rfl) rfl rfl ?_
    refine Ev.if_lt (tgt := 9) (am_dt kJ3_checkIndex_8e157 1 rfl) (by decide) (fun c => absurd c h1) (fun _ => ?_)
    refine Ev.iload_n 0 (am_dt kJ3_checkIndex_8e157 2 rfl) rfl rfl ?_
    refine Ev.iload_n 1 (am_dt kJ3_checkIndex_8e157 3 rfl) rfl rfl ?_
    refine Ev.icmp_lt (tgt := 16) (am_dt kJ3_checkIndex_8e157 4 rfl) (by decide) (fun _ => ?_) (fun c => absurd h2 c)
    refine Ev.iload_n 0 (am_dt kJ3_checkIndex_8e157 10 rfl) rfl rfl ?_
    exact Ev.iret .int (am_dt kJ3_checkIndex_8e157 11 rfl) rfl rfl q
  rcases hs with e | ⟨r, e⟩ <;> subst e
  · exact main .null
  · exact main (.ref r)
theorem c_ck0 {a b : Int32} (hw : StW w ad av sf) (h1 : ¬ a < 0) (h2 : a < b) (q : Q none h) : EvM w mJ0_checkIndex_df160 (d + 1) [.int a, .int b] h Q := by
  show Ev w (am_Z w) mJ0_checkIndex_df160 (d + 1) 0 [(0, .int a), (1, .int b)] [] h Q
  refine Ev.iload_n 0 (am_dt kJ0_checkIndex_df160 0 rfl) rfl rfl ?_
  refine Ev.iload_n 1 (am_dt kJ0_checkIndex_df160 1 rfl) rfl rfl ?_
  refine Ev.gSF hw we_93 (am_dt kJ0_checkIndex_df160 2 rfl) ?_
  have K := c_ck3 (w := w) (d := d) (h := h) (a := a) (b := b) (Q := fun r h1 => ∃ v : Int32, r = some (.int v) ∧ h1 = h) hw.1 h1 h2 ⟨_, rfl, rfl⟩
  have fin : ∀ v : Int32, Ev w (am_Z w) mJ0_checkIndex_df160 (d + 1) 8 [(0, .int a), (1, .int b)] [.int v] h Q := fun v => by
    refine Ev.pop (am_dt kJ0_checkIndex_df160 4 rfl) rfl ?_
    exact Ev.vret (am_dt kJ0_checkIndex_df160 5 rfl) rfl q
  rcases hw.1 with e | ⟨r, e⟩ <;> subst e
  · refine Ev.callS (v := mJ3_checkIndex_8e157) (As := [.int a, .int b, .null]) (st := []) okJ3_checkIndex_8e157 we_94 we_95 (am_dt kJ0_checkIndex_df160 3 rfl) rfl rfl (Nat.le_of_ble_eq_true rfl) (Nat.le_of_ble_eq_true rfl) ?_
    refine EvM.mono K (fun r2 h2 k => ?_)
    obtain ⟨v, rfl, rfl⟩ := k
    exact fin v
  · refine Ev.callS (v := mJ3_checkIndex_8e157) (As := [.int a, .int b, .ref r]) (st := []) okJ3_checkIndex_8e157 we_94 we_95 (am_dt kJ0_checkIndex_df160 3 rfl) rfl rfl (Nat.le_of_ble_eq_true rfl) (Nat.le_of_ble_eq_true rfl) ?_
    refine EvM.mono K (fun r2 h2 k => ?_)
    obtain ⟨v, rfl, rfl⟩ := k
    exact fin v
theorem sBy_c {k : Nat} (hk : k < 208) : (Int32.toUInt32 ((sBy 0 k) &&& 255) % 65536).toInt32 = sBy 0 k ∧ narrow .char (.int (sBy 0 k)) = .int (sBy 0 k) := by
  have : ∀ k : Fin 208, (Int32.toUInt32 ((sBy 0 k.1) &&& 255) % 65536).toInt32 = sBy 0 k.1 ∧ narrow .char (.int (sBy 0 k.1)) = .int (sBy 0 k.1) := by decide +kernel
  exact this ⟨k, hk⟩
theorem c_charAtS {k : Nat} (hw : StW w ad av sf) (hk : k < 208) (q : Q (some (.int (sBy 0 k))) h) : EvM w mJ0_charAt_5068e (d + 3) [.ref (ad 0), .int (nI k)] h Q := by
  obtain ⟨e1, e2⟩ := sBy_c hk
  refine bJ0_charAt_5068e_0 hw (by decide) (bJ0_isLatin1_aae02_0 hw (by decide) ⟨_, rfl, fun z => absurd z (by decide), fun _ => bJ1_charAt_3b067_0 hw (by decide) (c_ck0 hw (nI_pos (by omega)) ?_ ⟨rfl, vp_in_nI (by show k < 208; exact hk) (by decide), ?_⟩)⟩)
  · show nI k < nI 208
    rw [nI_ltI (by omega) (by decide)]
    exact hk
  · rw [nI_clamp (by omega), e1]
    exact ⟨e2, _, rfl, e2, q⟩
end WORDS
