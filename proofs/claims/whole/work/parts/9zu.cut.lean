/-! The class's tape is cut into tokens. -/
def CT (x : Nat) (s : Nat → Int32) (n : Nat) (h0 h : am_H) (j : Nat) : Prop := FrA (fun a => a = x + 13 ∨ a = x + 15 ∨ a = x + 16) h0 h ∧ (∀ k, ¬ k = 4 → hI h (x + 13) k = hI h0 (x + 13) k) ∧ hI h (x + 13) 4 = nI j ∧ eqR j (hI h (x + 15)) (tKD s n) ∧ eqR j (hI h (x + 16)) (tPC s n)
section CUT
variable {w : am_W} {d : Nat} {h h0 : am_H} {Q : Option Value → am_H → Prop} {ad av : Nat → Nat} {sf : Value} {x n j : Nat} {s : Nat → Int32}
theorem c_endW {p : Nat} (L8 : am_L 8 (x + 13) h) (hN' : hN h (x + 14) = 1000) (T : TpX x h (n, s)) (hp : p ≤ n) (q : Q (some (.int (nI (spn isL s (n - p) p)))) h) : EvM w mX8_endOfWord (d + 1) [.ref (x + 13), .int (nI p)] h Q := by
  have t1 : hI h (x + 13) 3 = nI n := T.1
  have hn : n ≤ 1000 := T.2.2.1
  have loop : ∀ k r, r + k = n → spn isL s (n - p) p = spn isL s k r → Ev w (am_Z w) mX8_endOfWord (d + 1) 2 [(0, .ref (x + 13)), (2, .int (nI r))] [] h Q := by
    intro k
    induction k with
    | zero =>
      intro r hr e
      rw [e] at q
      refine bX8_endOfWord_2 ⟨L8, fun _ => q, fun y => absurd ?_ y⟩
      rw [t1, nI_leI (by omega) (by omega)]; omega
    | succ k ih =>
      intro r hr e
      rw [spn] at e
      refine bX8_endOfWord_2 ⟨L8, fun y => absurd y ?_, fun _ => c_signAtX L8 hN' T ⟨_, rfl, c_isLetter ⟨_, rfl, fun y => ?_, fun y => ?_⟩⟩⟩
      · rw [t1, nI_leI (by omega) (by omega)]; omega
      · rw [sgA_nI (by omega) (by omega), if_neg (show ¬ n ≤ r by omega)] at y
        rw [if_neg (fun z => by rw [if_pos z] at y; exact absurd y (by decide))] at e
        rw [e] at q
        exact q
      · rw [sgA_nI (by omega) (by omega), if_neg (show ¬ n ≤ r by omega)] at y
        rw [if_pos (Decidable.byContradiction (fun z => y (if_neg z)))] at e
        rw [nI_1]
        exact ih (r + 1) (by omega) e
  exact bX8_endOfWord_0 (loop (n - p) p (by omega) rfl)
theorem c_endN {p : Nat} (L8 : am_L 8 (x + 13) h) (hN' : hN h (x + 14) = 1000) (T : TpX x h (n, s)) (hp : p ≤ n) (q : Q (some (.int (nI (spn isD s (n - p) p)))) h) : EvM w mX8_endOfNumber (d + 1) [.ref (x + 13), .int (nI p)] h Q := by
  have t1 : hI h (x + 13) 3 = nI n := T.1
  have hn : n ≤ 1000 := T.2.2.1
  have loop : ∀ k r, r + k = n → spn isD s (n - p) p = spn isD s k r → Ev w (am_Z w) mX8_endOfNumber (d + 1) 2 [(0, .ref (x + 13)), (2, .int (nI r))] [] h Q := by
    intro k
    induction k with
    | zero =>
      intro r hr e
      rw [e] at q
      refine bX8_endOfNumber_2 ⟨L8, fun _ => q, fun y => absurd ?_ y⟩
      rw [t1, nI_leI (by omega) (by omega)]; omega
    | succ k ih =>
      intro r hr e
      rw [spn] at e
      refine bX8_endOfNumber_2 ⟨L8, fun y => absurd y ?_, fun _ => c_signAtX L8 hN' T ⟨_, rfl, c_isDigit ⟨_, rfl, fun y => ?_, fun y => ?_⟩⟩⟩
      · rw [t1, nI_leI (by omega) (by omega)]; omega
      · rw [sgA_nI (by omega) (by omega), if_neg (show ¬ n ≤ r by omega)] at y
        rw [if_neg (fun z => by rw [if_pos z] at y; exact absurd y (by decide))] at e
        rw [e] at q
        exact q
      · rw [sgA_nI (by omega) (by omega), if_neg (show ¬ n ≤ r by omega)] at y
        rw [if_pos (Decidable.byContradiction (fun z => y (if_neg z)))] at e
        rw [nI_1]
        exact ih (r + 1) (by omega) e
  exact bX8_endOfNumber_0 (loop (n - p) p (by omega) rfl)
theorem c_addT {v p : Int32} (X : XL x h0) (C : CT x s n h0 h j) (hj : j ≤ 1000) (hv : v = tKD s n j) (hp : p = tPC s n j) (q : ∀ h', CT x s n h0 h' (j + 1) → Q none h') : EvM w mX8_add (d + 1) [.ref (x + 13), .int v, .int p] h Q := by
  obtain ⟨F, f, e4, k1, k2⟩ := C
  have L0 : am_L 8 (x + 13) h0 := X.2.1
  have L8 : am_L 8 (x + 13) h := F.L L0
  have n15 : hN h (x + 13 + 2) = 1001 := by rw [F.N]; exact X.2.2.1.2.1
  have n16 : hN h (x + 13 + 3) = 1001 := by rw [F.N]; exact X.2.2.1.2.2
  refine bX8_add_0 ⟨L8, c_set (am_L.s L8 1 rfl) (by rw [n15]; decide) ⟨rfl, FrA.L (Z := fun _ => True) (FrA.rf.row trivial) L8, ?_⟩⟩
  rw [e4, n15, sv_nI (by omega) (by decide)]
  generalize e1 : rI h (x + 13 + 2) (va_up (hI h (x + 13 + 2)) j v) = h1
  have L1 : am_L 8 (x + 13) h1 := by rw [← e1]; exact FrA.L (Z := fun _ => True) (FrA.rf.row trivial) L8
  have i4 : hI h1 (x + 13) 4 = nI j := by rw [← e1, hI_rn _ _ (by omega)]; exact e4
  have m16 : hN h1 (x + 13 + 3) = 1001 := by rw [← e1]; exact n16
  refine c_set (am_L.s L1 2 rfl) (by rw [m16]; decide) ⟨rfl, FrA.L (Z := fun _ => True) (FrA.rf.row trivial) L1, ?_⟩
  rw [i4, m16, sv_nI (by omega) (by decide)]
  intro h3 e3
  have i4' : hI (rI h1 (x + 13 + 3) (va_up (hI h1 (x + 13 + 3)) j p)) (x + 13) 4 = nI j := by rw [hI_rn _ _ (by omega)]; exact i4
  rw [i4', nI_1] at e3
  refine q h3 ⟨?_, fun k hk => ?_, ?_, ?_, ?_⟩
  · rw [e3, ← e1]
    exact ((F.row (Or.inr (Or.inl rfl))).row (Or.inr (Or.inr rfl))).fld (Or.inl rfl)
  · rw [e3, sI_f, if_neg hk, hI_rn _ _ (by omega), ← e1, hI_rn _ _ (by omega)]; exact f k hk
  · rw [e3, sI_f, if_pos rfl]
  · intro i hi
    rw [e3, sI_r, hI_rn _ _ (by omega), hI_rn _ _ (by omega), ← e1, show x + 15 = x + 13 + 2 by omega, hI_rs]
    by_cases c : i = j
    · rw [c, va_up_self, hv]
    · rw [va_up_ne _ _ c]; exact k1 i (by omega)
  · intro i hi
    rw [e3, sI_r, hI_rn _ _ (by omega), show x + 16 = x + 13 + 3 by omega, hI_rs]
    by_cases c : i = j
    · rw [c, va_up_self, hp]
    · rw [va_up_ne _ _ c, ← e1, hI_rn _ _ (by omega)]; exact k2 i (by omega)
set_option maxHeartbeats 1000000 in
theorem c_cutX (hw : StW w ad av sf) (X : XL x h0) (T0 : TpX x h0 (n, s)) (q : ∀ h' N, CT x s n h0 h' (N + 1) → N ≤ 1000 → N ≤ n → bgn s n N = n → (∀ i, i < N → bgn s n i < n) → Q none h') : EvM w mX8_cut (d + 6) [.ref (x + 13)] h0 Q := by
  have hn : n ≤ 1000 := T0.2.2.1
  have L0 : am_L 8 (x + 13) h0 := X.2.1
  have sg : ∀ i, i < n → s i = 10 ∨ ∃ k, 32 ≤ k ∧ k ≤ 126 ∧ s i = nI k := fun i hi => T0.2.2.2 i hi
  have loop : ∀ k p j h, p + k = n → j ≤ p → CT x s n h0 h j → tkB s n p = bgn s n j → (∀ i, i < j → bgn s n i < n) → Ev w (am_Z w) mX8_cut (d + 6) 7 [(0, .ref (x + 13)), (2, .int (nI p))] [] h Q := by
    intro k
    induction k using Nat.strongRecOn with
    | _ k ih =>
    intro p j h hp hj C hb hlt
    have F := C.1
    have L8 : am_L 8 (x + 13) h := F.L L0
    have n14 : hN h (x + 14) = 1000 := by rw [F.N]; exact X.2.2.1.1
    have t3 : hI h (x + 13) 3 = nI n := by rw [C.2.1 3 (by decide)]; exact T0.1
    have T : TpX x h (n, s) := ⟨t3, by rw [F.I (fun z => by omega)]; exact T0.2.1, T0.2.2⟩
    refine bX8_cut_7 hw ⟨L8, fun y => ?_, fun y => ?_⟩
    · rw [t3, nI_leI (by omega) (by omega)] at y
      have hpn : p = n := by omega
      rw [hpn] at hb
      have bn : tkB s n n = n := by unfold tkB; rw [Nat.sub_self]; rfl
      rw [bn] at hb
      rw [t3]
      exact c_addT (d := d + 4) X C (by omega) (tKD_z.mpr hb.symm).symm (by unfold tPC; rw [← hb]) (fun h' C' => ⟨rfl, q h' j C' (by omega) (by omega) hb.symm hlt⟩)
    rw [t3, nI_leI (by omega) (by omega)] at y
    have hpl : p < n := by omega
    have eS : sgA s n (nI p) = s p := by rw [sgA_nI (by omega) (by omega), if_neg (by omega)]
    -- a token that begins at p
    have tok : isB (s p) = false → bgn s n j = p ∧ tkE s n p = plc s n (j + 1) ∧ p < tkE s n p ∧ tkE s n p ≤ n ∧ tKD s n j = tkC s n p ∧ tPC s n j = nI p := fun z => by
      have e : bgn s n j = p := by
        rw [← hb]
        unfold tkB
        rw [show n - p = (n - p - 1) + 1 by omega, spn, if_neg (by rw [z]; decide)]
      refine ⟨e, ?_, tkE_gt hpl, (tkE_le (by omega)).2, by unfold tKD; rw [e], by unfold tPC; rw [e]⟩
      show tkE s n p = tkE s n (tkB s n (plc s n j))
      rw [show tkB s n (plc s n j) = p from e]
    have go : isB (s p) = false → ∀ (e : Int32) (h' : am_H), e = nI (tkE s n p) → CT x s n h0 h' (j + 1) → Ev w (am_Z w) mX8_cut (d + 6) 7 [(0, .ref (x + 13)), (2, .int e)] [] h' Q := by
      intro z e h' he C'
      obtain ⟨b1, b2, b3, b4, _⟩ := tok z
      rw [he]
      refine ih (n - tkE s n p) (by omega) (tkE s n p) (j + 1) h' (by omega) (by omega) C' ?_ ?_
      · rw [b2]; rfl
      · intro i hi
        by_cases c : i = j
        · rw [c, b1]; exact hpl
        · exact hlt i (by omega)
    have mx : ∀ e, p < e → e ≤ n → (if nI p + 1 < nI e then nI e else nI p + 1) = nI e := fun e h1 h2 => by
      rw [nI_1]
      by_cases c : p + 1 < e
      · rw [if_pos ((nI_ltI (by omega) (by omega)).mpr c)]
      · rw [if_neg (fun z => c ((nI_ltI (by omega) (by omega)).mp z))]; congr 1; omega
    have m1 : (if nI p + 1 < nI p + 1 then nI p + 1 else nI p + 1) = nI (p + 1) := by rw [nI_1]; split <;> rfl
    have notB : ∀ P : Int32 → Bool, P 32 = false → P 10 = false → P (s p) = true → isB (s p) = false := fun P h1 h2 h3 => by
      cases z : isB (s p) with
      | false => rfl
      | true =>
        unfold isB at z
        rw [Bool.or_eq_true, decide_eq_true_eq, decide_eq_true_eq] at z
        rcases z with e | e
        · rw [e, h1] at h3; exact absurd h3 (by decide)
        · rw [e, h2] at h3; exact absurd h3 (by decide)
    refine c_signAtX L8 n14 T ⟨_, rfl, ?_⟩
    rw [eS]
    refine c_isLetter ⟨_, rfl, fun c1 => c_isDigit ⟨_, rfl, fun c2 => ⟨fun c3 => ?_, fun c3 => ⟨fun c4 => ?_, fun c4 => ?_⟩⟩, fun c2 => ⟨L8, c_endN L8 n14 T (by omega) ⟨_, rfl, ?_⟩⟩⟩, fun c1 => ⟨L8, c_endW L8 n14 T (by omega) ⟨_, rfl, ?_⟩⟩⟩
    · rw [m1]
      refine ih (k - 1) (by omega) (p + 1) j h (by omega) (by omega) C ?_ hlt
      rw [← hb]
      unfold tkB
      rw [show n - p = (n - (p + 1)) + 1 by omega, spn, if_pos (by rw [c3]; decide)]
    · rw [m1]
      refine ih (k - 1) (by omega) (p + 1) j h (by omega) (by omega) C ?_ hlt
      rw [← hb]
      unfold tkB
      rw [show n - p = (n - (p + 1)) + 1 by omega, spn, if_pos (by rw [c4]; decide)]
    · have nL : ¬ isL (s p) = true := fun z => by rw [if_pos z] at c1; exact absurd c1 (by decide)
      have nD : ¬ isD (s p) = true := fun z => by rw [if_pos z] at c2; exact absurd c2 (by decide)
      have zB : isB (s p) = false := by
        unfold isB
        rw [decide_eq_false c4, decide_eq_false c3]
        rfl
      obtain ⟨b1, b2, b3, b4, b5, b6⟩ := tok zB
      have eE : tkE s n p = p + 1 := by unfold tkE; rw [if_neg (by omega), if_neg nL, if_neg nD]
      have eC : tkC s n p = if isG (s p) then s p else 1 := by unfold tkC; rw [if_neg (by omega), if_neg nL, if_neg nD]
      obtain ⟨k', k1, k2, k3⟩ : ∃ k', 32 ≤ k' ∧ k' ≤ 126 ∧ s p = nI k' := (sg p hpl).resolve_left c3
      rw [k3]
      refine c_indexOfS (d := d + 1) hw k2 (fun r hr => ⟨_, rfl, fun z => ⟨L8, ?_⟩, fun z => ⟨L8, ?_⟩⟩)
      · rw [hr] at z
        rw [k3, if_neg z] at eC
        exact c_addT (d := d + 4) X C (by omega) (by rw [b5, eC]) b6.symm (fun h' C' => ⟨rfl, go zB _ h' (by rw [m1, eE]) C'⟩)
      · rw [hr] at z
        have z : isG (nI k') = true := Decidable.byContradiction z
        rw [k3, if_pos z] at eC
        exact c_addT (d := d + 4) X C (by omega) (by rw [b5, eC]) b6.symm (fun h' C' => ⟨rfl, go zB _ h' (by rw [m1, eE]) C'⟩)
    · have nL : ¬ isL (s p) = true := fun z => by rw [if_pos z] at c1; exact absurd c1 (by decide)
      have zD : isD (s p) = true := Decidable.byContradiction (fun z => c2 (if_neg z))
      have zB := notB isD (by decide) (by decide) zD
      obtain ⟨b1, b2, b3, b4, b5, b6⟩ := tok zB
      have eE : tkE s n p = spn isD s (n - p) p := by unfold tkE; rw [if_neg (by omega), if_neg nL, if_pos zD]
      have eC : tkC s n p = if tkE s n p - p ≤ 4 then 2 else 1 := by unfold tkC; rw [if_neg (by omega), if_neg nL, if_pos zD]
      rw [← eE]
      have e4 : nI (tkE s n p) - nI p = nI (tkE s n p - p) := nI_sub (by omega)
      rw [e4, show (4 : Int32) = nI 4 by decide, nI_leI (by omega) (by decide)]
      refine ⟨fun z => ⟨L8, ?_⟩, fun z => ⟨L8, ?_⟩⟩
      · rw [if_pos z] at eC
        exact c_addT (d := d + 4) X C (by omega) (by rw [b5, eC]) b6.symm (fun h' C' => ⟨rfl, go zB _ h' (mx _ b3 b4) C'⟩)
      · rw [if_neg z] at eC
        exact c_addT (d := d + 4) X C (by omega) (by rw [b5, eC]) b6.symm (fun h' C' => ⟨rfl, go zB _ h' (mx _ b3 b4) C'⟩)
    · have zL : isL (s p) = true := Decidable.byContradiction (fun z => c1 (if_neg z))
      have zB := notB isL (by decide) (by decide) zL
      obtain ⟨b1, b2, b3, b4, b5, b6⟩ := tok zB
      obtain ⟨l1, l2, eE⟩ := tk_letters hpl zL
      have eC : tkC s n p = if tkE s n p - p ≤ 8 then wdk (tkW s n p) else 1 := by unfold tkC; rw [if_neg (by omega), if_pos zL]
      rw [← eE]
      have e4 : nI (tkE s n p) - nI p = nI (tkE s n p - p) := nI_sub (by omega)
      rw [e4, show (8 : Int32) = nI 8 by decide, nI_leI (by omega) (by decide)]
      refine ⟨fun z => ⟨L8, ?_⟩, fun z => ⟨L8, ?_⟩⟩
      · rw [if_pos z] at eC
        have eW : tkW s n p = wd27 s p (tkE s n p - p) := by unfold tkW; rw [if_neg (by omega), if_pos zL, show min (tkE s n p - p) 8 = tkE s n p - p by omega]
        have ee : tkE s n p = p + (tkE s n p - p) := by omega
        have K := c_wordKindX (w := w) (d := d) (h := h) (Q := fun r38 h37 => ∃ v39 : Int32, r38 = some (.int v39) ∧ ((am_L 8 (x + 13) h37) ∧ (EvM w mX8_add (d + 5) [.ref (x + 13), .int v39, .int (nI p)] h37 (fun r42 h41 => r42 = none ∧ (Ev w (am_Z w) mX8_cut (d + 6) 7 [(0, .ref (x + 13)), (2, .int (if nI p + 1 < nI (tkE s n p) then nI (tkE s n p) else nI p + 1))] [] h41 Q))))) hw L8 n14 T (b := p) (len := tkE s n p - p) z (by omega) l1 ⟨_, rfl, L8, c_addT (d := d + 4) X C (by omega) (by rw [b5, eC, eW]) b6.symm (fun h' C' => ⟨rfl, go zB _ h' (mx _ b3 b4) C'⟩)⟩
        rw [← ee] at K
        exact K
      · rw [if_neg z] at eC
        exact c_addT (d := d + 4) X C (by omega) (by rw [b5, eC]) b6.symm (fun h' C' => ⟨rfl, go zB _ h' (mx _ b3 b4) C'⟩)
  refine bX8_cut_0 hw ⟨L0, fun h2 e2 => ?_⟩
  have F2 : FrA (fun a => a = x + 13 ∨ a = x + 15 ∨ a = x + 16) h0 h2 := by rw [e2]; exact FrA.rf.fld (Or.inl rfl)
  exact loop n 0 0 h2 (by omega) (Nat.le_refl _) ⟨F2, fun k hk => by rw [e2, sI_f, if_neg hk], by rw [e2, sI_f, if_pos rfl]; rfl, fun i hi => absurd hi (Nat.not_lt_zero _), fun i hi => absurd hi (Nat.not_lt_zero _)⟩ rfl (fun i hi => absurd hi (Nat.not_lt_zero _))
end CUT
