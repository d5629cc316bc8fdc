/-! The tokens of a tape; the reference's next token. -/
def isL (c : Int32) : Bool := !decide (c < 97) && !decide (122 < c)
def isD (c : Int32) : Bool := !decide (c < 48) && !decide (57 < c)
def isB (c : Int32) : Bool := decide (c = 32) || decide (c = 10)
def isG (c : Int32) : Bool := (!decide (c < 40) && decide (c ≤ 43)) || (decide (c = 45) || (!decide (c < 59) && !decide (61 < c)))
/-- the first place from p on, k at most, whose sign is not P -/
def spn (P : Int32 → Bool) (s : Nat → Int32) : Nat → Nat → Nat
  | 0, p => p
  | k + 1, p => if P (s p) then spn P s k (p + 1) else p
theorem spn_le (P : Int32 → Bool) (s : Nat → Int32) : ∀ k p, p ≤ spn P s k p ∧ spn P s k p ≤ p + k := by
  intro k
  induction k with
  | zero => intro p; exact ⟨Nat.le_refl _, Nat.le_refl _⟩
  | succ k ih =>
    intro p
    rw [spn]
    split
    · have := ih (p + 1); omega
    · omega
theorem spn_all (P : Int32 → Bool) (s : Nat → Int32) : ∀ k p i, p ≤ i → i < spn P s k p → P (s i) = true := by
  intro k
  induction k with
  | zero => intro p i h1 h2; exact absurd (show i < p from h2) (by omega)
  | succ k ih =>
    intro p i h1 h2
    rw [spn] at h2
    by_cases c : P (s p) = true
    · rw [if_pos c] at h2
      by_cases e : i = p
      · rw [e]; exact c
      · exact ih (p + 1) i (by omega) h2
    · rw [if_neg c] at h2
      omega
theorem spn_end (P : Int32 → Bool) (s : Nat → Int32) : ∀ k p, spn P s k p < p + k → P (s (spn P s k p)) = false := by
  intro k
  induction k with
  | zero => intro p h; exact absurd (show p < p + 0 from h) (by omega)
  | succ k ih =>
    intro p h
    rw [spn] at h ⊢
    by_cases c : P (s p) = true
    · rw [if_pos c] at h ⊢
      exact ih (p + 1) (by omega)
    · rw [if_neg c]
      exact Bool.eq_false_iff.mpr c
theorem spn_cg {P : Int32 → Bool} {s s' : Nat → Int32} : ∀ k p, (∀ i, p ≤ i → i < p + k → s' i = s i) → spn P s' k p = spn P s k p := by
  intro k
  induction k with
  | zero => intro p _; rfl
  | succ k ih =>
    intro p h
    rw [spn, spn, h p (by omega) (by omega), ih (p + 1) (fun i h1 h2 => h i (by omega) (by omega))]
/-- the letters of a word, of a number -/
def wd27 (s : Nat → Int32) (b : Nat) : Nat → Int64
  | 0 => 0
  | k + 1 => wd27 s b k * 27 + (s (b + k)).toInt64 - 96
def nm10 (s : Nat → Int32) (b : Nat) : Nat → Int32
  | 0 => 0
  | k + 1 => nm10 s b k * 10 + s (b + k) - 48
/-- the token that begins at b: its end, its kind, its letters, its value -/
def tkE (s : Nat → Int32) (n b : Nat) : Nat := if n ≤ b then b else if isL (s b) then spn isL s (n - b) b else if isD (s b) then spn isD s (n - b) b else b + 1
def tkK (s : Nat → Int32) (n b : Nat) : Int32 := if n ≤ b then 0 else if isL (s b) then (if tkE s n b - b ≤ 8 then 1 else 4) else if isD (s b) then (if tkE s n b - b ≤ 4 then 2 else 4) else if isG (s b) then 3 else 4
def tkW (s : Nat → Int32) (n b : Nat) : Int64 := if n ≤ b then 0 else if isL (s b) then wd27 s b (min (tkE s n b - b) 8) else 0
def tkV (s : Nat → Int32) (n b : Nat) : Int32 := if n ≤ b then 0 else if isL (s b) then 0 else if isD (s b) then nm10 s b (min (tkE s n b - b) 4) else 0
def tkB (s : Nat → Int32) (n p : Nat) : Nat := spn isB s (n - p) p
theorem tkB_le {s : Nat → Int32} {n p : Nat} (h : p ≤ n) : p ≤ tkB s n p ∧ tkB s n p ≤ n := by
  have := spn_le isB s (n - p) p
  unfold tkB
  omega
theorem tkE_le {s : Nat → Int32} {n b : Nat} (h : b ≤ n) : b ≤ tkE s n b ∧ tkE s n b ≤ n := by
  unfold tkE
  by_cases c : n ≤ b
  · rw [if_pos c]; omega
  · rw [if_neg c]
    have h1 := spn_le isL s (n - b) b
    have h2 := spn_le isD s (n - b) b
    split
    · omega
    · split <;> omega
/-- the model stands at the token that begins at b -/
def TkM (m : Nat) (h : am_H) (s : Nat → Int32) (n b : Nat) : Prop := hI h m 3 = nI n ∧ hI h m 4 = nI (tkE s n b) ∧ hI h m 5 = nI b ∧ hI h m 6 = tkK s n b ∧ hJ h m 7 = tkW s n b ∧ hI h m 8 = tkV s n b
def FrN (m : Nat) (h h' : am_H) : Prop := hK h' = hK h ∧ hN h' = hN h ∧ hR h' = hR h ∧ hZ h' = hZ h ∧ hS h' = hS h ∧ (∀ a, a ≠ m → hI h' a = hI h a ∧ hJ h' a = hJ h a) ∧ ∀ k, k ≠ 4 → k ≠ 5 → k ≠ 6 → k ≠ 8 → hI h' m k = hI h m k
theorem FrN.rf {m : Nat} {h : am_H} : FrN m h h := ⟨rfl, rfl, rfl, rfl, rfl, fun _ _ => ⟨rfl, rfl⟩, fun _ _ _ _ _ => rfl⟩
theorem FrN.tr {m : Nat} {h h1 h2 : am_H} (F : FrN m h h1) (G : FrN m h1 h2) : FrN m h h2 := by
  obtain ⟨a1, a2, a3, a4, a5, a6, a7⟩ := F
  obtain ⟨b1, b2, b3, b4, b5, b6, b7⟩ := G
  exact ⟨b1.trans a1, b2.trans a2, b3.trans a3, b4.trans a4, b5.trans a5, fun a ha => ⟨(b6 a ha).1.trans (a6 a ha).1, (b6 a ha).2.trans (a6 a ha).2⟩, fun k h1 h2 h3 h4 => (b7 k h1 h2 h3 h4).trans (a7 k h1 h2 h3 h4)⟩
theorem FrN.I {m : Nat} {h h1 : am_H} (F : FrN m h h1) {k : Nat} {v : Int32} (hk : k = 4 ∨ k = 5 ∨ k = 6 ∨ k = 8) : FrN m h (sI h1 m k v) :=
  F.tr ⟨rfl, rfl, rfl, rfl, rfl, fun a ha => ⟨by rw [sI_r, hI_rn _ _ ha], rfl⟩, fun j h1 h2 h3 h4 => by rw [sI_r, hI_rs, va_up_ne _ _ (by omega)]⟩
theorem FrN.J {m : Nat} {h h1 : am_H} (F : FrN m h h1) {v : Int64} : FrN m h (sJ h1 m 7 v) :=
  F.tr ⟨rfl, rfl, rfl, rfl, rfl, fun a ha => ⟨rfl, va_up_ne _ _ ha⟩, fun j _ _ _ _ => rfl⟩
theorem FrN.md {m : Nat} {h h1 : am_H} (F : FrN m h h1) (M : Md m h) : Md m h1 := by
  obtain ⟨a1, a2, a3, a4, a5, a6, a7⟩ := F
  unfold Md am_L at *
  rw [a1, a2, a3]
  exact M
theorem sI_f (h : am_H) (m k : Nat) (v : Int32) (j : Nat) : hI (sI h m k v) m j = if j = k then v else hI h m j := by
  rw [sI_r, hI_rs]
  by_cases c : j = k
  · rw [if_pos c, c, va_up_self]
  · rw [if_neg c, va_up_ne _ _ c]
theorem sJ_f (h : am_H) (m k : Nat) (v : Int64) : hJ (sJ h m k v) m k = v := by
  show va_up (hJ h) m (va_up (hJ h m) k v) m k = v
  rw [va_up_self, va_up_self]
section RTOK
variable {w : am_W} {d : Nat} {h : am_H} {Q : Option Value → am_H → Prop} {m n : Nat} {s : Nat → Int32}
/-- the sign at a place -/
theorem c_signAt {p : Nat} (M : Md m h) (e : eqR n (hI h (m + 1)) s) (hn : n ≤ 1000) (h3 : hI h m 3 = nI n) (hp : p ≤ n) (q : Q (some (.int (if n ≤ p then 0 else s p))) h) : EvM w mX10_signAt d [.ref m, .int (nI p)] h Q := by
  refine bX10_signAt_0 ⟨M.1, fun c => ?_, fun c => ?_⟩
  · rw [h3, nI_leI (by omega) (by omega)] at c
    rw [if_pos c] at q
    exact q
  · rw [h3, nI_leI (by omega) (by omega)] at c
    rw [if_neg c] at q
    refine ⟨M.in 0 rfl rfl (by omega) (by decide), ?_⟩
    rw [nI_clamp (by omega), e p (by omega)]
    exact q
theorem isL0 : isL 0 = false := by decide
theorem isD0 : isD 0 = false := by decide
set_option maxHeartbeats 2000000 in
theorem c_nextWord {b : Nat} (M : Md m h) (e : eqR n (hI h (m + 1)) s) (hn : n ≤ 1000) (q : ∀ h', FrN m h h' → hI h' m 3 = nI n → hI h' m 5 = nI b → hI h' m 8 = 0 → hI h' m 4 = nI (spn isL s (n - b) b) → hI h' m 6 = (if spn isL s (n - b) b - b ≤ 8 then 1 else 4) → hJ h' m 7 = wd27 s b (min (spn isL s (n - b) b - b) 8) → Q none h') :
    ∀ k p : Nat, p + k = n → b ≤ p → spn isL s (n - b) b = spn isL s k p → ∀ hc, FrN m h hc → hI hc m 3 = nI n → hI hc m 4 = nI p → hI hc m 5 = nI b → hI hc m 8 = 0 → hJ hc m 7 = wd27 s b (min (p - b) 8) → Ev w (am_Z w) mX10_nextToken (d + 1) 109 [(0, .ref m)] [] hc Q := by
  intro k
  induction k with
  | zero =>
    intro p hp hb hs hc F g3 g4 g5 g8 g7
    have hpn : p = n := by omega
    have Mc := F.md M
    have ec : eqR n (hI hc (m + 1)) s := by rw [(F.2.2.2.2.2.1 (m + 1) (by omega)).1]; exact e
    have hs' : spn isL s (n - b) b = p := hs
    refine bX10_nextToken_109 ⟨Mc.1, ?_⟩
    rw [g4]
    refine c_signAt Mc ec hn g3 (by omega) ⟨_, rfl, fun c => ?_, fun c => absurd (show (if n ≤ p then (0 : Int32) else s p) < 97 by rw [if_pos (by omega)]; decide) c⟩
    refine bX10_nextToken_188 ⟨Mc.1, ?_⟩
    rw [g4, g5, nI_sub hb, show (8 : Int32) = nI 8 by decide, nI_leI (by omega) (by decide)]
    refine ⟨fun c h2 e2 => q h2 ?_ ?_ ?_ ?_ ?_ ?_ ?_, fun c h2 e2 => q h2 ?_ ?_ ?_ ?_ ?_ ?_ ?_⟩ <;> rw [e2]
    · exact F.I (by decide)
    · rw [sI_f, if_neg (by decide)]; exact g3
    · rw [sI_f, if_neg (by decide)]; exact g5
    · rw [sI_f, if_neg (by decide)]; exact g8
    · rw [sI_f, if_neg (by decide), hs']; exact g4
    · rw [sI_f, if_pos rfl, hs', if_pos c]
    · rw [hs']; exact g7
    · exact F.I (by decide)
    · rw [sI_f, if_neg (by decide)]; exact g3
    · rw [sI_f, if_neg (by decide)]; exact g5
    · rw [sI_f, if_neg (by decide)]; exact g8
    · rw [sI_f, if_neg (by decide), hs']; exact g4
    · rw [sI_f, if_pos rfl, hs', if_neg c]
    · rw [hs']; exact g7
  | succ k ih =>
    intro p hp hb hs hc F g3 g4 g5 g8 g7
    have Mc := F.md M
    have ec : eqR n (hI hc (m + 1)) s := by rw [(F.2.2.2.2.2.1 (m + 1) (by omega)).1]; exact e
    have hlt : ¬ n ≤ p := by omega
    rw [spn] at hs
    have stop : isL (s p) = false → Ev w (am_Z w) mX10_nextToken (d + 1) 188 [(0, .ref m)] [] hc Q := by
      intro c0
      rw [c0] at hs
      have hs' : spn isL s (n - b) b = p := hs
      refine bX10_nextToken_188 ⟨Mc.1, ?_⟩
      rw [g4, g5, nI_sub hb, show (8 : Int32) = nI 8 by decide, nI_leI (by omega) (by decide)]
      refine ⟨fun c h2 e2 => q h2 ?_ ?_ ?_ ?_ ?_ ?_ ?_, fun c h2 e2 => q h2 ?_ ?_ ?_ ?_ ?_ ?_ ?_⟩ <;> rw [e2]
      · exact F.I (by decide)
      · rw [sI_f, if_neg (by decide)]; exact g3
      · rw [sI_f, if_neg (by decide)]; exact g5
      · rw [sI_f, if_neg (by decide)]; exact g8
      · rw [sI_f, if_neg (by decide), hs']; exact g4
      · rw [sI_f, if_pos rfl, hs', if_pos c]
      · rw [hs']; exact g7
      · exact F.I (by decide)
      · rw [sI_f, if_neg (by decide)]; exact g3
      · rw [sI_f, if_neg (by decide)]; exact g5
      · rw [sI_f, if_neg (by decide)]; exact g8
      · rw [sI_f, if_neg (by decide), hs']; exact g4
      · rw [sI_f, if_pos rfl, hs', if_neg c]
      · rw [hs']; exact g7
    refine bX10_nextToken_109 ⟨Mc.1, ?_⟩
    rw [g4]
    refine c_signAt Mc ec hn g3 (by omega) ⟨_, rfl, fun c => ?_, fun c => ⟨Mc.1, ?_⟩⟩
    · rw [if_neg hlt] at c
      exact stop (by unfold isL; simp [c])
    rw [if_neg hlt] at c
    rw [g4]
    refine c_signAt Mc ec hn g3 (by omega) ⟨_, rfl, fun c2 => ?_, fun c2 => ⟨Mc.1, ?_⟩⟩
    · rw [if_neg hlt] at c2
      exact stop (by unfold isL; simp [c2])
    rw [if_neg hlt] at c2
    have hL : isL (s p) = true := by unfold isL; simp only [c, c2, decide_false]; rfl
    rw [if_pos hL] at hs
    rw [g4, g5, nI_sub hb, show (8 : Int32) = nI 8 by decide, nI_leI (by decide) (by omega)]
    refine ⟨fun c3 h2 e2 => ?_, fun c3 => ?_⟩
    · refine ih (p + 1) (by omega) (by omega) hs h2 (by rw [e2]; exact F.I (by decide)) ?_ ?_ ?_ ?_ ?_ <;> rw [e2]
      · rw [sI_f, if_neg (by decide)]; exact g3
      · rw [sI_f, if_pos rfl, nI_1]
      · rw [sI_f, if_neg (by decide)]; exact g5
      · rw [sI_f, if_neg (by decide)]; exact g8
      · show hJ hc m 7 = _
        rw [g7]
        congr 1
        omega
    · refine c_signAt Mc ec hn g3 (by omega) ⟨_, rfl, Mc.1, fun h2 e2 h4 e4 => ?_⟩
      rw [if_neg hlt] at e2
      have g : ∀ j, hI h2 m j = hI hc m j := fun j => by rw [e2]; rfl
      refine ih (p + 1) (by omega) (by omega) hs h4 (by rw [e4, e2]; exact F.J.I (by decide)) ?_ ?_ ?_ ?_ ?_ <;> rw [e4]
      · rw [sI_f, if_neg (by decide), g]; exact g3
      · rw [sI_f, if_pos rfl, g, g4, nI_1]
      · rw [sI_f, if_neg (by decide), g]; exact g5
      · rw [sI_f, if_neg (by decide), g]; exact g8
      · show hJ h2 m 7 = _
        rw [e2, sJ_f, g7, show min (p - b) 8 = p - b by omega, show min (p + 1 - b) 8 = p - b + 1 by omega, wd27, show b + (p - b) = p by omega]
set_option maxHeartbeats 2000000 in
theorem c_nextNum {b : Nat} (M : Md m h) (e : eqR n (hI h (m + 1)) s) (hn : n ≤ 1000) (q : ∀ h', FrN m h h' → hI h' m 3 = nI n → hI h' m 5 = nI b → hJ h' m 7 = 0 → hI h' m 4 = nI (spn isD s (n - b) b) → hI h' m 6 = (if spn isD s (n - b) b - b ≤ 4 then 2 else 4) → hI h' m 8 = nm10 s b (min (spn isD s (n - b) b - b) 4) → Q none h') :
    ∀ k p : Nat, p + k = n → b ≤ p → spn isD s (n - b) b = spn isD s k p → ∀ hc, FrN m h hc → hI hc m 3 = nI n → hI hc m 4 = nI p → hI hc m 5 = nI b → hJ hc m 7 = 0 → hI hc m 8 = nm10 s b (min (p - b) 4) → Ev w (am_Z w) mX10_nextToken (d + 1) 224 [(0, .ref m)] [] hc Q := by
  intro k
  induction k with
  | zero =>
    intro p hp hb hs hc F g3 g4 g5 g8 g7
    have hpn : p = n := by omega
    have Mc := F.md M
    have ec : eqR n (hI hc (m + 1)) s := by rw [(F.2.2.2.2.2.1 (m + 1) (by omega)).1]; exact e
    have hs' : spn isD s (n - b) b = p := hs
    refine bX10_nextToken_224 ⟨Mc.1, ?_⟩
    rw [g4]
    refine c_signAt Mc ec hn g3 (by omega) ⟨_, rfl, fun c => ?_, fun c => absurd (show (if n ≤ p then (0 : Int32) else s p) < 48 by rw [if_pos (by omega)]; decide) c⟩
    refine bX10_nextToken_299 ⟨Mc.1, ?_⟩
    rw [g4, g5, nI_sub hb, show (4 : Int32) = nI 4 by decide, nI_leI (by omega) (by decide)]
    refine ⟨fun c h2 e2 => q h2 ?_ ?_ ?_ ?_ ?_ ?_ ?_, fun c h2 e2 => q h2 ?_ ?_ ?_ ?_ ?_ ?_ ?_⟩ <;> rw [e2]
    · exact F.I (by decide)
    · rw [sI_f, if_neg (by decide)]; exact g3
    · rw [sI_f, if_neg (by decide)]; exact g5
    · exact g8
    · rw [sI_f, if_neg (by decide), hs']; exact g4
    · rw [sI_f, if_pos rfl, hs', if_pos c]
    · rw [sI_f, if_neg (by decide), hs']; exact g7
    · exact F.I (by decide)
    · rw [sI_f, if_neg (by decide)]; exact g3
    · rw [sI_f, if_neg (by decide)]; exact g5
    · exact g8
    · rw [sI_f, if_neg (by decide), hs']; exact g4
    · rw [sI_f, if_pos rfl, hs', if_neg c]; decide
    · rw [sI_f, if_neg (by decide), hs']; exact g7
  | succ k ih =>
    intro p hp hb hs hc F g3 g4 g5 g8 g7
    have Mc := F.md M
    have ec : eqR n (hI hc (m + 1)) s := by rw [(F.2.2.2.2.2.1 (m + 1) (by omega)).1]; exact e
    have hlt : ¬ n ≤ p := by omega
    rw [spn] at hs
    have stop : isD (s p) = false → Ev w (am_Z w) mX10_nextToken (d + 1) 299 [(0, .ref m)] [] hc Q := by
      intro c0
      rw [c0] at hs
      have hs' : spn isD s (n - b) b = p := hs
      refine bX10_nextToken_299 ⟨Mc.1, ?_⟩
      rw [g4, g5, nI_sub hb, show (4 : Int32) = nI 4 by decide, nI_leI (by omega) (by decide)]
      refine ⟨fun c h2 e2 => q h2 ?_ ?_ ?_ ?_ ?_ ?_ ?_, fun c h2 e2 => q h2 ?_ ?_ ?_ ?_ ?_ ?_ ?_⟩ <;> rw [e2]
      · exact F.I (by decide)
      · rw [sI_f, if_neg (by decide)]; exact g3
      · rw [sI_f, if_neg (by decide)]; exact g5
      · exact g8
      · rw [sI_f, if_neg (by decide), hs']; exact g4
      · rw [sI_f, if_pos rfl, hs', if_pos c]
      · rw [sI_f, if_neg (by decide), hs']; exact g7
      · exact F.I (by decide)
      · rw [sI_f, if_neg (by decide)]; exact g3
      · rw [sI_f, if_neg (by decide)]; exact g5
      · exact g8
      · rw [sI_f, if_neg (by decide), hs']; exact g4
      · rw [sI_f, if_pos rfl, hs', if_neg c]; decide
      · rw [sI_f, if_neg (by decide), hs']; exact g7
    refine bX10_nextToken_224 ⟨Mc.1, ?_⟩
    rw [g4]
    refine c_signAt Mc ec hn g3 (by omega) ⟨_, rfl, fun c => ?_, fun c => ⟨Mc.1, ?_⟩⟩
    · rw [if_neg hlt] at c
      exact stop (by unfold isD; simp [c])
    rw [if_neg hlt] at c
    rw [g4]
    refine c_signAt Mc ec hn g3 (by omega) ⟨_, rfl, fun c2 => ?_, fun c2 => ⟨Mc.1, ?_⟩⟩
    · rw [if_neg hlt] at c2
      exact stop (by unfold isD; simp [c2])
    rw [if_neg hlt] at c2
    have hL : isD (s p) = true := by unfold isD; simp only [c, c2, decide_false]; rfl
    rw [if_pos hL] at hs
    rw [g4, g5, nI_sub hb, show (4 : Int32) = nI 4 by decide, nI_leI (by decide) (by omega)]
    refine ⟨fun c3 h2 e2 => ?_, fun c3 => ?_⟩
    · refine ih (p + 1) (by omega) (by omega) hs h2 (by rw [e2]; exact F.I (by decide)) ?_ ?_ ?_ ?_ ?_ <;> rw [e2]
      · rw [sI_f, if_neg (by decide)]; exact g3
      · rw [sI_f, if_pos rfl, nI_1]
      · rw [sI_f, if_neg (by decide)]; exact g5
      · exact g8
      · rw [sI_f, if_neg (by decide), g7]
        congr 1
        omega
    · refine c_signAt Mc ec hn g3 (by omega) ⟨_, rfl, Mc.1, fun h2 e2 h4 e4 => ?_⟩
      rw [if_neg hlt] at e2
      have g : ∀ j, j ≠ 8 → hI h2 m j = hI hc m j := fun j hj => by rw [e2, sI_f, if_neg hj]
      refine ih (p + 1) (by omega) (by omega) hs h4 (by rw [e4, e2]; exact (F.I (by decide)).I (by decide)) ?_ ?_ ?_ ?_ ?_ <;> rw [e4]
      · rw [sI_f, if_neg (by decide), g _ (by decide)]; exact g3
      · rw [sI_f, if_pos rfl, g _ (by decide), g4, nI_1]
      · rw [sI_f, if_neg (by decide), g _ (by decide)]; exact g5
      · rw [e2]; exact g8
      · rw [sI_f, if_neg (by decide), e2, sI_f, if_pos rfl, g7, show min (p - b) 4 = p - b by omega, show min (p + 1 - b) 4 = p - b + 1 by omega, nm10, show b + (p - b) = p by omega]
/-- the sign of one place -/
theorem c_nextSign {b : Nat} (M : Md m h) (hb : b < n) (g3 : hI h m 3 = nI n) (g4 : hI h m 4 = nI b) (g5 : hI h m 5 = nI b) (g7 : hJ h m 7 = 0) (g8 : hI h m 8 = 0)
    (q : ∀ h', FrN m h h' → hI h' m 3 = nI n → hI h' m 4 = nI (b + 1) → hI h' m 5 = nI b → hI h' m 6 = (if isG (s b) then 3 else 4) → hJ h' m 7 = 0 → hI h' m 8 = 0 → Q none h') : Ev w (am_Z w) mX10_nextToken (d + 1) 322 [(0, .ref m), (1, .int (s b))] [] h Q := by
  have fin : ∀ v : Int32, v = (if isG (s b) then 3 else 4) → ∀ h2, h2 = sI (sI h m 4 (hI h m 4 + 1)) m 6 v → Q none h2 := by
    intro v hv h2 e2
    subst e2
    refine q _ ((FrN.rf.I (by decide)).I (by decide)) ?_ ?_ ?_ ?_ g7 ?_
    · rw [sI_f, if_neg (by decide), sI_f, if_neg (by decide)]; exact g3
    · rw [sI_f, if_neg (by decide), sI_f, if_pos rfl, g4, nI_1]
    · rw [sI_f, if_neg (by decide), sI_f, if_neg (by decide)]; exact g5
    · rw [sI_f, if_pos rfl]; exact hv
    · rw [sI_f, if_neg (by decide), sI_f, if_neg (by decide)]; exact g8
  have M2 : Md m (sI h m 4 (hI h m 4 + 1)) := M
  have far : (!decide (s b < 40) && decide (s b ≤ 43)) = false → ∀ h2, h2 = sI h m 4 (hI h m 4 + 1) → Ev w (am_Z w) mX10_nextToken (d + 1) 345 [(1, .int (s b))] [.ref m] h2 Q := by
    intro c h2 e2
    subst e2
    refine bX10_nextToken_345 ⟨fun c1 => ⟨M2.1, fin 3 ?_⟩, fun c1 => ⟨fun c2 => ⟨M2.1, fin 4 ?_⟩, fun c2 => ⟨fun c3 => ⟨M2.1, fin 4 ?_⟩, fun c3 => ⟨M2.1, fin 3 ?_⟩⟩⟩⟩
    · rw [if_pos]; unfold isG; rw [c]; simp [c1]
    · rw [if_neg]; unfold isG; rw [c]; simp [c1, c2]
    · rw [if_neg]; unfold isG; rw [c]; simp [c1, c2, c3]
    · rw [if_pos]; unfold isG; rw [c]; simp only [c1, c2, c3, decide_false]; rfl
  refine bX10_nextToken_322 ⟨M.1, fun h2 e2 => ⟨fun c => far (by simp [c]) h2 e2, fun c => ⟨fun c2 h3 e3 => fin 3 ?_ h3 (by rw [e3, e2]), fun c2 => far (by simp [c2]) h2 e2⟩⟩⟩
  rw [if_pos]
  unfold isG
  simp [c, c2]
set_option maxHeartbeats 2000000 in
theorem c_nextToken {p : Nat} (M : Md m h) (e : eqR n (hI h (m + 1)) s) (hn : n ≤ 1000) (g3 : hI h m 3 = nI n) (g4 : hI h m 4 = nI p) (hp : p ≤ n) (q : ∀ h', FrN m h h' → TkM m h' s n (tkB s n p) → Q none h') : EvM w mX10_nextToken (d + 1) [.ref m] h Q := by
  have body : ∀ b, b = tkB s n p → b ≤ n → ∀ hc, FrN m h hc → hI hc m 3 = nI n → hI hc m 4 = nI b → Ev w (am_Z w) mX10_nextToken (d + 1) 52 [(0, .ref m)] [] hc Q := by
    intro b hb hbn hc F k3 k4
    refine bX10_nextToken_52 ⟨(F.md M).1, fun h2 e2 h3 e3 h4 e4 => ?_⟩
    have F4 : FrN m h h4 := by rw [e4, e3, e2]; exact (F.I (by decide)).J.I (by decide)
    have M4 := F4.md M
    have e4' : eqR n (hI h4 (m + 1)) s := by rw [(F4.2.2.2.2.2.1 (m + 1) (by omega)).1]; exact e
    have j3 : hI h4 m 3 = nI n := by rw [e4, sI_f, if_neg (by decide), e3]; show hI h2 m 3 = _; rw [e2, sI_f, if_neg (by decide)]; exact k3
    have j4 : hI h4 m 4 = nI b := by rw [e4, sI_f, if_neg (by decide), e3]; show hI h2 m 4 = _; rw [e2, sI_f, if_neg (by decide)]; exact k4
    have j5 : hI h4 m 5 = nI b := by rw [e4, sI_f, if_neg (by decide), e3]; show hI h2 m 5 = _; rw [e2, sI_f, if_pos rfl]; exact k4
    have j8 : hI h4 m 8 = 0 := by rw [e4, sI_f, if_pos rfl]
    have j7 : hJ h4 m 7 = 0 := by rw [e4]; show hJ h3 m 7 = 0; rw [e3, sJ_f]
    rw [j3, j4]
    rw [← hb] at q
    unfold TkM at q
    refine ⟨fun c h5 e5 => ?_, fun c => ?_⟩
    · have c := (nI_eq (by omega) (by omega)).mp c
      refine q h5 (by rw [e5]; exact F4.I (by decide)) ⟨?_, ?_, ?_, ?_, ?_, ?_⟩ <;> rw [e5]
      · rw [sI_f, if_neg (by decide)]; exact j3
      · rw [sI_f, if_neg (by decide), tkE, if_pos (by omega)]; exact j4
      · rw [sI_f, if_neg (by decide)]; exact j5
      · rw [sI_f, if_pos rfl, tkK, if_pos (by omega)]
      · rw [tkW, if_pos (by omega)]; exact j7
      · rw [sI_f, if_neg (by decide), tkV, if_pos (by omega)]; exact j8
    · have c : ¬ b = n := fun x => c (by rw [x])
      have hlt : b < n := by omega
      have nl : ¬ n ≤ b := by omega
      rw [tkK, tkW, tkV, tkE, if_neg nl, if_neg nl, if_neg nl, if_neg nl] at q
      rw [nI_clamp (by omega), e4' b hlt]
      have sg : isL (s b) = false → isD (s b) = false → Ev w (am_Z w) mX10_nextToken (d + 1) 322 [(0, .ref m), (1, .int (s b))] [] h4 Q := by
        intro x1 x2
        simp only [x1, x2, Bool.false_eq_true, if_false, if_true] at q
        exact c_nextSign M4 hlt j3 j4 j5 j7 j8 (fun h' F' u3 u4 u5 u6 u7 u8 => q h' (F4.tr F') ⟨u3, u4, u5, u6, u7, u8⟩)
      have dg : isL (s b) = false → isD (s b) = true → Ev w (am_Z w) mX10_nextToken (d + 1) 224 [(0, .ref m)] [] h4 Q := by
        intro x1 x2
        simp only [x1, x2, Bool.false_eq_true, if_false, if_true] at q
        refine c_nextNum M4 e4' hn (fun h' F' u3 u5 u7 u4 u6 u8 => q h' (F4.tr F') ⟨u3, u4, u5, u6, u7, u8⟩) (n - b) b (by omega) (Nat.le_refl _) rfl h4 FrN.rf j3 j4 j5 j7 ?_
        rw [Nat.sub_self]
        exact j8
      refine ⟨M4.in 0 rfl rfl (by omega) (by decide), fun c1 => ⟨fun c2 => sg ?_ ?_, fun c2 => ⟨fun c3 => sg ?_ ?_, fun c3 => dg ?_ ?_⟩⟩, fun c1 => ⟨fun c4 => ⟨fun c2 => sg ?_ ?_, fun c2 => ⟨fun c3 => sg ?_ ?_, fun c3 => dg ?_ ?_⟩⟩, fun c4 => ?_⟩⟩
      · simp [isL, c1]
      · simp [isD, c2]
      · simp [isL, c1]
      · simp [isD, c3]
      · simp [isL, c1]
      · simp only [isD, c2, c3, decide_false]; rfl
      · simp [isL, c4]
      · simp [isD, c2]
      · simp [isL, c4]
      · simp [isD, c3]
      · simp [isL, c4]
      · simp only [isD, c2, c3, decide_false]; rfl
      · have x1 : isL (s b) = true := by simp only [isL, c1, c4, decide_false]; rfl
        simp only [x1, if_true] at q
        refine c_nextWord M4 e4' hn (fun h' F' u3 u5 u8 u4 u6 u7 => q h' (F4.tr F') ⟨u3, u4, u5, u6, u7, u8⟩) (n - b) b (by omega) (Nat.le_refl _) rfl h4 FrN.rf j3 j4 j5 j8 ?_
        rw [Nat.sub_self]
        exact j7
  have loop : ∀ k a : Nat, a + k = n → tkB s n p = spn isB s k a → ∀ hc, FrN m h hc → hI hc m 3 = nI n → hI hc m 4 = nI a → EvM w mX10_nextToken (d + 1) [.ref m] hc Q := by
    intro k
    induction k with
    | zero =>
      intro a ha hb hc F k3 k4
      refine bX10_nextToken_0 ⟨(F.md M).1, fun _ => body a hb.symm (by omega) hc F k3 k4, fun c => absurd (by rw [k3, k4, show a = n by omega]; exact Int32.le_refl _) c⟩
    | succ k ih =>
      intro a ha hb hc F k3 k4
      rw [spn] at hb
      have ec : eqR n (hI hc (m + 1)) s := by rw [(F.2.2.2.2.2.1 (m + 1) (by omega)).1]; exact e
      have M2 := F.md M
      refine bX10_nextToken_0 ⟨M2.1, fun c => absurd c (by rw [k3, k4, nI_leI (by omega) (by omega)]; omega), fun c => ?_⟩
      rw [k4, nI_clamp (by omega), ec a (by omega)]
      have nx : isB (s a) = true → ∀ h3, h3 = sI hc m 4 (nI a + 1) → Ev w (am_Z w) mX10_nextToken (d + 1) 0 [(0, .ref m)] [] h3 Q := by
        intro x h3 e3
        rw [if_pos x] at hb
        refine ih (a + 1) (by omega) hb h3 (by rw [e3]; exact F.I (by decide)) ?_ ?_ <;> rw [e3]
        · rw [sI_f, if_neg (by decide)]; exact k3
        · rw [sI_f, if_pos rfl, nI_1]
      refine ⟨M2.in 0 rfl rfl (by omega) (by decide), fun c1 => nx (by simp [isB, c1]), fun c1 => ⟨M2.in 0 rfl rfl (by omega) (by decide), fun c2 => nx (by simp [isB, c2]), fun c2 => ?_⟩⟩
      rw [if_neg (by simp [isB, c1, c2])] at hb
      exact body a hb.symm (by omega) hc F k3 k4
  exact loop (n - p) p (by omega) rfl h FrN.rf g3 g4
end RTOK
