/-! The reference's reading: small steps. -/
def plc (s : Nat → Int32) (n : Nat) : Nat → Nat
  | 0 => 0
  | i + 1 => tkE s n (tkB s n (plc s n i))
def bgn (s : Nat → Int32) (n i : Nat) : Nat := tkB s n (plc s n i)
def tKD (s : Nat → Int32) (n i : Nat) : Int32 := tkC s n (bgn s n i)
def tPC (s : Nat → Int32) (n i : Nat) : Int32 := nI (bgn s n i)
def tNV (s : Nat → Int32) (n i : Nat) : Int32 := tkV s n (bgn s n i)
theorem plc_le {s : Nat → Int32} {n : Nat} : ∀ i, plc s n i ≤ n := by
  intro i
  induction i with
  | zero => exact Nat.zero_le _
  | succ i ih => exact (tkE_le (tkB_le ih).2).2
theorem bgn_le {s : Nat → Int32} {n : Nat} (i : Nat) : bgn s n i ≤ n := (tkB_le (plc_le i)).2
theorem BgO.of {s : Nat → Int32} {n : Nat} (hn : n ≤ 1000) (N : Nat) : BgO N (tPC s n) (bgn s n) := fun i _ => ⟨rfl, Nat.le_trans (bgn_le i) hn⟩
def FrR (m : Nat) (h h' : am_H) : Prop := hK h' = hK h ∧ hN h' = hN h ∧ hR h' = hR h ∧ hZ h' = hZ h ∧ hS h' = hS h ∧ (∀ a, a ≠ m → hI h' a = hI h a ∧ hJ h' a = hJ h a) ∧ ∀ k, k ≠ 4 → k ≠ 5 → k ≠ 6 → k ≠ 8 → k ≠ 9 → k ≠ 35 → hI h' m k = hI h m k
section RREAD
variable {w : am_W} {d : Nat} {h : am_H} {Q : Option Value → am_H → Prop} {m n i : Nat} {s : Nat → Int32}
theorem FrR.rf : FrR m h h := ⟨rfl, rfl, rfl, rfl, rfl, fun _ _ => ⟨rfl, rfl⟩, fun _ _ _ _ _ _ _ => rfl⟩
theorem FrR.tr {h1 h2 : am_H} (F : FrR m h h1) (G : FrR m h1 h2) : FrR m h h2 := by
  obtain ⟨a1, a2, a3, a4, a5, a6, a7⟩ := F
  obtain ⟨b1, b2, b3, b4, b5, b6, b7⟩ := G
  exact ⟨b1.trans a1, b2.trans a2, b3.trans a3, b4.trans a4, b5.trans a5, fun a ha => ⟨(b6 a ha).1.trans (a6 a ha).1, (b6 a ha).2.trans (a6 a ha).2⟩, fun k h1 h2 h3 h4 h5 h6 => (b7 k h1 h2 h3 h4 h5 h6).trans (a7 k h1 h2 h3 h4 h5 h6)⟩
theorem FrN.r {h1 : am_H} (F : FrN m h h1) : FrR m h h1 := by
  obtain ⟨a1, a2, a3, a4, a5, a6, a7⟩ := F
  exact ⟨a1, a2, a3, a4, a5, a6, fun k h1 h2 h3 h4 _ _ => a7 k h1 h2 h3 h4⟩
theorem FrR.I {k : Nat} {v : Int32} (hk : k = 9 ∨ k = 35) : FrR m h (sI h m k v) :=
  ⟨rfl, rfl, rfl, rfl, rfl, fun a ha => ⟨by rw [sI_r, hI_rn _ _ ha], rfl⟩, fun j h1 h2 h3 h4 h5 h6 => by rw [sI_f, if_neg (by omega)]⟩
theorem FrR.md {h1 : am_H} (F : FrR m h h1) (M : Md m h) : Md m h1 := by
  obtain ⟨a1, a2, a3, a4, a5, a6, a7⟩ := F
  unfold Md am_L at *
  rw [a1, a2, a3]
  exact M
/-- the model stands at token i of the signs s -/
def TM (m : Nat) (h : am_H) (s : Nat → Int32) (n i : Nat) : Prop := Md m h ∧ eqR n (hI h (m + 1)) s ∧ n ≤ 1000 ∧ TkM m h s n (bgn s n i)
theorem TM.fld {k : Nat} {v : Int32} (T : TM m h s n i) (hk : ¬ k = 3 ∧ ¬ k = 4 ∧ ¬ k = 5 ∧ ¬ k = 6 ∧ ¬ k = 8) : TM m (sI h m k v) s n i := by
  obtain ⟨t1, t2, t3, t4, t5, t6, t7, t8, t9⟩ := T
  refine ⟨t1, ?_, t3, ?_, ?_, ?_, ?_, t8, ?_⟩
  · rw [sI_r, hI_rn _ _ (by omega)]; exact t2
  · rw [sI_f, if_neg (by omega)]; exact t4
  · rw [sI_f, if_neg (by omega)]; exact t5
  · rw [sI_f, if_neg (by omega)]; exact t6
  · rw [sI_f, if_neg (by omega)]; exact t7
  · rw [sI_f, if_neg (by omega)]; exact t9
theorem c_nextT (T : TM m h s n i) (q : ∀ h', FrN m h h' → TM m h' s n (i + 1) → Q none h') : EvM w mX10_nextToken (d + 1) [.ref m] h Q := by
  obtain ⟨t1, t2, t3, t4, t5, t6⟩ := T
  refine c_nextToken (p := plc s n (i + 1)) t1 t2 t3 t4 t5 (plc_le _) (fun h' F T' => q h' F ⟨F.md t1, ?_, t3, T'⟩)
  rw [(F.2.2.2.2.2.1 (m + 1) (by omega)).1]
  exact t2
theorem c_isWordR {k : Nat} {u : Int64} (T : TM m h s n i) (hk : k < 26) (hu : wtb[k]? = some u) (q : Q (some (.int (b01 (tKD s n i = nI (64 + k))))) h) : EvM w mX10_isWord d [.ref m, .long u] h Q := by
  obtain ⟨t1, t2, t3, t4, t5, t6, t7, t8, t9⟩ := T
  have e := tk_word (s := s) (n := n) (b := bgn s n i) hk hu
  unfold b01 tKD at q
  refine bX10_isWord_0 ⟨t1.1, ?_⟩
  rw [t7, t8]
  refine ⟨fun c => ⟨fun c2 => ?_, fun c2 => ?_⟩, fun c => ?_⟩
  · rw [if_pos (e.mp ⟨c, c2⟩)] at q; exact q
  · rw [if_neg (fun z => c2 (e.mpr z).2)] at q; exact q
  · rw [if_neg (fun z => c (e.mpr z).1)] at q; exact q
theorem c_isSignR {k : Nat} (T : TM m h s n i) (hk : 4 ≤ k) (hk2 : k < 64) (q : Q (some (.int (b01 (tKD s n i = nI k)))) h) : EvM w mX10_isSign d [.ref m, .int (nI k)] h Q := by
  obtain ⟨t1, t2, t3, t4, t5, t6, t7, t8, t9⟩ := T
  have e := tk_sign (s := s) (n := n) (b := bgn s n i) hk hk2
  unfold b01 tKD at q
  refine bX10_isSign_0 ⟨t1.1, ?_⟩
  rw [t7, t6]
  refine ⟨fun c => ?_, fun c => ?_⟩
  · have hb : bgn s n i < n := by
      rcases tk_cases s n (bgn s n i) with ⟨e1, _⟩ | ⟨e1, _⟩ | ⟨e1, _⟩ | ⟨_, _, _, e4⟩ | ⟨e1, _⟩
      · rw [e1] at c; exact absurd c (by decide)
      · rw [e1] at c; exact absurd c (by decide)
      · rw [e1] at c; exact absurd c (by decide)
      · exact e4
      · rw [e1] at c; exact absurd c (by decide)
    refine ⟨t1.in 0 rfl rfl (by omega) (by decide), ?_⟩
    rw [nI_clamp (by omega), t2 _ hb]
    refine ⟨fun c2 => ?_, fun c2 => ?_⟩
    · rw [if_pos (e.mp ⟨c, c2⟩)] at q; exact q
    · rw [if_neg (fun z => c2 (e.mpr z).2)] at q; exact q
  · rw [if_neg (fun z => c (e.mpr z).1)] at q; exact q
theorem c_failsR {k : Int32} (T : TM m h s n i) (q : ∀ h', FrR m h h' → hI h' m 9 = k + 16 * tPC s n i → Q (some (.int 0)) h') : EvM w mX10_fails d [.ref m, .int k] h Q := by
  obtain ⟨t1, t2, t3, t4, t5, t6, t7, t8, t9⟩ := T
  refine bX10_fails_0 ⟨t1.1, fun h2 e2 => q h2 (by rw [e2]; exact FrR.I (Or.inl rfl)) ?_⟩
  rw [e2, sI_f, if_pos rfl, t6]
  rfl
theorem nar0 : narrow .boolean (.int 0) = .int 0 := by decide
theorem b01_nz {p : Prop} [Decidable p] : b01 p = 0 ↔ ¬ p := by
  unfold b01
  by_cases c : p
  · rw [if_pos c]; exact ⟨fun h => absurd h (by decide), fun h => absurd c h⟩
  · rw [if_neg c]; exact ⟨fun _ => c, fun _ => rfl⟩
theorem c_needsNumberR {lo hi : Int32} (T : TM m h s n i) (q1 : num (tKD s n) (tPC s n) (tNV s n) lo hi (0, i) = (0, i + 1) → ∀ h', FrR m h h' → TM m h' s n (i + 1) → hI h' m 35 = tNV s n i → ¬ tNV s n i < lo → tNV s n i ≤ hi → Q (some (.int 1)) h') (q0 : ∀ h', FrR m h h' → hI h' m 9 = (num (tKD s n) (tPC s n) (tNV s n) lo hi (0, i)).1 → ¬ (num (tKD s n) (tPC s n) (tNV s n) lo hi (0, i)).1 = 0 → Q (some (.int 0)) h') : EvM w mX10_needsNumber (d + 2) [.ref m, .int lo, .int hi] h Q := by
  have T' := T
  obtain ⟨t1, t2, t3, t4, t5, t6, t7, t8, t9⟩ := T'
  have B := BgO.of (s := s) t3 i
  have e2 := (tk_small (s := s) (n := n) (b := bgn s n i)).2
  rw [num, if_pos rfl] at q1 q0
  dsimp only at q1 q0
  refine bX10_needsNumber_0 ⟨t1.1, ?_⟩
  rw [t7, t9]
  refine ⟨fun c => c_within ⟨_, rfl, fun c2 => ⟨t1.1, c_failsR T (fun h' F e => ⟨_, rfl, nar0, ?_⟩)⟩, fun c2 => ⟨t1.1, fun h3 e3 => ?_⟩⟩, fun c => c_failsR T (fun h' F e => ⟨_, rfl, nar0, ?_⟩)⟩
  · have k2 : tKD s n i = 2 := e2.mp c
    rw [if_pos k2] at q0
    have c2 : ¬ (lo ≤ tNV s n i ∧ tNV s n i ≤ hi) := b01_nz.mp c2
    by_cases c3 : tNV s n i < lo
    · rw [if_pos c3] at q0
      exact q0 h' F e (flt_no B 4 (by decide) (by decide) (Nat.le_refl _))
    · rw [if_neg c3, if_neg (fun z => c2 ⟨Int32.not_lt.mp c3, z⟩)] at q0
      exact q0 h' F e (flt_no B 4 (by decide) (by decide) (Nat.le_refl _))
  · have k2 : tKD s n i = 2 := e2.mp c
    have c2 : lo ≤ tNV s n i ∧ tNV s n i ≤ hi := Decidable.byContradiction (fun z => c2 (b01_nz.mpr z))
    have c3 : ¬ tNV s n i < lo := Int32.not_lt.mpr c2.1
    rw [if_pos k2, if_neg c3, if_pos c2.2] at q1
    have T3 : TM m h3 s n i := by rw [e3]; exact T.fld (by decide)
    refine c_nextT T3 (fun h' F' T4 => ⟨rfl, q1 rfl h' ?_ T4 ?_ c3 c2.2⟩)
    · have : FrR m h h3 := by rw [e3]; exact FrR.I (Or.inr rfl)
      exact this.tr F'.r
    · rw [F'.2.2.2.2.2.2 35 (by decide) (by decide) (by decide) (by decide), e3, sI_f, if_pos rfl]
      exact t9
  · have k2 : ¬ tKD s n i = 2 := fun z => c (e2.mpr z)
    rw [if_neg k2] at q0
    exact q0 h' F e (flt_no B 1 (by decide) (by decide) (Nat.le_refl _))
theorem c_needsWordR {k : Nat} {u : Int64} (T : TM m h s n i) (hk : k < 26) (hu : wtb[k]? = some u) (q1 : xpt (tKD s n) (tPC s n) (nI (64 + k)) (0, i) = (0, i + 1) → ∀ h', FrR m h h' → TM m h' s n (i + 1) → hI h' m 35 = hI h m 35 → Q (some (.int 1)) h') (q0 : ∀ h', FrR m h h' → hI h' m 9 = (xpt (tKD s n) (tPC s n) (nI (64 + k)) (0, i)).1 → ¬ (xpt (tKD s n) (tPC s n) (nI (64 + k)) (0, i)).1 = 0 → Q (some (.int 0)) h') : EvM w mX10_needsWord (d + 2) [.ref m, .long u] h Q := by
  have t1 := T.1
  have B := BgO.of (s := s) T.2.2.1 i
  rw [xpt, if_pos rfl] at q1 q0
  dsimp only at q1 q0
  refine bX10_needsWord_0 ⟨t1.1, c_isWordR T hk hu ⟨_, rfl, fun c => ⟨t1.1, c_failsR T (fun h' F e => ⟨_, rfl, nar0, ?_⟩)⟩, fun c => ⟨t1.1, c_nextT T (fun h' F' T4 => ⟨rfl, ?_⟩)⟩⟩⟩
  · rw [if_neg (b01_nz.mp c)] at q0
    exact q0 h' F e (flt_no B 1 (by decide) (by decide) (Nat.le_refl _))
  · rw [if_pos (Decidable.byContradiction (fun z => c (b01_nz.mpr z)))] at q1
    exact q1 rfl h' F'.r T4 (F'.2.2.2.2.2.2 35 (by decide) (by decide) (by decide) (by decide))
theorem c_endsR (T : TM m h s n i) (q1 : xpt (tKD s n) (tPC s n) 59 (0, i) = (0, i + 1) → ∀ h', FrR m h h' → TM m h' s n (i + 1) → Q (some (.int 1)) h') (q0 : ∀ h', FrR m h h' → hI h' m 9 = (xpt (tKD s n) (tPC s n) 59 (0, i)).1 → ¬ (xpt (tKD s n) (tPC s n) 59 (0, i)).1 = 0 → Q (some (.int 0)) h') : EvM w mX10_ends (d + 2) [.ref m] h Q := by
  have t1 := T.1
  have B := BgO.of (s := s) T.2.2.1 i
  rw [xpt, if_pos rfl] at q1 q0
  dsimp only at q1 q0
  refine bX10_ends_0 ⟨t1.1, c_isSignR (k := 59) T (by decide) (by decide) ⟨_, rfl, fun c => ⟨t1.1, c_failsR T (fun h' F e => ⟨_, rfl, nar0, ?_⟩)⟩, fun c => ⟨t1.1, c_nextT T (fun h' F' T4 => ⟨rfl, ?_⟩)⟩⟩⟩
  · have c' : ¬ tKD s n i = 59 := b01_nz.mp c
    rw [if_neg c'] at q0
    exact q0 h' F e (flt_no B 1 (by decide) (by decide) (Nat.le_refl _))
  · have c' : tKD s n i = 59 := Decidable.byContradiction (fun z => c (b01_nz.mpr z))
    rw [if_pos c'] at q1
    exact q1 rfl h' F'.r T4
end RREAD
