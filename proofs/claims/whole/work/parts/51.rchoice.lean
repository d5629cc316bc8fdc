/-! The reference's choosers, choices, choice, chosen, isRest, rests, rest. -/
theorem sh1 : ∀ k, k < 9 → (1 : Int32) <<< (nI k &&& 31) = nI (2 ^ k) := by decide
theorem nI_xor (a b : Nat) : nI a ^^^ nI b = nI (a ^^^ b) := by
  apply Int32.toBitVec_inj.mp
  show (BitVec.ofNat 32 a) ^^^ (BitVec.ofNat 32 b) = BitVec.ofNat 32 (a ^^^ b)
  exact (BitVec.ofNat_xor).symm
theorem chs_mono (kd : Nat → Int32) {p : Nat} : ∀ {n : Nat}, p ≤ n → chs kd p ≤ chs kd n := by
  intro n
  induction n with
  | zero => intro h; have : p = 0 := by omega
            subst this; exact Nat.le_refl _
  | succ n ih =>
    intro h
    by_cases c : p = n + 1
    · subst c; exact Nat.le_refl _
    · have := ih (by omega)
      rw [chs]
      omega
theorem chs_lt (kd : Nat → Int32) {p n : Nat} (h : p < n) (h5 : kd p = 5) : chs kd p < chs kd n := by
  have a := chs_mono kd (p := p + 1) (n := n) (by omega)
  rw [chs, if_pos h5] at a
  omega
/-- the person of a chooser's number -/
def chp (kd : Nat → Int32) : Nat → Nat → Nat
  | 0, _ => 0
  | p + 1, k => if kd p = 5 ∧ chs kd p = k then p else chp kd p k
theorem chp_at {kd : Nat → Int32} {p : Nat} (h5 : kd p = 5) : ∀ {n : Nat}, p < n → chp kd n (chs kd p) = p := by
  intro n
  induction n with
  | zero => intro h; omega
  | succ n ih =>
    intro h
    rw [chp]
    by_cases c : p = n
    · subst c; rw [if_pos ⟨h5, rfl⟩]
    · have := chs_lt kd (p := p) (n := n) (by omega) h5
      rw [if_neg (fun x => by omega)]
      exact ih (by omega)
theorem chp_of {kd : Nat → Int32} {k : Nat} : ∀ {n : Nat}, k < chs kd n → ∃ p, p < n ∧ kd p = 5 ∧ chs kd p = k ∧ chp kd n k = p := by
  intro n
  induction n with
  | zero => intro h; rw [chs] at h; omega
  | succ n ih =>
    intro h
    rw [chs] at h
    by_cases c : k < chs kd n
    · obtain ⟨p, h1, h2, h3, h4⟩ := ih c
      refine ⟨p, by omega, h2, h3, ?_⟩
      rw [← h3]
      exact chp_at h2 (by omega)
    · by_cases c5 : kd n = 5
      · rw [if_pos c5] at h
        have : chs kd n = k := by omega
        refine ⟨n, by omega, c5, this, ?_⟩
        rw [← this]
        exact chp_at c5 (by omega)
      · rw [if_neg c5] at h
        omega
def ncs (r : rV) : Nat := chs (vKd r) (vN r)
def ccost (r : rV) (c : Nat) : Int32 := cstS (vCo r) (dayK r (nI c) 1440).1 (vAt r) (-1) (vN r)
def ownV (r : rV) (c p : Nat) : Int32 := vCo r p * wof (dayK r (nI c) 1440).1 (vAt r) p
def ownK (r : rV) (c k : Nat) : Int32 := ownV r c (chp (vKd r) (vN r) k)
/-- the rows of costs, all choices below c told -/
def chR (r : rV) (c : Nat) (g f : Nat → Int32) : Prop := ∀ c', c' < c → g c' = ccost r c' ∧ ∀ k, k < ncs r → f (8 * c' + k) = ownK r c' k
def rstL (r : rV) (c : Nat) : Nat → Bool
  | 0 => true
  | k + 1 => rstL r c k && decide (ownK r c k ≤ ownK r (c ^^^ 2 ^ k) k)
def isR (r : rV) (c : Nat) : Bool := rstL r c (ncs r)
def bstL (r : rV) : Nat → Nat
  | 0 => 0
  | c + 1 => if ccost r (bstL r c) ≤ ccost r c then bstL r c else c
theorem bstL_lt (r : rV) : ∀ {c : Nat}, 0 < c → bstL r c < c := by
  intro c
  induction c with
  | zero => intro h; omega
  | succ c ih =>
    intro _
    rw [bstL]
    split
    · cases c with
      | zero => exact Nat.lt_succ_self _
      | succ c => have := ih (by omega); omega
    · omega
def rssL (r : rV) : Nat → Nat
  | 0 => 0
  | c + 1 => rssL r c + if isR r c then 1 else 0
theorem rssL_le (r : rV) : ∀ c, rssL r c ≤ c := by
  intro c
  induction c with
  | zero => exact Nat.le_refl _
  | succ c ih => rw [rssL]; split <;> omega
/-- the ith at rest from c on, n of them behind us -/
def rstI (r : rV) (i : Int32) : Nat → Nat → Int32
  | 0, _ => -1
  | k + 1, c => if isR r c then (if nI (rssL r c) = i then nI c else rstI r i k (c + 1)) else rstI r i k (c + 1)
def aChoice (r : rV) (what : Int32) : Int32 := if 0 ≤ what ∧ what ≤ 1 then (if what = 0 then ccost r (bstL r (2 ^ ncs r)) else nI (bstL r (2 ^ ncs r))) else -1
def aChosen (r : rV) (x : Int32) : Int32 := if 0 ≤ x ∧ x ≤ nI (2 ^ ncs r) - 1 then cstS (vCo r) (dayK r x 1440).1 (vAt r) (-1) (vN r) else -1
theorem p2_8 {k : Nat} (h : k ≤ 8) : 2 ^ k ≤ 256 := Nat.pow_le_pow_right (by decide) h
theorem wof_eq {n p : Nat} {g g' a a' : Nat → Int32} (hp : p < n) (h1 : eqR n g g') (h2 : eqR n a a') : wof g a p = wof g' a' p := by
  unfold wof
  rw [h1 p hp, h2 p hp]
section RCHOICE
variable {w : am_W} {d : Nat} {h : am_H} {Q : Option Value → am_H → Prop} {m : Nat} {r : rV}
theorem c_choosers {s N : Nat} (M : Md m h) (hs : s ≤ 5) (hN' : hI h (m + 2) (10 * s + 7) = nI N) (hN2 : N ≤ 16) (q : Q (some (.int (nI (chs (fun p => hI h (m + 11) (16 * s + p)) N)))) h) : EvM w mX10_choosers d [.ref m, .int (nI s)] h Q := by
  refine bX10_choosers_0 ?_
  have e10 : (10 : Int32) * nI s + 7 = nI (10 * s + 7) := by
    rw [show (10 : Int32) = nI 10 by decide, show (7 : Int32) = nI 7 by decide, pk_mul, nI_add]
  have e16 : ∀ p, (16 : Int32) * nI s + nI p = nI (16 * s + p) := fun p => by
    rw [show (16 : Int32) = nI 16 by decide, pk_mul, nI_add]
  have c10 : (nI (10 * s + 7)).toNatClampNeg = 10 * s + 7 := nI_clamp (by omega)
  have loop : ∀ k p : Nat, p + k = N → Ev w (am_Z w) mX10_choosers d 4 [(0, .ref m), (1, .int (nI s)), (2, .int (nI (chs (fun p => hI h (m + 11) (16 * s + p)) p))), (3, .int (nI p))] [] h Q := by
    intro k
    induction k with
    | zero =>
      intro p hp
      have hp : p = N := by omega
      subst hp
      refine bX10_choosers_4 ⟨M.1, M.in 1 rfl (k := 10 * s + 7) e10 (by omega) (by decide), fun _ => q, fun c => absurd ?_ c⟩
      rw [e10, c10, hN']
      exact Int32.le_refl _
    | succ k ih =>
      intro p hp
      have ih := ih (p + 1) (by omega)
      rw [chs] at ih
      have c16 : (nI (16 * s + p)).toNatClampNeg = 16 * s + p := nI_clamp (by omega)
      refine bX10_choosers_4 ⟨M.1, M.in 1 rfl (k := 10 * s + 7) e10 (by omega) (by decide), fun c => absurd c ?_, fun _ => ⟨M.in 10 rfl (k := 16 * s + p) (e16 p) (by omega) (by decide), fun c => ?_, fun c => ?_⟩⟩
      · rw [e10, c10, hN', nI_leI (by omega) (by omega)]
        omega
      · rw [e16, c16] at c
        rw [if_pos c] at ih
        rw [nI_1, nI_1]
        exact ih
      · rw [e16, c16] at c
        rw [if_neg c] at ih
        rw [nI_1, show ∀ x : Int32, x + 0 = x from Int32.add_zero]
        exact ih
  exact loop N 0 (by omega)
theorem c_choosers0 (R : RvC w d m h r) {d' : Nat} (q : Q (some (.int (nI (ncs r)))) h) : EvM w mX10_choosers d' [.ref m, .int 0] h Q := by
  refine c_choosers (s := 0) R.1.1 (by decide) R.1.2.1 R.1.2.2.1 ?_
  rw [chs_eq (n := vN r) (kd' := vKd r) (fun p hp => by show hI h (m + 11) (16 * 0 + p) = _; rw [Nat.mul_zero, Nat.zero_add]; exact R.2.2.2.2.2.2.2 p hp) (vN r) (Nat.le_refl _)]
  exact q
set_option maxHeartbeats 2000000 in
theorem c_choices (R : RvC w (d + 2) m h r) (h8 : ncs r ≤ 8) (q : ∀ h', FrZ m h h' → chR r (2 ^ ncs r) (hI h' (m + 35)) (hI h' (m + 36)) → Q (some (.int (nI (2 ^ ncs r)))) h') : EvM w mX10_choices (d + 6) [.ref m] h Q := by
  have hN2 := R.1.2.2.1
  have p8 := p2_8 h8
  refine bX10_choices_0 ⟨R.1.1.1, c_choosers0 R ⟨_, rfl, ?_⟩⟩
  rw [sh1 _ (by omega)]
  have loop : ∀ k c : Nat, c + k = 2 ^ ncs r → ∀ hc, FrZ m h hc → chR r c (hI hc (m + 35)) (hI hc (m + 36)) → Ev w (am_Z w) mX10_choices (d + 5 + 1) 10 [(0, .ref m), (1, .int (nI (2 ^ ncs r))), (2, .int (nI c))] [] hc Q := by
    intro k
    induction k with
    | zero =>
      intro c hk hc Fc T
      have hk : c = 2 ^ ncs r := by omega
      subst hk
      exact bX10_choices_10 ⟨fun _ => q hc Fc T, fun c => absurd (Int32.le_refl _) c⟩
    | succ k ih =>
      intro c hk hc Fc T
      have Rc := R.fr Fc
      have hcc : (nI c).toNatClampNeg = c := nI_clamp (by omega)
      refine bX10_choices_10 ⟨fun c2 => absurd c2 (by rw [nI_leI (by omega) (by omega)]; omega), fun _ => ⟨Rc.1.1.1, c_dayC (x := nI c) Rc (fun h3 k3 F3 D => ⟨rfl, ?_⟩)⟩⟩
      have F3' := Fc.tr F3
      have M3 := F3'.md R.1.1
      obtain ⟨d1, d2, d3, d4, d5, s1, s2, s3⟩ := D
      have s1 : eqR (vN r) (hI h3 (m + 30)) (dayK r (nI c) 1440).1 := s1
      have a1 : eqR (vN r) (hI h3 (m + 26)) (vAt r) := d2.2.2.1
      have r35 : hI h3 (m + 35) = hI hc (m + 35) := F3.r 35 (by decide) (Or.inr (by decide))
      have r36 : hI h3 (m + 36) = hI hc (m + 36) := F3.r 36 (by decide) (Or.inr (by decide))
      refine ⟨M3.1, c_costAll M3 d1 (by omega) ⟨_, rfl, am_L.s M3.1 34 rfl, M3.in 34 rfl rfl (show c < 256 by omega) (by decide), fun h4 e4 => ?_⟩⟩
      rw [cst_eq (vN r) (Nat.le_refl _) d3 s1 a1, hcc, sI_r, r35] at e4
      have F4 : FrZ m h h4 := by rw [e4]; exact F3'.row (by decide) (by decide)
      have g4 : hI h4 (m + 35) = va_up (hI hc (m + 35)) c (ccost r c) := by rw [e4, hI_rs]; rfl
      have r4 : ∀ a, a ≠ m + 35 → hI h4 a = hI h3 a := fun a ha => by rw [e4, hI_rn _ _ ha]
      have inner : ∀ j p : Nat, p + j = vN r → ∀ hb, FrZ m h hb → (∀ a, a ≠ m + 36 → hI hb a = hI h4 a) → (∀ i, i < 8 * c → hI hb (m + 36) i = hI hc (m + 36) i) → (∀ k, k < chs (vKd r) p → hI hb (m + 36) (8 * c + k) = ownK r c k) →
          Ev w (am_Z w) mX10_choices (d + 5 + 1) 36 [(0, .ref m), (1, .int (nI (2 ^ ncs r))), (2, .int (nI c)), (3, .int (nI (chs (vKd r) p))), (4, .int (nI p))] [] hb Q := by
        intro j
        induction j with
        | zero =>
          intro p hp hb Fb e1 e2 e3
          have hp : p = vN r := by omega
          subst hp
          have pe : hI hb m 36 = nI (vN r) := by rw [e1 m (by omega), r4 m (by omega)]; exact d1
          refine bX10_choices_36 ⟨(Fb.md R.1.1).1, fun _ => ?_, fun c => absurd (by rw [pe]; exact Int32.le_refl _) c⟩
          rw [nI_1]
          refine ih (c + 1) (by omega) hb Fb (fun c' hc' => ?_)
          by_cases cc : c' = c
          · subst cc
            refine ⟨?_, fun k hk => e3 k hk⟩
            rw [e1 _ (by omega), g4, va_up_self]
          · obtain ⟨t1, t2⟩ := T c' (by omega)
            refine ⟨?_, fun k hk => ?_⟩
            · rw [e1 _ (by omega), g4, va_up_ne _ _ cc]; exact t1
            · have : ncs r ≤ 8 := h8
              rw [e2 _ (by omega)]; exact t2 k hk
        | succ j ihj =>
          intro p hp hb Fb e1 e2 e3
          have Mb := Fb.md R.1.1
          have Rb := R.fr Fb
          have hpc : (nI p).toNatClampNeg = p := nI_clamp (by omega)
          have pe : hI hb m 36 = nI (vN r) := by rw [e1 m (by omega), r4 m (by omega)]; exact d1
          have kd : hI hb (m + 11) p = vKd r p := Rb.2.2.2.2.2.2.2 p (by omega)
          have ihj := ihj (p + 1) (by omega)
          rw [chs] at ihj
          refine bX10_choices_36 ⟨Mb.1, fun c => absurd c (by rw [pe, nI_leI (by omega) (by omega)]; omega), fun _ => ⟨Mb.in 10 rfl rfl (show p < 96 by omega) (by decide), fun c5 => ?_, fun c5 => ?_⟩⟩
          · rw [hpc, kd] at c5
            rw [if_pos c5] at ihj
            have k8 : chs (vKd r) p < ncs r := chs_lt _ (by omega) c5
            have ei : (8 : Int32) * nI c + nI (chs (vKd r) p) = nI (8 * c + chs (vKd r) p) := by
              rw [show (8 : Int32) = nI 8 by decide, pk_mul, nI_add]
            refine ⟨Mb.in 27 rfl rfl (show p < 360 by omega) (by decide), c_waitOf Mb (by omega) ⟨_, rfl, am_L.s Mb.1 35 rfl, Mb.in 35 rfl ei (show 8 * c + chs (vKd r) p < 2048 by omega) (by decide), fun h9 e9 => ?_⟩⟩
            rw [ei, nI_clamp (show 8 * c + chs (vKd r) p < 2 ^ 31 by omega), hpc, sI_r] at e9
            rw [nI_1, nI_1]
            have F9 : FrZ m h h9 := by rw [e9]; exact Fb.row (by decide) (by decide)
            have g9 : hI h9 (m + 36) = va_up (hI hb (m + 36)) (8 * c + chs (vKd r) p) (ownV r c p) := by
              rw [e9, hI_rs, e1 _ (show m + 28 ≠ m + 36 by omega), e1 _ (show m + 30 ≠ m + 36 by omega), e1 _ (show m + 26 ≠ m + 36 by omega), r4 _ (show m + 28 ≠ m + 35 by omega), r4 _ (show m + 30 ≠ m + 35 by omega), r4 _ (show m + 26 ≠ m + 35 by omega), d3 p (by omega), wof_eq (show p < vN r by omega) s1 a1]
              rfl
            refine ihj h9 F9 (fun a ha => by rw [e9, hI_rn _ _ ha]; exact e1 a ha) (fun i hi => by rw [g9, va_up_ne _ _ (by omega)]; exact e2 i hi) (fun k hk => ?_)
            rw [g9]
            by_cases ck : k = chs (vKd r) p
            · subst ck
              rw [va_up_self]
              unfold ownK
              rw [chp_at c5 (by omega)]
            · rw [va_up_ne _ _ (by omega)]
              exact e3 k (by omega)
          · rw [hpc, kd] at c5
            rw [if_neg c5] at ihj
            rw [nI_1]
            exact ihj hb Fb e1 e2 e3
      refine inner (vN r) 0 (by omega) h4 F4 (fun _ _ => rfl) (fun i _ => by rw [r4 _ (by omega), r36]) (fun k hk => ?_)
      rw [chs] at hk
      omega
  exact loop (2 ^ ncs r) 0 (by omega) h FrZ.rf (fun c' hc' => by omega)
theorem c_choice {what : Int32} (R : RvC w (d + 2) m h r) (h8 : ncs r ≤ 8) (q : ∀ h', FrZ m h h' → Q (some (.int (aChoice r what))) h') : EvM w mX10_choice (d + 7) [.ref m, .int what] h Q := by
  have p8 := p2_8 h8
  have p1 : 0 < 2 ^ ncs r := Nat.pow_pos (by decide)
  refine bX10_choice_0 ⟨R.1.1.1, fun h2 e2 => ?_⟩
  have F2 : FrZ m h h2 := by rw [e2]; exact FrZ.rf.fld
  unfold aChoice at q
  refine c_within ⟨_, rfl, fun c => ?_, fun c => ⟨(F2.md R.1.1).1, c_choices (R.fr F2) h8 (fun h3 F3 T => ⟨_, rfl, ?_⟩)⟩⟩
  · rw [if_neg (b01_z c)] at q; exact q h2 F2
  · rw [if_pos (b01_n c)] at q
    have F := F2.tz F3
    have M3 := F.md R.1.1
    have q := q h3 F
    have loop : ∀ k c : Nat, 0 < c → c + k = 2 ^ ncs r → Ev w (am_Z w) mX10_choice (d + 6 + 1) 26 [(0, .ref m), (1, .int what), (2, .int (nI (2 ^ ncs r))), (3, .int (nI (bstL r c))), (4, .int (nI c))] [] h3 Q := by
      intro k
      induction k with
      | zero =>
        intro c h0 hk
        have hk : c = 2 ^ ncs r := by omega
        subst hk
        have b1 := bstL_lt r p1
        refine bX10_choice_26 ⟨fun _ => ⟨fun c1 => ⟨M3.1, M3.in 34 rfl rfl (show bstL r (2 ^ ncs r) < 256 by omega) (by decide), ?_⟩, fun c1 => ?_⟩, fun c => absurd (Int32.le_refl _) c⟩
        · rw [if_pos c1] at q
          rw [nI_clamp (by omega), (T _ b1).1]
          exact q
        · rw [if_neg c1] at q
          exact q
      | succ k ih =>
        intro c h0 hk
        have b1 := bstL_lt r h0
        have ih := ih (c + 1) (by omega) (by omega)
        rw [bstL] at ih
        refine bX10_choice_26 ⟨fun c2 => absurd c2 (by rw [nI_leI (by omega) (by omega)]; omega), fun _ => ⟨M3.1, M3.in 34 rfl rfl (show c < 256 by omega) (by decide), M3.in 34 rfl rfl (show bstL r c < 256 by omega) (by decide), fun c3 => ?_, fun c3 => ?_⟩⟩
        · rw [nI_clamp (by omega), nI_clamp (by omega), (T _ (show bstL r c < 2 ^ ncs r by omega)).1, (T _ (show c < 2 ^ ncs r by omega)).1] at c3
          rw [if_pos c3] at ih
          rw [nI_1]
          exact ih
        · rw [nI_clamp (by omega), nI_clamp (by omega), (T _ (show bstL r c < 2 ^ ncs r by omega)).1, (T _ (show c < 2 ^ ncs r by omega)).1] at c3
          rw [if_neg c3] at ih
          rw [nI_1]
          exact ih
    have := loop (2 ^ ncs r - 1) 1 (by omega) (by omega)
    rw [bstL, bstL] at this
    have e : (if ccost r 0 ≤ ccost r 0 then 0 else 0) = 0 := by split <;> rfl
    rw [e] at this
    exact this
theorem c_chosen {x : Int32} (R : RvC w (d + 2) m h r) (h8 : ncs r ≤ 8) (q : ∀ h', FrZ m h h' → Q (some (.int (aChosen r x))) h') : EvM w mX10_chosen (d + 6) [.ref m, .int x] h Q := by
  refine bX10_chosen_0 ⟨R.1.1.1, fun h2 e2 => ?_⟩
  have F2 : FrZ m h h2 := by rw [e2]; exact FrZ.rf.fld
  have R2 := R.fr F2
  have hN2 := R.1.2.2.1
  unfold aChosen at q
  refine c_choosers0 R2 ⟨_, rfl, ?_⟩
  rw [sh1 _ (by omega)]
  refine c_within ⟨_, rfl, fun c => ?_, fun c => ⟨R2.1.1.1, c_dayC R2 (fun h3 k F3 D => ⟨rfl, ?_⟩)⟩⟩
  · rw [if_neg (b01_z c)] at q; exact q h2 F2
  · rw [if_pos (b01_n c)] at q
    have F := F2.tr F3
    have M3 := F.md R.1.1
    obtain ⟨d1, d2, d3, d4, d5, s1, s2, s3⟩ := D
    have s1 : eqR (vN r) (hI h3 (m + 30)) (dayK r x 1440).1 := s1
    have a1 : eqR (vN r) (hI h3 (m + 26)) (vAt r) := d2.2.2.1
    refine ⟨M3.1, c_costAll M3 d1 (by omega) ⟨_, rfl, ?_⟩⟩
    rw [cst_eq (vN r) (Nat.le_refl _) d3 s1 a1]
    exact q h3 F
theorem c_isRest {c : Nat} (R : RvC w (d + 2) m h r) (h8 : ncs r ≤ 8) (T : chR r (2 ^ ncs r) (hI h (m + 35)) (hI h (m + 36))) (hc : c < 2 ^ ncs r) (q : Q (some (.int (if isR r c then 1 else 0))) h) {d' : Nat} : EvM w mX10_isRest (d' + 1) [.ref m, .int (nI c)] h Q := by
  have p8 := p2_8 h8
  have M := R.1.1
  refine bX10_isRest_0 ?_
  have loop : ∀ j k : Nat, k + j = ncs r → rstL r c k = true → Ev w (am_Z w) mX10_isRest (d' + 1) 2 [(0, .ref m), (1, .int (nI c)), (2, .int (nI k))] [] h Q := by
    intro j
    induction j with
    | zero =>
      intro k hk t
      have hk : k = ncs r := by omega
      subst hk
      refine bX10_isRest_2 ⟨M.1, c_choosers0 R ⟨_, rfl, fun _ => ?_, fun c => absurd (Int32.le_refl _) c⟩⟩
      have : isR r c = true := t
      rw [this] at q
      exact q
    | succ j ih =>
      intro k hk t
      have x1 : c ^^^ 2 ^ k < 2 ^ ncs r := Nat.xor_lt_two_pow hc (Nat.pow_lt_pow_right (by decide) (by omega))
      have ex : (8 : Int32) * (nI c ^^^ ((1 : Int32) <<< (nI k &&& 31))) + nI k = nI (8 * (c ^^^ 2 ^ k) + k) := by
        rw [sh1 _ (by omega), nI_xor, show (8 : Int32) = nI 8 by decide, pk_mul, nI_add]
      have ei : (8 : Int32) * nI c + nI k = nI (8 * c + k) := by
        rw [show (8 : Int32) = nI 8 by decide, pk_mul, nI_add]
      have v1 := (T _ x1).2 k (by omega)
      have v2 := (T _ hc).2 k (by omega)
      refine bX10_isRest_2 ⟨M.1, c_choosers0 R ⟨_, rfl, fun c2 => absurd c2 (by rw [nI_leI (by omega) (by omega)]; omega), fun _ => ⟨M.1, M.in 35 rfl ex (by omega) (by decide), M.in 35 rfl ei (by omega) (by decide), fun c3 => ?_, fun c3 => ?_⟩⟩⟩
      · rw [ex, ei, nI_clamp (by omega), nI_clamp (by omega), v1, v2] at c3
        rw [nI_1]
        refine ih (k + 1) (by omega) ?_
        rw [rstL, t, decide_eq_true c3]
        rfl
      · rw [ex, ei, nI_clamp (by omega), nI_clamp (by omega), v1, v2] at c3
        have f1 : rstL r c (k + 1) = false := by
          rw [rstL, decide_eq_false c3]; simp
        have f2 : ∀ i, rstL r c (k + 1 + i) = false := by
          intro i
          induction i with
          | zero => exact f1
          | succ i ih2 => rw [← Nat.add_assoc, rstL, ih2]; rfl
        have : isR r c = false := by
          have := f2 (ncs r - (k + 1))
          rw [show k + 1 + (ncs r - (k + 1)) = ncs r by omega] at this
          exact this
        rw [this] at q
        exact q
  exact loop (ncs r) 0 (by omega) rfl
theorem c_rests (R : RvC w (d + 2) m h r) (h8 : ncs r ≤ 8) (q : ∀ h', FrZ m h h' → Q (some (.int (nI (rssL r (2 ^ ncs r))))) h') : EvM w mX10_rests (d + 7) [.ref m] h Q := by
  have p8 := p2_8 h8
  refine bX10_rests_0 ⟨R.1.1.1, fun h2 e2 => ?_⟩
  have F2 : FrZ m h h2 := by rw [e2]; exact FrZ.rf.fld
  refine c_choices (R.fr F2) h8 (fun h3 F3 T => ⟨_, rfl, ?_⟩)
  have F := F2.tz F3
  have R3 := R.fr F
  have q := q h3 F
  have loop : ∀ k c : Nat, c + k = 2 ^ ncs r → Ev w (am_Z w) mX10_rests (d + 6 + 1) 14 [(0, .ref m), (1, .int (nI (2 ^ ncs r))), (2, .int (nI (rssL r c))), (3, .int (nI c))] [] h3 Q := by
    intro k
    induction k with
    | zero =>
      intro c hk
      have hk : c = 2 ^ ncs r := by omega
      subst hk
      exact bX10_rests_14 ⟨fun _ => q, fun c => absurd (Int32.le_refl _) c⟩
    | succ k ih =>
      intro c hk
      have ih := ih (c + 1) (by omega)
      rw [rssL] at ih
      refine bX10_rests_14 ⟨fun c2 => absurd c2 (by rw [nI_leI (by omega) (by omega)]; omega), fun _ => ⟨R3.1.1.1, c_isRest R3 h8 T (by omega) ⟨_, rfl, fun c3 => ?_, fun c3 => ?_⟩⟩⟩
      · have e : isR r c = false := by
          cases hh : isR r c with
          | false => rfl
          | true => rw [hh] at c3; exact absurd c3 (by decide)
        rw [e] at ih
        rw [nI_1, show ∀ x : Int32, x + 0 = x from Int32.add_zero]
        exact ih
      · have e : isR r c = true := by
          cases hh : isR r c with
          | true => rfl
          | false => rw [hh] at c3; exact absurd rfl c3
        rw [e, if_pos rfl] at ih
        rw [nI_1, nI_1]
        exact ih
  exact loop (2 ^ ncs r) 0 (by omega)
theorem c_rest {i : Int32} (R : RvC w (d + 2) m h r) (h8 : ncs r ≤ 8) (q : ∀ h', FrZ m h h' → Q (some (.int (rstI r i (2 ^ ncs r) 0))) h') : EvM w mX10_rest (d + 7) [.ref m, .int i] h Q := by
  have p8 := p2_8 h8
  refine bX10_rest_0 ⟨R.1.1.1, fun h2 e2 => ?_⟩
  have F2 : FrZ m h h2 := by rw [e2]; exact FrZ.rf.fld
  refine c_choices (R.fr F2) h8 (fun h3 F3 T => ⟨_, rfl, ?_⟩)
  have F := F2.tz F3
  have R3 := R.fr F
  have q := q h3 F
  have loop : ∀ k c : Nat, c + k = 2 ^ ncs r → Q (some (.int (rstI r i k c))) h3 → Ev w (am_Z w) mX10_rest (d + 6 + 1) 15 [(0, .ref m), (1, .int i), (2, .int (nI (2 ^ ncs r))), (3, .int (nI (rssL r c))), (4, .int (nI c))] [] h3 Q := by
    intro k
    induction k with
    | zero =>
      intro c hk q
      have hk : c = 2 ^ ncs r := by omega
      subst hk
      exact bX10_rest_15 ⟨fun _ => q, fun c => absurd (Int32.le_refl _) c⟩
    | succ k ih =>
      intro c hk q
      rw [rstI] at q
      have ih := ih (c + 1) (by omega)
      rw [rssL] at ih
      refine bX10_rest_15 ⟨fun c2 => absurd c2 (by rw [nI_leI (by omega) (by omega)]; omega), fun _ => ⟨R3.1.1.1, c_isRest R3 h8 T (by omega) ⟨_, rfl, fun c3 => ?_, fun c3 => ?_⟩⟩⟩
      · have e : isR r c = false := by
          cases hh : isR r c with
          | false => rfl
          | true => rw [hh] at c3; exact absurd c3 (by decide)
        rw [e] at ih
        rw [if_neg (by rw [e]; decide)] at q
        rw [nI_1]
        exact ih q
      · have e : isR r c = true := by
          cases hh : isR r c with
          | true => rfl
          | false => rw [hh] at c3; exact absurd rfl c3
        rw [e, if_pos rfl] at ih
        rw [if_pos e] at q
        refine ⟨fun c4 => ?_, fun c4 => ?_⟩
        · rw [if_pos c4] at q
          exact q
        · rw [if_neg c4] at q
          rw [nI_1, nI_1]
          exact ih q
  exact loop (2 ^ ncs r) 0 (by omega) q
end RCHOICE
