/-! The class's firstHolding and soonest: the next minute in which it may ring. -/
def mnE (at_ : Nat → Int32) : List Nat → List Nat → Int32
  | [], [] => 0
  | a :: _, [] => at_ a
  | [], b :: _ => at_ b
  | a :: _, b :: _ => if at_ b < at_ a then at_ b else at_ a
theorem erl_mn {at_ : Nat → Int32} {minute : Int32} {X0 X1 : List Nat} (hne : ¬ X0.length + X1.length = 0) (h0 : ∀ q ∈ X0, at_ q ≤ minute) (h1 : ∀ q ∈ X1, at_ q ≤ minute) : (if erl at_ minute X1 < erl at_ minute X0 then erl at_ minute X1 else erl at_ minute X0) = mnE at_ X0 X1 := by
  match X0, X1, hne, h0, h1 with
  | [], [], hne, _, _ => exact absurd rfl hne
  | a :: _, [], _, h0, _ =>
    have := h0 a List.mem_cons_self
    show (if minute < at_ a then minute else at_ a) = at_ a
    rw [if_neg (Int32.not_lt.mpr this)]
  | [], b :: _, _, _, h1 =>
    have := h1 b List.mem_cons_self
    show (if at_ b < minute then at_ b else minute) = at_ b
    by_cases c : at_ b < minute
    · rw [if_pos c]
    · rw [if_neg c]; exact Int32.le_antisymm (Int32.not_lt.mp c) this
  | _ :: _, _ :: _, _, _, _ => rfl
theorem sub_s (x e : Int32) : x - e + 1 = x + 1 - e := by
  rw [Int32.sub_eq_add_neg, Int32.sub_eq_add_neg, Int32.add_assoc, Int32.add_assoc, Int32.add_comm (-e) 1]
theorem FV_cg {at_ wt ct : Nat → Int32} {mi mi' g0 g1 : Int32} {X0 X1 : List Nat} {k : Nat} (h1 : 1 ≤ k) (h2 : k ≤ 4) : FV at_ wt ct mi X0 X1 g0 g1 k = FV at_ wt ct mi' X0 X1 g0 g1 k := by
  unfold FV
  have : k = 1 ∨ k = 2 ∨ k = 3 ∨ k = 4 := by omega
  rcases this with e | e | e | e <;> subst e <;> simp
theorem FV5 {at_ wt ct : Nat → Int32} {mi g0 g1 : Int32} {X0 X1 : List Nat} : FV at_ wt ct mi X0 X1 g0 g1 5 = mi - (if erl at_ mi X1 < erl at_ mi X0 then erl at_ mi X1 else erl at_ mi X0) := rfl
theorem FV6 {at_ wt ct : Nat → Int32} {mi g0 g1 : Int32} {X0 X1 : List Nat} : FV at_ wt ct mi X0 X1 g0 g1 6 = mi := rfl
section XSOON
variable {w : am_W} {d : Nat} {h h1 : am_H} {Q : Option Value → am_H → Prop} {D L Lc n ρ c s room kr j : Nat} {P : rP} {l X0 X1 : List Nat} {trip boats : Int32} {lf : (Nat → Int32) → Int32} {S : rS}
set_option maxHeartbeats 4000000 in
theorem c_firstHolding {a u : Nat} (A : DC D L Lc n ρ c s P l room trip boats lf h) (b0 : Bk (D + 4) h X0 j P.2.2.2.2.2.2 P.2.2.2.2.1 0) (b1 : Bk (D + 6) h X1 j P.2.2.2.2.2.2 P.2.2.2.2.1 0) (hj : j ≤ L) (l0 : ∀ q ∈ X0, q < n) (l1 : ∀ q ∈ X1, q < n) (hne : ¬ X0.length + X1.length = 0) (h0 : ∀ q ∈ X0, P.2.2.2.1 q ≤ nI a) (h1 : ∀ q ∈ X1, P.2.2.2.1 q ≤ nI a) (hu : u ≤ 1440) (hau : a ≤ u)
    (q : ∀ h' v, FrA (fun a => a = D + 2 ∨ a = D + 3) h h' → a ≤ v → v ≤ u → (∀ m, a ≤ m → m < v → lwV P.2.1 lf (FV P.2.2.2.1 P.2.2.2.2.1 P.2.2.2.2.2.2 (nI m) X0 X1 0 0) = false) → Q (some (.int (nI v))) h') : EvM w mX3_firstHolding (d + 2) [.ref D, .int (nI a), .int (nI u)] h Q := by
  obtain ⟨a1, a2, a3, a4, a5, ⟨r12, r13, r14, z1, z2, z3⟩, ⟨o1, o2, o3, o4⟩, C, ⟨s1, s2, s3, s4⟩, a10, a11, a12⟩ := id A
  have O2 := o1 (ρ + 10) (by omega) (by omega)
  have up : ∀ m, a ≤ m → m ≤ u → nI a ≤ nI m := fun m h1 h2 => nI_le h1 (by omega)
  have em : ∀ m, a ≤ m → m ≤ u → (if erl P.2.2.2.1 (nI m) X1 < erl P.2.2.2.1 (nI m) X0 then erl P.2.2.2.1 (nI m) X1 else erl P.2.2.2.1 (nI m) X0) = mnE P.2.2.2.1 X0 X1 := fun m h2 h3 => erl_mn hne (fun x hx => Int32.le_trans (h0 x hx) (up m h2 h3)) (fun x hx => Int32.le_trans (h1 x hx) (up m h2 h3))
  have loop : ∀ k m, m + k = u → a ≤ m → ∀ hc, FrA (fun a => a = D + 2 ∨ a = D + 3) h hc → (∀ i, i < 6 → FV P.2.2.2.1 P.2.2.2.2.1 P.2.2.2.2.2.2 (nI m) X0 X1 0 0 (i + 1) = hI hc (D + 2) i) → (∀ i, a ≤ i → i < m → lwV P.2.1 lf (FV P.2.2.2.1 P.2.2.2.2.1 P.2.2.2.2.2.2 (nI i) X0 X1 0 0) = false) →
      Ev w (am_Z w) mX3_firstHolding (d + 1 + 1) 7 [(0, .ref D), (2, .int (nI u)), (3, .int (nI m))] [] hc Q := by
    intro k
    induction k with
    | zero =>
      intro m hm ham hc F V T
      have hm : m = u := by omega
      subst hm
      exact bX3_firstHolding_7 ⟨fun _ => q hc m F ham (Nat.le_refl _) T, fun c1 => absurd (Int32.le_refl _) c1⟩
    | succ k ih =>
      intro m hm ham hc F V T
      refine bX3_firstHolding_7 ⟨fun c1 => absurd c1 (by rw [nI_leI (by omega) (by omega)]; omega), fun _ => ⟨F.L a1, by rw [F.R, r12]; exact z1, by rw [F.R, r12]; exact F.L a10.1, ?_⟩⟩
      rw [F.R, r12, F.I (show ¬ (D = D + 2 ∨ D = D + 3) by omega), a11]
      refine c_lawValueX (F.L a10.1) (a10.2.2.2.2.2.2.2.1.fr F (by unfold Out at O2; omega) (by unfold Out at o4; omega)) (by rw [F.K]; exact a1.s 1 rfl) (by rw [F.N]; exact a4.2.1) (by rw [F.K]; exact a1.s 2 rfl) (by rw [F.N]; exact a4.2.2.1) (by omega) (by unfold Out at O2; omega) (by rw [F.R]; unfold Out at o4; omega) V (fun h4 r F4 e4 => ⟨_, rfl, fun c1 => ?_, fun c1 => ?_⟩)
      · have G4 : FrA (fun a => a = D + 2 ∨ a = D + 3) h h4 := F.tr (F4.mono (fun x e => Or.inr e))
        have lw : lwV P.2.1 lf (FV P.2.2.2.1 P.2.2.2.2.1 P.2.2.2.2.2.2 (nI m) X0 X1 0 0) = false := by
          rw [decide_eq_true c1] at e4
          cases hh : lwV P.2.1 lf (FV P.2.2.2.1 P.2.2.2.2.1 P.2.2.2.2.2.2 (nI m) X0 X1 0 0) with
          | false => rfl
          | true => rw [hh] at e4; exact absurd e4 (by decide)
        have x4 : hI h4 (D + 2) = hI hc (D + 2) := F4.I (by omega)
        refine ⟨G4.L a1, c_get (by rw [G4.K]; exact a1.s 1 rfl) (by rw [G4.N, a4.2.1]; decide) ⟨_, rfl, c_set (by rw [G4.K]; exact a1.s 1 rfl) (by rw [G4.N, a4.2.1]; decide) ⟨rfl, FrA.L (Z := fun _ => True) (FrA.rf.row trivial) (G4.L a1), ?_⟩⟩⟩
        rw [G4.N, a4.2.1, x4, show (4 : Int32) = nI 4 by decide, gv_nI (by decide) (by decide), sv_nI (by decide) (by decide), ← V 4 (by decide)]
        generalize hh11 : rI h4 (D + 2) (va_up (hI hc (D + 2)) 4 (FV P.2.2.2.1 P.2.2.2.2.1 P.2.2.2.2.2.2 (nI m) X0 X1 0 0 (4 + 1) + 1)) = h11
        have G11 : FrA (fun a => a = D + 2 ∨ a = D + 3) h h11 := by rw [← hh11]; exact G4.row (Or.inl rfl)
        have x11 : hI h11 (D + 2) = va_up (hI hc (D + 2)) 4 (FV P.2.2.2.1 P.2.2.2.2.1 P.2.2.2.2.2.2 (nI m) X0 X1 0 0 (4 + 1) + 1) := by rw [← hh11, hI_rs]
        refine c_set (by rw [G11.K]; exact a1.s 1 rfl) (by rw [G11.N, a4.2.1]; decide) ⟨rfl, ?_⟩
        rw [G11.N, a4.2.1, x11, show (5 : Int32) = nI 5 by decide, sv_nI (by decide) (by decide), nI_1]
        refine ih (m + 1) (by omega) (by omega) _ (G11.row (Or.inl rfl)) (fun i hi => ?_) (fun i h2 h3 => ?_)
        · rw [hI_rs]
          have e1 := em m ham (by omega)
          have e2 := em (m + 1) (by omega) (by omega)
          have : i = 0 ∨ i = 1 ∨ i = 2 ∨ i = 3 ∨ i = 4 ∨ i = 5 := by omega
          rcases this with e | e | e | e | e | e <;> subst e
          · rw [va_up_ne _ _ (by decide), va_up_ne _ _ (by decide), ← V 0 (by decide)]; exact FV_cg (by decide) (by decide)
          · rw [va_up_ne _ _ (by decide), va_up_ne _ _ (by decide), ← V 1 (by decide)]; exact FV_cg (by decide) (by decide)
          · rw [va_up_ne _ _ (by decide), va_up_ne _ _ (by decide), ← V 2 (by decide)]; exact FV_cg (by decide) (by decide)
          · rw [va_up_ne _ _ (by decide), va_up_ne _ _ (by decide), ← V 3 (by decide)]; exact FV_cg (by decide) (by decide)
          · rw [va_up_ne _ _ (by decide), va_up_self]
            rw [show 4 + 1 = 5 from rfl, FV5, FV5, e1, e2, sub_s, nI_1]
          · rw [va_up_self]; exact FV6
        · by_cases e : i = m
          · rw [e]; exact lw
          · exact T i h2 (by omega)
      · exact q h4 m (F.tr (F4.mono (fun x e => Or.inr e))) ham (by omega) T
  exact bX3_firstHolding_0 ⟨a1, c_gatherFacts A b0 b1 hj l0 l1 (fun h2 F2 e2 => ⟨rfl, loop (u - a) a (by omega) (Nat.le_refl _) h2 (F2.mono (fun x e => Or.inl e)) e2 (fun i h2 h3 => absurd h3 (by omega))⟩)⟩
/-- what a next minute must keep below -/
def PS (a lv n j : Nat) (at_ : Nat → Int32) (l : List Nat) (boats b0 b1 x : Int32) (i : Nat) : Prop := nI a < x ∧ x ≤ 1440 ∧ (a < lv → x ≤ nI lv) ∧ (∀ q ∈ l.drop j, x ≤ at_ q) ∧ (0 < i → nI a < b0 → x ≤ b0) ∧ (1 < i → nI a < b1 → x ≤ b1)
theorem lw_untimed {u : Int32} (R : RvY ρ h room trip boats u lf) (ht : u < 0 ∨ ((hI h ρ 14) >>> (u &&& 31)) &&& 1 = 0) {V V' : Nat → Int32} (e : ∀ i, 1 ≤ i → i ≤ 4 → V i = V' i) : lwV u lf V = lwV u lf V' := by
  unfold lwV
  by_cases h0 : 0 ≤ u
  · rw [if_pos h0, if_pos h0]
    rcases ht with ht | ht
    · exact absurd (Int32.lt_of_lt_of_le ht h0) Int32.lt_irrefl
    · rw [R.2.2.2.2.2.2.2.2 h0 ht V V' e]
  · rw [if_neg h0, if_neg h0, e 1 (by decide) (by decide), e 2 (by decide) (by decide)]
theorem Cm.le {a : Nat} {at_ : Nat → Int32} (C : Cm at_ l j (nI a)) {m : Nat} (ham : a ≤ m) (hm : m < 2 ^ 31) (hd : ∀ q ∈ l.drop j, nI m < at_ q) : Cm at_ l j (nI m) :=
  ⟨fun x hx hlt => C.1 x hx (Int32.lt_of_le_of_lt (nI_le ham hm) hlt), hd⟩
set_option maxHeartbeats 4000000 in
/-- behind the boats -/
theorem c_soonFin {a lv : Nat} {x : Int32} {x3 : Int32} {i : Nat} (A : DC D L Lc n ρ c s P l room trip boats lf h) (Y : YS D n P l boats h S kr j) (C : Cm P.2.2.2.1 l j (nI a)) (ha : a < 1440) (hi : boats = nI i) (hi2 : i = 1 ∨ i = 2)
    (p : PS a lv n j P.2.2.2.1 l boats S.2.2.2.2.2.2.1 S.2.2.2.2.2.2.2 x i) (h3 : (x3 = 0) ↔ (decide (S.2.2.2.2.2.2.1 ≤ nI a) || decide (S.2.2.2.2.2.2.2 ≤ nI a)) = false)
    (q : ∀ h' v, FrA (fun a => a = D + 2 ∨ a = D + 3) h h' → a < v → v ≤ 1440 → (∀ m, a < m → m < v → m ≠ lv ∧ Cm P.2.2.2.1 l j (nI m) ∧ (wr P n lf (nI a) S = false → wr P n lf (nI m) S = false)) → Q (some (.int (nI v))) h') :
    Ev w (am_Z w) mX3_soonest (d + 3) 54 [(0, .ref D), (1, .int (nI a)), (2, .int x), (3, .int x3), (4, .int (nI i))] [] h Q := by
  obtain ⟨a1, a2, a3, a4, a5, ⟨r12, r13, r14, z1, z2, z3⟩, ⟨o1, o2, o3, o4⟩, CC, ⟨s1, s2, s3, s4⟩, a10, a11, a12⟩ := id A
  obtain ⟨⟨y1, y2⟩, ⟨y3, y4, y5, y6, y7, y8⟩, ⟨y9, y10, y11⟩, ⟨y12, y13⟩, y14, b0, b1⟩ := id Y
  obtain ⟨p1, p2, p3, p4, p5, p6⟩ := p
  have O := CC.2.2.2.2.2.2.2.1
  have hC : lfC lf := a10.2.2.2.2.2.2.1
  have hx0 : ¬ x < 0 := fun hn => Int32.lt_irrefl (Int32.lt_trans (Int32.lt_of_le_of_lt (nI_pos' (n := a) (by omega)) p1) hn)
  obtain ⟨v, hv, rfl⟩ := nI_of hx0
  rw [nI_ltI (by omega) hv] at p1
  rw [show (1440 : Int32) = nI 1440 by decide, nI_leI hv (by decide)] at p2
  have hun : ∀ m, m ≤ 1440 → nI m < 100000 := fun m hm => lt_hun hm
  have b1' : (i = 1 → S.2.2.2.2.2.2.2 = 100000) := fun e => y11 (by rw [hi, e]; decide)
  -- boats as they are
  have fr : ∀ m, a < m → m < v → (decide (S.2.2.2.2.2.2.1 ≤ nI m) || decide (S.2.2.2.2.2.2.2 ≤ nI m)) = (decide (S.2.2.2.2.2.2.1 ≤ nI a) || decide (S.2.2.2.2.2.2.2 ≤ nI a)) := by
    intro m h1 h2
    have e0 : decide (S.2.2.2.2.2.2.1 ≤ nI m) = decide (S.2.2.2.2.2.2.1 ≤ nI a) := by
      by_cases cc : S.2.2.2.2.2.2.1 ≤ nI a
      · rw [decide_eq_true cc, decide_eq_true (Int32.le_trans cc (nI_le (by omega) (by omega)))]
      · rw [decide_eq_false cc, decide_eq_false]
        have := p5 (by omega) (Int32.not_le.mp cc)
        intro hn
        have := Int32.le_trans this hn
        rw [nI_leI (by omega) (by omega)] at this
        omega
    have e1 : decide (S.2.2.2.2.2.2.2 ≤ nI m) = decide (S.2.2.2.2.2.2.2 ≤ nI a) := by
      by_cases cc : S.2.2.2.2.2.2.2 ≤ nI a
      · rw [decide_eq_true cc, decide_eq_true (Int32.le_trans cc (nI_le (by omega) (by omega)))]
      · rw [decide_eq_false cc, decide_eq_false]
        intro hn
        rcases hi2 with e | e
        · rw [b1' e] at hn
          exact Int32.lt_irrefl (Int32.lt_of_lt_of_le (hun m (by omega)) hn)
        · have := p6 (by omega) (Int32.not_le.mp cc)
          have := Int32.le_trans this hn
          rw [nI_leI (by omega) (by omega)] at this
          omega
    rw [e0, e1]
  have Cm' : ∀ m, a < m → m < v → Cm P.2.2.2.1 l j (nI m) := fun m h1 h2 => C.le (by omega) (by omega) (fun x hx => Int32.lt_of_lt_of_le (nI_lt h2 hv) (p4 x hx))
  have ne : ∀ m, a < m → m < v → m ≠ lv := by
    intro m h1 h2 e
    have := p3 (by omega)
    rw [nI_leI hv (by omega)] at this
    omega
  generalize hX0 : (l.take j).filter (inB P.2.2.1 S.1 0) = X0 at b0
  generalize hX1 : (l.take j).filter (inB P.2.2.1 S.1 1) = X1 at b1
  have wrm : ∀ m, a ≤ m → m < v → wr P n lf (nI m) S = wrL P S lf (nI m) X0 X1 0 0 := by
    intro m h1 h2
    have Cm0 : Cm P.2.2.2.1 l j (nI m) := by
      by_cases e : m = a
      · rw [e]; exact C
      · exact Cm' m (by omega) h2
    rw [wr_list (S := S) (a := m) O a12 hC (by omega), ← take_filter Cm0, ← take_filter Cm0, hX0, hX1]
  have end1 : ((decide (S.2.2.2.2.2.2.1 ≤ nI a) || decide (S.2.2.2.2.2.2.2 ≤ nI a)) = false ∨ (P.2.1 < 0 ∨ ((hI h ρ 14) >>> (P.2.1 &&& 31)) &&& 1 = 0) ∨ X0.length + X1.length = 0) → Q (some (.int (nI v))) h := by
    intro cs
    refine q h v FrA.rf p1 p2 (fun m h1 h2 => ⟨ne m h1 h2, Cm' m h1 h2, fun hw => ?_⟩)
    rw [wrm a (Nat.le_refl _) (by omega)] at hw
    rw [wrm m (by omega) h2]
    unfold wrL at hw ⊢
    rw [fr m h1 h2]
    rcases cs with e | e | e
    · rw [e]; rfl
    · rw [lw_untimed a10 e (V' := FV P.2.2.2.1 P.2.2.2.2.1 P.2.2.2.2.2.2 (nI a) X0 X1 (nI 0) (nI 0)) (fun k h1 h2 => FV_cg h1 h2)]
      exact hw
    · rw [show decide (X0.length + 0 + (X1.length + 0) = 0) = true from decide_eq_true (by omega)]; simp
  refine bX3_soonest_54 ⟨a1, by rw [r12]; exact z1, by rw [r12]; exact a10.1, fun _ => ⟨fun c1 => end1 (Or.inl (h3.mp c1)), fun c1 => ?_⟩, fun c1 => absurd (by rw [r12, a10.2.2.2.1, hi]; exact Int32.le_refl _) c1⟩
  rw [r12, a11]
  have len0 : X0.length ≤ 300 := by obtain ⟨hd, _, _, e3, _⟩ := b0; have := a2.2.2; omega
  have len1 : X1.length ≤ 300 := by obtain ⟨hd, _, _, e3, _⟩ := b1; have := a2.2.2; omega
  have tail : Ev w (am_Z w) mX3_soonest (d + 3) 54 [(0, .ref D), (1, .int (nI a)), (2, .int (nI v)), (3, .int x3), (4, .int (nI i))] [] h Q → True := fun _ => trivial
  have frt : (decide (S.2.2.2.2.2.2.1 ≤ nI a) || decide (S.2.2.2.2.2.2.2 ≤ nI a)) = true := by
    cases hh : (decide (S.2.2.2.2.2.2.1 ≤ nI a) || decide (S.2.2.2.2.2.2.2 ≤ nI a)) with
    | true => rfl
    | false => exact absurd (h3.mpr hh) c1
  refine bX6_isTimed_0 ⟨fun c2 => ⟨_, rfl, fun _ => end1 (Or.inr (Or.inl (Or.inl c2))), fun c3 => absurd rfl c3⟩, fun c2 => ⟨a10.1, fun c3 => ⟨_, rfl, fun _ => end1 (Or.inr (Or.inl (Or.inr c3))), fun c4 => absurd rfl c4⟩, fun c3 => ⟨_, rfl, fun c4 => absurd c4 (by decide), fun _ => ⟨a1, Bk.size (g := 0) a2 b0 ⟨_, rfl, a1, Bk.size (g := 0) a3 b1 ⟨_, rfl, fun c5 => end1 (Or.inr (Or.inr ?_)), fun c5 => ⟨a1, ?_⟩⟩⟩⟩⟩⟩⟩
  · rw [nI_add, ← nI_0, nI_leI (by omega) (by omega)] at c5
    omega
  · rw [nI_add, ← nI_0, nI_leI (by omega) (by omega)] at c5
    rw [nI_1]
    have lea : ∀ b, ∀ x ∈ (l.take j).filter (inB P.2.2.1 S.1 b), P.2.2.2.1 x ≤ nI (a + 1) := fun b x hx => Int32.le_trans (Int32.not_lt.mp (C.1 x (List.mem_filter.mp hx).1)) (nI_le (by omega) (by omega))
    refine c_firstHolding (a := a + 1) (u := v) A b0 b1 (by omega) (fun x hx => by rw [← hX0] at hx; exact filt_lt O hx) (fun x hx => by rw [← hX1] at hx; exact filt_lt O hx) (by omega) (fun x hx => by rw [← hX0] at hx; exact lea 0 x hx) (fun x hx => by rw [← hX1] at hx; exact lea 1 x hx) p2 (by omega) (fun h' v' F' e1 e2 e3 => ⟨_, rfl, ?_⟩)
    refine q h' v' F' (by omega) (by omega) (fun m h1 h2 => ⟨ne m h1 (by omega), Cm' m h1 (by omega), fun hw => ?_⟩)
    rw [wrm m (by omega) (by omega)]
    unfold wrL
    have := e3 m (by omega) h2
    rw [nI_0, this]
    simp
set_option maxHeartbeats 4000000 in
theorem c_soonest {a lv : Nat} (A : DC D L Lc n ρ c s P l room trip boats lf h) (Y : YS D n P l boats h S kr j) (C : Cm P.2.2.2.1 l j (nI a)) (ha : a < 1440) (hlv : hI h D 17 = nI lv) (hlv2 : lv ≤ 1440)
    (q : ∀ h' v, FrA (fun a => a = D + 2 ∨ a = D + 3) h h' → a < v → v ≤ 1440 → (∀ m, a < m → m < v → m ≠ lv ∧ Cm P.2.2.2.1 l j (nI m) ∧ (wr P n lf (nI a) S = false → wr P n lf (nI m) S = false)) → Q (some (.int (nI v))) h') :
    EvM w mX3_soonest (d + 3) [.ref D, .int (nI a)] h Q := by
  obtain ⟨a1, a2, a3, a4, a5, ⟨r12, r13, r14, z1, z2, z3⟩, ⟨o1, o2, o3, o4⟩, CC, ⟨s1, s2, s3, s4⟩, a10, a11, a12⟩ := id A
  obtain ⟨⟨y1, y2⟩, ⟨y3, y4, y5, y6, y7, y8⟩, ⟨y9, y10, y11⟩, ⟨y12, y13⟩, y14, b0, b1⟩ := id Y
  have O := CC.2.2.2.2.2.2.2.1
  have hLc := CC.2.2.1
  have k1 : hK h (D + 1) = 12 := a1.s 0 rfl
  have n1 := a4.1
  have hb : boats = 1 ∨ boats = 2 := a10.2.2.2.2.1
  -- the boats
  have t54 : ∀ x, PS a lv n j P.2.2.2.1 l boats S.2.2.2.2.2.2.1 S.2.2.2.2.2.2.2 x 0 → Ev w (am_Z w) mX3_soonest (d + 2 + 1) 54 [(0, .ref D), (1, .int (nI a)), (2, .int x), (3, .int 0), (4, .int 0)] [] h Q := by
    intro x p
    -- the second boat
    have t1 : ∀ (x x3 : Int32), PS a lv n j P.2.2.2.1 l boats S.2.2.2.2.2.2.1 S.2.2.2.2.2.2.2 x 1 → ((x3 = 0) ↔ ¬ S.2.2.2.2.2.2.1 ≤ nI a) → Ev w (am_Z w) mX3_soonest (d + 2 + 1) 54 [(0, .ref D), (1, .int (nI a)), (2, .int x), (3, .int x3), (4, .int (0 + 1))] [] h Q := by
      intro x x3 p hx3
      rcases hb with e | e
      · refine c_soonFin (i := 1) A Y C ha (by rw [e]; decide) (Or.inl rfl) p ?_ q
        rw [hx3]
        have : ¬ S.2.2.2.2.2.2.2 ≤ nI a := by rw [y11 e]; exact Int32.not_le.mpr (lt_hun (by omega))
        simp [this]
      · have fin : ∀ (x x3 : Int32), PS a lv n j P.2.2.2.1 l boats S.2.2.2.2.2.2.1 S.2.2.2.2.2.2.2 x 2 → ((x3 = 0) ↔ (decide (S.2.2.2.2.2.2.1 ≤ nI a) || decide (S.2.2.2.2.2.2.2 ≤ nI a)) = false) → Ev w (am_Z w) mX3_soonest (d + 2 + 1) 54 [(0, .ref D), (1, .int (nI a)), (2, .int x), (3, .int x3), (4, .int (0 + 1 + 1))] [] h Q := fun x x3 p h3 => c_soonFin (i := 2) A Y C ha (by rw [e]; decide) (Or.inr rfl) p h3 q
        obtain ⟨p1, p2, p3, p4, p5, p6⟩ := p
        -- what the second boat makes of it
        have t92 : ∀ x3 : Int32, ((x3 = 0) ↔ (decide (S.2.2.2.2.2.2.1 ≤ nI a) || decide (S.2.2.2.2.2.2.2 ≤ nI a)) = false) → Ev w (am_Z w) mX3_soonest (d + 2 + 1) 92 [(0, .ref D), (1, .int (nI a)), (2, .int x), (4, .int (0 + 1)), (5, .int S.2.2.2.2.2.2.2)] [.int x3] h Q := by
          intro x3 h3
          refine bX3_soonest_92 ⟨fun c1 => fin x x3 ⟨p1, p2, p3, p4, fun _ => p5 (by decide), fun _ hn => absurd (Int32.lt_of_lt_of_le hn c1) Int32.lt_irrefl⟩ h3, fun c1 => ?_⟩
          by_cases c2 : S.2.2.2.2.2.2.2 < x
          · rw [if_pos c2]
            have l2 := Int32.le_of_lt c2
            exact fin _ x3 ⟨Int32.not_le.mp c1, Int32.le_trans l2 p2, fun hh => Int32.le_trans l2 (p3 hh), fun y hy => Int32.le_trans l2 (p4 y hy), fun _ hh => Int32.le_trans l2 (p5 (by decide) hh), fun _ _ => Int32.le_refl _⟩ h3
          · rw [if_neg c2]
            exact fin _ x3 ⟨p1, p2, p3, p4, fun _ => p5 (by decide), fun _ _ => Int32.not_lt.mp c2⟩ h3
        refine bX3_soonest_54 ⟨a1, by rw [r12]; exact z1, by rw [r12]; exact a10.1, fun c1 => absurd c1 (by rw [r12, a10.2.2.2.1, e]; decide), fun _ => c_get k1 (by rw [n1]; decide) ⟨_, rfl, ?_⟩⟩
        rw [n1, show (0 : Int32) + 1 = nI 1 by decide, gv_nI (by decide) (by decide), y10 e]
        rw [show (0 : Int32) + 1 = nI 1 by decide] at t92
        refine ⟨fun c1 => ⟨fun c2 => t92 0 ?_, fun c2 => t92 1 ?_⟩, fun c1 => t92 1 ?_⟩
        · have n0 := hx3.mp c1
          have n2 : ¬ S.2.2.2.2.2.2.2 ≤ nI a := Int32.not_le.mpr c2
          simp [n0, n2]
        · have n2 : S.2.2.2.2.2.2.2 ≤ nI a := Int32.not_lt.mp c2
          simp [n2]
        · have n0 : S.2.2.2.2.2.2.1 ≤ nI a := Classical.byContradiction fun hn => c1 (hx3.mpr hn)
          simp [n0]
    obtain ⟨p1, p2, p3, p4, p5, p6⟩ := p
    have t92 : ∀ x3 : Int32, ((x3 = 0) ↔ ¬ S.2.2.2.2.2.2.1 ≤ nI a) → Ev w (am_Z w) mX3_soonest (d + 2 + 1) 92 [(0, .ref D), (1, .int (nI a)), (2, .int x), (4, .int 0), (5, .int S.2.2.2.2.2.2.1)] [.int x3] h Q := by
      intro x3 h3
      refine bX3_soonest_92 ⟨fun c1 => t1 x x3 ⟨p1, p2, p3, p4, fun _ hn => absurd (Int32.lt_of_lt_of_le hn c1) Int32.lt_irrefl, fun hh => absurd hh (by decide)⟩ h3, fun c1 => ?_⟩
      by_cases c2 : S.2.2.2.2.2.2.1 < x
      · rw [if_pos c2]
        have l2 := Int32.le_of_lt c2
        exact t1 _ x3 ⟨Int32.not_le.mp c1, Int32.le_trans l2 p2, fun hh => Int32.le_trans l2 (p3 hh), fun y hy => Int32.le_trans l2 (p4 y hy), fun _ _ => Int32.le_refl _, fun hh => absurd hh (by decide)⟩ h3
      · rw [if_neg c2]
        exact t1 _ x3 ⟨p1, p2, p3, p4, fun _ _ => Int32.not_lt.mp c2, fun hh => absurd hh (by decide)⟩ h3
    refine bX3_soonest_54 ⟨a1, by rw [r12]; exact z1, by rw [r12]; exact a10.1, fun c1 => absurd c1 (by rw [r12, a10.2.2.2.1]; rcases hb with e | e <;> (rw [e]; decide)), fun _ => c_get k1 (by rw [n1]; decide) ⟨_, rfl, ?_⟩⟩
    rw [n1, show gv 2 (hI h (D + 1)) 0 = S.2.2.2.2.2.2.1 by rw [← nI_0, gv_nI (by decide) (by decide)]; exact y9]
    refine ⟨fun _ => ⟨fun c2 => t92 0 ?_, fun c2 => t92 1 ?_⟩, fun c1 => absurd rfl c1⟩
    · have n2 : ¬ S.2.2.2.2.2.2.1 ≤ nI a := Int32.not_le.mpr c2
      simp [n2]
    · have n2 : S.2.2.2.2.2.2.1 ≤ nI a := Int32.not_lt.mp c2
      simp [n2]
  -- those who come
  have t18 : ∀ s0 : Int32, nI a < s0 → s0 ≤ 1440 → (a < lv → s0 ≤ nI lv) → Ev w (am_Z w) mX3_soonest (d + 2 + 1) 18 [(0, .ref D), (1, .int (nI a))] [.int s0] h Q := by
    intro s0 h1 h2 h3
    refine bX3_soonest_18 ⟨a1, by rw [r13]; exact z2, by rw [r13]; exact CC.1, fun c1 => ?_, fun c1 => ?_⟩
    · rw [r13, CC.2.2.2.1, y1, nI_leI (by omega) (by omega)] at c1
      refine t54 s0 ⟨h1, h2, h3, fun x hx => ?_, fun hh => absurd hh (by decide), fun hh => absurd hh (by decide)⟩
      rw [List.drop_eq_nil_of_le (by rw [O.len]; exact c1)] at hx
      cases hx
    · rw [r13, CC.2.2.2.1, y1, nI_leI (by omega) (by omega)] at c1
      rw [r13, y1]
      have hil : j < l.length := by rw [O.len]; omega
      have hd : l.drop j = l[j] :: l.drop (j + 1) := List.drop_eq_getElem_cons hil
      have hall : ∀ x ∈ l.drop j, P.2.2.2.1 l[j] ≤ P.2.2.2.1 x := by
        intro x hx
        rw [hd] at hx
        rcases List.mem_cons.mp hx with e | e
        · rw [e]; exact Int32.le_refl _
        · have pw := (List.pairwise_append.mp (by rw [List.take_append_drop j l]; exact O.1)).2.1
          rw [hd] at pw
          exact ((List.pairwise_cons.mp pw).1 x e).le
      have hja : nI a < P.2.2.2.1 l[j] := C.2 _ (by rw [hd]; exact List.mem_cons_self)
      refine c_timeAt CC (by omega) ⟨_, rfl, ?_⟩
      by_cases c2 : P.2.2.2.1 l[j] < s0
      · rw [if_pos c2]
        have l2 := Int32.le_of_lt c2
        exact t54 _ ⟨hja, Int32.le_trans l2 h2, fun hh => Int32.le_trans l2 (h3 hh), hall, fun hh => absurd hh (by decide), fun hh => absurd hh (by decide)⟩
      · rw [if_neg c2]
        exact t54 _ ⟨h1, h2, h3, fun x hx => Int32.le_trans (Int32.not_lt.mp c2) (hall x hx), fun hh => absurd hh (by decide), fun hh => absurd hh (by decide)⟩
  refine bX3_soonest_0 ⟨a1, fun c1 => ?_, fun c1 => ?_⟩
  · rw [hlv, nI_leI (by omega) (by omega)] at c1
    exact t18 1440 (by rw [show (1440 : Int32) = nI 1440 by decide]; exact nI_lt ha (by decide)) (Int32.le_refl _) (fun hh => absurd hh (by omega))
  · rw [hlv, nI_leI (by omega) (by omega)] at c1
    rw [hlv]
    exact t18 _ (nI_lt (by omega) (by omega)) (by rw [show (1440 : Int32) = nI 1440 by decide]; exact nI_le hlv2 (by decide)) (fun _ => Int32.le_refl _)
end XSOON
