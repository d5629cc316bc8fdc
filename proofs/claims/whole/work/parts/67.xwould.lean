/-! The class's freeBoat, earliest, gatherFacts, wouldRing. -/
/-- the first boat that is there -/
def frB (boats b0 b1 minute : Int32) : Int32 := if minute < b0 then (if boats = 2 then (if minute < b1 then -1 else 1) else -1) else 0
section XWOULD
variable {w : am_W} {d : Nat} {h h1 : am_H} {Q : Option Value → am_H → Prop} {D L Lc n ρ c s room kr j : Nat} {P : rP} {l X0 X1 : List Nat} {trip boats : Int32} {lf : (Nat → Int32) → Int32} {S : rS}
theorem DC.rho (A : DC D L Lc n ρ c s P l room trip boats lf h) : hR h D 12 = ρ ∧ ρ ≠ 0 ∧ am_L 6 ρ h ∧ hI h ρ 8 = boats := ⟨A.2.2.2.2.2.1.1, A.2.2.2.2.2.1.2.2.2.1, A.2.2.2.2.2.2.2.2.2.1.1, A.2.2.2.2.2.2.2.2.2.1.2.2.2.1⟩
theorem c_freeBoat {minute b0 b1 : Int32} (A : DC D L Lc n ρ c s P l room trip boats lf h) (e0 : hI h (D + 1) 0 = b0) (e1 : boats = 2 → hI h (D + 1) 1 = b1) (q : Q (some (.int (frB boats b0 b1 minute))) h) : EvM w mX3_freeBoat (d + 1) [.ref D, .int minute] h Q := by
  obtain ⟨r1, r2, r3, r4⟩ := A.rho
  have hb : boats = 1 ∨ boats = 2 := A.2.2.2.2.2.2.2.2.2.1.2.2.2.2.1
  have n1 := A.2.2.2.1.1
  have k1 : hK h (D + 1) = 12 := A.1.s 0 rfl
  unfold frB at q
  refine bX3_freeBoat_0 (bX3_freeBoat_2 ⟨A.1, by rw [r1]; exact r2, by rw [r1]; exact r3, fun c1 => ?_, fun _ => c_get k1 (by omega) ⟨_, rfl, fun c1 => ?_, fun c1 => ?_⟩⟩)
  · rw [r1, r4] at c1
    rcases hb with e | e <;> (rw [e] at c1; exact absurd c1 (by decide))
  · rw [n1, ← nI_0, gv_nI (by decide) (by decide), e0] at c1
    rw [if_pos c1] at q
    refine bX3_freeBoat_2 ⟨A.1, by rw [r1]; exact r2, by rw [r1]; exact r3, fun c2 => ?_, fun c2 => c_get k1 (by omega) ⟨_, rfl, fun c3 => ?_, fun c3 => ?_⟩⟩
    · rw [r1, r4] at c2
      rw [if_neg (fun e => by rw [e] at c2; exact absurd c2 (by decide))] at q
      exact q
    · rw [r1, r4] at c2
      have e : boats = 2 := by
        rcases hb with e | e
        · rw [e] at c2; exact absurd (by decide) c2
        · exact e
      rw [n1, show (0 : Int32) + 1 = nI 1 by decide, gv_nI (by decide) (by decide), e1 e] at c3
      rw [if_pos e, if_pos c3] at q
      refine bX3_freeBoat_2 ⟨A.1, by rw [r1]; exact r2, by rw [r1]; exact r3, fun _ => q, fun c4 => absurd ?_ c4⟩
      rw [r1, r4, e]; decide
    · rw [r1, r4] at c2
      have e : boats = 2 := by
        rcases hb with e | e
        · rw [e] at c2; exact absurd (by decide) c2
        · exact e
      rw [n1, show (0 : Int32) + 1 = nI 1 by decide, gv_nI (by decide) (by decide), e1 e] at c3
      rw [if_pos e, if_neg c3] at q
      exact q
  · rw [n1, ← nI_0, gv_nI (by decide) (by decide), e0] at c1
    rw [if_neg c1] at q
    exact q
theorem c_earliest {B : Nat} {minute : Int32} {X : List Nat} {ct wt : Nat → Int32} {gs : Int32} (A : DC D L Lc n ρ c s P l room trip boats lf h) (K : BkL B L h) (b : Bk B h X j ct wt gs) (hj : j ≤ L) (hX : ∀ q ∈ X, q < n) (q : Q (some (.int (erl P.2.2.2.1 minute X))) h) : EvM w mX3_earliest d [.ref D, .ref B, .int minute] h Q := by
  obtain ⟨hd, b1, b2, b3, b4, b5, b6, b7⟩ := b
  obtain ⟨k1, k2, k3⟩ := K
  obtain ⟨a1, a2, a3, a4, a5, ⟨r12, r13, r14, z1, z2, z3⟩, ⟨o1, o2, o3, o4⟩, C, ⟨s1, s2, s3, s4⟩, a10, a11, a12⟩ := id A
  have hL := C.2.2.1
  cases X with
  | nil =>
    rw [List.length_nil, Nat.add_zero] at b2
    refine bX3_earliest_0 ⟨k1, fun c1 => ?_, fun _ => ⟨fun _ => bX3_earliest_53 ⟨fun _ => q, fun c2 => absurd (by decide) c2⟩, fun c1 => absurd (by rw [b1, b2]; exact Int32.le_refl _) c1⟩⟩
    exact bX3_earliest_53 ⟨fun _ => q, fun c2 => absurd (by decide) c2⟩
  | cons p X =>
    have hp : p < n := hX p List.mem_cons_self
    rw [List.length_cons] at b2 b3
    refine bX3_earliest_0 ⟨k1, fun c1 => absurd c1 (by rw [b1]; exact nI_pos (by omega)), fun _ => ⟨fun c1 => absurd c1 (by rw [b1, b2, nI_leI (by omega) (by omega)]; omega), fun _ => ⟨fun c1 => absurd c1 (by rw [k2, b1, nI_leI (by omega) (by omega)]; omega), fun _ => ⟨by rw [k2, b1]; exact vp_in_nI (by omega) (by omega), ?_⟩⟩⟩⟩
    rw [b1, nI_clamp (by omega), b4.1]
    refine bX3_earliest_53 ⟨fun c1 => absurd c1 (nI_pos (by omega)), fun _ => ⟨a1, by rw [r13]; exact z2, by rw [r13]; exact C.1, fun c1 => absurd c1 (by rw [r13, C.2.1.1, nI_leI (by omega) (by omega)]; omega), fun _ => ⟨by rw [r13, C.2.1.1]; exact vp_in_nI (by omega) (by omega), ?_⟩⟩⟩
    rw [r13, nI_clamp (by omega), C.2.2.2.2.1 p hp]
    exact q
set_option maxHeartbeats 4000000 in
theorem c_gatherFacts {minute : Int32} {g0 g1 : Int32} (A : DC D L Lc n ρ c s P l room trip boats lf h) (b0 : Bk (D + 4) h X0 j P.2.2.2.2.2.2 P.2.2.2.2.1 g0) (b1 : Bk (D + 6) h X1 j P.2.2.2.2.2.2 P.2.2.2.2.1 g1) (hj : j ≤ L) (h0 : ∀ q ∈ X0, q < n) (h1 : ∀ q ∈ X1, q < n)
    (q : ∀ h', FrA (fun a => a = D + 2) h h' → (∀ i, i < 6 → FV P.2.2.2.1 P.2.2.2.2.1 P.2.2.2.2.2.2 minute X0 X1 g0 g1 (i + 1) = hI h' (D + 2) i) → Q none h') : EvM w mX3_gatherFacts (d + 1) [.ref D, .int minute] h Q := by
  obtain ⟨a1, a2, a3, a4, a5, a6⟩ := id A
  have k2 : hK h (D + 2) = 12 := a1.s 1 rfl
  have n2 : hN h (D + 2) = 6 := a4.2.1
  have x0 : hI h (D + 4) 3 = sm P.2.2.2.2.2.2 X0 ∧ hI h (D + 4) 4 = sm P.2.2.2.2.1 X0 ∧ hI h (D + 4) 5 = g0 := by obtain ⟨hd, _, _, _, _, e5, e6, e7⟩ := b0; exact ⟨e5, e6, e7⟩
  have x1 : hI h (D + 6) 3 = sm P.2.2.2.2.2.2 X1 ∧ hI h (D + 6) 4 = sm P.2.2.2.2.1 X1 ∧ hI h (D + 6) 5 = g1 := by obtain ⟨hd, _, _, _, _, e5, e6, e7⟩ := b1; exact ⟨e5, e6, e7⟩
  obtain ⟨u1, u2, u3⟩ := x0
  obtain ⟨v1, v2, v3⟩ := x1
  have nn : ∀ (f : Nat → Int32) (x : Nat), x ≠ D + 2 → hI (rI h (D + 2) f) x = hI h x := fun f x hx => hI_rn _ _ hx
  have sv' : ∀ (f : Nat → Int32) (k : Nat) (v : Int32), k < 6 → sv 6 f (nI k) v = va_up f k v := fun f k v hk => sv_nI hk (by decide)
  refine bX3_gatherFacts_0 ⟨a1, bX0_countWithGuests_0 ⟨a2.1, _, rfl, c_set k2 (by omega) ⟨rfl, a1, ?_⟩⟩⟩
  rw [n2, u1, u3, show (0 : Int32) = nI 0 by decide, sv' _ 0 _ (by decide)]
  refine bX0_countWithGuests_0 ⟨a3.1, _, rfl, ?_⟩
  rw [nn _ _ (by omega), v1, v3]
  refine c_set k2 (by rw [show hN (rI h (D + 2) _) = hN h from rfl]; omega) ⟨rfl, a1, bX0_loadWithGuests_0 ⟨a2.1, _, rfl, ?_⟩⟩
  rw [show hN (rI h (D + 2) _) = hN h from rfl, n2, hI_rs, rI_rI, show (1 : Int32) = nI 1 by decide, sv' _ 1 _ (by decide), nn _ _ (by omega), u2, u3]
  refine c_set k2 (by rw [show hN (rI h (D + 2) _) = hN h from rfl]; omega) ⟨rfl, a1, bX0_loadWithGuests_0 ⟨a3.1, _, rfl, ?_⟩⟩
  rw [show hN (rI h (D + 2) _) = hN h from rfl, n2, hI_rs, rI_rI, show (2 : Int32) = nI 2 by decide, sv' _ 2 _ (by decide), nn _ _ (by omega), v2, v3]
  refine c_set k2 (by rw [show hN (rI h (D + 2) _) = hN h from rfl]; omega) ⟨rfl, a1, ?_⟩
  rw [show hN (rI h (D + 2) _) = hN h from rfl, n2, hI_rs, rI_rI, show (3 : Int32) = nI 3 by decide, sv' _ 3 _ (by decide)]
  generalize hf : (va_up (va_up (va_up (va_up (hI h (D + 2)) 0 (sm P.2.2.2.2.2.2 X0 + g0 * nI 2)) 1 (sm P.2.2.2.2.2.2 X1 + g1 * nI 2)) 2 (sm P.2.2.2.2.1 X0 + g0 * 70)) 3 (sm P.2.2.2.2.1 X1 + g1 * 70)) = f
  have F : FrA (fun a => a = D + 2) h (rI h (D + 2) f) := FrA.rf.row rfl
  have AF := A.fr (F.y (D := D) (fun x hx => by omega))
  have bF0 := b0.cg (h1 := rI h (D + 2) f) (nn _ _ (by omega)) (nn _ _ (by omega))
  have bF1 := b1.cg (h1 := rI h (D + 2) f) (nn _ _ (by omega)) (nn _ _ (by omega))
  refine c_earliest AF AF.2.1 bF0 hj h0 ⟨_, rfl, a1, c_earliest AF AF.2.2.1 bF1 hj h1 ⟨_, rfl, c_set k2 (by rw [show hN (rI h (D + 2) _) = hN h from rfl]; omega) ⟨rfl, a1, c_set k2 (by show hN h _ < _; omega) ⟨rfl, ?_⟩⟩⟩⟩
  simp only [show ∀ g, hN (rI h (D + 2) g) = hN h from fun g => rfl, n2, hI_rs, rI_rI]
  rw [show (4 : Int32) = nI 4 by decide, show (5 : Int32) = nI 5 by decide, sv' _ 4 _ (by decide), sv' _ 5 _ (by decide)]
  refine q _ (FrA.rf.row rfl) (fun i hi => ?_)
  rw [hI_rs, ← hf]
  have : i = 0 ∨ i = 1 ∨ i = 2 ∨ i = 3 ∨ i = 4 ∨ i = 5 := by omega
  rcases this with e | e | e | e | e | e <;> subst e <;> simp [FV, va_ui] <;> rfl
theorem Bk.size {B : Nat} {X : List Nat} {ct wt : Nat → Int32} {g : Nat} (K : BkL B L h) (b : Bk B h X j ct wt (nI g)) (q : Q (some (.int (nI (X.length + g)))) h) : EvM w mX0_size d [.ref B] h Q := by
  obtain ⟨hd, b1, b2, b3, b4, b5, b6, b7⟩ := b
  refine bX0_size_0 ⟨K.1, ?_⟩
  rw [b2, b1, b7, nI_sub (by omega), nI_add, show hd + X.length - hd + g = X.length + g by omega]
  exact q
theorem frB_free {b0 b1 minute : Int32} (hb : boats = 1 ∨ boats = 2) (h1 : boats = 1 → b1 = 100000) (hm : minute < 100000) : (frB boats b0 b1 minute = -1) ↔ (decide (b0 ≤ minute) || decide (b1 ≤ minute)) = false := by
  unfold frB
  by_cases c0 : minute < b0
  · rw [if_pos c0]
    have n0 : ¬ b0 ≤ minute := Int32.not_le.mpr c0
    rcases hb with e | e
    · have : minute < b1 := by rw [h1 e]; exact hm
      have n1 : ¬ b1 ≤ minute := Int32.not_le.mpr this
      rw [if_neg (by rw [e]; decide)]
      simp [c0, this]
    · rw [if_pos e]
      by_cases c1 : minute < b1
      · rw [if_pos c1]; simp [c0, c1]
      · rw [if_neg c1]; simp [Int32.not_lt.mp c1]
  · rw [if_neg c0]; simp [Int32.not_lt.mp c0]
set_option maxHeartbeats 4000000 in
/-- would it ring, so many guests on either bank? -/
theorem c_wouldRingG {a g0 g1 : Nat} (A : DC D L Lc n ρ c s P l room trip boats lf h) (b0 : Bk (D + 4) h X0 j P.2.2.2.2.2.2 P.2.2.2.2.1 (nI g0)) (b1 : Bk (D + 6) h X1 j P.2.2.2.2.2.2 P.2.2.2.2.1 (nI g1)) (hj : j ≤ L) (hg : g0 ≤ 40 ∧ g1 ≤ 40) (ha : a ≤ 1440) (h0 : ∀ q ∈ X0, q < n) (h1 : ∀ q ∈ X1, q < n)
    (y9 : hI h (D + 1) 0 = S.2.2.2.2.2.2.1) (y10 : boats = 2 → hI h (D + 1) 1 = S.2.2.2.2.2.2.2) (y11 : boats = 1 → S.2.2.2.2.2.2.2 = 100000)
    (q : ∀ h', FrA (fun a => a = D + 2 ∨ a = D + 3) h h' → Q (some (.int (if wrL P S lf (nI a) X0 X1 g0 g1 then 1 else 0))) h') : EvM w mX3_wouldRing (d + 2) [.ref D, .int (nI a)] h Q := by
  obtain ⟨a1, a2, a3, a4, a5, ⟨r12, r13, r14, z1, z2, z3⟩, ⟨o1, o2, o3, o4⟩, C, ⟨s1, s2, s3, s4⟩, a10, a11, a12⟩ := id A
  have len0 : X0.length ≤ 300 := by obtain ⟨hd, _, _, e3, _⟩ := b0; have := a2.2.2; omega
  have len1 : X1.length ≤ 300 := by obtain ⟨hd, _, _, e3, _⟩ := b1; have := a2.2.2; omega
  have hm : nI a < 100000 := by rw [show (100000 : Int32) = nI 100000 by decide, nI_ltI (by omega) (by decide)]; omega
  have fb := frB_free (b0 := S.2.2.2.2.2.2.1) (b1 := S.2.2.2.2.2.2.2) a10.2.2.2.2.1 y11 hm
  refine bX3_wouldRing_0 ⟨a1, Bk.size a2 b0 ⟨_, rfl, a1, Bk.size a3 b1 ⟨_, rfl, fun c1 => ?_, fun c1 => ⟨a1, c_freeBoat A y9 y10 ⟨_, rfl, fun c2 => ?_, fun c2 => ⟨a1, c_gatherFacts A b0 b1 hj h0 h1 (fun h14 F14 e14 => ⟨rfl, F14.L a1, by rw [F14.R, r12]; exact z1, by rw [F14.R, r12]; exact F14.L a10.1, ?_⟩)⟩⟩⟩⟩⟩⟩
  · rw [nI_add, ← nI_0, nI_eq (by omega) (by omega)] at c1
    have : wrL P S lf (nI a) X0 X1 g0 g1 = false := by unfold wrL; simp [c1]
    have q := q h FrA.rf
    rw [this] at q
    exact q
  · have : wrL P S lf (nI a) X0 X1 g0 g1 = false := by unfold wrL; rw [fb.mp c2]; rfl
    have q := q h FrA.rf
    rw [this] at q
    exact q
  · have fb' : (decide (S.2.2.2.2.2.2.1 ≤ nI a) || decide (S.2.2.2.2.2.2.2 ≤ nI a)) = true := by
      cases hh : (decide (S.2.2.2.2.2.2.1 ≤ nI a) || decide (S.2.2.2.2.2.2.2 ≤ nI a)) with
      | true => rfl
      | false => exact absurd (fb.mpr hh) c2
    rw [nI_add, ← nI_0, nI_eq (by omega) (by omega)] at c1
    have hw : wrL P S lf (nI a) X0 X1 g0 g1 = lwV P.2.1 lf (FV P.2.2.2.1 P.2.2.2.2.1 P.2.2.2.2.2.2 (nI a) X0 X1 (nI g0) (nI g1)) := by
      unfold wrL
      rw [fb', decide_eq_false c1]
      rfl
    have O2 := o1 (ρ + 10) (by omega) (by omega)
    rw [F14.R, r12, F14.I (show ¬ D = D + 2 by omega), a11]
    refine c_lawValueX (F14.L a10.1) (a10.2.2.2.2.2.2.2.1.fr F14 (by unfold Out at O2; omega) (by unfold Out at o4; omega)) (by rw [F14.K]; exact a1.s 1 rfl) (by rw [F14.N]; exact a4.2.1) (by rw [F14.K]; exact a1.s 2 rfl) (by rw [F14.N]; exact a4.2.2.1) (by omega) (by unfold Out at O2; omega) (by rw [F14.R]; unfold Out at o4; omega) e14 (fun h19 r F19 e19 => ⟨_, rfl, fun c3 => ?_, fun c3 => ?_⟩)
    · have q := q h19 ((F14.mono (fun x e => Or.inl e)).tr (F19.mono (fun x e => Or.inr e)))
      rw [hw] at q
      have : lwV P.2.1 lf (FV P.2.2.2.1 P.2.2.2.2.1 P.2.2.2.2.2.2 (nI a) X0 X1 (nI g0) (nI g1)) = false := by
        rw [decide_eq_true c3] at e19
        cases hh : lwV P.2.1 lf (FV P.2.2.2.1 P.2.2.2.2.1 P.2.2.2.2.2.2 (nI a) X0 X1 (nI g0) (nI g1)) with
        | false => rfl
        | true => rw [hh] at e19; exact absurd e19 (by decide)
      rw [this] at q
      exact q
    · have q := q h19 ((F14.mono (fun x e => Or.inl e)).tr (F19.mono (fun x e => Or.inr e)))
      rw [hw] at q
      have : lwV P.2.1 lf (FV P.2.2.2.1 P.2.2.2.2.1 P.2.2.2.2.2.2 (nI a) X0 X1 (nI g0) (nI g1)) = true := by
        rw [decide_eq_false c3] at e19
        cases hh : lwV P.2.1 lf (FV P.2.2.2.1 P.2.2.2.2.1 P.2.2.2.2.2.2 (nI a) X0 X1 (nI g0) (nI g1)) with
        | true => rfl
        | false => rw [hh] at e19; exact absurd e19 (by decide)
      rw [this] at q
      exact q
theorem YS.fr2 (Y : YS D n P l boats h S kr j) (F : FrA (fun a => a = D + 2 ∨ a = D + 3) h h1) : YS D n P l boats h1 S kr j := by
  obtain ⟨y1, y2, y3, y4, y5, b0, b1⟩ := Y
  have e : ∀ x, x ≠ D + 2 → x ≠ D + 3 → hI h1 x = hI h x := fun x h1 h2 => F.I (by omega)
  refine ⟨by rw [e D (by omega) (by omega)]; exact y1, by rw [e D (by omega) (by omega), e (D + 10) (by omega) (by omega), e (D + 11) (by omega) (by omega), e (D + 12) (by omega) (by omega)]; exact y2, by rw [e (D + 1) (by omega) (by omega)]; exact y3, by rw [e (D + 8) (by omega) (by omega), e (D + 9) (by omega) (by omega)]; exact y4, y5, b0.cg (e _ (by omega) (by omega)) (e _ (by omega) (by omega)), b1.cg (e _ (by omega) (by omega)) (e _ (by omega) (by omega))⟩
theorem filt_lt (O : OrdL P.2.2.2.1 n l) {W : Nat → Bool} {q : Nat} (h : q ∈ (l.take j).filter W) : q < n := mem_take_lt O (List.mem_filter.mp h).1
/-- would it ring? -/
theorem c_wouldRingX {a : Nat} (A : DC D L Lc n ρ c s P l room trip boats lf h) (Y : YS D n P l boats h S kr j) (C : Cm P.2.2.2.1 l j (nI a)) (ha : a ≤ 1440)
    (q : ∀ h', FrA (fun a => a = D + 2 ∨ a = D + 3) h h' → Q (some (.int (if wr P n lf (nI a) S then 1 else 0))) h') : EvM w mX3_wouldRing (d + 2) [.ref D, .int (nI a)] h Q := by
  have O := A.2.2.2.2.2.2.2.1.2.2.2.2.2.2.2.1
  have e := wr_list (S := S) (a := a) O A.2.2.2.2.2.2.2.2.2.2.2 A.2.2.2.2.2.2.2.2.2.1.2.2.2.2.2.2.1 (by omega)
  rw [← take_filter C, ← take_filter C] at e
  rw [e] at q
  have hj : j ≤ L := Nat.le_trans Y.1.2 A.2.2.2.2.1
  exact c_wouldRingG (g0 := 0) (g1 := 0) A Y.2.2.2.2.2.1 Y.2.2.2.2.2.2 hj (by omega) ha (fun x hx => filt_lt O hx) (fun x hx => filt_lt O hx) Y.2.2.1.1 Y.2.2.1.2.1 Y.2.2.1.2.2 q
end XWOULD
