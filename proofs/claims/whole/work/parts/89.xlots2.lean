/-! The class's days drawn. -/
/-- as FrA, but for the last draw -/
def FrJ (Z : Nat → Prop) (b : Nat) (h h' : am_H) : Prop := hK h' = hK h ∧ hN h' = hN h ∧ hR h' = hR h ∧ hZ h' = hZ h ∧ hS h' = hS h ∧ (∀ a, ¬ Z a → hI h' a = hI h a) ∧ ∀ a, a ≠ b → hJ h' a = hJ h a
section FRJ
variable {Z Z' : Nat → Prop} {b : Nat} {h h1 h2 : am_H}
theorem FrJ.rf : FrJ Z b h h := ⟨rfl, rfl, rfl, rfl, rfl, fun _ _ => rfl, fun _ _ => rfl⟩
theorem FrJ.tr (p : FrJ Z b h h1) (q : FrJ Z b h1 h2) : FrJ Z b h h2 := by
  obtain ⟨a1, a2, a3, a4, a5, a6, a7⟩ := p
  obtain ⟨b1, b2, b3, b4, b5, b6, b7⟩ := q
  exact ⟨b1.trans a1, b2.trans a2, b3.trans a3, b4.trans a4, b5.trans a5, fun x hx => (b6 x hx).trans (a6 x hx), fun x hx => (b7 x hx).trans (a7 x hx)⟩
theorem FrA.toJ (F : FrA Z h h1) (m : ∀ x, Z x → Z' x) : FrJ Z' b h h1 := ⟨F.1, F.2.1, F.2.2.2.1, F.2.2.2.2.1, F.2.2.2.2.2.1, fun x hx => F.I (fun z => hx (m x z)), fun x _ => by rw [F.2.2.1]⟩
theorem FrJ.j {k : Nat} {v : Int64} (F : FrJ Z b h h1) : FrJ Z b h (sJ h1 b k v) := F.tr ⟨rfl, rfl, rfl, rfl, rfl, fun _ _ => rfl, fun x hx => va_up_ne _ _ hx⟩
theorem FrJ.fld {a k : Nat} {v : Int32} (F : FrJ Z b h h1) (ha : Z a) : FrJ Z b h (sI h1 a k v) := F.tr ((FrA.rf.fld (Z := Z) ha).toJ (fun _ z => z))
theorem FrJ.L {ci a : Nat} (F : FrJ Z b h h1) (L : am_L ci a h) : am_L ci a h1 := by
  refine ⟨by rw [F.1]; exact L.1, fun q hq => ?_⟩
  rw [F.2.2.1, F.1]
  exact L.2 q hq
theorem FrJ.I (F : FrJ Z b h h1) {a : Nat} (ha : ¬ Z a) : hI h1 a = hI h a := F.2.2.2.2.2.1 a ha
theorem FrJ.N (F : FrJ Z b h h1) (a : Nat) : hN h1 a = hN h a := by rw [F.2.1]
theorem FrJ.K (F : FrJ Z b h h1) (a : Nat) : hK h1 a = hK h a := by rw [F.1]
theorem FrJ.same (F : FrJ Z b h h1) {a : Nat} (ha : ¬ Z a) (hb : a ≠ b) : same h h1 a := ⟨F.K a, F.N a, F.I ha, F.2.2.2.2.2.2 a hb, by rw [F.2.2.1]⟩
theorem FrJ.kn {x : Nat} (F : FrJ Z b h h1) : KN x h h1 := ⟨fun a _ _ => ⟨F.K a, F.N a⟩, fun a k _ _ _ => by rw [F.2.2.1]⟩
theorem FrJ.q {x : Nat} (F : FrJ Z b h h1) (hz : ∀ a, Z a ∨ a = b → a = x ∨ (x + 13 ≤ a ∧ a ≤ x + 68)) : QF x h h1 := ⟨fun a ha => F.same (fun z => by have := hz a (Or.inl z); omega) (fun e => by have := hz a (Or.inr e); omega), F.2.2.2.1, F.2.2.2.2.1⟩
end FRJ
theorem CwX.frJ {c Lc n : Nat} {l : List Nat} {at_ wt ct : Nat → Int32} {h h1 : am_H} {Z : Nat → Prop} {b : Nat} (C : CwX c Lc n l at_ wt ct h) (F : FrJ Z b h h1) (hz : ∀ a, c ≤ a → a ≤ c + 5 → ¬ Z a) : CwX c Lc n l at_ wt ct h1 := by
  obtain ⟨c1, ⟨n1, n2, n3, n4, n5⟩, c3, c4, c5, c6, c7, c8, c9⟩ := C
  rw [← F.N] at n1 n2 n3 n4 n5
  rw [← F.I (hz c (by omega) (by omega))] at c4
  rw [← F.I (hz (c + 1) (by omega) (by omega))] at c5
  rw [← F.I (hz (c + 3) (by omega) (by omega))] at c6
  rw [← F.I (hz (c + 4) (by omega) (by omega))] at c7
  rw [← F.I (hz (c + 5) (by omega) (by omega))] at c9
  exact ⟨F.L c1, ⟨n1, n2, n3, n4, n5⟩, c3, c4, c5, c6, c7, c8, c9⟩
theorem crw_full (come share of_ g0 k : Nat) (h : 300 ≤ (crw come share of_ g0 k).2.1) : ∀ j, crw come share of_ g0 (k + j) = crw come share of_ g0 k := by
  intro j
  induction j with
  | zero => rfl
  | succ j ih =>
    rw [show k + (j + 1) = k + j + 1 by omega, crw, ih, if_neg (by omega)]
section XLOTS2
variable {w : am_W} {d : Nat} {h h1 : am_H} {Q : Option Value → am_H → Prop} {x y : Nat} {A : rA} {ρ : Nat} {t : rT}
theorem c_draw {g k : Nat} (L4 : am_L 4 (x + 62) h) (hg : hJ h (x + 62) 9 = lN g) (hg2 : g < 2147483648) (k0 : 0 < k) (k1 : k ≤ 1000) (q : Q (some (.int (nI (drN g / 65536 % k)))) (sJ h (x + 62) 9 (lN (drN g)))) : EvM w mX4_draw d [.ref (x + 62), .int (nI k)] h Q := by
  refine bX4_draw_0 ⟨L4, fun h2 e2 => ?_⟩
  rw [hg, show (1103515245 : Int64) = lN 1103515245 by decide, show (12345 : Int64) = lN 12345 by decide, show (2147483648 : Int64) = lN 2147483648 by decide, lN_mul, lN_add, pk_lRem (by omega) (by decide) (by decide)] at e2
  have e2 : h2 = sJ h (x + 62) 9 (lN (drN g)) := e2
  have j2 : hJ h2 (x + 62) 9 = lN (drN g) := by rw [e2]; show va_up (hJ h) (x + 62) _ (x + 62) 9 = _; rw [va_up_self, va_up_self]
  have := drN_lt g
  refine ⟨fun c => absurd c (nI_nle k0 (by omega)), fun _ => ?_⟩
  rw [nI_l (by omega), j2, show (65536 : Int64) = lN 65536 by decide, pk_lDiv (by omega) (by decide) (by decide), pk_lRem (by omega) k0 (by omega), lN_i]
  refine ⟨fun z => absurd ((lN_z (by omega)).mp z) (by omega), ?_⟩
  rw [e2]
  exact q
set_option maxHeartbeats 4000000 in
theorem c_drawCrowd {K g0 : Nat} {C : crT} (hK' : K = 1440) (hg : g0 < 2147483648) (V : VT t) (hC : C = crw (tCome t) (tShare t) (tOf t) g0 K) (L4 : am_L 4 (x + 62) h) (L2 : am_L 2 (x + 63) h) (ln : hN h (x + 64) = 300 ∧ hN h (x + 65) = 300 ∧ hN h (x + 66) = 300 ∧ hN h (x + 67) = 300 ∧ hN h (x + 68) = 300) (Rv : RvX ρ h t) (hρ : ∀ a, ρ ≤ a → a ≤ ρ + 11 → (a < x + 62 ∨ x + 68 < a)) (hj : hJ h (x + 62) 9 = lN g0)
    (q : ∀ h' l, FrJ (fun a => x + 63 ≤ a ∧ a ≤ x + 68) (x + 62) h h' → CwX (x + 63) 300 C.2.1 l C.2.2.2 (fun _ => 70) (fun _ => 2) h' → eqR C.2.1 (hI h' (x + 65)) C.2.2.1 → hJ h' (x + 62) 9 = lN C.1 → Q none h') : EvM w mX4_drawCrowd (d + 2) [.ref (x + 62), .ref ρ] h Q := by
  obtain ⟨a1, _, _, _, _, _, ⟨b1, b2, b3, b4, b5, b6, b7, b8⟩, _⟩ := id Rv
  have vS := V.2.2.2.2.1
  have vC := V.2.2.2.2.2.1
  have e1440 : (1440 : Int32) = nI K := by rw [hK']; decide
  have loop : ∀ i k, k + i = K → ∀ hc l, FrJ (fun a => x + 63 ≤ a ∧ a ≤ x + 68) (x + 62) h hc → CwX (x + 63) 300 (crw (tCome t) (tShare t) (tOf t) g0 k).2.1 l C.2.2.2 (fun _ => 70) (fun _ => 2) hc → eqR (crw (tCome t) (tShare t) (tOf t) g0 k).2.1 (hI hc (x + 65)) C.2.2.1 → hJ hc (x + 62) 9 = lN (crw (tCome t) (tShare t) (tOf t) g0 k).1 →
      Ev w (am_Z w) mX4_drawCrowd (d + 1 + 1) 10 [(0, .ref (x + 62)), (1, .ref ρ), (2, .int (nI k))] [] hc Q := by
    intro i
    induction i with
    | zero =>
      intro k hk hc l F Cw Es J
      have hk : k = K := by omega
      subst hk
      rw [← hC] at Cw Es J
      exact bX4_drawCrowd_10 ⟨fun _ => q hc l F Cw Es J, fun c => absurd (by rw [e1440]; exact Int32.le_refl _) c⟩
    | succ i ih =>
      intro k hk hc l F Cw Es J
      have ih := ih (k + 1) (by omega)
      have n3 := crw_300 (tCome t) (tShare t) (tOf t) g0 k
      have g3 := crw_g (tCome t) (tShare t) (tOf t) g0 hg k
      refine bX4_drawCrowd_10 ⟨fun c => absurd c (by rw [e1440, nI_leI (by omega) (by omega)]; omega), fun _ => ⟨F.L L4, Cw.1, fun c => ?_, fun c => ?_⟩⟩
      · rw [show hI hc (x + 62 + 1) 5 = _ from Cw.2.2.2.1, show (300 : Int32) = nI 300 by decide, nI_leI (by decide) (by omega)] at c
        have e := crw_full (tCome t) (tShare t) (tOf t) g0 k c (K - k)
        rw [show k + (K - k) = K by omega, ← hC] at e
        rw [← e] at Cw Es J
        exact q hc l F Cw Es J
      · rw [show hI hc (x + 62 + 1) 5 = _ from Cw.2.2.2.1, show (300 : Int32) = nI 300 by decide, nI_leI (by decide) (by omega)] at c
        have x11 : hI hc ρ 11 = nI (tCome t) := by rw [F.I (by have := hρ ρ (by omega) (by omega); omega)]; exact b6
        have x10 : hI hc ρ 10 = nI (tOf t) := by rw [F.I (by have := hρ ρ (by omega) (by omega); omega)]; exact b5
        have x9 : hI hc ρ 9 = nI (tShare t) := by rw [F.I (by have := hρ ρ (by omega) (by omega); omega)]; exact b4
        have lt := Nat.mod_lt (drN (crw (tCome t) (tShare t) (tOf t) g0 k).1 / 65536) (show 0 < 1000 by decide)
        rw [show (1000 : Int32) = nI 1000 by decide]
        refine c_draw (F.L L4) J g3 (by decide) (by decide) ⟨_, rfl, F.L a1, fun c2 => ?_, fun c2 => ⟨F.L L4, ?_⟩⟩
        · rw [show hI (sJ hc (x + 62) 9 (lN (drN (crw (tCome t) (tShare t) (tOf t) g0 k).1))) ρ 11 = nI (tCome t) from x11, nI_leI (by omega) (by omega)] at c2
          have e : crw (tCome t) (tShare t) (tOf t) g0 (k + 1) = (drN (crw (tCome t) (tShare t) (tOf t) g0 k).1, (crw (tCome t) (tShare t) (tOf t) g0 k).2) := by
            rw [crw, if_pos (by omega), if_neg (by omega)]
          rw [nI_1]
          rw [e] at ih
          refine ih _ l F.j Cw Es ?_
          show va_up (hJ hc) (x + 62) _ (x + 62) 9 = _
          rw [va_up_self, va_up_self]
        · rw [show hI (sJ hc (x + 62) 9 (lN (drN (crw (tCome t) (tShare t) (tOf t) g0 k).1))) ρ 11 = nI (tCome t) from x11, nI_leI (by omega) (by omega)] at c2
          rw [show hI (sJ hc (x + 62) 9 (lN (drN (crw (tCome t) (tShare t) (tOf t) g0 k).1))) ρ 10 = nI (tOf t) from x10]
          refine c_draw (g := drN (crw (tCome t) (tShare t) (tOf t) g0 k).1) (F.L L4) (by show va_up (hJ hc) (x + 62) _ (x + 62) 9 = _; rw [va_up_self, va_up_self]) (drN_lt _) (by omega) (by omega) ⟨_, rfl, F.L a1, ?_⟩
          generalize ehx : sJ (sJ hc (x + 62) 9 (lN (drN (crw (tCome t) (tShare t) (tOf t) g0 k).1))) (x + 62) 9 (lN (drN (drN (crw (tCome t) (tShare t) (tOf t) g0 k).1))) = hx
          have Fx : FrJ (fun a => x + 63 ≤ a ∧ a ≤ x + 68) (x + 62) h hx := by rw [← ehx]; exact F.j.j
          have Cx : CwX (x + 63) 300 (crw (tCome t) (tShare t) (tOf t) g0 k).2.1 l C.2.2.2 (fun _ => 70) (fun _ => 2) hx := by rw [← ehx]; exact Cw
          have Ex : eqR (crw (tCome t) (tShare t) (tOf t) g0 k).2.1 (hI hx (x + 65)) C.2.2.1 := by rw [← ehx]; exact Es
          have Jx : hJ hx (x + 62) 9 = lN (drN (drN (crw (tCome t) (tShare t) (tOf t) g0 k).1)) := by
            rw [← ehx]
            show va_up (va_up (hJ hc) (x + 62) _) (x + 62) _ (x + 62) 9 = _
            rw [va_up_self, va_up_self]
          have x9' : hI hx ρ 9 = nI (tShare t) := by rw [← ehx]; exact x9
          have lt2 := Nat.mod_lt (drN (drN (crw (tCome t) (tShare t) (tOf t) g0 k).1) / 65536) (show 0 < tOf t by omega)
          have e : crw (tCome t) (tShare t) (tOf t) g0 (k + 1) = (drN (drN (crw (tCome t) (tShare t) (tOf t) g0 k).1), (crw (tCome t) (tShare t) (tOf t) g0 k).2.1 + 1, va_up (crw (tCome t) (tShare t) (tOf t) g0 k).2.2.1 (crw (tCome t) (tShare t) (tOf t) g0 k).2.1 (if drN (drN (crw (tCome t) (tShare t) (tOf t) g0 k).1) / 65536 % tOf t < tShare t then 0 else 1), va_up (crw (tCome t) (tShare t) (tOf t) g0 k).2.2.2 (crw (tCome t) (tShare t) (tOf t) g0 k).2.1 (nI k)) := by
            rw [crw, if_pos (by omega), if_pos (by omega)]
          have ne : (crw (tCome t) (tShare t) (tOf t) g0 (k + 1)).2.1 = (crw (tCome t) (tShare t) (tOf t) g0 k).2.1 + 1 := by rw [e]
          have kp := crw_keep' (tCome t) (tShare t) (tOf t) g0 (k + 1) (p := (crw (tCome t) (tShare t) (tOf t) g0 k).2.1) (by omega) i
          rw [show k + 1 + i = K by omega, ← hC] at kp
          obtain ⟨kp1, kp2, kp3⟩ := kp
          have kp2 : C.2.2.1 (crw (tCome t) (tShare t) (tOf t) g0 k).2.1 = (if drN (drN (crw (tCome t) (tShare t) (tOf t) g0 k).1) / 65536 % tOf t < tShare t then 0 else 1) := by
            rw [kp2, e]; exact va_up_self _ _ _
          have kp3 : C.2.2.2 (crw (tCome t) (tShare t) (tOf t) g0 k).2.1 = nI k := by
            rw [kp3, e]; exact va_up_self _ _ _
          have join : ∀ sd : Int32, sd = (if drN (drN (crw (tCome t) (tShare t) (tOf t) g0 k).1) / 65536 % tOf t < tShare t then 0 else 1) → am_L 4 (x + 62) hx ∧ EvM w mX2_add (d + 1) [.ref (x + 62 + 1), .int (nI k), .int sd, .int 70, .int 2] hx (fun r17 h16 => r17 = none ∧ Ev w (am_Z w) mX4_drawCrowd (d + 1 + 1) 10 [(0, .ref (x + 62)), (1, .ref ρ), (2, .int (nI k + 1))] [] h16 Q) := by
            intro sd hs
            refine ⟨Fx.L L4, ?_⟩
            rw [← kp3]
            refine c_add (d := d) (c := x + 63) (side := sd) Cx (by omega) (fun h6 l6 F6 C6 s6 => ⟨rfl, ?_⟩)
            rw [kp3, nI_1]
            refine ih h6 l6 (Fx.tr (F6.toJ (fun a ha => by omega))) (by rw [ne]; exact C6) ?_ ?_
            · have s6 : hI h6 (x + 65) = _ := s6
              rw [ne, s6]
              exact eqR.sv Ex (kp2.trans hs.symm)
            · rw [F6.2.2.1, Jx, e]
          refine ⟨fun c4 => join 1 ?_, fun c4 => join 0 ?_⟩
          · rw [x9', nI_leI (by omega) (by omega)] at c4
            rw [if_neg (by omega)]
          · rw [x9', nI_leI (by omega) (by omega)] at c4
            rw [if_pos (by omega)]
  refine bX4_drawCrowd_0 ⟨L4, L2, fun h3 e3 => ?_⟩
  have F3 : FrJ (fun a => x + 63 ≤ a ∧ a ≤ x + 68) (x + 62) h h3 := by rw [e3]; exact FrJ.rf.fld (by omega)
  refine loop K 0 (by omega) h3 [] F3 ⟨F3.L L2, by rw [F3.N, F3.N, F3.N, F3.N, F3.N]; exact ln, ⟨Nat.zero_le _, Nat.le_refl _⟩, ?_, fun p hp => absurd hp (Nat.not_lt_zero _), fun p hp => absurd hp (Nat.not_lt_zero _), fun p hp => absurd hp (Nat.not_lt_zero _), ⟨List.Pairwise.nil, List.Perm.refl _⟩, trivial⟩ (fun p hp => absurd hp (Nat.not_lt_zero _)) ?_
  · rw [e3]
    show va_up (hI h) (x + 62 + 1) _ (x + 62 + 1) 5 = _
    rw [va_up_self, va_up_self]
    rfl
  · rw [e3]; exact hj
end XLOTS2
