/-! The class's misjudged. -/
/-- the first minute that is misjudged, and whether a ringing is told in it -/
def mjL (P : rP) (n room : Nat) (trip : Int32) (lf : (Nat → Int32) → Int32) (tells : Nat) (tl : Nat → Int32) : Nat → Nat → Nat → rS → Option (Nat × Bool)
  | 0, _, _, _ => none
  | k + 1, mn, nx, S => if (decide (nx < tells) && decide (tl nx = nI mn)) = wr P n lf (nI mn) S then (if decide (nx < tells) && decide (tl nx = nI mn) then mjL P n room trip lf tells tl k (mn + 1) (nx + 1) (ring1 P n room trip (nI mn) S) else mjL P n room trip lf tells tl k (mn + 1) nx S) else some (mn, decide (nx < tells) && decide (tl nx = nI mn))
def mjA (what : Int32) : Option (Nat × Bool) → Int32
  | none => -1
  | some x => if what = 0 then nI x.1 else if x.2 then 1 else 2
theorem jdL_mj {r : rV} {tells : Nat} {tl : Nat → Int32} {what : Int32} : ∀ (k mn nx : Nat) (S : rS), jdL r tells tl what k mn nx S = mjA what (mjL (canP r (-1)) (vN r) (vRoom r) (vTrip r) (vLf r) tells tl k mn nx S) := by
  intro k
  induction k with
  | zero => intro mn nx S; rfl
  | succ k ih =>
    intro mn nx S
    rw [jdL, mjL]
    split
    · split
      · exact ih _ _ _
      · exact ih _ _ _
    · rfl
section XJUDGE
variable {w : am_W} {d : Nat} {h h1 : am_H} {Q : Option Value → am_H → Prop} {D L Lc n ρ c s room kr j : Nat} {P : rP} {l X0 X1 : List Nat} {trip boats : Int32} {lf : (Nat → Int32) → Int32} {S : rS} {tells : Nat} {tl : Nat → Int32}
theorem mj_flat {K m nx : Nat} : ∀ k, m + k ≤ K → (∀ i, m ≤ i → i < m + k → (decide (nx < tells) && decide (tl nx = nI i)) = false ∧ wr P n lf (nI i) S = false) → mjL P n room trip lf tells tl (K - m) m nx S = mjL P n room trip lf tells tl (K - (m + k)) (m + k) nx S := by
  intro k
  induction k with
  | zero => intro _ _; rfl
  | succ k ih =>
    intro hk hz
    rw [ih (by omega) (fun i h1 h2 => hz i h1 (by omega))]
    obtain ⟨e1, e2⟩ := hz (m + k) (by omega) (by omega)
    rw [show K - (m + k) = K - (m + (k + 1)) + 1 by omega, mjL, e1, e2, if_pos rfl, if_neg (by decide)]
    rfl
def tldOK (tells : Nat) (tl : Nat → Int32) : Prop := ∀ i, i < tells → (∃ a, a < 1440 ∧ tl i = nI a) ∧ ∀ j, j < i → tl j < tl i
theorem tld_next (T : tldOK tells tl) {i nx : Nat} (h1 : nx ≤ i) (h2 : i < tells) : tl nx ≤ tl i := by
  by_cases e : nx = i
  · rw [e]; exact Int32.le_refl _
  · exact Int32.le_of_lt ((T i h2).2 nx (by omega))
set_option maxHeartbeats 4000000 in
theorem c_misjudged {K tt kr0 : Nat} {S0 : rS} (hK' : K = 1440) (A0 : DC D L Lc n ρ c s P l room trip boats lf h) (Y0 : YS D n P l boats h S0 kr0 0) (hlv : hI h D 17 = nI 1440) (t1 : hK h tt = 12) (t2 : hN h tt = 30) (t3 : Out D tt) (t4 : tells ≤ 30) (t5 : eqR tells (hI h tt) tl) (T : tldOK tells tl)
    (q : ∀ h', FrY D h h' → Q (some (.int (mjA 0 (mjL P n room trip lf tells tl K 0 0 S0)))) h') : EvM w mX3_misjudged (d + 4) [.ref D, .ref tt, .int (nI tells)] h Q := by
  have O : OrdL P.2.2.2.1 n l := A0.2.2.2.2.2.2.2.1.2.2.2.2.2.2.2.1
  have e1440 : (1440 : Int32) = nI K := by rw [hK']; decide
  have loop : ∀ f m, K ≤ m + f → m ≤ K → ∀ nx S hc kr j, nx ≤ tells → FrY D h hc → YS D n P l boats hc S kr j → (∀ x ∈ l.take j, ¬ nI m < P.2.2.2.1 x) → (∀ i, nx ≤ i → i < tells → nI m ≤ tl i) → mjL P n room trip lf tells tl (K - m) m nx S = mjL P n room trip lf tells tl K 0 0 S0 →
      Ev w (am_Z w) mX3_misjudged (d + 3 + 1) 5 [(0, .ref D), (1, .ref tt), (2, .int (nI tells)), (3, .int (nI nx)), (5, .int (nI m))] [] hc Q := by
    intro f
    induction f with
    | zero =>
      intro m hm hm2 nx S hc kr j hnx F Y Tk I1 E
      have hm : m = K := by omega
      subst hm
      refine bX3_misjudged_5 ⟨fun _ => ?_, fun c1 => absurd (by rw [e1440]; exact Int32.le_refl _) c1⟩
      rw [Nat.sub_self, mjL] at E
      have q := q hc F
      rw [← E] at q
      exact q
    | succ f ih =>
      intro m hm hm2 nx S hc kr j hnx F Y Tk I1 E
      have A := A0.fr F
      have a1 := A.1
      by_cases hmK : m = K
      · subst hmK
        refine bX3_misjudged_5 ⟨fun _ => ?_, fun c1 => absurd (by rw [e1440]; exact Int32.le_refl _) c1⟩
        rw [Nat.sub_self, mjL] at E
        have q := q hc F
        rw [← E] at q
        exact q
      have hmlt : m < 1440 := by omega
      have tg : ∀ {hx : am_H}, FrY D h hx → hK hx tt = 12 ∧ hN hx tt = 30 ∧ ∀ i, i < tells → gv (hN hx tt) (hI hx tt) (nI i) = tl i := by
        intro hx Fx
        have z : ¬ ZD D tt := by unfold Out at t3; unfold ZD; omega
        refine ⟨by rw [Fx.1.K]; exact t1, by rw [Fx.1.N]; exact t2, fun i hi => ?_⟩
        rw [Fx.1.N, t2, Fx.1.I z, gv_nI (by omega) (by decide), t5 i hi]
      refine bX3_misjudged_5 ⟨fun c1 => absurd c1 (by rw [e1440, nI_leI (by omega) (by omega)]; omega), fun _ => ⟨a1, ?_⟩⟩
      have hjn := Y.1.2
      refine c_come (j := 0) (d := d + 1) A (fun h2 j2 F2 Y2 hz C2 => ⟨rfl, ?_⟩) (n - j) j hc (by omega) (Nat.zero_le _) FrY.rf Y Tk
      have FF2 := F.tr F2
      have A2 := A0.fr FF2
      -- behind the look at the told ones
      have t39 : ∀ is : Bool, is = (decide (nx < tells) && decide (tl nx = nI m)) → Ev w (am_Z w) mX3_misjudged (d + 3 + 1) 39 [(0, .ref D), (1, .ref tt), (2, .int (nI tells)), (3, .int (nI nx)), (5, .int (nI m))] [.int (if is then 1 else 0)] h2 Q := by
        intro is his
        refine bX3_misjudged_39 ⟨A2.1, c_wouldRingX (d := d + 1) A2 Y2 C2 (by omega) (fun h3 F3 => ⟨_, rfl, fun c1 => ⟨F3.L A2.1, ?_⟩, fun c1 => ?_⟩)⟩
        · have e : is = wr P n lf (nI m) S := by
            cases is <;> cases hh : wr P n lf (nI m) S <;> rw [hh] at c1 <;> first | rfl | exact absurd c1 (by decide)
          have FF3 : FrY D h h3 := FF2.tr (F3.y (fun x hx => by omega))
          have A3 := A0.fr FF3
          have Y3 := Y2.fr2 F3
          rw [show K - m = K - (m + 1) + 1 by omega, mjL, ← his, if_pos e] at E
          -- the leap
          have t83 : ∀ (S' : rS) (nx' v : Nat) (hx : am_H) (kr' : Nat), FrY D h hx → YS D n P l boats hx S' kr' j2 → nx' ≤ tells → m < v → v ≤ 1440 → (∀ x ∈ l.take j2, ¬ nI m < P.2.2.2.1 x) → (∀ i, nx' ≤ i → i < tells → nI (m + 1) ≤ tl i) → (∀ i, m < i → i < v → wr P n lf (nI i) S' = false) → mjL P n room trip lf tells tl (K - (m + 1)) (m + 1) nx' S' = mjL P n room trip lf tells tl K 0 0 S0 →
              Ev w (am_Z w) mX3_misjudged (d + 3 + 1) 83 [(0, .ref D), (1, .ref tt), (2, .int (nI tells)), (3, .int (nI nx')), (4, .int (nI v)), (5, .int (nI m))] [] hx Q := by
            intro S' nx' v hx kr' Fx Yx hnx' h1 h2' Tx I1x wx Ex
            have mx : ∀ u, m < u → u ≤ 1440 → (if nI m + 1 < nI u then nI u else nI m + 1) = nI u := by
              intro u hu hu2
              rw [nI_1]
              by_cases hh : m + 1 < u
              · rw [if_pos (nI_lt hh (by omega))]
              · rw [if_neg (nI_nlt (by omega) (by omega)), show m + 1 = u by omega]
            have go : ∀ u, m < u → u ≤ v → (∀ i, nx' ≤ i → i < tells → nI u ≤ tl i) → Ev w (am_Z w) mX3_misjudged (d + 3 + 1) 5 [(0, .ref D), (1, .ref tt), (2, .int (nI tells)), (3, .int (nI nx')), (5, .int (nI u))] [] hx Q := by
              intro u hu hu2 Iu
              refine ih u (by omega) (by omega) nx' S' hx kr' j2 hnx' Fx Yx (fun x hx hn => Tx x hx (Int32.lt_trans (nI_lt hu (by omega)) hn)) Iu ?_
              have fl := mj_flat (P := P) (n := n) (room := room) (trip := trip) (lf := lf) (S := S') (tells := tells) (tl := tl) (K := K) (m := m + 1) (nx := nx') (u - (m + 1)) (by omega) (fun i i1 i2 => ⟨?_, wx i (by omega) (by omega)⟩)
              · rw [show m + 1 + (u - (m + 1)) = u by omega] at fl
                rw [← fl]
                exact Ex
              · by_cases hh : nx' < tells
                · have := Iu nx' (Nat.le_refl _) hh
                  have ne : ¬ tl nx' = nI i := by
                    intro e
                    rw [e, nI_leI (by omega) (by omega)] at this
                    omega
                  simp [ne]
                · simp [hh]
            obtain ⟨g1, g2, g3⟩ := tg Fx
            refine bX3_misjudged_83 ⟨fun c2 => ?_, fun c2 => c_get g1 (by omega) ⟨_, rfl, ?_⟩⟩
            · rw [mx v h1 h2']
              rw [nI_leI (by omega) (by omega)] at c2
              exact go v h1 (Nat.le_refl _) (fun i i1 i2 => by omega)
            · rw [nI_leI (by omega) (by omega)] at c2
              rw [g3 nx' (by omega)]
              obtain ⟨⟨t, ht, et⟩, _⟩ := T nx' (by omega)
              have Ia := I1x nx' (Nat.le_refl _) (by omega)
              rw [et, nI_leI (by omega) (by omega)] at Ia
              have nxt : ∀ u, u ≤ t → ∀ i, nx' ≤ i → i < tells → nI u ≤ tl i := fun u hu i i1 i2 => Int32.le_trans (nI_le hu (by omega)) (by rw [← et]; exact tld_next T i1 i2)
              rw [et]
              by_cases ct : t < v
              · rw [if_pos (nI_lt ct (by omega)), mx t (by omega) (by omega)]
                exact go t (by omega) (by omega) (nxt t (Nat.le_refl _))
              · rw [if_neg (nI_nlt (by omega) (by omega)), mx v h1 h2']
                exact go v h1 (Nat.le_refl _) (nxt v (by omega))
          refine c_soonest (d := d) A3 Y3 C2 hmlt (by rw [FF3.2 17 (by decide) (by decide)]; exact hlv) (Nat.le_refl _) (fun h6 v F6 v1 v2 v3 => ⟨_, rfl, fun c2 => ?_, fun c2 => ⟨F6.L A3.1, ?_⟩⟩)
          · have isf : is = false := by
              cases is with
              | false => rfl
              | true => exact absurd c2 (by decide)
            rw [isf] at his e
            rw [isf, if_neg (by decide)] at E
            refine t83 S nx v h6 kr (FF3.tr (F6.y (fun x hx => by omega))) (Y3.fr2 F6) hnx v1 v2 C2.1 (fun i i1 i2 => ?_) (fun i i1 i2 => (v3 i i1 i2).2.2 e.symm) E
            obtain ⟨⟨t, ht, et⟩, _⟩ := T i i2
            have := I1 i i1 i2
            rw [et, nI_leI (by omega) (by omega)] at this
            have ne : t ≠ m := by
              intro e3
              rw [e3] at et
              have l1 := tld_next T i1 i2
              have l2 := I1 nx (Nat.le_refl _) (by omega)
              have e4 : tl nx = nI m := Int32.le_antisymm (by rw [← et]; exact l1) l2
              rw [decide_eq_true (show nx < tells by omega), decide_eq_true e4] at his
              cases his
            rw [et]
            exact nI_le (by omega) (by omega)
          · have ist : is = true := by
              cases is with
              | true => rfl
              | false => exact absurd rfl c2
            rw [ist] at his e
            rw [ist, if_pos rfl] at E
            have F6' : FrY D h3 h6 := F6.y (fun x hx => by omega)
            have hnt : nx < tells ∧ tl nx = nI m := by
              have := his.symm
              simp only [Bool.and_eq_true, decide_eq_true_eq] at this
              exact this
            refine c_goOver (A3.fr F6') (Y3.fr2 F6) C2 hmlt e.symm (fun h10 F10 Y10 => ⟨rfl, ?_⟩)
            rw [nI_1, nI_1]
            refine t83 _ (nx + 1) (m + 1) h10 (kr + 1) ((FF3.tr F6').tr F10) Y10 (by omega) (by omega) (by omega) C2.1 (fun i i1 i2 => ?_) (fun i i1 i2 => by omega) E
            obtain ⟨⟨t, ht, et⟩, lt⟩ := T i i2
            have := lt nx (by omega)
            rw [hnt.2, et, nI_ltI (by omega) (by omega)] at this
            rw [et]
            exact nI_le (by omega) (by omega)
        · have e : ¬ is = wr P n lf (nI m) S := by
            intro e
            rw [← e] at c1
            exact c1 rfl
          rw [show K - m = K - (m + 1) + 1 by omega, mjL, ← his, if_neg e] at E
          have q := q h3 (FF2.tr (F3.y (fun x hx => by omega)))
          rw [← E] at q
          exact q
      obtain ⟨g1, g2, g3⟩ := tg FF2
      refine ⟨fun c1 => ?_, fun c1 => c_get g1 (by omega) ⟨_, rfl, fun c2 => ?_, fun c2 => ?_⟩⟩
      · rw [nI_leI (by omega) (by omega)] at c1
        exact t39 false (by rw [decide_eq_false (by omega)]; rfl)
      · rw [nI_leI (by omega) (by omega)] at c1
        rw [g3 nx (by omega)] at c2
        exact t39 true (by rw [decide_eq_true (by omega), decide_eq_true c2]; rfl)
      · rw [nI_leI (by omega) (by omega)] at c1
        rw [g3 nx (by omega)] at c2
        exact t39 false (by rw [decide_eq_false c2, Bool.and_false])
  refine bX3_misjudged_0 ?_
  exact loop K 0 (by omega) (Nat.zero_le _) 0 S0 h kr0 0 (Nat.zero_le _) FrY.rf Y0 (fun x hx => by rw [List.take_zero] at hx; cases hx) (fun i _ hi => by obtain ⟨⟨t, ht, et⟩, _⟩ := T i hi; rw [et]; exact nI_le (Nat.zero_le _) (by omega)) rfl
end XJUDGE
