/-! The reference's ringsBy and send. -/
theorem eqR.sv {n : Nat} {f g : Nat → Int32} {v : Int32} (e : eqR n f g) (h : g n = v) : eqR (n + 1) (va_up f n v) g := by
  intro p hp
  by_cases c : p = n
  · subst c; rw [va_up_self, h]
  · rw [va_up_ne _ _ c]; exact e p (by omega)
theorem eqR.uc {n : Nat} {f g : Nat → Int32} {c : Int32} (e : eqR n f g) : eqR n f (upto n g (fun _ => c)) := by
  intro p hp
  simp only [upto]
  rw [if_pos hp]
  exact e p hp
theorem upto_ge {α : Type} {N p : Nat} {f g : Nat → α} (h : N ≤ p) : upto N f g p = g p := by
  simp only [upto]
  rw [if_neg (by omega)]
/-- a ringing more, or not -/
theorem rgs_mono {P : rP} {n room : Nat} {trip : Int32} {lf : (Nat → Int32) → Int32} {minute : Int32} : ∀ (f : Nat) {k : Nat} {S : rS}, S.2.2.1 = nI k → ∃ k', (rgs P n room trip lf minute f S).2.2.1 = nI k' ∧ k ≤ k' ∧ k' ≤ k + f := by
  intro f
  induction f with
  | zero => intro k S h; exact ⟨k, h, by omega, by omega⟩
  | succ f ih =>
    intro k S h
    rw [rgs]
    split
    · have e : (ring1 P n room trip minute S).2.2.1 = nI (k + 1) := by
        show S.2.2.1 + 1 = _
        rw [h, ← nI_succ]
      obtain ⟨k', h1, h2, h3⟩ := ih e
      exact ⟨k', h1, by omega, by omega⟩
    · exact ⟨k, h, by omega, by omega⟩
theorem wr_pos {P : rP} {n : Nat} {lf : (Nat → Int32) → Int32} {minute : Int32} {S : rS} (h : wr P n lf minute S = true) : 0 < n := by
  cases n with
  | zero => simp [wr, wrV, fcV, acV] at h
  | succ n => omega
theorem rgs_more {P : rP} {n room k f : Nat} {trip : Int32} {lf : (Nat → Int32) → Int32} {minute : Int32} {S : rS} (h : S.2.2.1 = nI k) (hf : n ≤ f) (hb : k + f < 2 ^ 31) : ((rgs P n room trip lf minute f S).2.2.1 ≤ S.2.2.1) ↔ wr P n lf minute S = false := by
  cases hw : wr P n lf minute S with
  | false =>
    have e : rgs P n room trip lf minute f S = S := by
      cases f with
      | zero => rfl
      | succ f => rw [rgs, if_neg (by rw [hw]; decide)]
    rw [e]
    exact ⟨fun _ => rfl, fun _ => Int32.le_refl _⟩
  | true =>
    have := wr_pos hw
    obtain ⟨f, rfl⟩ : ∃ g, f = g + 1 := ⟨f - 1, by omega⟩
    rw [rgs, if_pos hw]
    have e : (ring1 P n room trip minute S).2.2.1 = nI (k + 1) := by
      show S.2.2.1 + 1 = _
      rw [h, ← nI_succ]
    obtain ⟨k', h1, h2, h3⟩ := rgs_mono (P := P) (n := n) (room := room) (trip := trip) (lf := lf) (minute := minute) f e
    rw [h1, h, nI_leI (by omega) (by omega)]
    constructor
    · intro c; omega
    · intro c; cases c
/-- the people with guests, the state with guests -/
def gstP (r : rV) (b : Int32) (minute : Int32) : rP := (0, vUse r, upto (vN r) (vSd r) (fun _ => b), upto (vN r) (vAt r) (fun _ => minute), upto (vN r) (vWt r) (fun _ => 70), fun _ => 0, upto (vN r) (fun p => cof (vKd r p)) (fun _ => 2))
def gstS (N : Nat) (S : rS) : rS := (upto N S.1 (fun _ => -1), upto N S.2.1 (fun _ => -1), S.2.2)
/-- it rings at a minute if so many come on that bank -/
def sndR (r : rV) (a : Nat) (b : Int32) (n : Nat) : Bool := wr (gstP r b (nI a)) (vN r + n) (vLf r) (nI a) (gstS (vN r) (dayK r (-1) a))
def sndL (r : rV) (a : Nat) (what : Int32) : Nat → Nat → Int32
  | 0, _ => -1
  | k + 1, n => if sndR r a 0 n then (if what = 0 then nI n else if nI n = 0 then -1 else 0) else if sndR r a 1 n then (if what = 0 then nI n else if nI n = 0 then -1 else 1) else sndL r a what k (n + 1)
def aSend (r : rV) (minute what : Int32) : Int32 :=
  if 0 ≤ minute ∧ minute < 1440 then (if 0 ≤ what ∧ what ≤ 1 then sndL r minute.toNatClampNeg what 41 0 else -1) else -1
theorem hlastA {a : Nat} (ha : a ≤ 1440) : ∀ p, p ≤ 1440 → (nI a - 1 < nI p ↔ 0 + a ≤ p) := by
  intro p hp
  cases a with
  | zero =>
    rw [show nI 0 - 1 = -1 by decide]
    constructor
    · intro _; omega
    · intro _
      exact Int32.lt_of_lt_of_le (by decide) (nI_pos' (by omega))
  | succ a =>
    rw [nI_succ, show nI a + 1 - 1 = nI a from Int32.add_sub_cancel _ _, nI_ltI (by omega) (by omega)]
    omega
theorem hlastM {a : Nat} (ha : a < 1440) : ∀ p, p ≤ 1440 → (nI a < nI p ↔ a + 1 ≤ p) := by
  intro p hp
  rw [nI_ltI (by omega) (by omega)]
  omega
theorem cnt_s (g : Nat → Int32) : ∀ {n : Nat}, cnt g (n + 1) ≤ cnt g n + 1 := by
  intro n
  rw [cnt]
  split <;> omega
theorem cnt_eqR {g g' : Nat → Int32} : ∀ {n : Nat}, eqR n g g' → cnt g n = cnt g' n := by
  intro n
  induction n with
  | zero => intro _; rfl
  | succ n ih => intro e; rw [cnt, cnt, ih (fun p hp => e p (by omega)), e n (by omega)]
section RSEND
variable {w : am_W} {d : Nat} {h : am_H} {Q : Option Value → am_H → Prop} {m : Nat} {r : rV}
set_option maxHeartbeats 4000000 in
theorem c_ringsBy {a n : Nat} {b : Int32} (R : RvC w (d + 2) m h r) (ha : a < 1440) (hn : n ≤ 40) (hb : b = 0 ∨ b = 1) (q : ∀ h', FrD m h h' → Q (some (.int (if sndR r a b n then 1 else 0))) h') : EvM w mX10_ringsBy (d + 5) [.ref m, .int (nI a), .int b, .int (nI n)] h Q := by
  have M := R.1.1
  refine bX10_ringsBy_0 ⟨M.1, c_tellsAll M R.1.2.1 R.1.2.2.1 (fun h2 F2 P2 S2 => ⟨rfl, (F2.md M).1, ?_⟩)⟩
  have D2 := R.tld F2 P2 S2
  refine c_goC (x := -1) (a := 0) (k := a) (R.fr F2.z) D2 (by omega) (hlastA (by omega)) (fun h5 k5 F5 D5 _ => ⟨rfl, ?_⟩)
  have F := F2.tr F5
  have R5 := R.fr F.z
  obtain ⟨d1, d2, d3, d4, d5, d6⟩ := D5
  refine ⟨(F.md M).1, ?_⟩
  have hN2 := R.1.2.2.1
  have k5e : hI h5 m 44 = nI k5 := d6.2.2.1
  have loop : ∀ k j : Nat, j + k = n → ∀ hc : am_H, FrD m h hc → hI hc m 36 = nI (vN r + j) → eqP (vN r + j) (perS hc m) (gstP r b (nI a)) → k5 + cnt (hI hc (m + 30)) (vN r + j) ≤ vN r + j → eqS (vN r + j) k5 (getS hc m) (gstS (vN r) (dayK r (-1) a)) →
      Ev w (am_Z w) mX10_ringsBy (d + 4 + 1) 22 [(0, .ref m), (1, .int (nI a)), (2, .int b), (3, .int (nI n)), (4, .int (hI h5 m 44)), (5, .int (nI j))] [] hc Q := by
    intro k
    induction k with
    | zero =>
      intro j hj hc Fc e36 eP hk eS
      have hj : j = n := by omega
      subst hj
      have Mc := Fc.md M
      have Rc := R.fr Fc.z
      obtain ⟨⟨_, hN', _, hsd, hC, L, hr, hr0, hr2, ht⟩, r2, r3, r4, r5, r6, r7, r8⟩ := id Rc
      refine bX10_ringsBy_22 ⟨fun _ => ⟨Mc.1, ?_⟩, fun c => absurd (Int32.le_refl _) c⟩
      have hlaw : hI hc m 50 = hI hc (m + 2) 8 := eP.1.trans r2.symm
      have hsd2 : ∀ p, p < vN r + j → hI hc (m + 25) p = 0 ∨ hI hc (m + 25) p = 1 := by
        intro p hp
        have e : hI hc (m + 25) p = upto (vN r) (vSd r) (fun _ => b) p := eP.2.1 p hp
        rw [e]
        simp only [upto]
        split
        · rename_i c
          rw [← r4 p c]
          exact hsd p c
        · exact hb
      refine c_goesOn (B := 360) (a := a) (k := 1) (n := vN r + j) (room := vRoom r) (kr := k5) (trip := vTrip r) (lf := vLf r) Mc e36 (by omega) hsd2 hC (L.D hlaw) hr hr0 hr2 ht eS.2.2.1 (by omega) (by decide) (by omega) (hlastM ha) (fun h' F' P' R' G' => ⟨rfl, ((Fc.tr F').md M).1, ?_⟩)
      have q := q h' (Fc.tr F')
      rw [k5e]
      have e1 : hI h' m 44 = (rgs (perS hc m) (vN r + j) (vRoom r) (vTrip r) (vLf r) (nI a) (vN r + j) (getS hc m)).2.2.1 := congrArg (fun x : rS => x.2.2.1) G'
      have e2 := rgs_more (P := perS hc m) (n := vN r + j) (room := vRoom r) (trip := vTrip r) (lf := vLf r) (minute := nI a) (f := vN r + j) eS.2.2.1 (Nat.le_refl _) (by omega)
      rw [← e1, eS.2.2.1, wr_eq eP eS] at e2
      unfold sndR at q
      refine ⟨fun c => ?_, fun c => ?_⟩
      · rw [e2.mp c] at q; exact q
      · have : wr (gstP r b (nI a)) (vN r + j) (vLf r) (nI a) (gstS (vN r) (dayK r (-1) a)) = true := by
          cases hh : wr (gstP r b (nI a)) (vN r + j) (vLf r) (nI a) (gstS (vN r) (dayK r (-1) a)) with
          | true => rfl
          | false => exact absurd (e2.mpr hh) c
        rw [this] at q; exact q
    | succ k ih =>
      intro j hj hc Fc e36 eP hk eS
      have Mc := Fc.md M
      refine bX10_ringsBy_22 ⟨fun c => absurd c (by rw [nI_leI (by omega) (by omega)]; omega), fun _ => ⟨Mc.1, c_joins (n := vN r + j) Mc e36 (by omega) (fun h6 F6 P6 S6 => ⟨rfl, ?_⟩)⟩⟩
      rw [(nI_succ j).symm]
      have P6' := P6
      simp only [perS, Prod.mk.injEq] at P6'
      obtain ⟨p1, p2, p3, p4, p5, p6, p7⟩ := P6'
      have S6' := S6
      simp only [getS, Prod.mk.injEq] at S6'
      obtain ⟨s1, s2, s3⟩ := S6'
      obtain ⟨q1, q2, q3, q4, q5⟩ := eP
      obtain ⟨t1, t2, t3, t4, t5⟩ := eS
      have t1 : eqR (vN r + j) (hI hc (m + 30)) (upto (vN r) (dayK r (-1) a).1 (fun _ => -1)) := t1
      have t2 : eqR (vN r + j) (hI hc (m + 31)) (upto (vN r) (dayK r (-1) a).2.1 (fun _ => -1)) := t2
      refine ih (j + 1) (by omega) h6 (Fc.tr F6) p1 ?_ ?_ ?_
      · rw [P6]
        exact ⟨q1, eqR.sv q2 (show upto (vN r) (vSd r) (fun _ => b) (vN r + j) = b from upto_ge (by omega)), eqR.sv q3 (show upto (vN r) (vAt r) (fun _ => nI a) (vN r + j) = nI a from upto_ge (by omega)), eqR.sv q4 (show upto (vN r) (vWt r) (fun _ => 70) (vN r + j) = 70 from upto_ge (by omega)), eqR.sv q5 (show upto (vN r) (fun p => cof (vKd r p)) (fun _ => 2) (vN r + j) = 2 from upto_ge (by omega))⟩
      · rw [s1]
        have a1 := cnt_s (va_up (hI hc (m + 30)) (vN r + j) (-1)) (n := vN r + j)
        have a2 : cnt (va_up (hI hc (m + 30)) (vN r + j) (-1)) (vN r + j) = cnt (hI hc (m + 30)) (vN r + j) := cnt_eqR (fun p hp => va_up_ne _ _ (by omega))
        show k5 + cnt _ (vN r + j + 1) ≤ vN r + j + 1
        omega
      · rw [S6]
        exact ⟨eqR.sv t1 (show upto (vN r) (dayK r (-1) a).1 (fun _ => -1) (vN r + j) = -1 from upto_ge (by omega)), eqR.sv t2 (show upto (vN r) (dayK r (-1) a).2.1 (fun _ => -1) (vN r + j) = -1 from upto_ge (by omega)), t3, t4, t5⟩
  refine loop n 0 (by omega) h5 F d1 ?_ d5 ?_
  · obtain ⟨q1, q2, q3, q4, q5⟩ := d2
    refine ⟨q1, eqR.uc (fun p hp => (q2 p hp).trans (sdf_m1 _ _ _)), eqR.uc q3, eqR.uc q4, eqR.uc q5⟩
  · obtain ⟨t1, t2, t3, t4, t5⟩ := d6
    exact ⟨eqR.uc t1, eqR.uc t2, t3, t4, t5⟩
theorem c_send {minute what : Int32} (R : RvC w (d + 2) m h r) (q : ∀ h', FrZ m h h' → Q (some (.int (aSend r minute what))) h') : EvM w mX10_send (d + 6) [.ref m, .int minute, .int what] h Q := by
  refine bX10_send_0 ⟨R.1.1.1, fun h2 e2 => ?_⟩
  have F2 : FrZ m h h2 := by rw [e2]; exact FrZ.rf.fld
  unfold aSend at q
  refine c_isMinuteM ⟨_, rfl, fun c => ?_, fun c => c_within ⟨_, rfl, fun c2 => ?_, fun c2 => ?_⟩⟩
  · rw [if_neg (b01_z c)] at q; exact q h2 F2
  · rw [if_pos (b01_n c), if_neg (b01_z c2)] at q; exact q h2 F2
  · rw [if_pos (b01_n c), if_pos (b01_n c2)] at q
    have c := b01_n c
    obtain ⟨a, ha, rfl⟩ := nI_of (Int32.not_lt.mpr c.1)
    have c1 := c.2
    rw [show (1440 : Int32) = nI 1440 by decide, nI_ltI ha (by decide)] at c1
    rw [nI_clamp ha] at q
    have loop : ∀ k n : Nat, n + k = 41 → ∀ hc, FrZ m h hc → (∀ h', FrZ m h h' → Q (some (.int (sndL r a what k n))) h') → Ev w (am_Z w) mX10_send (d + 5 + 1) 25 [(0, .ref m), (1, .int (nI a)), (2, .int what), (3, .int (nI n))] [] hc Q := by
      intro k
      induction k with
      | zero =>
        intro n hn hc Fc q
        exact bX10_send_25 ⟨fun _ => q hc Fc, fun c => absurd (by rw [show (40 : Int32) = nI 40 by decide, nI_ltI (by decide) (by omega)]; omega) c⟩
      | succ k ih =>
        intro n hn hc Fc q
        rw [sndL] at q
        refine bX10_send_25 ⟨fun c => absurd c (by rw [show (40 : Int32) = nI 40 by decide, nI_ltI (by decide) (by omega)]; omega), fun _ => ?_⟩
        refine bX10_send_34 ⟨fun c => absurd c (by decide), fun _ => ⟨(Fc.md R.1.1).1, c_ringsBy (R.fr Fc) c1 (by omega) (Or.inl rfl) (fun h3 F3 => ⟨_, rfl, fun c3 => ?_, fun c3 => ?_⟩)⟩⟩
        · have hs : sndR r a 0 n = false := by
            cases hh : sndR r a 0 n with
            | false => rfl
            | true => rw [hh] at c3; exact absurd c3 (by decide)
          rw [if_neg (by rw [hs]; decide)] at q
          have F3 := Fc.tr F3
          refine bX10_send_34 ⟨fun c => absurd c (by decide), fun _ => ⟨(F3.md R.1.1).1, c_ringsBy (R.fr F3) c1 (by omega) (Or.inr (by decide)) (fun h4 F4 => ⟨_, rfl, fun c4 => ?_, fun c4 => ?_⟩)⟩⟩
          · have hs : sndR r a 1 n = false := by
              cases hh : sndR r a 1 n with
              | false => rfl
              | true => rw [show (0 : Int32) + 1 = 1 by decide, hh] at c4; exact absurd c4 (by decide)
            rw [if_neg (by rw [hs]; decide)] at q
            refine bX10_send_34 ⟨fun _ => ?_, fun c => absurd (by decide) c⟩
            rw [(nI_succ n).symm]
            exact ih (n + 1) (by omega) h4 (F3.tr F4) q
          · have hs : sndR r a 1 n = true := by
              cases hh : sndR r a 1 n with
              | true => rfl
              | false => rw [show (0 : Int32) + 1 = 1 by decide, hh] at c4; exact absurd rfl c4
            rw [if_pos hs] at q
            have q := q h4 (F3.tr F4)
            refine ⟨fun c5 => ?_, fun c5 => ⟨fun c6 => ?_, fun c6 => ?_⟩⟩
            · rw [if_pos c5] at q; exact q
            · rw [if_neg c5, if_pos c6] at q; exact q
            · rw [if_neg c5, if_neg c6] at q; exact q
        · have hs : sndR r a 0 n = true := by
            cases hh : sndR r a 0 n with
            | true => rfl
            | false => rw [hh] at c3; exact absurd rfl c3
          rw [if_pos hs] at q
          have q := q h3 (Fc.tr F3)
          refine ⟨fun c5 => ?_, fun c5 => ⟨fun c6 => ?_, fun c6 => ?_⟩⟩
          · rw [if_pos c5] at q; exact q
          · rw [if_neg c5, if_pos c6] at q; exact q
          · rw [if_neg c5, if_neg c6] at q; exact q
    exact loop 41 0 (by omega) h2 F2 q
end RSEND
