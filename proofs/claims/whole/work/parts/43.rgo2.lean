def lfC (lf : (Nat → Int32) → Int32) : Prop := ∀ V V', al6 V V' → lf V = lf V'
/-- it would ring at a minute -/
def wr (P : rP) (n : Nat) (lf : (Nat → Int32) → Int32) (minute : Int32) (S : rS) : Bool := wrV P S n lf minute (fun _ => 0)
theorem wrV_eq {P : rP} {S : rS} {n : Nat} {lf : (Nat → Int32) → Int32} {minute : Int32} {V : Nat → Int32} (hC : lfC lf) (hsd : ∀ p, p < n → P.2.2.1 p = 0 ∨ P.2.2.1 p = 1) : wrV P S n lf minute V = wr P n lf minute S := by
  have h0 : al6 (z16 7 V) (z16 7 (fun _ => 0)) := by
    intro i h1 h2
    simp only [z16]
    rw [if_pos (by omega), if_pos (by omega)]
  obtain ⟨a1, a2⟩ := acV_al (at_ := P.2.2.2.1) (wt := P.2.2.2.2.1) (ct := P.2.2.2.2.2.2) (g := S.1) (minute := minute) hsd h0
  have a3 : al6 (fcV P S.1 n minute V).1 (fcV P S.1 n minute (fun _ => 0)).1 := by
    intro i h1 h2
    show va_up _ 6 minute i = va_up _ 6 minute i
    rw [va_ui, va_ui, a1 i h1 h2]
  unfold wr wrV lwV
  rw [show (fcV P S.1 n minute V).2 = (fcV P S.1 n minute (fun _ => 0)).2 from a2, hC _ _ a3, a3 1 (by decide) (by decide), a3 2 (by decide) (by decide)]
/-- it rings as long as it would -/
def rgs (P : rP) (n room : Nat) (trip : Int32) (lf : (Nat → Int32) → Int32) (minute : Int32) : Nat → rS → rS
  | 0, S => S
  | f + 1, S => if wr P n lf minute S then rgs P n room trip lf minute f (ring1 P n room trip minute S) else S
/-- k minutes from a on -/
def goS (P : rP) (n room : Nat) (trip : Int32) (lf : (Nat → Int32) → Int32) : Nat → Nat → rS → rS
  | 0, _, S => S
  | k + 1, a, S => goS P n room trip lf k (a + 1) (rgs P n room trip lf (nI a) n S)
theorem FrD.law {m : Nat} {h h' : am_H} (_ : FrD m h h') (P : perS h' m = perS h m) : hI h' m 50 = hI h m 50 := congrArg (fun x : rP => x.2.1) P
section RGO2
variable {w : am_W} {d : Nat} {h : am_H} {Q : Option Value → am_H → Prop} {m : Nat}
/-- worked gives lf of the facts, whatever a day has changed -/
def LawD (w : am_W) (d m : Nat) (h : am_H) (lf : (Nat → Int32) → Int32) : Prop := 0 ≤ hI h m 50 → ∀ h2, FrD m h h2 → ∀ Q2 : Option Value → am_H → Prop, (∀ h3, FrE m h2 h3 → Q2 (some (.int (lf (hI h2 (m + 24))))) h3) → EvM w mX10_worked d [.ref m, .int (hI h m 50)] h2 Q2
theorem LawD.ok {lf : (Nat → Int32) → Int32} (L : LawD w d m h lf) {hc : am_H} (F : FrD m h hc) (P : perS hc m = perS h m) : LawOk w d m hc lf := by
  intro h0 h2 F2 Q2 q2
  rw [F.law P] at h0 ⊢
  exact L h0 h2 (F.tr F2.D) Q2 q2
set_option maxHeartbeats 4000000 in
theorem c_goesOn {a k n room kr B : Nat} {last trip : Int32} {lf : (Nat → Int32) → Int32} (M : Md m h) (hn : hI h m 36 = nI n) (hn2 : n ≤ 360) (hsd : ∀ p, p < n → hI h (m + 25) p = 0 ∨ hI h (m + 25) p = 1) (hC : lfC lf) (L : LawD w (d + 2) m h lf) (hr : hI h (m + 2) 0 = nI room) (hr0 : 0 < room) (hr2 : room < 2 ^ 30) (ht : hI h (m + 2) 1 = trip)
    (hk : hI h m 44 = nI kr) (hkr : kr + cnt (hI h (m + 30)) n ≤ B) (hB : B ≤ 360) (hak : a + k ≤ 1440) (hlast : ∀ p, p ≤ 1440 → (last < nI p ↔ a + k ≤ p)) (q : ∀ h', FrD m h h' → perS h' m = perS h m → (∃ kr', hI h' m 44 = nI kr' ∧ kr' + cnt (hI h' (m + 30)) n ≤ B) → getS h' m = goS (perS h m) n room trip lf k a (getS h m) → Q none h') : EvM w mX10_goesOn (d + 4) [.ref m, .int (nI a), .int last] h Q := by
  refine bX10_goesOn_0 ?_
  have hsd' : ∀ p, p < n → (perS h m).2.2.1 p = 0 ∨ (perS h m).2.2.1 p = 1 := hsd
  have loop : ∀ j p : Nat, p + j = a + k → ∀ hc, FrD m h hc → perS hc m = perS h m → (∃ kr', hI hc m 44 = nI kr' ∧ kr' + cnt (hI hc (m + 30)) n ≤ B) →
      (∀ h', FrD m h h' → perS h' m = perS h m → (∃ kr', hI h' m 44 = nI kr' ∧ kr' + cnt (hI h' (m + 30)) n ≤ B) → getS h' m = goS (perS h m) n room trip lf j p (getS hc m) → Q none h') →
      Ev w (am_Z w) mX10_goesOn (d + 3 + 1) 2 [(0, .ref m), (2, .int last), (3, .int (nI p))] [] hc Q := by
    intro j
    induction j with
    | zero =>
      intro p hp hc F P R q
      exact bX10_goesOn_2 ⟨fun _ => q hc F P R rfl, fun c => absurd ((hlast p (by omega)).mpr (by omega)) c⟩
    | succ j ih =>
      intro p hp hc F P R q
      have hmin : ¬ nI p = -1 := by
        intro e
        have := nI_pos' (n := p) (by omega)
        rw [e] at this
        exact absurd this (by decide)
      refine bX10_goesOn_2 ⟨fun c => absurd ((hlast p (by omega)).mp c) (by omega), fun _ => ?_⟩
      have inner : ∀ f : Nat, ∀ hb, FrD m h hb → perS hb m = perS h m → (∃ kr', hI hb m 44 = nI kr' ∧ kr' + cnt (hI hb (m + 30)) n ≤ B) → cnt (hI hb (m + 30)) n ≤ f →
          (∀ h', FrD m h h' → perS h' m = perS h m → (∃ kr', hI h' m 44 = nI kr' ∧ kr' + cnt (hI h' (m + 30)) n ≤ B) → getS h' m = rgs (perS h m) n room trip lf (nI p) f (getS hb m) → Ev w (am_Z w) mX10_goesOn (d + 3 + 1) 2 [(0, .ref m), (2, .int last), (3, .int (nI p + 1))] [] h' Q) →
          Ev w (am_Z w) mX10_goesOn (d + 3 + 1) 7 [(0, .ref m), (2, .int last), (3, .int (nI p))] [] hb Q := by
        intro f
        induction f with
        | zero =>
          intro hb Fb Pb Rb hcnt kq
          have Mb := Fb.md M
          have P' := Pb
          simp only [perS, Prod.mk.injEq] at P'
          refine bX10_goesOn_7 ⟨Mb.1, c_wouldRing (lf := lf) Mb (by rw [P'.1]; exact hn) hn2 (by rw [P'.2.2.1]; exact hsd) (L.ok Fb Pb) (fun h2 F2 => ⟨_, rfl, fun c => ?_, fun c => ?_⟩)⟩
          · refine kq h2 (Fb.tr F2.D) (F2.per.trans Pb) ?_ F2.get
            obtain ⟨kr', r1, r2⟩ := Rb
            exact ⟨kr', by rw [F2.2.2.2.2.2.2 m (by omega)]; exact r1, by rw [F2.2.2.2.2.2.2 (m + 30) (by omega)]; exact r2⟩
          · exfalso
            have hw : wrV (perS hb m) (getS hb m) n lf (nI p) (hI hb (m + 24)) = true := by
              cases hh : wrV (perS hb m) (getS hb m) n lf (nI p) (hI hb (m + 24)) with
              | true => rfl
              | false => rw [hh] at c; exact absurd rfl c
            have := ring1_dec (trip := trip) hmin hr0 (by rw [Pb]; exact hsd') hw
            have e : cnt (getS hb m).1 n = cnt (hI hb (m + 30)) n := rfl
            omega
        | succ f ihf =>
          intro hb Fb Pb Rb hcnt kq
          have Mb := Fb.md M
          have P' := Pb
          simp only [perS, Prod.mk.injEq] at P'
          have hwe : wrV (perS hb m) (getS hb m) n lf (nI p) (hI hb (m + 24)) = wr (perS h m) n lf (nI p) (getS hb m) := by
            rw [Pb]
            exact wrV_eq hC hsd'
          refine bX10_goesOn_7 ⟨Mb.1, c_wouldRing (lf := lf) Mb (by rw [P'.1]; exact hn) hn2 (by rw [P'.2.2.1]; exact hsd) (L.ok Fb Pb) (fun h2 F2 => ⟨_, rfl, fun c => ?_, fun c => ?_⟩)⟩
          · have hw : wr (perS h m) n lf (nI p) (getS hb m) = false := by
              rw [← hwe]
              cases hh : wrV (perS hb m) (getS hb m) n lf (nI p) (hI hb (m + 24)) with
              | false => rfl
              | true => rw [hh] at c; exact absurd c (by decide)
            refine kq h2 (Fb.tr F2.D) (F2.per.trans Pb) ?_ ?_
            · obtain ⟨kr', r1, r2⟩ := Rb
              exact ⟨kr', by rw [F2.2.2.2.2.2.2 m (by omega)]; exact r1, by rw [F2.2.2.2.2.2.2 (m + 30) (by omega)]; exact r2⟩
            · rw [rgs, if_neg (by rw [hw]; decide)]
              exact F2.get
          · have hw : wrV (perS hb m) (getS hb m) n lf (nI p) (hI hb (m + 24)) = true := by
              cases hh : wrV (perS hb m) (getS hb m) n lf (nI p) (hI hb (m + 24)) with
              | true => rfl
              | false => rw [hh] at c; exact absurd rfl c
            have hdec := ring1_dec (trip := trip) hmin hr0 (by rw [Pb]; exact hsd') hw
            have hdec : cnt (ring1 (perS hb m) n room trip (nI p) (getS hb m)).1 n < cnt (hI hb (m + 30)) n := hdec
            obtain ⟨kr', r1, r2⟩ := Rb
            have F2' : FrD m h h2 := Fb.tr F2.D
            have Pm : perS h2 m = perS h m := F2.per.trans Pb
            have r1' : hI h2 m 44 = nI kr' := by rw [F2.2.2.2.2.2.2 m (by omega)]; exact r1
            have ro : ∀ o, 0 < o → o < 15 → hI h2 (m + o) = hI h (m + o) := fun o _ _ => F2'.2.2.2.2.2.2.1 _ (by omega) (by omega)
            have Pm' := Pm
            simp only [perS, Prod.mk.injEq] at Pm'
            refine ⟨(F2'.md M).1, c_ringsOnce (n := n) (room := room) (trip := trip) (k := kr') (F2'.md M) (by rw [Pm'.1]; exact hn) hn2 (by rw [ro 2 (by decide) (by decide)]; exact hr) hr2 (by rw [ro 2 (by decide) (by decide)]; exact ht) r1' (by omega) (fun h6 F6 P6 G6 => ⟨rfl, ?_⟩)⟩
            have G6' : getS h6 m = ring1 (perS h m) n room trip (nI p) (getS hb m) := by rw [G6, Pm, F2.get]
            rw [Pb] at hdec
            have c6 : cnt (hI h6 (m + 30)) n = cnt (ring1 (perS h m) n room trip (nI p) (getS hb m)).1 n := by rw [← G6']; rfl
            refine ihf h6 (F2'.tr F6) (P6.trans Pm) ⟨kr' + 1, ?_, by omega⟩ (by omega) (fun h' F' P' R' G' => kq h' F' P' R' ?_)
            · have : (getS h6 m).2.2.1 = (ring1 (perS h m) n room trip (nI p) (getS hb m)).2.2.1 := by rw [G6']
              show (getS h6 m).2.2.1 = _
              rw [this]
              show hI hb m 44 + 1 = _
              rw [r1, ← nI_succ]
            · rw [rgs, if_pos (by rw [← hwe]; exact hw), G', G6']
      refine inner n hc F P R (cnt_le _ _) (fun h' F' P' R' G' => ?_)
      rw [(nI_succ p).symm]
      refine ih (p + 1) (by omega) h' F' P' R' (fun h'' F'' P'' R'' G'' => q h'' F'' P'' R'' ?_)
      rw [goS, G'', G']
  exact loop k a rfl h FrD.rf rfl ⟨kr, hk, hkr⟩ q
end RGO2
