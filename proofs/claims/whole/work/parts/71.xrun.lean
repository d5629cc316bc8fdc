/-! The class's run: a day that leaps is the day minute by minute. -/
section XRUN
variable {w : am_W} {d : Nat} {h h1 : am_H} {Q : Option Value → am_H → Prop} {D L Lc n ρ c s room kr j : Nat} {P : rP} {l X0 X1 : List Nat} {trip boats : Int32} {lf : (Nat → Int32) → Int32} {S : rS}
theorem inB_home {sd g : Nat → Int32} {b : Int32} {Y : List Nat} {p : Nat} : Y.filter (inB sd (va_up g p (-2)) b) = (Y.filter (inB sd g b)).filter (fun q => !decide (q = p)) := by
  rw [List.filter_filter]
  refine List.filter_congr (fun q _ => ?_)
  rw [setL_one, inB_set (by decide)]
  simp
set_option maxHeartbeats 4000000 in
/-- both banks let one go -/
theorem c_leaves2 {pl : Nat} (A : DC D L Lc n ρ c s P l room trip boats lf h) (Y : YS D n P l boats h S kr j) (hpl : hI h D 16 = nI pl) (hp : pl < n) (hg : S.1 pl = -1) (hin : pl ∈ l.take j) {Q2 : Option Value → am_H → Prop}
    (q : ∀ h', FrY D h h' → YS D n P l boats h' (homS pl S) kr j → Q2 none h') :
    EvM w mX0_leave (d + 2) [.ref (D + 4), .int (hI h D 16), .ref (hR h D 13)] h (fun r4 h3 => r4 = none ∧ ((am_L 3 D h3) ∧ ((hR h3 D 13 ≠ 0) ∧ (EvM w mX0_leave (d + 2) [.ref (D + 6), .int (hI h3 D 16), .ref (hR h3 D 13)] h3 Q2)))) := by
  obtain ⟨a1, a2, a3, a4, a5, ⟨r12, r13, r14, z1, z2, z3⟩, ⟨o1, o2, o3, o4⟩, C, ⟨s1, s2, s3, s4⟩, a10, a11, a12⟩ := id A
  obtain ⟨⟨y1, y2⟩, ⟨y3, y4, y5, y6, y7, y8⟩, ⟨y9, y10, y11⟩, ⟨y12, y13⟩, y14, b0, b1⟩ := id Y
  have O := C.2.2.2.2.2.2.2.1
  have oc := A.oc
  have hL := C.2.2.1
  have ndT : (l.take j).Nodup := O.nodup.sublist (List.take_sublist _ _)
  rw [hpl, r13]
  refine c_leaveB a2 C (by omega) b0 (ndT.filter _) (fun x hx => filt_lt O hx) (by omega) (by omega) (fun h3 F3 k3 => ⟨rfl, F3.L a1, by rw [F3.R, r13]; exact z2, ?_⟩)
  rw [F3.R, r13, F3.I (by unfold ZB; omega), hpl]
  refine c_leaveB (a3.fr F3) (C.fr F3 (fun a h1 h2 => by unfold ZB; omega)) (by omega) (b1.cg (F3.I (by unfold ZB; omega)) (F3.I (by unfold ZB; omega))) (ndT.filter _) (fun x hx => filt_lt O hx) (by omega) (by omega) (fun h7 F7 k7 => ?_)
  have e : ∀ x, (x < D + 4 ∨ D + 7 < x) → hI h7 x = hI h x := fun x hx => by rw [F7.I (by unfold ZB; omega), F3.I (by unfold ZB; omega)]
  refine q h7 ((F3.y (fun x hx => by unfold ZB at hx; omega)).tr (F7.y (fun x hx => by unfold ZB at hx; omega))) ⟨?_, ?_, ?_, ⟨?_, ?_⟩, fun x hx => ?_, ?_, ?_⟩
  · rw [e D (by omega)]; exact ⟨y1, y2⟩
  · rw [e D (by omega), e (D + 10) (by omega), e (D + 11) (by omega), e (D + 12) (by omega)]
    refine ⟨y3, y4, ?_, y6, y7, y8⟩
    have := cnt_upl (g := S.1) (v := -2) (p := pl) (by decide) n
    show kr + cnt (va_up S.1 pl (-2)) n ≤ n
    omega
  · rw [e (D + 1) (by omega)]; exact ⟨y9, y10, y11⟩
  · rw [e (D + 8) (by omega)]
    intro p hpn
    rw [y12 p hpn]
    show _ = if 0 ≤ va_up S.1 pl (-2) p then va_up S.1 pl (-2) p else 1440
    by_cases ep : p = pl
    · rw [ep, va_up_self, hg]; rfl
    · rw [va_up_ne _ _ ep]
  · rw [e (D + 9) (by omega)]; exact y13
  · show va_up S.1 pl (-2) x = -1
    have nx : x ≠ pl := by
      intro ex
      have := O.nodup
      rw [← List.take_append_drop j l] at this
      exact (List.nodup_append.mp this).2.2 pl hin x hx ex.symm
    rw [va_up_ne _ _ nx]
    exact y14 x hx
  · show Bk (D + 4) h7 ((l.take j).filter (inB P.2.2.1 (va_up S.1 pl (-2)) 0)) j _ _ 0
    rw [inB_home]
    exact k3.cg (F7.I (by unfold ZB; omega)) (F7.I (by unfold ZB; omega))
  · show Bk (D + 6) h7 ((l.take j).filter (inB P.2.2.1 (va_up S.1 pl (-2)) 1)) j _ _ 0
    rw [inB_home]
    exact k7
/-- a minute's ringings, then the leap -/
theorem c_run52 {m unt lv : Nat} (A0 : DC D L Lc n ρ c s P l room trip boats lf h) (C : Cm P.2.2.2.1 l j (nI m)) (hm : m < 1440) (hlv : hI h D 17 = nI lv) (hlv2 : lv ≤ 1440) {X : rS}
    (q : ∀ h' kr v, FrY D h h' → YS D n P l boats h' X kr j → m < v → v ≤ 1440 → (∀ i, m < i → i < v → i ≠ lv ∧ Cm P.2.2.2.1 l j (nI i) ∧ wr P n lf (nI i) X = false) → Ev w (am_Z w) mX3_run (d + 3 + 1) 2 [(0, .ref D), (1, .int (nI unt)), (2, .int (nI v))] [] h' Q) :
    ∀ f k, k + f = n → ∀ hc kr S, FrY D h hc → YS D n P l boats hc S kr j → cnt S.1 n ≤ f → rgs P n room trip lf (nI m) f S = X → Ev w (am_Z w) mX3_run (d + 3 + 1) 52 [(0, .ref D), (1, .int (nI unt)), (2, .int (nI m)), (3, .int (nI k))] [] hc Q := by
  have hsd := A0.2.2.2.2.2.2.2.2.2.2.2.1
  have hR := A0.2.2.2.2.2.2.2.2.2.1
  have hmin : ¬ nI m = -1 := nI_nm (by omega)
  -- the leap
  have leap : ∀ hc kr, FrY D h hc → YS D n P l boats hc X kr j → wr P n lf (nI m) X = false → am_L 3 D hc → EvM w mX3_soonest (d + 3) [.ref D, .int (nI m)] hc (fun r5 h4 => ∃ v6 : Int32, r5 = some (.int v6) ∧ (Ev w (am_Z w) mX3_run (d + 3 + 1) 2 [(0, .ref D), (1, .int (nI unt)), (2, .int (if (nI m + 1) < v6 then v6 else (nI m + 1)))] [] h4 Q)) := by
    intro hc kr F Y hw _
    refine c_soonest (A0.fr F) Y C hm (by rw [F.2 17 (by decide) (by decide)]; exact hlv) hlv2 (fun h' v F' e1 e2 e3 => ⟨_, rfl, ?_⟩)
    have e : (if nI m + 1 < nI v then nI v else nI m + 1) = nI v := by
      rw [nI_1]
      by_cases hh : m + 1 < v
      · rw [if_pos (nI_lt hh (by omega))]
      · rw [if_neg (nI_nlt (by omega) (by omega)), show m + 1 = v by omega]
    rw [e]
    exact q h' kr v (F.tr (F'.y (fun x hx => by omega))) (Y.fr2 F') e1 e2 (fun i h1 h2 => ⟨(e3 i h1 h2).1, (e3 i h1 h2).2.1, (e3 i h1 h2).2.2 hw⟩)
  intro f
  induction f with
  | zero =>
    intro k hk hc kr S F Y hcnt hX
    have A := A0.fr F
    obtain ⟨a1, a2, a3, a4, a5, ⟨r12, r13, r14, z1, z2, z3⟩, ⟨o1, o2, o3, o4⟩, CC, _⟩ := id A
    have hX : S = X := hX
    subst hX
    refine bX3_run_52 ⟨a1, by rw [r13]; exact z2, by rw [r13]; exact CC.1, fun _ => leap hc kr F Y ?_ a1, fun c1 => absurd (by rw [r13, CC.2.2.2.1, show k = n by omega]; exact Int32.le_refl _) c1⟩
    exact rgs_wr (room := room) (trip := trip) hmin hR.2.2.2.2.2.1.1 hsd 0 S hcnt
  | succ f ih =>
    intro k hk hc kr S F Y hcnt hX
    have A := A0.fr F
    obtain ⟨a1, a2, a3, a4, a5, ⟨r12, r13, r14, z1, z2, z3⟩, ⟨o1, o2, o3, o4⟩, CC, _⟩ := id A
    have hL := CC.2.2.1
    refine bX3_run_52 ⟨a1, by rw [r13]; exact z2, by rw [r13]; exact CC.1, fun c1 => absurd c1 (by rw [r13, CC.2.2.2.1, nI_leI (by omega) (by omega)]; omega), fun _ => ?_⟩
    refine c_wouldRingX A Y C (by omega) (fun h7 F7 => ⟨_, rfl, fun c1 => ⟨F7.L a1, ?_⟩, fun c1 => ⟨F7.L a1, ?_⟩⟩)
    · have hw : wr P n lf (nI m) S = false := by
        cases hh : wr P n lf (nI m) S with
        | false => rfl
        | true => rw [hh] at c1; exact absurd c1 (by decide)
      rw [rgs_stop hw] at hX
      subst hX
      exact leap h7 kr (F.tr (F7.y (fun x hx => by omega))) (Y.fr2 F7) hw (F7.L a1)
    · have hw : wr P n lf (nI m) S = true := by
        cases hh : wr P n lf (nI m) S with
        | true => rfl
        | false => rw [hh] at c1; exact absurd rfl c1
      rw [rgs, if_pos hw] at hX
      have F7' : FrY D hc h7 := F7.y (fun x hx => by omega)
      have dec := ring1_dec (trip := trip) hmin hR.2.2.2.2.2.1.1 hsd hw
      refine c_goOver (A.fr F7') (Y.fr2 F7) C hm hw (fun h15 F15 Y15 => ⟨rfl, ?_⟩)
      rw [nI_1]
      exact ih (k + 1) (by omega) h15 (kr + 1) _ ((F.tr F7').tr F15) Y15 (by omega) hX
/-- nothing happens in some minutes -/
theorem dayX_flat {S0 : rS} {lv pl a v : Nat} (hz : ∀ i, a ≤ i → i < v → i ≠ lv ∧ wr P n lf (nI i) (dayX P n room trip lf S0 lv pl a) = false) : ∀ k, a + k ≤ v → dayX P n room trip lf S0 lv pl (a + k) = dayX P n room trip lf S0 lv pl a := by
  intro k
  induction k with
  | zero => intro _; rfl
  | succ k ih =>
    intro hk
    have ih := ih (by omega)
    obtain ⟨h1, h2⟩ := hz (a + k) (by omega) (by omega)
    show dayX P n room trip lf S0 lv pl (a + k + 1) = _
    rw [dayX, if_neg h1, ih, rgs_stop h2]
set_option maxHeartbeats 4000000 in
theorem c_run {unt lv pl : Nat} {S0 : rS} {kr0 : Nat} (A0 : DC D L Lc n ρ c s P l room trip boats lf h) (Y0 : YS D n P l boats h S0 kr0 0) (hlv : hI h D 17 = nI lv) (hlv2 : lv ≤ 1440) (hpl : lv < unt → hI h D 16 = nI pl ∧ pl < n ∧ P.2.2.2.1 pl < nI lv ∧ (dayX P n room trip lf S0 lv pl lv).1 pl = -1) (hu : unt ≤ 1440)
    (q : ∀ h' kr j, FrY D h h' → YS D n P l boats h' (dayX P n room trip lf S0 lv pl unt) kr j → (∀ x ∈ l.take j, P.2.2.2.1 x < nI unt) → Q none h') : EvM w mX3_run (d + 4) [.ref D, .int (nI unt)] h Q := by
  have O : OrdL P.2.2.2.1 n l := A0.2.2.2.2.2.2.2.1.2.2.2.2.2.2.2.1
  have hat := A0.2.2.2.2.2.2.2.2.2.2.2.2
  have loop : ∀ k m, unt ≤ m + k → m ≤ 1440 → ∀ e hc kr j, e ≤ m → e ≤ unt → FrY D h hc → YS D n P l boats hc (dayX P n room trip lf S0 lv pl e) kr j → (∀ i, e ≤ i → i ≤ m → dayX P n room trip lf S0 lv pl i = dayX P n room trip lf S0 lv pl e) → (∀ x ∈ l.take j, P.2.2.2.1 x < nI e) → (∀ x ∈ l.drop j, nI m ≤ P.2.2.2.1 x) →
      Ev w (am_Z w) mX3_run (d + 3 + 1) 2 [(0, .ref D), (1, .int (nI unt)), (2, .int (nI m))] [] hc Q := by
    intro k
    induction k with
    | zero =>
      intro m hm hm2 e hc kr j h1 h2 F Y flat T U
      refine bX3_run_2 ⟨fun _ => q hc kr j F ?_ (fun x hx => Int32.lt_of_lt_of_le (T x hx) (nI_le h2 (by omega))), fun c1 => absurd (nI_le (by omega) (by omega)) c1⟩
      rw [flat unt (by omega) (by omega)]
      exact Y
    | succ k ih =>
      intro m hm hm2 e hc kr j h1 h2 F Y flat T U
      have A := A0.fr F
      obtain ⟨a1, a2, a3, a4, a5, ⟨r12, r13, r14, z1, z2, z3⟩, ⟨o1, o2, o3, o4⟩, CC, _⟩ := id A
      refine bX3_run_2 ⟨fun c1 => ?_, fun c1 => ⟨a1, ?_⟩⟩
      · rw [nI_leI (by omega) (by omega)] at c1
        refine q hc kr j F ?_ (fun x hx => Int32.lt_of_lt_of_le (T x hx) (nI_le h2 (by omega)))
        rw [flat unt (by omega) c1]
        exact Y
      rw [nI_leI (by omega) (by omega)] at c1
      have Xm := flat m h1 (Nat.le_refl _)
      rw [← Xm] at Y
      have x17 : hI hc D 17 = nI lv := by rw [F.2 17 (by decide) (by decide)]; exact hlv
      -- the minute itself
      have go : ∀ h7, FrY D h h7 → YS D n P l boats h7 (if m = lv then homS pl (dayX P n room trip lf S0 lv pl m) else dayX P n room trip lf S0 lv pl m) kr j → am_L 3 D h7 →
          EvM w mX3_come (d + 3) [.ref D, .int (nI m)] h7 (fun r11 h10 => r11 = none ∧ (Ev w (am_Z w) mX3_run (d + 3 + 1) 52 [(0, .ref D), (1, .int (nI unt)), (2, .int (nI m)), (3, .int 0)] [] h10 Q)) := by
        intro h7 F7 Y7 _
        have T' : ∀ x ∈ l.take j, ¬ nI m < P.2.2.2.1 x := by
          intro x hx hn
          have := Int32.lt_of_lt_of_le (T x hx) (nI_le h1 (by omega))
          exact Int32.lt_irrefl (Int32.lt_trans this hn)
        have hjn := Y7.1.2
        refine c_come (j := 0) (d := d + 1) (A0.fr F7) (fun h10 j' F10 Y10 hz C10 => ⟨rfl, ?_⟩) (n - j) j h7 (by omega) (Nat.zero_le _) FrY.rf Y7 T'
        · have F10' := F7.tr F10
          refine c_run52 (lv := lv) (unt := unt) (X := dayX P n room trip lf S0 lv pl (m + 1)) (A0.fr F10') C10 (by omega) (by rw [F10'.2 17 (by decide) (by decide)]; exact hlv) hlv2 (fun h' kr' v F' Y' e1 e2 e3 => ?_) n 0 (by omega) h10 kr _ FrY.rf Y10 (cnt_le _ _) rfl
          have flat' := dayX_flat (P := P) (n := n) (room := room) (trip := trip) (lf := lf) (S0 := S0) (lv := lv) (pl := pl) (a := m + 1) (v := v) (fun i h1 h2 => ⟨(e3 i (by omega) h2).1, (e3 i (by omega) h2).2.2⟩)
          refine ih v (by omega) e2 (m + 1) h' kr' j' (by omega) (by omega) (F10'.tr F') Y' (fun i h1 h2 => ?_) (fun x hx => ?_) (fun x hx => ?_)
          · have := flat' (i - (m + 1)) (by omega)
            rw [show m + 1 + (i - (m + 1)) = i by omega] at this
            exact this
          · exact Int32.lt_of_le_of_lt (Int32.not_lt.mp (C10.1 x hx)) (nI_lt (by omega) (by omega))
          · have hx2 : nI (v - 1) < P.2.2.2.1 x := by
              by_cases ev : v = m + 1
              · rw [ev, Nat.add_sub_cancel]; exact C10.2 x hx
              · exact (e3 (v - 1) (by omega) (by omega)).2.1.2 x hx
            obtain ⟨kx, k1, k2⟩ := hat x (O.mem.mp (List.mem_of_mem_drop hx))
            rw [k2, nI_ltI (by omega) (by omega)] at hx2
            rw [k2]
            exact nI_le (by omega) (by omega)
      refine ⟨fun c2 => ⟨by rw [r13]; exact z2, ?_⟩, fun c2 => ?_⟩
      · rw [x17, nI_eq (by omega) (by omega)] at c2
        subst c2
        obtain ⟨p1, p2, p3, p4⟩ := hpl (by omega)
        refine c_leaves2 (d := d + 1) A Y (by rw [F.2 16 (by decide) (by decide)]; exact p1) p2 p4 ?_ (fun h7 F7 Y7 => ⟨rfl, F7.1.L a1, ?_⟩)
        · have : pl ∈ l := O.mem.mpr p2
          rw [← List.take_append_drop j l] at this
          rcases List.mem_append.mp this with hh | hh
          · exact hh
          · exact absurd (Int32.lt_of_lt_of_le p3 (U pl hh)) Int32.lt_irrefl
        · refine go h7 (F.tr F7) ?_ (F7.1.L a1)
          rw [if_pos rfl]
          exact Y7
      · rw [x17, nI_eq (by omega) (by omega)] at c2
        refine go hc F ?_ a1
        rw [if_neg c2]
        exact Y
  refine bX3_run_0 ?_
  have := loop unt 0 (by omega) (by omega) 0 h kr0 0 (Nat.le_refl _) (Nat.zero_le _) FrY.rf Y0 (fun i h1 h2 => by rw [show i = 0 by omega]) (fun x hx => by rw [List.take_zero] at hx; cases hx) (fun x hx => by
    obtain ⟨kx, k1, k2⟩ := hat x (O.mem.mp (List.mem_of_mem_drop hx))
    rw [k2]
    exact nI_le (Nat.zero_le _) (by omega))
  exact this
end XRUN
