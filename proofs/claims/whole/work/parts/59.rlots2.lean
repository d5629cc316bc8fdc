section RLOTS2
variable {w : am_W} {d : Nat} {h : am_H} {Q : Option Value → am_H → Prop} {m : Nat} {A : rA}
/-- all is alike but for the last draw -/
theorem DyG.j {n kr : Nat} {P : rP} {S : rS} {v : Int64} (D : DyG m h n kr P S) : DyG m (sJ h m 53 v) n kr P S := D
/-- the ringings of a minute, n of a drawn crowd of N come -/
theorem c_lots142 {a n N : Nat} {P : rP} {x2 x3 x4 x5 x6 x7 x8 x9 : Int32} (R : RepM m h A) (hu : P.2.1 = A.2.2.1.2.1) (hsd : ∀ p, p < N → P.2.2.1 p = 0 ∨ P.2.2.1 p = 1) (hn : n ≤ N) (hN : N ≤ 300) (ha : a < 1440) (E : ∀ p, n ≤ p → p < N → nI a < P.2.2.2.1 p) :
    ∀ (f kr : Nat) (S : rS) (hb : am_H), FrZ m h hb → DyG m hb n kr P S → cnt S.1 N ≤ f →
      (∀ h' kr', FrZ m h h' → DyG m h' n kr' P (rgs P N (tRoom A.2.2.1.1) (nI (tTrip A.2.2.1.1)) (vLf (rvOf A.2.2.1)) (nI a) f S) → hJ h' m 53 = hJ hb m 53 → Ev w (am_Z w) mX10_lots (d + 5 + 1) 74 [(0, .ref m), (2, .int x2), (3, .int x3), (4, .int x4), (5, .int x5), (6, .int x6), (7, .int x7), (8, .int x8), (9, .int x9), (10, .int (nI a + 1))] [] h' Q) →
      Ev w (am_Z w) mX10_lots (d + 5 + 1) 142 [(0, .ref m), (2, .int x2), (3, .int x3), (4, .int x4), (5, .int x5), (6, .int x6), (7, .int x7), (8, .int x8), (9, .int x9), (10, .int (nI a))] [] hb Q := by
  have hmin : ¬ nI a = -1 := by
    intro e
    have := nI_pos' (n := a) (by omega)
    rw [e] at this
    exact absurd this (by decide)
  have hr0 : 0 < tRoom A.2.2.1.1 := by have := R.2.2.2.2.2.1.1.1.2.1.1; omega
  intro f
  induction f with
  | zero =>
    intro kr S hb Fb D hc kq
    have Rb := R.fr Fb
    refine bX10_lots_142 ⟨Rb.1.1, c_wouldG (d := d + 2) (r := rvOf A.2.2.1) (a := a) Rb.rv hu (fun p hp => hsd p (by omega)) (by omega) D (fun h2 F2 => ⟨_, rfl, fun c => ?_, fun c => ?_⟩)⟩
    · exact kq h2 kr (Fb.tr F2.D) (D.fe F2) (by rw [F2.2.2.1])
    · exfalso
      have hw : wr P n (vLf (rvOf A.2.2.1)) (nI a) S = true := by
        cases hh : wr P n (vLf (rvOf A.2.2.1)) (nI a) S with
        | true => rfl
        | false => rw [hh] at c; exact absurd rfl c
      rw [← wr_ext hn E] at hw
      have := ring1_dec (trip := nI (tTrip A.2.2.1.1)) hmin hr0 hsd hw
      omega
  | succ f ih =>
    intro kr S hb Fb D hc kq
    have Rb := R.fr Fb
    refine bX10_lots_142 ⟨Rb.1.1, c_wouldG (d := d + 2) (r := rvOf A.2.2.1) (a := a) Rb.rv hu (fun p hp => hsd p (by omega)) (by omega) D (fun h2 F2 => ⟨_, rfl, fun c => ?_, fun c => ⟨(F2.md Rb.1).1, ?_⟩⟩)⟩
    · have hw : wr P n (vLf (rvOf A.2.2.1)) (nI a) S = false := by
        cases hh : wr P n (vLf (rvOf A.2.2.1)) (nI a) S with
        | false => rfl
        | true => rw [hh] at c; exact absurd c (by decide)
      rw [← wr_ext hn E] at hw
      refine kq h2 kr (Fb.tr F2.D) ?_ (by rw [F2.2.2.1])
      rw [rgs, if_neg (by rw [hw]; decide)]
      exact D.fe F2
    · have hw : wr P n (vLf (rvOf A.2.2.1)) (nI a) S = true := by
        cases hh : wr P n (vLf (rvOf A.2.2.1)) (nI a) S with
        | true => rfl
        | false => rw [hh] at c; exact absurd rfl c
      have hw' := hw
      rw [← wr_ext hn E] at hw'
      have dec := ring1_dec (trip := nI (tTrip A.2.2.1.1)) hmin hr0 hsd hw'
      refine c_ringG (d := d + 2) (r := rvOf A.2.2.1) (a := a) (R.fr (Fb.tr F2.D)).rv (fun p hp => hsd p (by omega)) (by omega) ha (D.fe F2) hw (fun h6 F6 D6 => ⟨rfl, ?_⟩)
      have D6 : DyG m h6 n (kr + 1) P (ring1 P n (tRoom A.2.2.1.1) (nI (tTrip A.2.2.1.1)) (nI a) S) := D6
      rw [← ring1_ext hn E] at D6
      refine ih (kr + 1) _ h6 ((Fb.tr F2.D).tr F6) D6 (by omega) (fun h' kr' F' D' J' => kq h' kr' F' ?_ ?_)
      · rw [rgs, if_pos hw']
        exact D'
      · rw [J', F6.2.2.1, F2.2.2.1]
set_option maxHeartbeats 4000000 in
/-- the minutes of a drawn day -/
theorem c_lots74 {K g0 : Nat} {C : crT} {x2 x3 x4 x5 x6 x7 x8 x9 : Int32} (R : RepM m h A) (hK : K = 1440) (hg : g0 < 2147483648) (hC : C = crw (tCome A.2.2.1.1) (tShare A.2.2.1.1) (tOf A.2.2.1.1) g0 K)
    (q : ∀ h' kr, FrZ m h h' → DyG m h' C.2.1 kr (lotP A.2.2.1.2.1 C) (ltS K A.2.2.1 C) → hJ h' m 53 = lN C.1 → Ev w (am_Z w) mX10_lots (d + 5 + 1) 187 [(0, .ref m), (2, .int x2), (3, .int x3), (4, .int (x4 + (ltS K A.2.2.1 C).2.2.1)), (5, .int (x5 + nI C.2.1)), (6, .int x6), (7, .int x7), (8, .int x8), (9, .int x9), (10, .int 0)] [] h' Q) :
    ∀ i k, k + i = K → ∀ hc kr, FrZ m h hc → DyG m hc (crw (tCome A.2.2.1.1) (tShare A.2.2.1.1) (tOf A.2.2.1.1) g0 k).2.1 kr (lotP A.2.2.1.2.1 C) (ltS k A.2.2.1 C) → hJ hc m 53 = lN (crw (tCome A.2.2.1.1) (tShare A.2.2.1.1) (tOf A.2.2.1.1) g0 k).1 → (∀ p, (crw (tCome A.2.2.1.1) (tShare A.2.2.1.1) (tOf A.2.2.1.1) g0 k).2.1 ≤ p → p < C.2.1 → (ltS k A.2.2.1 C).1 p = -1 ∧ (ltS k A.2.2.1 C).2.1 p = -1) →
      Ev w (am_Z w) mX10_lots (d + 5 + 1) 74 [(0, .ref m), (2, .int x2), (3, .int x3), (4, .int x4), (5, .int x5), (6, .int x6), (7, .int x7), (8, .int x8), (9, .int x9), (10, .int (nI k))] [] hc Q := by
  have V := R.2.2.2.2.2.1.1.1
  have vS := V.2.2.2.2.1
  have vC := V.2.2.2.2.2.1
  have N300 : C.2.1 ≤ 300 := by rw [hC]; exact (crw_300 _ _ _ _ _).1
  have hsdC : ∀ p, p < C.2.1 → C.2.2.1 p = 0 ∨ C.2.2.1 p = 1 := fun p hp => by
    rw [hC] at hp ⊢
    exact (crw_at _ _ _ _ _ p hp).2
  intro i
  induction i with
  | zero =>
    intro k hk hc kr Fc D J U
    have hk : k = K := by omega
    subst hk
    rw [← hC] at D J
    have Rc := R.fr Fc
    refine bX10_lots_74 ⟨fun _ => ⟨Rc.1.1, ?_⟩, fun c => absurd (by rw [hK]; decide) c⟩
    have q := q hc kr Fc D J
    rw [show hI hc m 44 = (ltS k A.2.2.1 C).2.2.1 from D.2.2.2.2.2.1.trans D.2.2.2.2.2.2.1.symm, D.1]
    exact q
  | succ i ih =>
    intro k hk hc kr Fc D J U
    have Rc := R.fr Fc
    obtain ⟨_, ⟨a0, a1, a2, a3, a4, a5, a6, a7, a8, a9⟩, _⟩ := id Rc.2.2.2.2.2.1
    simp only [Nat.mul_zero, Nat.zero_add] at a3 a4 a5
    have ih := ih (k + 1) (by omega)
    have n3 := crw_300 (tCome A.2.2.1.1) (tShare A.2.2.1.1) (tOf A.2.2.1.1) g0 k
    have g3 := crw_g (tCome A.2.2.1.1) (tShare A.2.2.1.1) (tOf A.2.2.1.1) g0 hg k
    have late : ∀ p, (crw (tCome A.2.2.1.1) (tShare A.2.2.1.1) (tOf A.2.2.1.1) g0 (k + 1)).2.1 ≤ p → p < C.2.1 → nI k < C.2.2.2 p := by
      intro p h1 h2
      rw [hC, show K = k + 1 + i by omega] at h2 ⊢
      obtain ⟨j, j1, j2, j3⟩ := crw_late _ _ _ _ (k + 1) i p h1 h2
      rw [j3, nI_ltI (by omega) (by omega)]
      omega
    have nle : (crw (tCome A.2.2.1.1) (tShare A.2.2.1.1) (tOf A.2.2.1.1) g0 (k + 1)).2.1 ≤ C.2.1 := by
      cases hz : (crw (tCome A.2.2.1.1) (tShare A.2.2.1.1) (tOf A.2.2.1.1) g0 (k + 1)).2.1 with
      | zero => exact Nat.zero_le _
      | succ z =>
        have := (crw_keep' (tCome A.2.2.1.1) (tShare A.2.2.1.1) (tOf A.2.2.1.1) g0 (k + 1) (p := z) (by omega) i).1
        rw [hC, show K = k + 1 + i by omega]
        omega
    -- behind the one who joins
    have after : ∀ hb kr', FrZ m h hb → DyG m hb (crw (tCome A.2.2.1.1) (tShare A.2.2.1.1) (tOf A.2.2.1.1) g0 (k + 1)).2.1 kr' (lotP A.2.2.1.2.1 C) (ltS k A.2.2.1 C) → hJ hb m 53 = lN (crw (tCome A.2.2.1.1) (tShare A.2.2.1.1) (tOf A.2.2.1.1) g0 (k + 1)).1 →
        Ev w (am_Z w) mX10_lots (d + 5 + 1) 142 [(0, .ref m), (2, .int x2), (3, .int x3), (4, .int x4), (5, .int x5), (6, .int x6), (7, .int x7), (8, .int x8), (9, .int x9), (10, .int (nI k))] [] hb Q := by
      intro hb kr' Fb Db Jb
      refine c_lots142 (N := C.2.1) R rfl hsdC nle N300 (by omega) late C.2.1 kr' _ hb Fb Db (cnt_le _ _) (fun h' kr2 F' D' J' => ?_)
      rw [nI_1]
      have eS : ltS (k + 1) A.2.2.1 C = rgs (lotP A.2.2.1.2.1 C) C.2.1 (tRoom A.2.2.1.1) (nI (tTrip A.2.2.1.1)) (vLf (rvOf A.2.2.1)) (nI k) C.2.1 (ltS k A.2.2.1 C) := goS_snoc k _
      refine ih h' kr2 F' (by rw [eS]; exact D') (J'.trans Jb) (fun p h1 h2 => ?_)
      rw [eS]
      obtain ⟨f1, f2⟩ := rgs_far (P := lotP A.2.2.1.2.1 C) (n := C.2.1) (room := tRoom A.2.2.1.1) (trip := nI (tTrip A.2.2.1.1)) (lf := vLf (rvOf A.2.2.1)) (late p h1 h2) C.2.1 (ltS k A.2.2.1 C)
      have := crw_n (tCome A.2.2.1.1) (tShare A.2.2.1.1) (tOf A.2.2.1.1) g0 k
      rw [f1, f2]
      exact U p (by omega) h2
    refine bX10_lots_74 ⟨fun c => absurd c (by rw [show (1440 : Int32) = nI 1440 by decide, nI_leI (by decide) (by omega)]; omega), fun _ => ⟨Rc.1.1, fun c => ?_, fun c => ?_⟩⟩
    · rw [D.1, show (300 : Int32) = nI 300 by decide, nI_leI (by decide) (by omega)] at c
      have e : crw (tCome A.2.2.1.1) (tShare A.2.2.1.1) (tOf A.2.2.1.1) g0 (k + 1) = crw (tCome A.2.2.1.1) (tShare A.2.2.1.1) (tOf A.2.2.1.1) g0 k := by
        rw [crw, if_neg (by omega)]
      exact after hc kr Fc (by rw [e]; exact D) (by rw [e]; exact J)
    · rw [D.1, show (300 : Int32) = nI 300 by decide, nI_leI (by decide) (by omega)] at c
      rw [show (1000 : Int32) = nI 1000 by decide]
      refine c_draws Rc.1 J g3 (by decide) (by decide) ⟨_, rfl, Rc.1.1, Rc.1.in 1 rfl (k := 5) (by decide) (by decide) (by decide), fun c2 => ?_, fun c2 => ⟨Rc.1.in 1 rfl (k := 4) (by decide) (by decide) (by decide), ?_⟩⟩
      · have r5 : hI (sJ hc m 53 (lN (drN (crw (tCome A.2.2.1.1) (tShare A.2.2.1.1) (tOf A.2.2.1.1) g0 k).1))) (m + 2) 5 = nI (tCome A.2.2.1.1) := a5
        have lt := Nat.mod_lt (drN (crw (tCome A.2.2.1.1) (tShare A.2.2.1.1) (tOf A.2.2.1.1) g0 k).1 / 65536) (show 0 < 1000 by decide)
        rw [cl5, r5, nI_leI (by omega) (by omega)] at c2
        have e : crw (tCome A.2.2.1.1) (tShare A.2.2.1.1) (tOf A.2.2.1.1) g0 (k + 1) = (drN (crw (tCome A.2.2.1.1) (tShare A.2.2.1.1) (tOf A.2.2.1.1) g0 k).1, (crw (tCome A.2.2.1.1) (tShare A.2.2.1.1) (tOf A.2.2.1.1) g0 k).2) := by
          rw [crw, if_pos (by omega), if_neg (by omega)]
        refine after _ kr Fc.j (by rw [e]; exact D.j) ?_
        rw [e]
        show va_up (hJ hc) m _ m 53 = _
        rw [va_up_self, va_up_self]
      · have r5 : hI (sJ hc m 53 (lN (drN (crw (tCome A.2.2.1.1) (tShare A.2.2.1.1) (tOf A.2.2.1.1) g0 k).1))) (m + 2) 5 = nI (tCome A.2.2.1.1) := a5
        have r4 : hI (sJ hc m 53 (lN (drN (crw (tCome A.2.2.1.1) (tShare A.2.2.1.1) (tOf A.2.2.1.1) g0 k).1))) (m + 2) 4 = nI (tOf A.2.2.1.1) := a4
        have lt := Nat.mod_lt (drN (crw (tCome A.2.2.1.1) (tShare A.2.2.1.1) (tOf A.2.2.1.1) g0 k).1 / 65536) (show 0 < 1000 by decide)
        rw [cl5, r5, nI_leI (by omega) (by omega)] at c2
        rw [cl4, r4]
        have F3 : FrZ m h (sJ hc m 53 (lN (drN (crw (tCome A.2.2.1.1) (tShare A.2.2.1.1) (tOf A.2.2.1.1) g0 k).1))) := Fc.j
        refine c_draws (F3.md R.1) (show hJ (sJ hc m 53 (lN (drN (crw (tCome A.2.2.1.1) (tShare A.2.2.1.1) (tOf A.2.2.1.1) g0 k).1))) m 53 = lN (drN (crw (tCome A.2.2.1.1) (tShare A.2.2.1.1) (tOf A.2.2.1.1) g0 k).1) by show va_up (hJ hc) m _ m 53 = _; rw [va_up_self, va_up_self]) (drN_lt _) (by omega) (by omega) ⟨_, rfl, ?_⟩
        generalize ehx : sJ (sJ hc m 53 (lN (drN (crw (tCome A.2.2.1.1) (tShare A.2.2.1.1) (tOf A.2.2.1.1) g0 k).1))) m 53 (lN (drN (drN (crw (tCome A.2.2.1.1) (tShare A.2.2.1.1) (tOf A.2.2.1.1) g0 k).1))) = hx
        have Fx : FrZ m h hx := by rw [← ehx]; exact F3.j
        have Dx : DyG m hx (crw (tCome A.2.2.1.1) (tShare A.2.2.1.1) (tOf A.2.2.1.1) g0 k).2.1 kr (lotP A.2.2.1.2.1 C) (ltS k A.2.2.1 C) := by rw [← ehx]; exact D
        have Jx : hJ hx m 53 = lN (drN (drN (crw (tCome A.2.2.1.1) (tShare A.2.2.1.1) (tOf A.2.2.1.1) g0 k).1)) := by
          rw [← ehx]
          show va_up (va_up (hJ hc) m _) m _ m 53 = _
          rw [va_up_self, va_up_self]
        have Rx := R.fr Fx
        have rx3 : hI hx (m + 2) 3 = nI (tShare A.2.2.1.1) := by rw [← ehx]; exact a3
        have lt2 := Nat.mod_lt (drN (drN (crw (tCome A.2.2.1.1) (tShare A.2.2.1.1) (tOf A.2.2.1.1) g0 k).1) / 65536) (show 0 < tOf A.2.2.1.1 by omega)
        have e : crw (tCome A.2.2.1.1) (tShare A.2.2.1.1) (tOf A.2.2.1.1) g0 (k + 1) = (drN (drN (crw (tCome A.2.2.1.1) (tShare A.2.2.1.1) (tOf A.2.2.1.1) g0 k).1), (crw (tCome A.2.2.1.1) (tShare A.2.2.1.1) (tOf A.2.2.1.1) g0 k).2.1 + 1, va_up (crw (tCome A.2.2.1.1) (tShare A.2.2.1.1) (tOf A.2.2.1.1) g0 k).2.2.1 (crw (tCome A.2.2.1.1) (tShare A.2.2.1.1) (tOf A.2.2.1.1) g0 k).2.1 (if drN (drN (crw (tCome A.2.2.1.1) (tShare A.2.2.1.1) (tOf A.2.2.1.1) g0 k).1) / 65536 % tOf A.2.2.1.1 < tShare A.2.2.1.1 then 0 else 1), va_up (crw (tCome A.2.2.1.1) (tShare A.2.2.1.1) (tOf A.2.2.1.1) g0 k).2.2.2 (crw (tCome A.2.2.1.1) (tShare A.2.2.1.1) (tOf A.2.2.1.1) g0 k).2.1 (nI k)) := by
          rw [crw, if_pos (by omega), if_pos (by omega)]
        have join : ∀ sd : Int32, sd = (if drN (drN (crw (tCome A.2.2.1.1) (tShare A.2.2.1.1) (tOf A.2.2.1.1) g0 k).1) / 65536 % tOf A.2.2.1.1 < tShare A.2.2.1.1 then 0 else 1) → EvM w mX10_joins (d + 5) [.ref m, .int sd, .int (nI k), .int 70, .int 0, .int 2] hx (fun r17 h16 => r17 = none ∧ Ev w (am_Z w) mX10_lots (d + 5 + 1) 142 [(0, .ref m), (2, .int x2), (3, .int x3), (4, .int x4), (5, .int x5), (6, .int x6), (7, .int x7), (8, .int x8), (9, .int x9), (10, .int (nI k))] [] h16 Q) := by
          intro sd hs
          refine c_joins (n := (crw (tCome A.2.2.1.1) (tShare A.2.2.1.1) (tOf A.2.2.1.1) g0 k).2.1) Rx.1 Dx.1 (by omega) (fun h6 F6 P6 S6 => ⟨rfl, ?_⟩)
          have P6' := P6
          simp only [perS, Prod.mk.injEq] at P6'
          have S6' := S6
          simp only [getS, Prod.mk.injEq] at S6'
          have ne : (crw (tCome A.2.2.1.1) (tShare A.2.2.1.1) (tOf A.2.2.1.1) g0 (k + 1)).2.1 = (crw (tCome A.2.2.1.1) (tShare A.2.2.1.1) (tOf A.2.2.1.1) g0 k).2.1 + 1 := by rw [e]
          have kp := crw_keep' (tCome A.2.2.1.1) (tShare A.2.2.1.1) (tOf A.2.2.1.1) g0 (k + 1) (p := (crw (tCome A.2.2.1.1) (tShare A.2.2.1.1) (tOf A.2.2.1.1) g0 k).2.1) (by omega) i
          rw [show k + 1 + i = K by omega, ← hC] at kp
          obtain ⟨kp1, kp2, kp3⟩ := kp
          rw [e] at kp2 kp3
          have kp2 : C.2.2.1 (crw (tCome A.2.2.1.1) (tShare A.2.2.1.1) (tOf A.2.2.1.1) g0 k).2.1 = va_up _ _ _ _ := kp2
          have kp3 : C.2.2.2 (crw (tCome A.2.2.1.1) (tShare A.2.2.1.1) (tOf A.2.2.1.1) g0 k).2.1 = va_up _ _ _ _ := kp3
          rw [va_up_self] at kp2 kp3
          have UU := U _ (Nat.le_refl _) kp1
          obtain ⟨q1, q2, q3, q4, q5⟩ := Dx.2.1
          obtain ⟨t1, t2, t3, t4, t5⟩ := Dx.2.2.2
          refine after h6 kr (Fx.tr F6) ⟨by rw [ne]; exact P6'.1, ?_, ?_, ?_⟩ ?_
          · rw [ne, P6]
            exact ⟨q1, eqR.sv q2 (kp2.trans hs.symm), eqR.sv q3 kp3, eqR.sv q4 rfl, eqR.sv q5 rfl⟩
          · rw [ne, S6'.1]
            have a1 := cnt_s (va_up (hI hx (m + 30)) (crw (tCome A.2.2.1.1) (tShare A.2.2.1.1) (tOf A.2.2.1.1) g0 k).2.1 (-1)) (n := (crw (tCome A.2.2.1.1) (tShare A.2.2.1.1) (tOf A.2.2.1.1) g0 k).2.1)
            have a2 : cnt (va_up (hI hx (m + 30)) (crw (tCome A.2.2.1.1) (tShare A.2.2.1.1) (tOf A.2.2.1.1) g0 k).2.1 (-1)) (crw (tCome A.2.2.1.1) (tShare A.2.2.1.1) (tOf A.2.2.1.1) g0 k).2.1 = cnt (hI hx (m + 30)) (crw (tCome A.2.2.1.1) (tShare A.2.2.1.1) (tOf A.2.2.1.1) g0 k).2.1 := cnt_eqR (fun p hp => va_up_ne _ _ (by omega))
            have a3 := Dx.2.2.1
            omega
          · rw [ne, S6]
            exact ⟨eqR.sv t1 UU.1, eqR.sv t2 UU.2, t3, t4, t5⟩
          · rw [F6.2.2.1, Jx, e]
        refine ⟨Rx.1.1, Rx.1.in 1 rfl (k := 3) (by decide) (by decide) (by decide), fun c4 => join 1 ?_, fun c4 => join 0 ?_⟩
        · rw [cl3, rx3, nI_leI (by omega) (by omega)] at c4
          rw [if_neg (by omega)]
        · rw [cl3, rx3, nI_leI (by omega) (by omega)] at c4
          rw [if_pos (by omega)]
end RLOTS2
