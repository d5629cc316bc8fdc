/-! The reference's best and judged. -/
theorem FrM.rf {m : Nat} {h : am_H} : FrM m h h := ⟨rfl, rfl, rfl, rfl, rfl, fun _ _ => ⟨rfl, rfl⟩⟩
theorem FrM.tr {m : Nat} {h h1 h2 : am_H} (a : FrM m h h1) (b : FrM m h1 h2) : FrM m h h2 := by
  obtain ⟨a1, a2, a3, a4, a5, a6⟩ := a
  obtain ⟨b1, b2, b3, b4, b5, b6⟩ := b
  exact ⟨b1.trans a1, b2.trans a2, b3.trans a3, b4.trans a4, b5.trans a5, fun x hx => ⟨(b6 x hx).1.trans (a6 x hx).1, (b6 x hx).2.trans (a6 x hx).2⟩⟩
def useH (H : rH) (u : Int32) : rH := (H.1, u, H.2.2)
theorem RepM.use8 {m : Nat} {h : am_H} {A : rA} (R : RepM m h A) {u : Int32} (V' : VH (useH A.2.2.1 u)) : RepM m (sI h (m + 2) 8 u) (setH A (useH A.2.2.1 u)) := by
  have F9 : Fr0 m h (sI h (m + 2) 8 u) := Fr0.rf.r2 (by decide)
  obtain ⟨V, ⟨a0, a1, a2, a3, a4, a5, a6, a7, a8, a9⟩, ⟨b1, b2, b3, b4, b5⟩, c, L⟩ := R.2.2.2.2.2.1
  have g2 : hI (sI h (m + 2) 8 u) (m + 2) = va_up (hI h (m + 2)) 8 u := by rw [sI_r, hI_rs]
  have go : ∀ a, a ≠ m + 2 → hI (sI h (m + 2) 8 u) a = hI h a := fun a ha => by rw [sI_r, hI_rn _ _ ha]
  refine R.set F9 ⟨V', ⟨?_, ?_, ?_, ?_, ?_, ?_, ?_, ?_, ?_, ?_⟩, ⟨?_, ?_, ?_, ?_, ?_⟩, ?_, ?_⟩
  · rw [g2, va_up_ne _ _ (by decide)]; exact a0
  · rw [g2, va_up_ne _ _ (by decide)]; exact a1
  · rw [g2, va_up_ne _ _ (by decide)]; exact a2
  · rw [g2, va_up_ne _ _ (by decide)]; exact a3
  · rw [g2, va_up_ne _ _ (by decide)]; exact a4
  · rw [g2, va_up_ne _ _ (by decide)]; exact a5
  · rw [g2, va_up_ne _ _ (by decide)]; exact a6
  · rw [g2, va_up_ne _ _ (by decide)]; exact a7
  · rw [g2]; exact va_up_self _ _ _
  · rw [g2, va_up_ne _ _ (by decide)]; exact a9
  · rw [go _ (by omega)]; exact b1
  · rw [go _ (by omega)]; exact b2
  · rw [go _ (by omega)]; exact b3
  · rw [go _ (by omega)]; exact b4
  · rw [go _ (by omega)]; exact b5
  · rw [go _ (by omega)]; exact c
  · intro l hl
    obtain ⟨x, y, l1, l2, l3⟩ := L l hl
    exact ⟨x, y, by rw [go _ (by omega)]; exact l1, by rw [go _ (by omega)]; exact l2, by rw [go _ (by omega)]; exact l3⟩
def lcost (H : rH) (l : Nat) : Int32 := cstS (tCo H.1) (dayK (rvOf (useH H (nI l))) (-1) 1440).1 (tAt H.1) (-1) (tN H.1)
def bstA (H : rH) : Nat → Int32 × Int32
  | 0 => (-1, 0)
  | l + 1 => if (bstA H l).1 < 0 ∨ lcost H l < (bstA H l).2 then (nI l, lcost H l) else bstA H l
theorem VH.usel {H : rH} (V : VH H) {l : Nat} (hl : l < tLaws H.1) : VH (useH H (nI l)) := by
  obtain ⟨v1, v2, v3, v4⟩ := V
  exact ⟨v1, ⟨l + 1, hl, by show nI l = nI (l + 1) - 1; rw [nI_pred]⟩, v3, v4⟩
/-- the told ringings judged, minute by minute -/
def jdL (r : rV) (tells : Nat) (tl : Nat → Int32) (what : Int32) : Nat → Nat → Nat → rS → Int32
  | 0, _, _, _ => -1
  | k + 1, mn, nx, S => if (decide (nx < tells) && decide (tl nx = nI mn)) = wr (canP r (-1)) (vN r) (vLf r) (nI mn) S then (if decide (nx < tells) && decide (tl nx = nI mn) then jdL r tells tl what k (mn + 1) (nx + 1) (ring1 (canP r (-1)) (vN r) (vRoom r) (vTrip r) (nI mn) S) else jdL r tells tl what k (mn + 1) nx S) else if what = 0 then nI mn else if decide (nx < tells) && decide (tl nx = nI mn) then 1 else 2
def aJudged (H : rH) (what : Int32) : Int32 := if 0 ≤ what ∧ what ≤ 1 then jdL (rvOf H) H.2.2.1 H.2.2.2 what 1440 0 0 (canS (rvOf H)) else -1
section RJUDGE
variable {w : am_W} {d : Nat} {h : am_H} {Q : Option Value → am_H → Prop} {m : Nat} {A : rA}
theorem c_best (R : RepM m h A) (q : ∀ h', FrM m h h' → RepM m h' A → Q (some (.int (bstA A.2.2.1 (tLaws A.2.2.1.1)).1)) h') : EvM w mX10_best (d + 6) [.ref m] h Q := by
  refine bX10_best_0 ⟨R.1.1, fun h2 e2 => ?_⟩
  have F2 : FrZ m h h2 := by rw [e2]; exact FrZ.rf.fld
  have R2 := R.fr F2
  obtain ⟨V, ⟨a0, a1, a2, a3, a4, a5, a6, a7, a8, a9⟩, _⟩ := id R2.2.2.2.2.2.1
  simp only [Nat.mul_zero, Nat.zero_add] at a8
  have hL : tLaws A.2.2.1.1 ≤ 4 := V.1.2.2.2.2.2.2.1
  refine ⟨R2.1.in 1 rfl (k := 8) (by decide) (by decide) (by decide), ?_⟩
  rw [cl8, a8]
  have loop : ∀ k l : Nat, l + k = tLaws A.2.2.1.1 → ∀ hc u, FrM m h hc → RepM m hc (setH A (useH A.2.2.1 u)) → Ev w (am_Z w) mX10_best (d + 5 + 1) 20 [(0, .ref m), (1, .int A.2.2.1.2.1), (2, .int (bstA A.2.2.1 l).1), (3, .int (bstA A.2.2.1 l).2), (4, .int (nI l))] [] hc Q := by
    intro k
    induction k with
    | zero =>
      intro l hl hc u Fc Rc
      have hl : l = tLaws A.2.2.1.1 := by omega
      subst hl
      have a6 : hI hc (m + 2) 6 = nI (tLaws A.2.2.1.1) := Rc.2.2.2.2.2.1.2.1.2.2.2.2.2.2.1
      refine bX10_best_20 ⟨Rc.1.1, Rc.1.in 1 rfl (k := 6) (by decide) (by decide) (by decide), fun _ => ⟨Rc.1.in 1 rfl (k := 8) (by decide) (by decide) (by decide), fun h4 e4 => ?_⟩, fun c => absurd (by rw [cl6, a6]; exact Int32.le_refl _) c⟩
      rw [cl8] at e4
      subst e4
      exact q _ (Fc.tr (Fr0.rf.r2 (by decide)).M) (Rc.use8 (u := A.2.2.1.2.1) V)
    | succ k ih =>
      intro l hl hc u Fc Rc
      have a6 : hI hc (m + 2) 6 = nI (tLaws A.2.2.1.1) := Rc.2.2.2.2.2.1.2.1.2.2.2.2.2.2.1
      refine bX10_best_20 ⟨Rc.1.1, Rc.1.in 1 rfl (k := 6) (by decide) (by decide) (by decide), fun c => absurd c (by rw [cl6, a6, nI_leI (by omega) (by omega)]; omega), fun _ => ⟨Rc.1.in 1 rfl (k := 8) (by decide) (by decide) (by decide), fun h6 e6 => ?_⟩⟩
      rw [cl8] at e6
      subst e6
      have R6 : RepM m (sI hc (m + 2) 8 (nI l)) (setH A (useH A.2.2.1 (nI l))) := Rc.use8 (V.usel (show l < tLaws A.2.2.1.1 by omega))
      have F6 := Fc.tr ((Fr0.rf (m := m) (h := hc)).r2 (v := nI l) (k := 8) (by decide)).M
      refine c_dayC (r := rvOf (useH A.2.2.1 (nI l))) R6.rv (fun h7 k7 F7 D => ⟨rfl, (F7.md R6.1).1, ?_⟩)
      obtain ⟨d1, d2, d3, d4, d5, s1, s2, s3⟩ := D
      have s1 : eqR (tN A.2.2.1.1) (hI h7 (m + 30)) (dayK (rvOf (useH A.2.2.1 (nI l))) (-1) 1440).1 := s1
      have a1 : eqR (tN A.2.2.1.1) (hI h7 (m + 26)) (tAt A.2.2.1.1) := d2.2.2.1
      have d3 : eqR (tN A.2.2.1.1) (hI h7 (m + 28)) (tCo A.2.2.1.1) := d3
      have hN : tN A.2.2.1.1 ≤ 16 := V.1.1
      refine c_costAll (n := tN A.2.2.1.1) (F7.md R6.1) d1 (by omega) ⟨_, rfl, ?_⟩
      rw [cst_eq (tN A.2.2.1.1) (Nat.le_refl _) d3 s1 a1]
      have ih := fun x => ih (l + 1) (by omega) h7 (nI l) (F6.tr F7.z.M) x
      rw [bstA] at ih
      rw [nI_1]
      have ih := ih (R6.fr F7.z)
      refine ⟨fun c => ?_, fun c => ⟨fun c2 => ?_, fun c2 => ?_⟩⟩
      · rw [if_pos (Or.inl c)] at ih
        exact ih
      · rw [if_pos (Or.inr (show lcost A.2.2.1 l < _ from c2))] at ih
        exact ih
      · rw [if_neg (fun o => o.elim c (fun x => c2 x))] at ih
        exact ih
  exact loop (tLaws A.2.2.1.1) 0 (by omega) h2 A.2.2.1.2.1 F2.M R2
theorem DyC.fe {r : rV} {x : Int32} {n k : Nat} {S : rS} {h' : am_H} (D : DyC m h r x n k S) (F : FrE m h h') : DyC m h' r x n k S := by
  obtain ⟨d1, d2, d3, d4, d5, d6⟩ := D
  have e : ∀ o, o < 15 ∨ 24 < o → hI h' (m + o) = hI h (m + o) := fun o ho => F.2.2.2.2.2.2 _ (by omega)
  have e0 : hI h' m = hI h m := F.2.2.2.2.2.2 _ (by omega)
  exact ⟨by rw [e0]; exact d1, by rw [F.per]; exact d2, by rw [e 28 (Or.inr (by decide))]; exact d3, d4, by rw [e 30 (Or.inr (by decide))]; exact d5, by rw [F.get]; exact d6⟩
/-- it would ring, over a day's people as told -/
theorem c_wouldC {r : rV} {x : Int32} {a kr : Nat} {S : rS} (R : RvC w (d + 2) m h r) (D : DyC m h r x (vN r) kr S)
    (q : ∀ h', FrE m h h' → Q (some (.int (if wr (canP r x) (vN r) (vLf r) (nI a) S then 1 else 0))) h') : EvM w mX10_wouldRing (d + 3) [.ref m, .int (nI a)] h Q := by
  obtain ⟨⟨M, hN', hN2, hsd, hC, L, hr, hr0, hr2, ht⟩, r2, r3, r4, r5, r6, r7, r8⟩ := id R
  obtain ⟨d1, d2, d3, d4, d5, d6⟩ := D
  have hsd2 : ∀ p, p < vN r → hI h (m + 25) p = 0 ∨ hI h (m + 25) p = 1 := by
    intro p hp
    have e : hI h (m + 25) p = sdf (vKd r) (vSd r) x p := d2.2.1 p hp
    rw [e]
    refine sdf_01 ?_
    rw [← r4 p hp]
    exact hsd p hp
  have hlaw : hI h m 50 = hI h (m + 2) 8 := d2.1.trans r2.symm
  refine c_wouldRing (lf := vLf r) M d1 (by omega) hsd2 ((L.D hlaw).ok FrD.rf rfl) (fun h2 F2 => ?_)
  rw [wrV_eq hC hsd2, wr_eq d2 d6]
  exact q h2 F2
/-- a ringing, over a day's people as told -/
theorem c_ringC {r : rV} {x : Int32} {a kr : Nat} {S : rS} (R : RvC w (d + 2) m h r) (D : DyC m h r x (vN r) kr S) (ha : a < 1440) (hw : wr (canP r x) (vN r) (vLf r) (nI a) S = true)
    (q : ∀ h', FrD m h h' → DyC m h' r x (vN r) (kr + 1) (ring1 (canP r x) (vN r) (vRoom r) (vTrip r) (nI a) S) → Q none h') : EvM w mX10_ringsOnce (d + 3) [.ref m, .int (nI a)] h Q := by
  obtain ⟨⟨M, hN', hN2, hsd, hC, L, hr, hr0, hr2, ht⟩, r2, r3, r4, r5, r6, r7, r8⟩ := id R
  obtain ⟨d1, d2, d3, d4, d5, d6⟩ := D
  have hsd2 : ∀ p, p < vN r → (perS h m).2.2.1 p = 0 ∨ (perS h m).2.2.1 p = 1 := by
    intro p hp
    have e : hI h (m + 25) p = sdf (vKd r) (vSd r) x p := d2.2.1 p hp
    show hI h (m + 25) p = 0 ∨ hI h (m + 25) p = 1
    rw [e]
    refine sdf_01 ?_
    rw [← r4 p hp]
    exact hsd p hp
  have hmin : ¬ nI a = -1 := by
    intro e
    have := nI_pos' (n := a) (by omega)
    rw [e] at this
    exact absurd this (by decide)
  have hw' : wrV (perS h m) (getS h m) (vN r) (vLf r) (nI a) (fun _ => 0) = true := by
    have : wr (perS h m) (vN r) (vLf r) (nI a) (getS h m) = true := by rw [wr_eq d2 d6]; exact hw
    exact this
  have dec := ring1_dec (trip := vTrip r) hmin hr0 hsd2 hw'
  have dec : cnt (ring1 (perS h m) (vN r) (vRoom r) (vTrip r) (nI a) (getS h m)).1 (vN r) < cnt (hI h (m + 30)) (vN r) := dec
  refine c_ringsOnce (n := vN r) (room := vRoom r) (trip := vTrip r) (k := kr) M d1 (by omega) hr hr2 ht d6.2.2.1 (by omega) (fun h6 F6 P6 G6 => q h6 F6 ?_)
  have P6' := P6
  simp only [perS, Prod.mk.injEq] at P6'
  refine ⟨by rw [P6'.1]; exact d1, by rw [P6]; exact d2, by rw [P6'.2.2.2.2.2.1]; exact d3, by omega, ?_, ?_⟩
  · have c6 : cnt (hI h6 (m + 30)) (vN r) = cnt (ring1 (perS h m) (vN r) (vRoom r) (vTrip r) (nI a) (getS h m)).1 (vN r) := by rw [← G6]; rfl
    omega
  · rw [G6]
    exact ring1_eq (by omega) d2 d6
theorem c_judged {what : Int32} (R : RepM m h A) (q : ∀ h', FrZ m h h' → Q (some (.int (aJudged A.2.2.1 what))) h') : EvM w mX10_judged (d + 6) [.ref m, .int what] h Q := by
  refine bX10_judged_0 ⟨R.1.1, fun h2 e2 => ?_⟩
  have F2 : FrZ m h h2 := by rw [e2]; exact FrZ.rf.fld
  have R2 := R.fr F2
  have V := R.2.2.2.2.2.1.1
  have hT : A.2.2.1.2.2.1 ≤ 30 := V.2.2.1
  have hN : tN A.2.2.1.1 ≤ 16 := V.1.1
  unfold aJudged at q
  generalize hr : rvOf A.2.2.1 = r at q
  have hRv : ∀ hc, RepM m hc A → RvC w (d + 2 + 2) m hc r := fun hc x => by rw [← hr]; exact x.rv
  have Rv2 := hRv h2 R2
  refine c_within ⟨_, rfl, fun c => ?_, fun c => ⟨R2.1.1, c_tellsAll R2.1 Rv2.1.2.1 Rv2.1.2.2.1 (fun h3 F3 P3 S3 => ⟨rfl, ?_⟩)⟩⟩
  · rw [if_neg (b01_z c)] at q; exact q h2 F2
  · rw [if_pos (b01_n c)] at q
    have D3 := Rv2.tld F3 P3 S3
    have loop : ∀ k mn : Nat, mn + k = 1440 → ∀ (nx kr : Nat) (S : rS) (hc : am_H), nx ≤ A.2.2.1.2.2.1 → FrZ m h hc → DyC m hc r (-1) (vN r) kr S → (∀ h', FrZ m h h' → Q (some (.int (jdL r A.2.2.1.2.2.1 A.2.2.1.2.2.2 what k mn nx S))) h') → Ev w (am_Z w) mX10_judged (d + 5 + 1) 25 [(0, .ref m), (1, .int what), (2, .int (nI nx)), (3, .int (nI mn))] [] hc Q := by
      intro k
      induction k with
      | zero =>
        intro mn hmn nx kr S hc hnx Fc D q
        have hmn : mn = 1440 := by omega
        subst hmn
        exact bX10_judged_25 ⟨fun _ => q hc Fc, fun c => absurd (by decide) c⟩
      | succ k ih =>
        intro mn hmn nx kr S hc hnx Fc D q
        have Rc := R.fr Fc
        have Rv := hRv hc Rc
        obtain ⟨_, ⟨a0, a1, a2, a3, a4, a5, a6, a7, a8, a9⟩, ⟨b1, b2, b3, b4, b5⟩, ct, L⟩ := Rc.2.2.2.2.2.1
        simp only [Nat.mul_zero, Nat.zero_add] at a9 ct
        rw [jdL] at q
        have tail : ∀ b : Bool, b = (decide (nx < A.2.2.1.2.2.1) && decide (A.2.2.1.2.2.2 nx = nI mn)) → Ev w (am_Z w) mX10_judged (d + 5 + 1) 58 [(0, .ref m), (1, .int what), (2, .int (nI nx)), (3, .int (nI mn))] [.int (if b then 1 else 0)] hc Q := by
          intro b hb
          rw [← hb] at q
          refine bX10_judged_58 ⟨Rc.1.1, c_wouldC (d := d + 2) (a := mn) Rv D (fun h4 F4 => ⟨_, rfl, fun c4 => ?_, fun c4 => ?_⟩)⟩
          · have eb : b = wr (canP r (-1)) (vN r) (vLf r) (nI mn) S := by
              cases b <;> cases hw : wr (canP r (-1)) (vN r) (vLf r) (nI mn) S
              · rfl
              · rw [hw] at c4; exact absurd c4 (by decide)
              · rw [hw] at c4; exact absurd c4 (by decide)
              · rfl
            rw [if_pos eb] at q
            rw [nI_1]
            refine ⟨fun c5 => ?_, fun c5 => ⟨(F4.md Rc.1).1, ?_⟩⟩
            · have b0 : b = false := by
                cases b
                · rfl
                · exact absurd c5 (by decide)
              subst b0
              exact ih (mn + 1) (by omega) nx kr S h4 hnx (Fc.tr F4.D) (D.fe F4) q
            · have b1 : b = true := by
                cases b
                · exact absurd rfl c5
                · rfl
              subst b1
              have hnx' : nx < A.2.2.1.2.2.1 := by
                have := hb.symm
                simp only [Bool.and_eq_true, decide_eq_true_eq] at this
                exact this.1
              refine c_ringC (d := d + 2) (a := mn) (hRv h4 (R.fr (Fc.tr F4.D))) (D.fe F4) (by omega) eb.symm (fun h6 F6 D6 => ⟨rfl, ?_⟩)
              rw [nI_1]
              exact ih (mn + 1) (by omega) (nx + 1) (kr + 1) _ h6 (by omega) ((Fc.tr F4.D).tr F6) D6 q
          · have eb : ¬ b = wr (canP r (-1)) (vN r) (vLf r) (nI mn) S := fun e => c4 (by rw [e])
            rw [if_neg eb] at q
            have q := q h4 (Fc.tr F4.D)
            refine ⟨fun c5 => ?_, fun c5 => ⟨fun c6 => ?_, fun c6 => ?_⟩⟩
            · rw [if_pos c5] at q; exact q
            · have b0 : b = false := by
                cases b
                · rfl
                · exact absurd c6 (by decide)
              rw [if_neg c5, if_neg (by rw [b0]; decide)] at q; exact q
            · have b1 : b = true := by
                cases b
                · exact absurd rfl c6
                · rfl
              rw [if_neg c5, if_pos b1] at q; exact q
        refine bX10_judged_25 ⟨fun c => absurd c (by rw [show (1440 : Int32) = nI 1440 by decide, nI_leI (by decide) (by omega)]; omega), fun _ => ⟨Rc.1.1, Rc.1.in 1 rfl (k := 9) (by decide) (by decide) (by decide), fun c => ?_, fun c => ⟨Rc.1.in 11 rfl rfl (show nx < 180 by omega) (by decide), fun c2 => ?_, fun c2 => ?_⟩⟩⟩
        · rw [cl9, a9, nI_leI (by omega) (by omega)] at c
          exact tail false (by rw [decide_eq_false (by omega)]; rfl)
        · rw [cl9, a9, nI_leI (by omega) (by omega)] at c
          have e : hI hc (m + 12) nx = A.2.2.1.2.2.2 nx := ct nx (by omega)
          rw [nI_clamp (by omega), e] at c2
          exact tail true (by rw [decide_eq_true (by omega), decide_eq_true c2]; rfl)
        · rw [cl9, a9, nI_leI (by omega) (by omega)] at c
          have e : hI hc (m + 12) nx = A.2.2.1.2.2.2 nx := ct nx (by omega)
          rw [nI_clamp (by omega), e] at c2
          exact tail false (by rw [decide_eq_false c2]; simp)
    exact loop 1440 0 (by omega) 0 0 (canS r) h3 (by omega) (F2.tr F3) D3 q
end RJUDGE
