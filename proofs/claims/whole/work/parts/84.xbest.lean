/-! The class's best; mayTurn, gainByTurning, asks. -/
theorem lvs_kept {sd at_ : Nat → Int32} {n : Nat} {bank minute rg : Int32} {p : Nat} : ∀ (k : Nat) {g b : Nat → Int32}, ¬ g p = -1 → (lvs sd at_ n bank minute rg k g b).1 p = g p := by
  intro k
  induction k with
  | zero => intro g b _; rfl
  | succ k ih =>
    intro g b hp
    rw [lvs]
    split
    · rfl
    · rename_i c hf
      have hw := fst_W hf
      simp only [wtp, Bool.and_eq_true, decide_eq_true_eq] at hw
      have hne : p ≠ c := fun e => hp (by rw [e]; exact hw.2.2)
      simp only
      rw [ih (by rw [va_up_ne _ _ hne]; exact hp), va_up_ne _ _ hne]
theorem lvs_val {sd at_ : Nat → Int32} {n : Nat} {bank minute rg : Int32} {p : Nat} (hm : ¬ minute = -1) : ∀ (k : Nat) {g b : Nat → Int32}, g p = -1 → (lvs sd at_ n bank minute rg k g b).1 p = -1 ∨ (lvs sd at_ n bank minute rg k g b).1 p = minute := by
  intro k
  induction k with
  | zero => intro g b h; exact Or.inl h
  | succ k ih =>
    intro g b hp
    rw [lvs]
    split
    · exact Or.inl hp
    · rename_i c hf
      simp only
      by_cases e : p = c
      · right
        rw [lvs_kept k (by rw [e, va_up_self]; exact hm), e, va_up_self]
      · exact ih (by rw [va_up_ne _ _ e]; exact hp)
section GOV
variable {P : rP} {n room : Nat} {trip : Int32} {lf : (Nat → Int32) → Int32} {p : Nat}
theorem ring1_kept {m : Int32} {S : rS} (h : ¬ S.1 p = -1) : (ring1 P n room trip m S).1 p = S.1 p := by
  show (lvs _ _ _ _ _ _ _ (lvs _ _ _ _ _ _ _ _ _).1 _).1 p = _
  rw [lvs_kept room (by rw [lvs_kept room h]; exact h), lvs_kept room h]
theorem ring1_val {m : Int32} {S : rS} (hm : ¬ m = -1) (h : S.1 p = -1) : (ring1 P n room trip m S).1 p = -1 ∨ (ring1 P n room trip m S).1 p = m := by
  show (lvs _ _ _ _ _ _ _ (lvs _ _ _ _ _ _ _ _ _).1 _).1 p = -1 ∨ (lvs _ _ _ _ _ _ _ (lvs _ _ _ _ _ _ _ _ _).1 _).1 p = m
  rcases lvs_val (sd := P.2.2.1) (at_ := P.2.2.2.1) (n := n) (bank := 0) (rg := S.2.2.1) (b := S.2.1) hm room h with e | e
  · exact lvs_val hm room e
  · right
    rw [lvs_kept room (by rw [e]; exact hm), e]
theorem rgs_kept {m : Int32} : ∀ (f : Nat) {S : rS}, ¬ S.1 p = -1 → (rgs P n room trip lf m f S).1 p = S.1 p := by
  intro f
  induction f with
  | zero => intro S _; rfl
  | succ f ih =>
    intro S h
    rw [rgs]
    split
    · rw [ih (by rw [ring1_kept h]; exact h), ring1_kept h]
    · rfl
theorem rgs_val {m : Int32} (hm : ¬ m = -1) : ∀ (f : Nat) {S : rS}, S.1 p = -1 → (rgs P n room trip lf m f S).1 p = -1 ∨ (rgs P n room trip lf m f S).1 p = m := by
  intro f
  induction f with
  | zero => intro S h; exact Or.inl h
  | succ f ih =>
    intro S h
    rw [rgs]
    split
    · rcases ring1_val (P := P) (n := n) (room := room) (trip := trip) hm h with e | e
      · exact ih e
      · right; rw [rgs_kept f (by rw [e]; exact hm), e]
    · exact Or.inl h
theorem goS_kept : ∀ (j a : Nat) {S : rS}, ¬ S.1 p = -1 → (goS P n room trip lf j a S).1 p = S.1 p := by
  intro j
  induction j with
  | zero => intro a S _; rfl
  | succ j ih => intro a S h; rw [goS, ih (a + 1) (by rw [rgs_kept n h]; exact h), rgs_kept n h]
theorem goS_val : ∀ (j a : Nat) {S : rS}, a + j ≤ 1440 → S.1 p = -1 → (goS P n room trip lf j a S).1 p = -1 ∨ ∃ m, a ≤ m ∧ m < a + j ∧ (goS P n room trip lf j a S).1 p = nI m := by
  intro j
  induction j with
  | zero => intro a S _ h; exact Or.inl h
  | succ j ih =>
    intro a S ha h
    rw [goS]
    have hm : ¬ nI a = -1 := nI_nm (by omega)
    rcases rgs_val (P := P) (n := n) (room := room) (trip := trip) (lf := lf) hm n h with e | e
    · rcases ih (a + 1) (by omega) e with e2 | ⟨m, m1, m2, m3⟩
      · exact Or.inl e2
      · exact Or.inr ⟨m, by omega, by omega, m3⟩
    · right
      exact ⟨a, by omega, by omega, by rw [goS_kept j (a + 1) (by rw [e]; exact hm), e]⟩
end GOV
theorem day_wait {r : rV} {K a p : Nat} (hK' : K = 1440) (ha : a < 1440) (h : wbh (dayK r (-1) K).1 (vAt r) (nI a) p = true) : (dayK r (-1) (a + 1)).1 p = -1 := by
  apply Classical.byContradiction
  intro hn
  have e : dayK r (-1) K = goS (canP r (-1)) (vN r) (vRoom r) (vTrip r) (vLf r) (K - (a + 1)) (a + 1) (dayK r (-1) (a + 1)) := by
    unfold dayK
    have := goS_add (P := canP r (-1)) (n := vN r) (room := vRoom r) (trip := vTrip r) (lf := vLf r) (a + 1) (K - (a + 1)) 0 (canS r)
    rw [show a + 1 + (K - (a + 1)) = K by omega, Nat.zero_add] at this
    exact this
  have k := goS_kept (P := canP r (-1)) (n := vN r) (room := vRoom r) (trip := vTrip r) (lf := vLf r) (K - (a + 1)) (a + 1) hn
  rcases goS_val (P := canP r (-1)) (n := vN r) (room := vRoom r) (trip := vTrip r) (lf := vLf r) (p := p) (a + 1) 0 (S := canS r) (by omega) rfl with e2 | ⟨m, m1, m2, m3⟩
  · exact hn e2
  · have m3 : (dayK r (-1) (a + 1)).1 p = nI m := m3
    rw [m3] at k
    unfold wbh at h
    rw [e, k] at h
    have g0 : ¬ nI m < 0 := nI_pos (by omega)
    have g1 : nI m ≤ nI a := nI_le (by omega) (by omega)
    simp [g0, g1] at h
/-- the cost of all but one doesn't look at it -/
theorem cst_but {co at_ g g' : Nat → Int32} {p : Nat} (hp : p < 2 ^ 31) : ∀ n, n < 2 ^ 31 → (∀ q, q < n → q ≠ p → g q = g' q) → cstS co g at_ (nI p) n = cstS co g' at_ (nI p) n := by
  intro n
  induction n with
  | zero => intro _ _; rfl
  | succ n ih =>
    intro hn h
    rw [cstS, cstS, ih (by omega) (fun q hq => h q (by omega))]
    by_cases e : n = p
    · rw [e, if_pos rfl, if_pos rfl]
    · have : ¬ nI n = nI p := fun hh => e ((nI_eq (by omega) hp).mp hh)
      rw [if_neg this, if_neg this]
      unfold wof
      rw [h n (by omega) e]
section XBEST
variable {w : am_W} {d : Nat} {h h1 : am_H} {Q : Option Value → am_H → Prop} {x y : Nat} {A : rA} {H : rH} {D L Lc n ρ c s room kr j : Nat} {P : rP} {l : List Nat} {trip boats : Int32} {lf : (Nat → Int32) → Int32} {S : rS}
theorem bstA_1 (H : rH) : ∀ l, (bstA H l).1 = -1 ∨ ∃ k, k < l ∧ (bstA H l).1 = nI k := by
  intro l
  induction l with
  | zero => exact Or.inl rfl
  | succ l ih =>
    rw [bstA]
    split
    · exact Or.inr ⟨l, by omega, rfl⟩
    · rcases ih with e | ⟨k, h1, h2⟩
      · exact Or.inl e
      · exact Or.inr ⟨k, by omega, h2⟩
theorem RepX.co' {h' : am_H} (R : RepX x y h' A) (e : hR h' (x + 20) = hR h (x + 20)) : hN h' (hR h (x + 20) 1 + 7) = 16 ∧ tN A.2.2.1.1 ≤ 16 ∧ eqR (tN A.2.2.1.1) (hI h' (hR h (x + 20) 1 + 7)) (tCo A.2.2.1.1) := by
  have := R.co
  rw [e] at this
  exact this
theorem c_bestX (R : RepX x y h A) (q : ∀ h', QF x h h' → RepX x y h' A → Q (some (.int (bstA A.2.2.1 (tLaws A.2.2.1.1)).1)) h') : EvM w mX9_best (d + 5) [.ref x] h Q := by
  have hL : tLaws A.2.2.1.1 ≤ 4 := R.st.1.1.2.2.2.2.2.2.1
  have loop : ∀ k l, l + k = tLaws A.2.2.1.1 → ∀ hc, QF x h hc → RepX x y hc A → Ev w (am_Z w) mX9_best (d + 4 + 1) 6 [(0, .ref x), (1, .int (bstA A.2.2.1 l).1), (2, .int (bstA A.2.2.1 l).2), (3, .int (nI l))] [] hc Q := by
    intro k
    induction k with
    | zero =>
      intro l hl hc F Rc
      obtain ⟨V, s1, G, Rv⟩ := Rc.st
      have b8 : hI hc (hR hc (x + 20) 1) 13 = nI (tLaws A.2.2.1.1) := Rv.2.2.2.2.2.2.1.2.2.2.2.2.2.2
      have hl : l = tLaws A.2.2.1.1 := by omega
      subst hl
      exact bX9_best_6 ⟨Rc.2.1.1, Rc.2.1.2.2.2.2.2.1, s1, Rv.1, fun _ => q hc F Rc, fun c => absurd (by rw [b8]; exact Int32.le_refl _) c⟩
    | succ k ih =>
      intro l hl hc F Rc
      obtain ⟨V, s1, G, Rv⟩ := Rc.st
      have b8 : hI hc (hR hc (x + 20) 1) 13 = nI (tLaws A.2.2.1.1) := Rv.2.2.2.2.2.2.1.2.2.2.2.2.2.2
      have ih := ih (l + 1) (by omega)
      rw [bstA] at ih
      have b1 := bstA_1 A.2.2.1 l
      refine bX9_best_6 ⟨Rc.2.1.1, Rc.2.1.2.2.2.2.2.1, s1, Rv.1, fun c => absurd c (by rw [b8, nI_leI (by omega) (by omega)]; omega), fun _ => ?_⟩
      refine c_beginTrial (d := d + 2) Rc (V.usel (by omega)) (fun h5 l5 F5 R5 D5 Y5 e16 e17 => ⟨rfl, R5.2.1.1, c_runK (d := d) rfl D5 Y5 e17 (fun h8 kr j F8 Y8 => ⟨rfl, (R5.tri F8.g).2.1.1, ?_⟩)⟩)
      have F58 := F5.tr F8.g
      have R8 := R5.tri F8.g
      have er : hR h8 (x + 20) = hR hc (x + 20) := (F58.same (a := x + 20) (by unfold Out; omega)).2.2.2.2
      refine c_costWithout (d := d + 1) (co := tCo A.2.2.1.1) (D5.fr F8) Y8 (R8.co' er) ⟨_, rfl, ?_⟩
      have go := ih h8 (F.tr (F58.q (by omega))) R8
      generalize hX : bstA A.2.2.1 l = X at go b1
      rw [nI_1]
      refine ⟨fun c => ?_, fun c => ⟨fun c2 => ?_, fun c2 => ?_⟩⟩
      · rw [if_pos (Or.inl (by rw [c]; decide))] at go
        exact go
      · have c2 : X.2 ≤ lcost A.2.2.1 l := c2
        rw [if_neg (fun hh => by
          rcases hh with hh | hh
          · rcases b1 with e | ⟨k, k1, k2⟩
            · exact c e
            · rw [k2] at hh; exact absurd hh (nI_pos (by omega))
          · exact absurd (Int32.lt_of_lt_of_le hh c2) Int32.lt_irrefl)] at go
        exact go
      · have c2 : ¬ X.2 ≤ lcost A.2.2.1 l := c2
        rw [if_pos (Or.inr (Int32.not_le.mp c2))] at go
        exact go
  exact bX9_best_0 (loop _ 0 (Nat.zero_add _) h QF.rf R)
theorem DC.need (A : DC D L Lc n ρ c s P l room trip boats lf h) : DNeed D Lc n ρ c s P l room trip boats lf h := by
  obtain ⟨a1, a2, a3, a4, a5, ⟨r12, r13, r14, z1, z2, z3⟩, a7, a8, a9, a10, a11, a12⟩ := A
  exact ⟨⟨z1, z2, z3⟩, a7, a8, a9, a10, a12⟩
theorem DC.g (A : DC D L Lc n ρ c s P l room trip boats lf h) (F : FrG D h h1) (e1 : hR h1 D = hR h D) (e2 : hI h1 D 15 = hI h D 15) : DC D L Lc n ρ c s P l room trip boats lf h1 := by
  obtain ⟨n0, n1, n2, n3, n4, n5⟩ := A.need.g F
  obtain ⟨d1, d2, d3, d4⟩ := A.ly.g F
  exact ⟨d1, d2, d3, d4, A.2.2.2.2.1, by rw [e1]; exact A.2.2.2.2.2.1, n1, n2, n3, n4, by rw [e2]; exact A.2.2.2.2.2.2.2.2.2.2.1, n5⟩
theorem YS.g (Y : YS D n P l boats h S kr j) (e : ∀ a, a ≠ D → hI h1 a = hI h a) (e10 : hI h1 D 10 = hI h D 10) (e11 : hI h1 D 11 = hI h D 11) : YS D n P l boats h1 S kr j := by
  obtain ⟨y1, y2, y3, y4, y5, b0, b1⟩ := Y
  exact ⟨by rw [e11]; exact y1, by rw [e10, e _ (by omega), e _ (by omega), e _ (by omega)]; exact y2, by rw [e _ (by omega)]; exact y3, by rw [e _ (by omega), e _ (by omega)]; exact y4, y5, b0.cg (e _ (by omega)) (e _ (by omega)), b1.cg (e _ (by omega)) (e _ (by omega))⟩
set_option maxHeartbeats 4000000 in
theorem c_gainK {K p a : Nat} (hK' : K = 1440) (R : RepX x y h A) (Dy : DyX (x + 31) 16 (hR h (x + 20) 1) (hR h (x + 20) 1 + 3) h (rvOf A.2.2.1) (-1) (dayK (rvOf A.2.2.1) (-1) K)) (hp : p < tN A.2.2.1.1) (ha : a < 1440) (hw : wbh (dayK (rvOf A.2.2.1) (-1) K).1 (tAt A.2.2.1.1) (nI a) p = true)
    (q : ∀ h', FrG (x + 44) h h' → Q (some (.int (cstS (tCo A.2.2.1.1) (dayK (rvOf A.2.2.1) (-1) K).1 (tAt A.2.2.1.1) (nI p) (tN A.2.2.1.1) - cstS (tCo A.2.2.1.1) (goS (canP (rvOf A.2.2.1) (-1)) (tN A.2.2.1.1) (tRoom A.2.2.1.1) (nI (tTrip A.2.2.1.1)) (vLf (rvOf A.2.2.1)) (K - (a + 1)) (a + 1) (homS p (dayK (rvOf A.2.2.1) (-1) (a + 1)))).1 (tAt A.2.2.1.1) (nI p) (tN A.2.2.1.1)))) h') : EvM w mX9_gainByTurning (d + 5) [.ref x, .int (nI p), .int (nI a)] h Q := by
  obtain ⟨V, s1, G, Rv⟩ := R.st
  have X := R.2.1
  have hy := R.1
  have hNn := V.1.1
  refine bX9_gainByTurning_0 ⟨X.1, X.2.2.2.2.2.1, ?_⟩
  rw [R.2.2.2.1.2.2.2.2.1]
  refine c_beginTrial (d := d + 2) R V.self (fun h3 l F3 R3 D3 Y3 e16 e17 => ⟨rfl, R3.2.1.1, bX3_letGoHome_0 ⟨D3.1, fun h4 e4 h6 e6 => ⟨rfl, ?_⟩⟩⟩)
  have D3 : DC (x + 44) 300 16 (tN A.2.2.1.1) (hR h (x + 20) 1) (hR h (x + 20) 1 + 1) (hR h (x + 20) 1 + 3) (canP (rvOf A.2.2.1) (-1)) l (tRoom A.2.2.1.1) (nI (tTrip A.2.2.1.1)) (nI (tBoats A.2.2.1.1)) (vLf (rvOf A.2.2.1)) h3 := D3
  have Y3 : YS (x + 44) (tN A.2.2.1.1) (canP (rvOf A.2.2.1) (-1)) l (nI (tBoats A.2.2.1.1)) h3 (canS (rvOf A.2.2.1)) 0 0 := Y3
  have F6 : FrG (x + 44) h3 h6 := by rw [e6, e4]; exact FrG.rf.fld.fld
  have i6 : hI h6 (x + 44) = va_up (va_up (hI h3 (x + 44)) 16 (nI p)) 17 (nI (a + 1)) := by rw [e6, e4, nI_1]; simp only [sI_r, hI_rs]
  have o6 : ∀ b, b ≠ x + 44 → hI h6 b = hI h3 b := fun b hb => by rw [e6, e4]; simp only [sI_r]; rw [hI_rn _ _ hb, hI_rn _ _ hb]
  have r6 : hR h6 = hR h3 := by rw [e6, e4]; rfl
  have D6 := D3.g F6 (by rw [r6]) (by rw [i6]; simp [va_ui])
  have Y6 := Y3.g o6 (by rw [i6]; simp [va_ui]) (by rw [i6]; simp [va_ui])
  have R6 := R3.tri F6
  have dgo : dayX (canP (rvOf A.2.2.1) (-1)) (tN A.2.2.1.1) (tRoom A.2.2.1.1) (nI (tTrip A.2.2.1.1)) (vLf (rvOf A.2.2.1)) (canS (rvOf A.2.2.1)) (a + 1) p (a + 1) = dayK (rvOf A.2.2.1) (-1) (a + 1) := dayX_go (a + 1) (Nat.le_refl _)
  have wg : (dayK (rvOf A.2.2.1) (-1) (a + 1)).1 p = -1 := day_wait hK' ha hw
  have atp : tAt A.2.2.1.1 p < nI (a + 1) := by
    unfold wbh at hw
    simp only [Bool.and_eq_true, Bool.not_eq_true', decide_eq_false_iff_not] at hw
    exact Int32.lt_of_le_of_lt (Int32.not_lt.mp hw.1) (nI_lt (by omega) (by omega))
  refine ⟨R6.2.1.1, ?_⟩
  rw [show (1440 : Int32) = nI K by rw [hK']; decide]
  refine c_run (d := d) (unt := K) (lv := a + 1) (pl := p) D6 Y6 (by rw [i6]; simp [va_ui]) (by omega) (fun hlt => ⟨by rw [i6]; simp [va_ui], hp, atp, by rw [dgo]; exact wg⟩) (by omega) (fun h9 kr j F9 Y9 T9 => ⟨rfl, (R6.tri F9.g).2.1.1, ?_⟩)
  have F9g := (F3.tr F6).tr F9.g
  have R9 := R6.tri F9.g
  have er : hR h9 (x + 20) = hR h (x + 20) := (F9g.same (a := x + 20) (by unfold Out; omega)).2.2.2.2
  have Dy9 : DyX (x + 31) 16 (hR h (x + 20) 1) (hR h (x + 20) 1 + 3) h9 (rvOf A.2.2.1) (-1) (dayK (rvOf A.2.2.1) (-1) K) := by
    obtain ⟨g1, g2⟩ := G.out (D := x + 44) hy (by omega)
    exact Dy.sm (fun b h1 h2 => F9g.same (by unfold Out; omega)) (fun b h1 h2 => F9g.same (g1 b h1 h2)) (F9g.same g2) (F9g.same (g1 _ (by omega) (by omega)))
  obtain ⟨l31, kr31, j31, D31, Y31⟩ := Dy9
  refine c_costWithout (d := d + 1) (co := tCo A.2.2.1.1) D31 Y31 (R9.co' er) ⟨_, rfl, R9.2.1.1, ?_⟩
  refine c_costWithout (d := d + 1) (co := tCo A.2.2.1.1) (D6.fr F9) Y9 (R9.co' er) ⟨_, rfl, ?_⟩
  have eC : cstS (tCo A.2.2.1.1) (dayX (canP (rvOf A.2.2.1) (-1)) (tN A.2.2.1.1) (tRoom A.2.2.1.1) (nI (tTrip A.2.2.1.1)) (vLf (rvOf A.2.2.1)) (canS (rvOf A.2.2.1)) (a + 1) p K).1 (tAt A.2.2.1.1) (nI p) (tN A.2.2.1.1) = cstS (tCo A.2.2.1.1) (goS (canP (rvOf A.2.2.1) (-1)) (tN A.2.2.1.1) (tRoom A.2.2.1.1) (nI (tTrip A.2.2.1.1)) (vLf (rvOf A.2.2.1)) (K - (a + 1)) (a + 1) (homS p (dayK (rvOf A.2.2.1) (-1) (a + 1)))).1 (tAt A.2.2.1.1) (nI p) (tN A.2.2.1.1) := by
    by_cases hl : a + 1 = K
    · rw [← hl, dgo, Nat.sub_self]
      refine cst_but (by omega) _ (by omega) (fun z _ hz => ?_)
      show _ = va_up (dayK (rvOf A.2.2.1) (-1) (a + 1)).1 p (-2) z
      rw [va_up_ne _ _ hz]
    · have := dayX_home (P := canP (rvOf A.2.2.1) (-1)) (n := tN A.2.2.1.1) (room := tRoom A.2.2.1.1) (trip := nI (tTrip A.2.2.1.1)) (lf := vLf (rvOf A.2.2.1)) (S0 := canS (rvOf A.2.2.1)) (lv := a + 1) (pl := p) (K - (a + 1) - 1)
      rw [show a + 1 + (K - (a + 1) - 1 + 1) = K by omega, show K - (a + 1) - 1 + 1 = K - (a + 1) by omega] at this
      rw [this]
      rfl
  have q := q h9 F9g
  rw [← eC] at q
  exact q
theorem c_mayTurn {p minute : Int32} (R : RepX x y h A) (Dy : DyX (x + 31) 16 (hR h (x + 20) 1) (hR h (x + 20) 1 + 3) h (rvOf A.2.2.1) (-1) (dayK (rvOf A.2.2.1) (-1) 1440)) (q : Q (some (.int (if mayT (rvOf A.2.2.1) p minute then 1 else 0))) h) : EvM w mX9_mayTurn (d + 2) [.ref x, .int p, .int minute] h Q := by
  obtain ⟨V, s1, G, Rv⟩ := R.st
  have X := R.2.1
  have hNn := V.1.1
  obtain ⟨a1, ⟨l2, C2⟩, a3, a4, a5, a6⟩ := id Rv
  unfold mayT at q
  rw [show vN (rvOf A.2.2.1) = tN A.2.2.1.1 from rfl, show vKd (rvOf A.2.2.1) = tKd A.2.2.1.1 from rfl, show vAt (rvOf A.2.2.1) = tAt A.2.2.1.1 from rfl] at q
  refine bX9_mayTurn_0 ⟨X.1, c_isPersonX R ⟨_, rfl, fun c => ?_, fun c => c_isMinute ⟨_, rfl, fun c2 => ?_, fun c2 => ⟨X.1, X.2.2.2.2.2.1, s1, a1, c_get (a1.s 2 rfl) (by rw [a5.1]; decide) ⟨_, rfl, ?_⟩⟩⟩⟩⟩
  · rw [decide_eq_false (b01_z c)] at q; exact q
  · rw [decide_eq_true (b01_n c), decide_eq_false (b01_z c2)] at q; exact q
  have c := b01_n c
  have c2 := b01_n c2
  rw [decide_eq_true c, decide_eq_true c2] at q
  obtain ⟨k, hk, rfl⟩ := pers_of hNn c
  obtain ⟨a, ha, rfl⟩ := nI_of (Int32.not_lt.mpr c2.1)
  have ha' : a < 1440 := by
    have := c2.2
    rw [show (1440 : Int32) = nI 1440 by decide, nI_ltI ha (by decide)] at this
    exact this
  rw [nI_clamp (by omega)] at q
  rw [a5.1, gv_nI (by omega) (by decide), a5.2 k hk]
  have k85 : (tKd A.2.2.1.1 k + 81 = 85) ↔ tKd A.2.2.1.1 k = 4 := by
    constructor
    · intro e
      have : tKd A.2.2.1.1 k + 81 - 81 = 85 - 81 := by rw [e]
      rw [Int32.add_sub_cancel] at this
      rw [this]; decide
    · intro e; rw [e]; decide
  obtain ⟨l, kr, j, Dc, Y⟩ := Dy
  refine ⟨fun c3 => ⟨X.1, c_isWaitingBehind Dc Y hk ha' ⟨_, rfl, fun c4 => ?_, fun c4 => ?_⟩⟩, fun c3 => ?_⟩
  · rw [decide_eq_true (k85.mp c3)] at q
    rw [show (canP (rvOf A.2.2.1) (-1)).2.2.2.1 = tAt A.2.2.1.1 from rfl] at c4
    cases hh : wbh (dayK (rvOf A.2.2.1) (-1) 1440).1 (tAt A.2.2.1.1) (nI a) k with
    | true => rw [hh] at c4; exact absurd c4 (by decide)
    | false => rw [hh] at q; exact q
  · rw [decide_eq_true (k85.mp c3)] at q
    rw [show (canP (rvOf A.2.2.1) (-1)).2.2.2.1 = tAt A.2.2.1.1 from rfl] at c4
    cases hh : wbh (dayK (rvOf A.2.2.1) (-1) 1440).1 (tAt A.2.2.1.1) (nI a) k with
    | true => rw [hh] at q; exact q
    | false => rw [hh] at c4; exact absurd rfl c4
  · rw [decide_eq_false (fun e => c3 (k85.mpr e))] at q
    exact q
theorem c_gain {p a : Nat} (R : RepX x y h A) (Dy : DyX (x + 31) 16 (hR h (x + 20) 1) (hR h (x + 20) 1 + 3) h (rvOf A.2.2.1) (-1) (dayK (rvOf A.2.2.1) (-1) 1440)) (hp : p < tN A.2.2.1.1) (ha : a < 1440) (hw : wbh (dayK (rvOf A.2.2.1) (-1) 1440).1 (tAt A.2.2.1.1) (nI a) p = true)
    (q : ∀ h', FrG (x + 44) h h' → Q (some (.int (gain (rvOf A.2.2.1) p a))) h') : EvM w mX9_gainByTurning (d + 5) [.ref x, .int (nI p), .int (nI a)] h Q := by
  unfold gain trnS at q
  exact c_gainK rfl R Dy hp ha hw q
end XBEST
