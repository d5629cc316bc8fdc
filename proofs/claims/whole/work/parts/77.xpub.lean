/-! The class's knowDay, beginTrial, forget; answers that look at the day. -/
/-- who goes at a time goes by a ringing -/
def GB (n : Nat) (g b : Nat → Int32) : Prop := ∀ p, p < n → (g p = -1 ∧ b p = -1) ∨ (0 ≤ g p ∧ 0 ≤ b p)
theorem lvs_gb {sd at_ : Nat → Int32} {n : Nat} {bank minute rg : Int32} (hm : 0 ≤ minute) (hr : 0 ≤ rg) : ∀ (k : Nat) {g b : Nat → Int32}, GB n g b → GB n (lvs sd at_ n bank minute rg k g b).1 (lvs sd at_ n bank minute rg k g b).2.1 := by
  intro k
  induction k with
  | zero => intro g b h; exact h
  | succ k ih =>
    intro g b h
    rw [lvs]
    split
    · exact h
    · rename_i p hf
      refine ih (fun q hq => ?_)
      by_cases e : q = p
      · rw [e, va_up_self, va_up_self]; exact Or.inr ⟨hm, hr⟩
      · rw [va_up_ne _ _ e, va_up_ne _ _ e]; exact h q hq
theorem goS_gb {P : rP} {n room : Nat} {trip : Int32} {lf : (Nat → Int32) → Int32} : ∀ (j a : Nat) {k : Nat} {S : rS}, a + j ≤ 1440 → k + j * n < 2 ^ 31 → S.2.2.1 = nI k → GB n S.1 S.2.1 → GB n (goS P n room trip lf j a S).1 (goS P n room trip lf j a S).2.1 := by
  have rg : ∀ (f : Nat) {a k : Nat} {S : rS}, a ≤ 1440 → k + f < 2 ^ 31 → S.2.2.1 = nI k → GB n S.1 S.2.1 → GB n (rgs P n room trip lf (nI a) f S).1 (rgs P n room trip lf (nI a) f S).2.1 := by
    intro f
    induction f with
    | zero => intro a k S _ _ _ h; exact h
    | succ f ih =>
      intro a k S ha hk hS h
      rw [rgs]
      split
      · refine ih (k := k + 1) ha (by omega) (by show S.2.2.1 + 1 = _; rw [hS, nI_1]) ?_
        have p0 : (0 : Int32) ≤ nI a := nI_pos' (by omega)
        have p1 : (0 : Int32) ≤ S.2.2.1 := by rw [hS]; exact nI_pos' (by omega)
        exact lvs_gb p0 p1 room (lvs_gb p0 p1 room h)
      · exact h
  intro j
  induction j with
  | zero => intro a k S _ _ _ h; exact h
  | succ j ih =>
    intro a k S ha hk hS h
    have e : (j + 1) * n = j * n + n := by rw [Nat.add_mul, Nat.one_mul]
    rw [goS]
    obtain ⟨k', h1, h2, h3⟩ := rgs_mono (P := P) (n := n) (room := room) (trip := trip) (lf := lf) (minute := nI a) n hS
    exact ih (a + 1) (k := k') (by omega) (by omega) h1 (rg n (by omega) (by omega) hS h)
section XPUB
variable {w : am_W} {d : Nat} {h h1 : am_H} {Q : Option Value → am_H → Prop} {x y : Nat} {A : rA} {H : rH} {D L Lc n ρ c s room kr j : Nat} {P : rP} {l : List Nat} {trip boats : Int32} {lf : (Nat → Int32) → Int32} {S : rS}
/-- the parts of the class that are told anew -/
theorem RepX.mk' (R : RepX x y h A) (N : KN x h h1) (e : ∀ a, x ≤ a → a ≤ x + 68 → ¬ Scr x a → a ≠ x → a ≠ x + 20 → a ≠ x + 21 → (a < x + 31 ∨ x + 43 < a) → ¬ (x + 57 ≤ a ∧ a ≤ x + 62) → same h h1 a) (e2 : ∀ a, y ≤ a → a < hZ h → same h h1 a) (hz : hZ h ≤ hZ h1) (S : StX x y (x + 20) h1 H) (C : CaX x y h1 H) : RepX x y h1 (setH A H) := by
  obtain ⟨r1, r2, ⟨t1, t2, t3⟩, r4, r5, r6⟩ := R
  have ns : ∀ a, (a ≤ x + 14 ∨ (x + 20 ≤ a ∧ a ≤ x + 43)) → ¬ Scr x a := fun a ha => by unfold Scr; omega
  have ee : ∀ a, x + 1 ≤ a → a ≤ x + 12 → same h h1 a := fun a h1 h2 => e a (by omega) (by omega) (ns a (by omega)) (by omega) (by omega) (by omega) (by omega) (by omega)
  refine ⟨r1, r2.kn N, ⟨?_, ?_, t3⟩, S, fun k hk => ?_, C⟩
  · rw [(e (x + 13) (by omega) (by omega) (ns _ (by omega)) (by omega) (by omega) (by omega) (by omega) (by omega)).2.2.1]; exact t1
  · rw [(e (x + 14) (by omega) (by omega) (ns _ (by omega)) (by omega) (by omega) (by omega) (by omega) (by omega)).2.2.1]; exact t2
  · obtain ⟨m1, m2⟩ := r5 k hk
    have sa := e (x + 23 + 2 * k) (by omega) (by omega) (ns _ (by omega)) (by omega) (by omega) (by omega) (by omega) (by omega)
    exact ⟨by rw [sa.2.2.1]; exact m1, fun hl => (m2 hl).sm sa (e (x + 23 + 2 * k + 1) (by omega) (by omega) (ns _ (by omega)) (by omega) (by omega) (by omega) (by omega) (by omega)) ee e2 hz⟩
theorem c_runK {K : Nat} (hK' : K = 1440) (A : DC D L Lc n ρ c s P l room trip boats lf h) (Y : YS D n P l boats h (canB boats) 0 0) (h17 : hI h D 17 = nI 1440) (q : ∀ h' kr j, FrY D h h' → YS D n P l boats h' (goS P n room trip lf K 0 (canB boats)) kr j → Q none h') : EvM w mX3_run (d + 4) [.ref D, .int 1440] h Q := by
  rw [show (1440 : Int32) = nI K by rw [hK']; decide]
  refine c_run (unt := K) (lv := K) (pl := 0) A Y (by rw [hK']; exact h17) (by omega) (fun hh => absurd hh (Nat.lt_irrefl _)) (by omega) (fun h' kr j F' Y' _ => q h' kr j F' ?_)
  rw [dayX_go K (Nat.le_refl _)] at Y'
  exact Y'
theorem RepX.st (R : RepX x y h A) : VH A.2.2.1 ∧ hR h (x + 20) 1 ≠ 0 ∧ Rgd x y (hR h (x + 20) 1) h ∧ RvX (hR h (x + 20) 1) h A.2.2.1.1 := ⟨R.2.2.2.1.1, R.2.2.2.1.2.1, R.2.2.2.1.2.2.1, R.2.2.2.1.2.2.2.1⟩
theorem CaX.cg (C : CaX x y h H) (G : Rgd x y (hR h (x + 20) 1) h) (e : ∀ a, x ≤ a → a ≤ x + 68 → ¬ Scr x a → same h h1 a) (e2 : ∀ a, y ≤ a → a < hZ h → same h h1 a) : CaX x y h1 H := C.sm G e e2
theorem c_knowDayK {K : Nat} (hK' : K = 1440) (R : RepX x y h A) (hca : hI h x 8 = 0 ∨ (hI h x 8 = 1 ∧ DyX (x + 31) 16 (hR h (x + 20) 1) (hR h (x + 20) 1 + 3) h (rvOf A.2.2.1) (-1) (dayK (rvOf A.2.2.1) (-1) K)))
    (q : ∀ h', QF x h h' → (∀ a, x < a → a ≤ x + 68 → (a < x + 31 ∨ x + 43 < a) → same h h' a) → KN x h h' → hI h' x 8 = 1 → DyX (x + 31) 16 (hR h' (x + 20) 1) (hR h' (x + 20) 1 + 3) h' (rvOf A.2.2.1) (-1) (dayK (rvOf A.2.2.1) (-1) K) → Q none h') : EvM w mX9_knowDay (d + 5) [.ref x] h Q := by
  obtain ⟨V, s1, G, Rv⟩ := R.st
  have X := R.2.1
  have hy := R.1
  obtain ⟨l, N⟩ := Rv.need1 (D := x + 31) V s1 G hy (by omega)
  obtain ⟨_, ⟨l2, C2⟩, _⟩ := id Rv
  refine bX9_knowDay_0 ⟨X.1, fun c1 => ⟨X.2.2.2.2.2.1, s1, Rv.1, C2.1, ?_⟩, fun c1 => ?_⟩
  · rw [show hI h (x + 20) 2 = (canP (rvOf A.2.2.1) (-1)).2.1 from R.2.2.2.1.2.2.2.2.1]
    refine c_begin (d := d + 3) (L := 16) X.2.2.2.2.2.2.2.2.2.1 V.1.1 N (fun h6 F6 D6 Y6 e16 e17 => ⟨rfl, (X.kn (F6.kn (Or.inl rfl))).1, c_runK hK' D6 Y6 e17 (fun h9 kr j F9 Y9 => ⟨rfl, (X.kn ((F6.tr F9.g).kn (Or.inl rfl))).1, fun h12 e12 => ?_⟩)⟩)
    have F69 := F6.tr F9.g
    have D9 := D6.fr F9
    have s12 : ∀ a, a ≠ x → same h9 h12 a := by
      intro a ha
      rw [e12]
      exact (FrA.rf.fld (Z := fun b => b = x) rfl).same ha
    have r20 : hR h12 (x + 20) = hR h (x + 20) := by rw [(s12 (x + 20) (by omega)).2.2.2.2, (F69.same (by unfold Out; omega)).2.2.2.2]
    have Fq : FrA (fun b => b = x) h9 h12 := by rw [e12]; exact FrA.rf.fld rfl
    have gl := (Rgd.out G hy (show x + 13 ≤ x + 31 ∧ x + 31 + 12 ≤ x + 68 by omega))
    have G9 : (∀ a, hR h (x + 20) 1 ≤ a → a ≤ hR h (x + 20) 1 + 11 → a ≠ x) ∧ hR h (hR h (x + 20) 1) 5 ≠ x := by
      rcases G with ⟨e, f⟩ | ⟨e, f, g⟩
      · exact ⟨fun a h1 h2 => by omega, by omega⟩
      · exact ⟨fun a h1 h2 => by omega, by omega⟩
    refine q h12 ((F69.q (by omega)).tr (Fq.q (fun a ha => Or.inl ha))) (fun a h1 h2 h3 => (F69.same (by unfold Out; omega)).tr (s12 a (by omega))) ?_ (by rw [e12, sI_r, hI_rs, va_up_self]) ?_
    · have k1 := F69.kn (x := x) (Or.inl rfl)
      have k2 := Fq.kn (x := x)
      exact ⟨fun a h1 h2 => ⟨(k2.1 a h1 h2).1.trans (k1.1 a h1 h2).1, (k2.1 a h1 h2).2.trans (k1.1 a h1 h2).2⟩, fun a k h1 h2 h3 => (k2.2 a k h1 h2 h3).trans (k1.2 a k h1 h2 h3)⟩
    · rw [r20]
      have : DyX (x + 31) 16 (hR h (x + 20) 1) (hR h (x + 20) 1 + 3) h9 (rvOf A.2.2.1) (-1) (dayK (rvOf A.2.2.1) (-1) K) := ⟨l, kr, j, D9, Y9⟩
      refine this.sm (fun a h1 h2 => s12 a (by omega)) (fun a h1 h2 => s12 a (G9.1 a h1 h2)) ?_ (s12 _ (G9.1 _ (by omega) (by omega)))
      rw [(F69.same (gl.1 _ (by omega) (by omega))).2.2.2.2]
      exact s12 _ G9.2
  · rcases hca with hc | ⟨hc, hd⟩
    · exact absurd hc c1
    · exact q h QF.rf (fun a _ _ _ => same.rf) ⟨fun _ _ _ => ⟨rfl, rfl⟩, fun _ _ _ _ _ => rfl⟩ hc hd
theorem QF.e2 (F : QF x h h1) (hy : x + 69 ≤ y) : ∀ a, y ≤ a → a < hZ h → same h h1 a := fun a h1 _ => F.1 a (by omega)
theorem c_knowDay (R : RepX x y h A) (q : ∀ h', QF x h h' → RepX x y h' A → DyX (x + 31) 16 (hR h' (x + 20) 1) (hR h' (x + 20) 1 + 3) h' (rvOf A.2.2.1) (-1) (dayK (rvOf A.2.2.1) (-1) 1440) → Q none h') : EvM w mX9_knowDay (d + 5) [.ref x] h Q := by
  refine c_knowDayK rfl R R.2.2.2.2.2.1 (fun h' F e N k D => ?_)
  have hy := R.1
  refine q h' F ?_ D
  have S := R.2.2.2.1
  have S' : StX x y (x + 20) h' A.2.2.1 := S.sm (e _ (by omega) (by omega) (by omega)) (e _ (by omega) (by omega) (by omega)) (fun a h1 h2 => e a (by omega) (by omega) (by omega)) (F.e2 hy) (by rw [F.2.1]; exact Nat.le_refl _)
  have C := R.2.2.2.2.2
  refine R.mk' (H := A.2.2.1) N (fun a h1 h2 h3 h4 _ _ h5 _ => e a (by omega) h2 h5) (F.e2 hy) (by rw [F.2.1]; exact Nat.le_refl _) S' ⟨Or.inr ⟨k, D⟩, ?_, ?_⟩
  · unfold ChX
    rw [(e (x + 57) (by omega) (by omega) (by omega)).2.2.1, (e (x + 58) (by omega) (by omega) (by omega)).2.2.1, (e (x + 59) (by omega) (by omega) (by omega)).2.2.1, (e (x + 60) (by omega) (by omega) (by omega)).2.2.1]
    exact C.2.1
  · unfold LtX
    rw [(e (x + 62) (by omega) (by omega) (by omega)).2.2.1]
    exact C.2.2
theorem c_ringsX (R : RepX x y h A) (q : ∀ h', QF x h h' → RepX x y h' A → Q (some (.int (dayK (rvOf A.2.2.1) (-1) 1440).2.2.1)) h') : EvM w mX9_rings (d + 6) [.ref x] h Q := by
  refine bX9_rings_0 ⟨R.2.1.1, c_knowDay R (fun h2 F2 R2 D2 => ⟨rfl, R2.2.1.1, R2.2.1.2.2.2.2.2.2.2.2.2.1.1, ?_⟩)⟩
  obtain ⟨l, kr, j, _, Y⟩ := D2
  rw [Y.2.1.1, ← Y.2.1.2.1]
  exact q h2 F2 R2
theorem c_isPersonX {p : Int32} (R : RepX x y h A) (q : Q (some (.int (b01 (0 ≤ p ∧ p < nI (tN A.2.2.1.1))))) h) : EvM w mX9_isPerson d [.ref x, .int p] h Q := by
  obtain ⟨V, s1, G, Rv⟩ := R.st
  obtain ⟨_, ⟨l2, C2⟩, _⟩ := id Rv
  refine bX9_isPerson_0 ⟨fun c => ?_, fun c => ⟨R.2.1.1, R.2.1.2.2.2.2.2.1, s1, Rv.1, C2.1, fun c2 => ?_, fun c2 => ?_⟩⟩
  · rw [b01_0 (fun h => absurd (Int32.lt_of_lt_of_le c h.1) (Int32.lt_irrefl))] at q; exact q
  · rw [C2.2.2.2.1] at c2
    rw [b01_0 (fun h => absurd (Int32.lt_of_lt_of_le h.2 c2) (Int32.lt_irrefl))] at q; exact q
  · rw [C2.2.2.2.1] at c2
    rw [b01_1 ⟨Int32.not_lt.mp c, Int32.not_le.mp c2⟩] at q; exact q
theorem pers_of {p : Int32} {N : Nat} (hN : N ≤ 16) (c : 0 ≤ p ∧ p < nI N) : ∃ k, k < N ∧ p = nI k := by
  obtain ⟨k, hk, rfl⟩ := nI_of (Int32.not_lt.mpr c.1)
  have := c.2
  rw [nI_ltI hk (by omega)] at this
  exact ⟨k, this, rfl⟩
theorem c_ringX {i what : Int32} (R : RepX x y h A) (q : ∀ h', QF x h h' → RepX x y h' A → Q (some (.int (aRing (rvOf A.2.2.1) i what))) h') : EvM w mX9_ring (d + 6) [.ref x, .int i, .int what] h Q := by
  have hNn := R.st.1.1.1
  refine bX9_ring_0 ⟨R.2.1.1, c_knowDay R (fun h2 F2 R2 D2 => ⟨rfl, ?_⟩)⟩
  have q := q h2 F2 R2
  unfold aRing at q
  obtain ⟨l, kr, j, Dc, Y⟩ := D2
  have dl := R2.2.1.2.2.2.2.2.2.2.2.2.1
  obtain ⟨y3, y4, y5, y6, y7, y8⟩ := Y.2.1
  have hkr : kr ≤ 16 := by have : vN (rvOf A.2.2.1) = tN A.2.2.1.1 := rfl; omega
  rw [y4] at q
  generalize dayK (rvOf A.2.2.1) (-1) 1440 = S at q y6 y7 y8
  have ge : ∀ o, (hN h2 (x + 31 + o) = 16) → ∀ k, k < kr → gv (hN h2 (x + 31 + o)) (hI h2 (x + 31 + o)) (nI k) = hI h2 (x + 31 + o) k := fun o ho k hk => by rw [ho]; exact gv_nI (by omega) (by decide)
  refine ⟨fun c => by rw [if_pos c] at q; exact q, fun c => ⟨R2.2.1.1, dl.1, fun c2 => ?_, fun c2 => ?_⟩⟩
  · rw [y3] at c2
    rw [if_neg c, if_neg (Int32.not_le.mpr c2)] at q
    obtain ⟨k, hk, rfl⟩ := nI_of c
    rw [nI_ltI hk (by omega)] at c2
    rw [nI_clamp hk] at q
    refine ⟨fun c3 => ?_, fun c3 => ⟨fun c4 => ?_, fun c4 => ⟨fun c5 => ?_, fun c5 => ?_⟩⟩⟩
    · subst c3
      refine c_get (a := x + 31 + 10) (dl.1.s 7 rfl) (by rw [dl.2.2.2.2.2.2.2.2.1]; decide) ⟨_, rfl, ?_⟩
      rw [ge 10 dl.2.2.2.2.2.2.2.2.1 k c2, y6 k c2]
      exact q
    · subst c4
      refine c_get (a := x + 31 + 11) (dl.1.s 8 rfl) (by rw [dl.2.2.2.2.2.2.2.2.2.1]; decide) ⟨_, rfl, ?_⟩
      rw [ge 11 dl.2.2.2.2.2.2.2.2.2.1 k c2, y7 k c2]
      exact q
    · subst c5
      refine c_get (a := x + 31 + 12) (dl.1.s 9 rfl) (by rw [dl.2.2.2.2.2.2.2.2.2.2]; decide) ⟨_, rfl, ?_⟩
      rw [ge 12 dl.2.2.2.2.2.2.2.2.2.2 k c2, y8 k c2]
      exact q
    · rw [if_neg] at q
      · exact q
      · intro hh
        obtain ⟨k, hk, e⟩ := nI_of2 (x := what) (M := 2) (n := 2) (by decide) (Int32.not_lt.mpr hh.1) hh.2
        have : k = 0 ∨ k = 1 ∨ k = 2 := by omega
        rcases this with e2 | e2 | e2
        · exact c3 (by rw [e, e2]; decide)
        · exact c4 (by rw [e, e2]; decide)
        · exact c5 (by rw [e, e2]; decide)
  · rw [y3] at c2
    rw [if_neg c, if_pos (Int32.not_lt.mp c2)] at q
    exact q
theorem c_waitsX {p what : Int32} (R : RepX x y h A) (q : ∀ h', QF x h h' → RepX x y h' A → Q (some (.int (aWaits (rvOf A.2.2.1) p what))) h') : EvM w mX9_waits (d + 6) [.ref x, .int p, .int what] h Q := by
  have hNn := R.st.1.1.1
  refine bX9_waits_0 ⟨R.2.1.1, c_knowDay R (fun h2 F2 R2 D2 => ⟨rfl, R2.2.1.1, c_isPersonX R2 ⟨_, rfl, fun c => ?_, fun c => ?_⟩⟩)⟩
  · have q := q h2 F2 R2
    unfold aWaits at q
    rw [show vN (rvOf A.2.2.1) = tN A.2.2.1.1 from rfl] at q
    rw [if_neg (b01_z c)] at q
    exact q
  · have q := q h2 F2 R2
    unfold aWaits at q
    rw [show vN (rvOf A.2.2.1) = tN A.2.2.1.1 from rfl] at q
    have c := b01_n c
    rw [if_pos c] at q
    obtain ⟨k, hk, rfl⟩ := pers_of hNn c
    rw [nI_clamp (by omega)] at q
    obtain ⟨l, kr, j, Dc, Y⟩ := D2
    have dl := R2.2.1.2.2.2.2.2.2.2.2.2.1
    refine ⟨fun c3 => ⟨R2.2.1.1, c_waitOfX Dc Y hk ⟨_, rfl, ?_⟩⟩, fun c3 => ⟨fun c4 => ⟨R2.2.1.1, dl.1, c_get (a := x + 31 + 9) (dl.1.s 6 rfl) (by rw [dl.2.2.2.2.2.2.2.1]; decide) ⟨_, rfl, ?_⟩⟩, fun c4 => ?_⟩⟩
    · subst c3
      exact q
    · subst c4
      rw [dl.2.2.2.2.2.2.2.1, gv_nI (by omega) (by decide), Y.2.2.2.1.2 k hk]
      exact q
    · rw [if_neg] at q
      · exact q
      · intro hh
        obtain ⟨k, hk, e⟩ := nI_of2 (x := what) (M := 1) (n := 1) (by decide) (Int32.not_lt.mpr hh.1) hh.2
        have : k = 0 ∨ k = 1 := by omega
        rcases this with e2 | e2
        · exact c3 (by rw [e, e2]; decide)
        · exact c4 (by rw [e, e2]; decide)
end XPUB
