/-! Cells alike; the class's begin and letGoHome. -/
def same (h h' : am_H) (a : Nat) : Prop := hK h' a = hK h a ∧ hN h' a = hN h a ∧ hI h' a = hI h a ∧ hJ h' a = hJ h a ∧ hR h' a = hR h a
theorem same.rf {h : am_H} {a : Nat} : same h h a := ⟨rfl, rfl, rfl, rfl, rfl⟩
theorem same.tr {h h1 h2 : am_H} {a : Nat} (x : same h h1 a) (y : same h1 h2 a) : same h h2 a := ⟨y.1.trans x.1, y.2.1.trans x.2.1, y.2.2.1.trans x.2.2.1, y.2.2.2.1.trans x.2.2.2.1, y.2.2.2.2.trans x.2.2.2.2⟩
theorem FrA.same {Z : Nat → Prop} {h h1 : am_H} (F : FrA Z h h1) {a : Nat} (ha : ¬ Z a) : same h h1 a := ⟨by rw [F.1], by rw [F.2.1], F.I ha, by rw [F.2.2.1], by rw [F.2.2.2.1]⟩
theorem am_L.sm {ci a M : Nat} {h h' : am_H} (A : am_L ci a h) (hM : ∀ q ∈ am_lay ci, q.2.1 ≤ M) (e : ∀ b, a ≤ b → b ≤ a + M → same h h' b) : am_L ci a h' := by
  refine ⟨by rw [(e a (by omega) (by omega)).1]; exact A.1, fun q hq => ?_⟩
  have := hM q hq
  rw [(e a (by omega) (by omega)).2.2.2.2, (e (a + q.2.1) (by omega) (by omega)).1]
  exact A.2 q hq
theorem CwX.sm {c Lc n : Nat} {l : List Nat} {at_ wt ct : Nat → Int32} {h h1 : am_H} (C : CwX c Lc n l at_ wt ct h) (e : ∀ a, c ≤ a → a ≤ c + 5 → same h h1 a) : CwX c Lc n l at_ wt ct h1 := by
  obtain ⟨c1, c2, c3, c4, c5, c6, c7, c8, c9⟩ := C
  unfold CwX
  rw [(e (c + 1) (by omega) (by omega)).2.1, (e (c + 2) (by omega) (by omega)).2.1, (e (c + 3) (by omega) (by omega)).2.1, (e (c + 4) (by omega) (by omega)).2.1, (e (c + 5) (by omega) (by omega)).2.1, (e c (by omega) (by omega)).2.2.1, (e (c + 1) (by omega) (by omega)).2.2.1, (e (c + 3) (by omega) (by omega)).2.2.1, (e (c + 4) (by omega) (by omega)).2.2.1, (e (c + 5) (by omega) (by omega)).2.2.1]
  exact ⟨c1.sm (M := 5) (by decide) e, c2, c3, c4, c5, c6, c7, c8, c9⟩
theorem LawX.sm {ρ : Nat} {h h1 : am_H} {u : Int32} {lf : (Nat → Int32) → Int32} (A : LawX ρ h u lf) (e : ∀ a, ρ ≤ a → a ≤ ρ + 11 → same h h1 a) (e2 : same h h1 (hR h ρ 5)) : LawX ρ h1 u lf := by
  unfold LawX
  rw [(e ρ (by omega) (by omega)).2.2.2.2, (e (ρ + 10) (by omega) (by omega)).2.1, (e (ρ + 10) (by omega) (by omega)).2.2.1, e2.1, e2.2.1, e2.2.2.1]
  exact A
theorem RvY.sm {ρ : Nat} {h h1 : am_H} {room : Nat} {trip boats u : Int32} {lf : (Nat → Int32) → Int32} (A : RvY ρ h room trip boats u lf) (e : ∀ a, ρ ≤ a → a ≤ ρ + 11 → same h h1 a) (e2 : same h h1 (hR h ρ 5)) : RvY ρ h1 room trip boats u lf := by
  obtain ⟨a1, a2, a3, a4, a5, a6, a7, a8, a9⟩ := A
  unfold RvY
  rw [(e ρ (by omega) (by omega)).2.2.1]
  exact ⟨a1.sm (M := 11) (by decide) e, a2, a3, a4, a5, a6, a7, a8.sm e e2, a9⟩
/-- the cells of a day -/
def DLy (D L : Nat) (h : am_H) : Prop := am_L 3 D h ∧ BkL (D + 4) L h ∧ BkL (D + 6) L h ∧ (hN h (D + 1) = 2 ∧ hN h (D + 2) = 6 ∧ hN h (D + 3) = 32 ∧ hN h (D + 8) = L ∧ hN h (D + 9) = L ∧ hN h (D + 10) = L ∧ hN h (D + 11) = L ∧ hN h (D + 12) = L)
/-- a day is begun anew -/
def FrG (D : Nat) (h h' : am_H) : Prop := hK h' = hK h ∧ hN h' = hN h ∧ hJ h' = hJ h ∧ hZ h' = hZ h ∧ hS h' = hS h ∧ (∀ a, a ≠ D → hR h' a = hR h a) ∧ (∀ k, k < 12 → hR h' D k = hR h D k) ∧ ∀ a, ¬ ZD D a → hI h' a = hI h a
theorem FrG.rf {D : Nat} {h : am_H} : FrG D h h := ⟨rfl, rfl, rfl, rfl, rfl, fun _ _ => rfl, fun _ _ => rfl, fun _ _ => rfl⟩
theorem FrG.tr {D : Nat} {h h1 h2 : am_H} (a : FrG D h h1) (b : FrG D h1 h2) : FrG D h h2 := by
  obtain ⟨a1, a2, a3, a4, a5, a6, a7, a8⟩ := a
  obtain ⟨b1, b2, b3, b4, b5, b6, b7, b8⟩ := b
  exact ⟨b1.trans a1, b2.trans a2, b3.trans a3, b4.trans a4, b5.trans a5, fun x hx => (b6 x hx).trans (a6 x hx), fun k hk => (b7 k hk).trans (a7 k hk), fun x hx => (b8 x hx).trans (a8 x hx)⟩
theorem FrY.g {D : Nat} {h h1 : am_H} (F : FrY D h h1) : FrG D h h1 := ⟨F.1.1, F.1.2.1, F.1.2.2.1, F.1.2.2.2.2.1, F.1.2.2.2.2.2.1, fun a _ => by rw [F.1.2.2.2.1], fun k _ => by rw [F.1.2.2.2.1], fun a ha => F.1.I ha⟩
theorem FrA.g {D : Nat} {Z : Nat → Prop} {h h1 : am_H} (F : FrA Z h h1) (hz : ∀ a, Z a → ZD D a) : FrG D h h1 := ⟨F.1, F.2.1, F.2.2.1, F.2.2.2.2.1, F.2.2.2.2.2.1, fun a _ => by rw [F.2.2.2.1], fun k _ => by rw [F.2.2.2.1], fun a ha => F.I (fun z => ha (hz a z))⟩
theorem FrG.same {D : Nat} {h h1 : am_H} (F : FrG D h h1) {a : Nat} (ha : Out D a) : same h h1 a := by
  unfold Out at ha
  exact ⟨by rw [F.1], by rw [F.2.1], F.2.2.2.2.2.2.2 a (by unfold ZD; omega), by rw [F.2.2.1], F.2.2.2.2.2.1 a (by omega)⟩
theorem FrG.ref {D k v : Nat} {h h1 : am_H} (F : FrG D h h1) (hk : 12 ≤ k) : FrG D h (sR h1 D k v) :=
  F.tr ⟨rfl, rfl, rfl, rfl, rfl, fun a ha => va_up_ne _ _ ha, fun j hj => by show va_up (hR h1) D _ D j = _; rw [va_up_self, va_up_ne _ _ (by omega)], fun _ _ => rfl⟩
theorem FrG.fld {D k : Nat} {v : Int32} {h h1 : am_H} (F : FrG D h h1) : FrG D h (sI h1 D k v) :=
  F.tr ⟨rfl, rfl, rfl, rfl, rfl, fun a ha => rfl, fun j hj => rfl, fun a ha => by rw [sI_r, hI_rn _ _ (fun e => ha (by rw [e]; exact ⟨Nat.le_refl _, by omega⟩))]⟩
theorem BkL.g {D B L : Nat} {h h1 : am_H} (K : BkL B L h) (F : FrG D h h1) (hB : B ≠ D) : BkL B L h1 := by
  obtain ⟨⟨k1, k2⟩, k3, k4⟩ := K
  refine ⟨⟨by rw [F.1]; exact k1, fun q hq => ?_⟩, by rw [F.2.1]; exact k3, k4⟩
  rw [F.2.2.2.2.2.1 B hB, F.1]
  exact k2 q hq
theorem DLy.g {D L : Nat} {h h1 : am_H} (A : DLy D L h) (F : FrG D h h1) : DLy D L h1 := by
  obtain ⟨⟨k1, k2⟩, a2, a3, a4⟩ := A
  refine ⟨⟨by rw [F.1]; exact k1, fun q hq => ?_⟩, a2.g F (by omega), a3.g F (by omega), by rw [F.2.1]; exact a4⟩
  have h12 : ∀ q ∈ am_lay 3, q.1 < 12 := by decide
  rw [F.2.2.2.2.2.2.1 _ (h12 q hq), F.1]
  exact k2 q hq
def canB (boats : Int32) : rS := (fun _ => -1, fun _ => -1, 0, fun _ => 0, fun _ => 0, fun _ => 0, 0, if boats = 2 then 0 else 100000)
section XBEGIN
variable {w : am_W} {d : Nat} {h h1 : am_H} {Q : Option Value → am_H → Prop} {D L Lc n ρ c s room kr j : Nat} {P : rP} {l X0 X1 : List Nat} {trip boats : Int32} {lf : (Nat → Int32) → Int32} {S : rS}
theorem DC.ly (A : DC D L Lc n ρ c s P l room trip boats lf h) : DLy D L h := ⟨A.1, A.2.1, A.2.2.1, A.2.2.2.1⟩
theorem c_empty {B : Nat} {ct wt : Nat → Int32} (K : am_L 0 B h) (q : ∀ h', FrA (fun a => a = B) h h' → Bk B h' [] 0 ct wt 0 → Q none h') : EvM w mX0_empty d [.ref B] h Q := by
  refine bX0_empty_0 ⟨K, fun h2 e2 h3 e3 h4 e4 h5 e5 h6 e6 => ?_⟩
  have i6 : hI h6 B = va_up (va_up (va_up (va_up (va_up (hI h B) 1 0) 2 0) 3 0) 4 0) 5 0 := by
    rw [e6, e5, e4, e3, e2]
    simp only [sI_r, hI_rs]
  refine q h6 ?_ ⟨0, ?_, ?_, Nat.le_refl _, trivial, ?_, ?_, ?_⟩
  · rw [e6, e5, e4, e3, e2]
    refine FrA.fld (FrA.fld (FrA.fld (FrA.fld (FrA.fld FrA.rf ?_) ?_) ?_) ?_) ?_ <;> exact rfl
  · rw [i6]; simp [va_ui, nI_0]
  · rw [i6]; simp [va_ui, nI_0]
  · rw [i6]; simp [va_ui, sm]
  · rw [i6]; simp [va_ui, sm]
  · rw [i6]; simp [va_ui]
/-- what a day needs of people and river, apart from it -/
def DNeed (D Lc n ρ c s : Nat) (P : rP) (l : List Nat) (room : Nat) (trip boats : Int32) (lf : (Nat → Int32) → Int32) (h : am_H) : Prop := (ρ ≠ 0 ∧ c ≠ 0 ∧ s ≠ 0) ∧ ((∀ a, ρ ≤ a → a ≤ ρ + 11 → Out D a) ∧ (∀ a, c ≤ a → a ≤ c + 5 → Out D a) ∧ Out D s ∧ Out D (hR h ρ 5)) ∧
  CwX c Lc n l P.2.2.2.1 P.2.2.2.2.1 P.2.2.2.2.2.2 h ∧ (hK h s = 12 ∧ n ≤ hN h s ∧ hN h s ≤ 300 ∧ eqR n (hI h s) P.2.2.1) ∧ RvY ρ h room trip boats P.2.1 lf ∧ PpOK P n
theorem DNeed.g (A : DNeed D Lc n ρ c s P l room trip boats lf h) (F : FrG D h h1) : DNeed D Lc n ρ c s P l room trip boats lf h1 := by
  obtain ⟨a0, ⟨o1, o2, o3, o4⟩, a3, a4, a5, a6⟩ := A
  have eρ : ∀ a, ρ ≤ a → a ≤ ρ + 11 → same h h1 a := fun a h1 h2 => F.same (o1 a h1 h2)
  refine ⟨a0, ⟨o1, o2, o3, by rw [(eρ ρ (by omega) (by omega)).2.2.2.2]; exact o4⟩, a3.sm (fun a h1 h2 => F.same (o2 a h1 h2)), ?_, a5.sm eρ (F.same o4), a6⟩
  obtain ⟨s1, s2, s3, s4, s5⟩ := F.same o3
  rw [s1, s2, s3]
  exact a4
set_option maxHeartbeats 4000000 in
theorem c_begin (Y : DLy D L h) (hn : n ≤ L) (N : DNeed D Lc n ρ c s P l room trip boats lf h)
    (q : ∀ h', FrG D h h' → DC D L Lc n ρ c s P l room trip boats lf h' → YS D n P l boats h' (canB boats) 0 0 → hI h' D 16 = -1 → hI h' D 17 = nI 1440 → Q none h') : EvM w mX3_begin (d + 1) [.ref D, .ref ρ, .int P.2.1, .ref c, .ref s] h Q := by
  obtain ⟨⟨zρ, zc, zs⟩, _⟩ := id N
  have hL := Y.2.1.2.2
  refine bX3_begin_0 ⟨Y.1, zρ, fun h3 e3 h4 e4 => ⟨zc, fun h6 e6 => ⟨zs, fun h8 e8 => ?_⟩⟩⟩
  have F8 : FrG D h h8 := by rw [e8, e6, e4, e3]; exact (((FrG.rf.ref (by decide)).fld).ref (by decide)).ref (by decide)
  have Y8 := Y.g F8
  have N8 := N.g F8
  have R12 : hR h8 D 12 = ρ ∧ hR h8 D 13 = c ∧ hR h8 D 14 = s := by
    have s1 : ∀ (g : am_H) (k v : Nat), hR (sR g D k v) D = va_up (hR g D) k v := fun g k v => va_up_self _ _ _
    have s2 : ∀ (g : am_H) (k : Nat) (v : Int32), hR (sI g D k v) = hR g := fun g k v => rfl
    rw [e8, e6, e4, e3]
    simp [s1, s2, va_ui]
  have u8 : hI h8 D 15 = P.2.1 := by
    rw [e8, e6, e4]
    show va_up (hI h3) D _ D 15 = _
    rw [va_up_self, va_up_self]
  obtain ⟨_, _, C8, _⟩ := id N8
  have loop : ∀ k p, p + k = n → ∀ hc, FrA (fun a => a = D + 8 ∨ a = D + 9) h8 hc → (∀ x, x < p → hI hc (D + 8) x = 1440 ∧ hI hc (D + 9) x = -1) → Ev w (am_Z w) mX3_begin (d + 1) 24 [(0, .ref D), (3, .ref c), (5, .int (nI p))] [] hc Q := by
    intro k
    induction k with
    | zero =>
      intro p hp hc F T
      have hp : p = n := by omega
      subst hp
      have Cc := C8.fr F (fun a h1 h2 => by obtain ⟨_, ⟨_, o2, _⟩, _⟩ := N8; have := o2 a h1 h2; unfold Out at this; omega)
      have a1 := F.L Y8.1
      have k1 : hK hc (D + 1) = 12 := a1.s 0 rfl
      have n1 : hN hc (D + 1) = 2 := by rw [F.N]; exact Y8.2.2.2.1
      refine bX3_begin_24 ⟨Cc.1, fun _ => ⟨a1, c_set k1 (by omega) ⟨rfl, FrA.L (Z := fun _ => True) (FrA.rf.row trivial) a1, ?_⟩⟩, fun c1 => absurd (by rw [Cc.2.2.2.1]; exact Int32.le_refl _) c1⟩
      rw [n1, show sv 2 (hI hc (D + 1)) 0 0 = va_up (hI hc (D + 1)) 0 0 by rw [← nI_0, sv_nI (by decide) (by decide)]]
      generalize hh3 : rI hc (D + 1) (va_up (hI hc (D + 1)) 0 0) = g3
      have G3 : FrA (fun a => a = D + 1) hc g3 := by rw [← hh3]; exact FrA.rf.row rfl
      have j3 : hI g3 (D + 1) = va_up (hI hc (D + 1)) 0 0 := by rw [← hh3, hI_rs]
      refine c_set (by rw [G3.K]; exact k1) (by rw [G3.N]; omega) ⟨rfl, FrA.L (Z := fun _ => True) (FrA.rf.row trivial) (G3.L a1), ?_⟩
      rw [G3.N, n1, j3, show sv 2 (va_up (hI hc (D + 1)) 0 0) 1 0 = va_up (va_up (hI hc (D + 1)) 0 0) 1 0 by rw [show (1 : Int32) = nI 1 by decide, sv_nI (by decide) (by decide)]]
      generalize hh6 : rI g3 (D + 1) (va_up (va_up (hI hc (D + 1)) 0 0) 1 0) = g6
      have G6 : FrA (fun a => a = D + 1) hc g6 := by rw [← hh6]; exact G3.row rfl
      have j6 : hI g6 (D + 1) = va_up (va_up (hI hc (D + 1)) 0 0) 1 0 := by rw [← hh6, hI_rs]
      refine c_empty (ct := P.2.2.2.2.2.2) (wt := P.2.2.2.2.1) (G6.L (F.L Y8.2.1.1)) (fun g9 G9 b9 => ⟨rfl, G9.L (G6.L a1), c_empty (ct := P.2.2.2.2.2.2) (wt := P.2.2.2.2.1) (G9.L (G6.L (F.L Y8.2.2.1.1))) (fun g12 G12 b12 => ⟨rfl, G12.L (G9.L (G6.L a1)), fun h15 e15 h16 e16 h17 e17 h18 e18 => ?_⟩)⟩)
      have H12 : FrA (fun a => a = D + 1 ∨ a = D + 4 ∨ a = D + 6 ∨ a = D + 8 ∨ a = D + 9) h8 g12 := ((F.mono (fun x hx => by omega)).tr ((G6.mono (fun x hx => by omega)).tr ((G9.mono (fun x hx => by omega)).tr (G12.mono (fun x hx => by omega)))))
      have d18 : hI h18 D = va_up (va_up (va_up (va_up (hI h8 D) 10 0) 11 0) 16 (-1)) 17 1440 := by
        rw [e18, e17, e16, e15]
        simp only [sI_r, hI_rs]
        rw [H12.I (by omega)]
      have i18 : ∀ x, x ≠ D → hI h18 x = hI g12 x := fun x hx => by
        rw [e18, e17, e16, e15]
        simp only [sI_r]
        rw [hI_rn _ _ hx, hI_rn _ _ hx, hI_rn _ _ hx, hI_rn _ _ hx]
      have F18 : FrG D h8 h18 := by
        rw [e18, e17, e16, e15]
        exact ((((H12.g (D := D) (fun a ha => by unfold ZD; omega)).fld).fld).fld).fld
      have F18' := F8.tr F18
      have N18 := N.g F18'
      have Y18 := Y.g F18'
      have R18 : hR h18 = hR h8 := by
        rw [e18, e17, e16, e15]
        exact H12.2.2.2.1
      have D18 : DC D L Lc p ρ c s P l room trip boats lf h18 := by
        obtain ⟨n1, n2, n3, n4, n5, n6⟩ := id N18
        refine ⟨Y18.1, Y18.2.1, Y18.2.2.1, Y18.2.2.2, hn, by rw [R18]; exact ⟨R12.1, R12.2.1, R12.2.2, zρ, zc, zs⟩, n2, n3, n4, n5, ?_, n6⟩
        rw [d18]
        simp only [va_ui]
        exact u8
      refine q h18 F18' D18 ⟨⟨by rw [d18]; simp [va_ui, nI_0], Nat.zero_le _⟩, ⟨by rw [d18]; simp [va_ui, nI_0], nI_0.symm, by rw [Nat.zero_add]; exact cnt_le _ _, fun x hx => absurd hx (Nat.not_lt_zero _), fun x hx => absurd hx (Nat.not_lt_zero _), fun x hx => absurd hx (Nat.not_lt_zero _)⟩, ?_, ⟨fun x hx => ?_, fun x hx => ?_⟩, fun x hx => rfl, ?_, ?_⟩ (by rw [d18]; simp [va_ui]) (by rw [d18]; rfl)
      · have e1 : hI h18 (D + 1) = va_up (va_up (hI hc (D + 1)) 0 0) 1 0 := by rw [i18 _ (by omega), G12.I (by omega), G9.I (by omega), j6]
        rw [e1]
        refine ⟨rfl, fun e => ?_, fun e => ?_⟩
        · show _ = if boats = 2 then (0 : Int32) else 100000
          rw [if_pos e]; rfl
        · show (if boats = 2 then (0 : Int32) else 100000) = 100000
          rw [if_neg (by rw [e]; decide)]
      · rw [i18 _ (by omega), G12.I (by omega), G9.I (by omega), G6.I (by omega), (T x hx).1]
        rfl
      · rw [i18 _ (by omega), G12.I (by omega), G9.I (by omega), G6.I (by omega), (T x hx).2]
        rfl
      · rw [List.take_zero]
        exact b9.cg (by rw [i18 _ (by omega), G12.I (by omega)]) (by rw [i18 _ (by omega), G12.I (by omega)])
      · rw [List.take_zero]
        exact b12.cg (i18 _ (by omega)) (i18 _ (by omega))
    | succ k ih =>
      intro p hp hc F T
      have Cc := C8.fr F (fun a h1 h2 => by obtain ⟨_, ⟨_, o2, _⟩, _⟩ := N8; have := o2 a h1 h2; unfold Out at this; omega)
      have a1 := F.L Y8.1
      have n8 : hN hc (D + 8) = L := by rw [F.N]; exact Y8.2.2.2.2.2.2.1
      have n9 : hN hc (D + 9) = L := by rw [F.N]; exact Y8.2.2.2.2.2.2.2.1
      refine bX3_begin_24 ⟨Cc.1, fun c1 => absurd c1 (by rw [Cc.2.2.2.1, nI_leI (by omega) (by omega)]; omega), fun _ => ⟨a1, c_set (a1.s 5 rfl) (by omega) ⟨rfl, FrA.L (Z := fun _ => True) (FrA.rf.row trivial) a1, ?_⟩⟩⟩
      rw [n8, sv_nI (by omega) (by omega)]
      generalize hh3 : rI hc (D + 8) (va_up (hI hc (D + 8)) p 1440) = g3
      have G3 : FrA (fun a => a = D + 8 ∨ a = D + 9) hc g3 := by rw [← hh3]; exact FrA.rf.row (Or.inl rfl)
      have j3 : hI g3 (D + 8) = va_up (hI hc (D + 8)) p 1440 := by rw [← hh3, hI_rs]
      have k3 : hI g3 (D + 9) = hI hc (D + 9) := by rw [← hh3, hI_rn _ _ (by omega)]
      refine c_set (by rw [G3.K]; exact a1.s 6 rfl) (by rw [G3.N]; omega) ⟨rfl, ?_⟩
      rw [G3.N, n9, sv_nI (by omega) (by omega), k3, nI_1]
      refine ih (p + 1) (by omega) _ ((F.tr G3).row (Or.inr rfl)) (fun x hx => ?_)
      rw [hI_rs, hI_rn _ _ (show D + 8 ≠ D + 9 by omega), j3]
      by_cases e : x = p
      · rw [e, va_up_self, va_up_self]; exact ⟨rfl, rfl⟩
      · rw [va_up_ne _ _ e, va_up_ne _ _ e]; exact T x (by omega)
  exact loop n 0 (by omega) h8 FrA.rf (fun x hx => absurd hx (Nat.not_lt_zero _))
end XBEGIN
