/-! The class's crowds and banks. -/
/-- nothing but some rows of ints is changed -/
def FrA (Z : Nat → Prop) (h h' : am_H) : Prop := hK h' = hK h ∧ hN h' = hN h ∧ hJ h' = hJ h ∧ hR h' = hR h ∧ hZ h' = hZ h ∧ hS h' = hS h ∧ ∀ a, ¬ Z a → hI h' a = hI h a
section FRA
variable {Z Z' : Nat → Prop} {h h1 h2 : am_H}
theorem FrA.rf : FrA Z h h := ⟨rfl, rfl, rfl, rfl, rfl, rfl, fun _ _ => rfl⟩
theorem FrA.tr (a : FrA Z h h1) (b : FrA Z h1 h2) : FrA Z h h2 := by
  obtain ⟨a1, a2, a3, a4, a5, a6, a7⟩ := a
  obtain ⟨b1, b2, b3, b4, b5, b6, b7⟩ := b
  exact ⟨b1.trans a1, b2.trans a2, b3.trans a3, b4.trans a4, b5.trans a5, b6.trans a6, fun x hx => (b7 x hx).trans (a7 x hx)⟩
theorem FrA.mono (a : FrA Z h h1) (m : ∀ x, Z x → Z' x) : FrA Z' h h1 := by
  obtain ⟨a1, a2, a3, a4, a5, a6, a7⟩ := a
  exact ⟨a1, a2, a3, a4, a5, a6, fun x hx => a7 x (fun z => hx (m x z))⟩
theorem FrA.row {a : Nat} {f : Nat → Int32} (F : FrA Z h h1) (ha : Z a) : FrA Z h (rI h1 a f) :=
  F.tr ⟨rfl, rfl, rfl, rfl, rfl, rfl, fun x hx => hI_rn _ _ (fun e => hx (by rw [e]; exact ha))⟩
theorem FrA.fld {a k : Nat} {v : Int32} (F : FrA Z h h1) (ha : Z a) : FrA Z h (sI h1 a k v) := F.row ha
theorem FrA.L {ci a : Nat} (F : FrA Z h h1) (L : am_L ci a h) : am_L ci a h1 := by
  refine ⟨by rw [F.1]; exact L.1, fun q hq => ?_⟩
  rw [F.2.2.2.1, F.1]
  exact L.2 q hq
theorem FrA.K (F : FrA Z h h1) (a : Nat) : hK h1 a = hK h a := by rw [F.1]
theorem FrA.N (F : FrA Z h h1) (a : Nat) : hN h1 a = hN h a := by rw [F.2.1]
theorem FrA.R (F : FrA Z h h1) (a k : Nat) : hR h1 a k = hR h a k := by rw [F.2.2.2.1]
theorem FrA.I (F : FrA Z h h1) {a : Nat} (ha : ¬ Z a) : hI h1 a = hI h a := F.2.2.2.2.2.2 a ha
end FRA
/-- a stretch of a row holds a list -/
def Rw (f : Nat → Int32) : Nat → List Nat → Prop
  | _, [] => True
  | i, x :: X => f i = nI x ∧ Rw f (i + 1) X
theorem Rw.cg {f f' : Nat → Int32} : ∀ {X : List Nat} {i : Nat}, Rw f i X → (∀ k, i ≤ k → k < i + X.length → f' k = f k) → Rw f' i X := by
  intro X
  induction X with
  | nil => intro i _ _; exact trivial
  | cons x X ih =>
    intro i h e
    refine ⟨by rw [e i (Nat.le_refl _) (by simp)]; exact h.1, ih h.2 (fun k h1 h2 => e k (by omega) (by rw [List.length_cons]; omega))⟩
theorem Rw.sh {f f' : Nat → Int32} : ∀ {X : List Nat} {i : Nat}, Rw f i X → (∀ k, i ≤ k → k < i + X.length → f' (k + 1) = f k) → Rw f' (i + 1) X := by
  intro X
  induction X with
  | nil => intro i _ _; exact trivial
  | cons x X ih =>
    intro i h e
    refine ⟨by rw [e i (Nat.le_refl _) (by simp)]; exact h.1, ih h.2 (fun k h1 h2 => e k (by omega) (by rw [List.length_cons]; omega))⟩
theorem Rw_app {f : Nat → Int32} : ∀ {X Y : List Nat} {i : Nat}, Rw f i (X ++ Y) ↔ Rw f i X ∧ Rw f (i + X.length) Y := by
  intro X
  induction X with
  | nil => intro Y i; simp [Rw]
  | cons x X ih =>
    intro Y i
    rw [List.cons_append, Rw, Rw, ih, List.length_cons, show i + 1 + X.length = i + (X.length + 1) by omega, and_assoc]
theorem Rw.get {f : Nat → Int32} : ∀ {X : List Nat} {i : Nat}, Rw f i X → ∀ k (hk : k < X.length), f (i + k) = nI X[k] := by
  intro X
  induction X with
  | nil => intro i _ k hk; exact absurd hk (Nat.not_lt_zero _)
  | cons x X ih =>
    intro i h k hk
    cases k with
    | zero => exact h.1
    | succ k =>
      have := ih h.2 k (by rw [List.length_cons] at hk; omega)
      rw [show i + 1 + k = i + (k + 1) by omega] at this
      exact this
/-- a crowd of n, who come in the order l -/
def CwX (c Lc n : Nat) (l : List Nat) (at_ wt ct : Nat → Int32) (h : am_H) : Prop := am_L 2 c h ∧ (hN h (c + 1) = Lc ∧ hN h (c + 2) = Lc ∧ hN h (c + 3) = Lc ∧ hN h (c + 4) = Lc ∧ hN h (c + 5) = Lc) ∧ (n ≤ Lc ∧ Lc ≤ 300) ∧ hI h c 5 = nI n ∧ eqR n (hI h (c + 1)) at_ ∧ eqR n (hI h (c + 3)) wt ∧ eqR n (hI h (c + 4)) ct ∧ OrdL at_ n l ∧ Rw (hI h (c + 5)) 0 l
theorem CwX.fr {c Lc n : Nat} {l : List Nat} {at_ wt ct : Nat → Int32} {h h1 : am_H} {Z : Nat → Prop} (C : CwX c Lc n l at_ wt ct h) (F : FrA Z h h1) (hz : ∀ a, c ≤ a → a ≤ c + 5 → ¬ Z a) : CwX c Lc n l at_ wt ct h1 := by
  obtain ⟨c1, ⟨n1, n2, n3, n4, n5⟩, c3, c4, c5, c6, c7, c8, c9⟩ := C
  rw [← F.N] at n1 n2 n3 n4 n5
  rw [← F.I (hz c (by omega) (by omega))] at c4
  rw [← F.I (hz (c + 1) (by omega) (by omega))] at c5
  rw [← F.I (hz (c + 3) (by omega) (by omega))] at c6
  rw [← F.I (hz (c + 4) (by omega) (by omega))] at c7
  rw [← F.I (hz (c + 5) (by omega) (by omega))] at c9
  exact ⟨F.L c1, ⟨n1, n2, n3, n4, n5⟩, c3, c4, c5, c6, c7, c8, c9⟩
/-- those who wait on a bank, its guests -/
def Bk (B : Nat) (h : am_H) (X : List Nat) (j : Nat) (ct wt : Nat → Int32) (gs : Int32) : Prop := ∃ hd, hI h B 1 = nI hd ∧ hI h B 2 = nI (hd + X.length) ∧ hd + X.length ≤ j ∧ Rw (hI h (B + 1)) hd X ∧ hI h B 3 = sm ct X ∧ hI h B 4 = sm wt X ∧ hI h B 5 = gs
theorem Bk.cg {B : Nat} {h h1 : am_H} {X : List Nat} {j : Nat} {ct wt : Nat → Int32} {gs : Int32} (K : Bk B h X j ct wt gs) (e1 : hI h1 B = hI h B) (e2 : hI h1 (B + 1) = hI h (B + 1)) : Bk B h1 X j ct wt gs := by
  obtain ⟨hd, k1, k2, k3, k4, k5, k6, k7⟩ := K
  exact ⟨hd, by rw [e1]; exact k1, by rw [e1]; exact k2, k3, by rw [e2]; exact k4, by rw [e1]; exact k5, by rw [e1]; exact k6, by rw [e1]; exact k7⟩
theorem Bk.up {B : Nat} {h : am_H} {X : List Nat} {j j' : Nat} {ct wt : Nat → Int32} {gs : Int32} (K : Bk B h X j ct wt gs) (hj : j ≤ j') : Bk B h X j' ct wt gs := by
  obtain ⟨hd, k1, k2, k3, k4⟩ := K
  exact ⟨hd, k1, k2, by omega, k4⟩
def ZB (B : Nat) (a : Nat) : Prop := a = B ∨ a = B + 1
/-- a bank's row has room -/
def BkL (B L : Nat) (h : am_H) : Prop := am_L 0 B h ∧ hN h (B + 1) = L ∧ L ≤ 300
theorem BkL.fr {B L : Nat} {h h1 : am_H} {Z : Nat → Prop} (K : BkL B L h) (F : FrA Z h h1) : BkL B L h1 := ⟨F.L K.1, by rw [F.N]; exact K.2.1, K.2.2⟩
section XBANK
variable {w : am_W} {d : Nat} {h : am_H} {Q : Option Value → am_H → Prop} {B L c Lc n j : Nat} {l X : List Nat} {at_ wt ct : Nat → Int32} {gs : Int32}
theorem CwX.order (C : CwX c Lc n l at_ wt ct h) {i : Nat} (hi : i < n) : hI h (c + 5) i = nI (l[i]'(by rw [C.2.2.2.2.2.2.2.1.len]; exact hi)) := by
  have := C.2.2.2.2.2.2.2.2.get i (by rw [C.2.2.2.2.2.2.2.1.len]; exact hi)
  rw [Nat.zero_add] at this
  exact this
theorem c_timeAt (C : CwX c Lc n l at_ wt ct h) {i : Nat} (hi : i < n) (q : Q (some (.int (at_ (l[i]'(by rw [C.2.2.2.2.2.2.2.1.len]; exact hi))))) h) : EvM w mX2_timeAt (d + 1) [.ref c, .int (nI i)] h Q := by
  have hor := C.order hi
  have hl : l[i]'(by rw [C.2.2.2.2.2.2.2.1.len]; exact hi) < n := C.2.2.2.2.2.2.2.1.mem.mp (List.getElem_mem _)
  obtain ⟨c1, ⟨n1, n2, n3, n4, n5⟩, ⟨c3, c3'⟩, c4, c5, c6, c7, c8, c9⟩ := C
  refine bX2_timeAt_0 ⟨c1, c_get (c1.s 4 rfl) (by omega) ⟨_, rfl, ?_⟩⟩
  rw [gv_nI (by omega) (by omega), hor]
  refine c_get (c1.s 0 rfl) (by omega) ⟨_, rfl, ?_⟩
  rw [gv_nI (by omega) (by omega), c5 _ hl]
  exact q
theorem c_joinX {p tl : Nat} (K : BkL B L h) (C : CwX c Lc n l at_ wt ct h) (hB : B + 1 < c ∨ c + 5 < B) (hp : p < n) (ht : hI h B 2 = nI tl) (htl : tl < L)
    (q : ∀ h', FrA (ZB B) h h' → hI h' (B + 1) = va_up (hI h (B + 1)) tl (nI p) → hI h' B = va_up (va_up (va_up (hI h B) 2 (nI (tl + 1))) 3 (hI h B 3 + ct p)) 4 (hI h B 4 + wt p) → Q none h') : EvM w mX0_join (d + 1) [.ref B, .int (nI p), .ref c] h Q := by
  obtain ⟨k1, k2, k3⟩ := K
  obtain ⟨c1, ⟨n1, n2, n3, n4, n5⟩, ⟨c3, c3'⟩, c4, c5, c6, c7, c8, c9⟩ := C
  have e4 : ∀ {f : Nat → Int32} {g : Nat → Int32} {v : Int32}, hI (sI (rI h (B + 1) f) B 2 v) (c + 4) = hI h (c + 4) := by
    intro f g v
    rw [sI_r, hI_rn _ _ (by omega), hI_rn _ _ (by omega)]
  refine bX0_join_0 ⟨k1, c_set (k1.s 0 rfl) (by omega) ⟨rfl, k1, fun h5 e5 => ⟨by rw [e5]; exact c1, ?_⟩⟩⟩
  rw [k2, ht, sv_nI htl (by omega)] at e5
  rw [show hI (rI h (B + 1) (va_up (hI h (B + 1)) tl (nI p))) B 2 = nI tl by rw [hI_rn _ _ (by omega)]; exact ht, nI_1] at e5
  have i5 : ∀ a, hI h5 a = if a = B then va_up (hI h B) 2 (nI (tl + 1)) else if a = B + 1 then va_up (hI h (B + 1)) tl (nI p) else hI h a := by
    intro a
    rw [e5, sI_r, hI_ri, hI_ri, hI_ri]
    by_cases h1 : a = B
    · rw [if_pos h1, if_pos h1, if_neg (by omega)]
    · rw [if_neg h1, if_neg h1]
  have F5 : FrA (ZB B) h h5 := by rw [e5]; exact (FrA.rf.row (Or.inr rfl)).fld (Or.inl rfl)
  have x4 : hI h5 (c + 4) = hI h (c + 4) := by rw [i5, if_neg (by omega), if_neg (by omega)]
  refine c_get (by rw [F5.K]; exact c1.s 3 rfl) (by rw [F5.N]; omega) ⟨_, rfl, F5.L k1, fun h11 e11 => ?_⟩
  rw [F5.N, n4, x4, gv_nI (by omega) (by omega), c7 p hp] at e11
  have F11 : FrA (ZB B) h h11 := by rw [e11]; exact F5.fld (Or.inl rfl)
  have x3 : hI h11 (c + 3) = hI h (c + 3) := by rw [e11, sI_r, hI_rn _ _ (by omega), i5, if_neg (by omega), if_neg (by omega)]
  refine ⟨F11.L c1, c_get (by rw [F11.K]; exact c1.s 2 rfl) (by rw [F11.N]; omega) ⟨_, rfl, F11.L k1, fun h17 e17 => ?_⟩⟩
  rw [F11.N, n3, x3, gv_nI (by omega) (by omega), c6 p hp] at e17
  have F17 : FrA (ZB B) h h17 := by rw [e17]; exact F11.fld (Or.inl rfl)
  refine q h17 F17 ?_ ?_
  · rw [e17, sI_r, hI_rn _ _ (by omega), e11, sI_r, hI_rn _ _ (by omega), i5, if_neg (by omega), if_pos rfl]
  · have b5 : hI h5 B = va_up (hI h B) 2 (nI (tl + 1)) := by rw [i5, if_pos rfl]
    have b11 : hI h11 B = va_up (va_up (hI h B) 2 (nI (tl + 1))) 3 (hI h B 3 + ct p) := by
      rw [e11, sI_r, hI_rs, b5, va_up_ne _ _ (show (3 : Nat) ≠ 2 by decide)]
    rw [e17, sI_r, hI_rs, b11, va_up_ne _ _ (show (4 : Nat) ≠ 3 by decide), va_up_ne _ _ (show (4 : Nat) ≠ 2 by decide)]
/-- one more waits -/
theorem c_joinB {p : Nat} (K : BkL B L h) (C : CwX c Lc n l at_ wt ct h) (hB : B + 1 < c ∨ c + 5 < B) (hp : p < n) (b : Bk B h X j ct wt gs) (hj : j < L)
    (q : ∀ h', FrA (ZB B) h h' → Bk B h' (X ++ [p]) (j + 1) ct wt gs → Q none h') : EvM w mX0_join (d + 1) [.ref B, .int (nI p), .ref c] h Q := by
  obtain ⟨hd, b1, b2, b3, b4, b5, b6, b7⟩ := b
  refine c_joinX K C hB hp b2 (by omega) (fun h' F' e1 e2 => q h' F' ⟨hd, ?_, ?_, ?_, ?_, ?_, ?_, ?_⟩)
  · rw [e2]; simpa [va_ui] using b1
  · rw [e2]; simp [va_ui, Nat.add_assoc]
  · simp; omega
  · rw [e1, Rw_app]
    refine ⟨b4.cg (fun k h1 h2 => va_up_ne _ _ (by omega)), ?_, trivial⟩
    rw [va_up_self]
  · rw [e2, sm_snoc, ← b5]; simp [va_ui]
  · rw [e2, sm_snoc, ← b6]; simp [va_ui]
  · rw [e2]; simpa [va_ui] using b7
theorem c_leaveFirstX {p hd : Nat} (K : BkL B L h) (C : CwX c Lc n l at_ wt ct h) (hB : B + 1 < c ∨ c + 5 < B) (hp : p < n) (hh : hI h B 1 = nI hd) (hhd : hd < L) (hr : hI h (B + 1) hd = nI p)
    (q : ∀ h', FrA (fun a => a = B) h h' → hI h' B = va_up (va_up (va_up (hI h B) 1 (nI (hd + 1))) 3 (hI h B 3 - ct p)) 4 (hI h B 4 - wt p) → Q none h') : EvM w mX0_leaveFirst (d + 1) [.ref B, .ref c] h Q := by
  obtain ⟨k1, k2, k3⟩ := K
  obtain ⟨c1, ⟨n1, n2, n3, n4, n5⟩, ⟨c3, c3'⟩, c4, c5, c6, c7, c8, c9⟩ := C
  refine bX0_leaveFirst_0 ⟨k1, c_get (k1.s 0 rfl) (by omega) ⟨_, rfl, k1, fun h6 e6 => ⟨by rw [e6]; exact c1, ?_⟩⟩⟩
  rw [k2, hh, gv_nI hhd (by omega), hr]
  rw [hh, nI_1] at e6
  have F6 : FrA (fun a => a = B) h h6 := by rw [e6]; exact FrA.rf.fld rfl
  have b6 : hI h6 B = va_up (hI h B) 1 (nI (hd + 1)) := by rw [e6, sI_r, hI_rs]
  refine c_get (by rw [F6.K]; exact c1.s 3 rfl) (by rw [F6.N]; omega) ⟨_, rfl, F6.L k1, fun h12 e12 => ?_⟩
  rw [F6.N, n4, F6.I (show ¬ c + 4 = B by omega), gv_nI (by omega) (by omega), c7 p hp] at e12
  have F12 : FrA (fun a => a = B) h h12 := by rw [e12]; exact F6.fld rfl
  have b12 : hI h12 B = va_up (va_up (hI h B) 1 (nI (hd + 1))) 3 (hI h B 3 - ct p) := by
    rw [e12, sI_r, hI_rs, b6, va_up_ne _ _ (show (3 : Nat) ≠ 1 by decide)]
  refine ⟨F12.L c1, c_get (by rw [F12.K]; exact c1.s 2 rfl) (by rw [F12.N]; omega) ⟨_, rfl, F12.L k1, fun h18 e18 => ?_⟩⟩
  rw [F12.N, n3, F12.I (show ¬ c + 3 = B by omega), gv_nI (by omega) (by omega), c6 p hp] at e18
  refine q h18 (by rw [e18]; exact F12.fld rfl) ?_
  rw [e18, sI_r, hI_rs, b12, va_up_ne _ _ (show (4 : Nat) ≠ 3 by decide), va_up_ne _ _ (show (4 : Nat) ≠ 1 by decide)]
theorem add_sub_l (a b : Int32) : a + b - a = b := by rw [Int32.add_comm, Int32.add_sub_cancel]
/-- the first goes -/
theorem c_leaveFirstB {p : Nat} (K : BkL B L h) (C : CwX c Lc n l at_ wt ct h) (hB : B + 1 < c ∨ c + 5 < B) (hp : p < n) (b : Bk B h (p :: X) j ct wt gs) (hj : j ≤ L)
    (q : ∀ h', FrA (fun a => a = B) h h' → Bk B h' X j ct wt gs → Q none h') : EvM w mX0_leaveFirst (d + 1) [.ref B, .ref c] h Q := by
  obtain ⟨hd, b1, b2, b3, b4, b5, b6, b7⟩ := b
  rw [List.length_cons] at b2 b3
  refine c_leaveFirstX K C hB hp b1 (by omega) b4.1 (fun h' F' e => q h' F' ⟨hd + 1, ?_, ?_, by omega, ?_, ?_, ?_, ?_⟩)
  · rw [e]; simp [va_ui]
  · rw [e, show hd + 1 + X.length = hd + (X.length + 1) by omega]; simpa [va_ui] using b2
  · rw [F'.I (show ¬ B + 1 = B by omega)]; exact b4.2
  · rw [e, b5, sm]; simp [va_ui, add_sub_l]
  · rw [e, b6, sm]; simp [va_ui, add_sub_l]
  · rw [e]; simpa [va_ui] using b7
end XBANK
