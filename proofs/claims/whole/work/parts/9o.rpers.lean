/-! The reference's line of a person: what it changes. -/
def FrQ (m : Nat) (h h' : am_H) : Prop := hK h' = hK h ∧ hN h' = hN h ∧ hR h' = hR h ∧ hZ h' = hZ h ∧ hS h' = hS h ∧ (∀ a, a ≠ m → a ≠ m + 6 → hJ h' a = hJ h a) ∧ (∀ a, a ≠ m → a ≠ m + 2 → (a < m + 7 ∨ m + 11 < a) → hI h' a = hI h a) ∧ (∀ k, k < 10 ∨ 20 ≤ k → hI h' (m + 2) k = hI h (m + 2) k) ∧ (∀ o, 7 ≤ o → o ≤ 11 → ∀ k, k < 16 ∨ 32 ≤ k → hI h' (m + o) k = hI h (m + o) k) ∧ ∀ k, k ≠ 4 → k ≠ 5 → k ≠ 6 → k ≠ 8 → k ≠ 9 → k ≠ 35 → hI h' m k = hI h m k
section RPERS
variable {h : am_H} {m n i : Nat} {s : Nat → Int32}
theorem FrQ.tr {h1 h2 : am_H} (F : FrQ m h h1) (G : FrQ m h1 h2) : FrQ m h h2 := by
  obtain ⟨a1, a2, a3, a4, a5, a6, a7, a8, a9, a10⟩ := F
  obtain ⟨b1, b2, b3, b4, b5, b6, b7, b8, b9, b10⟩ := G
  exact ⟨b1.trans a1, b2.trans a2, b3.trans a3, b4.trans a4, b5.trans a5, fun a x y => (b6 a x y).trans (a6 a x y), fun a x y z => (b7 a x y z).trans (a7 a x y z), fun k x => (b8 k x).trans (a8 k x), fun o x y k z => (b9 o x y k z).trans (a9 o x y k z), fun k x1 x2 x3 x4 x5 x6 => (b10 k x1 x2 x3 x4 x5 x6).trans (a10 k x1 x2 x3 x4 x5 x6)⟩
theorem FrR.q {h1 : am_H} (F : FrR m h h1) : FrQ m h h1 := by
  obtain ⟨a1, a2, a3, a4, a5, a6, a7⟩ := F
  exact ⟨a1, a2, a3, a4, a5, fun a x _ => (a6 a x).2, fun a x _ _ => (a6 a x).1, fun k _ => by rw [(a6 (m + 2) (by omega)).1], fun o x y k _ => by rw [(a6 (m + o) (by omega)).1], a7⟩
theorem FrQ.row {o k : Nat} {v : Int32} (ho : 7 ≤ o ∧ o ≤ 11) (hk : 16 ≤ k ∧ k < 32) : FrQ m h (sI h (m + o) k v) := by
  refine ⟨rfl, rfl, rfl, rfl, rfl, fun _ _ _ => rfl, fun a _ _ z => by rw [sI_r, hI_rn _ _ (by omega)], fun j _ => by rw [sI_r, hI_rn _ _ (by omega)], fun o' x y j z => ?_, fun j _ _ _ _ _ _ => by rw [sI_r, hI_rn _ _ (by omega)]⟩
  by_cases c : o' = o
  · subst c; rw [sI_f, if_neg (by omega)]
  · rw [sI_r, hI_rn _ _ (by omega)]
theorem FrQ.cnt {v : Int32} : FrQ m h (sI h (m + 2) 17 v) :=
  ⟨rfl, rfl, rfl, rfl, rfl, fun _ _ _ => rfl, fun a _ y _ => by rw [sI_r, hI_rn _ _ y], fun j z => by rw [sI_f, if_neg (by omega)], fun o x y j _ => by rw [sI_r, hI_rn _ _ (by omega)], fun j _ _ _ _ _ _ => by rw [sI_r, hI_rn _ _ (by omega)]⟩
theorem FrQ.nam {k : Nat} {v : Int64} : FrQ m h (sJ h (m + 6) k v) :=
  ⟨rfl, rfl, rfl, rfl, rfl, fun a _ y => va_up_ne _ _ y, fun _ _ _ _ => rfl, fun _ _ => rfl, fun _ _ _ _ _ => rfl, fun _ _ _ _ _ _ _ => rfl⟩
theorem TM.rowO {o k : Nat} {v : Int32} (T : TM m h s n i) (ho : 2 ≤ o) : TM m (sI h (m + o) k v) s n i := by
  obtain ⟨t1, t2, t3, t4⟩ := T
  refine ⟨t1, ?_, t3, ?_⟩
  · rw [sI_r, hI_rn _ _ (by omega)]; exact t2
  · unfold TkM at *
    rw [sI_r, hI_rn _ _ (by omega)]
    exact t4
theorem TM.nam {k : Nat} {v : Int64} (T : TM m h s n i) : TM m (sJ h (m + 6) k v) s n i := by
  obtain ⟨t1, t2, t3, t4⟩ := T
  refine ⟨t1, t2, t3, ?_⟩
  unfold TkM at *
  rw [show hJ (sJ h (m + 6) k v) m = hJ h m from va_up_ne _ _ (by omega)]
  exact t4
/-- the persons that the reference has read -/
def RvM (m : Nat) (h : am_H) (s : Nat → Int32) (n : Nat) (t : rT) (nm : Nat → Nat) : Prop := (∀ p, p < tN t → hI h (m + 7) (16 + p) = tSd t p ∧ hI h (m + 8) (16 + p) = tAt t p ∧ hI h (m + 9) (16 + p) = tWt t p ∧ hI h (m + 10) (16 + p) = tCo t p ∧ hI h (m + 11) (16 + p) = tKd t p) ∧ ∀ p, p < tN t → hJ h (m + 6) p = tkW s n (bgn s n (nm p))
theorem RvM.cg {h1 : am_H} {t : rT} {nm : Nat → Nat} (R : RvM m h s n t nm) (e : ∀ o, 7 ≤ o → o ≤ 11 → hI h1 (m + o) = hI h (m + o)) (ej : hJ h1 (m + 6) = hJ h (m + 6)) : RvM m h1 s n t nm := by
  unfold RvM
  rw [e 7 (by decide) (by decide), e 8 (by decide) (by decide), e 9 (by decide) (by decide), e 10 (by decide) (by decide), e 11 (by decide) (by decide), ej]
  exact R
end RPERS
