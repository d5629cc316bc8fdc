/-! The reference's lines told once. -/
def ftb (b : Nat) : Nat := b % 16 + 32 * (b / 16)
def whj (j : Nat) : Nat := if j = 4 then 5 else j
theorem ftb_bit {b j : Nat} (hb : b < 32) (hj : j < 5) : ((nI (ftb b) >>> (nI (whj j) &&& 31)) &&& 1 = 1 ↔ b.testBit j = true) ∧ nI (ftb b) ||| ((1 : Int32) <<< (nI (whj j) &&& 31)) = nI (ftb (b ||| 2 ^ j)) := by
  have : ∀ (b : Fin 32) (j : Fin 5), ((nI (ftb b.1) >>> (nI (whj j.1) &&& 31)) &&& 1 = 1 ↔ b.1.testBit j.1 = true) ∧ nI (ftb b.1) ||| ((1 : Int32) <<< (nI (whj j.1) &&& 31)) = nI (ftb (b.1 ||| 2 ^ j.1)) := by decide +kernel
  exact this ⟨b, hb⟩ ⟨j, hj⟩
/-- the numbers of the river that the reference reads -/
def RvN (m : Nat) (h : am_H) (t : rT) : Prop := hI h (m + 2) 10 = nI (tRoom t) ∧ hI h (m + 2) 11 = nI (tTrip t) ∧ hI h (m + 2) 12 = nI (tBoats t) ∧ hI h (m + 2) 13 = nI (tShare t) ∧ hI h (m + 2) 14 = nI (tOf t) ∧ hI h (m + 2) 15 = nI (tCome t) ∧ hI h (m + 2) 16 = nI (tLaws t) ∧ hI h (m + 2) 17 = nI (tN t) ∧ hI h (m + 2) 18 = -1 ∧ hI h (m + 2) 19 = 0
/-- what lines told once change -/
def FrO (m : Nat) (h h' : am_H) : Prop := hK h' = hK h ∧ hN h' = hN h ∧ hR h' = hR h ∧ hZ h' = hZ h ∧ hS h' = hS h ∧ (∀ a, a ≠ m → hJ h' a = hJ h a) ∧ (∀ a, a ≠ m → a ≠ m + 2 → hI h' a = hI h a) ∧ (∀ k, k < 10 ∨ 20 ≤ k → hI h' (m + 2) k = hI h (m + 2) k) ∧ ∀ k, k ≠ 4 → k ≠ 5 → k ≠ 6 → k ≠ 8 → k ≠ 9 → k ≠ 35 → k ≠ 22 → hI h' m k = hI h m k
section RONE
variable {w : am_W} {d : Nat} {h : am_H} {Q : Option Value → am_H → Prop} {m n i : Nat} {s : Nat → Int32}
theorem FrO.tr {h1 h2 : am_H} (F : FrO m h h1) (G : FrO m h1 h2) : FrO m h h2 := by
  obtain ⟨a1, a2, a3, a4, a5, a6, a7, a8, a9⟩ := F
  obtain ⟨b1, b2, b3, b4, b5, b6, b7, b8, b9⟩ := G
  exact ⟨b1.trans a1, b2.trans a2, b3.trans a3, b4.trans a4, b5.trans a5, fun a ha => (b6 a ha).trans (a6 a ha), fun a x y => (b7 a x y).trans (a7 a x y), fun k x => (b8 k x).trans (a8 k x), fun k x1 x2 x3 x4 x5 x6 x7 => (b9 k x1 x2 x3 x4 x5 x6 x7).trans (a9 k x1 x2 x3 x4 x5 x6 x7)⟩
theorem FrR.o {h1 : am_H} (F : FrR m h h1) : FrO m h h1 := by
  obtain ⟨a1, a2, a3, a4, a5, a6, a7⟩ := F
  exact ⟨a1, a2, a3, a4, a5, fun a ha => (a6 a ha).2, fun a x _ => (a6 a x).1, fun k _ => by rw [(a6 (m + 2) (by omega)).1], fun k x1 x2 x3 x4 x5 x6 _ => a7 k x1 x2 x3 x4 x5 x6⟩
theorem FrO.t {v : Int32} : FrO m h (sI h m 22 v) :=
  ⟨rfl, rfl, rfl, rfl, rfl, fun _ _ => rfl, fun a x _ => by rw [sI_r, hI_rn _ _ x], fun k _ => by rw [sI_r, hI_rn _ _ (by omega)], fun k _ _ _ _ _ _ x7 => by rw [sI_f, if_neg x7]⟩
theorem FrO.v {k : Nat} {v : Int32} (hk : 10 ≤ k ∧ k < 20) : FrO m h (sI h (m + 2) k v) :=
  ⟨rfl, rfl, rfl, rfl, rfl, fun _ _ => rfl, fun a _ y => by rw [sI_r, hI_rn _ _ y], fun j x => by rw [sI_f, if_neg (by omega)], fun k _ _ _ _ _ _ _ => by rw [sI_r, hI_rn _ _ (by omega)]⟩
theorem TM.row {k : Nat} {v : Int32} (T : TM m h s n i) : TM m (sI h (m + 2) k v) s n i := by
  obtain ⟨t1, t2, t3, t4⟩ := T
  refine ⟨t1, ?_, t3, ?_⟩
  · rw [sI_r, hI_rn _ _ (by omega)]; exact t2
  · unfold TkM at *
    rw [sI_r, hI_rn _ _ (by omega)]
    exact t4
end RONE
