/-! Objects that are built: rows made one behind another. -/
def smN (N : Nat → Nat) : Nat → Nat
  | 0 => 0
  | j + 1 => smN N j + N j
/-- from h0 on, j rows have been made at z, z + 1, .. and put into the fields F 0, F 1, .. of the object at a -/
def Bq (h0 h : am_H) (a z : Nat) (F K N : Nat → Nat) (j : Nat) : Prop := hZ h = z + j ∧ hS h = hS h0 + smN N j ∧ (∀ i, i < j → hR h a (F i) = z + i ∧ hK h (z + i) = K i ∧ hN h (z + i) = N i ∧ hI h (z + i) = (fun _ => 0) ∧ hJ h (z + i) = (fun _ => 0)) ∧ (∀ b, b < z → b ≠ a → same h0 h b) ∧ (hK h a = hK h0 a ∧ hN h a = hN h0 a ∧ hI h a = hI h0 a ∧ hJ h a = hJ h0 a ∧ ∀ f, (∀ i, i < j → F i ≠ f) → hR h a f = hR h0 a f)
section BUILD
variable {h0 h h1 h2 : am_H} {a z j : Nat} {F K N : Nat → Nat}
theorem Bq.o (hz : hZ h = z) : Bq h h a z F K N 0 := ⟨hz, rfl, fun i hi => absurd hi (Nat.not_lt_zero _), fun b _ _ => same.rf, rfl, rfl, rfl, rfl, fun f _ => rfl⟩
theorem sR_r (h : am_H) (a k v b f : Nat) : hR (sR h a k v) b f = if b = a ∧ f = k then v else hR h b f := by
  by_cases c : b = a
  · subst c
    by_cases c2 : f = k
    · rw [if_pos ⟨rfl, c2⟩, c2]
      show va_up (hR h) b (va_up (hR h b) k v) b k = v
      rw [va_up_self, va_up_self]
    · rw [if_neg (fun y => c2 y.2)]
      show va_up (hR h) b (va_up (hR h b) k v) b f = _
      rw [va_up_self, va_up_ne _ _ c2]
  · rw [if_neg (fun y => c y.1)]
    show va_up (hR h) a (va_up (hR h a) k v) b f = _
    rw [va_up_ne _ _ c]
theorem nA_same (h : am_H) (k n : Nat) {b : Nat} (hb : b ≠ hZ h) : same h (nA h k n) b := ⟨va_up_ne _ _ hb, va_up_ne _ _ hb, va_up_ne _ _ hb, va_up_ne _ _ hb, va_up_ne _ _ hb⟩
theorem nO_same (h : am_H) (k n : Nat) {b : Nat} (hb : b ≠ hZ h) : same h (nO h k n) b := ⟨va_up_ne _ _ hb, rfl, va_up_ne _ _ hb, va_up_ne _ _ hb, va_up_ne _ _ hb⟩
theorem sR_same (h : am_H) (a k v : Nat) {b : Nat} (hb : b ≠ a) : same h (sR h a k v) b := ⟨rfl, rfl, rfl, rfl, va_up_ne _ _ hb⟩
theorem sI_same (h : am_H) (a k : Nat) (v : Int32) {b : Nat} (hb : b ≠ a) : same h (sI h a k v) b := ⟨rfl, rfl, va_up_ne _ _ hb, rfl, rfl⟩
theorem nA_new (h : am_H) (k n : Nat) : hK (nA h k n) (hZ h) = k ∧ hN (nA h k n) (hZ h) = n ∧ hI (nA h k n) (hZ h) = (fun _ => 0) ∧ hJ (nA h k n) (hZ h) = (fun _ => 0) ∧ hR (nA h k n) (hZ h) = (fun _ => 0) := ⟨va_up_self _ _ _, va_up_self _ _ _, va_up_self _ _ _, va_up_self _ _ _, va_up_self _ _ _⟩
theorem nO_new (h : am_H) (k n : Nat) : hK (nO h k n) (hZ h) = k ∧ hI (nO h k n) (hZ h) = (fun _ => 0) ∧ hJ (nO h k n) (hZ h) = (fun _ => 0) ∧ hR (nO h k n) (hZ h) = (fun _ => 0) := ⟨va_up_self _ _ _, va_up_self _ _ _, va_up_self _ _ _, va_up_self _ _ _⟩
theorem Bq.s (B : Bq h0 h a z F K N j) (ha : a < z) (hF : ∀ i, i < j → F i ≠ F j) (e1 : h1 = nA h (K j) (N j)) (e2 : h2 = sR h1 a (F j) (hZ h)) : Bq h0 h2 a z F K N (j + 1) := by
  obtain ⟨b1, b2, b3, b4, b5, b6, b7, b8, b9⟩ := B
  subst e1
  subst e2
  rw [b1]
  have hs : ∀ b, b ≠ z + j → b ≠ a → same h (sR (nA h (K j) (N j)) a (F j) (z + j)) b := fun b y1 y2 => (nA_same h _ _ (by rw [b1]; exact y1)).tr (sR_same _ _ _ _ y2)
  obtain ⟨n1, n2, n3, n4, _⟩ := nA_new h (K j) (N j)
  rw [b1] at n1 n2 n3 n4
  have sa := nA_same h (K j) (N j) (b := a) (by omega)
  refine ⟨by show hZ h + 1 = z + (j + 1); omega, by show hS h + N j = hS h0 + (smN N j + N j); omega, fun i hi => ?_, fun b y1 y2 => (b4 b y1 y2).tr (hs b (by omega) y2), sa.1.trans b5, sa.2.1.trans b6, sa.2.2.1.trans b7, sa.2.2.2.1.trans b8, fun f hf => ?_⟩
  · by_cases c : i = j
    · subst c
      exact ⟨by rw [sR_r, if_pos ⟨rfl, rfl⟩], n1, n2, n3, n4⟩
    · obtain ⟨x1, x2, x3, x4, x5⟩ := b3 i (by omega)
      have s1 := hs (z + i) (by omega) (by omega)
      exact ⟨by rw [sR_r, if_neg (fun y => hF i (by omega) y.2), sa.2.2.2.2]; exact x1, s1.1.trans x2, s1.2.1.trans x3, s1.2.2.1.trans x4, s1.2.2.2.1.trans x5⟩
  · rw [sR_r, if_neg (fun y => hf j (by omega) y.2.symm), sa.2.2.2.2]
    exact b9 f (fun i hi => hf i (by omega))
/-- the object's numbers are put -/
theorem Bq.I {k : Nat} {v : Int32} (B : Bq h0 h a z F K N j) (ha : a < z) : Bq (sI h0 a k v) (sI h a k v) a z F K N j := by
  obtain ⟨b1, b2, b3, b4, b5, b6, b7, b8, b9⟩ := B
  refine ⟨b1, b2, fun i hi => ?_, fun b y1 y2 => ?_, b5, b6, ?_, b8, b9⟩
  · obtain ⟨x1, x2, x3, x4, x5⟩ := b3 i hi
    exact ⟨x1, x2, x3, ((sI_same h a k v (by omega)).2.2.1).trans x4, x5⟩
  · obtain ⟨c1, c2, c3, c4, c5⟩ := b4 b y1 y2
    exact ⟨c1, c2, ((sI_same h a k v y2).2.2.1).trans (c3.trans (sI_same h0 a k v y2).2.2.1.symm), c4, c5⟩
  · show va_up (hI h) a (va_up (hI h a) k v) a = va_up (hI h0) a (va_up (hI h0 a) k v) a
    rw [va_up_self, va_up_self, b7]
end BUILD
