/-! THE PICTURE OF THE HEAP. A cell at an address: its kind (0 .. 10 the claim's classes as in vwCl, 11 char, 12 int, 13 long, 14 boolean, 15 State arrays, others: nothing known), its length, its ints, longs, references (0: null); the heap's size; the slots made. -/
abbrev am_H : Type := (Nat → Nat) × (Nat → Nat) × (Nat → Nat → Int32) × (Nat → Nat → Int64) × (Nat → Nat → Nat) × Nat × Nat
def hK (h : am_H) : Nat → Nat := h.1
def hN (h : am_H) : Nat → Nat := h.2.1
def hI (h : am_H) : Nat → Nat → Int32 := h.2.2.1
def hJ (h : am_H) : Nat → Nat → Int64 := h.2.2.2.1
def hR (h : am_H) : Nat → Nat → Nat := h.2.2.2.2.1
def hZ (h : am_H) : Nat := h.2.2.2.2.2.1
def hS (h : am_H) : Nat := h.2.2.2.2.2.2
def sI (h : am_H) (a k : Nat) (v : Int32) : am_H := (hK h, hN h, va_up (hI h) a (va_up (hI h a) k v), hJ h, hR h, hZ h, hS h)
def sJ (h : am_H) (a k : Nat) (v : Int64) : am_H := (hK h, hN h, hI h, va_up (hJ h) a (va_up (hJ h a) k v), hR h, hZ h, hS h)
def sR (h : am_H) (a k : Nat) (v : Nat) : am_H := (hK h, hN h, hI h, hJ h, va_up (hR h) a (va_up (hR h a) k v), hZ h, hS h)
/-- a new object of class ci with n fields, a new array of kind k and length n -/
def nO (h : am_H) (ci n : Nat) : am_H := (va_up (hK h) (hZ h) ci, hN h, va_up (hI h) (hZ h) (fun _ => 0), va_up (hJ h) (hZ h) (fun _ => 0), va_up (hR h) (hZ h) (fun _ => 0), hZ h + 1, hS h + n)
def nA (h : am_H) (k n : Nat) : am_H := (va_up (hK h) (hZ h) k, va_up (hN h) (hZ h) n, va_up (hI h) (hZ h) (fun _ => 0), va_up (hJ h) (hZ h) (fun _ => 0), va_up (hR h) (hZ h) (fun _ => 0), hZ h + 1, hS h + n)
/-- a reference by its number -/
def am_o (r : Nat) : Value := if r = 0 then .null else .ref r
theorem am_o_ref {r : Nat} (h : r ≠ 0) : am_o r = .ref r := if_neg h
def am_val (h : am_H) (a k t : Nat) : Value := if t = 0 then .int (hI h a k) else if t = 1 then .long (hJ h a k) else am_o (hR h a k)
def am_tc : FieldType → Nat
  | .long => 1
  | .object _ => 2
  | .array _ => 2
  | _ => 0
def am_tyf (ci : Nat) : Nat → FieldType := if ci = 0 then tyX0 else if ci = 1 then tyX1 else if ci = 2 then tyX2 else if ci = 3 then tyX3 else if ci = 4 then tyX4 else if ci = 5 then tyX5 else if ci = 6 then tyX6 else if ci = 7 then tyX7 else if ci = 8 then tyX8 else if ci = 9 then tyX9 else tyX10
def am_ty (ci k : Nat) : Nat := am_tc (am_tyf ci k)
def am_n (ci : Nat) : Nat := if ci = 0 then 6 else if ci = 1 then 7 else if ci = 2 then 6 else if ci = 3 then 18 else if ci = 4 then 10 else if ci = 5 then 8 else if ci = 6 then 15 else if ci = 7 then 5 else if ci = 8 then 5 else if ci = 9 then 9 else 55
def am_et (k : Nat) : Nat := if k = 13 then 1 else if k = 15 then 2 else 0
def am_aty (k : Nat) : FieldType := if k = 11 then .char else if k = 12 then .int else if k = 13 then .long else if k = 14 then .boolean else .object "EvenFerry$State"
/-- the constants of a run: classes and slots, array classes by their kinds, the first own address, the heap at the start, what else the tables say -/
abbrev am_W : Type := va_G × (Nat → ClassId) × Nat × Heap × (State → Prop)
def am_at (w : am_W) (h : am_H) (H : Heap) (a : Nat) : Prop :=
  if hK h a < 11 then t_OB a (w.1.1 (hK h a)) (am_n (hK h a)) (w.1.2 (hK h a)) H (fun k => am_val h a k (am_ty (hK h a) k))
  else H[a]? = some (arrV (w.2.1 (hK h a)) (hN h a) (fun j => am_val h a j (am_et (hK h a))))
def am_R (w : am_W) (h : am_H) (H : Heap) : Prop := H.size = hZ h ∧ w.2.2.2.1.size = w.2.2.1 ∧ 0 < w.2.2.1 ∧ w.2.2.1 ≤ hZ h ∧ (∀ a : Nat, a < w.2.2.1 → H[a]? = w.2.2.2.1[a]?) ∧ ∀ a, hK h a < 16 → w.2.2.1 ≤ a ∧ am_at w h H a
theorem am_at.lt {w : am_W} {h : am_H} {H : Heap} {a : Nat} (q : am_at w h H a) : a < H.size := by
  unfold am_at at q
  split at q
  · obtain ⟨cell, q1, -⟩ := q
    exact (Array.getElem?_eq_some_iff.mp q1).1
  · exact (Array.getElem?_eq_some_iff.mp q).1
theorem am_at.kept {w : am_W} {h h1 : am_H} {H H1 : Heap} {a : Nat} (q : am_at w h H a) (e : H1[a]? = H[a]?) (k : hK h1 a = hK h a) (n : hN h1 a = hN h a) (v : ∀ j t, am_val h1 a j t = am_val h a j t) : am_at w h1 H1 a := by
  unfold am_at at q ⊢
  rw [k, n]
  split at q
  · rename_i hc
    rw [if_pos hc]
    exact (q.kept e).to (fun j _ => (v j _).symm)
  · rename_i hc
    rw [if_neg hc, e, q]
    congr 2
    funext j
    exact (v j _).symm
/-- a value put at a place -/
def am_set (h : am_H) (a k : Nat) (v : Value) : am_H := match v with
  | .int x => sI h a k x
  | .long x => sJ h a k x
  | .ref r => sR h a k r
  | .null => sR h a k 0
  | _ => h
/-- a value of a type code -/
def am_is (v : Value) (t : Nat) : Prop := match v with
  | .int _ => t = 0
  | .long _ => t = 1
  | .ref r => t = 2 ∧ r ≠ 0
  | .null => t = 2
  | _ => False
theorem am_set_K (h : am_H) (a k : Nat) (v : Value) : hK (am_set h a k v) = hK h := by cases v <;> rfl
theorem am_set_N (h : am_H) (a k : Nat) (v : Value) : hN (am_set h a k v) = hN h := by cases v <;> rfl
theorem am_set_Z (h : am_H) (a k : Nat) (v : Value) : hZ (am_set h a k v) = hZ h := by cases v <;> rfl
theorem am_set_S (h : am_H) (a k : Nat) (v : Value) : hS (am_set h a k v) = hS h := by cases v <;> rfl
theorem am_u2 {α : Type} (f : Nat → Nat → α) (a k : Nat) (v : α) (b j : Nat) (h : b ≠ a ∨ j ≠ k) : va_up f a (va_up (f a) k v) b j = f b j := by
  by_cases hb : b = a
  · subst hb
    rw [va_up_self, va_up_ne _ _ (h.resolve_left (fun q => q rfl))]
  · rw [va_up_ne _ _ hb]
theorem am_set_ne {h : am_H} {a k : Nat} {v : Value} {b j : Nat} (t : Nat) (q : b ≠ a ∨ j ≠ k) : am_val (am_set h a k v) b j t = am_val h b j t := by
  cases v <;> first | rfl | (simp only [am_val, am_set, sI, sJ, sR, hI, hJ, hR]; rw [am_u2 _ _ _ _ _ _ q])
theorem am_set_eq {h : am_H} {a k : Nat} {v : Value} {t : Nat} (q : am_is v t) : am_val (am_set h a k v) a k t = v := by
  cases v with
  | int x => cases q; simp [am_val, am_set, sI, hI, va_up_self]
  | long x => cases q; simp [am_val, am_set, sJ, hJ, va_up_self]
  | ref r => obtain ⟨rfl, hr⟩ := q; simp [am_val, am_set, sR, hR, va_up_self, am_o, hr]
  | null => cases q; simp [am_val, am_set, sR, hR, va_up_self, am_o]
  | _ => exact absurd q id
theorem am_R.put {w : am_W} {h h1 : am_H} {H H1 : Heap} {a : Nat} (q : am_R w h H) (hz : H1.size = H.size) (ho : ∀ b : Nat, b ≠ a → H1[b]? = H[b]?) (ha : hK h a < 16) (z1 : hZ h1 = hZ h) (k1 : hK h1 = hK h) (n1 : hN h1 = hN h) (v1 : ∀ b j t, b ≠ a → am_val h1 b j t = am_val h b j t) (h1a : am_at w h1 H1 a) : am_R w h1 H1 := by
  obtain ⟨q1, q2, q3, q4, q5, q6⟩ := q
  refine ⟨by rw [hz, q1, z1], q2, q3, by rw [z1]; exact q4, fun b hb => ?_, fun b hb => ?_⟩
  · have hne : b ≠ a := fun e => by have := (q6 a ha).1; omega
    rw [ho b hne, q5 b hb]
  · rw [k1] at hb
    by_cases e : b = a
    · subst e
      exact ⟨(q6 b hb).1, h1a⟩
    · exact ⟨(q6 b hb).1, (q6 b hb).2.kept (ho b e) (by rw [k1]) (by rw [n1]) (fun j t => v1 b j t e)⟩
