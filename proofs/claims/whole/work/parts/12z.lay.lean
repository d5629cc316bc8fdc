def am_lay (ci : Nat) : List (Nat × Nat × Nat) := if ci = 0 then [(0, 1, 12)] else if ci = 1 then [(0, 1, 12), (1, 2, 12), (2, 3, 12), (3, 4, 12)] else if ci = 2 then [(0, 1, 12), (1, 2, 12), (2, 3, 12), (3, 4, 12), (4, 5, 12)] else if ci = 3 then [(7, 1, 12), (8, 2, 12), (9, 3, 12), (0, 4, 0), (1, 6, 0), (2, 8, 12), (3, 9, 12), (4, 10, 12), (5, 11, 12), (6, 12, 12)] else if ci = 4 then [(0, 1, 2)] else if ci = 5 then [(1, 1, 13), (2, 2, 12)] else if ci = 6 then [(0, 1, 2), (1, 7, 12), (2, 8, 12), (3, 9, 12), (4, 10, 12)] else if ci = 7 then [(0, 1, 12)] else if ci = 8 then [(0, 1, 11), (1, 2, 12), (2, 3, 12)] else if ci = 9 then [(0, 13, 8), (1, 17, 5), (2, 20, 7), (3, 22, 15), (4, 31, 3), (5, 44, 3), (6, 57, 1), (7, 62, 4)] else if ci = 10 then [(2, 1, 12), (10, 2, 12), (11, 3, 12), (12, 4, 12), (13, 5, 12), (14, 6, 13), (15, 7, 12), (16, 8, 12), (17, 9, 12), (18, 10, 12), (19, 11, 12), (20, 12, 12), (23, 13, 12), (24, 14, 14), (25, 15, 12), (26, 16, 12), (27, 17, 12), (28, 18, 12), (29, 19, 12), (30, 20, 12), (31, 21, 12), (32, 22, 12), (33, 23, 12), (34, 24, 12), (37, 25, 12), (38, 26, 12), (39, 27, 12), (40, 28, 12), (41, 29, 12), (42, 30, 12), (43, 31, 12), (45, 32, 12), (46, 33, 12), (47, 34, 12), (51, 35, 12), (52, 36, 12), (54, 37, 14)] else []
/-- an object of class ci and its own rows, laid behind it -/
def am_L (ci a : Nat) (h : am_H) : Prop := hK h a = ci ∧ ∀ q ∈ am_lay ci, hR h a q.1 = a + q.2.1 ∧ hK h (a + q.2.1) = q.2.2
theorem am_L.r {ci a : Nat} {h : am_H} (f : am_L ci a h) (i : Nat) {k o kd : Nat} (hi : (am_lay ci)[i]? = some (k, o, kd)) : hR h a k = a + o := (f.2 _ (List.mem_of_getElem? hi)).1
theorem am_L.s {ci a : Nat} {h : am_H} (f : am_L ci a h) (i : Nat) {k o kd : Nat} (hi : (am_lay ci)[i]? = some (k, o, kd)) : hK h (a + o) = kd := (f.2 _ (List.mem_of_getElem? hi)).2
theorem am_LsI {ci a : Nat} {h h1 : am_H} {b k : Nat} {v : Int32} (e : h1 = sI h b k v) (f : am_L ci a h) : am_L ci a h1 := by rw [e]; exact f
theorem am_LsJ {ci a : Nat} {h h1 : am_H} {b k : Nat} {v : Int64} (e : h1 = sJ h b k v) (f : am_L ci a h) : am_L ci a h1 := by rw [e]; exact f
theorem am_LsR0 {ci a : Nat} {h h1 : am_H} {b k v : Nat} (e : h1 = sR h b k v) (hk : ∀ q ∈ am_lay ci, a ≠ b ∨ q.1 ≠ k) (f : am_L ci a h) : am_L ci a h1 := by
  rw [e]
  refine ⟨f.1, fun q hq => ⟨?_, (f.2 q hq).2⟩⟩
  show va_up (hR h) b (va_up (hR h b) k v) a q.1 = a + q.2.1
  rw [am_u2 _ _ _ _ _ _ (hk q hq)]
  exact (f.2 q hq).1
theorem am_LsR {ci a : Nat} {h h1 : am_H} {b k v : Nat} (e : h1 = sR h b k v) (hk : ∀ q ∈ am_lay ci, q.1 ≠ k) (f : am_L ci a h) : am_L ci a h1 := am_LsR0 e (fun q hq => Or.inr (hk q hq)) f
theorem am_LsR' {ci cb a : Nat} {h h1 : am_H} {b k v : Nat} (e : h1 = sR h b k v) (hb : hK h b = cb) (hn : ci ≠ cb) (f : am_L ci a h) : am_L ci a h1 := am_LsR0 e (fun q hq => Or.inl (fun e => hn (by rw [← f.1, e, hb]))) f
theorem Ev.getRe {w : am_W} {Z : am_Zt} {u : am_M} {d pc : Nat} {lv : List (Nat × Value)} {st : List Value} {h : am_H} {Q : Option Value → am_H → Prop} {ci k i a r : Nat} (hd : decode u.2.1 pc = .ok (.getfield i, 3)) (hc : ci < 11) (hk : k < am_n ci) (ht : am_ty ci k = 2) (hw : Cond.fieldLink u.1.cls i (am_ct ci k).1 (am_ct ci k).2.1 (am_ct ci k).2.2.1 ∈ am_big) (ha : hK h a = ci) (he : hR h a k = r) (hz : r ≠ 0) (kk : Ev w Z u d (pc + 3) lv (.ref r :: st) h Q) : Ev w Z u d pc lv (.ref a :: st) h Q := by
  subst he
  exact Ev.getR hd hc hk ht hw ha hz kk
