section ARR
variable {w : am_W} {Z : am_Zt} {u : am_M} {d pc : Nat} {lv : List (Nat × Value)} {st : List Value} {h : am_H} {Q : Option Value → am_H → Prop}
theorem Ev.alen {a : Nat} (k : Nat) (hd : decode u.2.1 pc = .ok (.arraylength, 1)) (h1 : 11 ≤ k) (h2 : k < 16) (ha : hK h a = k) (kk : Ev w Z u d (pc + 1) lv (.int (nI (hN h a)) :: st) h Q) : Ev w Z u d pc lv (.ref a :: st) h Q := by
  refine Ev.go1 (fun C _ _ _ _ _ _ hR _ kk => ?_) kk
  exact W.alen (n := nI (hN h a)) C.1 C.2.1 (hR.arr ha h1 h2) ((C.2.2.2.2.2.2.2.2.1.arr h1 h2).1 _ _) (by rw [arrV_size]; rfl) rfl rfl hd kk
theorem Ev.iald {a : Nat} {i : Int32} (hd : decode u.2.1 pc = .ok (.iaload, 1)) (ha : hK h a = 12) (hin : vp_in i (hN h a)) (kk : Ev w Z u d (pc + 1) lv (.int (hI h a i.toNatClampNeg) :: st) h Q) : Ev w Z u d pc lv (.int i :: .ref a :: st) h Q := by
  refine Ev.go1 (fun C _ _ _ _ _ _ hR _ kk => ?_) kk
  have hlt : i.toNatClampNeg < hN h a := Nat.not_le.mp fun q => hin (Or.inr q)
  exact W.iald (v := .int (hI h a i.toNatClampNeg)) C.1 C.2.1 (hR.arr ha (by decide) (by decide)) ((C.2.2.2.2.2.2.2.2.1.arr (k := 12) (by decide) (by decide)).1 _ _) (fun q => by cases q) (by rw [arrV_size]; exact hin) (by rw [arrV_read _ _ hlt]; rfl) rfl rfl hd kk
theorem Ev.cald {a : Nat} {i : Int32} (hd : decode u.2.1 pc = .ok (.caload, 1)) (ha : hK h a = 11) (hin : vp_in i (hN h a)) (kk : Ev w Z u d (pc + 1) lv (.int (hI h a i.toNatClampNeg) :: st) h Q) : Ev w Z u d pc lv (.int i :: .ref a :: st) h Q := by
  refine Ev.go1 (fun C _ _ _ _ _ _ hR _ kk => ?_) kk
  have hlt : i.toNatClampNeg < hN h a := Nat.not_le.mp fun q => hin (Or.inr q)
  exact W.cald (v := .int (hI h a i.toNatClampNeg)) C.1 C.2.1 (hR.arr ha (by decide) (by decide)) ((C.2.2.2.2.2.2.2.2.1.arr (k := 11) (by decide) (by decide)).1 _ _) (fun q => by cases q) (by rw [arrV_size]; exact hin) (by rw [arrV_read _ _ hlt]; rfl) rfl rfl hd kk
theorem Ev.zald {a : Nat} {i : Int32} (hd : decode u.2.1 pc = .ok (.baload, 1)) (ha : hK h a = 14) (hin : vp_in i (hN h a)) (kk : Ev w Z u d (pc + 1) lv (.int (hI h a i.toNatClampNeg) :: st) h Q) : Ev w Z u d pc lv (.int i :: .ref a :: st) h Q := by
  refine Ev.go1 (fun C _ _ _ _ _ _ hR _ kk => ?_) kk
  have hlt : i.toNatClampNeg < hN h a := Nat.not_le.mp fun q => hin (Or.inr q)
  exact W.zald (v := .int (hI h a i.toNatClampNeg)) C.1 C.2.1 (hR.arr ha (by decide) (by decide)) ((C.2.2.2.2.2.2.2.2.1.arr (k := 14) (by decide) (by decide)).1 _ _) (fun q => by cases q) (by rw [arrV_size]; exact hin) (by rw [arrV_read _ _ hlt]; rfl) rfl rfl hd kk
theorem Ev.lald {a : Nat} {i : Int32} (hd : decode u.2.1 pc = .ok (.laload, 1)) (ha : hK h a = 13) (hin : vp_in i (hN h a)) (kk : Ev w Z u d (pc + 1) lv (.long (hJ h a i.toNatClampNeg) :: st) h Q) : Ev w Z u d pc lv (.int i :: .ref a :: st) h Q := by
  refine Ev.go1 (fun C _ _ _ _ _ _ hR _ kk => ?_) kk
  have hlt : i.toNatClampNeg < hN h a := Nat.not_le.mp fun q => hin (Or.inr q)
  exact W.lald (v := .long (hJ h a i.toNatClampNeg)) C.1 C.2.1 (hR.arr ha (by decide) (by decide)) ((C.2.2.2.2.2.2.2.2.1.arr (k := 13) (by decide) (by decide)).1 _ _) (fun q => by cases q) (by rw [arrV_size]; exact hin) (by rw [arrV_read _ _ hlt]; rfl) rfl rfl hd kk
theorem Ev.aald {a : Nat} {i : Int32} (hd : decode u.2.1 pc = .ok (.aaload, 1)) (ha : hK h a = 15) (hin : vp_in i (hN h a)) (hz : hR h a i.toNatClampNeg ≠ 0) (kk : Ev w Z u d (pc + 1) lv (.ref (hR h a i.toNatClampNeg) :: st) h Q) : Ev w Z u d pc lv (.int i :: .ref a :: st) h Q := by
  refine Ev.go1 (fun C _ _ _ _ _ _ hq _ kk => ?_) kk
  have hlt : i.toNatClampNeg < hN h a := Nat.not_le.mp fun q => hin (Or.inr q)
  exact W.aald (v := .ref (hR h a i.toNatClampNeg)) C.1 C.2.1 (hq.arr ha (by decide) (by decide)) ((C.2.2.2.2.2.2.2.2.1.arr (k := 15) (by decide) (by decide)).1 _ _) rfl (fun q => by cases q) (by rw [arrV_size]; exact hin) (by rw [arrV_read _ _ hlt]; exact congrArg some (am_o_ref hz)) rfl rfl hd kk
theorem am_R.putA {w : am_W} {h : am_H} {H H1 : Heap} (q : am_R w h H) {a k j : Nat} (ha : hK h a = k) (h1 : 11 ≤ k) (h2 : k < 16) {v : Value} (hi : am_is v (am_et k)) (e1 : H1[a]? = some ((arrV (w.2.1 k) (hN h a) (fun j => am_val h a j (am_et k))).setSlot j v)) (e2 : H1.size = H.size) (e3 : ∀ b : Nat, b ≠ a → H1[b]? = H[b]?) : am_R w (am_set h a j v) H1 := by
  refine q.put e2 e3 (by omega) (am_set_Z _ _ _ _) (am_set_K _ _ _ _) (am_set_N _ _ _ _) (fun b j t hb => am_set_ne t (Or.inl hb)) ?_
  unfold am_at
  rw [am_set_K, am_set_N, ha, if_neg (by omega), e1, arrV_store]
  congr 2
  funext i
  by_cases hj : i = j
  · subst hj
    rw [am_set_eq hi]
    simp [updV]
  · rw [am_set_ne _ (Or.inr hj)]
    simp [updV, hj]
theorem Ev.iast {a : Nat} {i x : Int32} (hd : decode u.2.1 pc = .ok (.iastore, 1)) (ha : hK h a = 12) (hin : vp_in i (hN h a)) (kk : Ev w Z u d (pc + 1) lv st (sI h a i.toNatClampNeg x) Q) : Ev w Z u d pc lv (.int x :: .int i :: .ref a :: st) h Q := by
  refine Ev.goH (h1 := sI h a i.toNatClampNeg x) rfl rfl (fun C _ _ _ _ _ _ hR _ kk => ?_) kk
  refine W.iast C.1 C.2.1 (hR.arr ha (by decide) (by decide)) ((C.2.2.2.2.2.2.2.2.1.arr (k := 12) (by decide) (by decide)).1 _ _) (fun q => by cases q) (by rw [arrV_size]; exact hin) rfl rfl hd fun H1 e1 e2 e3 => ?_
  exact kk H1 [⟨a, _⟩] (hR.putA ha (by decide) (by decide) (v := .int x) rfl e1 e2 e3) (fun q hq => by rw [List.mem_singleton.mp hq]; exact (hR.2.2.2.2.2 a (by omega)).1)
theorem Ev.last {a : Nat} {i : Int32} {x : Int64} (hd : decode u.2.1 pc = .ok (.lastore, 1)) (ha : hK h a = 13) (hin : vp_in i (hN h a)) (kk : Ev w Z u d (pc + 1) lv st (sJ h a i.toNatClampNeg x) Q) : Ev w Z u d pc lv (.long x :: .int i :: .ref a :: st) h Q := by
  refine Ev.goH (h1 := sJ h a i.toNatClampNeg x) rfl rfl (fun C _ _ _ _ _ _ hR _ kk => ?_) kk
  refine W.last C.1 C.2.1 (hR.arr ha (by decide) (by decide)) ((C.2.2.2.2.2.2.2.2.1.arr (k := 13) (by decide) (by decide)).1 _ _) (fun q => by cases q) (by rw [arrV_size]; exact hin) rfl rfl hd fun H1 e1 e2 e3 => ?_
  exact kk H1 [⟨a, _⟩] (hR.putA ha (by decide) (by decide) (v := .long x) rfl e1 e2 e3) (fun q hq => by rw [List.mem_singleton.mp hq]; exact (hR.2.2.2.2.2 a (by omega)).1)
theorem Ev.cast {a : Nat} {i x : Int32} (hd : decode u.2.1 pc = .ok (.castore, 1)) (ha : hK h a = 11) (hin : vp_in i (hN h a)) (hn : narrow .char (.int x) = .int x) (kk : Ev w Z u d (pc + 1) lv st (sI h a i.toNatClampNeg x) Q) : Ev w Z u d pc lv (.int x :: .int i :: .ref a :: st) h Q := by
  refine Ev.goH (h1 := sI h a i.toNatClampNeg x) rfl rfl (fun C _ _ _ _ _ _ hR _ kk => ?_) kk
  refine W.cast C.1 C.2.1 (hR.arr ha (by decide) (by decide)) ((C.2.2.2.2.2.2.2.2.1.arr (k := 11) (by decide) (by decide)).1 _ _) (fun q => by cases q) (by rw [arrV_size]; exact hin) rfl rfl hd fun H1 e1 e2 e3 => ?_
  rw [hn] at e1
  exact kk H1 [⟨a, _⟩] (hR.putA ha (by decide) (by decide) (v := .int x) rfl e1 e2 e3) (fun q hq => by rw [List.mem_singleton.mp hq]; exact (hR.2.2.2.2.2 a (by omega)).1)
theorem Ev.zast {a : Nat} {i x : Int32} (hd : decode u.2.1 pc = .ok (.bastore, 1)) (ha : hK h a = 14) (hin : vp_in i (hN h a)) (hn : narrow .boolean (.int x) = .int x) (kk : Ev w Z u d (pc + 1) lv st (sI h a i.toNatClampNeg x) Q) : Ev w Z u d pc lv (.int x :: .int i :: .ref a :: st) h Q := by
  refine Ev.goH (h1 := sI h a i.toNatClampNeg x) rfl rfl (fun C _ _ _ _ _ _ hR _ kk => ?_) kk
  refine W.zast C.1 C.2.1 (hR.arr ha (by decide) (by decide)) ((C.2.2.2.2.2.2.2.2.1.arr (k := 14) (by decide) (by decide)).1 _ _) (fun q => by cases q) (by rw [arrV_size]; exact hin) rfl rfl hd fun H1 e1 e2 e3 => ?_
  rw [hn] at e1
  exact kk H1 [⟨a, _⟩] (hR.putA ha (by decide) (by decide) (v := .int x) rfl e1 e2 e3) (fun q hq => by rw [List.mem_singleton.mp hq]; exact (hR.2.2.2.2.2 a (by omega)).1)
/-- a State put into an array of them -/
theorem Ev.aast {a v : Nat} {i : Int32} (hd : decode u.2.1 pc = .ok (.aastore, 1)) (ha : hK h a = 15) (hin : vp_in i (hN h a)) (hv : hK h v = 7) (kk : Ev w Z u d (pc + 1) lv st (sR h a i.toNatClampNeg v) Q) : Ev w Z u d pc lv (.ref v :: .int i :: .ref a :: st) h Q := by
  refine Ev.goH (h1 := sR h a i.toNatClampNeg v) rfl rfl (fun C _ _ _ _ _ _ hR _ kk => ?_) kk
  have hlt : i.toNatClampNeg < hN h a := Nat.not_le.mp fun q => hin (Or.inr q)
  have h0 : ¬ i < 0 := fun q => hin (Or.inl q)
  obtain ⟨cellV, g1, g2, g3, -⟩ := hR.obj hv (by decide)
  have hKw := C.2.2.2.2.2.2.2.2.1
  have hcls := (hKw.1.1 7 _ (am_vw 7 (by decide))).2
  obtain ⟨kA, comp, k1, k2, k3, -⟩ := (hKw.arr (k := 15) (by decide) (by decide)).2
  have hcomp : comp = w.1.1 7 := Option.some.inj (k3.symm.trans hcls.1)
  subst hcomp
  obtain ⟨kC, hkC, -⟩ := hcls.2
  have hv0 : v ≠ 0 := fun e => by have h3 := (hR.2.2.2.2.2 v (by omega)).1; have h4 := hR.2.2.1; omega
  refine W.aast C.1 C.2.1 (hR.arr ha (by decide) (by decide)) (fun q h => by cases h) (fun h => by cases h) k1 k2 rfl hkC ⟨h0, by rw [arrV_size]; exact hlt⟩ g1 (fun q h => by rw [g3] at h; cases h) (by rw [g2]; exact hkC) (by rw [g2]; exact va_assign hcls) rfl rfl hd fun H1 e1 e2 e3 => ?_
  exact kk H1 [⟨a, _⟩] (hR.putA ha (by decide) (by decide) (v := .ref v) ⟨rfl, hv0⟩ e1 e2 e3) (fun q hq => by rw [List.mem_singleton.mp hq]; exact (hR.2.2.2.2.2 a (by omega)).1)
end ARR
