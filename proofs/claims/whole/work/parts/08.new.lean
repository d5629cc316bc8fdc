theorem am_val_new {h h1 : am_H} {b : Nat} (hI1 : hI h1 b = hI h b) (hJ1 : hJ h1 b = hJ h b) (hR1 : hR h1 b = hR h b) (j t : Nat) : am_val h1 b j t = am_val h b j t := by
  unfold am_val
  rw [hI1, hJ1, hR1]
theorem am_val_nO (h : am_H) (ci n : Nat) {b : Nat} (hb : b ≠ hZ h) (j t : Nat) : am_val (nO h ci n) b j t = am_val h b j t := am_val_new (h := h) (h1 := nO h ci n) (va_up_ne _ _ hb) (va_up_ne _ _ hb) (va_up_ne _ _ hb) j t
theorem am_val_nA (h : am_H) (ci n : Nat) {b : Nat} (hb : b ≠ hZ h) (j t : Nat) : am_val (nA h ci n) b j t = am_val h b j t := am_val_new (h := h) (h1 := nA h ci n) (va_up_ne _ _ hb) (va_up_ne _ _ hb) (va_up_ne _ _ hb) j t
/-- a cell is born at the heap's end -/
theorem am_R.born {w : am_W} {h h1 : am_H} {H H1 : Heap} {k : Nat} (q : am_R w h H) (hz : H1.size = hZ h + 1) (ho : ∀ b : Nat, b < hZ h → H1[b]? = H[b]?) (z1 : hZ h1 = hZ h + 1) (k1 : hK h1 = va_up (hK h) (hZ h) k) (n1 : ∀ b, b ≠ hZ h → hN h1 b = hN h b) (v1 : ∀ b j t, b ≠ hZ h → am_val h1 b j t = am_val h b j t) (h1a : am_at w h1 H1 (hZ h)) : am_R w h1 H1 := by
  obtain ⟨q1, q2, q3, q4, q5, q6⟩ := q
  refine ⟨by rw [hz, z1], q2, q3, by omega, fun b hb => ?_, fun b hb => ?_⟩
  · rw [ho b (by omega), q5 b hb]
  · by_cases e : b = hZ h
    · subst e
      exact ⟨q4, h1a⟩
    · rw [k1, va_up_ne _ _ e] at hb
      have hl : b < hZ h := by rw [← q1]; exact (q6 b hb).2.lt
      exact ⟨(q6 b hb).1, (q6 b hb).2.kept (ho b hl) (by rw [k1, va_up_ne _ _ e]) (n1 b e) (fun j t => v1 b j t e)⟩
section NEW
variable {w : am_W} {Z : am_Zt} {u : am_M} {d pc : Nat} {lv : List (Nat × Value)} {st : List Value} {h : am_H} {Q : Option Value → am_H → Prop}
theorem Ev.newO {ci i : Nat} (hd : decode u.2.1 pc = .ok (.new i, 3)) (hc : ci < 11) (hw : Cond.classLink u.1.cls i (am_cn ci) ∈ am_big) (hi : Cond.instantiable (am_cn ci) (am_n ci) ∈ am_big) (hn : Cond.initialized (am_cn ci) ∈ am_big) (kk : Ev w Z u d (pc + 3) lv (.ref (hZ h) :: st) (nO h ci (am_n ci)) Q) : Ev w Z u d pc lv st h Q := by
  refine Ev.goN (h1 := nO h ci (am_n ci)) (n := am_n ci) rfl rfl (fun C H locs cells slots ls QQ h1 h2 hq hl kk => ?_) kk
  rename_i p l e R s m args below meth c mc ms
  obtain ⟨hx, hb, -, -, -, hown, -, hts, hKw, -⟩ := id C
  have hKn := hKw.1.1 ci _ (am_vw ci hc)
  refine W.newcK (n := am_n ci) hx hb hown (hts _ hw) (hts _ hi) (hts _ hn) rfl hd h1 h2 hKn.2.1 hq.1 fun H1 kC hkC e1 z1 o1 => ?_
  refine kk H1 (hq.born (k := ci) z1 o1 rfl rfl (fun b _ => rfl) (fun b j t hb => am_val_nO _ _ _ hb j t) ?_)
  have hk1 : hK (nO h ci (am_n ci)) (hZ h) = ci := va_up_self _ _ _
  unfold am_at
  rw [hk1, if_pos hc]
  refine (u_born (am_tyf ci) hts (am_inb ci hc) hKn hkC e1 (am_tyok ci hc)).to (fun k hk => ?_)
  rw [am_dflt ci hc k hk]
  unfold am_zero am_val
  split
  · simp [nO, hI, va_up_self]
  · split
    · simp [nO, hJ, va_up_self]
    · simp [nO, hR, va_up_self, am_o]
theorem Ev.newA {k : Nat} {ty : ArrayType} {n : Int32} {N : Nat} (hd : decode u.2.1 pc = .ok (.newarray ty, 2)) (h1 : 11 ≤ k) (h2 : k < 15) (ht : newarray.typeOf ty = am_aty k) (hz : defaultValue (am_aty k) = am_zero (am_et k)) (hw : Cond.arrayClass (am_aty k) ∈ am_big) (hn : ¬ n < 0) (hN' : n.toNatClampNeg = N) (hbytes : N * componentBytes (am_aty k) ≤ 536870912) (hra : ∀ (s : State) (c : ClassId), va_RA s c (am_aty k) → s.vm.findClass ("[" ++ (am_aty k).toString) = some c) (kk : Ev w Z u d (pc + 2) lv (.ref (hZ h) :: st) (nA h k N) Q) : Ev w Z u d pc lv (.int n :: st) h Q := by
  refine Ev.goN (h1 := nA h k N) (n := N) rfl rfl (fun C H locs cells slots ls QQ g1 g2 hq hl kk => ?_) kk
  rename_i p l e R s m args below meth c mc ms
  obtain ⟨hx, hb, -, -, -, hown, -, hts, hKw, -⟩ := id C
  refine va_newaK hx hb (atype := ty) (by rw [ht]; exact hts _ hw) rfl hd rfl hn hN' (by rw [ht]; exact hbytes) g1 g2 hq.1 fun H1 cA e1 z1 o1 hAr hNm => ?_
  rw [ht] at e1 hAr hNm
  have hcA : cA = w.2.1 k := Option.some.inj (hNm.symm.trans (hra _ _ (hKw.arr h1 (by omega)).2))
  subst hcA
  refine kk H1 (hq.born (k := k) z1 o1 rfl rfl (fun b hb => va_up_ne _ _ hb) (fun b j t hb => am_val_nA _ _ _ hb j t) ?_)
  have hk1 : hK (nA h k N) (hZ h) = k := va_up_self _ _ _
  have hn1 : hN (nA h k N) (hZ h) = N := va_up_self _ _ _
  unfold am_at
  rw [hk1, hn1, if_neg (by omega), e1, hz]
  congr 2
  funext j
  unfold am_zero am_val
  split
  · simp [nA, hI, va_up_self]
  · split
    · simp [nA, hJ, va_up_self]
    · simp [nA, hR, va_up_self, am_o]
theorem Ev.newI {n : Int32} {N : Nat} (hd : decode u.2.1 pc = .ok (.newarray .int, 2)) (hw : Cond.arrayClass .int ∈ am_big) (hn : ¬ n < 0) (hN' : n.toNatClampNeg = N) (hb : N ≤ 100000000) (kk : Ev w Z u d (pc + 2) lv (.ref (hZ h) :: st) (nA h 12 N) Q) : Ev w Z u d pc lv (.int n :: st) h Q :=
  Ev.newA (k := 12) hd (by decide) (by decide) rfl rfl hw hn hN' (show N * 4 ≤ _ by omega) (fun _ _ q => q) kk
theorem Ev.newJ {n : Int32} {N : Nat} (hd : decode u.2.1 pc = .ok (.newarray .long, 2)) (hw : Cond.arrayClass .long ∈ am_big) (hn : ¬ n < 0) (hN' : n.toNatClampNeg = N) (hb : N ≤ 50000000) (kk : Ev w Z u d (pc + 2) lv (.ref (hZ h) :: st) (nA h 13 N) Q) : Ev w Z u d pc lv (.int n :: st) h Q :=
  Ev.newA (k := 13) hd (by decide) (by decide) rfl rfl hw hn hN' (show N * 8 ≤ _ by omega) (fun _ _ q => q) kk
theorem Ev.newZ {n : Int32} {N : Nat} (hd : decode u.2.1 pc = .ok (.newarray .boolean, 2)) (hw : Cond.arrayClass .boolean ∈ am_big) (hn : ¬ n < 0) (hN' : n.toNatClampNeg = N) (hb : N ≤ 100000000) (kk : Ev w Z u d (pc + 2) lv (.ref (hZ h) :: st) (nA h 14 N) Q) : Ev w Z u d pc lv (.int n :: st) h Q :=
  Ev.newA (k := 14) hd (by decide) (by decide) rfl rfl hw hn hN' (show N * 1 ≤ _ by omega) (fun _ _ q => q) kk
theorem Ev.newC {n : Int32} {N : Nat} (hd : decode u.2.1 pc = .ok (.newarray .char, 2)) (hw : Cond.arrayClass .char ∈ am_big) (hn : ¬ n < 0) (hN' : n.toNatClampNeg = N) (hb : N ≤ 100000000) (kk : Ev w Z u d (pc + 2) lv (.ref (hZ h) :: st) (nA h 11 N) Q) : Ev w Z u d pc lv (.int n :: st) h Q :=
  Ev.newA (k := 11) hd (by decide) (by decide) rfl rfl hw hn hN' (show N * 2 ≤ _ by omega) (fun _ _ q => q) kk
/-- an array of States -/
theorem Ev.newS {i : Nat} {n : Int32} {N : Nat} (hd : decode u.2.1 pc = .ok (.anewarray i, 3)) (hw : Cond.classLink u.1.cls i "EvenFerry$State" ∈ am_big) (hao : ∀ s, w.2.2.2.2 s → va_AO "EvenFerry$State" s) (hn : ¬ n < 0) (hN' : n.toNatClampNeg = N) (hb : N ≤ 100000000) (kk : Ev w Z u d (pc + 3) lv (.ref (hZ h) :: st) (nA h 15 N) Q) : Ev w Z u d pc lv (.int n :: st) h Q := by
  refine Ev.goN (h1 := nA h 15 N) (n := N) rfl rfl (fun C H locs cells slots ls QQ g1 g2 hq hl kk => ?_) kk
  rename_i p l e R s m args below meth c mc ms
  obtain ⟨hx, hb', -, -, -, hown, -, hts, hKw, -⟩ := id C
  subst hN'
  refine W.anew hx hb' hown (hts _ hw) (va_AO.use (hao s hKw.2.2.1)) rfl hd rfl hn (by omega) g1 g2 fun cA kA comp f1 f2 f3 f4 => ?_
  generalize hH1 : H.push ({ cls := cA, slots := Array.replicate n.toNatClampNeg .null, vm := .none } : Cell) = H1
  have z1 : H1.size = hZ h + 1 := by rw [← hH1, Array.size_push, hq.1]
  have e1 : H1[hZ h]? = some (arrV cA n.toNatClampNeg (fun _ => .null)) := by rw [← hH1, ← hq.1, Array.getElem?_push_size, ← arrV_new]
  have o1 : ∀ q : Nat, q < hZ h → H1[q]? = H[q]? := fun q hl => by rw [← hH1, Array.getElem?_push, if_neg (by rw [hq.1]; exact Nat.ne_of_lt hl)]
  obtain ⟨-, -, -, -, -, k4⟩ := (hKw.arr (k := 15) (by decide) (by decide)).2
  have hcA : cA = w.2.1 15 := Option.some.inj (f1.symm.trans k4)
  subst hcA
  rw [hq.1]
  refine kk H1 (hq.born (k := 15) z1 o1 rfl rfl (fun b hb => va_up_ne _ _ hb) (fun b j t hb => am_val_nA _ _ _ hb j t) ?_)
  have hk1 : hK (nA h 15 n.toNatClampNeg) (hZ h) = 15 := va_up_self _ _ _
  have hn1 : hN (nA h 15 n.toNatClampNeg) (hZ h) = n.toNatClampNeg := va_up_self _ _ _
  unfold am_at
  rw [hk1, hn1, if_neg (by omega), e1]
  congr 2
  funext j
  simp [am_val, am_et, nA, hR, va_up_self, am_o]
/-! ends -/
theorem Ev.iret {v : Int32} (rt : FieldType) (hd : decode u.2.1 pc = .ok (.ireturn, 1)) (hr : u.2.2.2 = some rt) (hn : narrow rt (.int v) = .int v) (hQ : Q (some (.int v)) h) : Ev w (am_Z w) u d pc lv [.int v] h Q := by
  refine ⟨_, h, hQ, Nat.le_refl _, Nat.le_refl _, fun p l e R s m args below meth c mc ms C H locs cells slots ls hq hl hf hc hs => ?_⟩
  have ec : cells = mc := by omega
  have es : slots = ms := by omega
  subst ec; subst es
  exact W.zret C.1 C.2.1 (C.2.2.1.trans hr) hn (fun t ht _ => ⟨rfl, by rw [ht]; exact hq⟩) hf hd C.2.2.2.1
theorem Ev.lret {v : Int64} (hd : decode u.2.1 pc = .ok (.lreturn, 1)) (hr : u.2.2.2 = some .long) (hQ : Q (some (.long v)) h) : Ev w (am_Z w) u d pc lv [.long v] h Q := by
  refine ⟨_, h, hQ, Nat.le_refl _, Nat.le_refl _, fun p l e R s m args below meth c mc ms C H locs cells slots ls hq hl hf hc hs => ?_⟩
  have ec : cells = mc := by omega
  have es : slots = ms := by omega
  subst ec; subst es
  exact W.lret C.1 C.2.1 (C.2.2.1.trans hr) (fun t ht _ => ⟨rfl, by rw [ht]; exact hq⟩) hf hd C.2.2.2.1
theorem Ev.vret (hd : decode u.2.1 pc = .ok (.return_, 1)) (hr : u.2.2.2 = none) (hQ : Q none h) : Ev w (am_Z w) u d pc lv [] h Q := by
  refine ⟨_, h, hQ, Nat.le_refl _, Nat.le_refl _, fun p l e R s m args below meth c mc ms C H locs cells slots ls hq hl hf hc hs => ?_⟩
  have ec : cells = mc := by omega
  have es : slots = ms := by omega
  subst ec; subst es
  exact W.vret C.1 C.2.1 (C.2.2.1.trans hr) (fun t ht _ => ⟨rfl, by rw [ht]; exact hq⟩) hf hd C.2.2.2.1
theorem Ev.aret {v : Nat} (n : FieldType) (hn : (∃ x, n = .object x) ∨ ∃ x, n = .array x) (hd : decode u.2.1 pc = .ok (.areturn, 1)) (hr : u.2.2.2 = some n) (hQ : Q (some (.ref v)) h) : Ev w (am_Z w) u d pc lv [.ref v] h Q := by
  refine ⟨_, h, hQ, Nat.le_refl _, Nat.le_refl _, fun p l e R s m args below meth c mc ms C H locs cells slots ls hq hl hf hc hs => ?_⟩
  have ec : cells = mc := by omega
  have es : slots = ms := by omega
  subst ec; subst es
  exact W.aret C.1 C.2.1 (C.2.2.1.trans hr) hn (Or.inr ⟨v, rfl⟩) (fun t ht _ => ⟨rfl, by rw [ht]; exact hq⟩) hf hd C.2.2.2.1
end NEW
