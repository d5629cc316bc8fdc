/-! Rows for what is special: a row copied, the string constants. -/
/-- a row of ints put anew -/
def rI (h : am_H) (a : Nat) (f : Nat → Int32) : am_H := (hK h, hN h, va_up (hI h) a f, hJ h, hR h, hZ h, hS h)
theorem am_nn {z : Int32} (hz : ¬ z < 0) : z.toInt = (z.toNatClampNeg : Int) := by
  have hz0 : (0 : Int) ≤ z.toInt := by
    have := Int32.not_lt.mp hz
    simpa using Int32.le_iff_toInt_le.mp this
  show z.toInt = ((z.toInt.toNat : Nat) : Int)
  omega
theorem am_R.row {w : am_W} {h : am_H} {H H1 : Heap} (q : am_R w h H) {a k : Nat} {f : Nat → Int32} (ha : hK h a = k) (h1 : 11 ≤ k) (h2 : k < 16) (hk0 : am_et k = 0) (e1 : H1[a]? = some (arrV (w.2.1 k) (hN h a) (fun j => .int (f j)))) (e2 : H1.size = H.size) (e3 : ∀ b : Nat, b ≠ a → H1[b]? = H[b]?) : am_R w (rI h a f) H1 := by
  refine q.put e2 e3 (by omega) rfl rfl rfl (fun b j t hb => am_val_new (h := h) (h1 := rI h a f) (va_up_ne _ _ hb) rfl rfl j t) ?_
  unfold am_at
  rw [show hK (rI h a f) = hK h from rfl, show hN (rI h a f) = hN h from rfl, ha, if_neg (by omega), e1]
  congr 2
  funext j
  rw [hk0]
  show _ = Value.int (va_up (hI h) a f a j)
  rw [va_up_self]
section SPC
variable {w : am_W} {Z : am_Zt} {u : am_M} {d pc : Nat} {lv : List (Nat × Value)} {st : List Value} {h : am_H} {Q : Option Value → am_H → Prop}
theorem Ev.acopy {i a0 a : Nat} {sp dp n : Int32} (hl : Cond.methodLink u.1.cls i arraycopyName ∈ am_big) (hnat : Cond.native arraycopyName ∈ am_big) (hst : Cond.static arraycopyName ∈ am_big) (hini : Cond.initialized "java/lang/System" ∈ am_big) (hd : decode u.2.1 pc = .ok (.invokestatic i, 3)) (hrm : (st.map fun x => x.category).sum ≤ 8)
    (k0 : hK h a0 = 12) (k1 : hK h a = 12) (h1 : ¬ sp < 0) (h2 : ¬ dp < 0) (h3 : ¬ n < 0) (h4 : sp.toNatClampNeg + n.toNatClampNeg ≤ hN h a0) (h5 : dp.toNatClampNeg + n.toNatClampNeg ≤ hN h a)
    (kk : ∀ h1 : am_H, h1 = rI h a (va_cpy (hI h a0) (hI h a) sp.toNatClampNeg dp.toNatClampNeg n.toNatClampNeg) → Ev w Z u (d + 1) (pc + 3) lv st h1 Q) : Ev w Z u (d + 1) pc lv (.int n :: .int dp :: .ref a :: .int sp :: .ref a0 :: st) h Q := by
  have kk := kk _ rfl
  generalize hf : va_cpy (hI h a0) (hI h a) sp.toNatClampNeg dp.toNatClampNeg n.toNatClampNeg = f at kk
  refine Ev.goH (h1 := rI h a f) rfl rfl (fun C H locs cells slots ls QQ hq hlv kk => ?_) kk
  rename_i p l e R s m args below meth c mc ms
  obtain ⟨hx, hb, -, -, hml, hown, -, hts, hKw, hfr, hlo, -⟩ := id C
  intro T hT X
  have hc0 := hq.arr k0 (by decide) (by decide)
  have hc1 := hq.arr k1 (by decide) (by decide)
  obtain ⟨-, kc, hkc, cm, hkk⟩ := (hKw.arr (k := 12) (by decide) (by decide)).1 (hN h a0) (fun j => am_val h a0 j (am_et 12))
  obtain ⟨vm', X', step⟩ := X.arraycopy hx hown (hts _ hl) (hts _ hnat) (hts _ hst) (hts _ hini) (src := a0) (dst := a) (cs := arrV (w.2.1 12) (hN h a0) (fun j => am_val h a0 j (am_et 12))) (cd := arrV (w.2.1 12) (hN h a) (fun j => am_val h a j (am_et 12))) (srcPos := sp) (destPos := dp) (n := n) (by rw [hT]; exact hc0) (by rw [hT]; exact hc1)
    (fun _ h => by cases h) (fun _ h => by cases h) (fun h => by cases h) (fun h => by cases h) hkc hkc hkk hkk (by rfl) h1 h2 h3
    (by rw [am_nn h1, am_nn h3]; show ¬ _ > ((arrV _ _ _).slots.size : Int); rw [arrV_size]; omega)
    (by rw [am_nn h2, am_nn h3]; show ¬ _ > ((arrV _ _ _).slots.size : Int); rw [arrV_size]; omega)
    (fun vm₁ _ i hi => by
      have e : (arrV (w.2.1 12) (hN h a0) (fun j => am_val h a0 j (am_et 12))).slots.getD (sp.toNatClampNeg + i) .null = .int (hI h a0 (sp.toNatClampNeg + i)) := by
        rw [Array.getD_eq_getD_getElem?, arrV_read _ _ (by omega)]
        rfl
      refine ⟨?_, ?_⟩
      · rw [e]
        rfl
      · rw [e]
        exact trivial)
    (g := F0 m pc ls (.int n :: .int dp :: .ref a :: .int sp :: .ref a0 :: st)) rfl (by rw [hml]; exact hlv.1) (rest := st) rfl (by rw [hb]; exact hd) (by omega) (by
      have h9 : nativeFrameWords "java/lang/System" "arraycopy" 5 ≤ 60 := by decide +kernel
      show 2 * 0 + _ + _ ≤ _
      omega)
  have e1 : copied (arrV (w.2.1 12) (hN h a0) (fun j => am_val h a0 j (am_et 12))) (arrV (w.2.1 12) (hN h a) (fun j => am_val h a j (am_et 12))) sp dp n = arrV (w.2.1 12) (hN h a) (fun j => .int (f j)) := by
    rw [← hf]
    exact va_copied (fun z => .int z) (w.2.1 12) (w.2.1 12) (hI h a0) (hI h a) h4
  rw [e1] at X' step
  have hl : a < H.size := (Array.getElem?_eq_some_iff.mp hc1).1
  have hheap : ((T.setVm vm').setCell a (arrV (w.2.1 12) (hN h a) (fun j => .int (f j)))).heap = H.setIfInBounds a (arrV (w.2.1 12) (hN h a) (fun j => .int (f j))) := by rw [← hT]; rfl
  obtain ⟨t, a1, b1⟩ := kk _ _ (hq.row (f := f) k1 (by decide) (by decide) rfl (show (H.setIfInBounds a _)[a]? = some _ by simp [Array.getElem?_setIfInBounds, hl]) (by simp) (fun q hq => by simp [Array.getElem?_setIfInBounds, Ne.symm hq])) (fun q hq' => by
      obtain ⟨z, -, hz⟩ := List.mem_map.mp hq'
      rw [← hz]
      exact (hq.2.2.2.2.2 a (by omega)).1) _ hheap X'
  exact ⟨t, step t a1, b1⟩
end SPC
