/-! Fields, arrays, what is made, and ends, over the picture. -/
def am_cn (ci : Nat) : String := if ci = 0 then RX0 else if ci = 1 then RX1 else if ci = 2 then RX2 else if ci = 3 then RX3 else if ci = 4 then RX4 else if ci = 5 then RX5 else if ci = 6 then RX6 else if ci = 7 then RX7 else if ci = 8 then RX8 else if ci = 9 then RX9 else RX10
def am_ct (ci : Nat) : u_T := if ci = 0 then TX0 else if ci = 1 then TX1 else if ci = 2 then TX2 else if ci = 3 then TX3 else if ci = 4 then TX4 else if ci = 5 then TX5 else if ci = 6 then TX6 else if ci = 7 then TX7 else if ci = 8 then TX8 else if ci = 9 then TX9 else TX10
theorem am_vw (ci : Nat) (h : ci < 11) : vwCl[ci]? = some (am_cn ci, am_ct ci, am_n ci) := by
  match ci, h with
  | 0, _ => rfl
  | 1, _ => rfl
  | 2, _ => rfl
  | 3, _ => rfl
  | 4, _ => rfl
  | 5, _ => rfl
  | 6, _ => rfl
  | 7, _ => rfl
  | 8, _ => rfl
  | 9, _ => rfl
  | 10, _ => rfl
  | n + 11, h => exact absurd h (by omega)
set_option maxRecDepth 100000 in
theorem am_inb0 : ∀ x ∈ u_ws RX0 TX0 6, x ∈ am_big := by decide +kernel
set_option maxRecDepth 100000 in
theorem am_inb1 : ∀ x ∈ u_ws RX1 TX1 7, x ∈ am_big := by decide +kernel
set_option maxRecDepth 100000 in
theorem am_inb2 : ∀ x ∈ u_ws RX2 TX2 6, x ∈ am_big := by decide +kernel
set_option maxRecDepth 100000 in
theorem am_inb3 : ∀ x ∈ u_ws RX3 TX3 18, x ∈ am_big := by decide +kernel
set_option maxRecDepth 100000 in
theorem am_inb4 : ∀ x ∈ u_ws RX4 TX4 10, x ∈ am_big := by decide +kernel
set_option maxRecDepth 100000 in
theorem am_inb5 : ∀ x ∈ u_ws RX5 TX5 8, x ∈ am_big := by decide +kernel
set_option maxRecDepth 100000 in
theorem am_inb6 : ∀ x ∈ u_ws RX6 TX6 15, x ∈ am_big := by decide +kernel
set_option maxRecDepth 100000 in
theorem am_inb7 : ∀ x ∈ u_ws RX7 TX7 5, x ∈ am_big := by decide +kernel
set_option maxRecDepth 100000 in
theorem am_inb8 : ∀ x ∈ u_ws RX8 TX8 5, x ∈ am_big := by decide +kernel
set_option maxRecDepth 100000 in
theorem am_inb9 : ∀ x ∈ u_ws RX9 TX9 9, x ∈ am_big := by decide +kernel
set_option maxRecDepth 100000 in
theorem am_inb10 : ∀ x ∈ u_ws RX10 TX10 55, x ∈ am_big := by decide +kernel
theorem am_inb (ci : Nat) (h : ci < 11) : ∀ x ∈ u_ws (am_cn ci) (am_ct ci) (am_n ci), x ∈ am_big := by
  match ci, h with
  | 0, _ => exact am_inb0
  | 1, _ => exact am_inb1
  | 2, _ => exact am_inb2
  | 3, _ => exact am_inb3
  | 4, _ => exact am_inb4
  | 5, _ => exact am_inb5
  | 6, _ => exact am_inb6
  | 7, _ => exact am_inb7
  | 8, _ => exact am_inb8
  | 9, _ => exact am_inb9
  | 10, _ => exact am_inb10
  | n + 11, h => exact absurd h (by omega)
theorem am_nm (ci : Nat) (h : ci < 11) : ∀ a, a < am_n ci → ∀ b, b < am_n ci → a ≠ b → (am_ct ci a).2.1 ≠ (am_ct ci b).2.1 := by
  match ci, h with
  | 0, _ => exact nmX0
  | 1, _ => exact nmX1
  | 2, _ => exact nmX2
  | 3, _ => exact nmX3
  | 4, _ => exact nmX4
  | 5, _ => exact nmX5
  | 6, _ => exact nmX6
  | 7, _ => exact nmX7
  | 8, _ => exact nmX8
  | 9, _ => exact nmX9
  | 10, _ => exact nmX10
  | n + 11, h => exact absurd h (by omega)
theorem am_tyok (ci : Nat) (h : ci < 11) : ∀ k, k < am_n ci → parseFieldDescriptor (am_ct ci k).2.2.1 = some (am_tyf ci k) := by
  match ci, h with
  | 0, _ => exact tyX0_ok
  | 1, _ => exact tyX1_ok
  | 2, _ => exact tyX2_ok
  | 3, _ => exact tyX3_ok
  | 4, _ => exact tyX4_ok
  | 5, _ => exact tyX5_ok
  | 6, _ => exact tyX6_ok
  | 7, _ => exact tyX7_ok
  | 8, _ => exact tyX8_ok
  | 9, _ => exact tyX9_ok
  | 10, _ => exact tyX10_ok
  | n + 11, h => exact absurd h (by omega)
def am_zero (t : Nat) : Value := if t = 0 then .int 0 else if t = 1 then .long 0 else .null
theorem am_dflt : ∀ ci, ci < 11 → ∀ k, k < am_n ci → defaultValue (am_tyf ci k) = am_zero (am_ty ci k) := by decide +kernel
theorem am_R.obj {w : am_W} {h : am_H} {H : Heap} (q : am_R w h H) {a ci : Nat} (ha : hK h a = ci) (hc : ci < 11) : t_OB a (w.1.1 ci) (am_n ci) (w.1.2 ci) H (fun k => am_val h a k (am_ty ci k)) := by
  have q6 := (q.2.2.2.2.2 a (by omega)).2
  unfold am_at at q6
  rw [ha, if_pos hc] at q6
  exact q6
theorem am_R.arr {w : am_W} {h : am_H} {H : Heap} (q : am_R w h H) {a k : Nat} (ha : hK h a = k) (hc : 11 ≤ k) (hc2 : k < 16) : H[a]? = some (arrV (w.2.1 k) (hN h a) (fun j => am_val h a j (am_et k))) := by
  have q6 := (q.2.2.2.2.2 a (by omega)).2
  unfold am_at at q6
  rw [ha, if_neg (by omega)] at q6
  exact q6
theorem am_Kw.arr {w : am_W} {s : State} (q : am_Kw w s) {k : Nat} (hc : 11 ≤ k) (hc2 : k < 16) : ArrOfT s (w.2.1 k) (am_aty k) ∧ va_RA s (w.2.1 k) (am_aty k) := by
  rcases (show k = 11 ∨ k = 12 ∨ k = 13 ∨ k = 14 ∨ k = 15 by omega) with rfl | rfl | rfl | rfl | rfl
  · exact q.1.2 0 _ rfl
  · exact q.1.2 1 _ rfl
  · exact q.1.2 2 _ rfl
  · exact q.1.2 3 _ rfl
  · exact q.1.2 4 _ rfl
section MEM
variable {w : am_W} {Z : am_Zt} {u : am_M} {d pc : Nat} {lv : List (Nat × Value)} {st : List Value} {h : am_H} {Q : Option Value → am_H → Prop}
theorem Ev.getf {ci k i a : Nat} (hd : decode u.2.1 pc = .ok (.getfield i, 3)) (hc : ci < 11) (hk : k < am_n ci) (hw : Cond.fieldLink u.1.cls i (am_ct ci k).1 (am_ct ci k).2.1 (am_ct ci k).2.2.1 ∈ am_big) (ha : hK h a = ci) (kk : Ev w Z u d (pc + 3) lv (am_val h a k (am_ty ci k) :: st) h Q) : Ev w Z u d pc lv (.ref a :: st) h Q := by
  refine Ev.go1 (fun C _ _ _ _ _ _ hR _ kk => ?_) kk
  obtain ⟨hx, hb, -, -, -, hown, -, hts, hKw, -⟩ := id C
  obtain ⟨cell, q1, q2, q3, q4⟩ := hR.obj ha hc
  obtain ⟨hS, hfc, kC, hkC, hkind⟩ := hKw.1.1 ci _ (am_vw ci hc)
  obtain ⟨cf, kf, fi, f, hi, hsl⟩ := hS k hk
  refine W.getf hx hb hown (hts _ hw) hi (u_facts hfc hkC (u_lays hts (am_inb ci hc) hk) hi).1 q1 (by rw [q3]; exact fun h => by cases h) (v := am_val h a k (am_ty ci k)) ?_ rfl rfl hd kk
  rw [hsl]
  exact q4 k hk
theorem Ev.getI {ci k i a : Nat} (hd : decode u.2.1 pc = .ok (.getfield i, 3)) (hc : ci < 11) (hk : k < am_n ci) (ht : am_ty ci k = 0) (hw : Cond.fieldLink u.1.cls i (am_ct ci k).1 (am_ct ci k).2.1 (am_ct ci k).2.2.1 ∈ am_big) (ha : hK h a = ci) (kk : Ev w Z u d (pc + 3) lv (.int (hI h a k) :: st) h Q) : Ev w Z u d pc lv (.ref a :: st) h Q := by
  refine Ev.getf hd hc hk hw ha ?_
  rw [ht]
  exact kk
theorem Ev.getJ {ci k i a : Nat} (hd : decode u.2.1 pc = .ok (.getfield i, 3)) (hc : ci < 11) (hk : k < am_n ci) (ht : am_ty ci k = 1) (hw : Cond.fieldLink u.1.cls i (am_ct ci k).1 (am_ct ci k).2.1 (am_ct ci k).2.2.1 ∈ am_big) (ha : hK h a = ci) (kk : Ev w Z u d (pc + 3) lv (.long (hJ h a k) :: st) h Q) : Ev w Z u d pc lv (.ref a :: st) h Q := by
  refine Ev.getf hd hc hk hw ha ?_
  rw [ht]
  exact kk
theorem Ev.getR {ci k i a : Nat} (hd : decode u.2.1 pc = .ok (.getfield i, 3)) (hc : ci < 11) (hk : k < am_n ci) (ht : am_ty ci k = 2) (hw : Cond.fieldLink u.1.cls i (am_ct ci k).1 (am_ct ci k).2.1 (am_ct ci k).2.2.1 ∈ am_big) (ha : hK h a = ci) (hz : hR h a k ≠ 0) (kk : Ev w Z u d (pc + 3) lv (.ref (hR h a k) :: st) h Q) : Ev w Z u d pc lv (.ref a :: st) h Q := by
  refine Ev.getf hd hc hk hw ha ?_
  rw [ht]
  show Ev w Z u d (pc + 3) lv (am_o (hR h a k) :: st) h Q
  rw [am_o_ref hz]
  exact kk
theorem am_R.putO {w : am_W} {h : am_H} {H H1 : Heap} (q : am_R w h H) {a ci k : Nat} (ha : hK h a = ci) (hc : ci < 11) {v : Value} (hi : am_is v (am_ty ci k)) {cell : Cell} (q2 : cell.cls = w.1.1 ci) (q3 : cell.vm = .none) (q4 : ∀ j, j < am_n ci → cell.slots[w.1.2 ci j]? = some (am_val h a j (am_ty ci j))) (hap : ∀ x y, x < am_n ci → y < am_n ci → x ≠ y → w.1.2 ci x ≠ w.1.2 ci y) (hk : k < am_n ci)
    (e1 : H1[a]? = some (cell.setSlot (w.1.2 ci k) v)) (e2 : H1.size = H.size) (e3 : ∀ b : Nat, b ≠ a → H1[b]? = H[b]?) : am_R w (am_set h a k v) H1 := by
  refine q.put e2 e3 (by omega) (am_set_Z _ _ _ _) (am_set_K _ _ _ _) (am_set_N _ _ _ _) (fun b j t hb => am_set_ne t (Or.inl hb)) ?_
  unfold am_at
  rw [am_set_K, ha, if_pos hc]
  refine t_OB.to (V := updV (fun k => am_val h a k (am_ty ci k)) k v) ⟨_, e1, q2, q3, t_set q4 hap hk v⟩ (fun j _ => ?_)
  by_cases hj : j = k
  · subst hj
    rw [am_set_eq hi]
    simp [updV]
  · rw [am_set_ne _ (Or.inr hj)]
    simp [updV, hj]
theorem Ev.put {ci k i a : Nat} {v : Value} (hd : decode u.2.1 pc = .ok (.putfield i, 3)) (hc : ci < 11) (hk : k < am_n ci) (hw : Cond.fieldLink u.1.cls i (am_ct ci k).1 (am_ct ci k).2.1 (am_ct ci k).2.2.1 ∈ am_big) (hfin : (am_ct ci k).2.2.2 = false) (hn : narrow (am_tyf ci k) v = v) (hfit : fits (am_tyf ci k) v = true) (hi : am_is v (am_ty ci k)) (ha : hK h a = ci) (kk : Ev w Z u d (pc + 3) lv st (am_set h a k v) Q) : Ev w Z u d pc lv (v :: .ref a :: st) h Q := by
  refine Ev.goH (am_set_Z _ _ _ _) (am_set_S _ _ _ _) (fun C _ _ _ _ _ _ hR _ kk => ?_) kk
  obtain ⟨hx, hb, -, -, -, hown, -, hts, hKw, -⟩ := id C
  obtain ⟨cell, q1, q2, q3, q4⟩ := hR.obj ha hc
  have hap := va_apart (own := u.1.cls) hts (am_inb ci hc) (am_tyf ci) (am_tyok ci hc) (am_nm ci hc) hKw.1 (am_vw ci hc)
  obtain ⟨hS, hfc, kC, hkC, hkind⟩ := hKw.1.1 ci _ (am_vw ci hc)
  obtain ⟨cf, kf, fi, f, hi', hsl⟩ := hS k hk
  have hlay := hts _ (am_inb ci hc _ (u_in_lay hk))
  unfold u_lay at hlay
  rw [if_neg (by rw [hfin]; decide)] at hlay
  have hst := (u_facts hfc hkC (u_lays hts (am_inb ci hc) hk) hi').1
  have h6 := u_store hfc hkC hkind hlay hi' (am_tyok ci hc k hk) hn hfit
  refine W.putK hx hb (f := f) ⟨hown, hts _ hw, ⟨_, _, _, hi'⟩, hst⟩ (by rw [q2]; exact h6) q1 q3 (by rw [hsl]; exact k2_hasslot (q4 k hk)) rfl rfl hd fun H' e1 e2 e3 => ?_
  rw [hsl] at e1 ⊢
  exact kk H' [⟨a, _⟩] (hR.putO ha hc hi q2 q3 q4 hap hk e1 e2 e3) (fun q hq => by rw [List.mem_singleton.mp hq]; exact (hR.2.2.2.2.2 a (by omega)).1)
theorem Ev.putF {ci k i a : Nat} {v : Value} (hd : decode u.2.1 pc = .ok (.putfield i, 3)) (hc : ci < 11) (hk : k < am_n ci) (hw : Cond.fieldLink u.1.cls i (am_ct ci k).1 (am_ct ci k).2.1 (am_ct ci k).2.2.1 ∈ am_big) (hfin : (am_ct ci k).2.2.2 = true) (hin : u.1.name = "<init>") (hdecl : (am_ct ci k).1 = u.1.cls) (hn : narrow (am_tyf ci k) v = v) (hfit : fits (am_tyf ci k) v = true) (hi : am_is v (am_ty ci k)) (ha : hK h a = ci) (kk : Ev w Z u d (pc + 3) lv st (am_set h a k v) Q) : Ev w Z u d pc lv (v :: .ref a :: st) h Q := by
  refine Ev.goH (am_set_Z _ _ _ _) (am_set_S _ _ _ _) (fun C H locs cells slots ls QQ hR hl0 kk => ?_) kk
  rename_i p l e R s m args below meth c mc ms
  obtain ⟨hx, hb, -, -, -, hown, hname, hts, hKw, -⟩ := id C
  obtain ⟨cell, q1, q2, q3, q4⟩ := hR.obj ha hc
  have hap := va_apart (own := u.1.cls) hts (am_inb ci hc) (am_tyf ci) (am_tyok ci hc) (am_nm ci hc) hKw.1 (am_vw ci hc)
  obtain ⟨hS, hfc, kC, hkC, hkind⟩ := hKw.1.1 ci _ (am_vw ci hc)
  obtain ⟨cf, kf, fi, f, hi', hsl⟩ := hS k hk
  have hlay := hts _ (am_inb ci hc _ (u_in_lay hk))
  unfold u_lay at hlay
  rw [if_pos hfin] at hlay
  have hst := (u_facts hfc hkC (u_lays hts (am_inb ci hc) hk) hi').1
  have hcf : m.cls = cf := by
    obtain ⟨_, _, c', _, _, _, -, -, hf', -, -, -, hown2, -⟩ := Cond.laysFinal_spec hlay
    have e1 : c' = cf := by have := hi'.symm.trans hf'; simp at this; exact this.1.symm
    rw [hdecl] at hown2
    rw [← e1]; exact Option.some.inj (hown.symm.trans hown2)
  have h6 := u_fits hfc hkC hkind (Or.inr hlay) hi' (am_tyok ci hc k hk) hn hfit
  refine W.putFinK hx hb hown (hts _ hw) hi' hst hcf (hname.trans hin) (by rw [q2]; exact h6) q1 q3 (by rw [hsl]; exact k2_hasslot (q4 k hk)) rfl rfl hd fun H' e1 e2 e3 => ?_
  rw [hsl] at e1 ⊢
  exact kk H' [⟨a, _⟩] (hR.putO ha hc hi q2 q3 q4 hap hk e1 e2 e3) (fun q hq => by rw [List.mem_singleton.mp hq]; exact (hR.2.2.2.2.2 a (by omega)).1)
end MEM
