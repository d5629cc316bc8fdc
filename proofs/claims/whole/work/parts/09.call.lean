/-! Calls over the picture. -/
def am_ws (u : am_M) : List Cond := Cond.code u.1 u.2.1 u.2.2.1 u.2.2.2 :: am_big
def am_rm (d c s : Nat) : Room := { frames := d, cells := c, slots := s, locals := 100 * d }
def am_P (w : am_W) (As : List Value) (h : am_H) : Array Value → State → Prop := va_Pc As (fun U => am_R w h U.heap ∧ am_Kw w U)
def am_Qc (w : am_W) (r : Option Value) (h' : am_H) : Array Value → State → Outcome → State → Prop := fun _ _ o t => o = .returned r ∧ am_R w h' t.heap
theorem am_P.blind {w : am_W} {As : List Value} {h : am_H} : FrameBlind (am_P w As h) := fun a U g mk q => ⟨q.1, q.2.1, q.2.2.calling⟩
/-- a method that may be called: its code and its class's being there are words; its name is an ordinary one; n arguments beside the object -/
def am_ok (u : am_M) (n : Nat) : Prop := Cond.code u.1 u.2.1 u.2.2.1 u.2.2.2 ∈ am_big ∧ Cond.initialized u.1.cls ∈ am_big ∧ plainName u.1.cls = true ∧ (u.1.cls ≠ "java/lang/invoke/MethodHandle" ∧ u.1.cls ≠ "java/lang/invoke/VarHandle" ∧ (parseMethodDescriptor u.1.desc).map (fun d => d.parameters.length) = some n) ∧ u.2.2.1 ≤ 60
theorem am_good {u : am_M} {n : Nat} (o : am_ok u n) : GoodIn am_big (am_ws u) := fun x hx => by
  rcases List.mem_cons.mp hx with rfl | hx
  · exact ⟨o.1, am_big_good o.1⟩
  · exact ⟨hx, am_big_good hx⟩
theorem EvM.met {w : am_W} {u : am_M} {d : Nat} {As : List Value} {h : am_H} {Q : Option Value → am_H → Prop} (hy : plainName u.1.cls = true) (hfit : (lg_sl As).length ≤ u.2.2.1) (k : EvM w u d As h Q) :
    ∃ (r : Option Value) (h' : am_H), Q r h' ∧ hZ h ≤ hZ h' ∧ hS h ≤ hS h' ∧ ∀ l : Launch, l.stackTraces = false → Met l u.1 (am_ws u) (am_rm d (hZ h' - hZ h) (hS h' - hS h)) (am_P w As h) (am_Qc w r h') (hZ h' - hZ h) (hS h' - hS h) (fun q => w.2.2.1 ≤ q) := by
  obtain ⟨r, h', q, z, s', g⟩ := k
  refine ⟨r, h', q, z, s', fun l hl => ?_⟩
  refine Met.ofW (cc := u.2.1) (maxL := u.2.2.1) (ret := u.2.2.2) hy rfl ?_
  intro p e s m args below meth c s₁ B hml hv
  obtain ⟨rfl, hR0, hK0⟩ := hv
  have hts := atoms_spec (ws := am_ws u) B.pre
  have hown : s.vm.findClass u.1.cls = some m.cls := findClass_of_methodNamed B.named
  have hl0 := lv_entry As (n := u.2.2.1) hfit
  rw [lg_entry_eq]
  exact g p l e _ s m _ below meth c (hZ h' - hZ h) (hS h' - hS h) ⟨B.exec, B.bytes, B.returns, B.notSynchronized, hml, hown, (name_of_methodNamed B.named B.method).1, fun x hx => hts x (List.mem_cons_of_mem _ hx), hK0, Nat.le_refl _, Nat.le_refl _, Nat.le_refl _, Nat.le_refl _, hl⟩ s.heap [] 0 0 _ hR0 hl0 (fun q hq => by cases hq) (by omega) (by omega)
section CALL
variable {w : am_W} {Z : am_Zt} {u v : am_M} {d pc i n : Nat} {lv : List (Nat × Value)} {st st0 As : List Value} {h : am_H} {Q : Option Value → am_H → Prop}
theorem Ev.call0 (o : am_ok v n) (hfit : (lg_sl As).length ≤ v.2.2.1) (k : EvM w v d As h (fun r h1 => Ev w Z u (d + 1) (pc + 3) lv (r.toList ++ st) h1 Q))
    (run : ∀ {p : Program} {l : Launch} {e : Env} {R : Room} {s : State} {m : MethodId} {args : Array Value} {below : List Frame} {meth : Method} {c : Code} {mc ms : Nat}, am_C w u (d + 1) p l R s m args meth c mc ms → ∀ {H : Heap} {locs : List Loc} {cells slots : Nat} {ls : Array Slot} {r : Option Value} {h1 : am_H}, am_R w h H → lv_has ls u.2.2.1 lv →
      (cells + (hZ h1 - hZ h) ≤ R.cells ∧ slots + (hS h1 - hS h) ≤ R.slots) → Met l v.1 (am_ws v) (am_rm d (hZ h1 - hZ h) (hS h1 - hS h)) (am_P w As h) (am_Qc w r h1) (hZ h1 - hZ h) (hS h1 - hS h) (fun q => w.2.2.1 ≤ q) →
      va_Run p l e R s m args below meth c H locs cells slots (hZ h1 - hZ h) (hS h1 - hS h) (F0 m pc ls st0) st (am_Qc w r h1 #[]) (fun q => w.2.2.1 ≤ q)) : Ev w Z u (d + 1) pc lv st0 h Q := by
  obtain ⟨r, h1, ⟨r2, h2, q, z2, s2, g2⟩, z1, s1, hM⟩ := EvM.met o.2.2.1 hfit k
  refine ⟨r2, h2, q, by omega, by omega, fun p l e R s m args below meth c mc ms C H locs cells slots ls hq hl hf hc hs => ?_⟩
  obtain ⟨-, -, -, -, -, -, -, -, -, -, -, hmc, hms, htr⟩ := id C
  intro T hT X
  obtain ⟨v', st₀, t, T', L, h0, X', hL, e1, e2, ⟨hv, hR1⟩, stp⟩ := run (e := e) (below := below) C hq hl ⟨by omega, by omega⟩ (hM l htr) T hT X
  cases hv
  obtain ⟨t2, a1, b1⟩ := g2 p l e R s m args below meth c mc ms C t.heap (locs ++ L) _ _ ls hR1 hl (fun q hq => (List.mem_append.mp hq).elim (hf q) (hL q)) (by omega) (by omega) T' e1 X'
  exact ⟨t2, stp t2 a1, b1⟩
theorem am_preS {s : State} {H : Heap} (hK0 : am_Kw w s) (hq : am_R w h H) : PreS s H (am_P w As h) As := ⟨am_P.blind, fun U hU hW => ⟨rfl, by rw [hU]; exact hq, hK0.warm hW⟩⟩
theorem am_R.recv {w : am_W} {h : am_H} {H : Heap} {s : State} (hq : am_R w h H) (hK0 : am_Kw w s) {a ci : Nat} (hc : ci < 11) (ha : hK h a = ci) : ∃ cell : Cell, H[a]? = some cell ∧ cell.vm.isStatics = false ∧ s.vm.findClass (am_cn ci) = some cell.cls := by
  obtain ⟨cell, q1, q2, q3, -⟩ := hq.obj ha hc
  exact ⟨cell, q1, by rw [q3]; rfl, by rw [q2]; exact (hK0.1.1 ci _ (am_vw ci hc)).2.1⟩
theorem am_hR {R : Room} (C1 : d + 1 ≤ R.frames) (C2 : 100 * (d + 1) ≤ R.locals) (hv : v.2.2.1 ≤ 60) (c s : Nat) : (am_rm d c s).frames + 1 ≤ R.frames ∧ 8 + (v.2.2.1 + 11) + (am_rm d c s).locals ≤ R.locals := by
  refine ⟨C1, ?_⟩
  show 8 + (v.2.2.1 + 11) + 100 * d ≤ R.locals
  omega
/-- a static method -/
theorem Ev.callS (o : am_ok v n) (hst : Cond.static v.1 ∈ am_big) (hl : Cond.methodLink u.1.cls i v.1 ∈ am_big) (hd : decode u.2.1 pc = .ok (.invokestatic i, 3)) (hn : As.length = n) (hs : st0 = As.reverse ++ st) (hfit : (lg_sl As).length ≤ v.2.2.1) (hrm : (st.map fun x => x.category).sum ≤ 8) (k : EvM w v d As h (fun r h1 => Ev w Z u (d + 1) (pc + 3) lv (r.toList ++ st) h1 Q)) : Ev w Z u (d + 1) pc lv st0 h Q := by
  refine Ev.call0 o hfit k (fun C _ _ _ _ _ _ _ hq hlv hf hM => ?_)
  obtain ⟨hx, hb, -, -, hml, hown, -, hts, hKw, hfr, hlo, -⟩ := id C
  exact va_runS (As := As) ⟨hx, hb, hml, hown, hts⟩ hM ⟨callB_of n hts (am_good o) rfl rfl rfl (hts _ o.2.1) (hts _ hl) o.2.2.2.1 (am_hR hfr hlo o.2.2.2.2 _ _), hts _ hst⟩ (am_preS hKw hq) rfl hn hlv.1 hs (lv_room hrm) hd hf
/-- a private static method of a nest mate -/
theorem Ev.callSN {host : String} (o : am_ok v n) (hst : Cond.static v.1 ∈ am_big) (hl : Cond.methodLinkNest u.1.cls i v.1 host ∈ am_nest) (hd : decode u.2.1 pc = .ok (.invokestatic i, 3)) (hn : As.length = n) (hs : st0 = As.reverse ++ st) (hfit : (lg_sl As).length ≤ v.2.2.1) (hrm : (st.map fun x => x.category).sum ≤ 8) (k : EvM w v d As h (fun r h1 => Ev w Z u (d + 1) (pc + 3) lv (r.toList ++ st) h1 Q)) : Ev w Z u (d + 1) pc lv st0 h Q := by
  refine Ev.call0 o hfit k (fun C _ _ _ _ _ _ _ hq hlv hf hM => ?_)
  obtain ⟨hx, hb, -, -, hml, hown, -, hts, hKw, hfr, hlo, -⟩ := id C
  exact va_runSN (As := As) ⟨hx, hb, hml, hown, hts⟩ hM ⟨va_cnB n hts (am_good o) rfl rfl rfl (hKw.2.1 _ hl) (hts _ o.2.1) o.2.2.2.1 (am_hR hfr hlo o.2.2.2.2 _ _), hts _ hst, trivial⟩ (am_preS hKw hq) rfl hn hlv.1 hs (lv_room hrm) hd hf
/-- a method of an object -/
theorem Ev.callV {a ci : Nat} (o : am_ok v n) (hin : Cond.instanceMethod v.1 ∈ am_big) (hse : Cond.selects (am_cn ci) v.1 v.1 ∈ am_big) (hl : Cond.methodLink u.1.cls i v.1 ∈ am_big) (hd : decode u.2.1 pc = .ok (.invokevirtual i, 3)) (hc : ci < 11) (hn : As.length = n) (hs : st0 = As.reverse ++ .ref a :: st) (hfit : (lg_sl (.ref a :: As)).length ≤ v.2.2.1) (hrm : (st.map fun x => x.category).sum ≤ 8) (ha : hK h a = ci) (k : EvM w v d (.ref a :: As) h (fun r h1 => Ev w Z u (d + 1) (pc + 3) lv (r.toList ++ st) h1 Q)) : Ev w Z u (d + 1) pc lv st0 h Q := by
  refine Ev.call0 o hfit k (fun C _ _ _ _ _ _ _ hq hlv hf hM => ?_)
  obtain ⟨hx, hb, -, -, hml, hown, -, hts, hKw, hfr, hlo, -⟩ := id C
  exact va_runV (C := am_cn ci) (As := As) ⟨hx, hb, hml, hown, hts⟩ hM ⟨callB_of n hts (am_good o) rfl rfl rfl (hts _ o.2.1) (hts _ hl) o.2.2.2.1 (am_hR hfr hlo o.2.2.2.2 _ _), hts _ hin, hts _ hse⟩ ⟨am_P.blind, hq.recv hKw hc ha, (am_preS hKw hq).2⟩ rfl hn hlv.1 hs (lv_room hrm) hd hf
/-- a constructor -/
theorem Ev.callI {a : Nat} (o : am_ok v n) (hin : Cond.instanceMethod v.1 ∈ am_big) (hnm : v.1.name = "<init>") (hret : v.2.2.2 = none) (hl : Cond.methodLink u.1.cls i v.1 ∈ am_big) (hd : decode u.2.1 pc = .ok (.invokespecial i, 3)) (hn : As.length = n) (hs : st0 = As.reverse ++ .ref a :: st) (hfit : (lg_sl (.ref a :: As)).length ≤ v.2.2.1) (hrm : (st.map fun x => x.category).sum ≤ 8) (k : EvM w v d (.ref a :: As) h (fun r h1 => Ev w Z u (d + 1) (pc + 3) lv (r.toList ++ st) h1 Q)) : Ev w Z u (d + 1) pc lv st0 h Q := by
  refine Ev.call0 o hfit k (fun C _ _ _ _ _ _ _ hq hlv hf hM => ?_)
  obtain ⟨hx, hb, -, -, hml, hown, -, hts, hKw, hfr, hlo, -⟩ := id C
  exact va_runI (As := As) ⟨hx, hb, hml, hown, hts⟩ hM ⟨callB_of (y := v.1) (bytes := v.2.1) (maxL := v.2.2.1) n hts (am_good o) (by rw [am_ws, hret]) rfl rfl (hts _ o.2.1) (hts _ hl) o.2.2.2.1 (am_hR hfr hlo o.2.2.2.2 _ _), hnm, hts _ hin⟩ (am_preS hKw hq) rfl hn hlv.1 hs (lv_room hrm) hd hf
/-- a private constructor of a nest mate -/
theorem Ev.callIN {a : Nat} {host : String} (o : am_ok v n) (hin : Cond.instanceMethod v.1 ∈ am_big) (hnm : v.1.name = "<init>") (hret : v.2.2.2 = none) (hl : Cond.methodLinkNest u.1.cls i v.1 host ∈ am_nest) (hd : decode u.2.1 pc = .ok (.invokespecial i, 3)) (hn : As.length = n) (hs : st0 = As.reverse ++ .ref a :: st) (hfit : (lg_sl (.ref a :: As)).length ≤ v.2.2.1) (hrm : (st.map fun x => x.category).sum ≤ 8) (k : EvM w v d (.ref a :: As) h (fun r h1 => Ev w Z u (d + 1) (pc + 3) lv (r.toList ++ st) h1 Q)) : Ev w Z u (d + 1) pc lv st0 h Q := by
  refine Ev.call0 o hfit k (fun C _ _ _ _ _ _ _ hq hlv hf hM => ?_)
  obtain ⟨hx, hb, -, -, hml, hown, -, hts, hKw, hfr, hlo, -⟩ := id C
  exact va_runIN (As := As) ⟨hx, hb, hml, hown, hts⟩ hM ⟨va_cnB (y := v.1) (bytes := v.2.1) (maxL := v.2.2.1) n hts (am_good o) (by rw [am_ws, hret]) rfl rfl (hKw.2.1 _ hl) (hts _ o.2.1) o.2.2.2.1 (am_hR hfr hlo o.2.2.2.2 _ _), hnm, hts _ hin⟩ (am_preS hKw hq) rfl hn hlv.1 hs (lv_room hrm) hd hf
/-- Object's constructor -/
theorem Ev.objI {a : Nat} (hl : Cond.methodLink u.1.cls i Lib.objectInit ∈ am_big) (hin : Cond.instanceMethod Lib.objectInit ∈ am_big) (hc : Cond.code Lib.objectInit ⟨#[0xb1]⟩ 1 none ∈ am_big) (hd : decode u.2.1 pc = .ok (.invokespecial i, 3)) (hrm : (st.map fun x => x.category).sum ≤ 8) (k : Ev w Z u (d + 1) (pc + 3) lv st h Q) : Ev w Z u (d + 1) pc lv (.ref a :: st) h Q := by
  refine Ev.go1 (fun C _ _ _ _ _ _ hq hlv kk => ?_) k
  obtain ⟨hx, hb, -, -, hml, hown, -, hts, hKw, hfr, hlo, -⟩ := id C
  refine W.objInit hx hb hown (hts _ hl) (hts _ hin) (hts _ hc) rfl (hlv.1.trans hml.symm) rfl hd (by omega) ?_ kk
  have := lv_room (m := default) (pc := 0) (ls := #[]) (rest := []) hrm
  show 2 * JFrame.monitorRoom (F0 _ _ _ _) + _ + 12 ≤ _
  simp [JFrame.monitorRoom]
  omega
end CALL
