/-! The law's own turn: it catches what the class throws. -/
def mL_turn : am_M := (yL_turn, cL_turn, 5, some .int)
def tL_turn : List (Nat × Instr × Nat) := [(0, .aload_n 3, 1), (1, .iconst 0, 1), (2, .aload_n 0, 1), (3, .iload_n 1, 1), (4, .iload_n 2, 1), (5, .invokevirtual 7, 3), (8, .i2l, 1), (9, .lastore, 1), (10, .goto 7, 3), (13, .astore 4, 2), (15, .iconst 1, 1), (16, .ireturn, 1), (17, .iconst 0, 1), (18, .ireturn, 1)]
theorem kL_turn : tL_turn.all (fun q => decide (decode cL_turn q.1 = .ok q.2)) = true := by decide +kernel
set_option maxRecDepth 20000 in
theorem wt_1 : Cond.methodLink "EvenFerryLaw" 66 yL_turn ∈ am_big := in_big 1186 rfl rfl
set_option maxRecDepth 20000 in
theorem wt_2 : Cond.static yL_turn ∈ am_big := in_big 1187 rfl rfl
set_option maxRecDepth 20000 in
theorem wt_3 : Cond.codeWith yL_turn cL_turn 5 (some .int) [(0, 10, 13, 13)] ∈ am_big := in_big 1188 rfl rfl
set_option maxRecDepth 20000 in
theorem wt_4 : Cond.classLink "EvenFerryLaw" 13 tu_C ∈ am_big := in_big 1189 rfl rfl
set_option maxRecDepth 20000 in
theorem wt_5 : Cond.methodLink "EvenFerryLaw" 7 yX9_turn ∈ am_big := in_big 1190 rfl rfl
set_option maxRecDepth 20000 in
theorem wt_6 : Cond.instanceMethod yX9_turn ∈ am_big := in_big 1191 rfl rfl
set_option maxRecDepth 20000 in
theorem wt_7 : Cond.selects "EvenFerry" yX9_turn yX9_turn ∈ am_big := in_big 1192 rfl rfl
set_option maxRecDepth 20000 in
theorem wt_8 : Cond.initialized "EvenFerryLaw" ∈ am_big := in_big 91 rfl rfl
def tu_lw : List Cond := Cond.codeWith yL_turn cL_turn 5 (some .int) [(0, 10, 13, 13)] :: am_big
theorem tu_lwG : GoodIn am_big tu_lw := fun x hx => by
  rcases List.mem_cons.mp hx with rfl | hx
  · exact ⟨wt_3, am_big_good wt_3⟩
  · exact ⟨hx, am_big_good hx⟩
/-- the table of the method that runs is L_turn's -/
def tL (s : State) (args : Array Value) (below : List Frame) : Prop := ∀ (m : MethodId) (meth : Method) (c : Code), s.frames = .invoking m args :: below → s.vm.method? m = some meth → meth.code = some c → c.exceptionTable.toList = [⟨0, 10, 13, 13⟩]
def tZ (w : am_W) : am_Zt := fun r h' mc ms below args s t => tL s args below → am_Z w r h' mc ms below args s t
section LTURN
variable {w : am_W} {Z : am_Zt} {u : am_M} {d pc x o sa : Nat} {lv : List (Nat × Value)} {st st0 As : List Value} {h : am_H} {Q : Option Value → am_H → Prop}
theorem Ev.tz {pc : Nat} (k : Ev w (am_Z w) u d pc lv st h Q) : Ev w (tZ w) u d pc lv st h Q := by
  obtain ⟨r, h', q, z, s', g⟩ := k
  refine ⟨r, h', q, z, s', fun p l e R s m args below meth c mc ms C H locs cells slots ls hR hl hf hc hs => ?_⟩
  intro T hT X
  obtain ⟨t, a1, a2⟩ := g p l e R s m args below meth c mc ms C H locs cells slots ls hR hl hf hc hs T hT X
  exact ⟨t, a1, fun _ => a2⟩
theorem tu_met (hfit : (lg_sl As).length ≤ 5) (k : Ev w (tZ w) mL_turn d 0 (lv_args 0 As) [] h Q) :
    ∃ (r : Option Value) (h' : am_H), Q r h' ∧ hZ h ≤ hZ h' ∧ hS h ≤ hS h' ∧ ∀ l : Launch, l.stackTraces = false → Met l yL_turn tu_lw (am_rm d (hZ h' - hZ h) (hS h' - hS h)) (am_P w As h) (am_Qc w r h') (hZ h' - hZ h) (hS h' - hS h) (fun q => w.2.2.1 ≤ q) := by
  obtain ⟨r, h', q, z, s', g⟩ := k
  refine ⟨r, h', q, z, s', fun l hl => ?_⟩
  refine va_MetW (cc := cL_turn) (maxL := 5) (ret := some .int) (hh := [(0, 10, 13, 13)]) (by decide) rfl ?_
  intro p e s m args below meth c s₁ B hml hv
  obtain ⟨rfl, hR0, hK0⟩ := hv
  have hts := atoms_spec (ws := tu_lw) B.pre
  have hown : s.vm.findClass yL_turn.cls = some m.cls := findClass_of_methodNamed B.named
  have hl0 := lv_entry As (n := 5) hfit
  have htab : c.exceptionTable.toList = [⟨0, 10, 13, 13⟩] := vx_table (x := yL_turn) B (hts _ List.mem_cons_self)
  rw [lg_entry_eq]
  intro T hT X
  obtain ⟨t, a1, a2⟩ := g p l e _ s m _ below meth c (hZ h' - hZ h) (hS h' - hS h) ⟨B.exec, B.bytes, B.returns, B.notSynchronized, hml, hown, (name_of_methodNamed B.named B.method).1, fun x hx => hts x (List.mem_cons_of_mem _ hx), hK0, Nat.le_refl _, Nat.le_refl _, Nat.le_refl _, Nat.le_refl _, hl⟩ s.heap [] 0 0 _ hR0 hl0 (fun q hq => by cases hq) (by omega) (by omega) T hT X
  refine ⟨t, a1, a2 (fun m' meth' c' y1 y2 y3 => ?_)⟩
  have e1 := X.frames.symm.trans y1
  cases e1
  cases Option.some.inj (X.method.symm.trans y2)
  cases Option.some.inj (X.code.symm.trans y3)
  exact htab
/-- the class's turn where it throws, as a callee -/
theorem tu_metT (k : Ev w (tX w) mX9_turn d 0 (lv_args 0 As) [] h Q) (hfit : (lg_sl As).length ≤ 3) :
    ∃ h' : am_H, (∃ r, Q r h') ∧ hZ h ≤ hZ h' ∧ hS h ≤ hS h' ∧ ∀ l : Launch, l.stackTraces = false → vx_Met l yX9_turn (am_ws mX9_turn) (am_rm d (hZ h' - hZ h) (hS h' - hS h)) (am_P w As h) (fun _ _ _ _ => False) (fun E _ t => E = tu_C ∧ am_R w h' t.heap) (hZ h' - hZ h) (hS h' - hS h) (fun q => w.2.2.1 ≤ q) := by
  obtain ⟨r, h', q, z, s', g⟩ := k
  refine ⟨h', ⟨r, q⟩, z, s', fun l hl => ?_⟩
  refine vx_ofW (cc := cX9_turn) (maxL := 3) (ret := some .int) (by decide) rfl ?_
  intro p e s m args below meth c s₁ B hml ht hv
  obtain ⟨rfl, hR0, hK0⟩ := hv
  have hts := atoms_spec (ws := am_ws mX9_turn) B.pre
  have hown : s.vm.findClass yX9_turn.cls = some m.cls := findClass_of_methodNamed B.named
  have hl0 := lv_entry As (n := 3) hfit
  rw [lg_entry_eq]
  intro T hT X
  obtain ⟨t, a1, a2⟩ := g p l e _ s m _ below meth c (hZ h' - hZ h) (hS h' - hS h) ⟨B.exec, B.bytes, B.returns, B.notSynchronized, hml, hown, (name_of_methodNamed B.named B.method).1, fun x hx => hts x (List.mem_cons_of_mem _ hx), hK0, Nat.le_refl _, Nat.le_refl _, Nat.le_refl _, Nat.le_refl _, hl⟩ s.heap [] 0 0 _ hR0 hl0 (fun q hq => by cases hq) (by omega) (by omega) T hT X
  refine ⟨t, a1, a2 (fun m' meth' c' y1 y2 y3 => ?_)⟩
  have e1 := X.frames.symm.trans y1
  cases e1
  cases Option.some.inj (X.method.symm.trans y2)
  cases Option.some.inj (X.code.symm.trans y3)
  exact ht
theorem bL_turn_13 {q : Nat} {h1 : am_H} : Ev w (am_Z w) mL_turn d 13 lv [.ref q] h1 (fun r h' => r = some (.int 1) ∧ h' = h1) := by
  refine Ev.astore (am_dt kL_turn 9 rfl) (by decide) rfl ?_
  refine Ev.iconst (v := 1) (am_dt kL_turn 10 rfl) (by decide) ?_
  exact Ev.iret .int (am_dt kL_turn 11 rfl) rfl rfl ⟨rfl, rfl⟩
theorem Ev.tuCall {p mi : Int32} (hw : TuW w sa) (ha : hK h x = 9) (k : Ev w (tX w) mX9_turn d 0 (lv_args 0 [.ref x, .int p, .int mi]) [] h (fun _ h1 => Q (some (.int 1)) h1)) :
    Ev w (tZ w) mL_turn (d + 1) 5 lv [.int mi, .int p, .ref x, .int 0, .ref o] h Q := by
  obtain ⟨h1, ⟨r, q⟩, z1, s1, hM⟩ := tu_metT k (Nat.le_of_ble_eq_true rfl)
  refine ⟨some (.int 1), h1, q, z1, s1, fun p' l e R s m args below meth c mc ms C H locs cells slots ls hq hl hf hc hs => ?_⟩
  obtain ⟨hx, hb, -, -, hml, hown, -, hts, hKw, hfr, hlo, hmc, hms, htr⟩ := id C
  by_cases g : tL s args below
  · intro T hT X
    have htab := g m meth c X.frames X.method X.code
    have run := vx_runV (C := am_cn 9) (meth := meth) (e := e) (below := below) (locs := locs) (cells := cells) (slots := slots) (g := F0 m 5 ls [.int mi, .int p, .ref x, .int 0, .ref o]) (rest := [.int 0, .ref o]) (b := x) (As := [.int p, .int mi]) (index := 7) ⟨hx, hb, hml, hown, hts⟩ (hM l htr) ⟨callB_of 2 hts (am_good okX9_turn) rfl rfl rfl (hts _ okX9_turn.2.1) (hts _ wt_5) okX9_turn.2.2.2.1 (am_hR hfr hlo okX9_turn.2.2.2.2 _ _), hts _ wt_6, hts _ wt_7⟩ ⟨am_P.blind, hq.recv hKw (by decide) ha, (am_preS hKw hq).2⟩ rfl rfl hl.1 rfl (lv_room (Nat.le_of_ble_eq_true rfl)) (am_dt kL_turn 5 rfl) ⟨by omega, by omega⟩
    rcases run T hT X with ⟨v, st₀, t, T', L, h0, X', hL, e1, e2, hv, stp⟩ | ⟨q9, st₀, t, T', L, E, ce, h0, X', hL, e1, e2, ⟨rfl, hR1⟩, hce, hcv, hcl, stp⟩
    · exact hv.elim
    · obtain ⟨r', h', ⟨rfl, rfl⟩, z', s', g'⟩ := bL_turn_13 (w := w) (d := d + 1) (lv := lv) (q := q9) (h1 := h1)
      have K := tu_catch (E := tu_C) (name := tu_C) (ce := ce) (q := q9) (pc := 5) (rest := [.int 0, .ref o]) hown ⟨0, 10, 13, 13⟩ htab (by decide) (by decide) (hts _ wt_4) (va_Nw.use rfl ((hw s hKw.2.2.1).2.2.2 _ List.mem_cons_self)) hce hcv hcl
        (g' p' l e R s m args below meth c mc ms C t.heap (locs ++ L) (cells + (hZ h' - hZ h)) (slots + (hS h' - hS h)) ls hR1 hl (fun q hq => (List.mem_append.mp hq).elim (hf q) (hL q)) (by omega) (by omega))
      obtain ⟨t2, a1, b1⟩ := K T' e1 X'
      exact ⟨t2, stp.trans a1, fun _ => b1⟩
  · intro T hT X
    exact ⟨_, Steps.refl _, fun y => absurd y g⟩
/-- the law's call of its turn -/
theorem Ev.tuSW {x1 x2 : Int32} (hu : u.1.cls = "EvenFerryLaw") (hd : decode u.2.1 pc = .ok (.invokestatic 66, 3)) (k : Ev w (tZ w) mL_turn d 0 [(0, .ref x), (1, .int x1), (2, .int x2), (3, .ref o)] [] h (fun r h1 => Ev w Z u (d + 1) (pc + 3) lv r.toList h1 Q)) :
    Ev w Z u (d + 1) pc lv [.ref o, .int x2, .int x1, .ref x] h Q := by
  obtain ⟨r, h1, ⟨r2, h2, q, z2, s2, g2⟩, z1, s1, hM⟩ := tu_met (As := [.ref x, .int x1, .int x2, .ref o]) (Nat.le_of_ble_eq_true rfl) k
  refine ⟨r2, h2, q, by omega, by omega, fun p l e R s m args below meth c mc ms C H locs cells slots ls hq hl hf hc hs => ?_⟩
  obtain ⟨hx, hb, -, -, hml, hown, -, hts, hKw, hfr, hlo, hmc, hms, htr⟩ := id C
  rw [hu] at hown
  intro T hT X
  have run := vx_runSW (meth := meth) (e := e) (below := below) (locs := locs) (cells := cells) (slots := slots) (g := F0 m pc ls [.ref o, .int x2, .int x1, .ref x]) (rest := []) (As := [.ref x, .int x1, .int x2, .ref o]) (index := 66) ⟨hx, hb, hml, hown, hts⟩ (hM l htr)
    (vx_cwSW (R := R) (own := "EvenFerryLaw") (index := 66) (hh := [(0, 10, 13, 13)]) (ws' := am_big) 4 hts (fun y hy => by
      unfold va_wsS at hy
      rcases List.mem_append.mp hy with hy | hy
      · simp only [List.mem_cons, List.not_mem_nil, or_false] at hy
        rcases hy with rfl | rfl | rfl
        · exact ⟨wt_1, am_big_good wt_1⟩
        · exact ⟨wt_2, am_big_good wt_2⟩
        · exact ⟨wt_8, am_big_good wt_8⟩
      · exact tu_lwG y hy) rfl rfl rfl ⟨by decide, by decide, by decide +kernel⟩ (am_hR (v := mL_turn) hfr hlo (by decide) _ _)) (am_preS hKw hq) rfl rfl hl.1 rfl (lv_room (Nat.le_of_ble_eq_true rfl)) hd ⟨by omega, by omega⟩
  obtain ⟨v', st₀, t, T', L, h0, X', hL, e1, e2, ⟨hv, hR1⟩, stp⟩ := run T hT X
  cases hv
  obtain ⟨t2, a1, b1⟩ := g2 p l e R s m args below meth c mc ms C t.heap (locs ++ L) _ _ ls hR1 hl (fun q hq => (List.mem_append.mp hq).elim (hf q) (hL q)) (by omega) (by omega) T' e1 X'
  refine ⟨t2, stp t2 ?_, b1⟩
  rw [List.append_nil]
  exact a1
end LTURN
