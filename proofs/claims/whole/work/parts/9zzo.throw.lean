/-! The throw of turn, over the picture. -/
def tu_B : List Cond := [.castable tu_C tu_C, .declares (Bundle.initS "java/lang/RuntimeException"), .declares (Bundle.initS "java/lang/Exception"), .declares (Bundle.initS Bundle.tN)]
def tu_ws : List Cond := (tu_at "EvenFerry" 200).filter vx_no
theorem tu_in : ∀ w ∈ tu_ws, (w ∈ lw_tbl ∧ goodWord w = true) ∨ w ∈ tu_B := by decide +kernel
theorem tu_ot : ∀ w ∈ Cond.classLink "EvenFerry" 196 tu_C :: Cond.initialized tu_C :: tu_ws, vx_ot w = true := by decide +kernel
theorem tu_w1 : Cond.classLink "EvenFerry" 196 tu_C ∈ am_big := List.mem_filter.mpr ⟨by decide +kernel, rfl⟩
theorem tu_w2 : Cond.initialized tu_C ∈ am_big := List.mem_filter.mpr ⟨by decide +kernel, rfl⟩
/-- what the run's start says of the throw -/
def TuW (w : am_W) (sa : Nat) : Prop := ∀ s, w.2.2.2.2 s → vk_R "EvenFerry" 198 "no turner who waits then" sa s ∧ vx_Zq Bundle.tN "UNASSIGNED_STACK" Bundle.steD (fun q => w.2.2.1 ≤ q) s w.2.2.2.1 ∧ vx_Zq Bundle.tN "SUPPRESSED_SENTINEL" Bundle.listD (fun q => w.2.2.1 ≤ q) s w.2.2.2.1 ∧ ∀ x ∈ tu_B, va_Nw x s
section THROW
variable {p : Program} {l : Launch} {e : Env} {R : Room} {s : State} {m : MethodId} {args : Array Value} {below : List Frame} {meth : Method} {c : Code} {H : Heap} {locs : List Loc} {cells slots : Nat}
variable {free : Addr → Prop} {ls : Array Slot} {rest : List Value} {Qc : Array Value → State → Outcome → State → Prop} {XC : String → State → State → Prop}
theorem tu_throw {cc : ByteArray} {pc : Nat} (hexec : p.tables.exec = Jvm.exec) (hb : c.code = cc) (hl : l.stackTraces = false) {own text : String} {ik is ic mc ms sa : Nat} {A : Nat → Prop}
    (hown : s.vm.findClass own = some m.cls)
    (hk : (Cond.classLink own ik tu_C).before args s = true) (hini : (Cond.initialized tu_C).before args s = true) (hstr : vk_R own is text sa s) (hat : ∀ w ∈ (tu_at own ic).filter vx_no, w.before args s = true)
    (hgood : ∀ w ∈ Cond.classLink own ik tu_C :: Cond.initialized tu_C :: (tu_at own ic).filter vx_no, vx_ot w = true)
    (hU : vx_Zq Bundle.tN "UNASSIGNED_STACK" Bundle.steD A s H) (hN : vx_Zq Bundle.tN "SUPPRESSED_SENTINEL" Bundle.listD A s H) (hsize : ls.size = c.maxLocals)
    (d0 : decode cc pc = .ok (.new ik, 3)) (d3 : decode cc (pc + 3) = .ok (.dup, 1)) (d4 : decode cc (pc + 4) = .ok (.ldc is, 2)) (d6 : decode cc (pc + 6) = .ok (.invokespecial ic, 3)) (d9 : decode cc (pc + 9) = .ok (.athrow, 1))
    (hout : ∀ x ∈ c.exceptionTable.toList, covers x (pc + 9) = false)
    (hRframes : 5 < R.frames) (hRlocals : (rest.map fun v => v.category).sum + 82 ≤ R.locals) (hRcells : cells + 1 ≤ R.cells) (hRslots : slots + 6 ≤ R.slots) (hlocks : meth.locks = false)
    (hx : ∀ t : State, s.vm.Alike t.vm → t.heap.size = H.size + 1 → (∀ q : Nat, q < H.size → t.heap[q]? = H[q]?) → XC tu_C s t)
    (hf : ∀ z ∈ locs, free z.base) (hc : cells + 1 ≤ mc) (hs : slots + 6 ≤ ms) :
    W p l e R s m args below meth c H locs cells slots (vx_MQ below Qc XC args s mc ms free) (F0 m pc ls rest) := by
  intro T hT X
  have htr : e.platform.stackTraces = false := (show e.platform.stackTraces = l.stackTraces by rw [X.admits.platform]).trans hl
  have Y := vx_rebase X (R' := { frames := R.frames, locals := R.locals, cells := 1, slots := 6 }) (Nat.le_refl _) (Nat.le_refl _) hRcells hRslots
  obtain ⟨s', hA⟩ : ∃ z, z = (T.setVm s.vm).setFrames (.invoking m args :: below) := ⟨_, rfl⟩
  rw [← hA] at Y
  have hvm : s'.vm = s.vm := by rw [hA]; rfl
  have hhp : s'.heap = H := by rw [hA]; exact hT
  have hW0 : s.WarmedH s'.vm := by rw [hvm]; exact State.WarmedH.refl s
  have hat' : ∀ w ∈ (tu_at own ic).filter vx_no, w.before args s' = true := fun w hw => vx_ot_at hW0 hvm.symm (hgood w (List.mem_cons_of_mem _ (List.mem_cons_of_mem _ hw))) (hat w hw)
  have hk' : (Cond.classLink own ik tu_C).before args s' = true := vx_ot_at hW0 hvm.symm (hgood _ List.mem_cons_self) hk
  have hini' : (Cond.initialized tu_C).before args s' = true := vx_ot_at hW0 hvm.symm (hgood _ (List.mem_cons_of_mem _ List.mem_cons_self)) hini
  have hU' : vx_Zq Bundle.tN "UNASSIGNED_STACK" Bundle.steD A s' s'.heap := by rw [hhp]; exact vx_Zq.moved hW0.alike hU
  have hN' : vx_Zq Bundle.tN "SUPPRESSED_SENTINEL" Bundle.listD A s' s'.heap := by rw [hhp]; exact vx_Zq.moved hW0.alike hN
  have h : ∀ w ∈ tu_at own ic, w.before args s' = true := vx_own hat' (vx_isRefq hU'.1) (vx_isRefq hN'.1) hU'.2.word hN'.2.word
  have hown' : s'.vm.findClass own = some m.cls := by rw [hvm]; exact hown
  have hins : (Cond.instantiable tu_C 6).before args s' = true := h _ (by simp [tu_at])
  obtain ⟨vm₁, cX, kX, hfX, hkX, -, -, X₁, st1⟩ := Y.newCold hexec (own := own) (C := tu_C) (index := ik) (n := 6) hown' hk' hins hini'
    (g := F0 m pc ls rest) rfl (by rw [hb]; exact d0) (Nat.le_refl _) (Nat.le_refl _)
  generalize hT1 : (T.setVm vm₁).pushCell { cls := cX, slots := kX.instanceTypes.map defaultValue, vm := .none } = T1 at X₁ st1
  have hcat : (Value.ref T.heap.size).category = 1 := rfl
  have hcellA : T1.heap[T.heap.size]? = some (freshCell cX kX) := by rw [← hT1]; exact State.heap_pushCell_size _ _
  have d3' : decode c.code (pc + 3) = .ok (.dup, 1) := by rw [hb]; exact d3
  have d4' : decode c.code (pc + 4) = .ok (.ldc is, 2) := by rw [hb]; exact d4
  have hstr' : vk_R own is text sa s' := vk_R.warm hW0 hstr
  obtain ⟨U, hsteps, hrun, hend, hW, hsame, ce, hce, hcv, hcl0⟩ := tu_ctor X₁ hexec htr (own := own) (ic := ic) hown' h (fun x hx => nomatch hx) hfX hkX hcellA (by rw [hhp, hT]; exact Nat.le_refl _) (msg := .ref sa) rfl
    (g := { method := m, pc := pc + 6, locals := ls, stack := .ref sa :: .ref T.heap.size :: .ref T.heap.size :: rest, locked := none }) rfl hsize rfl rfl (rest := rest) rfl
    (by rw [hb]; exact d6) (by rw [hb]; exact d9) hout hRframes (by simp only [List.map_cons, List.sum_cons, hcat]; omega) hlocks
  obtain ⟨f1, f2⟩ := vx_frame hsame
  have f3 : U.heap.size ≤ s'.heap.size + (0 + 1) := hsame.2.2.1
  rw [hhp] at f1 f2 f3
  have f4 : T.heap.size < U.heap.size := (Array.getElem?_eq_some_iff.mp hce).1
  rw [hT] at f4
  have hWs : s.WarmedH U.vm := State.WarmedH.trans hW0 hW
  have hcl : s.vm.findClass tu_C = some ce.cls := by
    rw [hvm] at hcl0
    exact hcl0
  have hall : s.sameButNew ({ U with vm := s.vm } : State) locs mc ms := by
    subst hA
    obtain ⟨e1, e2⟩ := hsame
    rw [State.setFrames_setFrames] at e1
    have h2 : (T.setVm s.vm).sameButNew ({ U with vm := s.vm } : State) [] (0 + 1) (0 + 6) := ⟨e1, e2⟩
    have h3 := X.same.trans h2
    rw [List.append_nil] at h3
    exact h3.mono hc hs
  refine ⟨U, ?_, .threw T.heap.size, hrun, hend, Or.inr ⟨T.heap.size, rfl, tu_C, ce, locs, hx U hWs.alike (by omega) (fun q hq => f2 q hq (fun z hz => nomatch hz)), hce, hcv, hcl, hWs, hall, hf⟩⟩
  refine st1 _ ?_
  show Steps p.tables e below (T1.setTop { method := m, pc := pc + 3, locals := ls, stack := .ref T.heap.size :: rest, locked := none }) _
  jvm_step X₁.here [X₁.here.top, hexec, d3', Value.category]
  exact X₁.ldcString hexec (own := own) (text := text) (index := is) (a := sa) hown' hstr'.1 hstr'.2
    (g := { method := m, pc := pc + 4, locals := ls, stack := .ref T.heap.size :: .ref T.heap.size :: rest, locked := none }) rfl d4' _ hsteps
end THROW
/-- the table of the method that runs is empty -/
def tE (s : State) (args : Array Value) (below : List Frame) : Prop := ∀ (m : MethodId) (meth : Method) (c : Code), s.frames = .invoking m args :: below → s.vm.method? m = some meth → meth.code = some c → ∀ x ∈ c.exceptionTable.toList, False
/-- the end of a method that throws, whatever comes -/
def tX (w : am_W) : am_Zt := fun _ h' mc ms below args s t => tE s args below → vx_MQ below (fun _ _ _ _ => False) (fun E _ t => E = tu_C ∧ am_R w h' t.heap) args s mc ms (fun q => w.2.2.1 ≤ q) t
section EVT
variable {w : am_W} {u : am_M} {d pc : Nat} {lv : List (Nat × Value)} {h : am_H} {Q : Option Value → am_H → Prop} {sa : Nat}
theorem am_R.born16 {H H1 : Heap} (q : am_R w h H) (hz : H1.size = H.size + 1) (ho : ∀ b : Nat, b < H.size → H1[b]? = H[b]?) : am_R w (nO h 16 6) H1 := by
  obtain ⟨q1, q2, q3, q4, q5, q6⟩ := q
  have e1 : hZ (nO h 16 6) = hZ h + 1 := rfl
  refine ⟨by omega, q2, q3, by omega, fun a ha => by rw [ho a (by omega)]; exact q5 a ha, fun a ha => ?_⟩
  have e2 : hK (nO h 16 6) a = va_up (hK h) (hZ h) 16 a := rfl
  by_cases c : a = hZ h
  · subst c
    rw [e2] at ha
    unfold va_up at ha
    rw [if_pos rfl] at ha
    exact absurd ha (by decide)
  · have e3 : hK (nO h 16 6) a = hK h a := by rw [e2]; unfold va_up; rw [if_neg c]
    rw [e3] at ha
    refine ⟨(q6 a ha).1, (q6 a ha).2.kept (ho a (q6 a ha).2.lt) e3 rfl (fun j t => ?_)⟩
    show am_val (nO h 16 6) a j t = am_val h a j t
    have g1 : hI (nO h 16 6) a = hI h a := by show va_up (hI h) (hZ h) (fun _ => 0) a = _; unfold va_up; rw [if_neg c]
    have g2 : hJ (nO h 16 6) a = hJ h a := by show va_up (hJ h) (hZ h) (fun _ => 0) a = _; unfold va_up; rw [if_neg c]
    have g3 : hR (nO h 16 6) a = hR h a := by show va_up (hR h) (hZ h) (fun _ => 0) a = _; unfold va_up; rw [if_neg c]
    unfold am_val
    rw [g1, g2, g3]
theorem Ev.tuThrow (hw : TuW w sa) (hc : u.1.cls = "EvenFerry") (hd : 6 ≤ d)
    (d0 : decode u.2.1 pc = .ok (.new 196, 3)) (d3 : decode u.2.1 (pc + 3) = .ok (.dup, 1)) (d4 : decode u.2.1 (pc + 4) = .ok (.ldc 198, 2)) (d6 : decode u.2.1 (pc + 6) = .ok (.invokespecial 200, 3)) (d9 : decode u.2.1 (pc + 9) = .ok (.athrow, 1))
    (k : Q none (nO h 16 6)) : Ev w (tX w) u d pc lv [] h Q := by
  have e1 : hZ (nO h 16 6) = hZ h + 1 := rfl
  have e2 : hS (nO h 16 6) = hS h + 6 := rfl
  refine ⟨none, nO h 16 6, k, by omega, by omega, fun p l e R s m args below meth c mc ms C H locs cells slots ls hR hl hf hcc hs => ?_⟩
  obtain ⟨hx, hb, hr, hlk, hml, hown, -, hts, hKw, hfr, hlo, hmc, hms, hst⟩ := id C
  rw [hc] at hown
  by_cases g : tE s args below
  · intro T hT X
    have ht : ∀ x ∈ c.exceptionTable.toList, False := g m meth c X.frames X.method X.code
    obtain ⟨t1, t2, t3, t4⟩ := hw s hKw.2.2.1
    have hat : ∀ x ∈ (tu_at "EvenFerry" 200).filter vx_no, x.before args s = true := fun x hx => by
      rcases tu_in x hx with ⟨y1, y2⟩ | y
      · exact hts x (List.mem_filter.mpr ⟨y1, y2⟩)
      · have hot := tu_ot x (List.mem_cons_of_mem _ (List.mem_cons_of_mem _ hx))
        have hon : x.onTables = true := by
          have : ∀ z ∈ tu_B, z.onTables = true := by decide +kernel
          exact this x y
        exact va_Nw.use hon (t4 x y)
    have K := tu_throw (l := l) (e := e) (R := R) (below := below) (H := H) (locs := locs) (cells := cells) (slots := slots) (free := fun q => w.2.2.1 ≤ q) (ls := ls) (rest := []) (Qc := fun _ _ _ _ => False) (XC := fun E _ t => E = tu_C ∧ am_R w (nO h 16 6) t.heap) (mc := mc) (ms := ms)
      hx hb hst hown (hts _ tu_w1) (hts _ tu_w2) t1 hat tu_ot (t2.kept hR.old) (t3.kept hR.old) (hl.1.trans hml.symm) d0 d3 d4 d6 d9 (fun x hx => (ht x hx).elim) (by omega) (by show 0 + 82 ≤ R.locals; omega) (by omega) (by omega) hlk (fun t _ y1 y2 => ⟨rfl, hR.born16 y1 y2⟩) hf (by omega) (by omega)
    obtain ⟨t, a1, a2⟩ := K T hT X
    exact ⟨t, a1, fun _ => a2⟩
  · intro T hT X
    exact ⟨_, Steps.refl _, fun y => absurd y g⟩
end EVT
