/-! Ev: from a point of a method the machine comes to its end: the answer and the picture then are such that Q. -/
/-- a method: its name, code, locals, kind of answer -/
abbrev am_M : Type := MethodName × ByteArray × Nat × Option FieldType
abbrev am_Zt : Type := Option Value → am_H → Nat → Nat → List Frame → Array Value → State → State → Prop
def am_big : List Cond := lw_tbl.filter goodWord
theorem in_big {w : Cond} (i : Nat) (h : lw_tbl[i]? = some w) (g : goodWord w = true) : w ∈ am_big := List.mem_filter.mpr ⟨List.mem_of_getElem? h, g⟩
theorem am_big_good {w : Cond} (h : w ∈ am_big) : (w.onTables && w.keeps) = true ∨ ∃ ty, w = .arrayClass ty := good_of_word (List.mem_filter.mp h).2
def am_isN : Cond → Bool
  | .methodLinkNest _ _ _ _ => true
  | _ => false
def am_nest : List Cond := tables_1.filter am_isN
theorem in_nest {w : Cond} (i : Nat) (h : tables_1[i]? = some w) (g : am_isN w = true) : w ∈ am_nest := List.mem_filter.mpr ⟨List.mem_of_getElem? h, g⟩
def am_tys (w : am_W) : List (ClassId × FieldType) := [(w.2.1 11, .char), (w.2.1 12, .int), (w.2.1 13, .long), (w.2.1 14, .boolean), (w.2.1 15, .object "EvenFerry$State")]
def am_Kw (w : am_W) (s : State) : Prop := va_K w.1 vwCl (am_tys w) s ∧ (∀ x ∈ am_nest, va_Nw x s) ∧ w.2.2.2.2 s ∧ (∀ s U : State, s.WarmedH U.vm → w.2.2.2.2 s → w.2.2.2.2 U) ∧ ∀ (U : State) (g : JFrame) (mk : MethodId) (a : Array Value), w.2.2.2.2 U → w.2.2.2.2 (U.calling g mk a)
theorem am_Kw.warm {w : am_W} {s U : State} (hW : s.WarmedH U.vm) (h : am_Kw w s) : am_Kw w U := by
  refine ⟨va_K.moved hW.alike h.1, fun x hx => ?_, h.2.2.2.1 s U hW h.2.2.1, h.2.2.2⟩
  have h1 := h.2.1 x hx
  have h2 := (List.mem_filter.mp hx).2
  cases x <;> first | exact va_Nw.warmM hW h1 | exact absurd h2 (by simp [am_isN])
theorem am_Kw.calling {w : am_W} {U : State} {g : JFrame} {mk : MethodId} {a : Array Value} (h : am_Kw w U) : am_Kw w (U.calling g mk a) := by
  refine ⟨va_K.moved (u := U) (U := U.calling g mk a) (Vm.Alike.refl U.vm) h.1, fun x hx => ?_, h.2.2.2.2 U g mk a h.2.2.1, h.2.2.2⟩
  have h1 := h.2.1 x hx
  have h2 := (List.mem_filter.mp hx).2
  cases x <;> first | exact va_Nw.same (u := U) (U := U.calling g mk a) rfl rfl h1 | exact absurd h2 (by simp [am_isN])
/-- what holds in a method's body -/
def am_C (w : am_W) (u : am_M) (d : Nat) (p : Program) (l : Launch) (R : Room) (s : State) (m : MethodId) (args : Array Value) (meth : Method) (c : Code) (mc ms : Nat) : Prop :=
  p.tables.exec = Jvm.exec ∧ c.code = u.2.1 ∧ meth.sig.returnType = u.2.2.2 ∧ meth.locks = false ∧ c.maxLocals = u.2.2.1 ∧ s.vm.findClass u.1.cls = some m.cls ∧ meth.name = u.1.name ∧ (∀ x ∈ am_big, x.before args s = true) ∧ am_Kw w s ∧ d ≤ R.frames ∧ 100 * d ≤ R.locals ∧ mc ≤ R.cells ∧ ms ≤ R.slots ∧ l.stackTraces = false
def Ev (w : am_W) (Z : am_Zt) (u : am_M) (d : Nat) (pc : Nat) (lv : List (Nat × Value)) (st : List Value) (h : am_H) (Q : Option Value → am_H → Prop) : Prop :=
  ∃ (r : Option Value) (h' : am_H), Q r h' ∧ hZ h ≤ hZ h' ∧ hS h ≤ hS h' ∧ ∀ (p : Program) (l : Launch) (e : Env) (R : Room) (s : State) (m : MethodId) (args : Array Value) (below : List Frame) (meth : Method) (c : Code) (mc ms : Nat), am_C w u d p l R s m args meth c mc ms →
    ∀ (H : Heap) (locs : List Loc) (cells slots : Nat) (ls : Array Slot), am_R w h H → lv_has ls u.2.2.1 lv → (∀ q ∈ locs, w.2.2.1 ≤ q.base) → cells + (hZ h' - hZ h) = mc → slots + (hS h' - hS h) = ms →
      W p l e R s m args below meth c H locs cells slots (Z r h' mc ms below args s) (F0 m pc ls st)
/-- an ordinary method's end -/
def am_Z (w : am_W) : am_Zt := fun r h' mc ms below args s => MQ below (fun _ _ o t => o = .returned r ∧ am_R w h' t.heap) args s mc ms (fun q => w.2.2.1 ≤ q)
/-- a whole call of a method -/
def EvM (w : am_W) (u : am_M) (d : Nat) (As : List Value) (h : am_H) (Q : Option Value → am_H → Prop) : Prop := Ev w (am_Z w) u d 0 (lv_args 0 As) [] h Q
section EV
variable {w : am_W} {Z : am_Zt} {u : am_M} {d pc pc' : Nat} {lv lv' : List (Nat × Value)} {st st' : List Value} {h h1 : am_H} {Q Q' : Option Value → am_H → Prop}
theorem Ev.mono (k : Ev w Z u d pc lv st h Q) (hQ : ∀ r h', Q r h' → Q' r h') : Ev w Z u d pc lv st h Q' := by
  obtain ⟨r, h', q, z, s', g⟩ := k
  exact ⟨r, h', hQ _ _ q, z, s', g⟩
theorem Ev.go (f : ∀ {p : Program} {l : Launch} {e : Env} {R : Room} {s : State} {m : MethodId} {args : Array Value} {below : List Frame} {meth : Method} {c : Code} {mc ms : Nat}, am_C w u d p l R s m args meth c mc ms → ∀ {H : Heap} {locs : List Loc} {cells slots : Nat} {ls : Array Slot} {QQ : State → Prop}, am_R w h H → lv_has ls u.2.2.1 lv → (∀ ls', lv_has ls' u.2.2.1 lv' → W p l e R s m args below meth c H locs cells slots QQ (F0 m pc' ls' st')) → W p l e R s m args below meth c H locs cells slots QQ (F0 m pc ls st))
    (k : Ev w Z u d pc' lv' st' h Q) : Ev w Z u d pc lv st h Q := by
  obtain ⟨r, h', q, z, s', g⟩ := k
  exact ⟨r, h', q, z, s', fun p l e R s m args below meth c mc ms C H locs cells slots ls hR hl hf hc hs => f C hR hl (fun ls' hl' => g p l e R s m args below meth c mc ms C H locs cells slots ls' hR hl' hf hc hs)⟩
/-- the locals stay -/
theorem Ev.go1 (f : ∀ {p : Program} {l : Launch} {e : Env} {R : Room} {s : State} {m : MethodId} {args : Array Value} {below : List Frame} {meth : Method} {c : Code} {mc ms : Nat}, am_C w u d p l R s m args meth c mc ms → ∀ {H : Heap} {locs : List Loc} {cells slots : Nat} {ls : Array Slot} {QQ : State → Prop}, am_R w h H → lv_has ls u.2.2.1 lv → W p l e R s m args below meth c H locs cells slots QQ (F0 m pc' ls st') → W p l e R s m args below meth c H locs cells slots QQ (F0 m pc ls st))
    (k : Ev w Z u d pc' lv st' h Q) : Ev w Z u d pc lv st h Q := Ev.go (lv' := lv) (fun C _ _ _ _ _ _ hR hl kk => f C hR hl (kk _ hl)) k
/-- fewer locals are known -/
theorem Ev.sub (ks : List Nat) (e : lv_pick lv ks = lv') (k : Ev w Z u d pc lv' st h Q) : Ev w Z u d pc lv st h Q := Ev.go (fun C _ _ _ _ _ _ hR hl kk => kk _ (lv_sub hl ks e)) k
/-- something is written -/
theorem Ev.goH (z1 : hZ h1 = hZ h) (s1 : hS h1 = hS h) (f : ∀ {p : Program} {l : Launch} {e : Env} {R : Room} {s : State} {m : MethodId} {args : Array Value} {below : List Frame} {meth : Method} {c : Code} {mc ms : Nat}, am_C w u d p l R s m args meth c mc ms → ∀ {H : Heap} {locs : List Loc} {cells slots : Nat} {ls : Array Slot} {QQ : State → Prop}, am_R w h H → lv_has ls u.2.2.1 lv → (∀ (H1 : Heap) (L : List Loc), am_R w h1 H1 → (∀ q ∈ L, w.2.2.1 ≤ q.base) → W p l e R s m args below meth c H1 (locs ++ L) cells slots QQ (F0 m pc' ls st')) → W p l e R s m args below meth c H locs cells slots QQ (F0 m pc ls st))
    (k : Ev w Z u d pc' lv st' h1 Q) : Ev w Z u d pc lv st h Q := by
  obtain ⟨r, h', q, z, s', g⟩ := k
  refine ⟨r, h', q, by omega, by omega, fun p l e R s m args below meth c mc ms C H locs cells slots ls hR hl hf hc hs => f C hR hl (fun H1 L hR1 hL => g p l e R s m args below meth c mc ms C H1 (locs ++ L) cells slots ls hR1 hl (fun q hq => ?_) (by omega) (by omega))⟩
  rcases List.mem_append.mp hq with hq | hq
  · exact hf q hq
  · exact hL q hq
/-- something is made -/
theorem Ev.goN {n : Nat} (z1 : hZ h1 = hZ h + 1) (s1 : hS h1 = hS h + n) (f : ∀ {p : Program} {l : Launch} {e : Env} {R : Room} {s : State} {m : MethodId} {args : Array Value} {below : List Frame} {meth : Method} {c : Code} {mc ms : Nat}, am_C w u d p l R s m args meth c mc ms → ∀ {H : Heap} {locs : List Loc} {cells slots : Nat} {ls : Array Slot} {QQ : State → Prop}, cells + 1 ≤ R.cells → slots + n ≤ R.slots → am_R w h H → lv_has ls u.2.2.1 lv → (∀ (H1 : Heap), am_R w h1 H1 → W p l e R s m args below meth c H1 locs (cells + 1) (slots + n) QQ (F0 m pc' ls st')) → W p l e R s m args below meth c H locs cells slots QQ (F0 m pc ls st))
    (k : Ev w Z u d pc' lv st' h1 Q) : Ev w Z u d pc lv st h Q := by
  obtain ⟨r, h', q, z, s', g⟩ := k
  refine ⟨r, h', q, by omega, by omega, fun p l e R s m args below meth c mc ms C H locs cells slots ls hR hl hf hc hs => ?_⟩
  obtain ⟨-, -, -, -, -, -, -, -, -, -, -, hmc, hms, -⟩ := id C
  exact f C (by omega) (by omega) hR hl (fun H1 hR1 => g p l e R s m args below meth c mc ms C H1 locs (cells + 1) (slots + n) ls hR1 hl hf (by omega) (by omega))
end EV
