/-! THE CLAIM OUT OF ONE WALK OF THE LAW'S BODY. Your part is whole_start (and what it stands on); all else here is the same for every law, but numbers. -/
def R_law : String := "EvenFerryLaw"
def lw_P (b : Addr) (xs : List Int32) (args : Array Value) (s : State) : Prop := args = #[.ref b] ∧ s.IntsAt b xs ∧ xs.length ≤ 3584 ∧ (Jvm.Cond.and given_1 narrow_1).before args s = true
def lw_Q (_ : Array Value) (s : State) (o : Outcome) (t : State) : Prop := o = .returned (some (.int 1)) ∧ Framed s o t [] 601024 7293034
def lw_Z (below : List Frame) (a : Array Value) (s : State) : State → Prop := fun t => ∃ o, t.status = .running ∧ Ended t below o ∧ lw_Q a s o t
/-- the law's own end, with 1 on the stack, nothing written that was there before, its room as the claim has it -/
theorem lw_ret {p : Program} {l : Launch} {e : Env} {s : State} {m : MethodId} {below : List Frame} {meth : Method} {c : Code} {b : Nat} (hx : p.tables.exec = Jvm.exec) (hb : c.code = code) (hr : meth.sig.returnType = ret) (hlocks : meth.locks = false) {pc : Nat} {H : Heap} {ls : Array Slot} (hdg : decode code pc = .ok (.ireturn, 1)) : W p l e room_1 s m #[Value.ref b] below meth c H [] 601024 7293034 (lw_Z below #[Value.ref b] s) (F0 m pc ls [.int 1]) := by
  intro T hT X
  obtain ⟨fs, hret, hrun, hended, hW, hframe⟩ := X.leave (v := some (.int 1)) (hlocks := hlocks) (fun h => by rw [hr] at h; cases h)
  have hmeth' : T.vm.method? m = some meth := X.method'
  refine ⟨T.setFrames fs, ?_, .returned (some (.int 1)), hrun, hended, rfl, ⟨_, rfl⟩, hW, hframe⟩
  jvm_step X.here [X.here.top, hx, hb, hdg, hmeth', hr, ret, narrow_b1]
  (try refine ⟨rfl, ?_⟩); (try refine ⟨rfl, ?_⟩)
  first | (intro acts; rw [hret _ acts rfl rfl rfl]) | rw [hret _ _ rfl rfl rfl]
  exact Steps.refl _
/-- what holds at the law's entry: the machine, the code, the tables' words (any of lw_tbl by 'hts w (by decide +kernel)'), the script of L ints xs at the cell b, what the Statement gives of the start (any of its parts by flat_of_before) -/
def lw_At (p : Program) (s : State) (m : MethodId) (meth : Method) (c : Code) (b L : Nat) (xs : Nat → Int32) : Prop :=
  p.tables.exec = Jvm.exec ∧ c.code = code ∧ meth.sig.returnType = ret ∧ c.maxLocals = 7 ∧ s.vm.findClass R_law = some m.cls ∧ (∀ w ∈ lw_tbl, w.before #[Value.ref b] s = true) ∧ va_X b L xs s s.heap ∧ b < s.heap.size ∧ meth.locks = false ∧ (Jvm.Cond.and given_1 narrow_1).before #[Value.ref b] s = true
/-! The law: rows for its own. -/
def mL_law : am_M := (x, code, 7, ret)
/-- the law's end: what it is good for where the room and the start are the claim's -/
def zL (w : am_W) (b : Nat) : am_Zt := fun _ _ mc ms below args s t => (mc ≤ 601024 ∧ ms ≤ 7293034 ∧ s.heap.size = w.2.2.1 ∧ args = #[Value.ref b]) → lw_Z below args s t
theorem lw_retR {p : Program} {l : Launch} {e : Env} {R : Room} {s : State} {m : MethodId} {below : List Frame} {meth : Method} {c : Code} {b : Nat} (hx : p.tables.exec = Jvm.exec) (hb : c.code = code) (hr : meth.sig.returnType = ret) (hlocks : meth.locks = false) {pc : Nat} {H : Heap} {ls : Array Slot} (hdg : decode code pc = .ok (.ireturn, 1)) : W p l e R s m #[Value.ref b] below meth c H [] 601024 7293034 (lw_Z below #[Value.ref b] s) (F0 m pc ls [.int 1]) := by
  intro T hT X
  obtain ⟨fs, hret, hrun, hended, hW, hframe⟩ := X.leave (v := some (.int 1)) (hlocks := hlocks) (fun h => by rw [hr] at h; cases h)
  have hmeth' : T.vm.method? m = some meth := X.method'
  refine ⟨T.setFrames fs, ?_, .returned (some (.int 1)), hrun, hended, rfl, ⟨_, rfl⟩, hW, hframe⟩
  jvm_step X.here [X.here.top, hx, hb, hdg, hmeth', hr, ret, narrow_b1]
  (try refine ⟨rfl, ?_⟩); (try refine ⟨rfl, ?_⟩)
  first | (intro acts; rw [hret _ acts rfl rfl rfl]) | rw [hret _ _ rfl rfl rfl]
  exact Steps.refl _
def ScW (w : am_W) (b L : Nat) (xs : Nat → Int32) : Prop := b < w.2.2.1 ∧ ∀ s, w.2.2.2.2 s → va_X b L xs s w.2.2.2.1
section LAW
variable {w : am_W} {Z : am_Zt} {u : am_M} {d pc : Nat} {lv : List (Nat × Value)} {st : List Value} {h : am_H} {Q : Option Value → am_H → Prop} {b L : Nat} {xs : Nat → Int32}
theorem am_R.scr {H : Heap} (hq : am_R w h H) (hb : b < w.2.2.1) : H[b]? = w.2.2.2.1[b]? := hq.2.2.2.2.1 b hb
theorem Ev.scl {i : Int32} (hs : ScW w b L xs) (hd : decode u.2.1 pc = .ok (.iaload, 1)) (hin : vp_in i L) (kk : Ev w Z u d (pc + 1) lv (.int (xs i.toNatClampNeg) :: st) h Q) : Ev w Z u d pc lv (.int i :: .ref b :: st) h Q := by
  refine Ev.go1 (fun C H _ _ _ _ _ hq _ kk => ?_) kk
  obtain ⟨hx, hb, -, -, hml, hown, -, hts, hKw, hfr, hlo, -⟩ := id C
  obtain ⟨scr, h1, h2, h3, h4, h5⟩ := (hs.2 _ hKw.2.2.1).kept (hq.scr hs.1)
  have hlt : i.toNatClampNeg < L := Nat.not_le.mp fun q => hin (Or.inr q)
  exact W.iald (v := .int (xs i.toNatClampNeg)) hx hb h1 h2 h3 (by rw [h4]; exact hin) (h5 _ hlt) rfl rfl hd kk
theorem Ev.scn (hs : ScW w b L xs) (hd : decode u.2.1 pc = .ok (.arraylength, 1)) (kk : Ev w Z u d (pc + 1) lv (.int (nI L) :: st) h Q) : Ev w Z u d pc lv (.ref b :: st) h Q := by
  refine Ev.go1 (fun C H _ _ _ _ _ hq _ kk => ?_) kk
  obtain ⟨hx, hb, -, -, hml, hown, -, hts, hKw, hfr, hlo, -⟩ := id C
  obtain ⟨scr, h1, h2, h3, h4, h5⟩ := (hs.2 _ hKw.2.2.1).kept (hq.scr hs.1)
  exact W.alen (n := Int32.ofNat L) hx hb h1 h2 (by rw [h4] <;> rfl) rfl rfl hd kk
theorem Ev.lawRet (hd : decode code pc = .ok (.ireturn, 1)) (k : Q (some (.int 1)) h) : Ev w (zL w b) mL_law d pc lv [.int 1] h Q := by
  refine ⟨some (.int 1), h, k, Nat.le_refl _, Nat.le_refl _, fun p l e R s m args below meth c mc ms C H locs cells slots ls hR hl hf hc hs => ?_⟩
  obtain ⟨hx, hb, hr, hlk, hml, hown, -, hts, hKw, hfr, hlo, -⟩ := id C
  by_cases g : mc ≤ 601024 ∧ ms ≤ 7293034 ∧ s.heap.size = w.2.2.1 ∧ args = #[Value.ref b]
  · obtain ⟨g1, g2, g3, g4⟩ := g
    subst g4
    have K := lw_retR (l := l) (e := e) (R := R) (s := s) (m := m) (below := below) (H := H) (ls := ls) (b := b) hx hb hr hlk hd
    refine va_forget (fun q hq => by rw [g3]; exact hf q hq) (W.widen (k := 601024) (n := 7293034) (by omega) (by omega) ?_)
    intro T hT X
    obtain ⟨t, a1, a2⟩ := K T hT X
    exact ⟨t, a1, fun _ => a2⟩
  · intro T hT X
    exact ⟨_, Steps.refl _, fun y => absurd y g⟩
theorem RepM.sm {m : Nat} {h1 : am_H} {A : rA} (R : RepM m h A) (e : ∀ a, m ≤ a → a ≤ m + 37 → same h h1 a) : RepM m h1 A := by
  obtain ⟨M, a1, a2, a3, a3', a4, a5⟩ := R
  have g : ∀ a, m ≤ a → a ≤ m + 37 → hI h1 a = hI h a := fun a y1 y2 => (e a y1 y2).2.2.1
  have hM : ∀ q ∈ am_lay 10, q.2.1 ≤ 37 := by decide
  have hN' : ∀ q ∈ mdN, q.1 ≤ 37 := by decide
  refine ⟨⟨M.1.sm (M := 37) hM e, fun q hq => by rw [(e (m + q.1) (by omega) (by have := hN' q hq; omega)).2.1]; exact M.2 q hq⟩, by rw [g m (by omega) (by omega)]; exact a1, a2, by rw [g _ (by omega) (by omega)]; exact a3, a3', a4.cg (fun o y1 y2 y3 y4 => g _ (by omega) (by omega)), fun i hi => ⟨by rw [g _ (by omega) (by omega)]; exact (a5 i hi).1, fun z => ((a5 i hi).2 z).cg (fun o y1 y2 y3 y4 => g _ (by omega) (by omega))⟩⟩
end LAW
