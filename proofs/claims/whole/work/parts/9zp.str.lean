/-! The class's string constants: where they lie, what they hold; rows for them. -/
def stxW : String := "room    trip    boats   side    come    law     person  of      at      weight  cost    left    right   lload   rload   wait    minute  plain   dog     child   cart    turner  chooser not     and     or      "
def stxS : String := "()<=+-*;"
def slen : List Nat := [208, 8]
def sbyt : List (List Int32) := [[114, 111, 111, 109, 32, 32, 32, 32, 116, 114, 105, 112, 32, 32, 32, 32, 98, 111, 97, 116, 115, 32, 32, 32, 115, 105, 100, 101, 32, 32, 32, 32, 99, 111, 109, 101, 32, 32, 32, 32, 108, 97, 119, 32, 32, 32, 32, 32, 112, 101, 114, 115, 111, 110, 32, 32, 111, 102, 32, 32, 32, 32, 32, 32, 97, 116, 32, 32, 32, 32, 32, 32, 119, 101, 105, 103, 104, 116, 32, 32, 99, 111, 115, 116, 32, 32, 32, 32, 108, 101, 102, 116, 32, 32, 32, 32, 114, 105, 103, 104, 116, 32, 32, 32, 108, 108, 111, 97, 100, 32, 32, 32, 114, 108, 111, 97, 100, 32, 32, 32, 119, 97, 105, 116, 32, 32, 32, 32, 109, 105, 110, 117, 116, 101, 32, 32, 112, 108, 97, 105, 110, 32, 32, 32, 100, 111, 103, 32, 32, 32, 32, 32, 99, 104, 105, 108, 100, 32, 32, 32, 99, 97, 114, 116, 32, 32, 32, 32, 116, 117, 114, 110, 101, 114, 32, 32, 99, 104, 111, 111, 115, 101, 114, 32, 110, 111, 116, 32, 32, 32, 32, 32, 97, 110, 100, 32, 32, 32, 32, 32, 111, 114, 32, 32, 32, 32, 32, 32], [40, 41, 60, 61, 43, 45, 42, 59]]
def sLn (k : Nat) : Nat := slen.getD k 0
def sBy (k j : Nat) : Int32 := (sbyt.getD k []).getD j 0
/-- what the run's start says of strings and of two statics -/
def StW (w : am_W) (ad av : Nat → Nat) (sf : Value) : Prop := (sf = .null ∨ ∃ r, sf = .ref r) ∧ ∀ s, w.2.2.2.2 s → vk_S 2 slen sbyt ad av (fun q => w.2.2.1 ≤ q) s w.2.2.2.1 ∧ vk_R "EvenFerry$Tape" 71 stxW (ad 0) s ∧ vk_R "EvenFerry$Tape" 55 stxS (ad 1) s ∧ va_Z "java/lang/String" "COMPACT_STRINGS" "Z" (.int 1) (fun q => w.2.2.1 ≤ q) s w.2.2.2.1 ∧ va_Z "jdk/internal/util/Preconditions" "SIOOBE_FORMATTER" "Ljava/util/function/BiFunction;" sf (fun q => w.2.2.1 ≤ q) s w.2.2.2.1 ∧ va_Nw (.castable "[I" "java/lang/Cloneable") s
theorem am_R.old {w : am_W} {h : am_H} {H : Heap} (hq : am_R w h H) : ∀ a : Nat, a < w.2.2.2.1.size → ¬ (fun q => w.2.2.1 ≤ q) a → H[a]? = w.2.2.2.1[a]? := fun a ha _ => hq.2.2.2.2.1 a (by have := hq.2.1; omega)
section STR
variable {w : am_W} {Z : am_Zt} {u v : am_M} {d pc n i : Nat} {lv : List (Nat × Value)} {st st0 As : List Value} {h : am_H} {Q : Option Value → am_H → Prop} {ad av : Nat → Nat} {sf : Value} {k : Nat}
theorem Ev.ldcS (hw : StW w ad av sf) (hc : u.1.cls = "EvenFerry$Tape") (hd : decode u.2.1 pc = .ok (.ldc i, 2)) (hi : (i = 71 ∧ k = 0) ∨ (i = 55 ∧ k = 1)) (kk : Ev w Z u d (pc + 2) lv (.ref (ad k) :: st) h Q) : Ev w Z u d pc lv st h Q := by
  refine Ev.go1 (fun C _ _ _ _ _ _ _ _ kk => ?_) kk
  obtain ⟨hx, hb, -, -, hml, hown, -, hts, hKw, hfr, hlo, -⟩ := id C
  obtain ⟨-, r0, r1, -⟩ := hw.2 _ hKw.2.2.1
  rw [hc] at hown
  rcases hi with ⟨e1, e2⟩ | ⟨e1, e2⟩
  · subst e1 e2; exact va_ldcS hx hb hown r0 hd kk
  · subst e1 e2; exact va_ldcS hx hb hown r1 hd kk
theorem Ev.sval (hw : StW w ad av sf) (hk : k < 2) (hl : Cond.fieldLink u.1.cls i "java/lang/String" "value" "[B" ∈ am_big) (hd : decode u.2.1 pc = .ok (.getfield i, 3)) (kk : Ev w Z u d (pc + 3) lv (.ref (av k) :: st) h Q) : Ev w Z u d pc lv (.ref (ad k) :: st) h Q := by
  refine Ev.go1 (fun C H _ _ _ _ _ hq _ kk => ?_) kk
  obtain ⟨hx, hb, -, -, hml, hown, -, hts, hKw, hfr, hlo, -⟩ := id C
  obtain ⟨cf, kc, fi, f, cell, h1, h2, h3, h4, h5, h6⟩ := (((hw.2 _ hKw.2.2.1).1.1 k hk).2.2.1).kept hq.old
  exact W.getf hx hb hown (hts _ hl) h1 h2 h3 h4 (v := .ref (av k)) h5 rfl rfl hd kk
theorem Ev.scod (hw : StW w ad av sf) (hk : k < 2) (hl : Cond.fieldLink u.1.cls i "java/lang/String" "coder" "B" ∈ am_big) (hd : decode u.2.1 pc = .ok (.getfield i, 3)) (kk : Ev w Z u d (pc + 3) lv (.int 0 :: st) h Q) : Ev w Z u d pc lv (.ref (ad k) :: st) h Q := by
  refine Ev.go1 (fun C H _ _ _ _ _ hq _ kk => ?_) kk
  obtain ⟨hx, hb, -, -, hml, hown, -, hts, hKw, hfr, hlo, -⟩ := id C
  obtain ⟨cf, kc, fi, f, cell, h1, h2, h3, h4, h5, h6⟩ := (((hw.2 _ hKw.2.2.1).1.1 k hk).2.1).kept hq.old
  exact W.getf hx hb hown (hts _ hl) h1 h2 h3 h4 (v := .int 0) h5 rfl rfl hd kk
theorem Ev.blen (hw : StW w ad av sf) (hk : k < 2) (hd : decode u.2.1 pc = .ok (.arraylength, 1)) (kk : Ev w Z u d (pc + 1) lv (.int (nI (sLn k)) :: st) h Q) : Ev w Z u d pc lv (.ref (av k) :: st) h Q := by
  refine Ev.go1 (fun C H _ _ _ _ _ hq _ kk => ?_) kk
  obtain ⟨hx, hb, -, -, hml, hown, -, hts, hKw, hfr, hlo, -⟩ := id C
  obtain ⟨cell, h1, h2, h3, h4, h5, h6, h7⟩ := (((hw.2 _ hKw.2.2.1).1.1 k hk).2.2.2).kept hq.old
  exact W.alen (n := Int32.ofNat (sLn k)) hx hb h1 h2 h5 rfl rfl hd kk
theorem Ev.bald {x : Int32} (hw : StW w ad av sf) (hk : k < 2) (hd : decode u.2.1 pc = .ok (.baload, 1)) (hin : vp_in x (sLn k)) (kk : Ev w Z u d (pc + 1) lv (.int (sBy k x.toNatClampNeg) :: st) h Q) : Ev w Z u d pc lv (.int x :: .ref (av k) :: st) h Q := by
  refine Ev.go1 (fun C H _ _ _ _ _ hq _ kk => ?_) kk
  obtain ⟨hx, hb, -, -, hml, hown, -, hts, hKw, hfr, hlo, -⟩ := id C
  obtain ⟨cell, h1, h2, h3, h4, h5, h6, h7⟩ := (((hw.2 _ hKw.2.2.1).1.1 k hk).2.2.2).kept hq.old
  have hlt : x.toNatClampNeg < sLn k := Nat.not_le.mp fun q => hin (Or.inr q)
  have h4 : sLn k ≤ cell.slots.size := h4
  have hin' : ¬ (x < 0 ∨ cell.slots.size ≤ x.toNatClampNeg) := by
    intro q
    rcases q with q | q
    · exact hin (Or.inl q)
    · omega
  exact W.bald (v := .int (sBy k x.toNatClampNeg)) hx hb h1 h2 h3 hin' (h6 _ hlt) rfl rfl hd kk
theorem Ev.gCS (hw : StW w ad av sf) (hl : Cond.fieldLink u.1.cls i "java/lang/String" "COMPACT_STRINGS" "Z" ∈ am_big) (hd : decode u.2.1 pc = .ok (.getstatic i, 3)) (kk : Ev w Z u d (pc + 3) lv (.int 1 :: st) h Q) : Ev w Z u d pc lv st h Q := by
  refine Ev.go1 (fun C H _ _ _ _ _ hq _ kk => ?_) kk
  obtain ⟨hx, hb, -, -, hml, hown, -, hts, hKw, hfr, hlo, -⟩ := id C
  obtain ⟨cf, kf, fi, f, a, cell, h1, h2, h3, h4, h5, h6, h7, h8⟩ := ((hw.2 _ hKw.2.2.1).2.2.2.1).kept hq.old
  exact W.gets hx hb hown (hts _ hl) h1 h2 h3 h4 h5 (fun e => by rw [e] at h6; cases h6) h7 rfl hd kk
theorem Ev.gSF (hw : StW w ad av sf) (hl : Cond.fieldLink u.1.cls i "jdk/internal/util/Preconditions" "SIOOBE_FORMATTER" "Ljava/util/function/BiFunction;" ∈ am_big) (hd : decode u.2.1 pc = .ok (.getstatic i, 3)) (kk : Ev w Z u d (pc + 3) lv (sf :: st) h Q) : Ev w Z u d pc lv st h Q := by
  refine Ev.go1 (fun C H _ _ _ _ _ hq _ kk => ?_) kk
  obtain ⟨hx, hb, -, -, hml, hown, -, hts, hKw, hfr, hlo, -⟩ := id C
  obtain ⟨cf, kf, fi, f, a, cell, h1, h2, h3, h4, h5, h6, h7, h8⟩ := ((hw.2 _ hKw.2.2.1).2.2.2.2.1).kept hq.old
  exact W.gets hx hb hown (hts _ hl) h1 h2 h3 h4 h5 (fun e => by rw [e] at h6; cases h6) h7 rfl hd kk
theorem Ev.callVS (hw : StW w ad av sf) (hk : k < 2) (o : am_ok v n) (hin : Cond.instanceMethod v.1 ∈ am_big) (hse : Cond.selects "java/lang/String" v.1 v.1 ∈ am_big) (hl : Cond.methodLink u.1.cls i v.1 ∈ am_big) (hd : decode u.2.1 pc = .ok (.invokevirtual i, 3)) (hn : As.length = n) (hs : st0 = As.reverse ++ .ref (ad k) :: st) (hfit : (lg_sl (.ref (ad k) :: As)).length ≤ v.2.2.1) (hrm : (st.map fun x => x.category).sum ≤ 8) (kk : EvM w v d (.ref (ad k) :: As) h (fun r h1 => Ev w Z u (d + 1) (pc + 3) lv (r.toList ++ st) h1 Q)) : Ev w Z u (d + 1) pc lv st0 h Q := by
  refine Ev.call0 o hfit kk (fun C _ _ _ _ _ _ _ hq hlv hf hM => ?_)
  obtain ⟨hx, hb, -, -, hml, hown, -, hts, hKw, hfr, hlo, -⟩ := id C
  obtain ⟨cell, h1, h2, h3, -⟩ := (((hw.2 _ hKw.2.2.1).1.1 k hk).1).kept hq.old
  exact va_runV (C := "java/lang/String") (As := As) ⟨hx, hb, hml, hown, hts⟩ hM ⟨callB_of n hts (am_good o) rfl rfl rfl (hts _ o.2.1) (hts _ hl) o.2.2.2.1 (am_hR hfr hlo o.2.2.2.2 _ _), hts _ hin, hts _ hse⟩ ⟨am_P.blind, ⟨cell, h1, h2, h3⟩, (am_preS hKw hq).2⟩ rfl hn hlv.1 hs (lv_room hrm) hd hf
theorem Ev.i2b {x : Int32} (hd : decode u.2.1 pc = .ok (.i2b, 1)) (k : Ev w Z u d (pc + 1) lv (.int (x.toInt8.toInt32) :: st) h Q) : Ev w Z u d pc lv (.int x :: st) h Q := Ev.go1 (fun C _ _ _ _ _ _ _ _ k => lv_i2b C.1 C.2.1 hd rfl k) k
theorem Ev.pop {va : Value} (hd : decode u.2.1 pc = .ok (.pop, 1)) (ha : va.category = 1) (k : Ev w Z u d (pc + 1) lv st h Q) : Ev w Z u d pc lv (va :: st) h Q := Ev.go1 (fun C _ _ _ _ _ _ _ _ k => lv_pop C.1 C.2.1 hd ha k) k
theorem Ev.clone {a : Nat} (hw : StW w ad av sf) (hl : Cond.methodLink u.1.cls i ⟨"[I", "clone", "()Ljava/lang/Object;"⟩ ∈ am_big) (hsame : Cond.sameMethod "[I" "java/lang/Object" "clone" "()Ljava/lang/Object;" ∈ am_big) (hnat : Cond.native ⟨"java/lang/Object", "clone", "()Ljava/lang/Object;"⟩ ∈ am_big) (hinst : Cond.instanceMethod ⟨"java/lang/Object", "clone", "()Ljava/lang/Object;"⟩ ∈ am_big) (hsel : Cond.selects "[I" ⟨"[I", "clone", "()Ljava/lang/Object;"⟩ ⟨"java/lang/Object", "clone", "()Ljava/lang/Object;"⟩ ∈ am_big) (hd : decode u.2.1 pc = .ok (.invokevirtual i, 3)) (hrm : (st.map fun x => x.category).sum ≤ 8) (k0 : hK h a = 12)
    (kk : ∀ h1 : am_H, h1 = rI (nA h 12 (hN h a)) (hZ h) (hI h a) → Ev w Z u (d + 1) (pc + 3) lv (.ref (hZ h) :: st) h1 Q) : Ev w Z u (d + 1) pc lv (.ref a :: st) h Q := by
  have kk := kk _ rfl
  refine Ev.goN (h1 := rI (nA h 12 (hN h a)) (hZ h) (hI h a)) (n := hN h a) rfl rfl (fun C H locs cells slots ls QQ g1 g2 hq hlv kk => ?_) kk
  rename_i p l e R s m args below meth c mc ms
  obtain ⟨hx, hb, -, -, hml, hown, -, hts, hKw, hfr, hlo, -⟩ := id C
  obtain ⟨c0, t0, f1, f2, f3⟩ := Cond.castable_spec (va_Nw.use (A := args) rfl (hw.2 _ hKw.2.2.1).2.2.2.2.2)
  have hA := hKw.arr (k := 12) (by decide) (by decide)
  have hnm : s.vm.findClass "[I" = some (w.2.1 12) := hA.2
  cases hnm.symm.trans f1
  intro T hT X
  have hc0 := hq.arr k0 (by decide) (by decide)
  obtain ⟨-, kA, hkA, comp, hkind⟩ := State.isArrayOf_alike X.warmed.alike (hA.1 0 (fun _ => .null))
  obtain ⟨-, kS, hkS, compS, hkindS⟩ := hA.1 0 (fun _ => .null)
  obtain ⟨vm', X', step⟩ := X.cloneArray hx hown (hts _ hl) (hts _ hsame) (hts _ hnat) (hts _ hinst) (hts _ hsel) (a := a) (cell := arrV (w.2.1 12) (hN h a) (fun j => am_val h a j (am_et 12))) (by rw [hT]; exact hc0) (fun k h => by cases h) (fun h => by cases h) hnm f2 f3
    (fun i v hv => by
      have hk' : T.vm.classes[(arrV (w.2.1 12) (hN h a) (fun j => am_val h a j (am_et 12))).cls]? = some kA := hkA
      have hlt : i < hN h a := by
        have := (Array.getElem?_eq_some_iff.mp hv).1
        rw [arrV_size] at this
        exact this
      rw [arrV_read _ _ hlt] at hv
      cases hv
      simp [State.fitsSlot, State.slotType?, hk', hkind]
      rfl)
    (g := F0 m pc ls (.ref a :: st)) rfl (by rw [hml]; exact hlv.1) rfl (by rw [hb]; exact hd) (by omega) (by show 2 * 0 + _ + 14 ≤ _; omega) g1 (by rw [arrV_size]; exact g2) (hloader := Vm.clonesLoader_of_array hkS hkindS)
  rw [arrV_size] at X'
  generalize hH1 : H.push (arrV (w.2.1 12) (hN h a) (fun j => am_val h a j (am_et 12))) = H1
  have z1 : H1.size = hZ h + 1 := by rw [← hH1, Array.size_push, hq.1]
  have e1 : H1[hZ h]? = some (arrV (w.2.1 12) (hN h a) (fun j => am_val h a j (am_et 12))) := by rw [← hH1, ← hq.1, Array.getElem?_push_size]
  have o1 : ∀ q : Nat, q < hZ h → H1[q]? = H[q]? := fun q hq' => by rw [← hH1, Array.getElem?_push, if_neg (by have := hq.1; omega)]
  have hR1 : am_R w (rI (nA h 12 (hN h a)) (hZ h) (hI h a)) H1 := by
    refine hq.born (k := 12) z1 o1 rfl rfl (fun b hb => va_up_ne _ _ hb) (fun b j t hb => am_val_new (h := h) (h1 := rI (nA h 12 (hN h a)) (hZ h) (hI h a)) ?_ (va_up_ne _ _ hb) (va_up_ne _ _ hb) j t) ?_
    · show va_up (va_up (hI h) (hZ h) _) (hZ h) _ b = _
      rw [va_up_ne _ _ hb, va_up_ne _ _ hb]
    · have hk1 : hK (rI (nA h 12 (hN h a)) (hZ h) (hI h a)) (hZ h) = 12 := va_up_self _ _ _
      have hn1 : hN (rI (nA h 12 (hN h a)) (hZ h) (hI h a)) (hZ h) = hN h a := va_up_self _ _ _
      unfold am_at
      rw [hk1, hn1, if_neg (by decide), e1]
      congr 2
      funext j
      show Value.int (hI h a j) = Value.int (va_up _ (hZ h) (hI h a) (hZ h) j)
      rw [va_up_self]
  obtain ⟨t, b1, b2⟩ := kk H1 hR1 ((T.setVm vm').pushCell (arrV (w.2.1 12) (hN h a) (fun j => am_val h a j (am_et 12)))) (by rw [← hH1, ← hT]; rfl) X'
  refine ⟨t, step t ?_, b2⟩
  rw [hT, hq.1]
  exact b1
theorem Ev.castI {a : Nat} (hl : Cond.classLink u.1.cls i "[I" ∈ am_big) (hd : decode u.2.1 pc = .ok (.checkcast i, 3)) (k0 : hK h a = 12) (kk : Ev w Z u d (pc + 3) lv (.ref a :: st) h Q) : Ev w Z u d pc lv (.ref a :: st) h Q := by
  refine Ev.go1 (fun C H _ _ _ _ _ hq _ kk => ?_) kk
  obtain ⟨hx, hb, -, -, hml, hown, -, hts, hKw, hfr, hlo, -⟩ := id C
  exact va_castE hx hb hown (hts _ hl) ⟨_, hq.arr k0 (by decide) (by decide), rfl, (hKw.arr (k := 12) (by decide) (by decide)).2⟩ hd kk
end STR
