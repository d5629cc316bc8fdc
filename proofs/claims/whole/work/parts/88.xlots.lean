/-! The class's crowds: one more comes; days drawn. -/
theorem OrdL.ins {at_ : Nat → Int32} {n k : Nat} {l : List Nat} (O : OrdL at_ n l) (h1 : ∀ q ∈ l.take k, at_ q ≤ at_ n) (h2 : ∀ q ∈ l.drop k, at_ n < at_ q) : OrdL at_ (n + 1) (l.take k ++ n :: l.drop k) := by
  have pw := O.1
  rw [← List.take_append_drop k l] at pw
  obtain ⟨p1, p2, p3⟩ := List.pairwise_append.mp pw
  refine ⟨List.pairwise_append.mpr ⟨p1, List.pairwise_cons.mpr ⟨fun q hq => Or.inl (h2 q hq), p2⟩, fun a ha b hb => ?_⟩, ?_⟩
  · rcases List.mem_cons.mp hb with e | e
    · subst e
      have : a < b := O.mem.mp (List.mem_of_mem_take ha)
      rcases Int32.lt_or_eq_of_le (h1 a ha) with e2 | e2
      · exact Or.inl e2
      · exact Or.inr ⟨e2, this⟩
    · exact p3 a ha b e
  · rw [List.range_succ]
    refine List.perm_middle.trans ?_
    rw [List.take_append_drop]
    exact (O.2.cons n).trans (List.perm_append_singleton n (List.range n)).symm
section XADD
variable {w : am_W} {d : Nat} {h h1 : am_H} {Q : Option Value → am_H → Prop} {c L n : Nat} {l : List Nat} {at_ wt ct : Nat → Int32}
set_option maxHeartbeats 4000000 in
theorem c_add {side : Int32} (C : CwX c L n l at_ wt ct h) (hn : n < L) (q : ∀ h' l', FrA (fun a => c ≤ a ∧ a ≤ c + 5) h h' → CwX c L (n + 1) l' at_ wt ct h' → hI h' (c + 2) = va_up (hI h (c + 2)) n side → Q none h') : EvM w mX2_add (d + 1) [.ref c, .int (at_ n), .int side, .int (wt n), .int (ct n)] h Q := by
  obtain ⟨c1, ⟨n1, n2, n3, n4, n5⟩, ⟨c3, c3'⟩, c4, c5, c6, c7, O, c9⟩ := id C
  have hlen := O.len
  refine bX2_add_0 ⟨c1, fun _ => c_set (c1.s 0 rfl) (by omega) ⟨rfl, FrA.L (Z := fun _ => True) (FrA.rf.row trivial) c1, ?_⟩, fun cc => absurd ?_ cc⟩
  · rw [n1, c4, sv_nI hn (by omega)]
    generalize hg1 : rI h (c + 1) (va_up (hI h (c + 1)) n (at_ n)) = g1
    have F1 : FrA (fun a => c ≤ a ∧ a ≤ c + 5) h g1 := by rw [← hg1]; exact FrA.rf.row (by omega)
    have i1 : ∀ a, a ≠ c + 1 → hI g1 a = hI h a := fun a ha => by rw [← hg1, hI_rn _ _ ha]
    have j1 : hI g1 (c + 1) = va_up (hI h (c + 1)) n (at_ n) := by rw [← hg1, hI_rs]
    refine c_set (by rw [F1.K]; exact c1.s 1 rfl) (by rw [F1.N]; omega) ⟨rfl, FrA.L (Z := fun _ => True) (FrA.rf.row trivial) (F1.L c1), ?_⟩
    rw [F1.N, n2, i1 c (by omega), c4, sv_nI hn (by omega), i1 (c + 2) (by omega)]
    generalize hg2 : rI g1 (c + 2) (va_up (hI h (c + 2)) n side) = g2
    have F2 : FrA (fun a => c ≤ a ∧ a ≤ c + 5) h g2 := by rw [← hg2]; exact F1.row (by omega)
    have i2 : ∀ a, a ≠ c + 2 → hI g2 a = hI g1 a := fun a ha => by rw [← hg2, hI_rn _ _ ha]
    have j2 : hI g2 (c + 2) = va_up (hI h (c + 2)) n side := by rw [← hg2, hI_rs]
    refine c_set (by rw [F2.K]; exact c1.s 2 rfl) (by rw [F2.N]; omega) ⟨rfl, FrA.L (Z := fun _ => True) (FrA.rf.row trivial) (F2.L c1), ?_⟩
    rw [F2.N, n3, i2 c (by omega), i1 c (by omega), c4, sv_nI hn (by omega), i2 (c + 3) (by omega), i1 (c + 3) (by omega)]
    generalize hg3 : rI g2 (c + 3) (va_up (hI h (c + 3)) n (wt n)) = g3
    have F3 : FrA (fun a => c ≤ a ∧ a ≤ c + 5) h g3 := by rw [← hg3]; exact F2.row (by omega)
    have i3 : ∀ a, a ≠ c + 3 → hI g3 a = hI g2 a := fun a ha => by rw [← hg3, hI_rn _ _ ha]
    have j3 : hI g3 (c + 3) = va_up (hI h (c + 3)) n (wt n) := by rw [← hg3, hI_rs]
    refine c_set (by rw [F3.K]; exact c1.s 3 rfl) (by rw [F3.N]; omega) ⟨rfl, FrA.L (Z := fun _ => True) (FrA.rf.row trivial) (F3.L c1), ?_⟩
    rw [F3.N, n4, i3 c (by omega), i2 c (by omega), i1 c (by omega), c4, sv_nI hn (by omega), i3 (c + 4) (by omega), i2 (c + 4) (by omega), i1 (c + 4) (by omega)]
    generalize hg4 : rI g3 (c + 4) (va_up (hI h (c + 4)) n (ct n)) = g4
    have F4 : FrA (fun a => c ≤ a ∧ a ≤ c + 5) h g4 := by rw [← hg4]; exact F3.row (by omega)
    have i4 : ∀ a, a ≠ c + 4 → hI g4 a = hI g3 a := fun a ha => by rw [← hg4, hI_rn _ _ ha]
    have j4 : hI g4 (c + 4) = va_up (hI h (c + 4)) n (ct n) := by rw [← hg4, hI_rs]
    have m0 : hI g4 c = hI h c := by rw [i4 _ (by omega), i3 _ (by omega), i2 _ (by omega), i1 _ (by omega)]
    have m1 : hI g4 (c + 1) = va_up (hI h (c + 1)) n (at_ n) := by rw [i4 _ (by omega), i3 _ (by omega), i2 _ (by omega), j1]
    have m2 : hI g4 (c + 2) = va_up (hI h (c + 2)) n side := by rw [i4 _ (by omega), i3 _ (by omega), j2]
    have m3 : hI g4 (c + 3) = va_up (hI h (c + 3)) n (wt n) := by rw [i4 _ (by omega), j3]
    have m5 : hI g4 (c + 5) = hI h (c + 5) := by rw [i4 _ (by omega), i3 _ (by omega), i2 _ (by omega), i1 _ (by omega)]
    have e5 : eqR (n + 1) (va_up (hI h (c + 1)) n (at_ n)) at_ := eqR.sv c5 rfl
    have e6 : eqR (n + 1) (va_up (hI h (c + 3)) n (wt n)) wt := eqR.sv c6 rfl
    have e7 : eqR (n + 1) (va_up (hI h (c + 4)) n (ct n)) ct := eqR.sv c7 rfl
    -- who comes later moves up
    have loop : ∀ k, k ≤ n → ∀ hc, FrA (fun a => a = c + 5) g4 hc → Rw (hI hc (c + 5)) 0 (l.take k) → Rw (hI hc (c + 5)) (k + 1) (l.drop k) → (∀ q ∈ l.drop k, at_ n < at_ q) → Ev w (am_Z w) mX2_add (d + 1) 68 [(0, .ref c), (1, .int (at_ n)), (5, .int (nI k))] [] hc Q := by
      intro k
      induction k with
      | zero =>
        intro _ hc F R1 R2 U
        have Fh := F4.tr (F.mono (Z' := fun a => c ≤ a ∧ a ≤ c + 5) (fun a e => by omega))
        have xc : hI hc c = hI h c := by rw [F.I (by omega), m0]
        refine bX2_add_68 ⟨fun _ => ⟨Fh.L c1, c_set (by rw [Fh.K]; exact c1.s 4 rfl) (by rw [Fh.N]; omega) ⟨rfl, FrA.L (Z := fun _ => True) (FrA.rf.row trivial) (Fh.L c1), fun h5 e5' => ?_⟩⟩, fun cc => absurd (by decide) cc⟩
        rw [Fh.N, n5, xc, c4, sv_nI (by omega) (by omega), hI_rn _ _ (by omega), xc, c4, nI_1] at e5'
        have F5 : FrA (fun a => c ≤ a ∧ a ≤ c + 5) h h5 := by rw [e5']; exact (Fh.row (by omega)).fld (by omega)
        have o5 : ∀ a, a ≠ c → a ≠ c + 5 → hI h5 a = hI g4 a := fun a p q => by rw [e5', sI_r, hI_rn _ _ p, hI_rn _ _ q, F.I q]
        have p5 : hI h5 (c + 5) = va_up (hI hc (c + 5)) 0 (nI n) := by rw [e5', sI_r, hI_rn _ _ (by omega), hI_rs]
        refine q h5 (l.take 0 ++ n :: l.drop 0) F5 ⟨F5.L c1, by rw [F5.N, F5.N, F5.N, F5.N, F5.N]; exact ⟨n1, n2, n3, n4, n5⟩, ⟨by omega, c3'⟩, by rw [e5', sI_r, hI_rs, va_up_self], by rw [o5 _ (by omega) (by omega), m1]; exact e5, by rw [o5 _ (by omega) (by omega), m3]; exact e6, by rw [o5 _ (by omega) (by omega), j4]; exact e7, O.ins (fun q hq => by rw [List.take_zero] at hq; cases hq) U, ?_⟩ (by rw [o5 _ (by omega) (by omega), m2])
        rw [p5, List.take_zero, List.nil_append]
        exact ⟨by rw [va_up_self], R2.cg (fun k h1 h2 => va_up_ne _ _ (by omega))⟩
      | succ k ih =>
        intro hk hc F R1 R2 U
        have Fh := F4.tr (F.mono (Z' := fun a => c ≤ a ∧ a ≤ c + 5) (fun a e => by omega))
        have xc : hI hc c = hI h c := by rw [F.I (by omega), m0]
        have hkl : k < l.length := by omega
        have tk : l.take (k + 1) = l.take k ++ [l[k]] := List.take_succ_eq_append_getElem hkl
        have dk : l.drop k = l[k] :: l.drop (k + 1) := List.drop_eq_getElem_cons hkl
        have hp : l[k] < n := O.mem.mp (List.getElem_mem _)
        have R1' := R1
        rw [tk, Rw_app, List.length_take, Nat.min_eq_left (by omega), Nat.zero_add] at R1'
        have rk : hI hc (c + 5) k = nI l[k] := R1'.2.1
        have x1 : hI hc (c + 1) = va_up (hI h (c + 1)) n (at_ n) := by rw [F.I (by omega), m1]
        have tm : hI hc (c + 1) l[k] = at_ l[k] := by rw [x1, va_up_ne _ _ (by omega)]; exact c5 _ hp
        refine bX2_add_68 ⟨fun cc => absurd cc (nI_nle (by omega) (by omega)), fun _ => ⟨Fh.L c1, c_get (by rw [Fh.K]; exact c1.s 4 rfl) (by rw [Fh.N]; omega) ⟨_, rfl, ?_⟩⟩⟩
        rw [Fh.N, n5, nI_pred, gv_nI (by omega) (by omega), rk]
        refine c_get (by rw [Fh.K]; exact c1.s 0 rfl) (by rw [Fh.N]; omega) ⟨_, rfl, ?_⟩
        rw [Fh.N, n1, gv_nI (by omega) (by omega), tm]
        refine ⟨fun cc => ⟨Fh.L c1, c_set (by rw [Fh.K]; exact c1.s 4 rfl) (by rw [Fh.N]; omega) ⟨rfl, FrA.L (Z := fun _ => True) (FrA.rf.row trivial) (Fh.L c1), fun h5 e5' => ?_⟩⟩, fun cc => ⟨Fh.L c1, c_get (by rw [Fh.K]; exact c1.s 4 rfl) (by rw [Fh.N]; omega) ⟨_, rfl, c_set (by rw [Fh.K]; exact c1.s 4 rfl) (by rw [Fh.N]; omega) ⟨rfl, ?_⟩⟩⟩⟩
        · rw [Fh.N, n5, xc, c4, sv_nI (by omega) (by omega), hI_rn _ _ (by omega), xc, c4, nI_1] at e5'
          have F5 : FrA (fun a => c ≤ a ∧ a ≤ c + 5) h h5 := by rw [e5']; exact (Fh.row (by omega)).fld (by omega)
          have o5 : ∀ a, a ≠ c → a ≠ c + 5 → hI h5 a = hI g4 a := fun a p q => by rw [e5', sI_r, hI_rn _ _ p, hI_rn _ _ q, F.I q]
          have p5 : hI h5 (c + 5) = va_up (hI hc (c + 5)) (k + 1) (nI n) := by rw [e5', sI_r, hI_rn _ _ (by omega), hI_rs]
          have low : ∀ q ∈ l.take (k + 1), at_ q ≤ at_ n := by
            intro z hz
            rw [tk] at hz
            rcases List.mem_append.mp hz with e | e
            · have pw := O.1
              rw [← List.take_append_drop k l] at pw
              have := (List.pairwise_append.mp pw).2.2 z e l[k] (by rw [dk]; exact List.mem_cons_self)
              exact Int32.le_trans this.le cc
            · rw [List.mem_singleton.mp e]; exact cc
          refine q h5 (l.take (k + 1) ++ n :: l.drop (k + 1)) F5 ⟨F5.L c1, by rw [F5.N, F5.N, F5.N, F5.N, F5.N]; exact ⟨n1, n2, n3, n4, n5⟩, ⟨by omega, c3'⟩, by rw [e5', sI_r, hI_rs, va_up_self], by rw [o5 _ (by omega) (by omega), m1]; exact e5, by rw [o5 _ (by omega) (by omega), m3]; exact e6, by rw [o5 _ (by omega) (by omega), j4]; exact e7, O.ins low U, ?_⟩ (by rw [o5 _ (by omega) (by omega), m2])
          rw [p5, Rw_app, List.length_take, Nat.min_eq_left (by omega), Nat.zero_add]
          refine ⟨R1.cg (fun i h1 h2 => va_up_ne _ _ (by rw [List.length_take, Nat.min_eq_left (by omega)] at h2; omega)), by rw [va_up_self], R2.cg (fun i h1 h2 => va_up_ne _ _ (by omega))⟩
        · rw [Fh.N, n5, gv_nI (by omega) (by omega), rk, sv_nI (by omega) (by omega), pk_m1]
          refine ih (by omega) _ (F.row rfl) ?_ ?_ (fun z hz => ?_)
          · rw [hI_rs]
            refine R1'.1.cg (fun i h1 h2 => va_up_ne _ _ (by rw [List.length_take, Nat.min_eq_left (by omega)] at h2; omega))
          · rw [hI_rs, dk]
            exact ⟨by rw [va_up_self], R2.cg (fun i h1 h2 => va_up_ne _ _ (by omega))⟩
          · rw [dk] at hz
            rcases List.mem_cons.mp hz with e | e
            · rw [e]; exact Int32.not_le.mp cc
            · exact U z e
    show Ev w (am_Z w) mX2_add (d + 1) 68 [(0, .ref c), (1, .int (at_ n)), (5, .int (hI g4 c 5))] [] g4 Q
    rw [m0, c4]
    refine loop n (Nat.le_refl _) g4 FrA.rf ?_ ?_ (fun z hz => ?_)
    · rw [List.take_of_length_le (by omega), m5]; exact c9
    · rw [List.drop_eq_nil_of_le (by omega)]; exact trivial
    · rw [List.drop_eq_nil_of_le (by omega)] at hz; cases hz
  · rw [c4, n5]
    exact nI_lt hn (by omega)
end XADD
