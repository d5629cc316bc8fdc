/-! The reference's laws: a fact, a code put. -/
def fcA (k : Int32) : Int32 := if k = 75 then 1 else if k = 76 then 2 else if k = 77 then 3 else if k = 78 then 4 else if k = 79 then 5 else if k = 80 then 6 else 0
section RLAW
variable {w : am_W} {d : Nat} {h : am_H} {Q : Option Value → am_H → Prop} {m n i : Nat} {s : Nat → Int32}
theorem c_factR (T : TM m h s n i) (q : Q (some (.int (fcA (tKD s n i)))) h) : EvM w mX10_fact d [.ref m] h Q := by
  obtain ⟨t1, t2, t3, t4, t5, t6, t7, t8, t9⟩ := T
  have e : ∀ (k : Nat) (u : Int64), k < 26 → wtb[k]? = some u → ((tkK s n (bgn s n i) = 1 ∧ tkW s n (bgn s n i) = u) ↔ tKD s n i = nI (64 + k)) := fun k u hk hu => tk_word hk hu
  have e1 : _ ↔ tKD s n i = 75 := e 11 240023 (by decide) rfl
  have e2 : _ ↔ tKD s n i = 76 := e 12 9748424 (by decide) rfl
  have e3 : _ ↔ tKD s n i = 77 := e 13 6624454 (by decide) rfl
  have e4 : _ ↔ tKD s n i = 78 := e 14 9813100 (by decide) rfl
  have e5 : _ ↔ tKD s n i = 79 := e 15 453701 (by decide) rfl
  have e6 : _ ↔ tKD s n i = 80 := e 16 191610176 (by decide) rfl
  unfold fcA at q
  refine bX10_fact_0 ⟨t1.1, ?_⟩
  rw [t7, t8]
  refine ⟨fun c => ⟨fun c1 => ?_, fun c1 => ⟨fun c2 => ?_, fun c2 => ⟨fun c3 => ?_, fun c3 => ⟨fun c4 => ?_, fun c4 => ⟨fun c5 => ?_, fun c5 => ⟨fun c6 => ?_, fun c6 => ?_⟩⟩⟩⟩⟩⟩, fun c => ?_⟩
  · rw [e1.mp ⟨c, c1⟩] at q; exact q
  · rw [e2.mp ⟨c, c2⟩] at q; exact q
  · rw [e3.mp ⟨c, c3⟩] at q; exact q
  · rw [e4.mp ⟨c, c4⟩] at q; exact q
  · rw [e5.mp ⟨c, c5⟩] at q; exact q
  · rw [e6.mp ⟨c, c6⟩] at q; exact q
  · rw [if_neg (fun z => c1 (e1.mpr z).2), if_neg (fun z => c2 (e2.mpr z).2), if_neg (fun z => c3 (e3.mpr z).2), if_neg (fun z => c4 (e4.mpr z).2), if_neg (fun z => c5 (e5.mpr z).2), if_neg (fun z => c6 (e6.mpr z).2)] at q; exact q
  · rw [if_neg (fun z => c (e1.mpr z).1), if_neg (fun z => c (e2.mpr z).1), if_neg (fun z => c (e3.mpr z).1), if_neg (fun z => c (e4.mpr z).1), if_neg (fun z => c (e5.mpr z).1), if_neg (fun z => c (e6.mpr z).1)] at q; exact q
theorem c_putsR {c : Int32} {k : Nat} (M : Md m h) (hk : hI h m 21 = nI k) (hk2 : k < 6000) (q : Q none (sI (sI h (m + 5) k c) m 21 (nI (k + 1)))) : EvM w mX10_puts d [.ref m, .int c] h Q := by
  refine bX10_puts_0 ⟨M.1, M.in 4 rfl hk hk2 (by decide), fun h3 e3 h4 e4 => ?_⟩
  rw [hk, nI_clamp (by omega)] at e3
  have e21 : hI h3 m 21 = nI k := by rw [e3, sI_r, hI_rn _ _ (by omega)]; exact hk
  rw [e21, nI_1, e3] at e4
  rw [e4]
  exact q
end RLAW
