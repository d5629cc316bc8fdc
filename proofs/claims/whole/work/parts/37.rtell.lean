/-! The reference's joins, dawns, tellsAll. -/
def upto {α : Type} (N : Nat) (f g : Nat → α) : Nat → α := fun p => if p < N then f p else g p
theorem upto_0 {α : Type} (f g : Nat → α) : upto 0 f g = g := by funext p; simp [upto]
theorem upto_s {α : Type} (N : Nat) (f g : Nat → α) : va_up (upto N f g) N (f N) = upto (N + 1) f g := by
  funext p
  by_cases h : p = N
  · subst h; rw [va_up_self]; simp [upto]
  · rw [va_up_ne _ _ h]
    unfold upto
    by_cases h2 : p < N
    · rw [if_pos h2, if_pos (by omega)]
    · rw [if_neg h2, if_neg (by omega)]
/-- how many choosers there are ahead of a person -/
def chs (kd : Nat → Int32) : Nat → Nat
  | 0 => 0
  | p + 1 => chs kd p + if kd p = 5 then 1 else 0
theorem chs_le (kd : Nat → Int32) : ∀ p, chs kd p ≤ p := by
  intro p
  induction p with
  | zero => exact Nat.le_refl _
  | succ p ih => rw [chs]; split <;> omega
/-- the side of a person if the choosers choose -/
def sdf (kd sd : Nat → Int32) (x : Int32) (p : Nat) : Int32 := if kd p = 5 then (if x < 0 then sd p else (x >>> (nI (chs kd p) &&& 31)) &&& 1) else sd p
def cof (k : Int32) : Int32 := if k = 1 then 0 else if k = 2 then 1 else if k = 3 then 4 else 2
section RTELL
variable {w : am_W} {d : Nat} {h : am_H} {Q : Option Value → am_H → Prop} {m : Nat}
theorem c_countOf {x : Int32} (q : Q (some (.int (cof x))) h) : EvM w mX10_countOf d [.int x] h Q := by
  unfold cof at q
  refine bX10_countOf_0 ⟨fun c => ?_, fun c => ⟨fun c2 => ?_, fun c2 => ⟨fun c3 => ?_, fun c3 => ?_⟩⟩⟩
  · rw [if_pos c] at q; exact q
  · rw [if_neg c, if_pos c2] at q; exact q
  · rw [if_neg c, if_neg c2, if_pos c3] at q; exact q
  · rw [if_neg c, if_neg c2, if_neg c3] at q; exact q
set_option maxHeartbeats 4000000 in
theorem c_joins {x1 x2 x3 x4 x5 : Int32} {n : Nat} (M : Md m h) (hn : hI h m 36 = nI n) (hn2 : n < 360)
    (q : ∀ h', FrD m h h' → perS h' m = (nI (n + 1), hI h m 50, va_up (hI h (m + 25)) n x1, va_up (hI h (m + 26)) n x2, va_up (hI h (m + 27)) n x3, va_up (hI h (m + 28)) n x4, va_up (hI h (m + 29)) n x5) → getS h' m = (va_up (hI h (m + 30)) n (-1), va_up (hI h (m + 31)) n (-1), (getS h m).2.2) → Q none h') : EvM w mX10_joins d [.ref m, .int x1, .int x2, .int x3, .int x4, .int x5] h Q := by
  have hc : (hI h m 36).toNatClampNeg = n := by rw [hn]; exact nI_clamp (by omega)
  refine bX10_joins_0 ⟨M.1, M.in 24 rfl hn hn2 (by decide), fun h3 e3 => ?_⟩
  rw [hc] at e3
  have p3 : hI h3 m = hI h m := by rw [e3, sI_r, hI_rn _ _ (by omega)]
  have M3 : Md m h3 := by rw [e3]; exact M
  refine ⟨M3.in 25 rfl (by rw [p3]; exact hn) hn2 (by decide), fun h5 e5 => ?_⟩
  rw [p3, hc] at e5
  have p5 : hI h5 m = hI h m := by rw [e5, sI_r, hI_rn _ _ (by omega), p3]
  have M5 : Md m h5 := by rw [e5]; exact M3
  refine ⟨M5.in 26 rfl (by rw [p5]; exact hn) hn2 (by decide), fun h7 e7 => ?_⟩
  rw [p5, hc] at e7
  have p7 : hI h7 m = hI h m := by rw [e7, sI_r, hI_rn _ _ (by omega), p5]
  have M7 : Md m h7 := by rw [e7]; exact M5
  refine ⟨M7.in 27 rfl (by rw [p7]; exact hn) hn2 (by decide), fun h9 e9 => ?_⟩
  rw [p7, hc] at e9
  have p9 : hI h9 m = hI h m := by rw [e9, sI_r, hI_rn _ _ (by omega), p7]
  have M9 : Md m h9 := by rw [e9]; exact M7
  refine ⟨M9.in 28 rfl (by rw [p9]; exact hn) hn2 (by decide), fun h11 e11 => ?_⟩
  rw [p9, hc] at e11
  have p11 : hI h11 m = hI h m := by rw [e11, sI_r, hI_rn _ _ (by omega), p9]
  have M11 : Md m h11 := by rw [e11]; exact M9
  refine ⟨M11.in 29 rfl (by rw [p11]; exact hn) hn2 (by decide), fun h13 e13 => ?_⟩
  rw [p11, hc] at e13
  have p13 : hI h13 m = hI h m := by rw [e13, sI_r, hI_rn _ _ (by omega), p11]
  have M13 : Md m h13 := by rw [e13]; exact M11
  refine ⟨M13.in 30 rfl (by rw [p13]; exact hn) hn2 (by decide), fun h15 e15 h16 e16 => ?_⟩
  rw [p13, hc] at e15
  have p15 : hI h15 m = hI h m := by rw [e15, sI_r, hI_rn _ _ (by omega), p13]
  have g15 : ∀ a, hI h15 a = if a = m + 31 then va_up (hI h (m + 31)) n (-1) else if a = m + 30 then va_up (hI h (m + 30)) n (-1) else if a = m + 29 then va_up (hI h (m + 29)) n x5 else if a = m + 28 then va_up (hI h (m + 28)) n x4 else if a = m + 27 then va_up (hI h (m + 27)) n x3 else if a = m + 26 then va_up (hI h (m + 26)) n x2 else if a = m + 25 then va_up (hI h (m + 25)) n x1 else hI h a := by
    intro a
    rw [e15, e13, e11, e9, e7, e5, e3]
    simp only [sI_r, hI_ri]
    simp
  have n16 : hI h16 m = va_up (hI h m) 36 (nI (n + 1)) := by rw [e16, sI_r, hI_rs, p15, hn, ← nI_succ]
  have r16 : ∀ a, a ≠ m → hI h16 a = hI h15 a := fun a ha => by rw [e16, sI_r, hI_rn _ _ ha]
  refine q h16 ?_ ?_ ?_
  · rw [e16, e15, e13, e11, e9, e7, e5, e3]
    simp only [sI_r h, sI_r (rI _ _ _) (m + _)]
    refine FrD.fld ?_ (by decide)
    exact ((((((FrD.rf.row (by decide) (by decide)).row (by decide) (by decide)).row (by decide) (by decide)).row (by decide) (by decide)).row (by decide) (by decide)).row (by decide) (by decide)).row (by decide) (by decide)
  · unfold perS
    rw [n16]
    simp [r16, g15, va_ui]
  · unfold getS
    rw [n16]
    simp [r16, g15, va_ui]
theorem c_dawns (M : Md m h) (q : ∀ h', FrD m h h' → perS h' m = (0, hI h (m + 2) 8, (perS h m).2.2) → getS h' m = ((getS h m).1, (getS h m).2.1, 0, (getS h m).2.2.2.1, (getS h m).2.2.2.2.1, (getS h m).2.2.2.2.2.1, 0, if hI h (m + 2) 2 = 2 then 0 else 100000) → Q none h') : EvM w mX10_dawns d [.ref m] h Q := by
  refine bX10_dawns_0 ⟨M.1, fun h2 e2 h3 e3 h4 e4 => ?_⟩
  have M4 : Md m h4 := by rw [e4, e3, e2]; exact M
  have F4 : FrD m h h4 := by rw [e4, e3, e2]; exact ((FrD.rf.fld (by decide)).fld (by decide)).fld (by decide)
  have n4 : hI h4 m = va_up (va_up (va_up (hI h m) 36 0) 44 0) 48 0 := by rw [e4, e3, e2]; simp only [sI_r, hI_rs]
  have r4 : ∀ a, a ≠ m → hI h4 a = hI h a := fun a ha => by rw [e4, e3, e2]; simp only [sI_r]; rw [hI_rn _ _ ha, hI_rn _ _ ha, hI_rn _ _ ha]
  refine ⟨M4.in 1 rfl (k := 2) (by decide) (by decide) (by decide), fun c h6 e6 => ⟨?_, fun h8 e8 => ?_⟩, fun c h6 e6 => ⟨?_, fun h8 e8 => ?_⟩⟩
  · rw [e6]; exact M4.in 1 rfl (k := 8) (by decide) (by decide) (by decide)
  · rw [cl2, r4 _ (by omega)] at c
    have n8 : hI h8 m = va_up (va_up (va_up (va_up (va_up (hI h m) 36 0) 44 0) 48 0) 49 0) 50 (hI h (m + 2) 8) := by
      rw [e8, e6, cl8]; simp only [sI_r, hI_rs]; rw [hI_rn _ _ (show m + 2 ≠ m by omega), r4 (m + 2) (by omega), n4]
    have r8 : ∀ a, a ≠ m → hI h8 a = hI h a := fun a ha => by rw [e8, e6]; simp only [sI_r]; rw [hI_rn _ _ ha, hI_rn _ _ ha, r4 a ha]
    refine q h8 (by rw [e8, e6]; exact (F4.fld (by decide)).fld (by decide)) ?_ ?_
    · unfold perS; rw [n8]; simp [r8, va_ui]
    · unfold getS; rw [n8]; simp [r8, va_ui, c]
  · rw [e6]; exact M4.in 1 rfl (k := 8) (by decide) (by decide) (by decide)
  · rw [cl2, r4 _ (by omega)] at c
    have n8 : hI h8 m = va_up (va_up (va_up (va_up (va_up (hI h m) 36 0) 44 0) 48 0) 49 100000) 50 (hI h (m + 2) 8) := by
      rw [e8, e6, cl8]; simp only [sI_r, hI_rs]; rw [hI_rn _ _ (show m + 2 ≠ m by omega), r4 (m + 2) (by omega), n4]
    have r8 : ∀ a, a ≠ m → hI h8 a = hI h a := fun a ha => by rw [e8, e6]; simp only [sI_r]; rw [hI_rn _ _ ha, hI_rn _ _ ha, r4 a ha]
    refine q h8 (by rw [e8, e6]; exact (F4.fld (by decide)).fld (by decide)) ?_ ?_
    · unfold perS; rw [n8]; simp [r8, va_ui]
    · unfold getS; rw [n8]; simp [r8, va_ui, c]
end RTELL
