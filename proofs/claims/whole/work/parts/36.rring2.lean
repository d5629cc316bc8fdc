theorem hI_ri (h : am_H) (a : Nat) (f : Nat → Int32) (b : Nat) : hI (rI h a f) b = if b = a then f else hI h b := by
  by_cases hb : b = a
  · subst hb; rw [hI_rs, if_pos rfl]
  · rw [hI_rn _ _ hb, if_neg hb]
theorem va_ui {α : Type} (f : Nat → α) (a : Nat) (v : α) (b : Nat) : va_up f a v b = if b = a then v else f b := rfl
/-- what a day changes of the model: rows 15 to 34 and a few fields -/
def FrD (m : Nat) (h h' : am_H) : Prop := hK h' = hK h ∧ hN h' = hN h ∧ hJ h' = hJ h ∧ hR h' = hR h ∧ hZ h' = hZ h ∧ hS h' = hS h ∧ (∀ a, a ≠ m → (a < m + 15 ∨ m + 34 < a) → hI h' a = hI h a) ∧ ∀ k, k ≠ 36 → k ≠ 44 → k ≠ 48 → k ≠ 49 → k ≠ 50 → hI h' m k = hI h m k
theorem FrD.rf {m : Nat} {h : am_H} : FrD m h h := ⟨rfl, rfl, rfl, rfl, rfl, rfl, fun _ _ _ => rfl, fun _ _ _ _ _ _ => rfl⟩
theorem FrD.tr {m : Nat} {h h1 h2 : am_H} (a : FrD m h h1) (b : FrD m h1 h2) : FrD m h h2 := by
  obtain ⟨a1, a2, a3, a4, a5, a6, a7, a8⟩ := a
  obtain ⟨b1, b2, b3, b4, b5, b6, b7, b8⟩ := b
  exact ⟨b1.trans a1, b2.trans a2, b3.trans a3, b4.trans a4, b5.trans a5, b6.trans a6, fun x h1 h2 => (b7 x h1 h2).trans (a7 x h1 h2), fun k k1 k2 k3 k4 k5 => (b8 k k1 k2 k3 k4 k5).trans (a8 k k1 k2 k3 k4 k5)⟩
theorem FrD.md {m : Nat} {h h' : am_H} (f : FrD m h h') (M : Md m h) : Md m h' := by
  obtain ⟨a1, a2, a3, a4, -⟩ := f
  refine ⟨⟨by rw [a1]; exact M.1.1, fun q hq => by rw [a1, a4]; exact M.1.2 q hq⟩, fun q hq => by rw [a2]; exact M.2 q hq⟩
/-- a row of a day is written -/
theorem FrD.row {m : Nat} {h h1 : am_H} {o : Nat} {f : Nat → Int32} (F : FrD m h h1) (h1' : 15 ≤ o) (h2 : o ≤ 34) : FrD m h (rI h1 (m + o) f) :=
  F.tr ⟨rfl, rfl, rfl, rfl, rfl, rfl, fun a _ ha => hI_rn _ _ (by omega), fun k _ _ _ _ _ => by rw [hI_rn _ _ (by omega)]⟩
theorem FrD.fld {m : Nat} {h h1 : am_H} {k : Nat} {v : Int32} (F : FrD m h h1) (hk : k = 36 ∨ k = 44 ∨ k = 48 ∨ k = 49 ∨ k = 50) : FrD m h (sI h1 m k v) :=
  F.tr ⟨rfl, rfl, rfl, rfl, rfl, rfl, fun a ha _ => by rw [sI_r, hI_rn _ _ ha], fun j _ _ _ _ _ => by rw [sI_r, hI_rs, va_up_ne]; omega⟩
/-- the people of a day, and its state, as the rows have them -/
abbrev rP : Type := Int32 × Int32 × (Nat → Int32) × (Nat → Int32) × (Nat → Int32) × (Nat → Int32) × (Nat → Int32)
def perS (h : am_H) (m : Nat) : rP := (hI h m 36, hI h m 50, hI h (m + 25), hI h (m + 26), hI h (m + 27), hI h (m + 28), hI h (m + 29))
abbrev rS : Type := (Nat → Int32) × (Nat → Int32) × Int32 × (Nat → Int32) × (Nat → Int32) × (Nat → Int32) × Int32 × Int32
def getS (h : am_H) (m : Nat) : rS := (hI h (m + 30), hI h (m + 31), hI h m 44, hI h (m + 32), hI h (m + 33), hI h (m + 34), hI h m 48, hI h m 49)
/-- a ringing -/
def ring1 (P : rP) (n room : Nat) (trip minute : Int32) (S : rS) : rS :=
  let L := lvs P.2.2.1 P.2.2.2.1 n 0 minute S.2.2.1 room S.1 S.2.1
  let R := lvs P.2.2.1 P.2.2.2.1 n 1 minute S.2.2.1 room L.1 L.2.1
  (R.1, R.2.1, S.2.2.1 + 1, va_up S.2.2.2.1 S.2.2.1.toNatClampNeg minute, va_up S.2.2.2.2.1 S.2.2.1.toNatClampNeg (nI L.2.2), va_up S.2.2.2.2.2.1 S.2.2.1.toNatClampNeg (nI R.2.2),
    if minute < S.2.2.2.2.2.2.1 then S.2.2.2.2.2.2.1 else minute + trip, if minute < S.2.2.2.2.2.2.1 then minute + trip else S.2.2.2.2.2.2.2)
section RRING2
variable {w : am_W} {d : Nat} {h : am_H} {Q : Option Value → am_H → Prop} {m : Nat}
set_option maxHeartbeats 4000000 in
theorem c_ringsOnce {minute trip : Int32} {n room k : Nat} (M : Md m h) (hn : hI h m 36 = nI n) (hn2 : n ≤ 360) (hr : hI h (m + 2) 0 = nI room) (hr2 : room < 2 ^ 30) (ht : hI h (m + 2) 1 = trip) (hk : hI h m 44 = nI k) (hk2 : k < 360)
    (q : ∀ h', FrD m h h' → perS h' m = perS h m → getS h' m = ring1 (perS h m) n room trip minute (getS h m) → Q none h') : EvM w mX10_ringsOnce (d + 3) [.ref m, .int minute] h Q := by
  refine bX10_ringsOnce_0 ⟨M.1, M.in 31 rfl hk hk2 (by decide), fun h3 e3 => ?_⟩
  subst e3
  refine c_leaves (n := n) (room := room) (h := sI h (m + 32) (hI h m 44).toNatClampNeg minute) M (by rw [sI_r, hI_rn _ _ (by omega)]; exact hn) hn2 (by rw [sI_r, hI_rn _ _ (by omega)]; exact hr) hr2 ⟨_, rfl, am_L.s M.1 32 rfl, M.in 32 rfl (by rw [sI_r, hI_rn _ _ (by omega)]; exact hk) hk2 (by decide), fun h9 e9 => ?_⟩
  rw [sI_r h, hI_rn h _ (show m + 25 ≠ m + 32 by omega), hI_rn h _ (show m + 26 ≠ m + 32 by omega), hI_rn h _ (show m ≠ m + 32 by omega), hI_rn h _ (show m + 30 ≠ m + 32 by omega), hI_rn h _ (show m + 31 ≠ m + 32 by omega)] at e9
  generalize hL : lvs (hI h (m + 25)) (hI h (m + 26)) n 0 minute (hI h m 44) room (hI h (m + 30)) (hI h (m + 31)) = L at e9
  have F9 : FrD m h h9 := by
    rw [e9, sI_r]
    exact (((FrD.rf.row (by decide) (by decide)).row (by decide) (by decide)).row (by decide) (by decide)).row (by decide) (by decide)
  have g9 : ∀ a, hI h9 a = if a = m + 33 then va_up (hI h (m + 33)) (hI h m 44).toNatClampNeg (nI L.2.2) else if a = m + 31 then L.2.1 else if a = m + 30 then L.1 else if a = m + 32 then va_up (hI h (m + 32)) (hI h m 44).toNatClampNeg minute else hI h a := by
    intro a
    rw [e9, sI_r]
    simp only [hI_ri]
    simp
  have m9 : hI h9 m = hI h m := by rw [g9]; simp
  have M9 : Md m h9 := F9.md M
  refine ⟨M9.1, c_leaves (n := n) (room := room) (h := h9) M9 (by rw [m9]; exact hn) hn2 (by rw [g9]; simpa using hr) hr2 ⟨_, rfl, am_L.s M9.1 33 rfl, M9.in 33 rfl (by rw [m9]; exact hk) hk2 (by decide), fun h16 e16 => ?_⟩⟩
  rw [m9, show hI h9 (m + 25) = hI h (m + 25) by rw [g9]; simp, show hI h9 (m + 26) = hI h (m + 26) by rw [g9]; simp, show hI h9 (m + 30) = L.1 by rw [g9]; simp, show hI h9 (m + 31) = L.2.1 by rw [g9]; simp] at e16
  generalize hRr : lvs (hI h (m + 25)) (hI h (m + 26)) n 1 minute (hI h m 44) room L.1 L.2.1 = R at e16
  have F16 : FrD m h h16 := by
    rw [e16, sI_r]
    exact (((F9.row (by decide) (by decide)).row (by decide) (by decide)).row (by decide) (by decide))
  have g16 : ∀ a, hI h16 a = if a = m + 34 then va_up (hI h (m + 34)) (hI h m 44).toNatClampNeg (nI R.2.2) else if a = m + 31 then R.2.1 else if a = m + 30 then R.1 else if a = m + 33 then va_up (hI h (m + 33)) (hI h m 44).toNatClampNeg (nI L.2.2) else if a = m + 32 then va_up (hI h (m + 32)) (hI h m 44).toNatClampNeg minute else hI h a := by
    intro a
    rw [e16, sI_r]
    simp only [hI_ri, g9]
    by_cases h1 : a = m + 34
    · simp [h1]
    · by_cases h2 : a = m + 31
      · simp [h2]
      · by_cases h3 : a = m + 30
        · simp [h3]
        · simp [h1, h2, h3]
  have m16 : hI h16 m = hI h m := by rw [g16]; simp
  have M16 : Md m h16 := F16.md M
  have hS : ring1 (perS h m) n room trip minute (getS h m) = (R.1, R.2.1, hI h m 44 + 1, va_up (hI h (m + 32)) (hI h m 44).toNatClampNeg minute, va_up (hI h (m + 33)) (hI h m 44).toNatClampNeg (nI L.2.2), va_up (hI h (m + 34)) (hI h m 44).toNatClampNeg (nI R.2.2), if minute < hI h m 48 then hI h m 48 else minute + trip, if minute < hI h m 48 then minute + trip else hI h m 49) := by
    unfold ring1 perS getS
    simp only [hL, hRr]
  refine ⟨M16.1, fun h18 e18 => ?_⟩
  have n18 : hI h18 m = va_up (hI h m) 44 (hI h m 44 + 1) := by rw [e18, sI_r, hI_rs, m16]
  have r18 : ∀ a, a ≠ m → hI h18 a = hI h16 a := fun a ha => by rw [e18, sI_r, hI_rn _ _ ha]
  have F18 : FrD m h h18 := by rw [e18]; exact F16.fld (by decide)
  have t18 : hI h18 (m + 2) 1 = trip := by rw [r18 _ (by omega), g16]; simpa using ht
  have b18 : hI h18 m 48 = hI h m 48 := by rw [n18, va_up_ne _ _ (by decide)]
  have V1 : (F18.md M).in 1 rfl (x := 1) (k := 1) (by decide) (by decide) (by decide) = (F18.md M).in 1 rfl (x := 1) (k := 1) (by decide) (by decide) (by decide) := rfl
  refine ⟨fun c => ⟨(F18.md M).in 1 rfl (k := 1) (by decide) (by decide) (by decide), fun h20 e20 => ?_⟩, fun c => ⟨(F18.md M).in 1 rfl (k := 1) (by decide) (by decide) (by decide), fun h20 e20 => ?_⟩⟩
  · rw [b18] at c
    rw [cl1, t18] at e20
    have n20 : hI h20 m = va_up (va_up (hI h m) 44 (hI h m 44 + 1)) 49 (minute + trip) := by rw [e20, sI_r, hI_rs, n18]
    have r20 : ∀ a, a ≠ m → hI h20 a = hI h16 a := fun a ha => by rw [e20, sI_r, hI_rn _ _ ha, r18 _ ha]
    refine q h20 (by rw [e20]; exact F18.fld (by decide)) ?_ ?_
    · unfold perS
      rw [n20]
      simp [r20, g16, va_ui]
    · rw [hS]
      unfold getS
      rw [n20]
      simp [r20, g16, va_ui, c]
  · rw [b18] at c
    rw [cl1, t18] at e20
    have n20 : hI h20 m = va_up (va_up (hI h m) 44 (hI h m 44 + 1)) 48 (minute + trip) := by rw [e20, sI_r, hI_rs, n18]
    have r20 : ∀ a, a ≠ m → hI h20 a = hI h16 a := fun a ha => by rw [e20, sI_r, hI_rn _ _ ha, r18 _ ha]
    refine q h20 (by rw [e20]; exact F18.fld (by decide)) ?_ ?_
    · unfold perS
      rw [n20]
      simp [r20, g16, va_ui]
    · rw [hS]
      unfold getS
      rw [n20]
      simp [r20, g16, va_ui, c]
end RRING2
