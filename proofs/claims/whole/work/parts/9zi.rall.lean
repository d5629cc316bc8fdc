/-! The reference's lines, as lines of the document. -/
def FrB (m : Nat) (h h' : am_H) : Prop := hK h' = hK h ∧ hN h' = hN h ∧ hR h' = hR h ∧ hZ h' = hZ h ∧ hS h' = hS h ∧ (∀ a, a ≠ m → a ≠ m + 6 → hJ h' a = hJ h a) ∧ (∀ a, (a < m ∨ a = m + 1 ∨ a = m + 6 ∨ a = m + 12 ∨ m + 14 < a) → hI h' a = hI h a) ∧ (∀ k, k < 10 ∨ 20 ≤ k → hI h' (m + 2) k = hI h (m + 2) k) ∧ (∀ k, k < 4 ∨ 8 ≤ k → hI h' (m + 3) k = hI h (m + 3) k ∧ hI h' (m + 4) k = hI h (m + 4) k) ∧ (∀ k, k < 1000 ∨ 2000 ≤ k → hI h' (m + 5) k = hI h (m + 5) k) ∧ (∀ o, 7 ≤ o → o ≤ 11 → ∀ k, k < 16 ∨ 32 ≤ k → hI h' (m + o) k = hI h (m + o) k) ∧ hI h' m 1 = hI h m 1
/-- what the reference has read -/
def DM (m : Nat) (h : am_H) (s : Nat → Int32) (n : Nat) (D : LD) (i : Nat) : Prop := hI h m 22 = nI (ftb D.1) ∧ RvN m h D.2.2.1 ∧ RvM m h s n D.2.2.1 D.2.1 ∧ ∃ c, hI h m 21 = nI (1000 + c) ∧ c ≤ i ∧ ∀ l, l < tLaws D.2.2.1 → ∃ a e, hI h (m + 3) (4 + l) = nI (1000 + a) ∧ hI h (m + 4) (4 + l) = nI (1000 + e) ∧ a ≤ e ∧ e ≤ c ∧ CdOK (hI h (m + 5)) (1000 + a) (1000 + e) (tLf D.2.2.1 l)
section RALL
variable {w : am_W} {d : Nat} {h : am_H} {Q : Option Value → am_H → Prop} {m n i : Nat} {s : Nat → Int32} {D : LD}
theorem FrB.rf : FrB m h h := ⟨rfl, rfl, rfl, rfl, rfl, fun _ _ _ => rfl, fun _ _ => rfl, fun _ _ => rfl, fun _ _ => ⟨rfl, rfl⟩, fun _ _ => rfl, fun _ _ _ _ _ => rfl, rfl⟩
theorem FrB.tr {h1 h2 : am_H} (F : FrB m h h1) (G : FrB m h1 h2) : FrB m h h2 := by
  obtain ⟨a1, a2, a3, a4, a5, a6, a7, a8, a9, a10, a11, a12⟩ := F
  obtain ⟨b1, b2, b3, b4, b5, b6, b7, b8, b9, b10, b11, b12⟩ := G
  exact ⟨b1.trans a1, b2.trans a2, b3.trans a3, b4.trans a4, b5.trans a5, fun a x y => (b6 a x y).trans (a6 a x y), fun a x => (b7 a x).trans (a7 a x), fun k x => (b8 k x).trans (a8 k x), fun k x => ⟨(b9 k x).1.trans (a9 k x).1, (b9 k x).2.trans (a9 k x).2⟩, fun k x => (b10 k x).trans (a10 k x), fun o x y k z => (b11 o x y k z).trans (a11 o x y k z), b12.trans a12⟩
theorem FrO.b {h1 : am_H} (F : FrO m h h1) : FrB m h h1 := by
  obtain ⟨a1, a2, a3, a4, a5, a6, a7, a8, a9⟩ := F
  exact ⟨a1, a2, a3, a4, a5, fun a x _ => a6 a x, fun a x => a7 a (by omega) (by omega), a8, fun k _ => ⟨by rw [a7 _ (by omega) (by omega)], by rw [a7 _ (by omega) (by omega)]⟩, fun k _ => by rw [a7 _ (by omega) (by omega)], fun o _ _ k _ => by rw [a7 _ (by omega) (by omega)], a9 1 (by decide) (by decide) (by decide) (by decide) (by decide) (by decide) (by decide)⟩
theorem FrQ.b {h1 : am_H} (F : FrQ m h h1) : FrB m h h1 := by
  obtain ⟨a1, a2, a3, a4, a5, a6, a7, a8, a9, a10⟩ := F
  exact ⟨a1, a2, a3, a4, a5, a6, fun a x => a7 a (by omega) (by omega) (by omega), a8, fun k _ => ⟨by rw [a7 _ (by omega) (by omega) (by omega)], by rw [a7 _ (by omega) (by omega) (by omega)]⟩, fun k _ => by rw [a7 _ (by omega) (by omega) (by omega)], a9, a10 1 (by decide) (by decide) (by decide) (by decide) (by decide) (by decide)⟩
theorem FrL.b {h1 : am_H} (F : FrL m h h1) (e : ∀ k, k < 1000 ∨ 2000 ≤ k → hI h1 (m + 5) k = hI h (m + 5) k) : FrB m h h1 := by
  obtain ⟨a1, a2, a3, a4, a5, a6, a7, a8⟩ := F
  exact ⟨a1, a2, a3, a4, a5, fun a x _ => a6 a x, fun a x => a7 a (by omega) (by omega) (by omega) (by omega), fun k _ => by rw [a7 _ (by omega) (by omega) (by omega) (by omega)], fun k _ => ⟨by rw [a7 _ (by omega) (by omega) (by omega) (by omega)], by rw [a7 _ (by omega) (by omega) (by omega) (by omega)]⟩, e, fun o _ _ k _ => by rw [a7 _ (by omega) (by omega) (by omega) (by omega)], a8 1 (by decide) (by decide) (by decide) (by decide) (by decide) (by decide) (by decide)⟩
theorem FrR.b {h1 : am_H} (F : FrR m h h1) : FrB m h h1 := F.q.b
theorem FrB.lw {o k : Nat} {v : Int32} (ho : o = 3 ∨ o = 4) (hk : 4 ≤ k ∧ k < 8) : FrB m h (sI h (m + o) k v) := by
  refine ⟨rfl, rfl, rfl, rfl, rfl, fun _ _ _ => rfl, fun a x => by rw [sI_r, hI_rn _ _ (by omega)], fun j _ => by rw [sI_r, hI_rn _ _ (by omega)], fun j x => ?_, fun j _ => by rw [sI_r, hI_rn _ _ (by omega)], fun o' _ _ j _ => by rw [sI_r, hI_rn _ _ (by omega)], by rw [sI_r, hI_rn _ _ (by omega)]⟩
  rcases ho with e | e <;> subst e
  · exact ⟨by rw [sI_f, if_neg (by omega)], by rw [sI_r, hI_rn _ _ (by omega)]⟩
  · exact ⟨by rw [sI_r, hI_rn _ _ (by omega)], by rw [sI_f, if_neg (by omega)]⟩
theorem FrB.rv {k : Nat} {v : Int32} (hk : 10 ≤ k ∧ k < 20) : FrB m h (sI h (m + 2) k v) := (FrO.v hk).b
/-- the lines told once -/
theorem DM.tol {h1 : am_H} {j i' : Nat} (A : DM m h s n D i) (F : FrO m h h1) (h22 : hI h1 m 22 = nI (ftb (D.1 ||| 2 ^ j))) (R : RvN m h1 (tSet j (tNV s n (i + 1)) (tNV s n (i + 3)) D.2.2.1)) (hi : i ≤ i') : DM m h1 s n (tolD (tNV s n) j i D) i' := by
  obtain ⟨a1, a2, a3, c, a4, a5, a6⟩ := A
  obtain ⟨f1, f2, f3, f4, f5, f6, f7, f8, f9⟩ := F
  refine ⟨h22, R, ?_, c, ?_, by omega, fun l hl => ?_⟩
  · have R3 := a3.cg (h1 := h1) (fun o o1 o2 => f7 _ (by omega) (by omega)) (f6 _ (by omega))
    exact R3
  · rw [f9 21 (by decide) (by decide) (by decide) (by decide) (by decide) (by decide) (by decide)]; exact a4
  · rw [f7 _ (by omega) (by omega), f7 _ (by omega) (by omega), f7 _ (by omega) (by omega)]
    exact a6 l hl
theorem kdA_sub {v : Int32} {k : Nat} (hk : k ≤ 5) (h : v - 81 = nI k) : kdA v = v - 81 := by
  have hv : v = nI k + 81 := by rw [← h, Int32.sub_add_cancel]
  have : ∀ k : Fin 6, kdA (nI k.1 + 81) = nI k.1 + 81 - 81 := by decide
  rw [hv]
  exact this ⟨k, by omega⟩
theorem DM.per {h1 : am_H} {i' : Nat} (A : DM m h s n D i) (F : FrQ m h h1) (hk : kdA (tKD s n (i + 9)) = tKD s n (i + 9) - 81) (g7 : hI h1 (m + 7) = va_up (hI h (m + 7)) (16 + tN D.2.2.1) (tKD s n (i + 2) - 75)) (g8 : hI h1 (m + 8) = va_up (hI h (m + 8)) (16 + tN D.2.2.1) (tNV s n (i + 4))) (g9 : hI h1 (m + 9) = va_up (hI h (m + 9)) (16 + tN D.2.2.1) (tNV s n (i + 6))) (g10 : hI h1 (m + 10) = va_up (hI h (m + 10)) (16 + tN D.2.2.1) (tNV s n (i + 8))) (g11 : hI h1 (m + 11) = va_up (hI h (m + 11)) (16 + tN D.2.2.1) (kdA (tKD s n (i + 9)))) (g2 : hI h1 (m + 2) = va_up (hI h (m + 2)) 17 (nI (tN D.2.2.1 + 1))) (gj : hJ h1 (m + 6) = va_up (hJ h (m + 6)) (tN D.2.2.1) (kyR s n (i + 1))) (hi : i ≤ i') : DM m h1 s n (perD (tKD s n) (tNV s n) i D) i' := by
  obtain ⟨a1, ⟨r0, r1, r2, r3, r4, r5, r6, r7, r8, r9⟩, ⟨a3, a3'⟩, c, a4, a5, a6⟩ := A
  obtain ⟨f1, f2, f3, f4, f5, f6, f7, f8, f9, f10⟩ := F
  have e22 : hI h1 m 22 = hI h m 22 := f10 22 (by decide) (by decide) (by decide) (by decide) (by decide) (by decide)
  have e21 : hI h1 m 21 = hI h m 21 := f10 21 (by decide) (by decide) (by decide) (by decide) (by decide) (by decide)
  have n2 : ∀ k v, k ≠ 17 → hI h (m + 2) k = v → hI h1 (m + 2) k = v := fun k v hk e => by rw [g2, va_up_ne _ _ hk]; exact e
  refine ⟨by rw [e22]; exact a1, ⟨n2 10 _ (by decide) r0, n2 11 _ (by decide) r1, n2 12 _ (by decide) r2, n2 13 _ (by decide) r3, n2 14 _ (by decide) r4, n2 15 _ (by decide) r5, n2 16 _ (by decide) r6, ?_, n2 18 _ (by decide) r8, n2 19 _ (by decide) r9⟩, ⟨fun p hp => ?_, fun p hp => ?_⟩, c, by rw [e21]; exact a4, by omega, fun l hl => ?_⟩
  · rw [g2, va_up_self]; rfl
  · have hp : p < tN D.2.2.1 + 1 := hp
    rw [g7, g8, g9, g10, g11]
    show _ = va_up (tSd D.2.2.1) (tN D.2.2.1) (tKD s n (i + 2) - 75) p ∧ _ = va_up (tAt D.2.2.1) (tN D.2.2.1) (tNV s n (i + 4)) p ∧ _ = va_up (tWt D.2.2.1) (tN D.2.2.1) (tNV s n (i + 6)) p ∧ _ = va_up (tCo D.2.2.1) (tN D.2.2.1) (tNV s n (i + 8)) p ∧ _ = va_up (tKd D.2.2.1) (tN D.2.2.1) (tKD s n (i + 9) - 81) p
    by_cases x : p = tN D.2.2.1
    · rw [x, va_up_self, va_up_self, va_up_self, va_up_self, va_up_self, va_up_self, va_up_self, va_up_self, va_up_self, va_up_self]
      exact ⟨rfl, rfl, rfl, rfl, hk⟩
    · rw [va_up_ne _ _ (show 16 + p ≠ 16 + tN D.2.2.1 by omega), va_up_ne _ _ x, va_up_ne _ _ (show 16 + p ≠ 16 + tN D.2.2.1 by omega), va_up_ne _ _ x, va_up_ne _ _ (show 16 + p ≠ 16 + tN D.2.2.1 by omega), va_up_ne _ _ x, va_up_ne _ _ (show 16 + p ≠ 16 + tN D.2.2.1 by omega), va_up_ne _ _ x, va_up_ne _ _ (show 16 + p ≠ 16 + tN D.2.2.1 by omega), va_up_ne _ _ x]
      exact a3 p (by omega)
  · have hp : p < tN D.2.2.1 + 1 := hp
    rw [gj]
    show _ = tkW s n (bgn s n (if p = tN D.2.2.1 then i + 1 else D.2.1 p))
    by_cases x : p = tN D.2.2.1
    · rw [x, va_up_self, if_pos rfl]; rfl
    · rw [va_up_ne _ _ x, if_neg x]; exact a3' p (by omega)
  · rw [f7 _ (by omega) (by omega) (by omega), f7 _ (by omega) (by omega) (by omega), f7 _ (by omega) (by omega) (by omega)]
    exact a6 l hl
end RALL
