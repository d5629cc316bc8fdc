/-! The class's parser: lines told once. -/
def tSet (j : Nat) (v v2 : Int32) (t : rT) : rT := (tN t, (if j = 0 then v.toNatClampNeg else tRoom t), (if j = 1 then v.toNatClampNeg else tTrip t), (if j = 2 then v.toNatClampNeg else tBoats t), (if j = 3 then v.toNatClampNeg else tShare t), (if j = 3 then v2.toNatClampNeg else tOf t), (if j = 4 then v.toNatClampNeg else tCome t), tLaws t, tKd t, tSd t, tAt t, tWt t, tCo t, tLf t)
def loJ (j : Nat) : Int32 := if j = 0 then 1 else if j = 1 then 0 else if j = 2 then 1 else 0
def hiJ (j : Nat) : Int32 := if j = 0 then 40 else if j = 1 then 99 else if j = 2 then 2 else 1000
def sidP (kd pc nv : Nat → Int32) (S : P2) : P2 := num kd pc nv (nv (S.2 + 1) + 1) 9 (xpt kd pc 71 (num kd pc nv 1 8 (stp S)))
def tolP (kd pc nv : Nat → Int32) (j tb : Nat) (S : P2) : P2 := if tb.testBit j then wrg pc 3 S else if j = 3 then sidP kd pc nv S else num kd pc nv (loJ j) (hiJ j) (stp S)
def tolD (nv : Nat → Int32) (j i : Nat) (D : LD) : LD := (D.1 ||| 2 ^ j, D.2.1, tSet j (nv (i + 1)) (nv (i + 3)) D.2.2.1, D.2.2.2)
theorem tb_bit {b j : Nat} (hb : b < 32) (hj : j < 5) : (nI b &&& ((1 : Int32) <<< ((nI (64 + j) - 64) &&& 31)) = 0 ↔ b.testBit j = false) ∧ nI b ||| ((1 : Int32) <<< ((nI (64 + j) - 64) &&& 31)) = nI (b ||| 2 ^ j) ∧ b ||| 2 ^ j < 32 := by
  have : ∀ (b : Fin 32) (j : Fin 5), (nI b.1 &&& ((1 : Int32) <<< ((nI (64 + j.1) - 64) &&& 31)) = 0 ↔ b.1.testBit j.1 = false) ∧ nI b.1 ||| ((1 : Int32) <<< ((nI (64 + j.1) - 64) &&& 31)) = nI (b.1 ||| 2 ^ j.1) ∧ b.1 ||| 2 ^ j.1 < 32 := by decide +kernel
  exact this ⟨b, hb⟩ ⟨j, hj⟩
theorem clampN {v : Int32} (hv : ¬ v < 0) : nI v.toNatClampNeg = v := by
  obtain ⟨j, hj, rfl⟩ := nI_of hv
  rw [nI_clamp hj]
theorem RvP.set {ρ : Nat} {h h1 : am_H} {t t' : rT} {st : Nat → Nat} (R : RvP ρ h t st) (F : FrA (fun a => a = ρ) h h1) (e : tN t' = tN t ∧ tLaws t' = tLaws t ∧ tKd t' = tKd t ∧ tSd t' = tSd t ∧ tAt t' = tAt t ∧ tWt t' = tWt t ∧ tCo t' = tCo t)
    (e6 : hI h1 ρ 6 = nI (tRoom t')) (e7 : hI h1 ρ 7 = nI (tTrip t')) (e8 : hI h1 ρ 8 = nI (tBoats t')) (e9 : hI h1 ρ 9 = nI (tShare t')) (e10 : hI h1 ρ 10 = nI (tOf t')) (e11 : hI h1 ρ 11 = nI (tCome t')) (e12 : hI h1 ρ 12 = hI h ρ 12) (e13 : hI h1 ρ 13 = hI h ρ 13) : RvP ρ h1 t' st := by
  obtain ⟨a1, ⟨l, a2⟩, a3, ⟨a4, a4'⟩, ⟨a5, a5'⟩, ⟨a6, a6'⟩, ⟨f6, f7, f8, f9, f10, f11, f12, f13⟩, a8, a9⟩ := R
  obtain ⟨t1, t2, t3, t4, t5, t6, t7⟩ := e
  unfold RvP
  rw [t1, t2, t3, t4, t5, t6, t7]
  have g : ∀ a, ρ < a → hI h1 a = hI h a := fun a ha => F.I (show ¬ a = ρ by omega)
  refine ⟨F.L a1, ⟨l, a2.fr F (fun a x1 x2 => by omega)⟩, by rw [g _ (by omega)]; exact a3, ⟨by rw [F.N]; exact a4, by rw [g _ (by omega)]; exact a4'⟩, ⟨by rw [F.N]; exact a5, by rw [g _ (by omega)]; exact a5'⟩, ⟨by rw [F.N]; exact a6, by rw [g _ (by omega)]; exact a6'⟩, ⟨e6, e7, e8, e9, e10, e11, e12.trans f12, e13.trans f13⟩, by rw [F.N]; exact a8, by rw [g _ (by omega)]; exact a9⟩
section XLINE
variable {w : am_W} {d : Nat} {h : am_H} {Q : Option Value → am_H → Prop} {x ρ n N : Nat} {s kd pc : Nat → Int32} {bg : Nat → Nat}
/-- a number of the river is set -/
theorem DL.set {h1 : am_H} {D : LD} {j : Nat} {v v2 : Int32} {tb : Nat} (A : DL x ρ n s bg h D) (hρ : x + 69 ≤ ρ) (F : FrA (fun a => a = ρ) h h1) (e7 : hI h (x + 17) 7 = hI h (x + 17) 7) (hv : ¬ v < 0) (hv2 : j = 3 → ¬ v2 < 0)
    (g : ∀ k, hI h1 ρ k = if k = 6 ∧ j = 0 then v else if k = 7 ∧ j = 1 then v else if k = 8 ∧ j = 2 then v else if k = 9 ∧ j = 3 then v else if k = 10 ∧ j = 3 then v2 else if k = 11 ∧ j = 4 then v else hI h ρ k) (htb : D.1 = tb) : DL x ρ n s bg h1 (tb, D.2.1, tSet j v v2 D.2.2.1, D.2.2.2) := by
  obtain ⟨a1, a2, a3, a4, ⟨a5, a6, a7⟩, a8⟩ := A
  obtain ⟨f6, f7, f8, f9, f10, f11, f12, f13⟩ := a4.2.2.2.2.2.2.1
  have i17 : hI h1 (x + 17) = hI h (x + 17) := F.I (show ¬ x + 17 = ρ by omega)
  refine ⟨by rw [i17, ← htb]; exact a1, by rw [← htb]; exact a2, fun i hi => by rw [F.2.2.1]; exact a3 i hi, a4.set F ⟨rfl, rfl, rfl, rfl, rfl, rfl, rfl⟩ ?_ ?_ ?_ ?_ ?_ ?_ ?_ ?_, ⟨by rw [i17]; exact a5, ?_, ?_⟩, a8⟩
  · rw [g 6]; show _ = nI (if j = 0 then _ else _)
    by_cases c : j = 0
    · rw [if_pos ⟨rfl, c⟩, if_pos c, clampN hv]
    · rw [if_neg (fun z => c z.2), if_neg c, f6]; simp
  · rw [g 7]; show _ = nI (if j = 1 then _ else _)
    by_cases c : j = 1
    · rw [if_neg (by omega), if_pos ⟨rfl, c⟩, if_pos c, clampN hv]
    · rw [if_neg (by omega), if_neg (by omega), if_neg c, f7]; simp
  · rw [g 8]; show _ = nI (if j = 2 then _ else _)
    by_cases c : j = 2
    · rw [if_neg (by omega), if_neg (by omega), if_pos ⟨rfl, c⟩, if_pos c, clampN hv]
    · rw [if_neg (by omega), if_neg (by omega), if_neg (by omega), if_neg c, f8]; simp
  · rw [g 9]; show _ = nI (if j = 3 then _ else _)
    by_cases c : j = 3
    · rw [if_neg (by omega), if_neg (by omega), if_neg (by omega), if_pos ⟨rfl, c⟩, if_pos c, clampN hv]
    · rw [if_neg (by omega), if_neg (by omega), if_neg (by omega), if_neg (by omega), if_neg c, f9]; simp
  · rw [g 10]; show _ = nI (if j = 3 then _ else _)
    by_cases c : j = 3
    · rw [if_neg (by omega), if_neg (by omega), if_neg (by omega), if_neg (by omega), if_pos ⟨rfl, c⟩, if_pos c, clampN (hv2 c)]
    · rw [if_neg (by omega), if_neg (by omega), if_neg (by omega), if_neg (by omega), if_neg (by omega), if_neg c, f10]; simp
  · rw [g 11]; show _ = nI (if j = 4 then _ else _)
    by_cases c : j = 4
    · rw [if_neg (by omega), if_neg (by omega), if_neg (by omega), if_neg (by omega), if_neg (by omega), if_pos ⟨rfl, c⟩, if_pos c, clampN hv]
    · rw [if_neg (by omega), if_neg (by omega), if_neg (by omega), if_neg (by omega), if_neg (by omega), if_neg (by omega), if_neg c, f11]
  · rw [g 12]; simp
  · rw [g 13]; simp
  · rw [F.I (show ¬ x + 19 = ρ by omega)]; exact a6
  · rw [g 14]; simp; exact a7
end XLINE
