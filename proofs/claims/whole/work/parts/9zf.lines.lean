/-! What a line makes of what has been read: it stays within the document's bounds. -/
theorem runR_row {V row row' : Nat → Int32} : ∀ (k p : Nat) (st : List Int32), (∀ q, p ≤ q → q < p + k → row' q = row q) → runR V row' k p st = runR V row k p st := by
  intro k
  induction k with
  | zero => intro p st _; rfl
  | succ k ih =>
    intro p st h
    rw [runR, runR, h p (Nat.le_refl _) (by omega)]
    cases stepR V (row p) st with
    | none => rfl
    | some s' => exact ih (p + 1) s' (fun q q1 q2 => h q (by omega) (by omega))
theorem RpnOK.cg {row row' : Nat → Int32} {a b : Nat} {lf : (Nat → Int32) → Int32} (R : RpnOK row a b lf) (h : ∀ q, a ≤ q → q < b → row' q = row q) : RpnOK row' a b lf := fun V => by
  rw [runR_row (b - a) a [] (fun q q1 q2 => h q q1 (by omega))]
  exact R V
def LwP (D : LD) : Prop := D.2.2.2.1 (tLaws D.2.2.1) = D.2.2.2.2.1 ∧ (∀ l, l < tLaws D.2.2.1 → D.2.2.2.1 l ≤ D.2.2.2.1 (l + 1) ∧ D.2.2.2.1 (l + 1) ≤ D.2.2.2.2.1 ∧ RpnOK D.2.2.2.2.2.1 (D.2.2.2.1 l) (D.2.2.2.1 (l + 1)) (tLf D.2.2.1 l)) ∧ ∃ t, t < 16 ∧ D.2.2.2.2.2.2 = nI t ∧ ∀ l, l < tLaws D.2.2.1 → t.testBit l = false → ∀ V V' : Nat → Int32, (∀ i, 1 ≤ i → i ≤ 4 → V i = V' i) → tLf D.2.2.1 l V = tLf D.2.2.1 l V'
def VD (kd : Nat → Int32) (D : LD) (i : Nat) : Prop := D.1 < 32 ∧ VT D.2.2.1 ∧ (∀ j, j < tN D.2.2.1 → kd (D.2.1 j) = 3) ∧ LwP D ∧ D.2.2.2.2.1 ≤ i
section LINES
variable {kd pc nv : Nat → Int32} {ky : Nat → Int64} {K N i : Nat} {bg : Nat → Nat} {S : P2} {D : LD}
theorem stp_le : (stp S).2 ≤ S.2 + 1 := by unfold stp; split <;> simp
theorem wrg_le {k : Int32} : (wrg pc k S).2 ≤ S.2 + 1 := by unfold wrg; split <;> simp
theorem xpt_le {k : Int32} : (xpt kd pc k S).2 ≤ S.2 + 1 := by
  unfold xpt
  split
  · split <;> simp
  · simp
theorem num_le {lo hi : Int32} : (num kd pc nv lo hi S).2 ≤ S.2 + 1 := by
  unfold num
  repeat' split
  all_goals first | exact Nat.le_refl _ | exact Nat.le_succ _
theorem sdw_le : (sdw kd pc S).2 ≤ S.2 + 1 := by
  unfold sdw
  repeat' split
  all_goals first | exact Nat.le_refl _ | exact Nat.le_succ _
theorem kwd_le {ch : Nat} : (kwd kd pc ch S).2 ≤ S.2 + 1 := by
  unfold kwd
  repeat' split
  all_goals first | exact Nat.le_refl _ | exact Nat.le_succ _
theorem nme_le {nm : Nat → Nat} {t : Nat} : (nme kd pc ky nm t S).2 ≤ S.2 + 1 := by
  unfold nme
  repeat' split
  all_goals first | exact Nat.le_refl _ | exact Nat.le_succ _
theorem range_nI {v : Int32} {lo hi : Nat} (hlo : lo < 2 ^ 31) (hhi : hi < 2 ^ 31) (h1 : ¬ v < nI lo) (h2 : v ≤ nI hi) : ∃ k, lo ≤ k ∧ k ≤ hi ∧ v = nI k ∧ v.toNatClampNeg = k := by
  have h0 : ¬ v < 0 := fun z => h1 (Int32.lt_of_lt_of_le z (by rw [← nI_0, nI_leI (by decide) hlo]; exact Nat.zero_le _))
  obtain ⟨k, hk, rfl⟩ := nI_of h0
  rw [nI_ltI hk hlo] at h1
  rw [nI_leI hk hhi] at h2
  exact ⟨k, by omega, h2, rfl, nI_clamp hk⟩
end LINES
