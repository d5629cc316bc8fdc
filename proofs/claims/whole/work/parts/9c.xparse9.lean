/-! The class's parser: the line of a person. -/
section XPARSE9
variable {w : am_W} {d : Nat} {h : am_H} {Q : Option Value → am_H → Prop} {x ρ n N : Nat} {s kd pc : Nat → Int32} {bg : Nat → Nat}
def perP (kd pc nv : Nat → Int32) (ky : Nat → Int64) (nm : Nat → Nat) (t ch : Nat) (S : P2) : P2 :=
  kwd kd pc ch (num kd pc nv 0 99 (xpt kd pc 74 (num kd pc nv 0 999 (xpt kd pc 73 (num kd pc nv 0 1439 (xpt kd pc 72 (sdw kd pc (nme kd pc ky nm t (stp S)))))))))
def perD (kd nv : Nat → Int32) (i : Nat) (D : LD) : LD := (D.1, (fun j => if j = tN D.2.2.1 then i + 1 else D.2.1 j), tPers D.2.2.1 (kd (i + 9) - 81) (kd (i + 2) - 75) (nv (i + 4)) (nv (i + 6)) (nv (i + 8)), D.2.2.2)
/-- a person's line went through -/
theorem perP_al (B : BgO N pc bg) {nv : Nat → Int32} {ky : Nat → Int64} {nm : Nat → Nat} {t ch : Nat} {S : P2} (hS : S.1 = 0 → S.2 ≤ N)
    (b1 : (stp S).1 = 0 → (stp S).2 ≤ N) (b2 : (nme kd pc ky nm t (stp S)).1 = 0 → (nme kd pc ky nm t (stp S)).2 ≤ N) (b3 : (sdw kd pc (nme kd pc ky nm t (stp S))).1 = 0 → (sdw kd pc (nme kd pc ky nm t (stp S))).2 ≤ N)
    (b4 : (xpt kd pc 72 (sdw kd pc (nme kd pc ky nm t (stp S)))).1 = 0 → (xpt kd pc 72 (sdw kd pc (nme kd pc ky nm t (stp S)))).2 ≤ N)
    (b5 : (num kd pc nv 0 1439 (xpt kd pc 72 (sdw kd pc (nme kd pc ky nm t (stp S))))).1 = 0 → (num kd pc nv 0 1439 (xpt kd pc 72 (sdw kd pc (nme kd pc ky nm t (stp S))))).2 ≤ N)
    (b6 : (xpt kd pc 73 (num kd pc nv 0 1439 (xpt kd pc 72 (sdw kd pc (nme kd pc ky nm t (stp S)))))).1 = 0 → (xpt kd pc 73 (num kd pc nv 0 1439 (xpt kd pc 72 (sdw kd pc (nme kd pc ky nm t (stp S)))))).2 ≤ N)
    (b7 : (num kd pc nv 0 999 (xpt kd pc 73 (num kd pc nv 0 1439 (xpt kd pc 72 (sdw kd pc (nme kd pc ky nm t (stp S))))))).1 = 0 → (num kd pc nv 0 999 (xpt kd pc 73 (num kd pc nv 0 1439 (xpt kd pc 72 (sdw kd pc (nme kd pc ky nm t (stp S))))))).2 ≤ N)
    (b8 : (xpt kd pc 74 (num kd pc nv 0 999 (xpt kd pc 73 (num kd pc nv 0 1439 (xpt kd pc 72 (sdw kd pc (nme kd pc ky nm t (stp S)))))))).1 = 0 → (xpt kd pc 74 (num kd pc nv 0 999 (xpt kd pc 73 (num kd pc nv 0 1439 (xpt kd pc 72 (sdw kd pc (nme kd pc ky nm t (stp S)))))))).2 ≤ N)
    (b9 : (num kd pc nv 0 99 (xpt kd pc 74 (num kd pc nv 0 999 (xpt kd pc 73 (num kd pc nv 0 1439 (xpt kd pc 72 (sdw kd pc (nme kd pc ky nm t (stp S))))))))).1 = 0 → (num kd pc nv 0 99 (xpt kd pc 74 (num kd pc nv 0 999 (xpt kd pc 73 (num kd pc nv 0 1439 (xpt kd pc 72 (sdw kd pc (nme kd pc ky nm t (stp S))))))))).2 ≤ N)
    (z : (perP kd pc nv ky nm t ch S).1 = 0) : S.1 = 0 ∧ perP kd pc nv ky nm t ch S = (0, S.2 + 10) ∧ (kd (S.2 + 2) = 75 ∨ kd (S.2 + 2) = 76) ∧ (¬ nv (S.2 + 4) < 0 ∧ nv (S.2 + 4) ≤ 1439) ∧ (¬ nv (S.2 + 6) < 0 ∧ nv (S.2 + 6) ≤ 999) ∧ (¬ nv (S.2 + 8) < 0 ∧ nv (S.2 + 8) ≤ 99) ∧ (¬ kd (S.2 + 9) < 81 ∧ kd (S.2 + 9) ≤ 86 ∧ (kd (S.2 + 9) = 86 → ch < 8)) ∧ (kd (S.2 + 1) = 3 ∧ dup ky nm (S.2 + 1) t = false) ∧ kd (S.2 + 3) = 72 ∧ kd (S.2 + 4) = 2 ∧ kd (S.2 + 5) = 73 ∧ kd (S.2 + 6) = 2 ∧ kd (S.2 + 7) = 74 ∧ kd (S.2 + 8) = 2 := by
  unfold perP at z ⊢
  obtain ⟨z9, k9, e9⟩ := kwd_al B b9 z
  rw [e9]
  obtain ⟨z8, k8, v8, v8', e8⟩ := num_al B b8 z9
  obtain ⟨z7, k7, e7⟩ := xpt_al B b7 z8
  obtain ⟨z6, k6, v6, v6', e6⟩ := num_al B b6 z7
  obtain ⟨z5, k5, e5⟩ := xpt_al B b5 z6
  obtain ⟨z4, k4, v4, v4', e4⟩ := num_al B b4 z5
  obtain ⟨z3, k3, e3⟩ := xpt_al B b3 z4
  obtain ⟨z2, k2, e2⟩ := sdw_al B b2 z3
  obtain ⟨z1, k1, e1⟩ := nme_al B b1 z2
  obtain ⟨z0, e0⟩ := stp_al z1
  rw [e0] at e1 k1
  have e1' : (nme kd pc ky nm t (stp S)) = (0, S.2 + 2) := by rw [e0]; exact e1
  rw [e1'] at e2 k2
  have e2' : (sdw kd pc (nme kd pc ky nm t (stp S))) = (0, S.2 + 3) := by rw [e1']; exact e2
  rw [e2'] at e3 k3
  have e3' : (xpt kd pc 72 (sdw kd pc (nme kd pc ky nm t (stp S)))) = (0, S.2 + 4) := by rw [e2']; exact e3
  rw [e3'] at e4 k4 v4 v4'
  have e4' : (num kd pc nv 0 1439 (xpt kd pc 72 (sdw kd pc (nme kd pc ky nm t (stp S))))) = (0, S.2 + 5) := by rw [e3']; exact e4
  rw [e4'] at e5 k5
  have e5' : (xpt kd pc 73 (num kd pc nv 0 1439 (xpt kd pc 72 (sdw kd pc (nme kd pc ky nm t (stp S)))))) = (0, S.2 + 6) := by rw [e4']; exact e5
  rw [e5'] at e6 k6 v6 v6'
  have e6' : (num kd pc nv 0 999 (xpt kd pc 73 (num kd pc nv 0 1439 (xpt kd pc 72 (sdw kd pc (nme kd pc ky nm t (stp S))))))) = (0, S.2 + 7) := by rw [e5']; exact e6
  rw [e6'] at e7 k7
  have e7' : (xpt kd pc 74 (num kd pc nv 0 999 (xpt kd pc 73 (num kd pc nv 0 1439 (xpt kd pc 72 (sdw kd pc (nme kd pc ky nm t (stp S)))))))) = (0, S.2 + 8) := by rw [e6']; exact e7
  rw [e7'] at e8 k8 v8 v8'
  have e8' : (num kd pc nv 0 99 (xpt kd pc 74 (num kd pc nv 0 999 (xpt kd pc 73 (num kd pc nv 0 1439 (xpt kd pc 72 (sdw kd pc (nme kd pc ky nm t (stp S))))))))) = (0, S.2 + 9) := by rw [e7']; exact e8
  rw [e8'] at k9 ⊢
  exact ⟨z0, rfl, k2, ⟨v4, v4'⟩, ⟨v6, v6'⟩, ⟨v8, v8'⟩, k9, k1, k3, k4, k5, k6, k7, k8⟩
end XPARSE9
