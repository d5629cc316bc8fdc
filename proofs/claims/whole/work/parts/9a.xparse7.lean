/-! The class's river while it is read: a person more. -/
theorem OrdL.cg {at_ at' : Nat → Int32} {n : Nat} {l : List Nat} (O : OrdL at_ n l) (e : eqR n at' at_) : OrdL at' n l := by
  have hm : ∀ p, p ∈ l → p < n := fun p hp => O.mem.mp hp
  refine ⟨?_, O.2⟩
  refine List.Pairwise.imp_of_mem ?_ O.1
  intro a b ha hb hab
  unfold lt2 at *
  rw [e a (hm a ha), e b (hm b hb)]
  exact hab
theorem CwX.cg {c Lc n : Nat} {l : List Nat} {at_ wt ct at' wt' ct' : Nat → Int32} {h : am_H} (C : CwX c Lc n l at_ wt ct h) (e1 : eqR n at' at_) (e2 : eqR n wt' wt) (e3 : eqR n ct' ct) : CwX c Lc n l at' wt' ct' h := by
  obtain ⟨a1, a2, a3, a4, a5, a6, a7, a8, a9⟩ := C
  exact ⟨a1, a2, a3, a4, fun p hp => (a5 p hp).trans (e1 p hp).symm, fun p hp => (a6 p hp).trans (e2 p hp).symm, fun p hp => (a7 p hp).trans (e3 p hp).symm, a8.cg e1, a9⟩
theorem eqR_up {n : Nat} {f : Nat → Int32} {v : Int32} : eqR n (va_up f n v) f := fun p hp => va_up_ne _ _ (by omega)
/-- a person more -/
def tPers (t : rT) (k sd at_ wt co : Int32) : rT := (tN t + 1, tRoom t, tTrip t, tBoats t, tShare t, tOf t, tCome t, tLaws t, va_up (tKd t) (tN t) k, va_up (tSd t) (tN t) sd, va_up (tAt t) (tN t) at_, va_up (tWt t) (tN t) wt, va_up (tCo t) (tN t) co, tLf t)
/-- a river of the class that is being read -/
def RvP (ρ : Nat) (h : am_H) (t : rT) (st : Nat → Nat) : Prop := am_L 6 ρ h ∧ (∃ l, CwX (ρ + 1) 16 (tN t) l (tAt t) (tWt t) (fun p => cof (tKd t p)) h) ∧ eqR (tN t) (hI h (ρ + 3)) (tSd t) ∧ (hN h (ρ + 7) = 16 ∧ eqR (tN t) (hI h (ρ + 7)) (tCo t)) ∧ (hN h (ρ + 8) = 16 ∧ eqR (tN t) (hI h (ρ + 8)) (fun p => tKd t p + 81)) ∧ (hN h (ρ + 9) = 8 ∧ ∀ k, k < chs (tKd t) (tN t) → hI h (ρ + 9) k = nI (chp (tKd t) (tN t) k)) ∧
  (hI h ρ 6 = nI (tRoom t) ∧ hI h ρ 7 = nI (tTrip t) ∧ hI h ρ 8 = nI (tBoats t) ∧ hI h ρ 9 = nI (tShare t) ∧ hI h ρ 10 = nI (tOf t) ∧ hI h ρ 11 = nI (tCome t) ∧ hI h ρ 12 = nI (chs (tKd t) (tN t)) ∧ hI h ρ 13 = nI (tLaws t)) ∧ hN h (ρ + 10) = 5 ∧ ∀ i, i ≤ tLaws t → hI h (ρ + 10) i = nI (st i)
theorem chp_up {kd : Nat → Int32} {n : Nat} {v : Int32} {k : Nat} (hk : k < chs kd n) : chp (va_up kd n v) (n + 1) k = chp kd n k := by
  obtain ⟨p, h1, h2, h3, h4⟩ := chp_of hk
  have e : eqR n (va_up kd n v) kd := eqR_up
  rw [h4, ← h3, ← chs_eq e p (by omega)]
  exact chp_at (by rw [e p h1]; exact h2) (by omega)
theorem chs_up {kd : Nat → Int32} {n : Nat} {v : Int32} : chs (va_up kd n v) (n + 1) = chs kd n + if v = 5 then 1 else 0 := by
  rw [chs, va_up_self, chs_eq eqR_up n (Nat.le_refl _)]
theorem eqR_s {n : Nat} {f g : Nat → Int32} {v : Int32} (e : eqR n f g) : eqR (n + 1) (va_up f n v) (va_up g n v) := fun p hp => by
  by_cases c : p = n
  · subst c; rw [va_up_self, va_up_self]
  · rw [va_up_ne _ _ c, va_up_ne _ _ c]; exact e p (by omega)
section XPARSE7
variable {w : am_W} {d : Nat} {h : am_H} {Q : Option Value → am_H → Prop} {ρ : Nat} {t : rT} {st : Nat → Nat}
theorem c_countOfX {k : Nat} (hk : k ≤ 5) (q : Q (some (.int (cof (nI k)))) h) : EvM w mX6_countOf d [.int (nI k + 81)] h Q := by
  have : ∀ k : Fin 6, (nI k.1 + 81 = 82 ↔ nI k.1 = 1) ∧ (nI k.1 + 81 = 83 ↔ nI k.1 = 2) ∧ (nI k.1 + 81 = 84 ↔ nI k.1 = 3) := by decide
  obtain ⟨e1, e2, e3⟩ := this ⟨k, by omega⟩
  unfold cof at q
  refine bX6_countOf_0 ⟨fun c => ?_, fun c => ⟨fun c2 => ?_, fun c2 => ⟨fun c3 => ?_, fun c3 => ?_⟩⟩⟩
  · rw [if_pos (e1.mp c)] at q; exact q
  · rw [if_neg (fun z => c (e1.mpr z)), if_pos (e2.mp c2)] at q; exact q
  · rw [if_neg (fun z => c (e1.mpr z)), if_neg (fun z => c2 (e2.mpr z)), if_pos (e3.mp c3)] at q; exact q
  · rw [if_neg (fun z => c (e1.mpr z)), if_neg (fun z => c2 (e2.mpr z)), if_neg (fun z => c3 (e3.mpr z))] at q; exact q
set_option maxHeartbeats 2000000 in
theorem c_addPerson {k : Nat} {sd at_ wt co : Int32} (R : RvP ρ h t st) (hk : k ≤ 5) (hN' : tN t < 16) (h8 : k = 5 → chs (tKd t) (tN t) < 8) (q : ∀ h', FrA (fun a => ρ ≤ a ∧ a ≤ ρ + 9) h h' → (∀ j, j ≠ 12 → hI h' ρ j = hI h ρ j) → RvP ρ h' (tPers t (nI k) sd at_ wt co) st → Q none h') : EvM w mX6_addPerson (d + 2) [.ref ρ, .int (nI k + 81), .int sd, .int at_, .int wt, .int co] h Q := by
  obtain ⟨a1, ⟨l, a2⟩, a3, ⟨a4, a4'⟩, ⟨a5, a5'⟩, ⟨a6, a6'⟩, ⟨f6, f7, f8, f9, f10, f11, f12, f13⟩, a8, a9⟩ := R
  have hsz : hI h (ρ + 1) 5 = nI (tN t) := a2.2.2.2.1
  have ch8 : chs (tKd t) (tN t) ≤ 16 := Nat.le_trans (chs_le _ _) (by omega)
  refine bX6_addPerson_0 ⟨a1, a2.1, c_set (a1.s 2 rfl) (by rw [a5]; decide) ⟨rfl, ?_⟩⟩
  rw [a5, hsz, sv_nI hN' (by decide)]
  generalize e1 : rI h (ρ + 8) (va_up (hI h (ρ + 8)) (tN t) (nI k + 81)) = h1
  have F1 : FrA (fun a => ρ ≤ a ∧ a ≤ ρ + 9) h h1 := by rw [← e1]; exact FrA.rf.row (by omega)
  have g1 : ∀ a, a ≠ ρ + 8 → hI h1 a = hI h a := fun a ha => by rw [← e1, hI_rn _ _ ha]
  refine ⟨F1.L a1, c_set ((F1.L a1).s 1 rfl) (by rw [F1.N, a4]; decide) ⟨rfl, ?_⟩⟩
  rw [F1.N (ρ + 7), a4, sv_nI hN' (by decide), g1 (ρ + 7) (by omega)]
  generalize e2 : rI h1 (ρ + 7) (va_up (hI h (ρ + 7)) (tN t) co) = h2
  have F2 : FrA (fun a => ρ ≤ a ∧ a ≤ ρ + 9) h h2 := by rw [← e2]; exact F1.row (by omega)
  have g2 : ∀ a, a ≠ ρ + 7 → hI h2 a = hI h1 a := fun a ha => by rw [← e2, hI_rn _ _ ha]
  refine ⟨F2.L a1, c_countOfX hk ⟨_, rfl, F2.L a2.1, ?_⟩⟩
  have C2 : CwX (ρ + 1) 16 (tN t) l (va_up (tAt t) (tN t) at_) (va_up (tWt t) (tN t) wt) (fun p => cof (va_up (tKd t) (tN t) (nI k) p)) h2 := by
    have F2' : FrA (fun a => a = ρ + 7 ∨ a = ρ + 8) h h2 := by rw [← e2, ← e1]; exact (FrA.rf.row (Or.inr rfl)).row (Or.inl rfl)
    exact (a2.fr F2' (fun a x1 x2 => by omega)).cg eqR_up eqR_up (fun p hp => by show cof (va_up (tKd t) (tN t) (nI k) p) = _; rw [va_up_ne _ _ (by omega)])
  have key := c_add (w := w) (d := d) (side := sd) (Q := fun r14 h13 => r14 = none ∧ ((nI k + 81 = 86 → am_L 6 ρ h13 ∧ EvM w mX9_set (d + 1) [.ref (ρ + 9), .int (hI h13 ρ 12), .int (nI (tN t))] h13 (fun r17 h16 => r17 = none ∧ am_L 6 ρ h16 ∧ ∀ h19 : am_H, h19 = sI h16 ρ 12 (hI h16 ρ 12 + 1) → Q none h19)) ∧ (¬ nI k + 81 = 86 → Q none h13))) C2 hN' (fun h3 l' F3 C3 s3 => ⟨rfl, ?_⟩)
  · rw [va_up_self, va_up_self] at key
    show EvM w mX2_add (d + 1) _ _ _
    have e : cof (va_up (tKd t) (tN t) (nI k) (tN t)) = cof (nI k) := by rw [va_up_self]
    rw [← e]
    exact key
  have F3' : FrA (fun a => ρ ≤ a ∧ a ≤ ρ + 9) h h3 := F2.tr (F3.mono (fun a ha => by omega))
  have g3 : ∀ a, (a < ρ + 1 ∨ ρ + 6 < a) → hI h3 a = hI h2 a := fun a ha => F3.I (fun z => by omega)
  have r0 : hI h3 ρ = hI h ρ := by rw [g3 _ (by omega), g2 _ (by omega), g1 _ (by omega)]
  have r7 : hI h3 (ρ + 7) = va_up (hI h (ρ + 7)) (tN t) co := by rw [g3 _ (by omega), ← e2, hI_rs]
  have r8 : hI h3 (ρ + 8) = va_up (hI h (ρ + 8)) (tN t) (nI k + 81) := by rw [g3 _ (by omega), g2 _ (by omega), ← e1, hI_rs]
  have r9 : hI h3 (ρ + 9) = hI h (ρ + 9) := by rw [g3 _ (by omega), g2 _ (by omega), g1 _ (by omega)]
  have r10 : hI h3 (ρ + 10) = hI h (ρ + 10) := by rw [g3 _ (by omega), g2 _ (by omega), g1 _ (by omega)]
  have s3 : hI h3 (ρ + 3) = va_up (hI h (ρ + 3)) (tN t) sd := by
    have : hI h2 (ρ + 3) = hI h (ρ + 3) := by rw [g2 _ (by omega), g1 _ (by omega)]
    rw [← this]; exact s3
  have e86 : nI k + 81 = 86 ↔ k = 5 := by
    rw [show (81 : Int32) = nI 81 by decide, show (86 : Int32) = nI 86 by decide, nI_add, nI_eq (by omega) (by decide)]
    omega
  have n5 : nI k = 5 ↔ k = 5 := by rw [show (5 : Int32) = nI 5 by decide, nI_eq (by omega) (by decide)]
  refine ⟨fun c => ⟨F3'.L a1, c_set ((F3'.L a1).s 3 rfl) (by rw [F3'.N, a6]; decide) ⟨rfl, ?_⟩⟩, fun c => q h3 F3' (fun j _ => by rw [r0]) ?_⟩
  · have c5 := e86.mp c
    have h8 := h8 c5
    rw [F3'.N (ρ + 9), a6, r0, f12, sv_nI h8 (by decide), r9]
    generalize e4 : rI h3 (ρ + 9) (va_up (hI h (ρ + 9)) (chs (tKd t) (tN t)) (nI (tN t))) = h4
    have F4 : FrA (fun a => ρ ≤ a ∧ a ≤ ρ + 9) h h4 := by rw [← e4]; exact F3'.row (by omega)
    have g4 : ∀ a, a ≠ ρ + 9 → hI h4 a = hI h3 a := fun a ha => by rw [← e4, hI_rn _ _ ha]
    refine ⟨F4.L a1, fun h5 e5 => ?_⟩
    have F5 : FrA (fun a => ρ ≤ a ∧ a ≤ ρ + 9) h h5 := by rw [e5]; exact F4.fld (by omega)
    have g5 : ∀ a, a ≠ ρ → hI h5 a = hI h4 a := fun a ha => by rw [e5, sI_r, hI_rn _ _ ha]
    have j5 : ∀ j, j ≠ 12 → hI h5 ρ j = hI h ρ j := fun j hj => by rw [e5, sI_f, if_neg hj, g4 _ (by omega), r0]
    refine q h5 F5 j5 ?_
    have C5 : CwX (ρ + 1) 16 (tN t + 1) l' (va_up (tAt t) (tN t) at_) (va_up (tWt t) (tN t) wt) (fun p => cof (va_up (tKd t) (tN t) (nI k) p)) h5 := by
      have F' : FrA (fun a => a = ρ + 9 ∨ a = ρ) h3 h5 := by rw [e5, ← e4]; exact (FrA.rf.row (Or.inl rfl)).fld (Or.inr rfl)
      exact C3.fr F' (fun a x1 x2 => by omega)
    refine ⟨F5.L a1, ⟨l', C5⟩, ?_, ⟨by rw [F5.N]; exact a4, ?_⟩, ⟨by rw [F5.N]; exact a5, ?_⟩, ⟨by rw [F5.N]; exact a6, fun i hi => ?_⟩, ⟨?_, ?_, ?_, ?_, ?_, ?_, ?_, ?_⟩, by rw [F5.N]; exact a8, fun i hi => ?_⟩
    · rw [g5 _ (by omega), g4 _ (by omega), s3]; exact eqR_s a3
    · rw [g5 _ (by omega), g4 _ (by omega), r7]; exact eqR_s a4'
    · rw [g5 _ (by omega), g4 _ (by omega), r8]
      intro p hp
      by_cases cp : p = tN t
      · rw [cp, va_up_self]; show _ = va_up (tKd t) (tN t) (nI k) (tN t) + 81; rw [va_up_self]
      · rw [va_up_ne _ _ cp]; show _ = va_up (tKd t) (tN t) (nI k) p + 81; rw [va_up_ne _ _ cp]
        exact a5' p (by have hp : p < tN t + 1 := hp; omega)
    · have hi : i < chs (va_up (tKd t) (tN t) (nI k)) (tN t + 1) := hi
      rw [chs_up, if_pos (n5.mpr c5)] at hi
      show _ = nI (chp (va_up (tKd t) (tN t) (nI k)) (tN t + 1) i)
      rw [g5 _ (by omega), ← e4, hI_rs]
      by_cases ci : i = chs (tKd t) (tN t)
      · rw [ci, va_up_self]
        have e : chs (va_up (tKd t) (tN t) (nI k)) (tN t) = chs (tKd t) (tN t) := chs_eq eqR_up _ (Nat.le_refl _)
        rw [← e, chp_at (p := tN t) (by rw [va_up_self]; exact n5.mpr c5) (by omega)]
      · rw [va_up_ne _ _ ci, chp_up (by omega)]
        exact a6' i (by omega)
    · rw [j5 6 (by decide)]; exact f6
    · rw [j5 7 (by decide)]; exact f7
    · rw [j5 8 (by decide)]; exact f8
    · rw [j5 9 (by decide)]; exact f9
    · rw [j5 10 (by decide)]; exact f10
    · rw [j5 11 (by decide)]; exact f11
    · show _ = nI (chs (va_up (tKd t) (tN t) (nI k)) (tN t + 1))
      rw [e5, sI_f, if_pos rfl, g4 _ (by omega), r0, f12, nI_1, chs_up, if_pos (n5.mpr c5)]
    · rw [j5 13 (by decide)]; exact f13
    · rw [g5 _ (by omega), g4 _ (by omega), r10]; exact a9 i hi
  · have c5 : ¬ k = 5 := fun z => c (e86.mpr z)
    refine ⟨F3'.L a1, ⟨l', C3⟩, ?_, ⟨by rw [F3'.N]; exact a4, ?_⟩, ⟨by rw [F3'.N]; exact a5, ?_⟩, ⟨by rw [F3'.N]; exact a6, fun i hi => ?_⟩, ⟨?_, ?_, ?_, ?_, ?_, ?_, ?_, ?_⟩, by rw [F3'.N]; exact a8, fun i hi => ?_⟩
    · rw [s3]; exact eqR_s a3
    · rw [r7]; exact eqR_s a4'
    · rw [r8]
      intro p hp
      by_cases cp : p = tN t
      · rw [cp, va_up_self]; show _ = va_up (tKd t) (tN t) (nI k) (tN t) + 81; rw [va_up_self]
      · rw [va_up_ne _ _ cp]; show _ = va_up (tKd t) (tN t) (nI k) p + 81; rw [va_up_ne _ _ cp]
        exact a5' p (by have hp : p < tN t + 1 := hp; omega)
    · have hi : i < chs (va_up (tKd t) (tN t) (nI k)) (tN t + 1) := hi
      rw [chs_up, if_neg (fun z => c5 (n5.mp z))] at hi
      show _ = nI (chp (va_up (tKd t) (tN t) (nI k)) (tN t + 1) i)
      rw [r9, chp_up (by omega)]
      exact a6' i (by omega)
    · rw [r0]; exact f6
    · rw [r0]; exact f7
    · rw [r0]; exact f8
    · rw [r0]; exact f9
    · rw [r0]; exact f10
    · rw [r0]; exact f11
    · show _ = nI (chs (va_up (tKd t) (tN t) (nI k)) (tN t + 1))
      rw [r0, f12, chs_up, if_neg (fun z => c5 (n5.mp z))]
      rfl
    · rw [r0]; exact f13
    · rw [r10]; exact a9 i hi
end XPARSE7
