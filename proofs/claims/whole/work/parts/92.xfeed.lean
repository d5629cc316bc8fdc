/-! The class's append and feed. -/
def fd8 (z : Int64) (k0 : Nat) (T : Nat × (Nat → Int32)) : Nat → Nat × (Nat → Int32)
  | 0 => T
  | j + 1 => fd1 (fd8 z k0 T j) (sgnR z (nI (k0 + j)))
theorem fdK_8 (a b c : Int64) (T : Nat × (Nat → Int32)) : fdK a b c T 24 = fd8 c 16 (fd8 b 8 (fd8 a 0 T 8) 8) 8 := by
  have h1 : ∀ j, j ≤ 8 → fdK a b c T j = fd8 a 0 T j := by
    intro j
    induction j with
    | zero => intro _; rfl
    | succ j ih => intro hj; rw [fdK, fd8, ih (by omega), if_pos (by omega), Nat.zero_add]
  have h2 : ∀ j, j ≤ 8 → fdK a b c T (8 + j) = fd8 b 8 (fd8 a 0 T 8) j := by
    intro j
    induction j with
    | zero => intro _; exact h1 8 (Nat.le_refl _)
    | succ j ih => intro hj; rw [show 8 + (j + 1) = 8 + j + 1 by omega, fdK, fd8, ih (by omega), if_neg (by omega), if_pos (by omega)]
  have h3 : ∀ j, j ≤ 8 → fdK a b c T (16 + j) = fd8 c 16 (fd8 b 8 (fd8 a 0 T 8) 8) j := by
    intro j
    induction j with
    | zero => intro _; exact h2 8 (Nat.le_refl _)
    | succ j ih => intro hj; rw [show 16 + (j + 1) = 16 + j + 1 by omega, fdK, fd8, ih (by omega), if_neg (by omega), if_neg (by omega)]
  exact h3 8 (Nat.le_refl _)
theorem sft : ∀ k, k < 24 → (56 : Int32) - 8 * (nI k &&& 7) = nI (56 - 8 * (k % 8)) := by decide
theorem sft8 : ∀ j, j < 7 → nI (56 - 8 * j) + (-8) = nI (56 - 8 * (j + 1)) := by decide
theorem cs_sgn {z : Int64} {k0 j : Nat} (hk : k0 = 0 ∨ k0 = 8 ∨ k0 = 16) (hj : j < 8) : (Int64.toInt32 ((Int64.toUInt64 z >>> ((Int32.toInt64 (nI (56 - 8 * j))).toUInt64 &&& Int64.toUInt64 63)).toInt64)) &&& 255 = sgnR z (nI (k0 + j)) := by
  unfold sgnR
  rw [sft (k0 + j) (by omega), show (k0 + j) % 8 = j by omega, Int64.toInt32_and, show (255 : Int64).toInt32 = 255 by decide]
section XFEED
variable {w : am_W} {d : Nat} {h h1 : am_H} {Q : Option Value → am_H → Prop} {x y : Nat} {A : rA} {T : Nat × (Nat → Int32)}
set_option maxHeartbeats 4000000 in
theorem c_append {z : Int64} {k0 : Nat} {T8 : Nat × (Nat → Int32)} (hk : k0 = 0 ∨ k0 = 8 ∨ k0 = 16) (hT8 : fd8 z k0 T 8 = T8) (X : XL x h) (t : TpX x h T) (q : ∀ h', FrA (fun a => a = x + 13 ∨ a = x + 14) h h' → TpX x h' T8 → Q none h') : EvM w mX8_append d [.ref (x + 13), .long z] h Q := by
  have L8 := X.2.1
  have n14 : hN h (x + 13 + 1) = 1000 := X.2.2.1.1
  have loop : ∀ i j, j + i = 8 → ∀ hc, FrA (fun a => a = x + 13 ∨ a = x + 14) h hc → TpX x hc (fd8 z k0 T j) → ∀ s : Int32, (j < 8 → s = nI (56 - 8 * j)) → (j = 8 → s < 0) → Ev w (am_Z w) mX8_append d 3 [(0, .ref (x + 13)), (1, .long z), (3, .int s)] [] hc Q := by
    intro i
    induction i with
    | zero =>
      intro j hj hc F t s _ hs
      have hj : j = 8 := by omega
      subst hj
      rw [hT8] at t
      exact bX8_append_3 ⟨fun _ => q hc F t, fun c => absurd (hs rfl) c⟩
    | succ i ih =>
      intro j hj hc F t s hs _
      have hs := hs (by omega)
      subst hs
      have ih := ih (j + 1) (by omega)
      rw [fd8] at ih
      have eS := cs_sgn (z := z) (k0 := k0) (j := j) hk (by omega)
      have nx : ∀ hx, FrA (fun a => a = x + 13 ∨ a = x + 14) h hx → TpX x hx (fd1 (fd8 z k0 T j) (sgnR z (nI (k0 + j)))) → Ev w (am_Z w) mX8_append d 3 [(0, .ref (x + 13)), (1, .long z), (3, .int (nI (56 - 8 * j) + (-8)))] [] hx Q := by
        intro hx Fx tx
        refine ih hx Fx tx _ (fun hl => sft8 j (by omega)) (fun hl => ?_)
        have : j = 7 := by omega
        subst this
        decide
      obtain ⟨v, hv, ev⟩ := pk_andE (Int64.toInt32 ((Int64.toUInt64 z >>> ((Int32.toInt64 (nI (56 - 8 * j))).toUInt64 &&& Int64.toUInt64 63)).toInt64)) (m := 255) 8 (by decide)
      rw [eS] at ev
      generalize fd8 z k0 T j = U at t ih nx
      obtain ⟨t1, t2, t3⟩ := id t
      have u1 := t3.1
      have skip : ¬ (U.1 < 1000 ∧ (sgnR z (nI (k0 + j)) = 10 ∨ (32 ≤ sgnR z (nI (k0 + j)) ∧ sgnR z (nI (k0 + j)) ≤ 126))) → Ev w (am_Z w) mX8_append d 3 [(0, .ref (x + 13)), (1, .long z), (3, .int (nI (56 - 8 * j) + (-8)))] [] hc Q := by
        intro n
        refine nx hc F ?_
        rw [show fd1 U (sgnR z (nI (k0 + j))) = U from if_neg n]
        exact t
      have no43 : ¬ (sgnR z (nI (k0 + j)) = 10 ∨ (32 ≤ sgnR z (nI (k0 + j)) ∧ sgnR z (nI (k0 + j)) ≤ 126)) → Ev w (am_Z w) mX8_append d 43 [(0, .ref (x + 13)), (1, .long z), (3, .int (nI (56 - 8 * j))), (4, .int (sgnR z (nI (k0 + j))))] [.int 0] hc Q := fun n => bX8_append_43 ⟨fun _ => skip (fun hh => n hh.2), fun c => absurd rfl c⟩
      have yes43 : (sgnR z (nI (k0 + j)) = 10 ∨ (32 ≤ sgnR z (nI (k0 + j)) ∧ sgnR z (nI (k0 + j)) ≤ 126)) → Ev w (am_Z w) mX8_append d 43 [(0, .ref (x + 13)), (1, .long z), (3, .int (nI (56 - 8 * j))), (4, .int (sgnR z (nI (k0 + j))))] [.int 1] hc Q := by
        intro yy
        have n14c : hN hc (x + 13 + 1) = 1000 := by rw [F.N]; exact n14
        refine bX8_append_43 ⟨fun c => absurd c (by decide), fun _ => ⟨F.L L8, fun c => absurd c (by rw [t1]; exact nI_pos (by omega)), fun _ => ⟨fun c => skip (fun hh => ?_), fun c => ?_⟩⟩⟩
        · rw [n14c, t1, nI_leI (by decide) (by omega)] at c
          have := hh.1
          omega
        · rw [n14c, t1, nI_leI (by decide) (by omega)] at c
          rw [n14c, t1]
          refine ⟨vp_in_nI (by omega) (by decide), pk_nc _, fun h4 e4 h5 e5 => ?_⟩
          have ev2 : (Int32.toUInt32 (sgnR z (nI (k0 + j))) % 65536).toInt32 = sgnR z (nI (k0 + j)) := by
            rw [pk_char, ev]
            congr 1
            have : (nI v).toBitVec.toNat = v := pk_tn (by omega)
            rw [this]
            omega
          rw [nI_clamp (by omega), ev2] at e4
          have i4 : hI h4 (x + 13) = hI hc (x + 13) := by rw [e4, sI_r, hI_rn _ _ (by omega)]
          rw [i4, t1, nI_1] at e5
          have Y : U.1 < 1000 ∧ (sgnR z (nI (k0 + j)) = 10 ∨ (32 ≤ sgnR z (nI (k0 + j)) ∧ sgnR z (nI (k0 + j)) ≤ 126)) := ⟨by omega, yy⟩
          refine nx h5 (by rw [e5, e4]; exact (F.fld (Or.inr rfl)).fld (Or.inl rfl)) ?_
          have ok1 := fd1_ok (s := sgnR z (nI (k0 + j))) t3
          rw [show fd1 U (sgnR z (nI (k0 + j))) = (U.1 + 1, va_up U.2 U.1 (sgnR z (nI (k0 + j)))) from if_pos Y] at ok1 ⊢
          refine ⟨by rw [e5, sI_r, hI_rs, va_up_self], ?_, ok1⟩
          have i14 : hI h5 (x + 14) = va_up (hI hc (x + 14)) U.1 (sgnR z (nI (k0 + j))) := by
            rw [e5, sI_r, hI_rn _ _ (by omega), e4]
            exact hI_rs hc (x + 13 + 1) _
          rw [i14]
          exact t2.s rfl
      refine bX8_append_3 ⟨fun c => absurd c (nI_pos (by omega)), fun _ => ?_⟩
      rw [eS]
      refine ⟨fun c => yes43 (Or.inl c), fun c => ⟨fun c2 => no43 ?_, fun c2 => ⟨fun c3 => no43 ?_, fun c3 => yes43 (Or.inr ⟨Int32.not_lt.mp c2, Int32.not_lt.mp c3⟩)⟩⟩⟩
      · intro hh
        rcases hh with hh | hh
        · exact c hh
        · exact Int32.lt_irrefl (Int32.lt_of_lt_of_le c2 hh.1)
      · intro hh
        rcases hh with hh | hh
        · exact c hh
        · exact Int32.lt_irrefl (Int32.lt_of_lt_of_le c3 hh.2)
  exact bX8_append_0 (loop 8 0 (by decide) h FrA.rf t 56 (fun _ => by decide) (fun hh => by omega))
theorem RepX.tp (R : RepX x y h A) (F : FrA (fun a => a = x + 13 ∨ a = x + 14) h h1) (t : TpX x h1 T) : RepX x y h1 (T.1, T.2, A.2.2) := by
  have hy := R.1
  have Q1 : QF x h h1 := F.q (fun a ha => by omega)
  have sa : ∀ a, a ≠ x + 13 → a ≠ x + 14 → same h h1 a := fun a p q => F.same (by omega)
  obtain ⟨r1, r2, r3, r4, r5, r6⟩ := R
  have ee : ∀ a, x + 1 ≤ a → a ≤ x + 12 → same h h1 a := fun a p q => Q1.1 a (by omega)
  have e2 : ∀ a, y ≤ a → a < hZ h → same h h1 a := Q1.e2 hy
  have hz : hZ h ≤ hZ h1 := by rw [Q1.2.1]; exact Nat.le_refl _
  refine ⟨r1, r2.kn F.kn, t, r4.sm (sa _ (by omega) (by omega)) (sa _ (by omega) (by omega)) ee e2 hz, fun k hk => ?_, ?_⟩
  · obtain ⟨m1, m2⟩ := r5 k hk
    have sk := sa (x + 23 + 2 * k) (by omega) (by omega)
    exact ⟨by rw [sk.2.2.1]; exact m1, fun hl => (m2 hl).sm sk (sa _ (by omega) (by omega)) ee e2 hz⟩
  · obtain ⟨c1, c2, c3⟩ := r6
    obtain ⟨g1, g2⟩ := r4.2.2.1.same (h1 := h1) ee e2
    have i := fun a p q => (sa a p q).2.2.1
    refine ⟨?_, ?_, ?_⟩
    · rw [i x (by omega) (by omega), F.R]
      rcases c1 with c1 | ⟨c1, c1'⟩
      · exact Or.inl c1
      · exact Or.inr ⟨c1, c1'.sm (fun a p q => sa a (by omega) (by omega)) g1 g2 (g1 _ (by omega) (by omega))⟩
    · unfold ChX
      rw [i (x + 57) (by omega) (by omega), i (x + 58) (by omega) (by omega), i (x + 59) (by omega) (by omega), i (x + 60) (by omega) (by omega)]
      exact c2
    · unfold LtX
      rw [i (x + 62) (by omega) (by omega)]
      exact c3
theorem c_feedX {a b c : Int64} (R : RepX x y h A) (q : ∀ h', QF x h h' → RepX x y h' (oFeed A a b c) → Q (some (.int (nI (oFeed A a b c).1))) h') : EvM w mX9_feed (d + 1) [.ref x, .long a, .long b, .long c] h Q := by
  have X := R.2.1
  unfold oFeed at q
  rw [fdK_8] at q
  generalize e1 : fd8 a 0 (A.1, A.2.1) 8 = T1 at q
  generalize e2 : fd8 b 8 T1 8 = T2 at q
  generalize e3 : fd8 c 16 T2 8 = T3 at q
  refine bX9_feed_0 ⟨X.1, c_append (k0 := 0) (Or.inl rfl) e1 X R.2.2.1 (fun h2 F2 t2 => ⟨rfl, F2.L X.1, c_append (k0 := 8) (Or.inr (Or.inl rfl)) e2 (X.kn F2.kn) t2 (fun h5 F5 t5 => ⟨rfl, F5.L (F2.L X.1), c_append (k0 := 16) (Or.inr (Or.inr rfl)) e3 ((X.kn F2.kn).kn F5.kn) t5 (fun h8 F8 t8 => ⟨rfl, F8.L (F5.L (F2.L X.1)), (((X.kn F2.kn).kn F5.kn).kn F8.kn).2.1, ?_⟩)⟩)⟩)⟩
  rw [t8.1]
  have F := (F2.tr F5).tr F8
  exact q h8 (F.q (fun a ha => by omega)) (R.tp F t8)
end XFEED
