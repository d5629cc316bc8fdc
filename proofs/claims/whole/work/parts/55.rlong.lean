/-! Chances and orders: the reference's gcd, firsts, chance, likely, mean, came. -/
def ctF : Nat → Nat
  | 0 => 1
  | 1 => 1
  | j + 2 => ctF (j + 1) * (2 * (2 * (j + 1) - 1)) / (j + 2)
def chN (s o k : Nat) : Nat := 2 * ctF k * (s * (o - s)) ^ k * o ^ (16 - 2 * k)
def abv (s o : Nat) : Nat → Nat
  | 0 => 0
  | k + 1 => abv s o k + chN s o (k + 1)
def abw (s o : Nat) : Nat → Nat
  | 0 => 0
  | k + 1 => abw s o k + 2 * (k + 1) * chN s o (k + 1)
theorem ctF_b : ∀ j, j < 17 → ctF j * 64 < 2 ^ 60 := by decide
theorem abv_b : ∀ o, o < 10 → ∀ s, s < o → abv s o 8 < 2 ^ 60 ∧ abw s o 8 < 2 ^ 63 ∧ o ^ 16 < 2 ^ 63 := by decide
theorem abv_mono (s o : Nat) {k : Nat} : ∀ {n : Nat}, k ≤ n → abv s o k ≤ abv s o n ∧ abw s o k ≤ abw s o n := by
  intro n
  induction n with
  | zero => intro h; have : k = 0 := by omega
            subst this; exact ⟨Nat.le_refl _, Nat.le_refl _⟩
  | succ n ih =>
    intro h
    by_cases c : k = n + 1
    · subst c; exact ⟨Nat.le_refl _, Nat.le_refl _⟩
    · have := ih (by omega)
      rw [abv, abw]
      exact ⟨Nat.le_trans this.1 (Nat.le_add_right _ _), Nat.le_trans this.2 (Nat.le_add_right _ _)⟩
theorem abv_pos {s o k : Nat} (hs : 0 < s) (ho : s < o) (hk : 0 < k) : 0 < abv s o k := by
  obtain ⟨k, rfl⟩ : ∃ j, k = j + 1 := ⟨k - 1, by omega⟩
  have h1 := (abv_mono s o (k := 1) (n := k + 1) (by omega)).1
  have h2 : 0 < abv s o 1 := by
    rw [abv, abv, chN]
    have : 0 < s * (o - s) := Nat.mul_pos hs (by omega)
    have a : 0 < (s * (o - s)) ^ (0 + 1) := Nat.pow_pos this
    have b : 0 < o ^ (16 - 2 * (0 + 1)) := Nat.pow_pos (by omega)
    have c : 0 < 2 * ctF (0 + 1) := by decide
    rw [Nat.zero_add]
    exact Nat.mul_pos (Nat.mul_pos c a) b
  omega
def aLikely (t : rT) (n what : Int32) : Int64 := if 1 ≤ n ∧ n ≤ 16 then (if 0 ≤ what ∧ what ≤ 1 then lN ((if what = 0 then abv (tShare t) (tOf t) (n.toNatClampNeg / 2) else tOf t ^ 16) / Nat.gcd (abv (tShare t) (tOf t) (n.toNatClampNeg / 2)) (tOf t ^ 16)) else -1) else -1
def aMean (t : rT) (n what : Int32) : Int64 := if 2 ≤ n ∧ n ≤ 16 then (if 0 ≤ what ∧ what ≤ 1 then lN ((if what = 0 then abw (tShare t) (tOf t) (n.toNatClampNeg / 2) else abv (tShare t) (tOf t) (n.toNatClampNeg / 2)) / Nat.gcd (abw (tShare t) (tOf t) (n.toNatClampNeg / 2)) (abv (tShare t) (tOf t) (n.toNatClampNeg / 2))) else -1) else -1
def aCame (k : Int32) : Int64 := if 1 ≤ k ∧ k ≤ 15 then lN (2 * ctF k.toNatClampNeg) else -1
theorem lN0 : (0 : Int64) = lN 0 := by decide
theorem lN_z {b : Nat} (hb : b < 2 ^ 63) : lN b = 0 ↔ b = 0 := by rw [lN0]; exact pk_lEQ hb (by decide)
theorem gcd_st (a b : Nat) : Nat.gcd a b = Nat.gcd b (a % b) := by
  rw [Nat.gcd_comm a b, Nat.gcd_rec, Nat.gcd_comm]
section RLONG
variable {w : am_W} {d : Nat} {h : am_H} {Q : Option Value → am_H → Prop} {m : Nat} {A : rA}
theorem c_gcd {a b : Nat} (ha : a < 2 ^ 63) (hb : b < 2 ^ 63) (q : Q (some (.long (lN (Nat.gcd a b)))) h) : EvM w mX10_gcd d [.long (lN a), .long (lN b)] h Q := by
  refine bX10_gcd_0 ?_
  have loop : ∀ f b a, b ≤ f → a < 2 ^ 63 → b < 2 ^ 63 → Q (some (.long (lN (Nat.gcd a b)))) h → Ev w (am_Z w) mX10_gcd d 6 [(4, .long (lN a)), (6, .long (lN b))] [] h Q := by
    intro f
    induction f with
    | zero =>
      intro b a hf ha hb q
      have : b = 0 := Nat.le_zero.mp hf
      subst this
      rw [Nat.gcd_zero_right] at q
      exact bX10_gcd_6 ⟨fun _ => q, fun c => absurd (by decide) c⟩
    | succ f ih =>
      intro b a hf ha hb q
      refine bX10_gcd_6 ⟨fun c => ?_, fun c => ⟨c, ?_⟩⟩
      · have : b = 0 := (lN_z hb).mp c
        subst this
        rw [Nat.gcd_zero_right] at q
        exact q
      · have h0 : 0 < b := Nat.pos_of_ne_zero (fun e => c ((lN_z hb).mpr e))
        rw [pk_lRem ha h0 hb]
        have := Nat.mod_lt a h0
        refine ih (a % b) b (by omega) hb (by omega) ?_
        rw [← gcd_st]
        exact q
  exact loop b b a (Nat.le_refl _) ha hb q
theorem c_firsts {k : Nat} (h1 : 1 ≤ k) (h2 : k ≤ 16) (q : Q (some (.long (lN (2 * ctF k)))) h) : EvM w mX10_firsts d [.int (nI k)] h Q := by
  refine bX10_firsts_0 ?_
  have loop : ∀ i j, 1 ≤ j → j + i = k → Ev w (am_Z w) mX10_firsts d 4 [(0, .int (nI k)), (1, .long (lN (ctF j))), (3, .int (nI j))] [] h Q := by
    intro i
    induction i with
    | zero =>
      intro j hj hk
      have hk : j = k := by omega
      subst hk
      refine bX10_firsts_4 ⟨fun _ => ?_, fun c => absurd (Int32.le_refl _) c⟩
      rw [show (2 : Int64) = lN 2 by decide, lN_mul]
      exact q
    | succ i ih =>
      intro j hj hk
      obtain ⟨j, rfl⟩ : ∃ x, j = x + 1 := ⟨j - 1, by omega⟩
      refine bX10_firsts_4 ⟨fun c => absurd c (by rw [nI_leI (by omega) (by omega)]; omega), fun _ => ?_⟩
      have b := ctF_b (j + 1) (by omega)
      rw [nI_1, show (2 : Int32) * nI (j + 1) - 1 = nI (2 * (j + 1) - 1) by
        rw [show (2 : Int32) = nI 2 by decide, pk_mul, show (1 : Int32) = nI 1 by decide, pk_sub (by omega)], nI_l (by omega), nI_l (by omega), show (2 : Int64) = lN 2 by decide, lN_mul, lN_mul]
      have bb : ctF (j + 1) * (2 * (2 * (j + 1) - 1)) < 2 ^ 63 := by
        have : ctF (j + 1) * (2 * (2 * (j + 1) - 1)) ≤ ctF (j + 1) * 64 := Nat.mul_le_mul_left _ (by omega)
        omega
      rw [pk_lDiv bb (by omega) (by omega)]
      refine ⟨fun c => absurd ((lN_z (by omega)).mp c) (by omega), ?_⟩
      exact ih (j + 2) (by omega) (by omega)
  exact loop (k - 1) 1 (by omega) (by omega)
theorem c_came {k : Int32} (R : RepM m h A) (q : ∀ h', FrZ m h h' → Q (some (.long (aCame k))) h') : EvM w mX10_came (d + 1) [.ref m, .int k] h Q := by
  refine bX10_came_0 ⟨R.1.1, fun h2 e2 => ?_⟩
  have F2 : FrZ m h h2 := by rw [e2]; exact FrZ.rf.fld
  have q := q h2 F2
  unfold aCame at q
  refine c_within ⟨_, rfl, fun c => ?_, fun c => ?_⟩
  · rw [if_neg (b01_z c)] at q; exact q
  · have c := b01_n c
    rw [if_pos c] at q
    obtain ⟨j, hj, rfl⟩ := nI_of (fun x => absurd (Int32.lt_of_lt_of_le x (show (0 : Int32) ≤ 1 by decide)) (Int32.not_lt.mpr c.1))
    rw [show (1 : Int32) = nI 1 by decide, show (15 : Int32) = nI 15 by decide, nI_leI (by decide) hj, nI_leI hj (by decide)] at c
    rw [nI_clamp hj] at q
    exact c_firsts c.1 (by omega) ⟨_, rfl, q⟩
theorem c_chance {k : Nat} (R : RepM m h A) (h1 : 1 ≤ k) (h2 : k ≤ 8) (q : Q (some (.long (lN (chN (tShare A.2.2.1.1) (tOf A.2.2.1.1) k)))) h) : EvM w mX10_chance (d + 1) [.ref m, .int (nI k)] h Q := by
  obtain ⟨V, ⟨a0, a1, a2, a3, a4, a5, a6, a7, a8, a9⟩, _⟩ := R.2.2.2.2.2.1
  simp only [Nat.mul_zero, Nat.zero_add] at a3 a4
  obtain ⟨v1, v2, v3⟩ := V.1.2.2.2.2.1
  have M := R.1
  generalize tShare A.2.2.1.1 = s at *
  generalize tOf A.2.2.1.1 = o at *
  refine bX10_chance_0 (c_firsts h1 (by omega) ⟨_, rfl, ?_⟩)
  have loop2 : ∀ i j, j + i = 16 → ∀ X, Q (some (.long (lN (X * o ^ i)))) h → Ev w (am_Z w) mX10_chance (d + 1) 50 [(0, .ref m), (2, .long (lN X)), (4, .int (nI j))] [] h Q := by
    intro i
    induction i with
    | zero =>
      intro j hj X q
      have hj : j = 16 := by omega
      subst hj
      rw [Nat.pow_zero, Nat.mul_one] at q
      exact bX10_chance_50 ⟨fun _ => q, fun c => absurd (by decide) c⟩
    | succ i ih =>
      intro j hj X q
      refine bX10_chance_50 ⟨fun c => absurd c (by rw [show (16 : Int32) = nI 16 by decide, nI_leI (by decide) (by omega)]; omega), fun _ => ⟨M.1, M.in 1 rfl (k := 4) (by decide) (by decide) (by decide), ?_⟩⟩
      rw [cl4, a4, nI_l (by omega), lN_mul, nI_1]
      refine ih (j + 1) (by omega) (X * o) ?_
      rw [Nat.mul_assoc, ← Nat.pow_succ']
      exact q
  have loop1 : ∀ i j, j + i = k → ∀ X, Q (some (.long (lN (X * (s * (o - s)) ^ i * o ^ (16 - 2 * k))))) h → Ev w (am_Z w) mX10_chance (d + 1) 8 [(0, .ref m), (1, .int (nI k)), (2, .long (lN X)), (4, .int (nI j))] [] h Q := by
    intro i
    induction i with
    | zero =>
      intro j hj X q
      have hj : j = k := by omega
      subst hj
      rw [Nat.pow_zero, Nat.mul_one] at q
      refine bX10_chance_8 ⟨fun _ => ?_, fun c => absurd (Int32.le_refl _) c⟩
      rw [show (2 : Int32) = nI 2 by decide, pk_mul]
      exact loop2 (16 - 2 * j) (2 * j) (by omega) X q
    | succ i ih =>
      intro j hj X q
      refine bX10_chance_8 ⟨fun c => absurd c (by rw [nI_leI (by omega) (by omega)]; omega), fun _ => ⟨M.1, M.in 1 rfl (k := 3) (by decide) (by decide) (by decide), M.in 1 rfl (k := 4) (by decide) (by decide) (by decide), M.in 1 rfl (k := 3) (by decide) (by decide) (by decide), ?_⟩⟩
      rw [cl3, cl4, a3, a4, pk_sub (by omega), nI_l (by omega), nI_l (by omega), lN_mul, lN_mul, nI_1]
      refine ih (j + 1) (by omega) (X * (s * (o - s))) ?_
      rw [Nat.mul_assoc X, ← Nat.pow_succ']
      exact q
  exact loop1 k 0 (by omega) (2 * ctF k) q
theorem w16 {x : Int32} {a b : Nat} {u v : Int32} (ha : u = nI a) (hb : v = nI b) (ha' : a < 2 ^ 31) (hb' : b < 2 ^ 31) (c : u ≤ x ∧ x ≤ v) : ∃ j, a ≤ j ∧ j ≤ b ∧ x = nI j := by
  subst ha
  subst hb
  obtain ⟨j, hj, rfl⟩ := nI_of (fun y => absurd (Int32.lt_of_lt_of_le y (nI_pos' ha')) (Int32.not_lt.mpr c.1))
  rw [nI_leI ha' hj, nI_leI hj hb'] at c
  exact ⟨j, c.1, c.2, rfl⟩
theorem c_likely {n what : Int32} (R : RepM m h A) (q : ∀ h', FrZ m h h' → Q (some (.long (aLikely A.2.2.1.1 n what))) h') : EvM w mX10_likely (d + 2) [.ref m, .int n, .int what] h Q := by
  refine bX10_likely_0 ⟨R.1.1, fun h2 e2 => ?_⟩
  have F2 : FrZ m h h2 := by rw [e2]; exact FrZ.rf.fld
  have q := q h2 F2
  have R2 := R.fr F2
  unfold aLikely at q
  refine c_within ⟨_, rfl, fun c => ?_, fun c => c_within ⟨_, rfl, fun c2 => ?_, fun c2 => ?_⟩⟩
  · rw [if_neg (b01_z c)] at q; exact q
  · rw [if_pos (b01_n c), if_neg (b01_z c2)] at q; exact q
  · rw [if_pos (b01_n c), if_pos (b01_n c2)] at q
    obtain ⟨n, n1, n2, rfl⟩ := w16 (a := 1) (b := 16) (by decide) (by decide) (by decide) (by decide) (b01_n c)
    rw [nI_clamp (by omega)] at q
    obtain ⟨V, ⟨a0, a1, a2, a3, a4, a5, a6, a7, a8, a9⟩, _⟩ := id R2.2.2.2.2.2.1
    simp only [Nat.mul_zero, Nat.zero_add] at a3 a4
    obtain ⟨v1, v2, v3⟩ := V.1.2.2.2.2.1
    have M := R2.1
    obtain ⟨b1, b2, b3⟩ := abv_b (tOf A.2.2.1.1) (by omega) (tShare A.2.2.1.1) v2
    have b4 := (abv_mono (tShare A.2.2.1.1) (tOf A.2.2.1.1) (k := n / 2) (n := 8) (by omega)).1
    have p0 : 0 < tOf A.2.2.1.1 ^ 16 := Nat.pow_pos (by omega)
    have gp : 0 < Nat.gcd (abv (tShare A.2.2.1.1) (tOf A.2.2.1.1) (n / 2)) (tOf A.2.2.1.1 ^ 16) := Nat.gcd_pos_of_pos_right _ p0
    have gl : Nat.gcd (abv (tShare A.2.2.1.1) (tOf A.2.2.1.1) (n / 2)) (tOf A.2.2.1.1 ^ 16) ≤ tOf A.2.2.1.1 ^ 16 := Nat.gcd_le_right _ p0
    have loop2 : ∀ i k, 1 ≤ k → k + i = n / 2 + 1 → Ev w (am_Z w) mX10_likely (d + 1 + 1) 64 [(0, .ref m), (1, .int (nI n)), (2, .int what), (3, .long (lN (abv (tShare A.2.2.1.1) (tOf A.2.2.1.1) (k - 1)))), (5, .long (lN (tOf A.2.2.1.1 ^ 16))), (7, .int (nI k))] [] h2 Q := by
      intro i
      induction i with
      | zero =>
        intro k hk hi
        have hi : k = n / 2 + 1 := by omega
        subst hi
        rw [Nat.add_sub_cancel]
        have e2 : (2 : Int32) * nI (n / 2 + 1) = nI (2 * (n / 2 + 1)) := by rw [show (2 : Int32) = nI 2 by decide, pk_mul]
        refine bX10_likely_64 ⟨fun _ => ⟨fun c3 => c_gcd (by omega) b3 ⟨_, rfl, fun z => absurd ((lN_z (by omega)).mp z) (by omega), ?_⟩, fun c3 => c_gcd (by omega) b3 ⟨_, rfl, fun z => absurd ((lN_z (by omega)).mp z) (by omega), ?_⟩⟩, fun c => absurd (by rw [e2, nI_ltI (by omega) (by omega)]; omega) c⟩
        · rw [if_pos c3] at q
          rw [pk_lDiv (by omega) gp (by omega)]
          exact q
        · rw [if_neg c3] at q
          rw [pk_lDiv b3 gp (by omega)]
          exact q
      | succ i ih =>
        intro k hk hi
        have e2 : (2 : Int32) * nI k = nI (2 * k) := by rw [show (2 : Int32) = nI 2 by decide, pk_mul]
        refine bX10_likely_64 ⟨fun c => absurd c (by rw [e2, nI_ltI (by omega) (by omega)]; omega), fun _ => ⟨M.1, c_chance R2 hk (by omega) ⟨_, rfl, ?_⟩⟩⟩
        rw [lN_add, nI_1]
        have ih := ih (k + 1) (by omega) (by omega)
        obtain ⟨k, rfl⟩ : ∃ x, k = x + 1 := ⟨k - 1, by omega⟩
        rw [Nat.add_sub_cancel] at ih ⊢
        exact ih
    have loop1 : ∀ i j, j + i = 16 → Ev w (am_Z w) mX10_likely (d + 1 + 1) 36 [(0, .ref m), (1, .int (nI n)), (2, .int what), (3, .long 0), (5, .long (lN (tOf A.2.2.1.1 ^ j))), (7, .int (nI j))] [] h2 Q := by
      intro i
      induction i with
      | zero =>
        intro j hj
        have hj : j = 16 := by omega
        subst hj
        exact bX10_likely_36 ⟨fun _ => loop2 (n / 2) 1 (by omega) (by omega), fun c => absurd (by decide) c⟩
      | succ i ih =>
        intro j hj
        refine bX10_likely_36 ⟨fun c => absurd c (by rw [show (16 : Int32) = nI 16 by decide, nI_leI (by decide) (by omega)]; omega), fun _ => ⟨M.1, M.in 1 rfl (k := 4) (by decide) (by decide) (by decide), ?_⟩⟩
        rw [cl4, a4, nI_l (by omega), lN_mul, nI_1, ← Nat.pow_succ]
        exact ih (j + 1) (by omega)
    exact loop1 16 0 (by omega)
theorem c_mean {n what : Int32} (R : RepM m h A) (q : ∀ h', FrZ m h h' → Q (some (.long (aMean A.2.2.1.1 n what))) h') : EvM w mX10_mean (d + 2) [.ref m, .int n, .int what] h Q := by
  refine bX10_mean_0 ⟨R.1.1, fun h2 e2 => ?_⟩
  have F2 : FrZ m h h2 := by rw [e2]; exact FrZ.rf.fld
  have q := q h2 F2
  have R2 := R.fr F2
  unfold aMean at q
  refine c_within ⟨_, rfl, fun c => ?_, fun c => c_within ⟨_, rfl, fun c2 => ?_, fun c2 => ?_⟩⟩
  · rw [if_neg (b01_z c)] at q; exact q
  · rw [if_pos (b01_n c), if_neg (b01_z c2)] at q; exact q
  · rw [if_pos (b01_n c), if_pos (b01_n c2)] at q
    obtain ⟨n, n1, n2, rfl⟩ := w16 (a := 2) (b := 16) (by decide) (by decide) (by decide) (by decide) (b01_n c)
    rw [nI_clamp (by omega)] at q
    have V := R2.2.2.2.2.2.1.1
    obtain ⟨v1, v2, v3⟩ := V.1.2.2.2.2.1
    have M := R2.1
    obtain ⟨b1, b2, b3⟩ := abv_b (tOf A.2.2.1.1) (by omega) (tShare A.2.2.1.1) v2
    obtain ⟨b4, b5⟩ := abv_mono (tShare A.2.2.1.1) (tOf A.2.2.1.1) (k := n / 2) (n := 8) (by omega)
    have p0 : 0 < abv (tShare A.2.2.1.1) (tOf A.2.2.1.1) (n / 2) := abv_pos v1 v2 (by omega)
    have gp : 0 < Nat.gcd (abw (tShare A.2.2.1.1) (tOf A.2.2.1.1) (n / 2)) (abv (tShare A.2.2.1.1) (tOf A.2.2.1.1) (n / 2)) := Nat.gcd_pos_of_pos_right _ p0
    have gl : Nat.gcd (abw (tShare A.2.2.1.1) (tOf A.2.2.1.1) (n / 2)) (abv (tShare A.2.2.1.1) (tOf A.2.2.1.1) (n / 2)) ≤ abv (tShare A.2.2.1.1) (tOf A.2.2.1.1) (n / 2) := Nat.gcd_le_right _ p0
    have loop2 : ∀ i k, 1 ≤ k → k + i = n / 2 + 1 → Ev w (am_Z w) mX10_mean (d + 1 + 1) 36 [(0, .ref m), (1, .int (nI n)), (2, .int what), (3, .long (lN (abw (tShare A.2.2.1.1) (tOf A.2.2.1.1) (k - 1)))), (5, .long (lN (abv (tShare A.2.2.1.1) (tOf A.2.2.1.1) (k - 1)))), (7, .int (nI k))] [] h2 Q := by
      intro i
      induction i with
      | zero =>
        intro k hk hi
        have hi : k = n / 2 + 1 := by omega
        subst hi
        rw [Nat.add_sub_cancel]
        have e2 : (2 : Int32) * nI (n / 2 + 1) = nI (2 * (n / 2 + 1)) := by rw [show (2 : Int32) = nI 2 by decide, pk_mul]
        refine bX10_mean_36 ⟨fun _ => ⟨fun c3 => c_gcd (by omega) (by omega) ⟨_, rfl, fun z => absurd ((lN_z (by omega)).mp z) (by omega), ?_⟩, fun c3 => c_gcd (by omega) (by omega) ⟨_, rfl, fun z => absurd ((lN_z (by omega)).mp z) (by omega), ?_⟩⟩, fun c => absurd (by rw [e2, nI_ltI (by omega) (by omega)]; omega) c⟩
        · rw [if_pos c3] at q
          rw [pk_lDiv (by omega) gp (by omega)]
          exact q
        · rw [if_neg c3] at q
          rw [pk_lDiv (by omega) gp (by omega)]
          exact q
      | succ i ih =>
        intro k hk hi
        have e2 : (2 : Int32) * nI k = nI (2 * k) := by rw [show (2 : Int32) = nI 2 by decide, pk_mul]
        refine bX10_mean_36 ⟨fun c => absurd c (by rw [e2, nI_ltI (by omega) (by omega)]; omega), fun _ => ⟨M.1, c_chance R2 hk (by omega) ⟨_, rfl, M.1, c_chance R2 hk (by omega) ⟨_, rfl, ?_⟩⟩⟩⟩
        rw [lN_add, nI_l (by omega), show (2 : Int64) = lN 2 by decide, lN_mul, lN_mul, lN_add, nI_1]
        have ih := ih (k + 1) (by omega) (by omega)
        obtain ⟨k, rfl⟩ : ∃ x, k = x + 1 := ⟨k - 1, by omega⟩
        rw [Nat.add_sub_cancel] at ih ⊢
        exact ih
    exact loop2 (n / 2) 1 (by omega) (by omega)
end RLONG
