/-! The class's lots, likely, mean, came. -/
/-- levels, above the second number to the power of 2 K -/
def lvF (s o : Nat) (wt : Bool) : Nat → Nat
  | 0 => 0
  | k + 1 => lvF s o wt k * o * o + (if wt then 2 * (k + 1) * (2 * ctF (k + 1) * (s * (o - s)) ^ (k + 1)) else 2 * ctF (k + 1) * (s * (o - s)) ^ (k + 1))
theorem lvF_abv {s o : Nat} : ∀ K, K ≤ 8 → abv s o K = lvF s o false K * o ^ (16 - 2 * K) ∧ abw s o K = lvF s o true K * o ^ (16 - 2 * K) := by
  intro K
  induction K with
  | zero => intro _; exact ⟨by rw [abv, lvF, Nat.zero_mul], by rw [abw, lvF, Nat.zero_mul]⟩
  | succ K ih =>
    intro hK
    obtain ⟨i1, i2⟩ := ih (by omega)
    have e : o ^ (16 - 2 * K) = o * o * o ^ (16 - 2 * (K + 1)) := by
      rw [show 16 - 2 * K = 16 - 2 * (K + 1) + 1 + 1 by omega, Nat.pow_succ, Nat.pow_succ]
      rw [Nat.mul_assoc, Nat.mul_comm]
    refine ⟨?_, ?_⟩
    · rw [abv, lvF, i1, chN, e, if_neg (by decide), Nat.add_mul, Nat.mul_assoc (lvF s o false K) o o, Nat.mul_assoc (lvF s o false K)]
    · rw [abw, lvF, i2, chN, e, if_pos rfl, Nat.add_mul, Nat.mul_assoc (lvF s o true K) o o, Nat.mul_assoc (lvF s o true K)]
      congr 1
      rw [Nat.mul_assoc (2 * (K + 1))]
theorem gcd_sc {a b c : Nat} (hc : 0 < c) : (a * c) / Nat.gcd (a * c) (b * c) = a / Nat.gcd a b := by
  rw [Nat.gcd_mul_right, Nat.mul_div_mul_right _ _ hc]
theorem gcd_sc2 {a b c : Nat} (hc : 0 < c) : (b * c) / Nat.gcd (a * c) (b * c) = b / Nat.gcd a b := by
  rw [Nat.gcd_mul_right, Nat.mul_div_mul_right _ _ hc]
section XLONG
variable {w : am_W} {d : Nat} {h h1 : am_H} {Q : Option Value → am_H → Prop} {x y : Nat} {A : rA}
theorem c_orders {k : Nat} (h1 : 1 ≤ k) (h2 : k ≤ 16) (q : Q (some (.long (lN (2 * ctF k)))) h) : EvM w mX9_orders d [.int (nI k)] h Q := by
  refine bX9_orders_0 ?_
  have e1 : nI k - 1 = nI (k - 1) := by
    obtain ⟨k, rfl⟩ : ∃ z, k = z + 1 := ⟨k - 1, by omega⟩
    exact nI_pred k
  have loop : ∀ i j, j + i = k - 1 → Ev w (am_Z w) mX9_orders d 4 [(0, .int (nI k)), (1, .long (lN (ctF (j + 1)))), (3, .int (nI j))] [] h Q := by
    intro i
    induction i with
    | zero =>
      intro j hj
      have hk : j = k - 1 := by omega
      subst hk
      refine bX9_orders_4 ⟨fun _ => ?_, fun c => absurd (by rw [e1]; exact Int32.le_refl _) c⟩
      rw [show (2 : Int64) = lN 2 by decide, lN_mul, show k - 1 + 1 = k by omega]
      exact q
    | succ i ih =>
      intro j hj
      have b := ctF_b (j + 1) (by omega)
      refine bX9_orders_4 ⟨fun c => absurd c (by rw [e1, nI_leI (by omega) (by omega)]; omega), fun _ => ?_⟩
      have e2 : (2 : Int32) * nI j + 1 = nI (2 * j + 1) := by rw [show (2 : Int32) = nI 2 by decide, pk_mul, nI_1]
      have e3 : nI j + 2 = nI (j + 2) := by rw [show (2 : Int32) = nI 2 by decide, nI_add]
      rw [e2, e3, nI_l (by omega), nI_l (by omega), show (2 : Int64) = lN 2 by decide, lN_mul, lN_mul]
      have bb : ctF (j + 1) * 2 * (2 * j + 1) < 2 ^ 63 := by
        rw [Nat.mul_assoc]
        have : ctF (j + 1) * (2 * (2 * j + 1)) ≤ ctF (j + 1) * 64 := Nat.mul_le_mul_left _ (by omega)
        omega
      rw [pk_lDiv bb (by omega) (by omega), nI_1]
      refine ⟨fun c => absurd ((lN_z (by omega)).mp c) (by omega), ?_⟩
      have e4 : ctF (j + 1) * 2 * (2 * j + 1) / (j + 2) = ctF (j + 1 + 1) := by
        rw [ctF, Nat.mul_assoc]
        congr 2
      rw [e4]
      exact ih (j + 1) (by omega)
  exact loop (k - 1) 0 (by omega)
theorem c_cameX {k : Int32} (q : Q (some (.long (aCame k))) h) : EvM w mX9_came (d + 1) [.ref x, .int k] h Q := by
  unfold aCame at q
  refine bX9_came_0 ⟨fun c => ?_, fun c => ⟨fun c2 => ?_, fun c2 => ?_⟩⟩
  · rw [if_neg (fun hh => absurd (Int32.lt_of_lt_of_le c hh.1) Int32.lt_irrefl)] at q; exact q
  · have c := Int32.not_lt.mp c
    rw [if_pos ⟨c, c2⟩] at q
    obtain ⟨j, hj, rfl⟩ := nI_of (fun z => absurd (Int32.lt_of_lt_of_le z (show (0 : Int32) ≤ 1 by decide)) (Int32.not_lt.mpr c))
    rw [show (1 : Int32) = nI 1 by decide, nI_leI (by decide) hj] at c
    rw [show (15 : Int32) = nI 15 by decide, nI_leI hj (by decide)] at c2
    rw [nI_clamp hj] at q
    exact c_orders c (by omega) ⟨_, rfl, q⟩
  · rw [if_neg (fun hh => c2 hh.2)] at q; exact q
theorem lvF_b {s o : Nat} (h1 : 0 < s) (h2 : s < o) (h3 : o ≤ 9) {K : Nat} (hK : K ≤ 8) : lvF s o false K < 2 ^ 60 ∧ lvF s o true K < 2 ^ 63 := by
  obtain ⟨a1, a2⟩ := lvF_abv (s := s) (o := o) K hK
  obtain ⟨b1, b2, b3⟩ := abv_b o (by omega) s h2
  obtain ⟨m1, m2⟩ := abv_mono s o (k := K) (n := 8) hK
  have p : 0 < o ^ (16 - 2 * K) := Nat.pow_pos (by omega)
  have q1 := Nat.le_mul_of_pos_right (lvF s o false K) p
  have q2 := Nat.le_mul_of_pos_right (lvF s o true K) p
  omega
set_option maxHeartbeats 4000000 in
theorem c_levels {n : Nat} {wt : Bool} (R : RepX x y h A) (hn : n ≤ 16) (q : Q (some (.long (lN (lvF (tShare A.2.2.1.1) (tOf A.2.2.1.1) wt (n / 2))))) h) : EvM w mX9_levels (d + 2) [.ref x, .int (nI n), .int (if wt then 1 else 0)] h Q := by
  obtain ⟨V, s1, G, Rv⟩ := R.st
  obtain ⟨b1, b2, b3, b4, b5, b6, b7, b8⟩ := Rv.2.2.2.2.2.2.1
  have vS := V.1.2.2.2.2.1
  refine bX9_levels_0 ⟨R.2.1.1, R.2.1.2.2.2.2.2.1, s1, Rv.1, ?_⟩
  rw [b4, b5, nI_l (by omega), nI_l (by omega), lN_sub (by omega), lN_mul]
  have e2 : nI n / 2 = nI (n / 2) := by rw [show (2 : Int32) = nI 2 by decide, pk_div (by omega) (by decide) (by decide)]
  generalize tShare A.2.2.1.1 = s at q vS
  generalize tOf A.2.2.1.1 = o at q vS
  have loop : ∀ i k, k + i = n / 2 → Ev w (am_Z w) mX9_levels (d + 1 + 1) 48 [(1, .int (nI n)), (2, .int (if wt then 1 else 0)), (3, .long (lN o)), (5, .long (lN (s * (o - s)))), (7, .long (lN ((s * (o - s)) ^ k))), (9, .long (lN (lvF s o wt k))), (11, .int (nI (k + 1)))] [] h Q := by
    intro i
    induction i with
    | zero =>
      intro k hk
      have hk : k = n / 2 := by omega
      subst hk
      exact bX9_levels_48 ⟨fun _ => q, fun c => absurd (by rw [e2]; exact nI_lt (by omega) (by omega)) c⟩
    | succ i ih =>
      intro k hk
      have ih := ih (k + 1) (by omega)
      rw [lvF] at ih
      refine bX9_levels_48 ⟨fun c => absurd c (by rw [e2]; exact nI_nlt (by omega) (by omega)), fun _ => c_orders (by omega) (by omega) ⟨_, rfl, fun c => ?_, fun c => ?_⟩⟩
      · have hw : wt = false := by
          cases wt with
          | false => rfl
          | true => exact absurd c (by decide)
        subst hw
        rw [if_neg (by decide)] at ih
        rw [lN_mul, lN_mul, lN_mul, lN_mul, lN_add, nI_1, ← Nat.pow_succ]
        exact ih
      · have hw : wt = true := by
          cases wt with
          | true => rfl
          | false => exact absurd rfl c
        subst hw
        rw [if_pos rfl] at ih
        have e3 : (2 : Int32) * nI (k + 1) = nI (2 * (k + 1)) := by rw [show (2 : Int32) = nI 2 by decide, pk_mul]
        rw [e3, nI_l (by omega), lN_mul, lN_mul, lN_mul, lN_mul, lN_mul, lN_add, nI_1, ← Nat.pow_succ]
        exact ih
  have := loop (n / 2) 0 (by omega)
  exact this
theorem c_power {b t : Nat} (ht : t < 2 ^ 30) (q : Q (some (.long (lN (b ^ t)))) h) : EvM w mX9_power d [.long (lN b), .int (nI t)] h Q := by
  refine bX9_power_0 ?_
  have loop : ∀ i k, k + i = t → Ev w (am_Z w) mX9_power d 5 [(0, .long (lN b)), (2, .int (nI t)), (3, .long (lN (b ^ k))), (5, .int (nI k))] [] h Q := by
    intro i
    induction i with
    | zero =>
      intro k hk
      have hk : k = t := by omega
      subst hk
      exact bX9_power_5 ⟨fun _ => q, fun c => absurd (Int32.le_refl _) c⟩
    | succ i ih =>
      intro k hk
      refine bX9_power_5 ⟨fun c => absurd c (by rw [nI_leI (by omega) (by omega)]; omega), fun _ => ?_⟩
      rw [lN_mul, nI_1, ← Nat.pow_succ]
      exact ih (k + 1) (by omega)
  exact loop t 0 (by omega)
theorem mod_half {b r : Nat} (h0 : 0 < r) (h1 : r < b) : b % r * 2 < b + 1 := by
  by_cases hr : 2 * r ≤ b
  · have := Nat.mod_lt b h0
    omega
  · have : b % r = b - r := by
      rw [Nat.mod_eq_sub_mod (by omega), Nat.mod_eq_of_lt (by omega)]
    omega
theorem c_lowest {a b p : Nat} (ha : a < 2 ^ 63) (hb : b < 2 ^ 63) (hp : p < 2 ^ 63) (hg : 0 < Nat.gcd a b) (q : Q (some (.long (lN (p / Nat.gcd a b)))) h) : EvM w mX9_lowest d [.long (lN p), .long (lN a), .long (lN b)] h Q := by
  refine bX9_lowest_0 ?_
  have fin : ∀ a', a' = Nat.gcd a b → ((lN a' = 0 → (Q (some (.long (lN p))) h)) ∧ (¬ lN a' = 0 → ((¬ lN a' = 0) ∧ (Q (some (.long (lN p / lN a'))) h)))) := by
    intro a' e
    have l : a' < 2 ^ 63 := by
      rw [e]
      by_cases h0 : b = 0
      · rw [h0, Nat.gcd_zero_right]; exact ha
      · exact Nat.lt_of_le_of_lt (Nat.gcd_le_right _ (Nat.pos_of_ne_zero h0)) hb
    refine ⟨fun z => absurd ((lN_z l).mp z) (by omega), fun z => ⟨z, ?_⟩⟩
    rw [pk_lDiv hp (by omega) l, e]
    exact q
  have loop : ∀ m a' b' i, b' < 2 ^ m → m ≤ 63 → i + 2 * m + 1 ≤ 200 → a' < 2 ^ 63 → b' < 2 ^ 63 → Nat.gcd a' b' = Nat.gcd a b → Ev w (am_Z w) mX9_lowest d 10 [(0, .long (lN p)), (6, .long (lN a')), (8, .long (lN b')), (10, .int (nI i))] [] h Q := by
    intro m
    induction m with
    | zero =>
      intro a' b' i hb' _ hi ha' hb2 e
      have z : b' = 0 := by rw [Nat.pow_zero] at hb'; omega
      subst z
      rw [Nat.gcd_zero_right] at e
      exact bX9_lowest_10 ⟨fun _ => fin a' e, fun _ => ⟨fun _ => fin a' e, fun c => absurd (by decide) c⟩⟩
    | succ m ih =>
      intro a' b' i hb' hm hi ha' hb2 e
      have i200 : ¬ (200 : Int32) ≤ nI i := by rw [show (200 : Int32) = nI 200 by decide, nI_leI (by decide) (by omega)]; omega
      have i201 : ¬ (200 : Int32) ≤ nI (i + 1) := by rw [show (200 : Int32) = nI 200 by decide, nI_leI (by decide) (by omega)]; omega
      refine bX9_lowest_10 ⟨fun c => absurd c i200, fun _ => ⟨fun c => ?_, fun c => ⟨c, ?_⟩⟩⟩
      · have z : b' = 0 := (lN_z hb2).mp c
        subst z
        rw [Nat.gcd_zero_right] at e
        exact fin a' e
      · have b0 : 0 < b' := Nat.pos_of_ne_zero (fun z => c ((lN_z hb2).mpr z))
        have rl := Nat.mod_lt a' b0
        rw [pk_lRem ha' b0 hb2, nI_1]
        rw [gcd_st] at e
        refine bX9_lowest_10 ⟨fun c2 => absurd c2 i201, fun _ => ⟨fun c2 => ?_, fun c2 => ⟨c2, ?_⟩⟩⟩
        · have z : a' % b' = 0 := (lN_z (by omega)).mp c2
          rw [z, Nat.gcd_zero_right] at e
          exact fin b' e
        · have r0 : 0 < a' % b' := Nat.pos_of_ne_zero (fun z => c2 ((lN_z (by omega)).mpr z))
          rw [pk_lRem hb2 r0 (by omega), nI_1]
          rw [gcd_st] at e
          have mh := mod_half r0 rl
          refine ih (a' % b') (b' % (a' % b')) (i + 1 + 1) ?_ (by omega) (by omega) (by omega) ?_ e
          · rw [Nat.pow_succ] at hb'; omega
          · have := Nat.mod_lt b' r0; omega
  exact loop 63 a b 0 hb (Nat.le_refl _) (by decide) ha hb rfl
theorem c_likelyX {n what : Int32} (R : RepX x y h A) (q : Q (some (.long (aLikely A.2.2.1.1 n what))) h) : EvM w mX9_likely (d + 3) [.ref x, .int n, .int what] h Q := by
  obtain ⟨V, s1, G, Rv⟩ := R.st
  obtain ⟨b1, b2, b3, b4, b5, b6, b7, b8⟩ := Rv.2.2.2.2.2.2.1
  have vS := V.1.2.2.2.2.1
  unfold aLikely at q
  refine bX9_likely_0 ⟨fun c => ?_, fun c => ⟨fun c2 => ?_, fun c2 => ⟨fun c3 => ?_, fun c3 => ⟨fun c4 => ⟨R.2.1.1, ?_⟩, fun c4 => ?_⟩⟩⟩⟩
  · rw [if_neg (fun hh => absurd (Int32.lt_of_lt_of_le c hh.1) Int32.lt_irrefl)] at q; exact q
  · rw [if_neg (fun hh => absurd (Int32.lt_of_lt_of_le c2 hh.2) Int32.lt_irrefl)] at q; exact q
  · rw [if_pos ⟨Int32.not_lt.mp c, Int32.not_lt.mp c2⟩, if_neg (fun hh => absurd (Int32.lt_of_lt_of_le c3 hh.1) Int32.lt_irrefl)] at q; exact q
  · rw [if_pos ⟨Int32.not_lt.mp c, Int32.not_lt.mp c2⟩, if_pos ⟨Int32.not_lt.mp c3, c4⟩] at q
    obtain ⟨j, hj, rfl⟩ := nI_of (fun z => c (Int32.lt_trans z (by decide)))
    rw [show (16 : Int32) = nI 16 by decide, nI_ltI (by decide) hj] at c2
    rw [nI_clamp hj] at q
    refine c_levels (d := d) (wt := false) R (by omega) ⟨_, rfl, R.2.1.1, R.2.1.2.2.2.2.2.1, s1, Rv.1, ?_⟩
    have e2 : nI j / 2 = nI (j / 2) := by rw [show (2 : Int32) = nI 2 by decide, pk_div (by omega) (by decide) (by decide)]
    rw [b5, nI_l (by omega), lN_mul, e2]
    have K8 : j / 2 ≤ 8 := by omega
    obtain ⟨l1, l2⟩ := lvF_b (s := tShare A.2.2.1.1) (o := tOf A.2.2.1.1) (by omega) (by omega) (by omega) K8
    obtain ⟨a1, a2⟩ := lvF_abv (s := tShare A.2.2.1.1) (o := tOf A.2.2.1.1) (j / 2) K8
    have sc : tOf A.2.2.1.1 ^ 16 = (tOf A.2.2.1.1 * tOf A.2.2.1.1) ^ (j / 2) * tOf A.2.2.1.1 ^ (16 - 2 * (j / 2)) := by
      rw [← Nat.pow_two, ← Nat.pow_mul, ← Nat.pow_add]
      congr 1
      omega
    have p1 : 0 < tOf A.2.2.1.1 ^ (16 - 2 * (j / 2)) := Nat.pow_pos (by omega)
    have p2 : 0 < (tOf A.2.2.1.1 * tOf A.2.2.1.1) ^ (j / 2) := Nat.pow_pos (Nat.mul_pos (by omega) (by omega))
    have lb : (tOf A.2.2.1.1 * tOf A.2.2.1.1) ^ (j / 2) < 2 ^ 63 := by
      have := (abv_b (tOf A.2.2.1.1) (by omega) (tShare A.2.2.1.1) (by omega)).2.2
      rw [sc] at this
      exact Nat.lt_of_le_of_lt (Nat.le_mul_of_pos_right _ p1) this
    rw [a1, sc] at q
    refine c_power (by omega) ⟨_, rfl, fun c5 => ?_, fun c5 => ?_⟩
    · rw [if_pos c5, gcd_sc p1] at q
      exact c_lowest (by omega) lb (by omega) (Nat.gcd_pos_of_pos_right _ p2) ⟨_, rfl, q⟩
    · rw [if_neg c5, gcd_sc2 p1] at q
      exact c_lowest (by omega) lb lb (Nat.gcd_pos_of_pos_right _ p2) ⟨_, rfl, q⟩
  · rw [if_pos ⟨Int32.not_lt.mp c, Int32.not_lt.mp c2⟩, if_neg (fun hh => c4 hh.2)] at q; exact q
theorem c_meanX {n what : Int32} (R : RepX x y h A) (q : Q (some (.long (aMean A.2.2.1.1 n what))) h) : EvM w mX9_mean (d + 3) [.ref x, .int n, .int what] h Q := by
  obtain ⟨V, s1, G, Rv⟩ := R.st
  have vS := V.1.2.2.2.2.1
  unfold aMean at q
  refine bX9_mean_0 ⟨fun c => ?_, fun c => ⟨fun c2 => ?_, fun c2 => ⟨fun c3 => ?_, fun c3 => ⟨fun c4 => ⟨R.2.1.1, ?_⟩, fun c4 => ?_⟩⟩⟩⟩
  · rw [if_neg (fun hh => absurd (Int32.lt_of_lt_of_le c hh.1) Int32.lt_irrefl)] at q; exact q
  · rw [if_neg (fun hh => absurd (Int32.lt_of_lt_of_le c2 hh.2) Int32.lt_irrefl)] at q; exact q
  · rw [if_pos ⟨Int32.not_lt.mp c, Int32.not_lt.mp c2⟩, if_neg (fun hh => absurd (Int32.lt_of_lt_of_le c3 hh.1) Int32.lt_irrefl)] at q; exact q
  · rw [if_pos ⟨Int32.not_lt.mp c, Int32.not_lt.mp c2⟩, if_pos ⟨Int32.not_lt.mp c3, c4⟩] at q
    obtain ⟨j, hj, rfl⟩ := nI_of (fun z => c (Int32.lt_trans z (by decide)))
    rw [show (16 : Int32) = nI 16 by decide, nI_ltI (by decide) hj] at c2
    have c1 := Int32.not_lt.mp c
    rw [show (2 : Int32) = nI 2 by decide, nI_leI (by decide) hj] at c1
    rw [nI_clamp hj] at q
    have K8 : j / 2 ≤ 8 := by omega
    obtain ⟨l1, l2⟩ := lvF_b (s := tShare A.2.2.1.1) (o := tOf A.2.2.1.1) (by omega) (by omega) (by omega) K8
    obtain ⟨a1, a2⟩ := lvF_abv (s := tShare A.2.2.1.1) (o := tOf A.2.2.1.1) (j / 2) K8
    have ap := abv_pos (s := tShare A.2.2.1.1) (o := tOf A.2.2.1.1) (k := j / 2) (by omega) (by omega) (by omega)
    have p1 : 0 < tOf A.2.2.1.1 ^ (16 - 2 * (j / 2)) := Nat.pow_pos (by omega)
    have lp : 0 < lvF (tShare A.2.2.1.1) (tOf A.2.2.1.1) false (j / 2) := by
      apply Nat.pos_of_ne_zero
      intro z
      rw [a1, z, Nat.zero_mul] at ap
      omega
    rw [a1, a2] at q
    refine c_levels (d := d) (wt := true) R (by omega) ⟨_, rfl, R.2.1.1, c_levels (d := d) (wt := false) R (by omega) ⟨_, rfl, fun c5 => ?_, fun c5 => ?_⟩⟩
    · rw [if_pos c5, gcd_sc p1] at q
      exact c_lowest l2 (by omega) l2 (Nat.gcd_pos_of_pos_right _ lp) ⟨_, rfl, q⟩
    · rw [if_neg c5, gcd_sc2 p1] at q
      exact c_lowest l2 (by omega) (by omega) (Nat.gcd_pos_of_pos_right _ lp) ⟨_, rfl, q⟩
  · rw [if_pos ⟨Int32.not_lt.mp c, Int32.not_lt.mp c2⟩, if_neg (fun hh => c4 hh.2)] at q; exact q
set_option maxHeartbeats 4000000 in
theorem c_lotsX {seed days what : Int32} (R : RepX x y h A) (q : ∀ h', QF x h h' → RepX x y h' A → Q (some (.int (aLots A.2.2.1 seed days what))) h') : EvM w mX9_lots (d + 6) [.ref x, .int seed, .int days, .int what] h Q := by
  have X := R.2.1
  have hy := R.1
  have S := R.2.2.2.1
  have C := R.2.2.2.2.2
  unfold aLots at q
  have lt : ∀ {a b : Int32}, a < b → ¬ b ≤ a := fun h1 h2 => Int32.lt_irrefl (Int32.lt_of_lt_of_le h1 h2)
  refine bX9_lots_0 ⟨fun c => ?_, fun c => ⟨fun c2 => ?_, fun c2 => ⟨fun c3 => ?_, fun c3 => ⟨fun c4 => ?_, fun c4 => ⟨fun c5 => ?_, fun c5 => ⟨fun c6 => ⟨X.1, ?_⟩, fun c6 => ?_⟩⟩⟩⟩⟩⟩
  · rw [if_neg (fun hh => lt c hh.1)] at q; exact q h QF.rf R
  · rw [if_neg (fun hh => lt c2 hh.2)] at q; exact q h QF.rf R
  · rw [if_pos ⟨Int32.not_lt.mp c, Int32.not_lt.mp c2⟩, if_neg (fun hh => lt c3 hh.1)] at q; exact q h QF.rf R
  · rw [if_pos ⟨Int32.not_lt.mp c, Int32.not_lt.mp c2⟩, if_neg (fun hh => lt c4 hh.2)] at q; exact q h QF.rf R
  · rw [if_pos ⟨Int32.not_lt.mp c, Int32.not_lt.mp c2⟩, if_pos ⟨Int32.not_lt.mp c3, Int32.not_lt.mp c4⟩, if_neg (fun hh => lt c5 hh.1)] at q; exact q h QF.rf R
  · rw [if_pos ⟨Int32.not_lt.mp c, Int32.not_lt.mp c2⟩, if_pos ⟨Int32.not_lt.mp c3, Int32.not_lt.mp c4⟩, if_pos ⟨Int32.not_lt.mp c5, c6⟩] at q
    obtain ⟨sn, hs, rfl⟩ := nI_of c
    rw [show (9999 : Int32) = nI 9999 by decide, nI_ltI (by decide) hs] at c2
    obtain ⟨dn, hd, rfl⟩ := nI_of (fun z => c3 (Int32.lt_trans z (by decide)))
    rw [show (50 : Int32) = nI 50 by decide, nI_ltI (by decide) hd] at c4
    rw [nI_clamp hs, nI_clamp hd] at q
    have wk : ¬ what = 0 → ¬ what = 1 → ¬ what = 2 → ¬ what = 3 → True := fun _ _ _ _ => trivial
    -- the answers
    have fin : ∀ h2, QF x h h2 → RepX x y h2 A → (hI h2 (x + 62) 4 = (ltA 1440 A.2.2.1 sn dn).2.1 ∧ hI h2 (x + 62) 5 = (ltA 1440 A.2.2.1 sn dn).2.2.1 ∧ hI h2 (x + 62) 6 = (ltA 1440 A.2.2.1 sn dn).2.2.2.1 ∧ hI h2 (x + 62) 7 = (ltA 1440 A.2.2.1 sn dn).2.2.2.2.1 ∧ hI h2 (x + 62) 8 = (ltA 1440 A.2.2.1 sn dn).2.2.2.2.2) → Ev w (am_Z w) mX9_lots (d + 5 + 1) 62 [(0, .ref x), (3, .int what)] [] h2 Q := by
      intro h2 F2 R2 ⟨f4, f5, f6, f7, f8⟩
      have q := q h2 F2 R2
      unfold ltW at q
      have L4 := R2.2.1.2.2.2.2.2.2.2.2.2.2.2.2.2.1
      refine bX9_lots_62 ⟨fun e => ⟨R2.2.1.1, L4, ?_⟩, fun e => ⟨fun e2 => ⟨R2.2.1.1, L4, ?_⟩, fun e2 => ⟨fun e3 => ⟨R2.2.1.1, L4, ?_⟩, fun e3 => ⟨fun e4 => ⟨R2.2.1.1, L4, ?_⟩, fun e4 => ⟨R2.2.1.1, L4, ?_⟩⟩⟩⟩⟩
      · rw [f4]; rw [if_pos e] at q; exact q
      · rw [f5]; rw [if_neg e, if_pos e2] at q; exact q
      · rw [f6]; rw [if_neg e, if_neg e2, if_pos e3] at q; exact q
      · rw [f7]; rw [if_neg e, if_neg e2, if_neg e3, if_pos e4] at q; exact q
      · rw [f8]; rw [if_neg e, if_neg e2, if_neg e3, if_neg e4] at q; exact q
    have L4 := X.2.2.2.2.2.2.2.2.2.2.2.2.2.1
    have go : am_L 9 x h ∧ EvM w mX4_go (d + 5) [.ref (x + 62), .ref (x + 20), .ref (x + 44), .int (nI sn), .int (nI dn)] h (fun r7 h6 => r7 = none ∧ (Ev w (am_Z w) mX9_lots (d + 5 + 1) 62 [(0, .ref x), (3, .int what)] [] h6 Q)) := by
      refine ⟨X.1, c_goLots rfl (by omega) (by omega) R (fun h6 F6 k6 l6 s2 s3 E6 => ⟨rfl, ?_⟩)⟩
      obtain ⟨X6, S6, er6⟩ := F6.st R
      have ns : ∀ a, (a ≤ x + 14 ∨ (x + 20 ≤ a ∧ a ≤ x + 43) ∨ (x + 57 ≤ a ∧ a ≤ x + 60)) → ¬ Scr x a := fun a ha => by unfold Scr; omega
      have se := fun a h1 h2 h3 h4 => F6.2.2 a h1 h2 (ns a h3) h4
      have R6 : RepX x y h6 A := by
        refine R.mk' (H := A.2.2.1) F6.1 (fun a h1 h2 h3 h4 h5 h6 h7 h8 => F6.2.2 a h1 h2 h3 (by omega)) (F6.2.1.e2 hy) (by rw [F6.2.1.2.1]; exact Nat.le_refl _) S6 ⟨?_, ?_, Or.inr ⟨k6, l6⟩⟩
        · obtain ⟨V, s1, G, Rv⟩ := R.st
          obtain ⟨g1, g2⟩ := G.same (h1 := h6) (fun a p q => F6.2.1.1 a (by omega)) (F6.2.1.e2 hy)
          rw [(se x (by omega) (by omega) (by omega) (by omega)).2.2.1, er6]
          rcases C.1 with c1 | ⟨c1, c1'⟩
          · exact Or.inl c1
          · exact Or.inr ⟨c1, c1'.sm (fun a p q => se a (by omega) (by omega) (by omega) (by omega)) g1 g2 (g1 _ (by omega) (by omega))⟩
        · unfold ChX
          rw [(se (x + 57) (by omega) (by omega) (by omega) (by omega)).2.2.1, (se (x + 58) (by omega) (by omega) (by omega) (by omega)).2.2.1, (se (x + 59) (by omega) (by omega) (by omega) (by omega)).2.2.1, (se (x + 60) (by omega) (by omega) (by omega) (by omega)).2.2.1]
          exact C.2.1
      refine fin h6 F6.2.1 R6 ?_
      rw [← E6]
      exact ⟨rfl, rfl, rfl, rfl, rfl⟩
    refine bX4_isKnown_0 ⟨L4, fun z => ⟨_, rfl, fun _ => go, fun c7 => absurd rfl c7⟩, fun z => ⟨fun z2 => ⟨fun z3 => ⟨_, rfl, fun c7 => absurd c7 (by decide), fun _ => ?_⟩, fun z3 => ⟨_, rfl, fun _ => go, fun c7 => absurd rfl c7⟩⟩, fun z2 => ⟨_, rfl, fun _ => go, fun c7 => absurd rfl c7⟩⟩⟩
    rcases C.2.2 with c1 | ⟨c1, sd, dn', y1, y2, y3, y4, y5⟩
    · exact absurd c1 z
    · have e1 : sd = sn := by rw [y3] at z2; exact (nI_eq (by omega) hs).mp z2
      have e2 : dn' = dn := by rw [y4] at z3; exact (nI_eq (by omega) hd).mp z3
      subst e1 e2
      exact fin h QF.rf R y5
  · rw [if_pos ⟨Int32.not_lt.mp c, Int32.not_lt.mp c2⟩, if_pos ⟨Int32.not_lt.mp c3, Int32.not_lt.mp c4⟩, if_neg (fun hh => c6 hh.2)] at q; exact q h QF.rf R
end XLONG
