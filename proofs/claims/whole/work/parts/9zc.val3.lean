/-! A law's value: chains. -/
def RSd (S T : ES) (v : (Nat → Int32) → Int32) (q : Nat) : Prop := S.2.1 ≤ T.2.1 ∧ (∀ p, p < S.2.1 → T.2.2.1 p = S.2.2.1 p) ∧ ∀ V row stk, (∀ p, S.2.1 ≤ p → p < T.2.1 → row p = T.2.2.1 p) → stk.length + q ≤ 30 → RunR V row S.2.1 T.2.1 stk (v V :: stk)
def WSd (kd nv : Nat → Int32) (r j : Nat) (S T : ES) (v : (Nat → Int32) → Int32) : Prop := ∀ V d E, d + r = 5 → BaseE d E → PreE j d E → ∃ E', RunW V (fun i => cdT (kd i) (nv i)) S.1.2 T.1.2 d E d E' ∧ KEj j d E E' ∧ FinE j d E E' (v V)
def ChV (kd nv : Nat → Int32) (K r : Nat) (P : ES → ES) (j : Nat) : Prop := ∀ S : ES, S.1.1 = 0 → (chn kd K P j S).1.1 = 0 → ∃ v, RSd S (chn kd K P j S) v (4 * r + j) ∧ WSd kd nv r j S (chn kd K P j S) v
section VAL3
variable {kd nv : Nat → Int32} {K r j : Nat} {P : ES → ES}
theorem stp_2 {S : ES} : (onE stp S).2 = S.2 := rfl
theorem LpV (hj : j ≤ 3) (C : ChV kd nv K r P j) : ∀ (k : Nat) (S : ES), S.1.1 = 0 → (lpc kd (chn kd K P j) (nI (3 - j)) k S).1.1 = 0 → (j = 2 → k ≤ 1) → ∃ f : (Nat → Int32) → Int32 → Int32,
    (S.2.1 ≤ (lpc kd (chn kd K P j) (nI (3 - j)) k S).2.1 ∧ (∀ p, p < S.2.1 → (lpc kd (chn kd K P j) (nI (3 - j)) k S).2.2.1 p = S.2.2.1 p) ∧ ∀ V row stk a, (∀ p, S.2.1 ≤ p → p < (lpc kd (chn kd K P j) (nI (3 - j)) k S).2.1 → row p = (lpc kd (chn kd K P j) (nI (3 - j)) k S).2.2.1 p) → stk.length + (4 * r + j + 1) ≤ 30 → RunR V row S.2.1 (lpc kd (chn kd K P j) (nI (3 - j)) k S).2.1 (a :: stk) (f V a :: stk)) ∧
    (∀ V d E, d + r = 5 → BaseE d E → (j = 2 → 0 < k → E 18 d = 0) → ∃ E', RunW V (fun i => cdT (kd i) (nv i)) S.1.2 (lpc kd (chn kd K P j) (nI (3 - j)) k S).1.2 d E d E' ∧ KE (j + 1) d E E' ∧ valE (j + 1) d E' = f V (valE (j + 1) d E)) := by
  have triv : ∀ S : ES, ∃ f : (Nat → Int32) → Int32 → Int32, (S.2.1 ≤ S.2.1 ∧ (∀ p, p < S.2.1 → S.2.2.1 p = S.2.2.1 p) ∧ ∀ (V row : Nat → Int32) (stk : List Int32) (a : Int32), (∀ p, S.2.1 ≤ p → p < S.2.1 → row p = S.2.2.1 p) → stk.length + (4 * r + j + 1) ≤ 30 → RunR V row S.2.1 S.2.1 (a :: stk) (f V a :: stk)) ∧ (∀ (V : Nat → Int32) d E, BaseE d E → ∃ E', RunW V (fun i => cdT (kd i) (nv i)) S.1.2 S.1.2 d E d E' ∧ KE (j + 1) d E E' ∧ valE (j + 1) d E' = f V (valE (j + 1) d E)) :=
    fun S => ⟨fun _ a => a, ⟨Nat.le_refl _, fun _ _ => rfl, fun _ _ _ _ _ _ => RunR.nil⟩, fun _ _ E _ => ⟨E, RunW.nil, fun _ _ _ => rfl, rfl⟩⟩
  intro k
  induction k with
  | zero =>
    intro S a z _
    rw [lpc]
    obtain ⟨f, f1, f2⟩ := triv S
    exact ⟨f, f1, fun V d E _ B _ => f2 V d E B⟩
  | succ k ih =>
    intro S a z hk
    rw [lpc] at z ⊢
    by_cases q : lvl (kd S.1.2) = nI (3 - j)
    · rw [if_pos ⟨a, q⟩] at z ⊢
      have es : (onE stp S).1 = (0, S.1.2 + 1) := stp_1 a
      have ha : (onE stp S).1.1 = 0 := by rw [es]
      have hb : (onE stp S).1.2 = S.1.2 + 1 := by rw [es]
      have u : (chn kd K P j (onE stp S)).1.1 = 0 := Decidable.byContradiction (fun y => by
        rw [lp_dead k y] at z
        exact y z)
      obtain ⟨v, ⟨v1, v2, v3⟩, v4⟩ := C (onE stp S) ha u
      rw [stp_2] at v1 v2 v3
      unfold WSd at v4
      rw [hb] at v4
      generalize chn kd K P j (onE stp S) = U at z u v1 v2 v3 v4 ⊢
      have w1 : (wrt (-(kd S.1.2)) U).1 = U.1 := wrt_1
      have w2 : (wrt (-(kd S.1.2)) U).2.1 = U.2.1 + 1 := by rw [wrt, if_pos u]
      have w3 : (wrt (-(kd S.1.2)) U).2.2.1 = va_up U.2.2.1 U.2.1 (-(kd S.1.2)) := by rw [wrt, if_pos u]
      obtain ⟨f, ⟨f1, f2, f3⟩, f4⟩ := ih (wrt (-(kd S.1.2)) U) (by rw [w1]; exact u) z (fun y => by have := hk y; omega)
      rw [w2] at f1 f2 f3
      rw [w3] at f2
      rw [w1] at f4
      generalize lpc kd (chn kd K P j) (nI (3 - j)) k (wrt (-(kd S.1.2)) U) = T at z f1 f2 f3 f4 ⊢
      refine ⟨fun V a => f V (jnd (kd S.1.2) a (v V)), ⟨by omega, fun p hp => ?_, fun V row stk a0 hrow hlen => ?_⟩, fun V d E hd B h18 => ?_⟩
      · rw [f2 p (by omega), va_up_ne _ _ (by omega)]
        exact v2 p hp
      · have r1 := v3 V row (a0 :: stk) (fun p p1 p2 => by rw [hrow p p1 (by omega), f2 p (by omega), va_up_ne _ _ (by omega)]) (by rw [List.length_cons]; omega)
        have r2 : RunR V row U.2.1 (U.2.1 + 1) (v V :: a0 :: stk) (jnd (kd S.1.2) a0 (v V) :: stk) := RunR.one (by
          rw [hrow U.2.1 v1 (by omega), f2 U.2.1 (by omega), va_up_self]
          exact stepR_sign hj q (by omega))
        exact (r1.tr r2).tr (f3 V row stk _ (fun p p1 p2 => hrow p (by omega) p2) hlen)
      · obtain ⟨E1, s1, s2, s3, s4⟩ := stepW_sign (V := V) (v0 := nv S.1.2) hj q (fun y => h18 y (by omega))
        have B1 := B.ke s3
        obtain ⟨E2, t1, t2, t3⟩ := v4 V d E1 hd B1 s2
        have K2 := t2.up hj
        obtain ⟨E3, x1, x2, x3⟩ := f4 V d E2 hd (B1.ke K2) (fun y yk => by have := hk y; omega)
        refine ⟨E3, ((RunW.one s1).tr t1).tr x1, (s3.tr K2).tr x2, ?_⟩
        rw [x3, s4 E2 _ t2 t3]
    · rw [if_neg (fun y => q y.2)]
      obtain ⟨f, f1, f2⟩ := triv S
      exact ⟨f, f1, fun V d E _ B _ => f2 V d E B⟩
theorem ChV.s (hj : j ≤ 3) (C : ChV kd nv K r P j) : ChV kd nv K r P (j + 1) := by
  intro S a z
  rw [chn] at z ⊢
  have u : (chn kd K P j S).1.1 = 0 := Decidable.byContradiction (fun y => by
    have dd : ∀ k, lpc kd (chn kd K P j) (nI (3 - j)) k (chn kd K P j S) = chn kd K P j S := fun k => by
      cases k with
      | zero => rfl
      | succ k => rw [lpc, if_neg (fun x => y x.1)]
    rw [dd] at z
    exact y z)
  obtain ⟨v, ⟨v1, v2, v3⟩, v4⟩ := C S a u
  generalize chn kd K P j S = U at z u v1 v2 v3 v4 ⊢
  obtain ⟨f, ⟨f1, f2, f3⟩, f4⟩ := LpV hj C (if j = 2 then 1 else K) U u z (fun y => by rw [if_pos y]; exact Nat.le_refl _)
  generalize lpc kd (chn kd K P j) (nI (3 - j)) (if j = 2 then 1 else K) U = T at z f1 f2 f3 f4 ⊢
  refine ⟨fun V => f V (v V), ⟨by omega, fun p hp => ?_, fun V row stk hrow hlen => ?_⟩, fun V d E hd B hp => ?_⟩
  · rw [f2 p (by omega)]; exact v2 p hp
  · have r1 := v3 V row stk (fun p p1 p2 => by rw [hrow p p1 (by omega), f2 p (by omega)]) (by omega)
    exact r1.tr (f3 V row stk _ (fun p p1 p2 => hrow p (by omega) p2) (by omega))
  · obtain ⟨E1, t1, t2, t3⟩ := v4 V d E hd B hp.dn
    have K1 := t2.up hj
    obtain ⟨E2, x1, x2, x3⟩ := f4 V d E1 hd (B.ke K1) (fun y _ => by
      subst y
      rw [t2.at (o := 18) (by decide)]
      exact hp.2.2.1 (by decide))
    refine ⟨E2, t1.tr x1, ?_, ?_⟩
    · rw [KEj, if_neg (by omega)]; exact K1.tr x2
    · rw [FinE, if_neg (by omega), x3, FinE.up hj hp t2 t3]
end VAL3
