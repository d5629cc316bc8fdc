/-! The class's parser: the small steps. A fault, once set, stays; what stands with it is not looked at any more. -/
def ZP (x ρ a : Nat) : Prop := a = x + 17 ∨ a = x + 19 ∨ (ρ ≤ a ∧ a ≤ ρ + 11)
/-- what stands still while a river is read -/
def PK (x ρ : Nat) (s : Nat → Int32) (n N : Nat) (kd pc : Nat → Int32) (h : am_H) : Prop := XL x h ∧ TpX x h (n, s) ∧ (hI h (x + 13) 4 = nI (N + 1) ∧ N ≤ 1000 ∧ eqR (N + 1) (hI h (x + 15)) kd ∧ eqR (N + 1) (hI h (x + 16)) pc ∧ kd N = 0) ∧ hR h (x + 17) 3 = ρ ∧ x + 69 ≤ ρ ∧ am_L 6 ρ h ∧ am_L 2 (ρ + 1) h ∧ hN h (ρ + 10) = 5
section XPARSE
variable {w : am_W} {d : Nat} {h : am_H} {Q : Option Value → am_H → Prop} {x ρ n N : Nat} {s kd pc : Nat → Int32}
theorem PK.fr {h1 : am_H} (P : PK x ρ s n N kd pc h) (F : FrJ (ZP x ρ) (x + 18) h h1) : PK x ρ s n N kd pc h1 := by
  obtain ⟨p1, p2, ⟨p3, p4, p5, p6, p7⟩, p8, p9, p10, p11, p12⟩ := P
  have e : ∀ a, x + 13 ≤ a → a ≤ x + 16 → hI h1 a = hI h a := fun a h1 h2 => F.I (fun z => by unfold ZP at z; omega)
  refine ⟨p1.kn F.kn, ?_, ⟨?_, p4, ?_, ?_, p7⟩, ?_, p9, F.L p10, F.L p11, ?_⟩
  · obtain ⟨a1, a2, a3⟩ := p2
    exact ⟨by rw [e _ (by omega) (by omega)]; exact a1, by rw [e _ (by omega) (by omega)]; exact a2, a3⟩
  · rw [e _ (by omega) (by omega)]; exact p3
  · rw [e _ (by omega) (by omega)]; exact p5
  · rw [e _ (by omega) (by omega)]; exact p6
  · rw [F.2.2.1]; exact p8
  · rw [F.N]; exact p12
abbrev P2 : Type := Int32 × Nat
def wrg (pc : Nat → Int32) (k : Int32) (S : P2) : P2 := if S.1 = 0 then (k + 16 * pc S.2, S.2) else S
def stp (S : P2) : P2 := if S.1 = 0 then (0, S.2 + 1) else S
def xpt (kd pc : Nat → Int32) (k : Int32) (S : P2) : P2 := if S.1 = 0 then (if kd S.2 = k then (0, S.2 + 1) else (1 + 16 * pc S.2, S.2)) else S
def num (kd pc nv : Nat → Int32) (lo hi : Int32) (S : P2) : P2 := if S.1 = 0 then (if kd S.2 = 2 then (if nv S.2 < lo then (4 + 16 * pc S.2, S.2) else if nv S.2 ≤ hi then (0, S.2 + 1) else (4 + 16 * pc S.2, S.2)) else (1 + 16 * pc S.2, S.2)) else S
/-- the fault, and while there is none the token -/
def P0 (x N : Nat) (h : am_H) (S : P2) : Prop := hI h (x + 17) 6 = S.1 ∧ (S.1 = 0 → hI h (x + 17) 5 = nI S.2 ∧ S.2 ≤ N)
def FL (x : Nat) (h h' : am_H) : Prop := FrA (fun a => a = x + 17) h h' ∧ ∀ k, k ≠ 5 → k ≠ 6 → hI h' (x + 17) k = hI h (x + 17) k
theorem FL.rf : FL x h h := ⟨FrA.rf, fun _ _ _ => rfl⟩
theorem FL.tr {h1 h2 : am_H} (F : FL x h h1) (G : FL x h1 h2) : FL x h h2 := ⟨F.1.tr G.1, fun k a b => (G.2 k a b).trans (F.2 k a b)⟩
theorem FL.I {h1 : am_H} (F : FL x h h1) {k : Nat} {v : Int32} (hk : k = 5 ∨ k = 6) : FL x h (sI h1 (x + 17) k v) :=
  ⟨F.1.fld rfl, fun j a b => by rw [sI_f, if_neg (by omega)]; exact F.2 j a b⟩
theorem FL.J {h1 : am_H} (F : FL x h h1) : FrJ (ZP x ρ) (x + 18) h h1 := F.1.toJ (fun a ha => Or.inl ha)
theorem PK.l5 (P : PK x ρ s n N kd pc h) : am_L 5 (x + 17) h := P.1.2.2.2.1
theorem PK.t (P : PK x ρ s n N kd pc h) : hR h (x + 17) 0 = x + 13 := P.1.2.2.2.2.1.2.2
theorem PK.l8 (P : PK x ρ s n N kd pc h) : am_L 8 (x + 13) h := P.1.2.1
theorem c_kind {S : P2} (P : PK x ρ s n N kd pc h) (I : P0 x N h S) (q : ∀ v : Int32, (S.1 = 0 → v = kd S.2) → Q (some (.int v)) h) : EvM w mX5_kind d [.ref (x + 17)] h Q := by
  have ht := P.t
  have n2 : hN h (x + 13 + 2) = 1001 := P.1.2.2.1.2.1
  obtain ⟨p3, p4, p5, p6, p7⟩ := P.2.2.1
  refine bX5_kind_0 ⟨P.l5, fun c => q 0 (fun a => ?_), fun c => ?_⟩
  · rw [(I.2 a).1] at c
    exact absurd c (nI_pos (by have := (I.2 a).2; omega))
  rw [ht, n2]
  refine ⟨by omega, P.l8, fun c2 => q 0 (fun a => ?_), fun c2 => ⟨in_of c c2 (by decide), q _ (fun a => ?_)⟩⟩
  · obtain ⟨i1, i2⟩ := I.2 a
    rw [i1, nI_leI (by decide) (by omega)] at c2
    omega
  · obtain ⟨i1, i2⟩ := I.2 a
    rw [i1, nI_clamp (by omega)]
    exact p5 S.2 (by omega)
theorem c_step {S : P2} (P : PK x ρ s n N kd pc h) (I : P0 x N h S) (hs : S.1 = 0 → ¬ kd S.2 = 0) (q : ∀ h', FL x h h' → P0 x N h' (stp S) → Q none h') : EvM w mX5_step d [.ref (x + 17)] h Q := by
  have ht := P.t
  obtain ⟨p3, p4, p5, p6, p7⟩ := P.2.2.1
  refine bX5_step_0 ⟨P.l5, by rw [ht]; omega, by rw [ht]; exact P.l8, ?_⟩
  rw [ht, p3, show nI (N + 1) - 1 = nI N by rw [show (1 : Int32) = nI 1 by decide, nI_sub (by omega)]; rfl]
  refine ⟨fun c => q h FL.rf ⟨?_, fun a => ?_⟩, fun c h4 e4 => q h4 (by rw [e4]; exact FL.rf.I (Or.inl rfl)) ⟨?_, fun a => ?_⟩⟩
  · rw [I.1, stp]
    split
    · assumption
    · rfl
  · by_cases a0 : S.1 = 0
    · obtain ⟨i1, i2⟩ := I.2 a0
      rw [i1, nI_leI (by omega) (by omega)] at c
      have : S.2 = N := by omega
      exact absurd (by rw [this]; exact p7) (hs a0)
    · rw [stp, if_neg a0] at a
      exact absurd a a0
  · rw [e4, sI_f, if_neg (by decide), I.1, stp]
    split
    · assumption
    · rfl
  · by_cases a0 : S.1 = 0
    · obtain ⟨i1, i2⟩ := I.2 a0
      rw [i1, nI_leI (by omega) (by omega)] at c
      rw [stp, if_pos a0]
      refine ⟨?_, by show S.2 + 1 ≤ N; omega⟩
      rw [e4, sI_f, if_pos rfl, i1, nI_1]
    · rw [stp, if_neg a0] at a
      exact absurd a a0
theorem c_wrong {S : P2} {k : Int32} (P : PK x ρ s n N kd pc h) (I : P0 x N h S) (q : ∀ h', FL x h h' → P0 x N h' (wrg pc k S) → Q none h') : EvM w mX5_wrong d [.ref (x + 17), .int k] h Q := by
  have ht := P.t
  have n3 : hN h (x + 13 + 3) = 1001 := P.1.2.2.1.2.2
  obtain ⟨p3, p4, p5, p6, p7⟩ := P.2.2.1
  refine bX5_wrong_0 ⟨P.l5, fun c => ?_, fun c => q h FL.rf ?_⟩
  · rw [I.1] at c
    obtain ⟨i1, i2⟩ := I.2 c
    rw [i1]
    refine ⟨fun c2 => absurd c2 (nI_pos (by omega)), fun c2 => ?_⟩
    rw [ht, n3]
    refine ⟨by omega, P.l8, fun c3 => absurd c3 (by rw [nI_leI (by decide) (by omega)]; omega), fun c3 => ⟨in_of c2 c3 (by decide), fun h5 e5 => q h5 (by rw [e5]; exact FL.rf.I (Or.inr rfl)) ?_⟩⟩
    rw [nI_clamp (by omega), show hI h (x + 13 + 3) S.2 = pc S.2 from p6 S.2 (by omega)] at e5
    rw [wrg, if_pos c]
    refine ⟨by rw [e5, sI_f, if_pos rfl], fun _ => ⟨by rw [e5, sI_f, if_neg (by decide)]; exact i1, i2⟩⟩
  · rw [I.1] at c
    rw [wrg, if_neg c]
    exact I
theorem c_expect {S : P2} {k : Int32} (P : PK x ρ s n N kd pc h) (I : P0 x N h S) (hk : ¬ k = 0) (q : ∀ h', FL x h h' → P0 x N h' (xpt kd pc k S) → Q none h') : EvM w mX5_expect (d + 1) [.ref (x + 17), .int k] h Q := by
  have dead : ¬ S.1 = 0 → xpt kd pc k S = stp S ∧ xpt kd pc k S = wrg pc 1 S := fun a => by rw [xpt, stp, wrg, if_neg a, if_neg a, if_neg a]; exact ⟨rfl, rfl⟩
  refine bX5_expect_0 ⟨P.l5, c_kind P I (fun v hv => ⟨v, rfl, fun c => ⟨P.l5, c_step P I (fun a => ?_) (fun h' F I' => ⟨rfl, q h' F ?_⟩)⟩, fun c => ⟨P.l5, c_wrong P I (fun h' F I' => ⟨rfl, q h' F ?_⟩)⟩⟩)⟩
  · rw [← hv a, c]; exact hk
  · by_cases a : S.1 = 0
    · rw [xpt, if_pos a, if_pos (by rw [← hv a]; exact c)]
      rw [stp, if_pos a] at I'
      exact I'
    · rw [(dead a).1]; exact I'
  · by_cases a : S.1 = 0
    · rw [xpt, if_pos a, if_neg (by rw [← hv a]; exact c)]
      rw [wrg, if_pos a] at I'
      exact I'
    · rw [(dead a).2]; exact I'
end XPARSE
