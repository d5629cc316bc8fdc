/-! The class's parser: names, sides, kinds. -/
def dup (ky : Nat → Int64) (nm : Nat → Nat) (i : Nat) : Nat → Bool
  | 0 => false
  | j + 1 => dup ky nm i j || decide (ky (nm j) = ky i)
def nme (kd pc : Nat → Int32) (ky : Nat → Int64) (nm : Nat → Nat) (t : Nat) (S : P2) : P2 := if S.1 = 0 then (if kd S.2 = 3 then (if dup ky nm S.2 t then (3 + 16 * pc S.2, S.2) else (0, S.2 + 1)) else (1 + 16 * pc S.2, S.2)) else S
def sdw (kd pc : Nat → Int32) (S : P2) : P2 := if S.1 = 0 then (if kd S.2 = 75 then (0, S.2 + 1) else if kd S.2 = 76 then (0, S.2 + 1) else (1 + 16 * pc S.2, S.2)) else S
def kwd (kd pc : Nat → Int32) (ch : Nat) (S : P2) : P2 := if S.1 = 0 then (if kd S.2 < 81 then (1 + 16 * pc S.2, S.2) else if kd S.2 ≤ 86 then (if kd S.2 = 86 ∧ 8 ≤ ch then (5 + 16 * pc S.2, S.2) else (0, S.2 + 1)) else (1 + 16 * pc S.2, S.2)) else S
theorem dup_tt {ky : Nat → Int64} {nm : Nat → Nat} {i : Nat} : ∀ {t j : Nat}, j < t → ky (nm j) = ky i → dup ky nm i t = true := by
  intro t
  induction t with
  | zero => intro j h _; omega
  | succ t ih =>
    intro j h e
    rw [dup]
    by_cases c : j = t
    · subst c
      rw [decide_eq_true e, Bool.or_true]
    · rw [ih (by omega) e, Bool.true_or]
section XPARSE6
variable {w : am_W} {d : Nat} {h : am_H} {Q : Option Value → am_H → Prop} {x ρ n N : Nat} {s kd pc : Nat → Int32} {bg : Nat → Nat}
theorem P0.wr {h1 : am_H} {S T : P2} {k : Int32} (I' : P0 x N h1 (wrg pc k S)) (e : S.1 = 0 → T = (k + 16 * pc S.2, S.2)) (e2 : ¬ S.1 = 0 → T = S) : P0 x N h1 T := by
  by_cases a : S.1 = 0
  · rw [wrg, if_pos a] at I'; rw [e a]; exact I'
  · rw [wrg, if_neg a] at I'; rw [e2 a]; exact I'
theorem P0.st {h1 : am_H} {S T : P2} (I' : P0 x N h1 (stp S)) (e : S.1 = 0 → T = (0, S.2 + 1)) (e2 : ¬ S.1 = 0 → T = S) : P0 x N h1 T := by
  by_cases a : S.1 = 0
  · rw [stp, if_pos a] at I'; rw [e a]; exact I'
  · rw [stp, if_neg a] at I'; rw [e2 a]; exact I'
theorem c_sideWord {S : P2} (P : PK x ρ s n N kd pc h) (B : BgO N pc bg) (I : P0 x N h S) (q : ∀ v h', FL x h h' → P0 x N h' (sdw kd pc S) → ((sdw kd pc S).1 = 0 → S.1 = 0 ∧ v = kd S.2 - 75 ∧ (kd S.2 = 75 ∨ kd S.2 = 76)) → Q (some (.int v)) h') : EvM w mX5_sideWord (d + 1) [.ref (x + 17)] h Q := by
  have dd : ¬ S.1 = 0 → sdw kd pc S = S := fun a => by rw [sdw, if_neg a]
  have al : (sdw kd pc S).1 = 0 → S.1 = 0 := fun z => Decidable.byContradiction (fun a => a (by rw [dd a] at z; exact z))
  refine bX5_sideWord_0 ⟨P.l5, c_kind P I (fun v hv => ⟨v, rfl, fun c => ⟨P.l5, c_step P I (fun a => by rw [← hv a, c]; decide) (fun h' F I' => ⟨rfl, q _ h' F (I'.st (fun a => ?_) dd) (fun z => ⟨al z, by rw [← hv (al z)], Or.inl (by rw [← hv (al z)]; exact c)⟩)⟩)⟩, fun c => ⟨fun c2 => ⟨P.l5, c_step P I (fun a => by rw [← hv a, c2]; decide) (fun h' F I' => ⟨rfl, q _ h' F (I'.st (fun a => ?_) dd) (fun z => ⟨al z, by rw [← hv (al z)], Or.inr (by rw [← hv (al z)]; exact c2)⟩)⟩)⟩, fun c2 => ⟨P.l5, c_wrong P I (fun h' F I' => ⟨rfl, q _ h' F (I'.wr (fun a => ?_) dd) (fun z => ?_)⟩)⟩⟩⟩)⟩
  · rw [sdw, if_pos a, if_pos (by rw [← hv a]; exact c)]
  · rw [sdw, if_pos a, if_neg (by rw [← hv a]; exact c), if_pos (by rw [← hv a]; exact c2)]
  · rw [sdw, if_pos a, if_neg (by rw [← hv a]; exact c), if_neg (by rw [← hv a]; exact c2)]
  · have a := al z
    rw [sdw, if_pos a, if_neg (by rw [← hv a]; exact c), if_neg (by rw [← hv a]; exact c2), (B S.2 (I.2 a).2).1] at z
    exact absurd z (flt_ne (k := 1) (by decide) (by decide) (B S.2 (I.2 a).2).2)
theorem c_kindWord {S : P2} {ch : Nat} (P : PK x ρ s n N kd pc h) (B : BgO N pc bg) (I : P0 x N h S) (hch : hI h ρ 12 = nI ch) (hc8 : ch ≤ 8) (q : ∀ v h', FL x h h' → P0 x N h' (kwd kd pc ch S) → ((kwd kd pc ch S).1 = 0 → S.1 = 0 ∧ v = kd S.2 ∧ ¬ v < 81 ∧ v ≤ 86 ∧ (v = 86 → ch < 8)) → Q (some (.int v)) h') : EvM w mX5_kindWord (d + 1) [.ref (x + 17)] h Q := by
  have dd : ¬ S.1 = 0 → kwd kd pc ch S = S := fun a => by rw [kwd, if_neg a]
  have al : (kwd kd pc ch S).1 = 0 → S.1 = 0 := fun z => Decidable.byContradiction (fun a => a (by rw [dd a] at z; exact z))
  have r3 : hR h (x + 17) 3 = ρ := P.2.2.2.1
  have hρ := P.hr
  have l8 : (8 : Int32) = nI 8 := by decide
  refine bX5_kindWord_0 ⟨P.l5, c_kind P I (fun v hv => ⟨v, rfl, fun c => ⟨P.l5, c_wrong P I (fun h' F I' => ⟨rfl, q _ h' F (I'.wr (fun a => ?_) dd) (fun z => ?_)⟩)⟩, fun c => ⟨fun c2 => ⟨fun c3 => ⟨P.l5, by rw [r3]; omega, by rw [r3]; exact P.2.2.2.2.2.1, ?_⟩, fun c3 => ⟨P.l5, c_step P I (fun a => ?_) (fun h' F I' => ⟨rfl, q _ h' F (I'.st (fun a => ?_) dd) (fun z => ⟨al z, hv (al z), c, c2, fun e => absurd e c3⟩)⟩)⟩⟩, fun c2 => ⟨P.l5, c_wrong P I (fun h' F I' => ⟨rfl, q _ h' F (I'.wr (fun a => ?_) dd) (fun z => ?_)⟩)⟩⟩⟩)⟩
  · rw [kwd, if_pos a, if_pos (by rw [← hv a]; exact c)]
  · have a := al z
    rw [kwd, if_pos a, if_pos (by rw [← hv a]; exact c), (B S.2 (I.2 a).2).1] at z
    exact absurd z (flt_ne (k := 1) (by decide) (by decide) (B S.2 (I.2 a).2).2)
  · rw [r3, hch, l8, nI_ltI (by omega) (by decide)]
    refine ⟨fun c4 => c_step P I (fun a => by rw [← hv a, c3]; decide) (fun h' F I' => ⟨rfl, q _ h' F (I'.st (fun a => ?_) dd) (fun z => ⟨al z, hv (al z), c, c2, fun _ => c4⟩)⟩), fun c4 => c_wrong P I (fun h' F I' => ⟨rfl, q _ h' F (I'.wr (fun a => ?_) dd) (fun z => ?_)⟩)⟩
    · rw [kwd, if_pos a, if_neg (by rw [← hv a]; exact c), if_pos (by rw [← hv a]; exact c2), if_neg (fun z => by omega)]
    · rw [kwd, if_pos a, if_neg (by rw [← hv a]; exact c), if_pos (by rw [← hv a]; exact c2), if_pos ⟨by rw [← hv a]; exact c3, by omega⟩]
    · have a := al z
      rw [kwd, if_pos a, if_neg (by rw [← hv a]; exact c), if_pos (by rw [← hv a]; exact c2), if_pos ⟨by rw [← hv a]; exact c3, by omega⟩, (B S.2 (I.2 a).2).1] at z
      exact absurd z (flt_ne (k := 5) (by decide) (by decide) (B S.2 (I.2 a).2).2)
  · rw [← hv a]; intro z; rw [z] at c; exact c (by decide)
  · rw [kwd, if_pos a, if_neg (by rw [← hv a]; exact c), if_pos (by rw [← hv a]; exact c2), if_neg (fun z => c3 (by rw [hv a]; exact z.1))]
  · rw [kwd, if_pos a, if_neg (by rw [← hv a]; exact c), if_neg (by rw [← hv a]; exact c2)]
  · have a := al z
    rw [kwd, if_pos a, if_neg (by rw [← hv a]; exact c), if_neg (by rw [← hv a]; exact c2), (B S.2 (I.2 a).2).1] at z
    exact absurd z (flt_ne (k := 1) (by decide) (by decide) (B S.2 (I.2 a).2).2)
/-- what a name changes -/
def FN (x : Nat) (t : Nat) (h h' : am_H) : Prop := FrJ (fun a => a = x + 17) (x + 18) h h' ∧ (∀ k, k ≠ 5 → k ≠ 6 → hI h' (x + 17) k = hI h (x + 17) k) ∧ ∀ j, j < t → hJ h' (x + 18) j = hJ h (x + 18) j
theorem FL.fn {h1 : am_H} {t : Nat} (F : FL x h h1) : FN x t h h1 := ⟨F.1.toJ (fun _ e => e), F.2, fun j _ => by rw [F.1.2.2.1]⟩
set_option maxHeartbeats 1000000 in
theorem c_name {S : P2} {nm : Nat → Nat} {t : Nat} (P : PK x ρ s n N kd pc h) (B : BgO N pc bg) (I : P0 x N h S) (ht : hI h (ρ + 1) 5 = nI t) (ht2 : t < 16) (hn : S.1 = 0 → ∀ j, j < t → hJ h (x + 18) j = kyT s n (bg (nm j)))
    (q : ∀ h', FN x t h h' → P0 x N h' (nme kd pc (fun i => kyT s n (bg i)) nm t S) → ((nme kd pc (fun i => kyT s n (bg i)) nm t S).1 = 0 → S.1 = 0 ∧ kd S.2 = 3 ∧ hJ h' (x + 18) t = kyT s n (bg S.2)) → Q none h') : EvM w mX5_name (d + 2) [.ref (x + 17)] h Q := by
  have dd : ¬ S.1 = 0 → nme kd pc (fun i => kyT s n (bg i)) nm t S = S := fun a => by rw [nme, if_neg a]
  have al : (nme kd pc (fun i => kyT s n (bg i)) nm t S).1 = 0 → S.1 = 0 := fun z => Decidable.byContradiction (fun a => a (by rw [dd a] at z; exact z))
  have r3 : hR h (x + 17) 3 = ρ := P.2.2.2.1
  have hρ := P.hr
  have n18 : hN h (x + 17 + 1) = 16 := P.1.2.2.2.2.1.1
  refine bX5_name_0 ⟨P.l5, c_kind P I (fun v hv => ⟨v, rfl, fun c => ⟨P.l5, by rw [P.t]; omega, by rw [P.t]; exact P.l8, ?_⟩, fun c => ⟨P.l5, c_wrong P I (fun h' F I' => ⟨rfl, q h' F.fn (I'.wr (fun a => ?_) dd) (fun z => ?_)⟩)⟩⟩)⟩
  · rw [P.t]
    refine c_keyX P.1 P.2.1 (fun ky hky => ⟨ky, rfl, P.l5, ?_⟩)
    rw [r3]
    refine ⟨by omega, P.2.2.2.2.2.1, P.2.2.2.2.2.2.1, ?_⟩
    rw [ht]
    have eky : S.1 = 0 → ky = kyT s n (bg S.2) := fun a => by
      obtain ⟨i1, i2⟩ := I.2 a
      refine hky (bg S.2) ?_ (B S.2 i2).2
      rw [i1, gv_nI (by have := P.2.2.1.2.1; omega) (by decide), P.2.2.1.2.2.2.1 S.2 (by omega)]
      exact (B S.2 i2).1
    have loop : ∀ k j, j + k = t → (S.1 = 0 → dup (fun i => kyT s n (bg i)) nm S.2 j = false) → Ev w (am_Z w) mX5_name (d + 1 + 1) 40 [(0, .ref (x + 17)), (1, .long ky), (3, .int (nI t)), (4, .int (nI j))] [] h Q := by
      intro k
      induction k with
      | zero =>
        intro j hj hd
        have hj : j = t := by omega
        subst hj
        refine bX5_name_40 ⟨fun _ => ?_, fun c => absurd (Int32.le_refl _) c⟩
        refine bX5_name_80 ⟨fun c => absurd c (nI_pos (by omega)), fun _ => ⟨P.l5, ?_⟩⟩
        rw [n18]
        refine ⟨fun c => absurd c (by rw [nI_leI (by decide) (by omega)]; omega), fun _ => ⟨vp_in_nI ht2 (by decide), fun h8 e8 => ?_⟩⟩
        rw [nI_clamp (by omega)] at e8
        have F8 : FrJ (fun a => a = x + 17) (x + 18) h h8 := by rw [e8]; exact FrJ.rf.j
        have P8 : PK x ρ s n N kd pc h8 := P.fr (by rw [e8]; exact FrJ.rf.j)
        have I8 : P0 x N h8 S := by rw [e8]; exact I
        refine c_step P8 I8 (fun a => by rw [← hv a, c]; decide) (fun h' F I' => ⟨rfl, q h' ?_ (I'.st (fun a => ?_) dd) (fun z => ⟨al z, by rw [← hv (al z)]; assumption, ?_⟩)⟩)
        · refine ⟨F8.tr (F.1.toJ (fun _ e => e)), fun k a b => (F.2 k a b).trans (by rw [e8]; rfl), fun i hi => ?_⟩
          rw [F.1.2.2.1, e8]
          show va_up (hJ h) (x + 17 + 1) (va_up (hJ h (x + 17 + 1)) j ky) (x + 18) i = _
          rw [va_up_self, va_up_ne _ _ (by omega)]
        · rw [nme, if_pos a, if_pos (by rw [← hv a]; assumption), if_neg (by rw [hd a]; decide)]
        · rw [F.1.2.2.1, e8]
          show va_up (hJ h) (x + 17 + 1) (va_up (hJ h (x + 17 + 1)) j ky) (x + 18) j = _
          rw [va_up_self, va_up_self]
          exact eky (al z)
      | succ k ih =>
        intro j hj hd
        refine bX5_name_40 ⟨fun c => absurd c (by rw [nI_leI (by omega) (by omega)]; omega), fun _ => ⟨P.l5, ?_⟩⟩
        rw [n18]
        refine ⟨fun c => absurd c (by rw [nI_leI (by decide) (by omega)]; omega), fun _ => ⟨vp_in_nI (by omega) (by decide), ?_⟩⟩
        rw [nI_clamp (by omega)]
        refine ⟨fun e => c_wrong P I (fun h' F I' => ⟨rfl, q h' F.fn (I'.wr (fun a => ?_) dd) (fun z => ?_)⟩), fun e => ?_⟩
        · rw [nme, if_pos a, if_pos (by rw [← hv a]; exact c), if_pos (dup_tt (j := j) (by omega) ?_)]
          show kyT s n (bg (nm j)) = kyT s n (bg S.2)
          rw [← hn a j (by omega), ← eky a]; exact e
        · have a := al z
          rw [nme, if_pos a, if_pos (by rw [← hv a]; exact c), if_pos (dup_tt (j := j) (by omega) (by show kyT s n (bg (nm j)) = kyT s n (bg S.2); rw [← hn a j (by omega), ← eky a]; exact e)), (B S.2 (I.2 a).2).1] at z
          exact absurd z (flt_ne (k := 3) (by decide) (by decide) (B S.2 (I.2 a).2).2)
        · rw [nI_1]
          refine ih (j + 1) (by omega) (fun a => ?_)
          rw [dup, hd a, Bool.false_or]
          exact decide_eq_false (fun z => e (by show hJ h (x + 18) j = ky; rw [hn a j (by omega), eky a]; exact z))
    exact loop t 0 (by omega) (fun _ => rfl)
  · rw [nme, if_pos a, if_neg (by rw [← hv a]; exact c)]
  · have a := al z
    rw [nme, if_pos a, if_neg (by rw [← hv a]; exact c), (B S.2 (I.2 a).2).1] at z
    exact absurd z (flt_ne (k := 1) (by decide) (by decide) (B S.2 (I.2 a).2).2)
end XPARSE6
