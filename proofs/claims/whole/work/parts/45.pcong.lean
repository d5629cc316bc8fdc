/-! A day depends on the first n persons' rows alone. -/
def eqR (n : Nat) (f g : Nat → Int32) : Prop := ∀ p, p < n → f p = g p
theorem eqR.rf {n : Nat} {f : Nat → Int32} : eqR n f f := fun _ _ => rfl
theorem eqR.up {n : Nat} {f g : Nat → Int32} (e : eqR n f g) (p : Nat) (v : Int32) : eqR n (va_up f p v) (va_up g p v) := by
  intro q hq
  rw [va_ui, va_ui, e q hq]
theorem fst_eq {W W' : Nat → Bool} {a a' : Nat → Int32} : ∀ {n : Nat}, (∀ p, p < n → W p = W' p) → eqR n a a' → fst W a n = fst W' a' n := by
  intro n
  induction n with
  | zero => intro _ _; rfl
  | succ n ih =>
    intro hW ha
    rw [fst, fst, ih (fun p hp => hW p (by omega)) (fun p hp => ha p (by omega)), hW n (by omega)]
    cases hf : fst W' a' n with
    | none => rfl
    | some b =>
      have := fst_lt hf
      simp only
      rw [ha b (by omega), ha n (by omega)]
theorem wtp_eq {n : Nat} {sd sd' a a' g g' : Nat → Int32} {bank minute : Int32} (h1 : eqR n sd sd') (h2 : eqR n a a') (h3 : eqR n g g') : ∀ p, p < n → wtp sd a g bank minute p = wtp sd' a' g' bank minute p := by
  intro p hp
  unfold wtp
  rw [h1 p hp, h2 p hp, h3 p hp]
theorem lvs_eq {n : Nat} {sd sd' a a' : Nat → Int32} {bank minute rg : Int32} (h1 : eqR n sd sd') (h2 : eqR n a a') : ∀ (k : Nat) {g g' b b' : Nat → Int32}, eqR n g g' → eqR n b b' → eqR n (lvs sd a n bank minute rg k g b).1 (lvs sd' a' n bank minute rg k g' b').1 ∧ eqR n (lvs sd a n bank minute rg k g b).2.1 (lvs sd' a' n bank minute rg k g' b').2.1 ∧ (lvs sd a n bank minute rg k g b).2.2 = (lvs sd' a' n bank minute rg k g' b').2.2 := by
  intro k
  induction k with
  | zero => intro g g' b b' hg hb; exact ⟨hg, hb, rfl⟩
  | succ k ih =>
    intro g g' b b' hg hb
    rw [lvs, lvs, fst_eq (wtp_eq h1 h2 hg) h2]
    cases hf : fst (wtp sd' a' g' bank minute) a' n with
    | none => exact ⟨hg, hb, rfl⟩
    | some p =>
      obtain ⟨i1, i2, i3⟩ := ih (hg.up p minute) (hb.up p rg)
      exact ⟨i1, i2, by simp only; rw [i3]⟩
theorem acV_eq {n : Nat} {sd sd' a a' wt wt' ct ct' g g' V : Nat → Int32} {minute : Int32} (h1 : eqR n sd sd') (h2 : eqR n a a') (h3 : eqR n wt wt') (h4 : eqR n ct ct') (h5 : eqR n g g') : ∀ k, k ≤ n → acV sd a wt ct g minute V k = acV sd' a' wt' ct' g' minute V k := by
  intro k
  induction k with
  | zero => intro _; rfl
  | succ k ih =>
    intro hk
    rw [acV, acV, ih (by omega), h2 k (by omega), h5 k (by omega)]
    unfold stV
    rw [h1 k (by omega), h2 k (by omega), h3 k (by omega), h4 k (by omega)]
def eqP (n : Nat) (P P' : rP) : Prop := P.2.1 = P'.2.1 ∧ eqR n P.2.2.1 P'.2.2.1 ∧ eqR n P.2.2.2.1 P'.2.2.2.1 ∧ eqR n P.2.2.2.2.1 P'.2.2.2.2.1 ∧ eqR n P.2.2.2.2.2.2 P'.2.2.2.2.2.2
/-- states alike: who is gone and by which; as many ringings, k, the rows alike so far; the boats -/
def eqS (n k : Nat) (S S' : rS) : Prop := eqR n S.1 S'.1 ∧ eqR n S.2.1 S'.2.1 ∧ S.2.2.1 = nI k ∧ S'.2.2.1 = nI k ∧ eqR k S.2.2.2.1 S'.2.2.2.1 ∧ eqR k S.2.2.2.2.1 S'.2.2.2.2.1 ∧ eqR k S.2.2.2.2.2.1 S'.2.2.2.2.2.1 ∧ S.2.2.2.2.2.2.1 = S'.2.2.2.2.2.2.1 ∧ S.2.2.2.2.2.2.2 = S'.2.2.2.2.2.2.2
theorem eqR.s {k : Nat} {f g : Nat → Int32} (e : eqR k f g) {u v : Int32} (huv : u = v) : eqR (k + 1) (va_up f k u) (va_up g k v) := by
  intro p hp
  by_cases h : p = k
  · subst h; rw [va_up_self, va_up_self, huv]
  · rw [va_up_ne _ _ h, va_up_ne _ _ h]; exact e p (by omega)
theorem wr_eq {n k : Nat} {P P' : rP} {S S' : rS} {lf : (Nat → Int32) → Int32} {minute : Int32} (hP : eqP n P P') (hS : eqS n k S S') : wr P n lf minute S = wr P' n lf minute S' := by
  obtain ⟨p1, p2, p3, p4, p5⟩ := hP
  obtain ⟨s1, s2, s3, s4, s5, s6, s7, s8, s9⟩ := hS
  have e : fcV P S.1 n minute (fun _ => 0) = fcV P' S'.1 n minute (fun _ => 0) := by
    unfold fcV
    rw [acV_eq p2 p3 p4 p5 s1 n (Nat.le_refl _)]
  unfold wr wrV
  rw [e, s8, s9, p1]
theorem ring1_eq {n k room : Nat} {P P' : rP} {S S' : rS} {trip minute : Int32} (hk : k < 2 ^ 31) (hP : eqP n P P') (hS : eqS n k S S') : eqS n (k + 1) (ring1 P n room trip minute S) (ring1 P' n room trip minute S') := by
  obtain ⟨p1, p2, p3, p4, p5⟩ := hP
  obtain ⟨s1, s2, s3, s4, s5, s6, s7, s8, s9⟩ := hS
  have hc : (nI k).toNatClampNeg = k := nI_clamp hk
  obtain ⟨l1, l2, l3⟩ := lvs_eq (bank := 0) (minute := minute) (rg := nI k) p2 p3 room s1 s2
  obtain ⟨r1, r2, r3⟩ := lvs_eq (bank := 1) (minute := minute) (rg := nI k) p2 p3 room l1 l2
  unfold ring1
  rw [s3, s4, hc]
  refine ⟨r1, r2, (nI_succ k).symm, (nI_succ k).symm, s5.s rfl, s6.s ?_, s7.s ?_, ?_, ?_⟩
  · rw [l3]
  · rw [r3]
  · show (if minute < S.2.2.2.2.2.2.1 then _ else _) = if minute < S'.2.2.2.2.2.2.1 then _ else _
    rw [s8]
  · show (if minute < S.2.2.2.2.2.2.1 then _ else _) = if minute < S'.2.2.2.2.2.2.1 then _ else _
    rw [s8, s9]
theorem rgs_eq {n room : Nat} {P P' : rP} {lf : (Nat → Int32) → Int32} {trip minute : Int32} (hP : eqP n P P') : ∀ (f : Nat) {k : Nat} {S S' : rS}, k + f < 2 ^ 31 → eqS n k S S' → ∃ k', k' ≤ k + f ∧ eqS n k' (rgs P n room trip lf minute f S) (rgs P' n room trip lf minute f S') := by
  intro f
  induction f with
  | zero => intro k S S' _ h; exact ⟨k, by omega, h⟩
  | succ f ih =>
    intro k S S' hk h
    rw [rgs, rgs, wr_eq hP h]
    split
    · obtain ⟨k', h1, h2⟩ := ih (k := k + 1) (by omega) (ring1_eq (room := room) (trip := trip) (minute := minute) (by omega) hP h)
      exact ⟨k', by omega, h2⟩
    · exact ⟨k, by omega, h⟩
theorem goS_eq {n room : Nat} {P P' : rP} {lf : (Nat → Int32) → Int32} {trip : Int32} (hP : eqP n P P') : ∀ (j a : Nat) {k : Nat} {S S' : rS}, k + j * n < 2 ^ 31 → eqS n k S S' → ∃ k', k' ≤ k + j * n ∧ eqS n k' (goS P n room trip lf j a S) (goS P' n room trip lf j a S') := by
  intro j
  induction j with
  | zero => intro a k S S' _ h; exact ⟨k, by omega, h⟩
  | succ j ih =>
    intro a k S S' hk h
    rw [goS, goS]
    have e : (j + 1) * n = j * n + n := by rw [Nat.add_mul, Nat.one_mul]
    obtain ⟨k1, h1, h2⟩ := rgs_eq (room := room) (trip := trip) (lf := lf) (minute := nI a) hP n (by omega) h
    obtain ⟨k2, h3, h4⟩ := ih (a + 1) (k := k1) (by omega) h2
    exact ⟨k2, by omega, h4⟩
theorem cst_eq {n : Nat} {co co' g g' a a' : Nat → Int32} {but : Int32} : ∀ k, k ≤ n → eqR n co co' → eqR n g g' → eqR n a a' → cstS co g a but k = cstS co' g' a' but k := by
  intro k
  induction k with
  | zero => intro _ _ _ _; rfl
  | succ k ih =>
    intro hk h1 h2 h3
    rw [cstS, cstS, ih (by omega) h1 h2 h3]
    unfold wof
    rw [h1 k (by omega), h2 k (by omega), h3 k (by omega)]
theorem chs_eq {n : Nat} {kd kd' : Nat → Int32} (h : eqR n kd kd') : ∀ k, k ≤ n → chs kd k = chs kd' k := by
  intro k
  induction k with
  | zero => intro _; rfl
  | succ k ih => intro hk; rw [chs, chs, ih (by omega), h k (by omega)]
theorem sdf_eq {n : Nat} {kd kd' sd sd' : Nat → Int32} {x : Int32} (h1 : eqR n kd kd') (h2 : eqR n sd sd') : eqR n (sdf kd sd x) (sdf kd' sd' x) := by
  intro p hp
  unfold sdf
  rw [h1 p hp, h2 p hp, chs_eq h1 p (by omega)]
