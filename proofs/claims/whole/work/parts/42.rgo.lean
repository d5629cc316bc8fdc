/-! The reference's goesOn and day. -/
/-- how many wait or are still to come -/
def cnt (g : Nat → Int32) : Nat → Nat
  | 0 => 0
  | p + 1 => cnt g p + if g p = -1 then 1 else 0
theorem cnt_le (g : Nat → Int32) : ∀ n, cnt g n ≤ n := by
  intro n
  induction n with
  | zero => exact Nat.le_refl _
  | succ n ih => rw [cnt]; split <;> omega
theorem cnt_up {g : Nat → Int32} {v : Int32} (hv : ¬ v = -1) {p : Nat} (hg : g p = -1) : ∀ n, cnt (va_up g p v) n + (if p < n then 1 else 0) = cnt g n := by
  intro n
  induction n with
  | zero => rfl
  | succ n ih =>
    rw [cnt, cnt]
    by_cases h : n = p
    · subst h
      rw [va_up_self, if_neg hv, if_pos hg, if_pos (by omega)]
      rw [if_neg (by omega)] at ih
      omega
    · rw [va_up_ne _ _ h]
      by_cases h2 : p < n
      · rw [if_pos h2] at ih
        rw [if_pos (show p < n + 1 by omega)]
        omega
      · rw [if_neg h2] at ih
        rw [if_neg (show ¬ p < n + 1 by omega)]
        omega
theorem fst_W {W : Nat → Bool} {at_ : Nat → Int32} : ∀ {n b : Nat}, fst W at_ n = some b → W b = true := by
  intro n
  induction n with
  | zero => intro b h; cases h
  | succ k ih =>
    intro b h
    rw [fst] at h
    split at h
    · split at h
      · cases h; assumption
      · cases h
    · rename_i c hc
      split at h
      · cases h
        rename_i hw
        simp only [Bool.and_eq_true] at hw
        exact hw.1
      · cases h; exact ih hc
theorem fst_some {W : Nat → Bool} {at_ : Nat → Int32} {p : Nat} (hp : W p = true) : ∀ {n : Nat}, p < n → ∃ b, fst W at_ n = some b := by
  intro n
  induction n with
  | zero => intro h; omega
  | succ k ih =>
    intro h
    rw [fst]
    cases hf : fst W at_ k with
    | none =>
      by_cases e : p = k
      · subst e; exact ⟨p, by simp [hp]⟩
      · obtain ⟨b, hb⟩ := ih (by omega)
        rw [hf] at hb; cases hb
    | some b =>
      simp only
      split
      · exact ⟨_, rfl⟩
      · exact ⟨_, rfl⟩
theorem lvs_cnt (sd at_ : Nat → Int32) (n : Nat) (bank minute rg : Int32) (hm : ¬ minute = -1) : ∀ (k : Nat) (g b : Nat → Int32), cnt (lvs sd at_ n bank minute rg k g b).1 n ≤ cnt g n := by
  intro k
  induction k with
  | zero => intro g b; exact Nat.le_refl _
  | succ k ih =>
    intro g b
    rw [lvs]
    split
    · exact Nat.le_refl _
    · rename_i p hf
      have hw := fst_W hf
      simp only [wtp, Bool.and_eq_true, decide_eq_true_eq] at hw
      have h1 := ih (va_up g p minute) (va_up b p rg)
      have h2 := cnt_up hm hw.2.2 n
      have : p < n := fst_lt hf
      simp only
      rw [if_pos this] at h2
      omega
theorem lvs_dec (sd at_ : Nat → Int32) (n : Nat) (bank minute rg : Int32) (hm : ¬ minute = -1) {k : Nat} (hk : 0 < k) {g b : Nat → Int32} {p : Nat} (hp : p < n) (hw : wtp sd at_ g bank minute p = true) : cnt (lvs sd at_ n bank minute rg k g b).1 n < cnt g n := by
  cases k with
  | zero => omega
  | succ k =>
    obtain ⟨c, hf⟩ := fst_some (at_ := at_) hw hp
    rw [lvs, hf]
    have hw2 := fst_W hf
    simp only [wtp, Bool.and_eq_true, decide_eq_true_eq] at hw2
    have h1 := lvs_cnt sd at_ n bank minute rg hm k (va_up g c minute) (va_up b c rg)
    have h2 := cnt_up hm hw2.2.2 n
    have : c < n := fst_lt hf
    rw [if_pos this] at h2
    simp only
    omega
theorem lvs_keep (sd at_ : Nat → Int32) (n : Nat) (bank minute rg : Int32) : ∀ (k : Nat) (g b : Nat → Int32) (p : Nat), ¬ sd p = bank → (lvs sd at_ n bank minute rg k g b).1 p = g p := by
  intro k
  induction k with
  | zero => intro g b p _; rfl
  | succ k ih =>
    intro g b p hp
    rw [lvs]
    split
    · rfl
    · rename_i c hf
      have hw := fst_W hf
      simp only [wtp, Bool.and_eq_true, decide_eq_true_eq] at hw
      simp only
      rw [ih _ _ _ hp, va_up_ne]
      intro e
      exact hp (by rw [e]; exact hw.1)
theorem acV_any {sd at_ wt ct g : Nat → Int32} {minute : Int32} {V : Nat → Int32} : ∀ {n : Nat}, (acV sd at_ wt ct g minute V n).2 = true → ∃ p, p < n ∧ (!decide (minute < at_ p) && decide (g p = -1)) = true := by
  intro n
  induction n with
  | zero => intro h; cases h
  | succ n ih =>
    intro h
    rw [acV] at h
    split at h
    · rename_i hw
      exact ⟨n, by omega, hw⟩
    · obtain ⟨p, hp, hw⟩ := ih h
      exact ⟨p, by omega, hw⟩
/-- a ringing takes somebody -/
theorem ring1_dec {P : rP} {S : rS} {n room : Nat} {trip minute : Int32} {lf : (Nat → Int32) → Int32} {V : Nat → Int32} (hm : ¬ minute = -1) (hr : 0 < room) (hsd : ∀ p, p < n → P.2.2.1 p = 0 ∨ P.2.2.1 p = 1) (hw : wrV P S n lf minute V = true) : cnt (ring1 P n room trip minute S).1 n < cnt S.1 n := by
  unfold wrV at hw
  simp only [Bool.and_eq_true] at hw
  obtain ⟨p, hp, hp2⟩ := acV_any hw.2.1
  show cnt (lvs P.2.2.1 P.2.2.2.1 n 1 minute S.2.2.1 room (lvs P.2.2.1 P.2.2.2.1 n 0 minute S.2.2.1 room S.1 S.2.1).1 (lvs P.2.2.1 P.2.2.2.1 n 0 minute S.2.2.1 room S.1 S.2.1).2.1).1 n < cnt S.1 n
  have a1 := lvs_cnt P.2.2.1 P.2.2.2.1 n 0 minute S.2.2.1 hm room S.1 S.2.1
  have a2 := lvs_cnt P.2.2.1 P.2.2.2.1 n 1 minute S.2.2.1 hm room (lvs P.2.2.1 P.2.2.2.1 n 0 minute S.2.2.1 room S.1 S.2.1).1 (lvs P.2.2.1 P.2.2.2.1 n 0 minute S.2.2.1 room S.1 S.2.1).2.1
  rcases hsd p hp with e | e
  · have := lvs_dec P.2.2.1 P.2.2.2.1 n 0 minute S.2.2.1 hm hr (g := S.1) (b := S.2.1) hp (by unfold wtp; rw [e]; simpa using hp2)
    omega
  · have hk := lvs_keep P.2.2.1 P.2.2.2.1 n 0 minute S.2.2.1 room S.1 S.2.1 p (by rw [e]; decide)
    have := lvs_dec P.2.2.1 P.2.2.2.1 n 1 minute S.2.2.1 hm hr (g := (lvs P.2.2.1 P.2.2.2.1 n 0 minute S.2.2.1 room S.1 S.2.1).1) (b := (lvs P.2.2.1 P.2.2.2.1 n 0 minute S.2.2.1 room S.1 S.2.1).2.1) hp (by unfold wtp; rw [e, hk]; simpa using hp2)
    omega
/-- two rows of facts alike -/
def al6 (V V' : Nat → Int32) : Prop := ∀ i, 1 ≤ i → i ≤ 6 → V i = V' i
theorem acV_al {sd at_ wt ct g : Nat → Int32} {minute : Int32} {V V' : Nat → Int32} : ∀ {n : Nat}, (∀ p, p < n → sd p = 0 ∨ sd p = 1) → al6 V V' → al6 (acV sd at_ wt ct g minute V n).1 (acV sd at_ wt ct g minute V' n).1 ∧ (acV sd at_ wt ct g minute V n).2 = (acV sd at_ wt ct g minute V' n).2 := by
  intro n
  induction n with
  | zero => intro _ h; exact ⟨h, rfl⟩
  | succ n ih =>
    intro hs h
    obtain ⟨i1, i2⟩ := ih (fun p hp => hs p (by omega)) h
    rw [acV, acV]
    split
    · refine ⟨?_, rfl⟩
      generalize (acV sd at_ wt ct g minute V n).1 = A at i1
      generalize (acV sd at_ wt ct g minute V' n).1 = B at i1
      have e1 : (1 + sd n).toNatClampNeg = 1 ∨ (1 + sd n).toNatClampNeg = 2 := by
        rcases hs n (by omega) with e | e
        · left; rw [e]; decide
        · right; rw [e]; decide
      have e3 : (3 + sd n).toNatClampNeg = 3 ∨ (3 + sd n).toNatClampNeg = 4 := by
        rcases hs n (by omega) with e | e
        · left; rw [e]; decide
        · right; rw [e]; decide
      have k1 : al6 (va_up A (1 + sd n).toNatClampNeg (A (1 + sd n).toNatClampNeg + ct n)) (va_up B (1 + sd n).toNatClampNeg (B (1 + sd n).toNatClampNeg + ct n)) := by
        intro i h1 h2
        rw [va_ui, va_ui, i1 (1 + sd n).toNatClampNeg (by omega) (by omega), i1 i h1 h2]
      have k2 : al6 (va_up (va_up A (1 + sd n).toNatClampNeg (A (1 + sd n).toNatClampNeg + ct n)) (3 + sd n).toNatClampNeg ((va_up A (1 + sd n).toNatClampNeg (A (1 + sd n).toNatClampNeg + ct n)) (3 + sd n).toNatClampNeg + wt n)) (va_up (va_up B (1 + sd n).toNatClampNeg (B (1 + sd n).toNatClampNeg + ct n)) (3 + sd n).toNatClampNeg ((va_up B (1 + sd n).toNatClampNeg (B (1 + sd n).toNatClampNeg + ct n)) (3 + sd n).toNatClampNeg + wt n)) := by
        intro i h1 h2
        rw [va_ui _ (3 + sd n).toNatClampNeg, va_ui _ (3 + sd n).toNatClampNeg, k1 (3 + sd n).toNatClampNeg (by omega) (by omega), k1 i h1 h2]
      intro i h1 h2
      unfold stV
      simp only
      rw [va_ui _ 5, va_ui _ 5, k2 5 (by decide) (by decide), k2 i h1 h2]
    · exact ⟨i1, i2⟩
