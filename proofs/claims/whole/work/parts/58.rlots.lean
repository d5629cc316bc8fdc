/-! Days drawn. -/
theorem goS_add {P : rP} {n room : Nat} {trip : Int32} {lf : (Nat → Int32) → Int32} : ∀ (j k a : Nat) (S : rS), goS P n room trip lf (j + k) a S = goS P n room trip lf k (a + j) (goS P n room trip lf j a S) := by
  intro j
  induction j with
  | zero => intro k a S; rw [Nat.zero_add]; rfl
  | succ j ih =>
    intro k a S
    rw [show j + 1 + k = (j + k) + 1 by omega, goS, goS, ih, show a + 1 + j = a + (j + 1) by omega]
theorem goS_snoc {P : rP} {n room : Nat} {trip : Int32} {lf : (Nat → Int32) → Int32} (k : Nat) (S : rS) : goS P n room trip lf (k + 1) 0 S = rgs P n room trip lf (nI k) n (goS P n room trip lf k 0 S) := by
  rw [goS_add k 1 0 S, goS, goS, Nat.zero_add]
theorem fst_ext {W : Nat → Bool} {at_ : Nat → Int32} {n : Nat} : ∀ {N : Nat}, n ≤ N → (∀ p, n ≤ p → p < N → W p = false) → fst W at_ N = fst W at_ n := by
  intro N
  induction N with
  | zero => intro h _; have : n = 0 := by omega
            subst this; rfl
  | succ N ih =>
    intro h hW
    by_cases c : n = N + 1
    · subst c; rfl
    · rw [fst, ih (by omega) (fun p h1 h2 => hW p h1 (by omega)), hW N (by omega) (by omega)]
      cases fst W at_ n <;> rfl
theorem wtp_far {sd at_ g : Nat → Int32} {bank minute : Int32} {p : Nat} (h : minute < at_ p) : wtp sd at_ g bank minute p = false := by
  unfold wtp
  rw [decide_eq_true h]
  simp
theorem lvs_ext {sd at_ : Nat → Int32} {n N : Nat} {bank minute rg : Int32} (h : n ≤ N) (E : ∀ p, n ≤ p → p < N → minute < at_ p) : ∀ (k : Nat) (g b : Nat → Int32), lvs sd at_ N bank minute rg k g b = lvs sd at_ n bank minute rg k g b := by
  intro k
  induction k with
  | zero => intro g b; rfl
  | succ k ih =>
    intro g b
    rw [lvs, lvs, fst_ext h (fun p h1 h2 => wtp_far (E p h1 h2))]
    cases fst (wtp sd at_ g bank minute) at_ n with
    | none => rfl
    | some p => simp only [ih]
theorem acV_ext {sd at_ wt ct g : Nat → Int32} {minute : Int32} {V : Nat → Int32} {n : Nat} : ∀ {N : Nat}, n ≤ N → (∀ p, n ≤ p → p < N → minute < at_ p) → acV sd at_ wt ct g minute V N = acV sd at_ wt ct g minute V n := by
  intro N
  induction N with
  | zero => intro h _; have : n = 0 := by omega
            subst this; rfl
  | succ N ih =>
    intro h E
    by_cases c : n = N + 1
    · subst c; rfl
    · rw [acV, decide_eq_true (E N (by omega) (by omega))]
      exact ih (by omega) (fun p h1 h2 => E p h1 (by omega))
theorem wr_ext {P : rP} {n N : Nat} {lf : (Nat → Int32) → Int32} {minute : Int32} {S : rS} (h : n ≤ N) (E : ∀ p, n ≤ p → p < N → minute < P.2.2.2.1 p) : wr P N lf minute S = wr P n lf minute S := by
  unfold wr wrV fcV
  rw [acV_ext h E]
theorem ring1_ext {P : rP} {n N room : Nat} {trip minute : Int32} {S : rS} (h : n ≤ N) (E : ∀ p, n ≤ p → p < N → minute < P.2.2.2.1 p) : ring1 P N room trip minute S = ring1 P n room trip minute S := by
  unfold ring1
  rw [lvs_ext h E]
  simp only [lvs_ext h E]
theorem lvs_far {sd at_ : Nat → Int32} {n : Nat} {bank minute rg : Int32} {p : Nat} (h : minute < at_ p) : ∀ (k : Nat) (g b : Nat → Int32), (lvs sd at_ n bank minute rg k g b).1 p = g p ∧ (lvs sd at_ n bank minute rg k g b).2.1 p = b p := by
  intro k
  induction k with
  | zero => intro g b; exact ⟨rfl, rfl⟩
  | succ k ih =>
    intro g b
    rw [lvs]
    cases hf : fst (wtp sd at_ g bank minute) at_ n with
    | none => exact ⟨rfl, rfl⟩
    | some p' =>
      have hw := fst_W hf
      have hne : p ≠ p' := fun e => by rw [← e, wtp_far h] at hw; cases hw
      obtain ⟨i1, i2⟩ := ih (va_up g p' minute) (va_up b p' rg)
      simp only
      rw [i1, i2, va_up_ne _ _ hne, va_up_ne _ _ hne]
      exact ⟨rfl, rfl⟩
theorem ring1_far {P : rP} {n room : Nat} {trip minute : Int32} {S : rS} {p : Nat} (h : minute < P.2.2.2.1 p) : (ring1 P n room trip minute S).1 p = S.1 p ∧ (ring1 P n room trip minute S).2.1 p = S.2.1 p := by
  unfold ring1
  obtain ⟨a1, a2⟩ := lvs_far (sd := P.2.2.1) (n := n) (bank := 0) (rg := S.2.2.1) h room S.1 S.2.1
  obtain ⟨b1, b2⟩ := lvs_far (sd := P.2.2.1) (n := n) (bank := 1) (rg := S.2.2.1) h room (lvs P.2.2.1 P.2.2.2.1 n 0 minute S.2.2.1 room S.1 S.2.1).1 (lvs P.2.2.1 P.2.2.2.1 n 0 minute S.2.2.1 room S.1 S.2.1).2.1
  exact ⟨b1.trans a1, b2.trans a2⟩
theorem rgs_far {P : rP} {n room : Nat} {trip : Int32} {lf : (Nat → Int32) → Int32} {minute : Int32} {p : Nat} (h : minute < P.2.2.2.1 p) : ∀ (f : Nat) (S : rS), (rgs P n room trip lf minute f S).1 p = S.1 p ∧ (rgs P n room trip lf minute f S).2.1 p = S.2.1 p := by
  intro f
  induction f with
  | zero => intro S; exact ⟨rfl, rfl⟩
  | succ f ih =>
    intro S
    rw [rgs]
    split
    · obtain ⟨i1, i2⟩ := ih (ring1 P n room trip minute S)
      obtain ⟨r1, r2⟩ := ring1_far (P := P) (n := n) (room := room) (trip := trip) (S := S) h
      exact ⟨i1.trans r1, i2.trans r2⟩
    · exact ⟨rfl, rfl⟩
def drN (g : Nat) : Nat := (g * 1103515245 + 12345) % 2147483648
theorem drN_lt (g : Nat) : drN g < 2147483648 := Nat.mod_lt _ (by decide)
/-- the crowd drawn in the first minutes: the last draw, how many, their sides and times -/
abbrev crT : Type := Nat × Nat × (Nat → Int32) × (Nat → Int32)
def crw (come share of_ g0 : Nat) : Nat → crT
  | 0 => (g0, 0, fun _ => 0, fun _ => 0)
  | k + 1 => if (crw come share of_ g0 k).2.1 < 300 then (if drN (crw come share of_ g0 k).1 / 65536 % 1000 < come then (drN (drN (crw come share of_ g0 k).1), (crw come share of_ g0 k).2.1 + 1, va_up (crw come share of_ g0 k).2.2.1 (crw come share of_ g0 k).2.1 (if drN (drN (crw come share of_ g0 k).1) / 65536 % of_ < share then 0 else 1), va_up (crw come share of_ g0 k).2.2.2 (crw come share of_ g0 k).2.1 (nI k)) else (drN (crw come share of_ g0 k).1, (crw come share of_ g0 k).2)) else crw come share of_ g0 k
theorem crw_n (come share of_ g0 k : Nat) : (crw come share of_ g0 k).2.1 ≤ (crw come share of_ g0 (k + 1)).2.1 ∧ (crw come share of_ g0 (k + 1)).2.1 ≤ (crw come share of_ g0 k).2.1 + 1 := by
  rw [crw]
  split
  · split
    · exact ⟨Nat.le_succ _, Nat.le_refl _⟩
    · exact ⟨Nat.le_refl _, Nat.le_succ _⟩
  · exact ⟨Nat.le_refl _, Nat.le_succ _⟩
theorem crw_300 (come share of_ g0 : Nat) : ∀ k, (crw come share of_ g0 k).2.1 ≤ 300 ∧ (crw come share of_ g0 k).2.1 ≤ k := by
  intro k
  induction k with
  | zero => exact ⟨Nat.zero_le _, Nat.le_refl _⟩
  | succ k ih =>
    rw [crw]
    split
    · rename_i c
      split
      · exact ⟨c, Nat.succ_le_succ ih.2⟩
      · exact ⟨ih.1, Nat.le_succ_of_le ih.2⟩
    · exact ⟨ih.1, Nat.le_succ_of_le ih.2⟩
theorem crw_g (come share of_ g0 : Nat) (h : g0 < 2147483648) : ∀ k, (crw come share of_ g0 k).1 < 2147483648 := by
  intro k
  induction k with
  | zero => exact h
  | succ k ih =>
    rw [crw]
    split
    · split
      · exact drN_lt _
      · exact drN_lt _
    · exact ih
theorem crw_keep (come share of_ g0 k : Nat) {p : Nat} (hp : p < (crw come share of_ g0 k).2.1) : (crw come share of_ g0 (k + 1)).2.2.1 p = (crw come share of_ g0 k).2.2.1 p ∧ (crw come share of_ g0 (k + 1)).2.2.2 p = (crw come share of_ g0 k).2.2.2 p := by
  rw [crw]
  split
  · split
    · exact ⟨va_up_ne _ _ (by omega), va_up_ne _ _ (by omega)⟩
    · exact ⟨rfl, rfl⟩
  · exact ⟨rfl, rfl⟩
theorem crw_keep' (come share of_ g0 k : Nat) {p : Nat} (hp : p < (crw come share of_ g0 k).2.1) : ∀ j, (p < (crw come share of_ g0 (k + j)).2.1) ∧ (crw come share of_ g0 (k + j)).2.2.1 p = (crw come share of_ g0 k).2.2.1 p ∧ (crw come share of_ g0 (k + j)).2.2.2 p = (crw come share of_ g0 k).2.2.2 p := by
  intro j
  induction j with
  | zero => exact ⟨hp, rfl, rfl⟩
  | succ j ih =>
    obtain ⟨i1, i2, i3⟩ := ih
    have := crw_n come share of_ g0 (k + j)
    obtain ⟨k1, k2⟩ := crw_keep come share of_ g0 (k + j) i1
    rw [← Nat.add_assoc]
    exact ⟨by omega, k1.trans i2, k2.trans i3⟩
/-- who is new in a minute comes in it -/
theorem crw_new (come share of_ g0 k : Nat) {p : Nat} (h1 : (crw come share of_ g0 k).2.1 ≤ p) (h2 : p < (crw come share of_ g0 (k + 1)).2.1) : (crw come share of_ g0 (k + 1)).2.2.2 p = nI k ∧ ((crw come share of_ g0 (k + 1)).2.2.1 p = 0 ∨ (crw come share of_ g0 (k + 1)).2.2.1 p = 1) := by
  rw [crw] at h2 ⊢
  split at h2
  · rename_i c
    rw [if_pos c]
    split at h2
    · rename_i c2
      rw [if_pos c2]
      have h2 : p < (crw come share of_ g0 k).2.1 + 1 := h2
      have e : p = (crw come share of_ g0 k).2.1 := by omega
      subst e
      refine ⟨va_up_self _ _ _, ?_⟩
      show va_up _ _ _ _ = 0 ∨ va_up _ _ _ _ = 1
      rw [va_up_self]
      split
      · exact Or.inl rfl
      · exact Or.inr rfl
    · have h2 : p < (crw come share of_ g0 k).2.1 := h2
      omega
  · omega
theorem crw_at (come share of_ g0 : Nat) : ∀ k p, p < (crw come share of_ g0 k).2.1 → (∃ j, j < k ∧ (crw come share of_ g0 k).2.2.2 p = nI j) ∧ ((crw come share of_ g0 k).2.2.1 p = 0 ∨ (crw come share of_ g0 k).2.2.1 p = 1) := by
  intro k
  induction k with
  | zero => intro p hp; exact absurd hp (Nat.not_lt_zero _)
  | succ k ih =>
    intro p hp
    by_cases c : p < (crw come share of_ g0 k).2.1
    · obtain ⟨⟨j, j1, j2⟩, s⟩ := ih p c
      obtain ⟨k1, k2⟩ := crw_keep come share of_ g0 k c
      exact ⟨⟨j, by omega, k2.trans j2⟩, by rw [k1]; exact s⟩
    · obtain ⟨n1, n2⟩ := crw_new come share of_ g0 k (by omega) hp
      exact ⟨⟨k, by omega, n1⟩, n2⟩
/-- who is not there after k minutes comes later -/
theorem crw_late (come share of_ g0 k : Nat) : ∀ j p, (crw come share of_ g0 k).2.1 ≤ p → p < (crw come share of_ g0 (k + j)).2.1 → ∃ i, k ≤ i ∧ i < k + j ∧ (crw come share of_ g0 (k + j)).2.2.2 p = nI i := by
  intro j
  induction j with
  | zero => intro p h1 h2; rw [Nat.add_zero] at h2; omega
  | succ j ih =>
    intro p h1 h2
    by_cases c : p < (crw come share of_ g0 (k + j)).2.1
    · obtain ⟨i, i1, i2, i3⟩ := ih p h1 c
      exact ⟨i, i1, by omega, (crw_keep come share of_ g0 (k + j) c).2.trans i3⟩
    · exact ⟨k + j, by omega, by omega, (crw_new come share of_ g0 (k + j) (by omega) h2).1⟩
def lotP (u : Int32) (C : crT) : rP := (nI C.2.1, u, C.2.2.1, C.2.2.2, fun _ => 70, fun _ => 0, fun _ => 2)
/-- waits added up: all, nights, the longest -/
def ltP (g at_ : Nat → Int32) : Nat → Int32 × Int32 × Int32 → Int32 × Int32 × Int32
  | 0, a => a
  | p + 1, a => ((ltP g at_ p a).1 + wof g at_ p, (ltP g at_ p a).2.1 + (if 0 ≤ g p then 0 else 1), if (ltP g at_ p a).2.2 < wof g at_ p then wof g at_ p else (ltP g at_ p a).2.2)
theorem ltP_eq {n : Nat} {g g' a a' : Nat → Int32} (h1 : eqR n g g') (h2 : eqR n a a') (x : Int32 × Int32 × Int32) : ∀ k, k ≤ n → ltP g a k x = ltP g' a' k x := by
  intro k
  induction k with
  | zero => intro _; rfl
  | succ k ih =>
    intro hk
    rw [ltP, ltP, ih (by omega), wof_eq (show k < n by omega) h1 h2, h1 k (by omega)]
/-- the crowd of a day, the day, and all added up: the last draw, ringings, comers, waits, nights, the longest -/
abbrev lsT : Type := Nat × Int32 × Int32 × Int32 × Int32 × Int32
def ltC (K : Nat) (t : rT) (g : Nat) : crT := crw (tCome t) (tShare t) (tOf t) g K
def ltS (K : Nat) (H : rH) (C : crT) : rS := goS (lotP H.2.1 C) C.2.1 (tRoom H.1) (nI (tTrip H.1)) (vLf (rvOf H)) K 0 (canS (rvOf H))
def ltD (K : Nat) (H : rH) (x : lsT) : lsT := ((ltC K H.1 x.1).1, x.2.1 + (ltS K H (ltC K H.1 x.1)).2.2.1, x.2.2.1 + nI (ltC K H.1 x.1).2.1, ltP (ltS K H (ltC K H.1 x.1)).1 (ltC K H.1 x.1).2.2.2 (ltC K H.1 x.1).2.1 x.2.2.2)
def ltA (K : Nat) (H : rH) (seed : Nat) : Nat → lsT
  | 0 => (seed, 0, 0, 0, 0, 0)
  | k + 1 => ltD K H (ltA K H seed k)
def ltW (x : lsT) (what : Int32) : Int32 := if what = 0 then x.2.1 else if what = 1 then x.2.2.1 else if what = 2 then x.2.2.2.1 else if what = 3 then x.2.2.2.2.1 else x.2.2.2.2.2
def aLots (H : rH) (seed days what : Int32) : Int32 := if 0 ≤ seed ∧ seed ≤ 9999 then (if 1 ≤ days ∧ days ≤ 50 then (if 0 ≤ what ∧ what ≤ 4 then ltW (ltA 1440 H seed.toNatClampNeg days.toNatClampNeg) what else -1) else -1) else -1
theorem ltA_g (K : Nat) (H : rH) (seed : Nat) (h : seed < 2147483648) : ∀ k, (ltA K H seed k).1 < 2147483648 := by
  intro k
  induction k with
  | zero => exact h
  | succ k ih => rw [ltA]; exact crw_g _ _ _ _ ih K
/-- the day of a drawn crowd in the model, n of them come: how many, people, state -/
def DyG (m : Nat) (h : am_H) (n kr : Nat) (P : rP) (S : rS) : Prop := hI h m 36 = nI n ∧ eqP n (perS h m) P ∧ kr + cnt (hI h (m + 30)) n ≤ n ∧ eqS n kr (getS h m) S
section RLOTS
variable {w : am_W} {d : Nat} {h : am_H} {Q : Option Value → am_H → Prop} {m : Nat} {r : rV}
theorem DyG.fe {n kr : Nat} {P : rP} {S : rS} {h' : am_H} (D : DyG m h n kr P S) (F : FrE m h h') : DyG m h' n kr P S := by
  obtain ⟨d1, d2, d5, d6⟩ := D
  have e0 : hI h' m = hI h m := F.2.2.2.2.2.2 _ (by omega)
  exact ⟨by rw [e0]; exact d1, by rw [F.per]; exact d2, by rw [F.2.2.2.2.2.2 (m + 30) (by omega)]; exact d5, by rw [F.get]; exact d6⟩
theorem c_wouldG {a n kr : Nat} {P : rP} {S : rS} (R : RvC w (d + 2) m h r) (hu : P.2.1 = vUse r) (hsd : ∀ p, p < n → P.2.2.1 p = 0 ∨ P.2.2.1 p = 1) (hn : n ≤ 360) (D : DyG m h n kr P S)
    (q : ∀ h', FrE m h h' → Q (some (.int (if wr P n (vLf r) (nI a) S then 1 else 0))) h') : EvM w mX10_wouldRing (d + 3) [.ref m, .int (nI a)] h Q := by
  obtain ⟨⟨M, hN', hN2, _, hC, L, hr, hr0, hr2, ht⟩, r2, r3, r4, r5, r6, r7, r8⟩ := id R
  obtain ⟨d1, d2, d5, d6⟩ := D
  have hsd2 : ∀ p, p < n → hI h (m + 25) p = 0 ∨ hI h (m + 25) p = 1 := by
    intro p hp
    have e : hI h (m + 25) p = P.2.2.1 p := d2.2.1 p hp
    rw [e]
    exact hsd p hp
  have hlaw : hI h m 50 = hI h (m + 2) 8 := (d2.1.trans hu).trans r2.symm
  refine c_wouldRing (lf := vLf r) M d1 hn hsd2 ((L.D hlaw).ok FrD.rf rfl) (fun h2 F2 => ?_)
  rw [wrV_eq hC hsd2, wr_eq d2 d6]
  exact q h2 F2
theorem c_ringG {a n kr : Nat} {P : rP} {S : rS} (R : RvC w (d + 2) m h r) (hsd : ∀ p, p < n → P.2.2.1 p = 0 ∨ P.2.2.1 p = 1) (hn : n ≤ 360) (ha : a < 1440) (D : DyG m h n kr P S) (hw : wr P n (vLf r) (nI a) S = true)
    (q : ∀ h', FrD m h h' → DyG m h' n (kr + 1) P (ring1 P n (vRoom r) (vTrip r) (nI a) S) → Q none h') : EvM w mX10_ringsOnce (d + 3) [.ref m, .int (nI a)] h Q := by
  obtain ⟨⟨M, hN', hN2, _, hC, L, hr, hr0, hr2, ht⟩, r2, r3, r4, r5, r6, r7, r8⟩ := id R
  obtain ⟨d1, d2, d5, d6⟩ := D
  have hsd2 : ∀ p, p < n → (perS h m).2.2.1 p = 0 ∨ (perS h m).2.2.1 p = 1 := by
    intro p hp
    have e : hI h (m + 25) p = P.2.2.1 p := d2.2.1 p hp
    show hI h (m + 25) p = 0 ∨ hI h (m + 25) p = 1
    rw [e]
    exact hsd p hp
  have hmin : ¬ nI a = -1 := by
    intro e
    have := nI_pos' (n := a) (by omega)
    rw [e] at this
    exact absurd this (by decide)
  have hw' : wrV (perS h m) (getS h m) n (vLf r) (nI a) (fun _ => 0) = true := by
    have : wr (perS h m) n (vLf r) (nI a) (getS h m) = true := by rw [wr_eq d2 d6]; exact hw
    exact this
  have dec := ring1_dec (trip := vTrip r) hmin hr0 hsd2 hw'
  have dec : cnt (ring1 (perS h m) n (vRoom r) (vTrip r) (nI a) (getS h m)).1 n < cnt (hI h (m + 30)) n := dec
  refine c_ringsOnce (n := n) (room := vRoom r) (trip := vTrip r) (k := kr) M d1 hn hr hr2 ht d6.2.2.1 (by omega) (fun h6 F6 P6 G6 => q h6 F6 ?_)
  have P6' := P6
  simp only [perS, Prod.mk.injEq] at P6'
  refine ⟨by rw [P6'.1]; exact d1, by rw [P6]; exact d2, ?_, ?_⟩
  · have c6 : cnt (hI h6 (m + 30)) n = cnt (ring1 (perS h m) n (vRoom r) (vTrip r) (nI a) (getS h m)).1 n := by rw [← G6]; rfl
    omega
  · rw [G6]
    exact ring1_eq (by omega) d2 d6
theorem c_draws {g k : Nat} (M : Md m h) (hg : hJ h m 53 = lN g) (hg2 : g < 2147483648) (k0 : 0 < k) (k1 : k ≤ 1000) (q : Q (some (.int (nI (drN g / 65536 % k)))) (sJ h m 53 (lN (drN g)))) : EvM w mX10_draws d [.ref m, .int (nI k)] h Q := by
  refine bX10_draws_0 ⟨M.1, fun h2 e2 => ?_⟩
  rw [hg, show (1103515245 : Int64) = lN 1103515245 by decide, show (12345 : Int64) = lN 12345 by decide, show (2147483648 : Int64) = lN 2147483648 by decide, lN_mul, lN_add, pk_lRem (by omega) (by decide) (by decide)] at e2
  have e2 : h2 = sJ h m 53 (lN (drN g)) := e2
  have j2 : hJ h2 m 53 = lN (drN g) := by rw [e2]; show va_up (hJ h) m _ m 53 = _; rw [va_up_self, va_up_self]
  have := drN_lt g
  rw [nI_l (by omega), j2, show (65536 : Int64) = lN 65536 by decide, pk_lDiv (by omega) (by decide) (by decide), pk_lRem (by omega) k0 (by omega), lN_i]
  refine ⟨fun z => absurd ((lN_z (by omega)).mp z) (by omega), ?_⟩
  rw [e2]
  exact q
theorem FrZ.j {h1 : am_H} {v : Int64} (F : FrZ m h h1) : FrZ m h (sJ h1 m 53 v) :=
  F.tz ⟨rfl, rfl, rfl, rfl, rfl, fun _ _ _ => rfl, fun _ _ _ _ _ _ _ => rfl, fun a ha => by show va_up (hJ h1) m _ a = _; rw [va_up_ne _ _ ha], fun k hk => by show va_up (hJ h1) m _ m k = _; rw [va_up_self, va_up_ne _ _ hk]⟩
end RLOTS
