/-! The law's facts out of the lists. -/
def erl (at_ : Nat → Int32) (minute : Int32) : List Nat → Int32
  | [] => minute
  | b :: _ => at_ b
def FV (at_ wt ct : Nat → Int32) (minute : Int32) (L0 L1 : List Nat) (g0 g1 : Int32) : Nat → Int32 := fun i =>
  if i = 1 then sm ct L0 + g0 * 2 else if i = 2 then sm ct L1 + g1 * 2 else if i = 3 then sm wt L0 + g0 * 70 else if i = 4 then sm wt L1 + g1 * 70 else if i = 5 then minute - (if erl at_ minute L1 < erl at_ minute L0 then erl at_ minute L1 else erl at_ minute L0) else if i = 6 then minute else 0
section FACTS2
variable {sd at_ wt ct g : Nat → Int32} {n : Nat} {l : List Nat}
theorem erl_spec {b minute : Int32} (O : OrdL at_ n l) : (erl at_ minute (l.filter (wtp sd at_ g b minute)) = minute ∧ l.filter (wtp sd at_ g b minute) = []) ∨ ∃ c, c < n ∧ wg at_ g minute c = true ∧ erl at_ minute (l.filter (wtp sd at_ g b minute)) = at_ c ∧ ∀ p ∈ l.filter (wtp sd at_ g b minute), at_ c ≤ at_ p := by
  cases hL : l.filter (wtp sd at_ g b minute) with
  | nil => exact Or.inl ⟨rfl, rfl⟩
  | cons c r =>
    right
    have hb : c ∈ l.filter (wtp sd at_ g b minute) := by rw [hL]; exact List.mem_cons_self
    obtain ⟨h1, h2⟩ := List.mem_filter.mp hb
    rw [wtp_wg, Bool.and_eq_true] at h2
    refine ⟨c, O.mem.mp h1, h2.2, rfl, fun p hp => ?_⟩
    rcases List.mem_cons.mp hp with e | e
    · rw [e]; exact Int32.le_refl _
    · have pw : List.Pairwise (lt2 at_) (l.filter (wtp sd at_ g b minute)) := O.1.filter _
      rw [hL] at pw
      exact ((List.pairwise_cons.mp pw).1 p e).le
theorem wait_eq {a : Nat} {A5 : Int32} (O : OrdL at_ n l) (hsd : ∀ p, p < n → sd p = 0 ∨ sd p = 1) (ha : a < 2 ^ 30) (hat : ∀ p, p < n → ∃ k, k < 2 ^ 30 ∧ at_ p = nI k)
    (ub : ∀ p, p < n → wg at_ g (nI a) p = true → nI a - at_ p ≤ A5) (att : A5 = 0 ∨ ∃ p, p < n ∧ wg at_ g (nI a) p = true ∧ A5 = nI a - at_ p) :
    A5 = nI a - (if erl at_ (nI a) (l.filter (wtp sd at_ g 1 (nI a))) < erl at_ (nI a) (l.filter (wtp sd at_ g 0 (nI a))) then erl at_ (nI a) (l.filter (wtp sd at_ g 1 (nI a))) else erl at_ (nI a) (l.filter (wtp sd at_ g 0 (nI a)))) := by
  have s0 := erl_spec (sd := sd) (g := g) (b := 0) (minute := nI a) O
  have s1 := erl_spec (sd := sd) (g := g) (b := 1) (minute := nI a) O
  -- a waiting person's time
  have hk : ∀ p, p < n → wg at_ g (nI a) p = true → ∃ k, k ≤ a ∧ at_ p = nI k := by
    intro p hp hw
    obtain ⟨k, h1, h2⟩ := hat p hp
    simp only [wg, Bool.and_eq_true, Bool.not_eq_true', decide_eq_false_iff_not] at hw
    rw [h2, nI_ltI (by omega) (by omega)] at hw
    exact ⟨k, by omega, h2⟩
  have memL : ∀ p, p < n → wg at_ g (nI a) p = true → (p ∈ l.filter (wtp sd at_ g 0 (nI a)) ∨ p ∈ l.filter (wtp sd at_ g 1 (nI a))) := by
    intro p hp hw
    rcases hsd p hp with e | e
    · left; exact List.mem_filter.mpr ⟨O.mem.mpr hp, by rw [wtp_wg, e, hw]; rfl⟩
    · right; exact List.mem_filter.mpr ⟨O.mem.mpr hp, by rw [wtp_wg, e, hw]; rfl⟩
  generalize erl at_ (nI a) (l.filter (wtp sd at_ g 0 (nI a))) = e0 at s0 ⊢
  generalize erl at_ (nI a) (l.filter (wtp sd at_ g 1 (nI a))) = e1 at s1 ⊢
  generalize l.filter (wtp sd at_ g 0 (nI a)) = L0 at s0 memL
  generalize l.filter (wtp sd at_ g 1 (nI a)) = L1 at s1 memL
  obtain ⟨e, he⟩ : ∃ e, e = if e1 < e0 then e1 else e0 := ⟨_, rfl⟩
  rw [← he]
  have le0 : e ≤ e0 := by
    rw [he]; split
    · rename_i h; exact Int32.le_of_lt h
    · exact Int32.le_refl _
  have le1 : e ≤ e1 := by
    rw [he]; split
    · exact Int32.le_refl _
    · rename_i h; exact Int32.not_lt.mp h
  have low : ∀ p, p < n → wg at_ g (nI a) p = true → e ≤ at_ p := by
    intro p hp hw
    rcases memL p hp hw with hm | hm
    · rcases s0 with ⟨_, e2⟩ | ⟨c, _, _, e2, e3⟩
      · rw [e2] at hm; cases hm
      · exact Int32.le_trans le0 (by rw [e2]; exact e3 p hm)
    · rcases s1 with ⟨_, e2⟩ | ⟨c, _, _, e2, e3⟩
      · rw [e2] at hm; cases hm
      · exact Int32.le_trans le1 (by rw [e2]; exact e3 p hm)
  have isA : e = nI a ∨ ∃ p, p < n ∧ wg at_ g (nI a) p = true ∧ e = at_ p := by
    have c0 : e = e0 ∨ e = e1 := by
      rw [he]; split
      · exact Or.inr rfl
      · exact Or.inl rfl
    rcases c0 with c0 | c0
    · rcases s0 with ⟨e2, _⟩ | ⟨c, h1, h2, e2, _⟩
      · exact Or.inl (c0.trans e2)
      · exact Or.inr ⟨c, h1, h2, c0.trans e2⟩
    · rcases s1 with ⟨e2, _⟩ | ⟨c, h1, h2, e2, _⟩
      · exact Or.inl (c0.trans e2)
      · exact Or.inr ⟨c, h1, h2, c0.trans e2⟩
  rcases att with h0 | ⟨p, hp, hw, h0⟩
  · rw [h0]
    rcases isA with h1 | ⟨q, hq, hqw, h1⟩
    · rw [h1, Int32.sub_self]
    · obtain ⟨k, k1, k2⟩ := hk q hq hqw
      have u := ub q hq hqw
      rw [h0, k2, nI_sub k1, ← nI_0, nI_leI (by omega) (by omega)] at u
      rw [h1, k2, nI_sub k1, ← nI_0]
      congr 1
      omega
  · obtain ⟨k, k1, k2⟩ := hk p hp hw
    have lw := low p hp hw
    rw [h0, k2]
    rw [k2] at lw
    rcases isA with h1 | ⟨q, hq, hqw, h1⟩
    · rw [h1, nI_leI (by omega) (by omega)] at lw
      rw [h1]
      have : k = a := by omega
      rw [this]
    · obtain ⟨k', k1', k2'⟩ := hk q hq hqw
      have u := ub q hq hqw
      rw [h0, k2, k2', nI_sub k1, nI_sub k1', nI_leI (by omega) (by omega)] at u
      rw [h1, k2', nI_leI (by omega) (by omega)] at lw
      rw [h1, k2']
      congr 2
      omega
theorem fcV_list {P : rP} {a : Nat} {V : Nat → Int32} (O : OrdL P.2.2.2.1 n l) (hsd : ∀ p, p < n → P.2.2.1 p = 0 ∨ P.2.2.1 p = 1) (ha : a < 2 ^ 30) (hat : ∀ p, p < n → ∃ k, k < 2 ^ 30 ∧ P.2.2.2.1 p = nI k) :
    al6 (fcV P g n (nI a) V).1 (FV P.2.2.2.1 P.2.2.2.2.1 P.2.2.2.2.2.2 (nI a) (l.filter (wtp P.2.2.1 P.2.2.2.1 g 0 (nI a))) (l.filter (wtp P.2.2.1 P.2.2.2.1 g 1 (nI a))) 0 0) ∧
    ((fcV P g n (nI a) V).2 = !decide ((l.filter (wtp P.2.2.1 P.2.2.2.1 g 0 (nI a))).length + (l.filter (wtp P.2.2.1 P.2.2.2.1 g 1 (nI a))).length = 0)) := by
  have h0 : ∀ i, 1 ≤ i → i ≤ 5 → z16 7 V i = 0 := by
    intro i h1 h2
    simp only [z16]
    rw [if_pos (by omega)]
  obtain ⟨a1, a2, a3, a4, ⟨a5, a5'⟩, a6⟩ := acV_sums (sd := P.2.2.1) (at_ := P.2.2.2.1) (wt := P.2.2.2.2.1) (ct := P.2.2.2.2.2.2) (g := g) (minute := nI a) h0 n hsd
  have w5 := wait_eq O hsd ha hat a5 a5'
  have p0 := O.2.filter (wtp P.2.2.1 P.2.2.2.1 g 0 (nI a))
  have p1 := O.2.filter (wtp P.2.2.1 P.2.2.2.1 g 1 (nI a))
  rw [← sm_perm p0] at a1 a3
  rw [← sm_perm p1] at a2 a4
  refine ⟨fun i h1 h2 => ?_, ?_⟩
  · show va_up _ 6 (nI a) i = _
    rw [va_ui]
    unfold FV
    have : i = 1 ∨ i = 2 ∨ i = 3 ∨ i = 4 ∨ i = 5 ∨ i = 6 := by omega
    rcases this with e | e | e | e | e | e <;> subst e
    · simp [a1]
    · simp [a2]
    · simp [a3]
    · simp [a4]
    · simp only [if_neg (show ¬ (5 : Nat) = 6 by decide), if_neg (show ¬ (5 : Nat) = 1 by decide), if_neg (show ¬ (5 : Nat) = 2 by decide), if_neg (show ¬ (5 : Nat) = 3 by decide), if_neg (show ¬ (5 : Nat) = 4 by decide), if_pos]
      exact w5
    · simp
  · show (acV _ _ _ _ _ _ _ n).2 = _
    by_cases hz : (l.filter (wtp P.2.2.1 P.2.2.2.1 g 0 (nI a))).length + (l.filter (wtp P.2.2.1 P.2.2.2.1 g 1 (nI a))).length = 0
    · rw [decide_eq_true hz]
      cases hh : (acV P.2.2.1 P.2.2.2.1 P.2.2.2.2.1 P.2.2.2.2.2.2 g (nI a) (z16 7 V) n).2 with
      | false => rfl
      | true =>
        obtain ⟨p, hp, hw⟩ := a6.mp hh
        have z0 : l.filter (wtp P.2.2.1 P.2.2.2.1 g 0 (nI a)) = [] := List.length_eq_zero_iff.mp (by omega)
        have z1 : l.filter (wtp P.2.2.1 P.2.2.2.1 g 1 (nI a)) = [] := List.length_eq_zero_iff.mp (by omega)
        rw [List.filter_eq_nil_iff] at z0 z1
        rcases hsd p hp with e | e
        · exact absurd (by rw [wtp_wg, e, hw]; rfl) (z0 p (O.mem.mpr hp))
        · exact absurd (by rw [wtp_wg, e, hw]; rfl) (z1 p (O.mem.mpr hp))
    · rw [decide_eq_false hz]
      refine a6.mpr ?_
      have : (∃ p, p ∈ l.filter (wtp P.2.2.1 P.2.2.2.1 g 0 (nI a))) ∨ ∃ p, p ∈ l.filter (wtp P.2.2.1 P.2.2.2.1 g 1 (nI a)) := by
        by_cases h1 : (l.filter (wtp P.2.2.1 P.2.2.2.1 g 0 (nI a))).length = 0
        · right; exact List.exists_mem_of_length_pos (by omega)
        · left; exact List.exists_mem_of_length_pos (by omega)
      rcases this with ⟨p, hp⟩ | ⟨p, hp⟩
      · obtain ⟨h1, h2⟩ := List.mem_filter.mp hp
        rw [wtp_wg, Bool.and_eq_true] at h2
        exact ⟨p, O.mem.mp h1, h2.2⟩
      · obtain ⟨h1, h2⟩ := List.mem_filter.mp hp
        rw [wtp_wg, Bool.and_eq_true] at h2
        exact ⟨p, O.mem.mp h1, h2.2⟩
end FACTS2
theorem lwV_al {u : Int32} {lf : (Nat → Int32) → Int32} (hC : lfC lf) {V V' : Nat → Int32} (h : al6 V V') : lwV u lf V = lwV u lf V' := by
  unfold lwV
  rw [hC _ _ h, h 1 (by decide) (by decide), h 2 (by decide) (by decide)]
/-- whether it would ring, by the banks' lists and guests -/
def wrL (P : rP) (S : rS) (lf : (Nat → Int32) → Int32) (minute : Int32) (L0 L1 : List Nat) (g0 g1 : Nat) : Bool :=
  (decide (S.2.2.2.2.2.2.1 ≤ minute) || decide (S.2.2.2.2.2.2.2 ≤ minute)) && (!decide (L0.length + g0 + (L1.length + g1) = 0) && lwV P.2.1 lf (FV P.2.2.2.1 P.2.2.2.2.1 P.2.2.2.2.2.2 minute L0 L1 (nI g0) (nI g1)))
section WRL
variable {P : rP} {n : Nat} {l : List Nat} {lf : (Nat → Int32) → Int32}
/-- people as a day needs them -/
def PpOK (P : rP) (n : Nat) : Prop := (∀ p, p < n → P.2.2.1 p = 0 ∨ P.2.2.1 p = 1) ∧ ∀ p, p < n → ∃ k, k < 1440 ∧ P.2.2.2.1 p = nI k
theorem wr_list {a : Nat} {S : rS} (O : OrdL P.2.2.2.1 n l) (K : PpOK P n) (hC : lfC lf) (ha : a < 2 ^ 30) : wr P n lf (nI a) S = wrL P S lf (nI a) (l.filter (wtp P.2.2.1 P.2.2.2.1 S.1 0 (nI a))) (l.filter (wtp P.2.2.1 P.2.2.2.1 S.1 1 (nI a))) 0 0 := by
  obtain ⟨h1, h2⟩ := fcV_list (g := S.1) (V := fun _ => 0) O K.1 ha (fun p hp => by obtain ⟨k, h1, h2⟩ := K.2 p hp; exact ⟨k, by omega, h2⟩)
  unfold wr wrV wrL
  rw [lwV_al hC h1, h2, nI_0]
  rfl
end WRL
section DAYX
variable {P : rP} {n room : Nat} {trip : Int32} {lf : (Nat → Int32) → Int32} {l : List Nat}
theorem rgs_stop {m : Int32} {S : rS} (h : wr P n lf m S = false) : ∀ f, rgs P n room trip lf m f S = S := by
  intro f
  cases f with
  | zero => rfl
  | succ f => rw [rgs, if_neg (by rw [h]; decide)]
theorem wr_cnt {m : Int32} (hm : ¬ m = -1) (hsd : ∀ p, p < n → P.2.2.1 p = 0 ∨ P.2.2.1 p = 1) {S : rS} (h : wr P n lf m S = true) : 0 < cnt S.1 n := by
  have := ring1_dec (room := 1) (trip := 0) hm (by decide) hsd h
  omega
theorem rgs_wr {m : Int32} (hm : ¬ m = -1) (hr : 0 < room) (hsd : ∀ p, p < n → P.2.2.1 p = 0 ∨ P.2.2.1 p = 1) : ∀ (f : Nat) (S : rS), cnt S.1 n ≤ f → wr P n lf m (rgs P n room trip lf m f S) = false := by
  intro f
  induction f with
  | zero =>
    intro S h
    show wr P n lf m S = false
    cases hh : wr P n lf m S with
    | false => rfl
    | true =>
      have := wr_cnt hm hsd hh
      omega
  | succ f ih =>
    intro S h
    rw [rgs]
    cases hh : wr P n lf m S with
    | false => exact hh
    | true =>
      have := ring1_dec (trip := trip) hm hr hsd hh
      exact ih _ (by omega)
/-- the day, minute by minute, pl going home as minute lv begins -/
def dayX (P : rP) (n room : Nat) (trip : Int32) (lf : (Nat → Int32) → Int32) (S0 : rS) (lv pl : Nat) : Nat → rS
  | 0 => S0
  | a + 1 => rgs P n room trip lf (nI a) n (if a = lv then homS pl (dayX P n room trip lf S0 lv pl a) else dayX P n room trip lf S0 lv pl a)
theorem goS_snocA {a : Nat} (k : Nat) (S : rS) : goS P n room trip lf (k + 1) a S = rgs P n room trip lf (nI (a + k)) n (goS P n room trip lf k a S) := by
  rw [goS_add k 1 a]
  rfl
theorem dayX_go {S0 : rS} {lv pl : Nat} : ∀ k, k ≤ lv → dayX P n room trip lf S0 lv pl k = goS P n room trip lf k 0 S0 := by
  intro k
  induction k with
  | zero => intro _; rfl
  | succ k ih =>
    intro hk
    rw [dayX, if_neg (by omega), ih (by omega), goS_snoc]
theorem dayX_home {S0 : rS} {lv pl : Nat} : ∀ k, dayX P n room trip lf S0 lv pl (lv + (k + 1)) = goS P n room trip lf (k + 1) lv (homS pl (goS P n room trip lf lv 0 S0)) := by
  intro k
  induction k with
  | zero =>
    show dayX P n room trip lf S0 lv pl (lv + 1) = _
    rw [dayX, if_pos rfl, dayX_go lv (Nat.le_refl _)]
    rfl
  | succ k ih =>
    show dayX P n room trip lf S0 lv pl (lv + (k + 1) + 1) = _
    rw [dayX, if_neg (by omega), ih]
    exact (goS_snocA (k + 1) _).symm
end DAYX
/-! A ringing, by the lists. -/
theorem inB_drop {sd g : Nat → Int32} {b v : Int32} (hv : ¬ v = -1) {Y : List Nat} (nd : Y.Nodup) (k : Nat) : Y.filter (inB sd (setL g ((Y.filter (inB sd g b)).take k) v) b) = (Y.filter (inB sd g b)).drop k := by
  rw [← drop_mem k (nd.filter _), List.filter_filter]
  exact List.filter_congr (fun q _ => inB_set hv _ q)
theorem inB_other {sd g : Nat → Int32} {b v : Int32} (hv : ¬ v = -1) {Y Z : List Nat} (hZ : ∀ q ∈ Z, ¬ sd q = b) : Y.filter (inB sd (setL g Z v) b) = Y.filter (inB sd g b) := by
  refine List.filter_congr (fun q _ => ?_)
  rw [inB_set hv]
  by_cases h : q ∈ Z
  · simp [inB, hZ q h]
  · simp [h]
theorem inB_sd {sd g : Nat → Int32} {b : Int32} {Y : List Nat} {q k : Nat} (h : q ∈ (Y.filter (inB sd g b)).take k) : sd q = b := by
  have := (List.mem_filter.mp (List.mem_of_mem_take h)).2
  simp only [inB, Bool.and_eq_true, decide_eq_true_eq] at this
  exact this.1
theorem ring1_list {P : rP} {n room j : Nat} {l : List Nat} {trip minute : Int32} {S : rS} (O : OrdL P.2.2.2.1 n l) (hm : ¬ minute = -1) (C : Cm P.2.2.2.1 l j minute) :
    ring1 P n room trip minute S = (setL (setL S.1 (((l.take j).filter (inB P.2.2.1 S.1 0)).take room) minute) (((l.take j).filter (inB P.2.2.1 S.1 1)).take room) minute, setL (setL S.2.1 (((l.take j).filter (inB P.2.2.1 S.1 0)).take room) S.2.2.1) (((l.take j).filter (inB P.2.2.1 S.1 1)).take room) S.2.2.1,
      S.2.2.1 + 1, va_up S.2.2.2.1 S.2.2.1.toNatClampNeg minute, va_up S.2.2.2.2.1 S.2.2.1.toNatClampNeg (nI (min room ((l.take j).filter (inB P.2.2.1 S.1 0)).length)), va_up S.2.2.2.2.2.1 S.2.2.1.toNatClampNeg (nI (min room ((l.take j).filter (inB P.2.2.1 S.1 1)).length)),
      if minute < S.2.2.2.2.2.2.1 then S.2.2.2.2.2.2.1 else minute + trip, if minute < S.2.2.2.2.2.2.1 then minute + trip else S.2.2.2.2.2.2.2) := by
  have o : ∀ Z, (∀ q ∈ Z, ¬ P.2.2.1 q = 1) → l.filter (wtp P.2.2.1 P.2.2.2.1 (setL S.1 Z minute) 1 minute) = l.filter (wtp P.2.2.1 P.2.2.2.1 S.1 1 minute) := by
    intro Z hZ
    refine List.filter_congr (fun q _ => ?_)
    rw [wtp_set hm]
    by_cases h : q ∈ Z
    · simp [wtp, hZ q h]
    · simp [h]
  unfold ring1
  simp only
  rw [lvs_list O hm, lvs_list O hm]
  simp only
  rw [take_filter C, take_filter C, o]
  intro q hq
  rw [← take_filter C] at hq
  rw [inB_sd hq]
  decide
