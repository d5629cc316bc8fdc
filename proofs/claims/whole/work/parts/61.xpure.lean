/-! Who waits, as lists: the order in which people come, the banks. -/
def lt2 (at_ : Nat → Int32) (a b : Nat) : Prop := at_ a < at_ b ∨ (at_ a = at_ b ∧ a < b)
/-- the order in which n people come -/
def OrdL (at_ : Nat → Int32) (n : Nat) (l : List Nat) : Prop := List.Pairwise (lt2 at_) l ∧ l.Perm (List.range n)
theorem lt2.asym {at_ : Nat → Int32} {a b : Nat} (h : lt2 at_ a b) : ¬ lt2 at_ b a := by
  intro k
  rcases h with h | ⟨h, h'⟩
  · rcases k with k | ⟨k, k'⟩
    · exact Int32.lt_irrefl (Int32.lt_trans h k)
    · rw [k] at h; exact Int32.lt_irrefl h
  · rcases k with k | ⟨k, k'⟩
    · rw [h] at k; exact Int32.lt_irrefl k
    · omega
theorem lt2.le {at_ : Nat → Int32} {a b : Nat} (h : lt2 at_ a b) : at_ a ≤ at_ b := by
  rcases h with h | ⟨h, h'⟩
  · exact Int32.le_of_lt h
  · rw [h]; exact Int32.le_refl _
section ORD
variable {at_ sd : Nat → Int32} {n : Nat} {l : List Nat} {W : Nat → Bool}
theorem OrdL.mem (O : OrdL at_ n l) {p : Nat} : p ∈ l ↔ p < n := by rw [O.2.mem_iff, List.mem_range]
theorem OrdL.len (O : OrdL at_ n l) : l.length = n := by rw [O.2.length_eq, List.length_range]
theorem OrdL.nodup (O : OrdL at_ n l) : l.Nodup := O.2.nodup_iff.mpr List.nodup_range
theorem fst_none : ∀ {n : Nat}, fst W at_ n = none → ∀ p, p < n → W p = false := by
  intro n h p hp
  cases hw : W p with
  | false => rfl
  | true =>
    obtain ⟨b, hb⟩ := fst_some (at_ := at_) hw hp
    rw [h] at hb; cases hb
theorem fst_min : ∀ {n b : Nat}, fst W at_ n = some b → ∀ p, p < n → W p = true → p = b ∨ lt2 at_ b p := by
  intro n
  induction n with
  | zero => intro b h; cases h
  | succ k ih =>
    intro b h p hp hw
    rw [fst] at h
    cases hf : fst W at_ k with
    | none =>
      rw [hf] at h
      simp only at h
      split at h
      · cases h
        by_cases e : p = k
        · exact Or.inl e
        · have := fst_none hf p (by omega)
          rw [this] at hw; cases hw
      · cases h
    | some c =>
      rw [hf] at h
      simp only at h
      have ih := ih hf
      split at h
      · rename_i hc
        cases h
        simp only [Bool.and_eq_true, Bool.not_eq_true', decide_eq_false_iff_not, Int32.not_le] at hc
        by_cases e : p = k
        · exact Or.inl e
        · right
          rcases ih p (by omega) hw with e2 | e2
          · rw [e2]; exact Or.inl hc.2
          · exact Or.inl (Int32.lt_of_lt_of_le hc.2 e2.le)
      · rename_i hc
        cases h
        by_cases e : p = k
        · right
          subst e
          have : at_ b ≤ at_ p := by
            apply Classical.byContradiction
            intro hn
            exact hc (by simp [hw, hn])
          have hlt := fst_lt hf
          rcases Int32.lt_or_eq_of_le this with e2 | e2
          · exact Or.inl e2
          · exact Or.inr ⟨e2, hlt⟩
        · exact ih p (by omega) hw
theorem fst_list (O : OrdL at_ n l) : fst W at_ n = (l.filter W).head? := by
  cases hL : l.filter W with
  | nil =>
    show _ = none
    cases hf : fst W at_ n with
    | none => rfl
    | some b =>
      have : b ∈ l.filter W := List.mem_filter.mpr ⟨O.mem.mpr (fst_lt hf), fst_W hf⟩
      rw [hL] at this
      cases this
  | cons b r =>
    show _ = some b
    have hb : b ∈ l.filter W := by rw [hL]; exact List.mem_cons_self
    obtain ⟨h1, h2⟩ := List.mem_filter.mp hb
    obtain ⟨c, hc⟩ := fst_some (at_ := at_) h2 (O.mem.mp h1)
    rw [hc]
    rcases fst_min hc b (O.mem.mp h1) h2 with e | e
    · rw [e]
    · have hcm : c ∈ l.filter W := List.mem_filter.mpr ⟨O.mem.mpr (fst_lt hc), fst_W hc⟩
      rw [hL] at hcm
      rcases List.mem_cons.mp hcm with e' | e'
      · rw [e']
      · have pw : List.Pairwise (lt2 at_) (l.filter W) := O.1.filter W
        rw [hL] at pw
        exact absurd e ((List.pairwise_cons.mp pw).1 c e').asym
end ORD
/-- a row with one value at all of some places -/
def setL (f : Nat → Int32) (X : List Nat) (v : Int32) : Nat → Int32 := fun p => if p ∈ X then v else f p
theorem setL_nil (f : Nat → Int32) (v : Int32) : setL f [] v = f := by funext p; simp [setL]
theorem setL_cons (f : Nat → Int32) (p : Nat) (X : List Nat) (v : Int32) : setL (va_up f p v) X v = setL f (p :: X) v := by
  funext q
  simp only [setL, va_ui, List.mem_cons]
  by_cases h1 : q ∈ X
  · simp [h1]
  · by_cases h2 : q = p <;> simp [h1, h2]
theorem setL_one (f : Nat → Int32) (p : Nat) (v : Int32) : va_up f p v = setL f [p] v := by rw [← setL_cons, setL_nil]
theorem setL_up (f : Nat → Int32) (p : Nat) (X : List Nat) (v : Int32) : va_up (setL f X v) p v = setL f (X ++ [p]) v := by
  funext q
  simp only [setL, va_ui, List.mem_append, List.mem_singleton]
  by_cases h1 : q ∈ X
  · simp [h1]
  · by_cases h2 : q = p <;> simp [h1, h2]
theorem drop_mem {X : List Nat} : ∀ (k : Nat), X.Nodup → X.filter (fun q => !decide (q ∈ X.take k)) = X.drop k := by
  induction X with
  | nil => intro k _; simp
  | cons p X ih =>
    intro k hX
    obtain ⟨h1, h2⟩ := List.nodup_cons.mp hX
    cases k with
    | zero => simp
    | succ k =>
      rw [List.take_succ_cons, List.drop_succ_cons, ← ih k h2]
      rw [List.filter_cons_of_neg (by simp)]
      refine List.filter_congr (fun q hq => ?_)
      have : ¬ q = p := fun e => h1 (by rw [← e]; exact hq)
      simp [this]
def inB (sd g : Nat → Int32) (b : Int32) (p : Nat) : Bool := decide (sd p = b) && decide (g p = -1)
theorem wtp_set {sd at_ g : Nat → Int32} {bank minute v : Int32} (hv : ¬ v = -1) (Z : List Nat) (q : Nat) : wtp sd at_ (setL g Z v) bank minute q = (!decide (q ∈ Z) && wtp sd at_ g bank minute q) := by
  unfold wtp setL
  by_cases h : q ∈ Z
  · simp [h, hv]
  · simp [h]
theorem inB_set {sd g : Nat → Int32} {bank v : Int32} (hv : ¬ v = -1) (Z : List Nat) (q : Nat) : inB sd (setL g Z v) bank q = (!decide (q ∈ Z) && inB sd g bank q) := by
  unfold inB setL
  by_cases h : q ∈ Z
  · simp [h, hv]
  · simp [h]
section LVS
variable {at_ sd : Nat → Int32} {n : Nat} {l : List Nat}
theorem lvs_list {bank minute rg : Int32} (O : OrdL at_ n l) (hm : ¬ minute = -1) : ∀ (k : Nat) (g b : Nat → Int32), lvs sd at_ n bank minute rg k g b = (setL g ((l.filter (wtp sd at_ g bank minute)).take k) minute, setL b ((l.filter (wtp sd at_ g bank minute)).take k) rg, min k (l.filter (wtp sd at_ g bank minute)).length) := by
  intro k
  induction k with
  | zero =>
    intro g b
    rw [lvs, List.take_zero, setL_nil, setL_nil, Nat.zero_min]
  | succ k ih =>
    intro g b
    rw [lvs, fst_list O]
    cases hL : l.filter (wtp sd at_ g bank minute) with
    | nil =>
      simp only [List.head?_nil, List.take_nil, setL_nil, List.length_nil, Nat.min_zero]
    | cons p X =>
      have e : l.filter (wtp sd at_ (va_up g p minute) bank minute) = X := by
        have e1 : (fun q => wtp sd at_ (va_up g p minute) bank minute q) = (fun q => !decide (q ∈ [p]) && wtp sd at_ g bank minute q) := by
          funext q
          rw [setL_one]
          exact wtp_set hm [p] q
        have e2 : l.filter (wtp sd at_ (va_up g p minute) bank minute) = (l.filter (wtp sd at_ g bank minute)).filter (fun q => !decide (q ∈ [p])) := by
          rw [List.filter_filter]
          exact congrArg (fun f => l.filter f) e1
        have nd : (l.filter (wtp sd at_ g bank minute)).Nodup := O.nodup.filter _
        rw [e2, hL]
        rw [hL] at nd
        have := drop_mem 1 nd
        simpa using this
      simp only [List.head?_cons]
      rw [ih, e]
      simp only [setL_cons, List.take_succ_cons, List.length_cons]
      congr 2
      omega
/-- those come by a minute, and those not yet -/
def Cm (at_ : Nat → Int32) (l : List Nat) (j : Nat) (minute : Int32) : Prop := (∀ q ∈ l.take j, ¬ minute < at_ q) ∧ ∀ q ∈ l.drop j, minute < at_ q
theorem take_filter {g : Nat → Int32} {b minute : Int32} {j : Nat} (C : Cm at_ l j minute) : (l.take j).filter (inB sd g b) = l.filter (wtp sd at_ g b minute) := by
  have e : l.filter (wtp sd at_ g b minute) = (l.take j).filter (wtp sd at_ g b minute) ++ (l.drop j).filter (wtp sd at_ g b minute) := by
    rw [← List.filter_append, List.take_append_drop]
  have e2 : (l.drop j).filter (wtp sd at_ g b minute) = [] := by
    rw [List.filter_eq_nil_iff]
    intro q hq
    have := C.2 q hq
    simp [wtp, this]
  rw [e, e2, List.append_nil]
  refine List.filter_congr (fun q hq => ?_)
  have := C.1 q hq
  simp [wtp, inB, this]
end LVS
/-- a sum over a list -/
def sm (f : Nat → Int32) : List Nat → Int32
  | [] => 0
  | p :: l => f p + sm f l
theorem sm_app (f : Nat → Int32) (a b : List Nat) : sm f (a ++ b) = sm f a + sm f b := by
  induction a with
  | nil => rw [List.nil_append, sm, Int32.zero_add]
  | cons p a ih => rw [List.cons_append, sm, sm, ih, Int32.add_assoc]
theorem sm_perm {f : Nat → Int32} {a b : List Nat} (h : a.Perm b) : sm f a = sm f b := by
  induction h with
  | nil => rfl
  | cons x _ ih => rw [sm, sm, ih]
  | swap x y l => rw [sm, sm, sm, sm, ← Int32.add_assoc, ← Int32.add_assoc, Int32.add_comm (f y)]
  | trans _ _ h1 h2 => rw [h1, h2]
theorem sm_snoc (f : Nat → Int32) (a : List Nat) (p : Nat) : sm f (a ++ [p]) = sm f a + f p := by
  rw [sm_app, sm, sm, Int32.add_zero]
theorem nI_sub {a b : Nat} (h : b ≤ a) : nI a - nI b = nI (a - b) := by
  have e : nI a = nI (a - b) + nI b := by rw [nI_add]; congr 1; omega
  rw [e, Int32.add_sub_cancel]
section FACTS
variable {sd at_ wt ct g : Nat → Int32} {minute : Int32}
def wg (at_ g : Nat → Int32) (minute : Int32) (p : Nat) : Bool := !decide (minute < at_ p) && decide (g p = -1)
theorem wtp_wg (p : Nat) (b : Int32) : wtp sd at_ g b minute p = (decide (sd p = b) && wg at_ g minute p) := rfl
theorem acV_sums {V : Nat → Int32} (h0 : ∀ i, 1 ≤ i → i ≤ 5 → V i = 0) : ∀ n, (∀ p, p < n → sd p = 0 ∨ sd p = 1) →
    (acV sd at_ wt ct g minute V n).1 1 = sm ct ((List.range n).filter (wtp sd at_ g 0 minute)) ∧ (acV sd at_ wt ct g minute V n).1 2 = sm ct ((List.range n).filter (wtp sd at_ g 1 minute)) ∧
    (acV sd at_ wt ct g minute V n).1 3 = sm wt ((List.range n).filter (wtp sd at_ g 0 minute)) ∧ (acV sd at_ wt ct g minute V n).1 4 = sm wt ((List.range n).filter (wtp sd at_ g 1 minute)) ∧
    ((∀ p, p < n → wg at_ g minute p = true → minute - at_ p ≤ (acV sd at_ wt ct g minute V n).1 5) ∧ ((acV sd at_ wt ct g minute V n).1 5 = 0 ∨ ∃ p, p < n ∧ wg at_ g minute p = true ∧ (acV sd at_ wt ct g minute V n).1 5 = minute - at_ p)) ∧
    ((acV sd at_ wt ct g minute V n).2 = true ↔ ∃ p, p < n ∧ wg at_ g minute p = true) := by
  intro n
  induction n with
  | zero =>
    intro _
    refine ⟨h0 1 (by decide) (by decide), h0 2 (by decide) (by decide), h0 3 (by decide) (by decide), h0 4 (by decide) (by decide), ⟨fun p hp => absurd hp (Nat.not_lt_zero _), Or.inl (h0 5 (by decide) (by decide))⟩, ?_⟩
    rw [acV]
    exact ⟨fun h => (by cases h), fun ⟨p, hp, _⟩ => absurd hp (Nat.not_lt_zero _)⟩
  | succ n ih =>
    intro hs
    obtain ⟨i1, i2, i3, i4, ⟨i5, i5'⟩, i6⟩ := ih (fun p hp => hs p (by omega))
    rw [acV, List.range_succ]
    simp only [List.filter_append, sm_app]
    by_cases hw : (!decide (minute < at_ n) && decide (g n = -1)) = true
    · rw [if_pos hw]
      have hw' : wg at_ g minute n = true := hw
      generalize (acV sd at_ wt ct g minute V n).1 = A at i1 i2 i3 i4 i5 i5' ⊢
      have a5 : ∀ B : Nat → Int32, B 5 = A 5 → ((∀ p, p < n + 1 → wg at_ g minute p = true → minute - at_ p ≤ (if B 5 < minute - at_ n then minute - at_ n else B 5)) ∧ ((if B 5 < minute - at_ n then minute - at_ n else B 5) = 0 ∨ ∃ p, p < n + 1 ∧ wg at_ g minute p = true ∧ (if B 5 < minute - at_ n then minute - at_ n else B 5) = minute - at_ p)) := by
        intro B hB
        rw [hB]
        by_cases hc : A 5 < minute - at_ n
        · rw [if_pos hc]
          refine ⟨fun p hp hpw => ?_, Or.inr ⟨n, by omega, hw', rfl⟩⟩
          by_cases e : p = n
          · rw [e]; exact Int32.le_refl _
          · exact Int32.le_trans (i5 p (by omega) hpw) (Int32.le_of_lt hc)
        · rw [if_neg hc]
          refine ⟨fun p hp hpw => ?_, ?_⟩
          · by_cases e : p = n
            · rw [e]; exact Int32.not_lt.mp hc
            · exact i5 p (by omega) hpw
          · rcases i5' with e | ⟨p, hp, e1, e2⟩
            · exact Or.inl e
            · exact Or.inr ⟨p, by omega, e1, e2⟩
      rcases hs n (by omega) with e | e
      · have f0 : [n].filter (wtp sd at_ g 0 minute) = [n] := by simp [wtp_wg, e, hw']
        have f1 : [n].filter (wtp sd at_ g 1 minute) = [] := by simp [wtp_wg, e]
        have k1 : (1 + sd n).toNatClampNeg = 1 := by rw [e]; decide
        have k3 : (3 + sd n).toNatClampNeg = 3 := by rw [e]; decide
        rw [f0, f1]
        unfold stV
        simp only [k1, k3, va_ui, sm, Int32.add_zero]
        refine ⟨by simp [i1], by simp [i2], by simp [i3], by simp [i4], ?_, ?_⟩
        · simpa using a5 A rfl
        · exact ⟨fun _ => ⟨n, by omega, hw'⟩, fun _ => trivial⟩
      · have f0 : [n].filter (wtp sd at_ g 0 minute) = [] := by simp [wtp_wg, e]
        have f1 : [n].filter (wtp sd at_ g 1 minute) = [n] := by simp [wtp_wg, e, hw']
        have k1 : (1 + sd n).toNatClampNeg = 2 := by rw [e]; decide
        have k3 : (3 + sd n).toNatClampNeg = 4 := by rw [e]; decide
        rw [f0, f1]
        unfold stV
        simp only [k1, k3, va_ui, sm, Int32.add_zero]
        refine ⟨by simp [i1], by simp [i2], by simp [i3], by simp [i4], ?_, ?_⟩
        · simpa using a5 A rfl
        · exact ⟨fun _ => ⟨n, by omega, hw'⟩, fun _ => trivial⟩
    · rw [if_neg hw]
      have hw' : wg at_ g minute n = false := by
        cases hh : wg at_ g minute n with
        | false => rfl
        | true => exact absurd hh hw
      have f : ∀ b, [n].filter (wtp sd at_ g b minute) = [] := fun b => by simp [wtp_wg, hw']
      rw [f, f]
      simp only [sm, Int32.add_zero]
      refine ⟨i1, i2, i3, i4, ⟨fun p hp hpw => ?_, ?_⟩, ?_⟩
      · by_cases e : p = n
        · rw [e, hw'] at hpw; cases hpw
        · exact i5 p (by omega) hpw
      · rcases i5' with e | ⟨p, hp, e1, e2⟩
        · exact Or.inl e
        · exact Or.inr ⟨p, by omega, e1, e2⟩
      · rw [i6]
        refine ⟨fun ⟨p, hp, e⟩ => ⟨p, by omega, e⟩, fun ⟨p, hp, e⟩ => ?_⟩
        by_cases e2 : p = n
        · rw [e2, hw'] at e; cases e
        · exact ⟨p, by omega, e⟩
end FACTS
