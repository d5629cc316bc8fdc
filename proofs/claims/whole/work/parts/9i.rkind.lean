/-! The kinds of tokens, as the class numbers them, out of what the reference holds. -/
def wtb : List Int64 := [365647, 407041, 1359415, 380651, 70340, 8798, 232608281, 411, 47, 332864552, 70517, 240023, 9748424, 6624454, 9813100, 453701, 191610176, 8740238, 3328, 1758676, 60284, 298503054, 1285333587, 10631, 1111, 423]
def wdk (v : Int64) : Int32 := if v ∈ wtb then nI (64 + wtb.idxOf v) else 3
theorem wdk_lt {v : Int64} (h : v ∈ wtb) : wtb.idxOf v < 26 := by
  have := List.idxOf_lt_length_of_mem h
  have e : wtb.length = 26 := by decide
  omega
theorem wdk_iff {v : Int64} {k : Nat} {u : Int64} (hk : k < 26) (hu : wtb[k]? = some u) : wdk v = nI (64 + k) ↔ v = u := by
  unfold wdk
  have nd : wtb.Nodup := by decide
  have hl : k < wtb.length := by have e : wtb.length = 26 := by decide
                                 omega
  have hu' : wtb[k] = u := by rw [List.getElem?_eq_getElem hl] at hu; exact Option.some.inj hu
  constructor
  · intro h
    by_cases c : v ∈ wtb
    · rw [if_pos c, nI_eq (by have := wdk_lt c; omega) (by omega)] at h
      have : wtb.idxOf v = k := by omega
      subst this
      rw [← hu', List.getElem_idxOf]
    · rw [if_neg c, show (3 : Int32) = nI 3 by decide, nI_eq (by decide) (by omega)] at h
      omega
  · intro h
    have c : v ∈ wtb := by rw [h, ← hu']; exact List.getElem_mem hl
    rw [if_pos c]
    congr 2
    rw [h, ← hu']
    exact List.Nodup.idxOf_getElem nd k hl
/-- the kind of the token that begins at b -/
def tkC (s : Nat → Int32) (n b : Nat) : Int32 := if n ≤ b then 0 else if isL (s b) then (if tkE s n b - b ≤ 8 then wdk (tkW s n b) else 1) else if isD (s b) then (if tkE s n b - b ≤ 4 then 2 else 1) else if isG (s b) then s b else 1
theorem wdk_or (v : Int64) : wdk v = 3 ∨ ∃ k, k < 26 ∧ wdk v = nI (64 + k) := by
  unfold wdk
  by_cases c : v ∈ wtb
  · rw [if_pos c]; exact Or.inr ⟨_, wdk_lt c, rfl⟩
  · rw [if_neg c]; exact Or.inl rfl
theorem isG_or {c : Int32} (h : isG c = true) : c = 40 ∨ c = 41 ∨ c = 42 ∨ c = 43 ∨ c = 45 ∨ c = 59 ∨ c = 60 ∨ c = 61 := by
  unfold isG at h
  have hn : ¬ c < 0 := fun z => by
    have z1 : c < 40 := Int32.lt_trans z (by decide)
    have z2 : c < 59 := Int32.lt_trans z (by decide)
    have z3 : ¬ c = 45 := fun e => by rw [e] at z; exact absurd z (by decide)
    simp [z1, z2, z3] at h
  obtain ⟨j, hj, rfl⟩ := nI_of hn
  have e : ∀ k : Nat, k < 2 ^ 31 → (nI j = nI k ↔ j = k) := fun k hk => nI_eq hj hk
  rw [show (40 : Int32) = nI 40 by decide, show (43 : Int32) = nI 43 by decide, show (45 : Int32) = nI 45 by decide, show (59 : Int32) = nI 59 by decide, show (61 : Int32) = nI 61 by decide] at h
  rw [show (40 : Int32) = nI 40 by decide, show (41 : Int32) = nI 41 by decide, show (42 : Int32) = nI 42 by decide, show (43 : Int32) = nI 43 by decide, show (45 : Int32) = nI 45 by decide, show (59 : Int32) = nI 59 by decide, show (60 : Int32) = nI 60 by decide, show (61 : Int32) = nI 61 by decide]
  simp only [nI_ltI hj (show 40 < 2 ^ 31 by decide), nI_leI hj (show 43 < 2 ^ 31 by decide), nI_ltI hj (show 59 < 2 ^ 31 by decide), nI_ltI (show 61 < 2 ^ 31 by decide) hj, e 45 (by decide), Bool.or_eq_true, Bool.and_eq_true, Bool.not_eq_true', decide_eq_true_eq, decide_eq_false_iff_not] at h
  rw [e 40 (by decide), e 41 (by decide), e 42 (by decide), e 43 (by decide), e 45 (by decide), e 59 (by decide), e 60 (by decide), e 61 (by decide)]
  omega
/-- what a token is, in the reference's fields and in the class's number -/
theorem tk_cases (s : Nat → Int32) (n b : Nat) : (tkK s n b = 0 ∧ tkC s n b = 0) ∨ (tkK s n b = 1 ∧ tkC s n b = wdk (tkW s n b)) ∨ (tkK s n b = 2 ∧ tkC s n b = 2) ∨ (tkK s n b = 3 ∧ tkC s n b = s b ∧ isG (s b) = true ∧ b < n) ∨ (tkK s n b = 4 ∧ tkC s n b = 1) := by
  unfold tkK tkC
  by_cases c : n ≤ b
  · rw [if_pos c, if_pos c]; exact Or.inl ⟨rfl, rfl⟩
  · rw [if_neg c, if_neg c]
    by_cases c1 : isL (s b) = true
    · rw [if_pos c1, if_pos c1]
      by_cases c2 : tkE s n b - b ≤ 8
      · rw [if_pos c2, if_pos c2]; exact Or.inr (Or.inl ⟨rfl, rfl⟩)
      · rw [if_neg c2, if_neg c2]; exact Or.inr (Or.inr (Or.inr (Or.inr ⟨rfl, rfl⟩)))
    · rw [if_neg c1, if_neg c1]
      by_cases c2 : isD (s b) = true
      · rw [if_pos c2, if_pos c2]
        by_cases c3 : tkE s n b - b ≤ 4
        · rw [if_pos c3, if_pos c3]; exact Or.inr (Or.inr (Or.inl ⟨rfl, rfl⟩))
        · rw [if_neg c3, if_neg c3]; exact Or.inr (Or.inr (Or.inr (Or.inr ⟨rfl, rfl⟩)))
      · rw [if_neg c2, if_neg c2]
        by_cases c3 : isG (s b) = true
        · rw [if_pos c3, if_pos c3]; exact Or.inr (Or.inr (Or.inr (Or.inl ⟨rfl, rfl, c3, by omega⟩)))
        · rw [if_neg c3, if_neg c3]; exact Or.inr (Or.inr (Or.inr (Or.inr ⟨rfl, rfl⟩)))
theorem tk_word {s : Nat → Int32} {n b k : Nat} {u : Int64} (hk : k < 26) (hu : wtb[k]? = some u) : (tkK s n b = 1 ∧ tkW s n b = u) ↔ tkC s n b = nI (64 + k) := by
  have lit : ∀ j : Nat, j < 64 → ¬ nI j = nI (64 + k) := fun j hj e => by rw [nI_eq (by omega) (by omega)] at e; omega
  rcases tk_cases s n b with ⟨e1, e2⟩ | ⟨e1, e2⟩ | ⟨e1, e2⟩ | ⟨e1, e2, e3, e4⟩ | ⟨e1, e2⟩
  · rw [e1, e2]; exact ⟨fun h => absurd h.1 (by decide), fun h => absurd h (lit 0 (by decide))⟩
  · rw [e1, e2, wdk_iff hk hu]; exact ⟨fun h => h.2, fun h => ⟨rfl, h⟩⟩
  · rw [e1, e2]; exact ⟨fun h => absurd h.1 (by decide), fun h => absurd h (lit 2 (by decide))⟩
  · rw [e1, e2]
    refine ⟨fun h => absurd h.1 (by decide), fun h => ?_⟩
    rcases isG_or e3 with e | e | e | e | e | e | e | e <;> rw [e] at h
    · exact absurd h (lit 40 (by decide))
    · exact absurd h (lit 41 (by decide))
    · exact absurd h (lit 42 (by decide))
    · exact absurd h (lit 43 (by decide))
    · exact absurd h (lit 45 (by decide))
    · exact absurd h (lit 59 (by decide))
    · exact absurd h (lit 60 (by decide))
    · exact absurd h (lit 61 (by decide))
  · rw [e1, e2]; exact ⟨fun h => absurd h.1 (by decide), fun h => absurd h (lit 1 (by decide))⟩
theorem tk_sign {s : Nat → Int32} {n b k : Nat} (hk : 4 ≤ k) (hk2 : k < 64) : (tkK s n b = 3 ∧ s b = nI k) ↔ tkC s n b = nI k := by
  have lit : ∀ j : Nat, (j < 4 ∨ (64 ≤ j ∧ j < 100)) → ¬ nI j = nI k := fun j hj e => by rw [nI_eq (by omega) (by omega)] at e; omega
  rcases tk_cases s n b with ⟨e1, e2⟩ | ⟨e1, e2⟩ | ⟨e1, e2⟩ | ⟨e1, e2, e3, e4⟩ | ⟨e1, e2⟩
  · rw [e1, e2]; exact ⟨fun h => absurd h.1 (by decide), fun h => absurd h (lit 0 (by omega))⟩
  · rw [e1, e2]
    refine ⟨fun h => absurd h.1 (by decide), fun h => ?_⟩
    rcases wdk_or (tkW s n b) with e | ⟨j, hj, e⟩
    · rw [e] at h; exact absurd h (lit 3 (by omega))
    · rw [e] at h; exact absurd h (lit (64 + j) (by omega))
  · rw [e1, e2]; exact ⟨fun h => absurd h.1 (by decide), fun h => absurd h (lit 2 (by omega))⟩
  · rw [e1, e2]; exact ⟨fun h => h.2, fun h => ⟨rfl, h⟩⟩
  · rw [e1, e2]; exact ⟨fun h => absurd h.1 (by decide), fun h => absurd h (lit 1 (by omega))⟩
theorem tk_small {s : Nat → Int32} {n b : Nat} : (tkK s n b = 0 ↔ tkC s n b = 0) ∧ (tkK s n b = 2 ↔ tkC s n b = 2) := by
  have big : ∀ j k : Nat, j < 3 → 3 ≤ k → k < 100 → ¬ nI k = nI j := fun j k h1 h2 h3 e => by rw [nI_eq (by omega) (by omega)] at e; omega
  rcases tk_cases s n b with ⟨e1, e2⟩ | ⟨e1, e2⟩ | ⟨e1, e2⟩ | ⟨e1, e2, e3, e4⟩ | ⟨e1, e2⟩
  · rw [e1, e2]; decide
  · rw [e1, e2]
    rcases wdk_or (tkW s n b) with e | ⟨j, hj, e⟩
    · rw [e]; decide
    · rw [e]; exact ⟨⟨fun h => absurd h (by decide), fun h => absurd h (big 0 _ (by decide) (by omega) (by omega))⟩, ⟨fun h => absurd h (by decide), fun h => absurd h (big 2 _ (by decide) (by omega) (by omega))⟩⟩
  · rw [e1, e2]; decide
  · rw [e1, e2]
    rcases isG_or e3 with e | e | e | e | e | e | e | e <;> rw [e] <;> decide
  · rw [e1, e2]; decide
