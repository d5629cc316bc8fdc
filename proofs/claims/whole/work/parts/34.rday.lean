/-! The reference's day: contracts of its small methods. Rows of the model at m: 25 side, 26 at, 27 weight, 28 cost, 29 counts, 30 gone, 31 goesBy, 32 ringAt, 33 ringLeft, 34 ringRight; 2 river; fields 36 people, 44 rings, 48 49 boats, 50 law. -/
def mdN : List (Nat × Nat) := [(1, 1000), (2, 60), (3, 24), (4, 24), (5, 6000), (6, 16), (7, 96), (8, 96), (9, 96), (10, 96), (11, 96), (12, 180), (13, 7), (14, 7), (15, 7), (16, 7), (17, 7), (18, 7), (19, 7), (20, 7), (21, 7), (22, 7), (23, 7), (24, 20), (25, 360), (26, 360), (27, 360), (28, 360), (29, 360), (30, 360), (31, 360), (32, 360), (33, 360), (34, 360), (35, 256), (36, 2048), (37, 4)]
/-- the model at m: laid out, its rows' lengths -/
def Md (m : Nat) (h : am_H) : Prop := am_L 10 m h ∧ ∀ q ∈ mdN, hN h (m + q.1) = q.2
theorem Md.n {m : Nat} {h : am_H} (M : Md m h) (i : Nat) {o n : Nat} (hi : mdN[i]? = some (o, n)) : hN h (m + o) = n := M.2 _ (List.mem_of_getElem? hi)
theorem cl0 : Int32.toNatClampNeg 0 = 0 := by decide
theorem cl1 : Int32.toNatClampNeg 1 = 1 := by decide
theorem cl2 : Int32.toNatClampNeg 2 = 2 := by decide
theorem cl3 : Int32.toNatClampNeg 3 = 3 := by decide
theorem cl4 : Int32.toNatClampNeg 4 = 4 := by decide
theorem cl5 : Int32.toNatClampNeg 5 = 5 := by decide
theorem cl6 : Int32.toNatClampNeg 6 = 6 := by decide
theorem cl7 : Int32.toNatClampNeg 7 = 7 := by decide
theorem cl8 : Int32.toNatClampNeg 8 = 8 := by decide
theorem cl9 : Int32.toNatClampNeg 9 = 9 := by decide
theorem vin {i : Int32} {k n : Nat} (hi : i = nI k) (h : k < n) (hn : n < 2 ^ 31) : vp_in i n := by rw [hi]; exact vp_in_nI h hn
theorem Md.in {m : Nat} {h : am_H} (M : Md m h) (i : Nat) {o n : Nat} (hi : mdN[i]? = some (o, n)) {x : Int32} {k : Nat} (hx : x = nI k) (hk : k < n) (hn : n < 2 ^ 31) : vp_in x (hN h (m + o)) := by
  rw [M.n i hi]; exact vin hx hk hn
/-- the first by the rows' order: the least at, of equal ones the least place -/
def fst (W : Nat → Bool) (at_ : Nat → Int32) : Nat → Option Nat
  | 0 => none
  | k + 1 => match fst W at_ k with
    | none => if W k then some k else none
    | some b => if W k && !decide (at_ b ≤ at_ k) then some k else some b
theorem fst_lt {W : Nat → Bool} {at_ : Nat → Int32} : ∀ {n b : Nat}, fst W at_ n = some b → b < n := by
  intro n
  induction n with
  | zero => intro b h; cases h
  | succ k ih =>
    intro b h
    rw [fst] at h
    split at h
    · split at h
      · cases h; omega
      · cases h
    · rename_i c hc
      have := ih hc
      split at h
      · cases h; omega
      · cases h; omega
/-- an option as an int: -1 for none -/
def enc (o : Option Nat) : Int32 := match o with
  | none => -1
  | some p => nI p
def wtg (h : am_H) (m : Nat) (minute : Int32) (p : Nat) : Bool := !decide (minute < hI h (m + 26) p) && decide (hI h (m + 30) p = -1)
def wts (h : am_H) (m : Nat) (bank minute : Int32) (p : Nat) : Bool := decide (hI h (m + 25) p = bank) && wtg h m minute p
section RDAY
variable {w : am_W} {d : Nat} {h : am_H} {Q : Option Value → am_H → Prop} {m : Nat}
theorem c_isWaiting {minute : Int32} {p : Nat} (M : Md m h) (hp : p < 360) (q : Q (some (.int (if wtg h m minute p then 1 else 0))) h) : EvM w mX10_isWaiting d [.ref m, .int (nI p), .int minute] h Q := by
  have hc : (nI p).toNatClampNeg = p := nI_clamp (by omega)
  refine bX10_isWaiting_0 ⟨M.1, M.in 25 rfl rfl hp (by decide), fun c => ?_, fun c => ⟨M.in 29 rfl rfl hp (by decide), fun c2 => ?_, fun c2 => ?_⟩⟩
  · rw [hc] at c
    simpa [wtg, c] using q
  · rw [hc] at c c2
    simpa [wtg, c, c2] using q
  · rw [hc] at c c2
    simpa [wtg, c, c2] using q
theorem c_firstOf {bank minute : Int32} {n : Nat} (M : Md m h) (hn : hI h m 36 = nI n) (hn2 : n ≤ 360) (q : Q (some (.int (enc (fst (wts h m bank minute) (hI h (m + 26)) n)))) h) : EvM w mX10_firstOf (d + 1) [.ref m, .int bank, .int minute] h Q := by
  refine bX10_firstOf_0 ?_
  have loop : ∀ k p : Nat, p + k = n → Ev w (am_Z w) mX10_firstOf (d + 1) 5 [(0, .ref m), (1, .int bank), (2, .int minute), (3, .int (enc (fst (wts h m bank minute) (hI h (m + 26)) p))), (4, .int (nI p))] [] h Q := by
    intro k
    induction k with
    | zero =>
      intro p hp
      have hp : p = n := by omega
      subst hp
      exact bX10_firstOf_5 ⟨M.1, fun _ => q, fun c => absurd (by rw [hn]; exact Int32.le_refl _) c⟩
    | succ k ih =>
      intro p hp
      have hpn : p < n := by omega
      have hc : (nI p).toNatClampNeg = p := nI_clamp (by omega)
      have nx : nI p + 1 = nI (p + 1) := (nI_succ p).symm
      have ih := ih (p + 1) (by omega)
      rw [fst] at ih
      refine bX10_firstOf_5 ⟨M.1, fun c => absurd c (by rw [hn, nI_leI (by omega) (by omega)]; omega), fun _ => ⟨M.in 24 rfl rfl (show p < 360 by omega) (by decide), fun c => ?_, fun c => ?_⟩⟩
      · rw [hc] at c
        refine c_isWaiting M (by omega) ⟨_, rfl, fun c2 => ?_, fun c2 => ?_⟩
        · have hw : wtg h m minute p = false := by
            cases hh : wtg h m minute p with
            | false => rfl
            | true => rw [hh] at c2; exact absurd c2 (by decide)
          have hs : wts h m bank minute p = false := by simp [wts, hw]
          rw [nx]
          rw [hs] at ih
          cases hf : fst (wts h m bank minute) (hI h (m + 26)) p with
          | none => rw [hf] at ih; simpa using ih
          | some b => rw [hf] at ih; simpa using ih
        · have hw : wtg h m minute p = true := by
            cases hh : wtg h m minute p with
            | true => rfl
            | false => rw [hh] at c2; exact absurd rfl c2
          have hs : wts h m bank minute p = true := by simp [wts, hw, c]
          rw [hs] at ih
          rw [nx]
          cases hf : fst (wts h m bank minute) (hI h (m + 26)) p with
          | none =>
            rw [hf] at ih
            refine ⟨fun _ => by simpa [enc] using ih, fun c3 => absurd (by decide) c3⟩
          | some b =>
            have hb := fst_lt hf
            rw [hf] at ih
            have hcb : (enc (some b)).toNatClampNeg = b := nI_clamp (by omega)
            refine ⟨fun c3 => absurd c3 (nI_pos (by omega)), fun _ => ⟨M.1, M.in 25 rfl rfl (show p < 360 by omega) (by decide), M.in 25 rfl rfl (show b < 360 by omega) (by decide), fun c4 => ?_, fun c4 => ?_⟩⟩
            · rw [hcb, hc] at c4
              simpa [enc, c4] using ih
            · rw [hcb, hc] at c4
              simpa [enc, c4] using ih
      · rw [hc] at c
        have hs : wts h m bank minute p = false := by simp [wts, c]
        rw [nx]
        rw [hs] at ih
        cases hf : fst (wts h m bank minute) (hI h (m + 26)) p with
        | none => rw [hf] at ih; simpa using ih
        | some b => rw [hf] at ih; simpa using ih
  exact loop n 0 (by omega)
end RDAY
