/-! Contracts of the leaves. -/
/-- what get(row, place) answers -/
def gv (n : Nat) (f : Nat → Int32) (x : Int32) : Int32 := if x < 0 then 0 else if nI n ≤ x then 0 else f x.toNatClampNeg
theorem gv_nI {n p : Nat} {f : Nat → Int32} (hp : p < n) (hn : n < 2 ^ 31) : gv n f (nI p) = f p := by
  unfold gv
  rw [if_neg (nI_pos (by omega)), if_neg (by rw [nI_leI hn (by omega)]; omega), nI_clamp (by omega)]
theorem in_of {n : Nat} {x : Int32} (h1 : ¬ x < 0) (h2 : ¬ nI n ≤ x) (hn : n < 2 ^ 31) : vp_in x n := by
  obtain ⟨j, hj, rfl⟩ := nI_of h1
  rw [nI_leI hn hj] at h2
  exact vp_in_nI (by omega) hn
section LEAF
variable {w : am_W} {d : Nat} {h : am_H} {Q : Option Value → am_H → Prop}
theorem c_get {a : Nat} {x : Int32} (hk : hK h a = 12) (hn : hN h a < 2 ^ 31) (q : Q (some (.int (gv (hN h a) (hI h a) x))) h) : EvM w mX9_get d [.ref a, .int x] h Q := by
  refine bX9_get_0 ⟨fun c => ?_, fun c => ⟨hk, fun c2 => ?_, fun c2 => ⟨in_of c c2 hn, ?_⟩⟩⟩
  · rw [gv, if_pos c] at q; exact q
  · rw [gv, if_neg c, if_pos c2] at q; exact q
  · rw [gv, if_neg c, if_neg c2] at q; exact q
/-- the row behind set(row, place, value) -/
def sv (n : Nat) (f : Nat → Int32) (x v : Int32) : Nat → Int32 := if x < 0 then f else if nI n ≤ x then f else va_up f x.toNatClampNeg v
theorem sv_nI {n p : Nat} {f : Nat → Int32} {v : Int32} (hp : p < n) (hn : n < 2 ^ 31) : sv n f (nI p) v = va_up f p v := by
  unfold sv
  rw [if_neg (nI_pos (by omega)), if_neg (by rw [nI_leI hn (by omega)]; omega), nI_clamp (by omega)]
theorem rI_self (h : am_H) (a : Nat) : rI h a (hI h a) = h := by
  show (hK h, hN h, va_up (hI h) a (hI h a), hJ h, hR h, hZ h, hS h) = h
  have e : va_up (hI h) a (hI h a) = hI h := by
    funext b
    by_cases hb : b = a
    · subst hb; rw [va_up_self]
    · rw [va_up_ne _ _ hb]
  rw [e]
  rfl
theorem c_set {a : Nat} {x v : Int32} (hk : hK h a = 12) (hn : hN h a < 2 ^ 31) (q : Q none (rI h a (sv (hN h a) (hI h a) x v))) : EvM w mX9_set d [.ref a, .int x, .int v] h Q := by
  refine bX9_set_0 ⟨fun c => ?_, fun c => ⟨hk, fun c2 => ?_, fun c2 => ⟨in_of c c2 hn, ?_⟩⟩⟩
  · rw [sv, if_pos c, rI_self] at q; exact q
  · rw [sv, if_neg c, if_pos c2, rI_self] at q; exact q
  · intro h3 e
    rw [sv, if_neg c, if_neg c2] at q
    rw [e]
    exact q
def b01 (p : Prop) [Decidable p] : Int32 := if p then 1 else 0
theorem c_isMinute {x : Int32} (q : Q (some (.int (b01 (0 ≤ x ∧ x < 1440)))) h) : EvM w mX9_isMinute d [.int x] h Q := by
  unfold b01 at q
  refine bX9_isMinute_0 ⟨fun c => ?_, fun c => ⟨fun c2 => ?_, fun c2 => ?_⟩⟩
  · rw [if_neg (fun h => absurd (Int32.lt_of_lt_of_le c h.1) (Int32.lt_irrefl))] at q; exact q
  · rw [if_neg (fun h => absurd (Int32.lt_of_lt_of_le h.2 c2) (Int32.lt_irrefl))] at q; exact q
  · rw [if_pos ⟨Int32.not_lt.mp c, Int32.not_le.mp c2⟩] at q; exact q
theorem c_within {x0 x1 x2 : Int32} (q : Q (some (.int (b01 (x1 ≤ x0 ∧ x0 ≤ x2)))) h) : EvM w mX10_within d [.int x0, .int x1, .int x2] h Q := by
  unfold b01 at q
  refine bX10_within_0 ⟨fun c => ?_, fun c => ⟨fun c2 => ?_, fun c2 => ?_⟩⟩
  · rw [if_neg (fun h => absurd (Int32.lt_of_lt_of_le c h.1) (Int32.lt_irrefl))] at q; exact q
  · rw [if_neg (fun h => absurd (Int32.lt_of_lt_of_le c2 h.2) (Int32.lt_irrefl))] at q; exact q
  · rw [if_pos ⟨Int32.not_lt.mp c, Int32.not_lt.mp c2⟩] at q; exact q
end LEAF
