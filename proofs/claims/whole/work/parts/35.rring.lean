/-! Rows put anew, and the reference's leaves, ringsOnce, joins, dawns. -/
theorem va_up_up {α : Type} (f : Nat → α) (a : Nat) (v u : α) : va_up (va_up f a v) a u = va_up f a u := by
  funext b
  by_cases hb : b = a
  · subst hb; rw [va_up_self, va_up_self]
  · rw [va_up_ne _ _ hb, va_up_ne _ _ hb, va_up_ne _ _ hb]
theorem va_up_comm {α : Type} (f : Nat → α) {a b : Nat} (v u : α) (h : a ≠ b) : va_up (va_up f a v) b u = va_up (va_up f b u) a v := by
  funext c
  by_cases ha : c = a
  · subst ha; rw [va_up_ne _ _ h, va_up_self, va_up_self]
  · by_cases hb : c = b
    · subst hb; rw [va_up_self, va_up_ne _ _ ha, va_up_self]
    · rw [va_up_ne _ _ hb, va_up_ne _ _ ha, va_up_ne _ _ ha, va_up_ne _ _ hb]
theorem va_up_id {α : Type} (f : Nat → α) (a : Nat) : va_up f a (f a) = f := by
  funext b
  by_cases hb : b = a
  · subst hb; rw [va_up_self]
  · rw [va_up_ne _ _ hb]
theorem rI_rI (h : am_H) (a : Nat) (f g : Nat → Int32) : rI (rI h a f) a g = rI h a g := by
  show (hK h, hN h, va_up (va_up (hI h) a f) a g, hJ h, hR h, hZ h, hS h) = rI h a g
  rw [va_up_up]
  rfl
theorem rI_comm (h : am_H) {a b : Nat} (f g : Nat → Int32) (hab : a ≠ b) : rI (rI h a f) b g = rI (rI h b g) a f := by
  show (hK h, hN h, va_up (va_up (hI h) a f) b g, hJ h, hR h, hZ h, hS h) = (hK h, hN h, va_up (va_up (hI h) b g) a f, hJ h, hR h, hZ h, hS h)
  rw [va_up_comm _ _ _ hab]
theorem sI_r (h : am_H) (a k : Nat) (v : Int32) : sI h a k v = rI h a (va_up (hI h a) k v) := rfl
theorem hI_rs (h : am_H) (a : Nat) (f : Nat → Int32) : hI (rI h a f) a = f := va_up_self _ _ _
theorem hI_rn (h : am_H) {a b : Nat} (f : Nat → Int32) (hb : b ≠ a) : hI (rI h a f) b = hI h b := va_up_ne _ _ hb
theorem Md.r {m : Nat} {h : am_H} (M : Md m h) (a : Nat) (f : Nat → Int32) : Md m (rI h a f) := M
theorem Md.w {m : Nat} {h : am_H} (M : Md m h) (a k : Nat) (v : Int32) : Md m (sI h a k v) := M
/-- who waits, by the rows -/
def wtp (sd at_ g : Nat → Int32) (bank minute : Int32) (p : Nat) : Bool := decide (sd p = bank) && (!decide (minute < at_ p) && decide (g p = -1))
theorem wts_wtp (h : am_H) (m : Nat) (bank minute : Int32) : wts h m bank minute = wtp (hI h (m + 25)) (hI h (m + 26)) (hI h (m + 30)) bank minute := rfl
/-- up to k of a bank go: the rows gone and goesBy then, and how many -/
def lvs (sd at_ : Nat → Int32) (n : Nat) (bank minute rg : Int32) : Nat → (Nat → Int32) → (Nat → Int32) → (Nat → Int32) × (Nat → Int32) × Nat
  | 0, g, b => (g, b, 0)
  | k + 1, g, b => match fst (wtp sd at_ g bank minute) at_ n with
    | none => (g, b, 0)
    | some p => ((lvs sd at_ n bank minute rg k (va_up g p minute) (va_up b p rg)).1, (lvs sd at_ n bank minute rg k (va_up g p minute) (va_up b p rg)).2.1, (lvs sd at_ n bank minute rg k (va_up g p minute) (va_up b p rg)).2.2 + 1)
theorem lvs_le (sd at_ : Nat → Int32) (n : Nat) (bank minute rg : Int32) : ∀ (k : Nat) (g b : Nat → Int32), (lvs sd at_ n bank minute rg k g b).2.2 ≤ k := by
  intro k
  induction k with
  | zero => intro g b; exact Nat.le_refl _
  | succ k ih =>
    intro g b
    rw [lvs]
    split
    · exact Nat.zero_le _
    · exact Nat.succ_le_succ (ih _ _)
section RRING
variable {w : am_W} {d : Nat} {h : am_H} {Q : Option Value → am_H → Prop} {m : Nat}
theorem c_leaves {bank minute : Int32} {n room : Nat} (M : Md m h) (hn : hI h m 36 = nI n) (hn2 : n ≤ 360) (hr : hI h (m + 2) 0 = nI room) (hr2 : room < 2 ^ 30)
    (q : Q (some (.int (nI (lvs (hI h (m + 25)) (hI h (m + 26)) n bank minute (hI h m 44) room (hI h (m + 30)) (hI h (m + 31))).2.2))) (rI (rI h (m + 30) (lvs (hI h (m + 25)) (hI h (m + 26)) n bank minute (hI h m 44) room (hI h (m + 30)) (hI h (m + 31))).1) (m + 31) (lvs (hI h (m + 25)) (hI h (m + 26)) n bank minute (hI h m 44) room (hI h (m + 30)) (hI h (m + 31))).2.1)) : EvM w mX10_leaves (d + 2) [.ref m, .int bank, .int minute] h Q := by
  have loop : ∀ k c : Nat, c + k = room → ∀ g b : Nat → Int32, Q (some (.int (nI (c + (lvs (hI h (m + 25)) (hI h (m + 26)) n bank minute (hI h m 44) k g b).2.2)))) (rI (rI h (m + 30) (lvs (hI h (m + 25)) (hI h (m + 26)) n bank minute (hI h m 44) k g b).1) (m + 31) (lvs (hI h (m + 25)) (hI h (m + 26)) n bank minute (hI h m 44) k g b).2.1) →
      Ev w (am_Z w) mX10_leaves (d + 1 + 1) 10 [(0, .ref m), (1, .int bank), (2, .int minute), (3, .int (nI c)), (4, .int (enc (fst (wtp (hI h (m + 25)) (hI h (m + 26)) g bank minute) (hI h (m + 26)) n)))] [] (rI (rI h (m + 30) g) (m + 31) b) Q := by
    intro k
    induction k with
    | zero =>
      intro c hc g b q
      refine bX10_leaves_10 ⟨fun _ => q, fun _ => ⟨M.1, M.in 1 rfl (k := 0) (by decide) (by decide) (by decide), fun _ => q, fun c2 => absurd ?_ c2⟩⟩
      rw [cl0, hI_rn _ _ (by omega), hI_rn _ _ (by omega), hr, nI_leI (by omega) (by omega)]
      omega
    | succ k ih =>
      intro c hc g b q
      rw [lvs] at q
      cases hf : fst (wtp (hI h (m + 25)) (hI h (m + 26)) g bank minute) (hI h (m + 26)) n with
      | none =>
        rw [hf] at q
        exact bX10_leaves_10 ⟨fun _ => q, fun c2 => absurd (by decide) c2⟩
      | some p =>
        rw [hf] at q
        have hp := fst_lt hf
        have hcl : (enc (some p)).toNatClampNeg = p := nI_clamp (by omega)
        refine bX10_leaves_10 ⟨fun c2 => absurd c2 (nI_pos (by omega)), fun _ => ⟨M.1, M.in 1 rfl (k := 0) (by decide) (by decide) (by decide), fun c2 => absurd c2 ?_, fun _ => ⟨M.in 29 rfl rfl (show p < 360 by omega) (by decide), ?_⟩⟩⟩
        · rw [cl0, hI_rn _ _ (by omega), hI_rn _ _ (by omega), hr, nI_leI (by omega) (by omega)]
          omega
        · intro h4 e4
          refine ⟨by rw [e4]; exact M.in 30 rfl rfl (show p < 360 by omega) (by decide), fun h6 e6 => ?_⟩
          have e : h6 = rI (rI h (m + 30) (va_up g p minute)) (m + 31) (va_up b p (hI h m 44)) := by
            rw [e6, e4, hcl, sI_r, sI_r]
            rw [hI_rn _ _ (show m + 30 ≠ m + 31 by omega), hI_rs, rI_comm (rI h (m + 30) g) _ _ (show m + 31 ≠ m + 30 by omega), rI_rI, hI_rs, rI_rI, hI_rn _ _ (show m ≠ m + 31 by omega), hI_rn _ _ (show m ≠ m + 30 by omega)]
          rw [e]
          refine c_firstOf (n := n) (h := rI (rI h (m + 30) (va_up g p minute)) (m + 31) (va_up b p (hI h m 44))) M (by rw [hI_rn _ _ (show m ≠ m + 31 by omega), hI_rn _ _ (show m ≠ m + 30 by omega)]; exact hn) hn2 ⟨_, rfl, ?_⟩
          have ih := ih (c + 1) (by omega) (va_up g p minute) (va_up b p (hI h m 44)) (by
            have e9 : c + 1 + (lvs (hI h (m + 25)) (hI h (m + 26)) n bank minute (hI h m 44) k (va_up g p minute) (va_up b p (hI h m 44))).2.2 = c + ((lvs (hI h (m + 25)) (hI h (m + 26)) n bank minute (hI h m 44) k (va_up g p minute) (va_up b p (hI h m 44))).2.2 + 1) := by omega
            rw [e9]
            exact q)
          rw [wts_wtp, hI_rn _ _ (show m + 25 ≠ m + 31 by omega), hI_rn _ _ (show m + 25 ≠ m + 30 by omega), hI_rn _ _ (show m + 26 ≠ m + 31 by omega), hI_rn _ _ (show m + 26 ≠ m + 30 by omega), hI_rn _ _ (show m + 30 ≠ m + 31 by omega), hI_rs, ← nI_succ]
          exact ih
  refine bX10_leaves_0 ⟨M.1, c_firstOf (n := n) M hn hn2 ⟨_, rfl, ?_⟩⟩
  have l0 := loop room 0 (by omega) (hI h (m + 30)) (hI h (m + 31)) (by rw [Nat.zero_add]; exact q)
  rw [rI_self h (m + 30), rI_self h (m + 31)] at l0
  exact l0
end RRING
