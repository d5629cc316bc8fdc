/-! The reference's moves, lays, mark, feed. -/
def mvR (n s t k : Nat) (f : Nat → Int32) : Nat → Int32 := fun i => if n * t ≤ i ∧ i < n * t + k then f (n * s + (i - n * t)) else f i
theorem mvR_0 (n s t : Nat) (f : Nat → Int32) : mvR n s t 0 f = f := by
  funext i
  simp only [mvR]
  rw [if_neg (by omega)]
theorem blk {n s t k j : Nat} (hst : s ≠ t) (hk : k < n) (hj : j < n) : n * s + k ≠ n * t + j := by
  intro e
  apply hst
  have h1 : (n * s + k) / n = s := by rw [Nat.mul_add_div (by omega), Nat.div_eq_of_lt hk, Nat.add_zero]
  have h2 : (n * t + j) / n = t := by rw [Nat.mul_add_div (by omega), Nat.div_eq_of_lt hj, Nat.add_zero]
  rw [← h1, ← h2, e]
theorem mvR_s {n s t k : Nat} (hst : s ≠ t) (hk : k < n) (f : Nat → Int32) : va_up (mvR n s t k f) (n * t + k) (mvR n s t k f (n * s + k)) = mvR n s t (k + 1) f := by
  have e : mvR n s t k f (n * s + k) = f (n * s + k) := by
    simp only [mvR]
    rw [if_neg]
    intro c
    exact blk (j := n * s + k - n * t) hst hk (by omega) (by omega)
  funext i
  rw [va_ui, e]
  by_cases c : i = n * t + k
  · subst c
    rw [if_pos rfl]
    simp only [mvR]
    rw [if_pos (by omega), show n * s + (n * t + k - n * t) = n * s + k by omega]
  · rw [if_neg c]
    simp only [mvR]
    by_cases c2 : n * t ≤ i ∧ i < n * t + k
    · rw [if_pos c2, if_pos (by omega)]
    · rw [if_neg c2, if_neg (by omega)]
theorem mvR_in {n s t k : Nat} {f : Nat → Int32} (hk : k < n) : mvR n s t n f (n * t + k) = f (n * s + k) := by
  simp only [mvR]
  rw [if_pos (by omega), show n * s + (n * t + k - n * t) = n * s + k by omega]
theorem mvR_out {n s t u k : Nat} {f : Nat → Int32} (hk : k < n) (hu : u ≠ t) : mvR n s t n f (n * u + k) = f (n * u + k) := by
  simp only [mvR]
  rw [if_neg]
  intro c
  exact blk (j := n * u + k - n * t) hu hk (by omega) (by omega)
def lnR (s t k : Nat) (f : Nat → Int32) : Nat → Int32 := fun i => if 4 * t ≤ i ∧ i < 4 * t + k then f (4 * s + (i - 4 * t)) + 1000 * (nI t - nI s) else f i
theorem lnR_0 (s t : Nat) (f : Nat → Int32) : lnR s t 0 f = f := by
  funext i
  simp only [lnR]
  rw [if_neg (by omega)]
theorem lnR_e {s t k : Nat} (hst : s ≠ t) (hk : k < 4) (f : Nat → Int32) : lnR s t k f (4 * s + k) = f (4 * s + k) := by
  simp only [lnR]
  rw [if_neg]
  intro c
  exact blk (j := 4 * s + k - 4 * t) hst hk (by omega) (by omega)
theorem lnR_s {s t k : Nat} (hst : s ≠ t) (hk : k < 4) (f : Nat → Int32) : va_up (lnR s t k f) (4 * t + k) (lnR s t k f (4 * s + k) + 1000 * (nI t - nI s)) = lnR s t (k + 1) f := by
  funext i
  rw [va_ui, lnR_e hst hk]
  by_cases c : i = 4 * t + k
  · subst c
    rw [if_pos rfl]
    simp only [lnR]
    rw [if_pos (by omega), show 4 * s + (4 * t + k - 4 * t) = 4 * s + k by omega]
  · rw [if_neg c]
    simp only [lnR]
    by_cases c2 : 4 * t ≤ i ∧ i < 4 * t + k
    · rw [if_pos c2, if_pos (by omega)]
    · rw [if_neg c2, if_neg (by omega)]
theorem lnR_a (s t x : Nat) : nI (1000 * s + x) + 1000 * (nI t - nI s) = nI (1000 * t + x) := by
  rw [← nI_add, ← nI_add, show (1000 : Int32) = nI 1000 by decide, Int32.mul_sub, pk_mul, pk_mul, Int32.add_comm, Int32.sub_eq_add_neg, Int32.add_assoc, ← Int32.add_assoc (-nI (1000 * s)), Int32.add_left_neg, Int32.zero_add]
theorem lnR_in {s t k x : Nat} {f : Nat → Int32} (hk : k < 4) (e : f (4 * s + k) = nI (1000 * s + x)) : lnR s t 4 f (4 * t + k) = nI (1000 * t + x) := by
  simp only [lnR]
  rw [if_pos (by omega), show 4 * s + (4 * t + k - 4 * t) = 4 * s + k by omega, e, lnR_a]
theorem lnR_out {s t u k : Nat} {f : Nat → Int32} (hk : k < 4) (hu : u ≠ t) : lnR s t 4 f (4 * u + k) = f (4 * u + k) := by
  simp only [lnR]
  rw [if_neg]
  intro c
  exact blk (j := 4 * u + k - 4 * t) hu hk (by omega) (by omega)
/-- the rows behind lays -/
def lyI (m s t k : Nat) (g : Nat → Nat → Int32) : Nat → Nat → Int32 := fun a => if a = m + 2 then mvR 10 s t 10 (g a) else if m + 7 ≤ a ∧ a ≤ m + 11 then mvR 16 s t 16 (g a) else if a = m + 12 then mvR 30 s t 30 (g a) else if a = m + 5 then mvR 1000 s t 1000 (g a) else if a = m + 3 then lnR s t k (g a) else if a = m + 4 then lnR s t k (g a) else g a
def lyH (m s t k : Nat) (h : am_H) : am_H := (hK h, hN h, lyI m s t k (hI h), hJ h, hR h, hZ h, hS h)
theorem lyH_I (m s t k : Nat) (h : am_H) : hI (lyH m s t k h) = lyI m s t k (hI h) := rfl
theorem lyH_slt {m s t : Nat} {h : am_H} {H : rH} (S : Slt m h s H) : Slt m (lyH m s t 4 h) t H := by
  refine S.mv (fun k hk => ?_) (fun o h1 h2 k hk => ?_) (fun k hk => ?_) (fun k hk => ?_) (fun k a hk e => ?_) (fun k a hk e => ?_)
  · rw [lyH_I]; simp only [lyI]; rw [if_pos trivial]; exact mvR_in hk
  · rw [lyH_I]; simp only [lyI]; rw [if_neg (by omega), if_pos (by omega)]; exact mvR_in hk
  · rw [lyH_I]; simp only [lyI]; rw [if_neg (by omega), if_neg (by omega), if_pos trivial]; exact mvR_in hk
  · rw [lyH_I]; simp only [lyI]; rw [if_neg (by omega), if_neg (by omega), if_neg (by omega), if_pos trivial]; exact mvR_in hk
  · rw [lyH_I]; simp only [lyI]; rw [if_neg (by omega), if_neg (by omega), if_neg (by omega), if_neg (by omega), if_pos trivial]; exact lnR_in hk e
  · rw [lyH_I]; simp only [lyI]; rw [if_neg (by omega), if_neg (by omega), if_neg (by omega), if_neg (by omega), if_neg (by omega), if_pos trivial]; exact lnR_in hk e
theorem lyH_oth {m s t u : Nat} {h : am_H} {H : rH} (S : Slt m h u H) (hu : u ≠ t) : Slt m (lyH m s t 4 h) u H := by
  refine S.mv (fun k hk => ?_) (fun o h1 h2 k hk => ?_) (fun k hk => ?_) (fun k hk => ?_) (fun k a hk e => ?_) (fun k a hk e => ?_)
  · rw [lyH_I]; simp only [lyI]; rw [if_pos trivial]; exact mvR_out hk hu
  · rw [lyH_I]; simp only [lyI]; rw [if_neg (by omega), if_pos (by omega)]; exact mvR_out hk hu
  · rw [lyH_I]; simp only [lyI]; rw [if_neg (by omega), if_neg (by omega), if_pos trivial]; exact mvR_out hk hu
  · rw [lyH_I]; simp only [lyI]; rw [if_neg (by omega), if_neg (by omega), if_neg (by omega), if_pos trivial]; exact mvR_out hk hu
  · rw [lyH_I]; simp only [lyI]; rw [if_neg (by omega), if_neg (by omega), if_neg (by omega), if_neg (by omega), if_pos trivial, lnR_out hk hu]; exact e
  · rw [lyH_I]; simp only [lyI]; rw [if_neg (by omega), if_neg (by omega), if_neg (by omega), if_neg (by omega), if_neg (by omega), if_pos trivial, lnR_out hk hu]; exact e
theorem lyH_M (m s t k : Nat) (h : am_H) : FrM m h (lyH m s t k h) := ⟨rfl, rfl, rfl, rfl, rfl, fun a ha => ⟨by rw [lyH_I]; simp only [lyI]; rw [if_neg (by omega), if_neg (by omega), if_neg (by omega), if_neg (by omega), if_neg (by omega), if_neg (by omega)], rfl⟩⟩
section RMARK
variable {w : am_W} {d : Nat} {h : am_H} {Q : Option Value → am_H → Prop} {m : Nat} {A : rA}
theorem c_moves {a n s t : Nat} (hk : hK h a = 12) (hst : s ≠ t) (hs : n * s + n ≤ hN h a) (ht : n * t + n ≤ hN h a) (hn : hN h a < 2 ^ 31) (q : Q none (rI h a (mvR n s t n (hI h a)))) : EvM w mX10_moves d [.ref a, .int (nI n), .int (nI s), .int (nI t)] h Q := by
  refine bX10_moves_0 ?_
  have loop : ∀ i k, k + i = n → Ev w (am_Z w) mX10_moves d 3 [(0, .ref a), (1, .int (nI n)), (2, .int (nI s)), (3, .int (nI t)), (4, .int (nI k))] [] (rI h a (mvR n s t k (hI h a))) Q := by
    intro i
    induction i with
    | zero =>
      intro k hki
      have hki : k = n := by omega
      subst hki
      exact bX10_moves_3 ⟨fun _ => q, fun c => absurd (Int32.le_refl _) c⟩
    | succ i ih =>
      intro k hki
      have es : nI n * nI s + nI k = nI (n * s + k) := by rw [pk_mul, nI_add]
      have et : nI n * nI t + nI k = nI (n * t + k) := by rw [pk_mul, nI_add]
      refine bX10_moves_3 ⟨fun c => absurd c (by rw [nI_leI (by omega) (by omega)]; omega), fun _ => ⟨hk, ?_, ?_, fun h4 e4 => ?_⟩⟩
      · rw [es]; exact vp_in_nI (by show n * s + k < hN h a; omega) hn
      · rw [et]; exact vp_in_nI (by show n * t + k < hN h a; omega) hn
      · rw [es, et, nI_clamp (by omega), nI_clamp (by omega), sI_r, hI_rs, mvR_s hst (by omega)] at e4
        have e5 : h4 = rI h a (mvR n s t (k + 1) (hI h a)) := by
          rw [e4]
          show (hK h, hN h, va_up (va_up (hI h) a _) a _, hJ h, hR h, hZ h, hS h) = (hK h, hN h, va_up (hI h) a _, hJ h, hR h, hZ h, hS h)
          congr 2
          congr 1
          funext b
          rw [va_ui, va_ui, va_ui]
          split <;> rfl
        rw [e5, nI_1]
        exact ih (k + 1) (by omega)
  have := loop n 0 (by omega)
  rw [mvR_0, rI_self] at this
  exact this
theorem c_lays {s t : Nat} (M : Md m h) (hst : s ≠ t) (hs : s ≤ 5) (ht : t ≤ 5) (q : Q none (lyH m s t 4 h)) : EvM w mX10_lays (d + 1) [.ref m, .int (nI s), .int (nI t)] h Q := by
  have N2 := M.n 1 (o := 2) rfl
  have N7 := M.n 6 (o := 7) rfl
  have N8 := M.n 7 (o := 8) rfl
  have N9 := M.n 8 (o := 9) rfl
  have N10 := M.n 9 (o := 10) rfl
  have N11 := M.n 10 (o := 11) rfl
  have N12 := M.n 11 (o := 12) rfl
  have N5 := M.n 4 (o := 5) rfl
  have K : ∀ o, 0 < o → o ≤ 12 → o ≠ 6 → hK h (m + o) = 12 := by
    intro o h0 h1 h2
    have : o = 1 ∨ o = 2 ∨ o = 3 ∨ o = 4 ∨ o = 5 ∨ o = 7 ∨ o = 8 ∨ o = 9 ∨ o = 10 ∨ o = 11 ∨ o = 12 := by omega
    rcases this with rfl | rfl | rfl | rfl | rfl | rfl | rfl | rfl | rfl | rfl | rfl
    · exact am_L.s M.1 0 rfl
    · exact am_L.s M.1 1 rfl
    · exact am_L.s M.1 2 rfl
    · exact am_L.s M.1 3 rfl
    · exact am_L.s M.1 4 rfl
    · exact am_L.s M.1 6 rfl
    · exact am_L.s M.1 7 rfl
    · exact am_L.s M.1 8 rfl
    · exact am_L.s M.1 9 rfl
    · exact am_L.s M.1 10 rfl
    · exact am_L.s M.1 11 rfl
  have loop : ∀ i k, k + i = 4 → Ev w (am_Z w) mX10_lays (d + 1) 91 [(0, .ref m), (1, .int (nI s)), (2, .int (nI t)), (3, .int (nI k))] [] (lyH m s t k h) Q := by
    intro i
    induction i with
    | zero =>
      intro k hk
      have hk : k = 4 := by omega
      subst hk
      exact bX10_lays_91 ⟨fun _ => q, fun c => absurd (by decide) c⟩
    | succ i ih =>
      intro k hk
      have es : (4 : Int32) * nI s + nI k = nI (4 * s + k) := by rw [show (4 : Int32) = nI 4 by decide, pk_mul, nI_add]
      have et : (4 : Int32) * nI t + nI k = nI (4 * t + k) := by rw [show (4 : Int32) = nI 4 by decide, pk_mul, nI_add]
      have ML : Md m (lyH m s t k h) := M
      refine bX10_lays_91 ⟨fun c => absurd c (by rw [show (4 : Int32) = nI 4 by decide, nI_leI (by decide) (by omega)]; omega), fun _ => ⟨ML.1, ML.in 2 rfl es (by omega) (by decide), ML.in 2 rfl et (by omega) (by decide), fun h4 e4 => ⟨?_, ?_, fun h7 e7 => ?_⟩⟩⟩
      · rw [e4]; exact ML.in 3 rfl es (by omega) (by decide)
      · rw [e4]; exact ML.in 3 rfl et (by omega) (by decide)
      · have g3 : hI (lyH m s t k h) (m + 3) = lnR s t k (hI h (m + 3)) := by
          rw [lyH_I]; simp only [lyI]; rw [if_neg (by omega), if_neg (by omega), if_neg (by omega), if_neg (by omega), if_pos trivial]
        have g4 : hI (lyH m s t k h) (m + 4) = lnR s t k (hI h (m + 4)) := by
          rw [lyH_I]; simp only [lyI]; rw [if_neg (by omega), if_neg (by omega), if_neg (by omega), if_neg (by omega), if_neg (by omega), if_pos trivial]
        rw [es, et, nI_clamp (show 4 * s + k < 2 ^ 31 by omega), nI_clamp (show 4 * t + k < 2 ^ 31 by omega), sI_r, g3, lnR_s hst (by omega)] at e4
        have g4' : hI h4 (m + 4) = lnR s t k (hI h (m + 4)) := by rw [e4, hI_rn _ _ (by omega), g4]
        rw [es, et, nI_clamp (show 4 * s + k < 2 ^ 31 by omega), nI_clamp (show 4 * t + k < 2 ^ 31 by omega), sI_r, g4', lnR_s hst (by omega)] at e7
        have e8 : h7 = lyH m s t (k + 1) h := by
          rw [e7, e4]
          show (hK h, hN h, va_up (va_up (lyI m s t k (hI h)) (m + 3) _) (m + 4) _, hJ h, hR h, hZ h, hS h) = (hK h, hN h, lyI m s t (k + 1) (hI h), hJ h, hR h, hZ h, hS h)
          congr 2
          congr 1
          funext a
          rw [va_ui, va_ui]
          simp only [lyI]
          by_cases c4 : a = m + 4
          · subst c4
            simp
          · by_cases c3 : a = m + 3
            · subst c3
              simp
            · simp [c3, c4]
        rw [e8, nI_1]
        exact ih (k + 1) (by omega)
  refine bX10_lays_0 ⟨M.1, c_moves (n := 10) (K 2 (by decide) (by decide) (by decide)) hst (by omega) (by omega) (by omega) ⟨rfl, M.1, c_moves (n := 16) (K 7 (by decide) (by decide) (by decide)) hst (by show _ ≤ hN h _; omega) (by show _ ≤ hN h _; omega) (by show hN h _ < _; omega) ⟨rfl, M.1, c_moves (n := 16) (K 8 (by decide) (by decide) (by decide)) hst (by show _ ≤ hN h _; omega) (by show _ ≤ hN h _; omega) (by show hN h _ < _; omega) ⟨rfl, M.1, c_moves (n := 16) (K 9 (by decide) (by decide) (by decide)) hst (by show _ ≤ hN h _; omega) (by show _ ≤ hN h _; omega) (by show hN h _ < _; omega) ⟨rfl, M.1, c_moves (n := 16) (K 10 (by decide) (by decide) (by decide)) hst (by show _ ≤ hN h _; omega) (by show _ ≤ hN h _; omega) (by show hN h _ < _; omega) ⟨rfl, M.1, c_moves (n := 16) (K 11 (by decide) (by decide) (by decide)) hst (by show _ ≤ hN h _; omega) (by show _ ≤ hN h _; omega) (by show hN h _ < _; omega) ⟨rfl, M.1, c_moves (n := 30) (K 12 (by decide) (by decide) (by decide)) hst (by show _ ≤ hN h _; omega) (by show _ ≤ hN h _; omega) (by show hN h _ < _; omega) ⟨rfl, M.1, c_moves (n := 1000) (K 5 (by decide) (by decide) (by decide)) hst (by show _ ≤ hN h _; omega) (by show _ ≤ hN h _; omega) (by show hN h _ < _; omega) ⟨rfl, ?_⟩⟩⟩⟩⟩⟩⟩⟩⟩
  have fin := loop 4 0 (by omega)
  have e : lyH m s t 0 h = rI (rI (rI (rI (rI (rI (rI (rI h (m + 2) (mvR 10 s t 10 (hI h (m + 2)))) (m + 7) (mvR 16 s t 16 (hI h (m + 7)))) (m + 8) (mvR 16 s t 16 (hI h (m + 8)))) (m + 9) (mvR 16 s t 16 (hI h (m + 9)))) (m + 10) (mvR 16 s t 16 (hI h (m + 10)))) (m + 11) (mvR 16 s t 16 (hI h (m + 11)))) (m + 12) (mvR 30 s t 30 (hI h (m + 12)))) (m + 5) (mvR 1000 s t 1000 (hI h (m + 5))) := by
    show (hK h, hN h, lyI m s t 0 (hI h), hJ h, hR h, hZ h, hS h) = (hK h, hN h, va_up (va_up (va_up (va_up (va_up (va_up (va_up (va_up (hI h) (m + 2) _) (m + 7) _) (m + 8) _) (m + 9) _) (m + 10) _) (m + 11) _) (m + 12) _) (m + 5) _, hJ h, hR h, hZ h, hS h)
    congr 2
    congr 1
    funext a
    simp only [va_ui, lyI, lnR_0]
    by_cases c2 : a = m + 2
    · subst c2; simp
    by_cases c5 : a = m + 5
    · subst c5; simp
    by_cases c12 : a = m + 12
    · subst c12; simp
    by_cases c7 : a = m + 7
    · subst c7; simp
    by_cases c8 : a = m + 8
    · subst c8; simp
    by_cases c9 : a = m + 9
    · subst c9; simp
    by_cases c10 : a = m + 10
    · subst c10; simp
    by_cases c11 : a = m + 11
    · subst c11; simp
    have c : ¬ (m + 7 ≤ a ∧ a ≤ m + 11) := by omega
    simp [c2, c5, c12, c7, c8, c9, c10, c11, c]
  rw [e, nI_0] at fin
  simpa [hI_ri] using fin
end RMARK
