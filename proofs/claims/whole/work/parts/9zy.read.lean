/-! The class reads a river. -/
section XREAD
variable {w : am_W} {d : Nat} {h : am_H} {Q : Option Value → am_H → Prop} {ad av : Nat → Nat} {sf : Value}
theorem c_copyX {a k : Nat} (hw : StW w ad av sf) (ha : hK h a = 12) (hn : hN h a = 1000) (hk : k ≤ 1000) (hz : a < hZ h) (q : ∀ h', (∀ b, b < hZ h → same h h' b) → hZ h' = hZ h + 1 → hS h' = hS h + k → hK h' (hZ h) = 12 → hN h' (hZ h) = k → (∀ i, i < k → hI h' (hZ h) i = hI h a i) → Q (some (.ref (hZ h))) h') : EvM w mJ7_copyOf_59c91 (d + 1) [.ref a, .int (nI k)] h Q := by
  refine bJ7_copyOf_59c91_0 hw ⟨ha, fun c => fun h2 e2 => ?_, fun c => ?_⟩
  · rw [hn, nI_eq (by omega) (by decide)] at c
    have nw := nA_new h 12 (hN h a)
    have k2 : hK h2 (hZ h) = 12 := by rw [e2]; exact nw.1
    refine ⟨k2, q h2 (fun b hb => ?_) (by rw [e2]; rfl) (by rw [e2, c]; show hS h + hN h a = _; rw [hn]) k2 (by rw [e2]; show hN (nA h 12 (hN h a)) (hZ h) = k; rw [nw.2.1, hn, c]) (fun i hi => ?_)⟩
    · rw [e2]
      obtain ⟨s1, s2, s3, s4, s5⟩ := nA_same h 12 (hN h a) (b := b) (by omega)
      exact ⟨s1, s2, by rw [hI_rn _ _ (by omega)]; exact s3, s4, s5⟩
    · rw [e2, hI_rs]
  · refine ⟨⟨nI_pos (by omega), by rw [nI_clamp (by omega)]; omega⟩, fun h4 e4 => ?_⟩
    rw [nI_clamp (by omega)] at e4
    have sa := nA_same h 12 k (b := a) (by omega)
    have nw := nA_new h 12 k
    rw [← e4] at sa nw
    have k4 : hK h4 a = 12 := sa.1.trans ha
    have n4 : hN h4 a = 1000 := sa.2.1.trans hn
    have em : (if nI k < nI (hN h4 a) then nI k else nI (hN h4 a)) = nI k := by
      rw [n4]
      by_cases y : k = 1000
      · rw [y]; rfl
      · rw [if_pos (by rw [nI_ltI (by omega) (by decide)]; omega)]
    rw [em, cl0, nI_clamp (by omega)]
    refine ⟨k4, ⟨k4, nw.1, by decide, by decide, nI_pos (by omega), by omega, by rw [nw.2.1]; omega⟩, fun h7 e7 => q h7 (fun b hb => ?_) (by rw [e7, e4]; rfl) (by rw [e7, e4]; rfl) (by rw [e7]; exact nw.1) (by rw [e7]; exact nw.2.1) (fun i hi => ?_)⟩
    · have s0 := nA_same h 12 k (b := b) (by omega)
      rw [← e4] at s0
      obtain ⟨s1, s2, s3, s4, s5⟩ := s0
      rw [e7]
      exact ⟨s1, s2, by rw [hI_rn _ _ (by omega)]; exact s3, s4, s5⟩
    · rw [e7, hI_rs, va_cpy, if_pos (by omega), show 0 + (i - 0) = i by omega, sa.2.2.1]
/-- the length of the copy -/
theorem cp_len (v : Int32) : ∃ k, k ≤ 1000 ∧ (if 0 < (if nI 1000 < v then nI 1000 else v) then (if nI 1000 < v then nI 1000 else v) else 0) = nI k ∧ ∀ j, j ≤ 1000 → v = nI j → k = j := by
  by_cases c : nI 1000 < v
  · refine ⟨1000, Nat.le_refl _, by rw [if_pos c, if_pos (by decide)], fun j hj e => ?_⟩
    rw [e, nI_ltI (by decide) (by omega)] at c
    omega
  · rw [if_neg c]
    by_cases c2 : 0 < v
    · rw [if_pos c2]
      obtain ⟨j, hj, e⟩ := nI_of (x := v) (fun z => by
        have := Int32.lt_trans z c2
        exact Int32.lt_irrefl this)
      rw [e, nI_ltI (by decide) hj] at c
      refine ⟨j, by omega, e, fun j' hj' e' => ?_⟩
      rw [e, nI_eq hj (by omega)] at e'
      exact e'
    · rw [if_neg c2]
      refine ⟨0, by decide, rfl, fun j hj e => ?_⟩
      rw [e, ← nI_0, nI_ltI (by decide) (by omega)] at c2
      omega
theorem RvP.rvx {ρ : Nat} {h h' : am_H} {D : LD} {kd : Nat → Int32} {i : Nat} (R : RvP ρ h D.2.2.1 D.2.2.2.1) (V : VD kd D i) (h14 : hI h ρ 14 = D.2.2.2.2.2.2) (e : ∀ b, ρ < b → b ≤ ρ + 11 → same h h' b) (eρ : hK h' ρ = hK h ρ ∧ hI h' ρ = hI h ρ ∧ ∀ f, ¬ f = 5 → hR h' ρ f = hR h ρ f) (h5 : hR h' ρ 5 = ρ + 12) (k12 : hK h' (ρ + 12) = 12) (n12 : hN h' (ρ + 12) = D.2.2.2.2.1) (hle : D.2.2.2.2.1 ≤ 1000) (hrow : ∀ p, p < D.2.2.2.2.1 → hI h' (ρ + 12) p = D.2.2.2.2.2.1 p) : RvX ρ h' D.2.2.1 := by
  obtain ⟨a1, ⟨l, a2⟩, a3, ⟨a4, a4'⟩, ⟨a5, a5'⟩, ⟨a6, a6'⟩, a7, a8, a9⟩ := R
  obtain ⟨_, vt, _, ⟨w1, w2, t, w3, w4, w5⟩, _⟩ := V
  have g : ∀ b, ρ < b → b ≤ ρ + 11 → hI h' b = hI h b ∧ hN h' b = hN h b := fun b y1 y2 => ⟨(e b y1 y2).2.2.1, (e b y1 y2).2.1⟩
  have l4 : tLaws D.2.2.1 ≤ 4 := vt.2.2.2.2.2.2.1
  refine ⟨⟨eρ.1.trans a1.1, fun q hq => ?_⟩, ⟨l, a2.sm (fun a y1 y2 => e a (by omega) (by omega))⟩, by rw [(g _ (by omega) (by omega)).1]; exact a3, ⟨by rw [(g _ (by omega) (by omega)).2]; exact a4, by rw [(g _ (by omega) (by omega)).1]; exact a4'⟩, ⟨by rw [(g _ (by omega) (by omega)).2]; exact a5, by rw [(g _ (by omega) (by omega)).1]; exact a5'⟩, ⟨by rw [(g _ (by omega) (by omega)).2]; exact a6, by rw [(g _ (by omega) (by omega)).1]; exact a6'⟩, by rw [eρ.2.1]; exact a7, ⟨by rw [(g _ (by omega) (by omega)).2]; exact a8, by rw [h5]; omega, by rw [h5]; exact k12, by rw [h5, n12]; exact hle⟩, fun i hi => ⟨⟨D.2.2.2.1 i, D.2.2.2.1 (i + 1), ?_, ?_, (w2 i hi).1, ?_, ?_⟩, fun z V V' hV => ?_⟩⟩
  · have hM : ∀ q ∈ am_lay 6, 1 ≤ q.2.1 ∧ q.2.1 ≤ 10 ∧ ¬ q.1 = 5 := by decide
    obtain ⟨m1, m2, m3⟩ := hM q hq
    obtain ⟨b1, b2⟩ := a1.2 q hq
    exact ⟨(eρ.2.2 _ m3).trans b1, ((e _ (by omega) (by omega)).1).trans b2⟩
  · rw [(g _ (by omega) (by omega)).1]; exact a9 i (by omega)
  · rw [(g _ (by omega) (by omega)).1]; exact a9 (i + 1) (by omega)
  · rw [h5, n12]; exact (w2 i hi).2.1
  · rw [h5]; exact (w2 i hi).2.2.cg (fun p p1 p2 => hrow p (by have := (w2 i hi).2.1; omega))
  · rw [eρ.2.1, h14, w4] at z
    exact w5 i hi ((tm_bit (by omega) w3).mp z) V V' hV
end XREAD
