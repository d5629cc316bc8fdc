/-! The class reads a river: the loop over the lines, and the copy of the code. -/
section XREAD2
variable {w : am_W} {d : Nat} {h : am_H} {Q : Option Value → am_H → Prop} {ad av : Nat → Nat} {sf : Value} {x ρ n N : Nat} {s : Nat → Int32}
theorem VD.of {kd : Nat → Int32} {D : LD} {i : Nat} (V : VD kd D i) : tOf D.2.2.1 ≤ 9 ∧ D.2.2.2.2.1 ≤ i := ⟨V.2.1.2.2.2.2.1.2.2, V.2.2.2.2⟩
theorem c_readLoop {K : Nat} {h0 : am_H} {R : P2 × LD} (eK : K = 1000) (hzz : ∀ i, N ≤ i → tKD s n i = 0) (hN : N ≤ 1000) (hn : n ≤ 1000)
    (q : ∀ h', FrJ (ZP x ρ) (x + 18) h0 h' → PK x ρ s n N (tKD s n) (tPC s n) h' → P0 x N h' R.1 → (R.1.1 = 0 → DL x ρ n s (bgn s n) h' R.2 ∧ VD (tKD s n) R.2 R.1.2 ∧ R.1.2 ≤ N) → Ev w (am_Z w) mX5_read (d + 42) 58 [(0, .ref (x + 17))] [] h' Q) :
    ∀ k j S D h, j + k = K + 1 → FrJ (ZP x ρ) (x + 18) h0 h → PK x ρ s n N (tKD s n) (tPC s n) h → P0 x N h S → (S.1 = 0 → S = (0, S.2) ∧ DL x ρ n s (bgn s n) h D ∧ VD (tKD s n) D S.2 ∧ S.2 ≤ N) → pAll (tKD s n) (tPC s n) (fun i => nvT s n (bgn s n i)) (fun i => kyT s n (bgn s n i)) K k S D = R → Ev w (am_Z w) mX5_read (d + 42) 27 [(0, .ref (x + 17)), (2, .int (nI j))] [] h Q := by
  intro k
  have hB := hB_of (s := s) hn
  have env : (fun i => nvT s n (bgn s n i)) = tNV s n := funext (fun i => nvT_all hn (bgn_le i))
  have hnv : ∀ i, tKD s n i = 2 → ∃ k, k ≤ 9999 ∧ (fun i => nvT s n (bgn s n i)) i = nI k := fun i hi => by rw [env]; exact tNV_nI hi
  induction k with
  | zero =>
    intro j S D h hj F P I A e
    refine bX5_read_27 ⟨fun _ => ?_, fun c => absurd ?_ c⟩
    · have e : (S, D) = R := e
      subst e
      exact q h F P I (fun z => (A z).2)
    · rw [show (1000 : Int32) = nI 1000 by decide, nI_ltI (by decide) (by omega)]; omega
  | succ k ih =>
    intro j S D h hj F P I A e
    refine bX5_read_27 ⟨fun c => absurd c ?_, fun _ => ⟨P.l5, fun c => c_kind P I (fun v hv => ⟨v, rfl, fun z => ?_, fun z => ⟨P.l5, ?_⟩⟩), fun c => ?_⟩⟩
    · rw [show (1000 : Int32) = nI 1000 by decide, nI_ltI (by decide) (by omega)]; omega
    · rw [I.1] at c
      rw [pAll_d (fun y => y.2 (by rw [← hv c]; exact z))] at e
      subst e
      exact q h F P I (fun z => (A z).2)
    · rw [I.1] at c
      rw [hv c] at z
      obtain ⟨eS, a1, a2, a3⟩ := A c
      rw [pAll, if_pos ⟨c, z⟩] at e
      refine c_line (d := d) eK P (hB N) I c a1 a2.of.1 a2.of.2 (fun h' F' I' A' => ⟨rfl, ?_⟩)
      rw [nI_1]
      refine ih (j + 1) _ _ h' (by omega) (F.tr F') (P.fr F') I' (fun y => ?_) e
      rw [eS] at y
      obtain ⟨e', o1, o2, o3, o4⟩ := pLn_ok (ky := fun i => kyT s n (bgn s n i)) hB hzz (show N ≤ K by omega) hnv a2 y
      have le : e' < N := Nat.lt_of_not_le (fun y => by rw [hzz e' y] at o2; exact absurd o2 (by decide))
      have A'' := A' (by rw [eS]; exact y)
      rw [eS] at A'' ⊢
      refine ⟨by rw [o1], A'', by rw [o1]; exact o4, by rw [o1]; exact le⟩
    · rw [I.1] at c
      rw [pAll_d (fun y => c y.1)] at e
      subst e
      exact q h F P I (fun z => absurd z c)
set_option maxHeartbeats 1000000 in
theorem c_readX {K : Nat} (eK : K = 1000) (hw : StW w ad av sf) (X : XL x h) (T : TpX x h (n, s)) (h4 : hI h (x + 13) 4 = nI (N + 1)) (hN1 : N ≤ 1000) (k1 : eqR (N + 1) (hI h (x + 15)) (tKD s n)) (k2 : eqR (N + 1) (hI h (x + 16)) (tPC s n)) (hbN : ∀ i, N ≤ i → bgn s n i = n) (hρ : x + 69 ≤ ρ) (hz : hZ h = ρ + 12) (R0 : RvP ρ h t0R (fun _ => 0)) (r14 : hI h ρ 14 = 0) (r5 : hR h ρ 5 = ρ + 11)
    (q : ∀ h', (∀ b, b < x + 17 ∨ (x + 20 ≤ b ∧ b < ρ) → same h h' b) → hZ h' = ρ + 13 → hS h' ≤ hS h + 1000 → KN x h h' → hR h' (x + 17) 3 = ρ → hR h' ρ 5 = ρ + 12 → am_L 6 ρ h' → ((pAll (tKD s n) (tPC s n) (tNV s n) (kyR s n) K (K + 1) (0, 0) (D0 (hI h (x + 19)))).1.1 = 0 → RvX ρ h' (pAll (tKD s n) (tPC s n) (tNV s n) (kyR s n) K (K + 1) (0, 0) (D0 (hI h (x + 19)))).2.2.2.1 ∧ VT (pAll (tKD s n) (tPC s n) (tNV s n) (kyR s n) K (K + 1) (0, 0) (D0 (hI h (x + 19)))).2.2.2.1) → Q (some (.int (pAll (tKD s n) (tPC s n) (tNV s n) (kyR s n) K (K + 1) (0, 0) (D0 (hI h (x + 19)))).1.1)) h') : EvM w mX5_read (d + 42) [.ref (x + 17), .ref ρ] h Q := by
  have hn : n ≤ 1000 := T.2.2.1
  have hB := hB_of (s := s) hn
  have hzz : ∀ i, N ≤ i → tKD s n i = 0 := fun i hi => tKD_z.mpr (hbN i hi)
  have env : (fun i => nvT s n (bgn s n i)) = tNV s n := funext (fun i => nvT_all hn (bgn_le i))
  have eqP : pAll (tKD s n) (tPC s n) (fun i => nvT s n (bgn s n i)) (fun i => kyT s n (bgn s n i)) K (K + 1) (0, 0) (D0 (hI h (x + 19))) = pAll (tKD s n) (tPC s n) (tNV s n) (kyR s n) K (K + 1) (0, 0) (D0 (hI h (x + 19))) := by
    rw [env]
    exact pAll_ky (N := N) (fun a b ha hb => ky_eq hn ha hb) hB hzz (by omega) (fun i hi => tNV_nI hi) (K + 1) 0 _ VD_0
  have L5 : am_L 5 (x + 17) h := X.2.2.2.1
  refine bX5_read_0 ⟨L5, by omega, fun h3 e3 h4' e4 h5 e5 h6 e6 h7 e7 => ?_⟩
  -- the heap as the loop begins
  have sm : ∀ b, b ≠ x + 17 → same h h7 b := fun b hb => by
    rw [e7, e6, e5, e4, e3]
    exact (((((sR_same h (x + 17) 3 ρ hb).tr (sI_same _ _ _ _ hb)).tr (sI_same _ _ _ _ hb)).tr (sI_same _ _ _ _ hb)).tr (sI_same _ _ _ _ hb))
  have f7 : ∀ k, hI h7 (x + 17) k = if k = 7 then 0 else if k = 6 then 0 else if k = 5 then 0 else if k = 4 then 0 else hI h (x + 17) k := fun k => by
    rw [e7, e6, e5, e4, e3]
    simp only [sI_f]
    rfl
  have rR : ∀ b f, hR h7 b f = if b = x + 17 ∧ f = 3 then ρ else hR h b f := fun b f => by
    rw [e7, e6, e5, e4, e3]
    show hR (sR h (x + 17) 3 ρ) b f = _
    rw [sR_r]
  have EE : hK h7 = hK h ∧ hN h7 = hN h ∧ hJ h7 = hJ h ∧ hZ h7 = hZ h ∧ hS h7 = hS h := by rw [e7, e6, e5, e4, e3]; exact ⟨rfl, rfl, rfl, rfl, rfl⟩
  obtain ⟨EK, EN, EJ, EZ, ES⟩ := EE
  clear e3 e4 e5 e6 e7
  have kn7 : KN x h h7 := ⟨fun a _ _ => ⟨by rw [EK], by rw [EN]⟩, fun a f _ _ hk => by
    rw [rR, if_neg (fun y => hk.2.2 y)]⟩
  have X7 : XL x h7 := X.kn kn7
  have R7 : RvP ρ h7 t0R (fun _ => 0) := R0.sm (fun a y1 y2 => sm a (by omega))
  have P7 : PK x ρ s n N (tKD s n) (tPC s n) h7 := by
    refine ⟨X7, ?_, ⟨?_, hN1, ?_, ?_, hzz N (Nat.le_refl _)⟩, by rw [rR, if_pos ⟨rfl, rfl⟩], hρ, R7.1, ?_, ?_⟩
    · exact ⟨by rw [(sm (x + 13) (by omega)).2.2.1]; exact T.1, by rw [(sm (x + 14) (by omega)).2.2.1]; exact T.2.1, T.2.2⟩
    · rw [(sm (x + 13) (by omega)).2.2.1]; exact h4
    · rw [(sm (x + 15) (by omega)).2.2.1]; exact k1
    · rw [(sm (x + 16) (by omega)).2.2.1]; exact k2
    · obtain ⟨_, ⟨l, c⟩, _⟩ := R7; exact c.1
    · exact R7.2.2.2.2.2.2.2.1
  have I7 : P0 x N h7 (0, 0) := ⟨by rw [f7]; rfl, fun _ => ⟨by rw [f7]; rfl, Nat.zero_le _⟩⟩
  have A7 : DL x ρ n s (bgn s n) h7 (D0 (hI h (x + 19))) := ⟨by rw [f7]; rfl, by show (0 : Nat) < 32; decide, fun j hj => absurd hj (Nat.not_lt_zero _), R7, ⟨by rw [f7]; rfl, (sm (x + 19) (by omega)).2.2.1, by rw [(sm ρ (by omega)).2.2.1]; exact r14⟩, by show (0 : Nat) ≤ 16; decide, Nat.zero_le _, by show (0 : Nat) ≤ 4; decide⟩
  refine c_readLoop (R := pAll (tKD s n) (tPC s n) (tNV s n) (kyR s n) K (K + 1) (0, 0) (D0 (hI h (x + 19)))) (h0 := h7) eK hzz hN1 hn (fun h8 F8 P8 I8 A8 => ?_) (K + 1) 0 (0, 0) (D0 (hI h (x + 19))) h7 (by omega) FrJ.rf P7 I7 (fun _ => ⟨rfl, A7, VD_0, Nat.zero_le _⟩) eqP
  generalize pAll (tKD s n) (tPC s n) (tNV s n) (kyR s n) K (K + 1) (0, 0) (D0 (hI h (x + 19))) = R at q I8 A8
  have X8 := P8.1
  have r3 : hR h8 (x + 17) 3 = ρ := P8.2.2.2.1
  have k19 : hK h8 (x + 19) = 12 := am_L.s P8.l5 1 rfl
  have n19 : hN h8 (x + 19) = 1000 := X8.2.2.2.2.1.2.1
  have z8 : hZ h8 = ρ + 12 := by rw [F8.2.2.2.1, EZ, hz]
  obtain ⟨kl, c1, c2, c3⟩ := cp_len (hI h8 (x + 17) 4)
  refine bX5_read_58 ⟨P8.l5, by rw [r3]; omega, ?_⟩
  show EvM w mJ7_copyOf_59c91 (d + 41) [.ref (x + 19), .int (if 0 < (if nI (hN h8 (x + 19)) < hI h8 (x + 17) 4 then nI (hN h8 (x + 19)) else hI h8 (x + 17) 4) then (if nI (hN h8 (x + 19)) < hI h8 (x + 17) 4 then nI (hN h8 (x + 19)) else hI h8 (x + 17) 4) else 0)] h8 _
  rw [n19, c2, r3]
  refine c_copyX (d := d + 40) hw k19 n19 c1 (by omega) (fun h9 s9 z9 S9 k9 n9 i9 => ⟨_, rfl, ?_, by omega, fun h10 e10 => ?_⟩)
  · exact P8.2.2.2.2.2.1.sm (M := 11) (by decide) (fun b y1 y2 => s9 b (by omega))
  rw [z8] at k9 n9 i9 e10
  have s10 : ∀ b, b ≠ ρ → same h9 h10 b := fun b hb => by rw [e10]; exact sR_same _ _ _ _ hb
  have L10 : am_L 5 (x + 17) h10 := (P8.l5).sm (M := 2) (by decide) (fun b y1 y2 => (s9 b (by omega)).tr (s10 b (by omega)))
  refine ⟨L10, ?_⟩
  have i17 : hI h10 (x + 17) = hI h8 (x + 17) := ((s9 (x + 17) (by omega)).tr (s10 (x + 17) (by omega))).2.2.1
  rw [i17, I8.1]
  have s7 : ∀ b, b < x + 17 ∨ (x + 20 ≤ b ∧ b < ρ) → same h7 h8 b := fun b hb => F8.same (fun y => by unfold ZP at y; omega) (by omega)
  have eρ : hK h10 ρ = hK h8 ρ ∧ hI h10 ρ = hI h8 ρ ∧ ∀ f, ¬ f = 5 → hR h10 ρ f = hR h8 ρ f := by
    have := s9 ρ (by omega)
    refine ⟨by rw [e10]; exact this.1, by rw [e10]; exact this.2.2.1, fun f hf => ?_⟩
    rw [e10, sR_r, if_neg (fun y => hf y.2), this.2.2.2.2]
  have r510 : hR h10 ρ 5 = ρ + 12 := by rw [e10, sR_r, if_pos ⟨rfl, rfl⟩]
  refine q h10 (fun b hb => (((sm b (by omega)).tr (s7 b hb)).tr (s9 b (by omega))).tr (s10 b (by omega))) ?_ ?_ ?_ ?_ r510 ?_ (fun z => ?_)
  · rw [e10]; show hZ h9 = _; omega
  · have : hS h10 = hS h9 := by rw [e10]; rfl
    have : hS h8 = hS h7 := F8.2.2.2.2.1
    omega
  · refine ⟨fun a y1 y2 => ?_, fun a f y1 y2 hk => ?_⟩
    · have t := (s9 a (by omega)).tr (s10 a (by omega))
      exact ⟨t.1.trans (by rw [F8.1, EK]), t.2.1.trans (by rw [F8.2.1, EN])⟩
    · have t := (s9 a (by omega)).tr (s10 a (by omega))
      rw [t.2.2.2.2, F8.2.2.1]
      exact kn7.2 a f y1 y2 hk
  · have t := (s9 (x + 17) (by omega)).tr (s10 (x + 17) (by omega))
    rw [t.2.2.2.2]; exact r3
  · refine ⟨eρ.1.trans P8.2.2.2.2.2.1.1, fun p hp => ?_⟩
    have hM : ∀ q ∈ am_lay 6, 1 ≤ q.2.1 ∧ q.2.1 ≤ 10 ∧ ¬ q.1 = 5 := by decide
    obtain ⟨m1, m2, m3⟩ := hM p hp
    obtain ⟨b1, b2⟩ := P8.2.2.2.2.2.1.2 p hp
    exact ⟨(eρ.2.2 _ m3).trans b1, ((s9 _ (by omega)).tr (s10 _ (by omega))).1.trans b2⟩
  · obtain ⟨a1, a2, a3⟩ := A8 z
    obtain ⟨_, _, _, d4, ⟨d5, d6, d7⟩, _⟩ := a1
    have wle := a2.of.2
    have ek := c3 R.2.2.2.2.2.1 (by omega) d5
    refine ⟨d4.rvx a2 d7 (fun b y1 y2 => (s9 b (by omega)).tr (s10 b (by omega))) eρ r510 ?_ ?_ (by omega) (fun p hp => ?_), a2.2.1⟩
    · rw [(s10 (ρ + 12) (by omega)).1]; exact k9
    · rw [(s10 (ρ + 12) (by omega)).2.1, n9, ek]
    · rw [(s10 (ρ + 12) (by omega)).2.2.1, i9 p (by omega), d6]
end XREAD2
