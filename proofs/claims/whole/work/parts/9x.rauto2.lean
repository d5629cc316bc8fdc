/-! The reference's reading of a law: the loop is the automaton. -/
section RAUTO2
variable {w : am_W} {d : Nat} {Q : Option Value → am_H → Prop} {m n : Nat} {s : Nat → Int32}
theorem SkH.fa {h h1 : am_H} {st : SK} (S : SkH m h st) (F : FrA (fun a => a = m ∨ a = m + 5) h h1) : SkH m h1 st := S.cg (fun k _ => ⟨by rw [F.I (fun z => by omega)], by rw [F.I (fun z => by omega)]⟩)
theorem SkH.push {h : am_H} {st : SK} {v : Int32} {nt : Bool} (S : SkH m h st) (hv : v = if nt then 1 else 2) : SkH m (sI (sI h (m + 13) st.length v) (m + 14) st.length 0) ((nt, false) :: st) := by
  refine ⟨fun _ => ?_, ?_, S.cg (fun k hk => ⟨?_, ?_⟩)⟩
  · rw [sI_r, hI_rn _ _ (by omega), sI_f, if_pos rfl, hv]
  · rw [sI_f, if_pos rfl]; rfl
  · rw [sI_r, hI_rn _ _ (by omega), sI_f, if_neg (by omega)]
  · rw [sI_f, if_neg (by omega), sI_r, hI_rn _ _ (by omega)]
theorem SkH.set {h : am_H} {st : SK} {v : Int32} {c : Bool} (S : SkH m h st) (B : Bs st) (hv : v = if c then 1 else 0) : SkH m (sI h (m + 14) (st.length - 1) v) (setT c st) := by
  cases st with
  | nil => exact absurd B (fun z => z)
  | cons e r =>
    refine ⟨fun z => ?_, ?_, S.2.2.cg (fun k hk => ⟨?_, ?_⟩)⟩
    · rw [sI_r, hI_rn _ _ (by omega)]; exact S.1 z
    · show hI (sI h (m + 14) r.length v) (m + 14) r.length = _
      rw [sI_f, if_pos rfl, hv]
    · rw [sI_r, hI_rn _ _ (by omega)]
    · show hI (sI h (m + 14) r.length v) (m + 14) k = _
      rw [sI_f, if_neg (by omega)]
theorem SkH.top {h : am_H} {st : SK} (S : SkH m h st) (B : Bs st) : hI h (m + 14) (st.length - 1) = if cmpT st then 1 else 0 := by
  cases st with
  | nil => exact absurd B (fun z => z)
  | cons e r => exact S.2.1
theorem SkH.tail {h : am_H} {st : SK} (S : SkH m h st) : SkH m h st.tail := by
  cases st with
  | nil => exact trivial
  | cons e r => exact S.2.2
theorem Bs.tail {st : SK} (B : Bs st) (h : 1 < st.length) : Bs st.tail := by
  cases st with
  | nil => exact absurd B (fun z => z)
  | cons e r => exact B.2 (fun z => by rw [z] at h; exact absurd h (Nat.lt_irrefl 1))
set_option maxHeartbeats 4000000 in
theorem reads_loop {N c0 i0 : Nat} {h0 : am_H} {R : P2} (hz : tKD s n N = 0) (hN : N ≤ 1000) (hc : c0 ≤ 4000)
    (q1 : ∀ h' t, LI m s n c0 i0 h0 h' t → TM m h' s n (i0 + t + 1) → R = (0, i0 + t + 1) → i0 + t < N → Q (some (.int 1)) h')
    (q0 : ∀ h', FrL m h0 h' → (∀ p, p < c0 ∨ c0 + (N - i0) ≤ p → hI h' (m + 5) p = hI h0 (m + 5) p) → hI h' m 9 = R.1 → ¬ R.1 = 0 → Q (some (.int 0)) h') :
    ∀ k t b st h, i0 + t + k = N + 1 → 0 < k → TM m h s n (i0 + t) → SkH m h st → Bs st → st.length ≤ 6 → LI m s n c0 i0 h0 h t → rd (tKD s n) (tPC s n) k (i0 + t) b st = R →
      Ev w (am_Z w) mX10_reads (d + 2) 11 [(0, .ref m), (1, .int (nI (st.length - 1))), (2, .int (if b then 1 else 0))] [] h Q := by
  intro k
  induction k with
  | zero => intro t b st h _ hk; omega
  | succ k ih =>
    intro t b st h ht _ T S B hl L hR
    have M := T.1
    have Bg := BgO.of (s := s) T.2.2.1 (i0 + t)
    have hl0 : 0 < st.length := List.length_pos_iff.mpr B.ne
    have hb : c0 + t < 6000 := by omega
    have kp : ¬ tKD s n (i0 + t) = 0 → i0 + t < N := fun z => by
      have : i0 + t ≠ N := fun e => z (by rw [e]; exact hz)
      omega
    have nx : ∀ (b' : Bool) (st' : SK) (h1 : am_H), ¬ tKD s n (i0 + t) = 0 → TM m h1 s n (i0 + t) → SkH m h1 st' → Bs st' → st'.length ≤ 6 → LI m s n c0 i0 h0 h1 (t + 1) → rd (tKD s n) (tPC s n) k (i0 + t + 1) b' st' = R → EvM w mX10_nextToken (d + 1) [.ref m] h1 (fun r h' => r = none ∧ Ev w (am_Z w) mX10_reads (d + 2) 11 [(0, .ref m), (1, .int (nI (st'.length - 1))), (2, .int (if b' then 1 else 0))] [] h' Q) := fun b' st' h1 z T1 S1 B1 l1 L1 r1 => c_nextT T1 (fun h' F T' => ⟨rfl, ih (t + 1) b' st' h' (by omega) (by have := kp z; omega) T' (S1.fr F) B1 l1 (L1.nx F) r1⟩)
    have fl : ∀ (j : Nat), 1 ≤ j → j ≤ 15 → R = (nI j + 16 * tPC s n (i0 + t), i0 + t) → EvM w mX10_fails (d + 1) [.ref m, .int (nI j)] h (fun r h' => ∃ v : Int32, r = some (.int v) ∧ (narrow .boolean (.int v) = .int v ∧ Q (some (.int v)) h')) := fun j j1 j2 e => c_failsR T (fun h' F e' => ⟨_, rfl, nar0, q0 h' (L.1.tr F.l) (fun p hp => by rw [(F.2.2.2.2.2.1 (m + 5) (by omega)).1]; exact L.2.2.1 p (by omega)) (by rw [e', e]) (by rw [e]; exact flt_no Bg j j1 j2 (Nat.le_refl _))⟩)
    cases b with
    | true =>
      rw [rd] at hR
      have go99 : ∀ (x4 s0 : Int32) (nt : Bool), (x4 = 0 → nt = false) → (¬ x4 = 0 → nt = true) → s0 = cdT (tKD s n (i0 + t)) (tNV s n (i0 + t)) → ¬ tKD s n (i0 + t) = 0 → st.length ≤ 5 → rd (tKD s n) (tPC s n) k (i0 + t + 1) true ((nt, false) :: st) = R → Ev w (am_Z w) mX10_reads (d + 2) 99 [(0, .ref m), (1, .int (nI (st.length - 1))), (2, .int 1), (4, .int x4)] [.int s0, .ref m] h Q := by
        intro x4 s0 nt n0 n1 hs nz hl5 r1
        refine bX10_reads_99 ⟨M.1, puts_nx T L hs hb (fun h1 F1 T1 L1 => ⟨rfl, T1.1.1, ?_⟩)⟩
        rw [nI_1, show st.length - 1 + 1 = st.length by omega, nI_clamp (by omega)]
        have fin : ∀ v : Int32, v = (if nt then 1 else 2) → EvM w mX10_nextToken (d + 1) [.ref m] (sI (sI h1 (m + 13) st.length v) (m + 14) st.length 0) (fun r h' => r = none ∧ Ev w (am_Z w) mX10_reads (d + 2) 11 [(0, .ref m), (1, .int (nI st.length)), (2, .int 1)] [] h' Q) := fun v hv =>
          nx true ((nt, false) :: st) _ nz ((T1.rowO (o := 13) (by decide)).rowO (o := 14) (by decide)) ((S.fa F1).push hv) B.push (by rw [List.length_cons]; omega) ((L1.row (o := 13) (by decide)).row (o := 14) (by decide)) r1
        refine ⟨fun c => ⟨T1.1.in 12 rfl rfl (by omega) (by decide), fun h6 e6 => ⟨?_, fun h8 e8 => ?_⟩⟩, fun c => ⟨T1.1.in 12 rfl rfl (by omega) (by decide), fun h6 e6 => ⟨?_, fun h8 e8 => ?_⟩⟩⟩
        · rw [e6]; exact T1.1.in 13 rfl rfl (by omega) (by decide)
        · rw [e8, e6]; exact fin 2 (by rw [n0 c]; rfl)
        · rw [e6]; exact T1.1.in 13 rfl rfl (by omega) (by decide)
        · rw [e8, e6]; exact fin 1 (by rw [n1 c]; rfl)
      have go : isSt (tKD s n (i0 + t)) = true → Ev w (am_Z w) mX10_reads (d + 2) 65 [(0, .ref m), (1, .int (nI (st.length - 1))), (2, .int 1), (3, .int (fcA (tKD s n (i0 + t)))), (4, .int (b01 (tKD s n (i0 + t) = 87))), (5, .int (b01 (tKD s n (i0 + t) = 40)))] [] h Q := by
        intro z
        rw [if_pos z] at hR
        have nz : ¬ tKD s n (i0 + t) = 0 := fun e => by rw [e] at z; exact absurd z (by decide)
        refine bX10_reads_65 ⟨fun c => ?_, fun c => ?_⟩
        · rw [show (5 : Int32) = nI 5 by decide, nI_eq (by omega) (by decide)] at c
          rw [if_pos (by omega)] at hR
          exact ⟨M.1, fl 5 (by decide) (by decide) hR.symm⟩
        · rw [show (5 : Int32) = nI 5 by decide, nI_eq (by omega) (by decide)] at c
          rw [if_neg (by omega)] at hR
          have hl5 : st.length ≤ 5 := by omega
          refine ⟨fun c1 => ?_, fun c1 => ⟨fun c2 => absurd c2 c1, fun c2 => ?_⟩⟩
          · have k1 : ¬ tKD s n (i0 + t) = 87 := b01_nz.mp c1
            rw [if_neg k1] at hR
            refine ⟨fun c2 => ?_, fun c2 => ⟨fun _ => ?_, fun c3 => absurd c1 c3⟩⟩
            · have k2 : ¬ tKD s n (i0 + t) = 40 := b01_nz.mp c2
              rw [if_neg k2] at hR
              have pop : ∀ h1, FrA (fun a => a = m ∨ a = m + 5) h h1 → TM m h1 s n (i0 + t) → LI m s n c0 i0 h0 h1 (t + 1) → Ev w (am_Z w) mX10_reads (d + 2) 152 [(0, .ref m), (1, .int (nI (st.length - 1))), (2, .int 0)] [] h1 Q := fun h1 F1 T1 L1 =>
                pop152 B (S.fa F1) hl T1.1 (nx false (popN st) h1 nz T1 (S.fa F1).pop B.pop.1 (by have := B.pop.2; omega) L1 hR)
              refine ⟨fun c3 => ⟨M.1, ?_⟩, fun c3 => ⟨M.1, ?_⟩⟩
              · have k3 : tKD s n (i0 + t) = 2 := by
                  rcases isSt_or.mp z with e | e | e | e
                  · exact e
                  · exact absurd e k1
                  · exact absurd e k2
                  · exact absurd c3 (fcA_F e).1
                rw [show hI h m 8 = tNV s n (i0 + t) from T.2.2.2.2.2.2.2.2]
                exact puts_nx T L (by rw [k3]; rfl) hb (fun h1 F1 T1 L1 => ⟨rfl, pop h1 F1 T1 L1⟩)
              · have k3 : isF (tKD s n (i0 + t)) = true := Decidable.byContradiction (fun y => c3 (by rw [fcA_N y]; exact Int32.le_refl _))
                exact puts_nx T L (by rw [cdT_F k3]) hb (fun h1 F1 T1 L1 => ⟨rfl, pop h1 F1 T1 L1⟩)
            · have k2 : tKD s n (i0 + t) = 40 := Decidable.byContradiction (fun y => c2 (b01_nz.mpr y))
              rw [if_pos k2] at hR
              exact go99 _ 28 false (fun _ => rfl) (fun y => absurd c1 y) (by rw [k2]; rfl) nz hl5 hR
          · have k1 : tKD s n (i0 + t) = 87 := Decidable.byContradiction (fun y => c1 (b01_nz.mpr y))
            rw [if_pos k1] at hR
            exact go99 _ 30 true (fun y => absurd y c1) (fun _ => rfl) (by rw [k1]; rfl) nz hl5 hR
      refine bX10_reads_11 ⟨fun c => absurd c (by decide), fun _ => ⟨M.1, c_factR T ⟨_, rfl, M.1, c_isWordR (k := 23) T (by decide) rfl ⟨_, rfl, M.1, c_isSignR (k := 40) T (by decide) (by decide) ⟨_, rfl, ?_⟩⟩⟩⟩⟩
      refine ⟨fun c1 => ⟨fun c2 => ⟨fun c3 => ⟨M.1, fun c4 => go ?_, fun c4 => ?_⟩, fun c3 => go ?_⟩, fun c2 => go ?_⟩, fun c1 => go ?_⟩
      · exact isSt_or.mpr (Or.inl ((tk_small (s := s) (n := n) (b := bgn s n (i0 + t))).2.mp (by rw [← T.2.2.2.2.2.2.1]; exact c4)))
      · have z : ¬ isSt (tKD s n (i0 + t)) = true := fun z => by
          rcases isSt_or.mp z with e | e | e | e
          · exact c4 (by rw [T.2.2.2.2.2.2.1]; exact (tk_small (s := s) (n := n) (b := bgn s n (i0 + t))).2.mpr e)
          · exact b01_nz.mp c2 e
          · exact b01_nz.mp c3 e
          · exact (fcA_F e).2.1 c1
        rw [if_neg z] at hR
        exact fl 1 (by decide) (by decide) hR.symm
      · exact isSt_or.mpr (Or.inr (Or.inr (Or.inl (Decidable.byContradiction (fun y => c3 (b01_nz.mpr y))))))
      · exact isSt_or.mpr (Or.inr (Or.inl (Decidable.byContradiction (fun y => c2 (b01_nz.mpr y)))))
      · exact isSt_or.mpr (Or.inr (Or.inr (Or.inr (Decidable.byContradiction (fun y => c1 (fcA_N y))))))
    | false =>
      rw [rd] at hR
      have lit : ∀ c : Int32, ¬ c = 0 → tKD s n (i0 + t) = c → ¬ tKD s n (i0 + t) = 0 := fun c hc e => by rw [e]; exact hc
      have go206 : (tKD s n (i0 + t) = 43 ∨ tKD s n (i0 + t) = 45 ∨ tKD s n (i0 + t) = 42) → Ev w (am_Z w) mX10_reads (d + 2) 206 [(0, .ref m), (1, .int (nI (st.length - 1)))] [] h Q := by
        intro z
        rw [if_pos z] at hR
        have nz : ¬ tKD s n (i0 + t) = 0 := by rcases z with e | e | e <;> rw [e] <;> decide
        refine bX10_reads_206 ⟨M.1, c_isSignR (k := 43) T (by decide) (by decide) ⟨_, rfl, fun c1 => ⟨M.1, c_isSignR (k := 45) T (by decide) (by decide) ⟨_, rfl, fun c2 => ⟨M.1, ?_⟩, fun c2 => ⟨M.1, ?_⟩⟩⟩, fun c1 => ⟨M.1, ?_⟩⟩⟩
        · have k1 : ¬ tKD s n (i0 + t) = 43 := b01_nz.mp c1
          have k2 : ¬ tKD s n (i0 + t) = 45 := b01_nz.mp c2
          have k3 : tKD s n (i0 + t) = 42 := (z.resolve_left k1).resolve_left k2
          exact puts_nx T L (by rw [k3]; rfl) hb (fun h1 F1 T1 L1 => ⟨rfl, T1.1.1, nx true st h1 nz T1 (S.fa F1) B hl L1 hR⟩)
        · have k2 : tKD s n (i0 + t) = 45 := Decidable.byContradiction (fun y => c2 (b01_nz.mpr y))
          exact puts_nx T L (by rw [k2]; rfl) hb (fun h1 F1 T1 L1 => ⟨rfl, T1.1.1, nx true st h1 nz T1 (S.fa F1) B hl L1 hR⟩)
        · have k1 : tKD s n (i0 + t) = 43 := Decidable.byContradiction (fun y => c1 (b01_nz.mpr y))
          exact puts_nx T L (by rw [k1]; rfl) hb (fun h1 F1 T1 L1 => ⟨rfl, T1.1.1, nx true st h1 nz T1 (S.fa F1) B hl L1 hR⟩)
      have go399 : ¬ (tKD s n (i0 + t) = 43 ∨ tKD s n (i0 + t) = 45 ∨ tKD s n (i0 + t) = 42) → ¬ ((tKD s n (i0 + t) = 60 ∨ tKD s n (i0 + t) = 61) ∧ cmpT st = false) → ¬ (tKD s n (i0 + t) = 88 ∨ tKD s n (i0 + t) = 89) → ¬ (tKD s n (i0 + t) = 41 ∧ 1 < st.length) → Ev w (am_Z w) mX10_reads (d + 2) 399 [(0, .ref m), (1, .int (nI (st.length - 1)))] [] h Q := by
        intro z1 z2 z3 z4
        rw [if_neg z1, if_neg z2, if_neg z3, if_neg z4] at hR
        refine bX10_reads_399 ⟨fun c => ⟨M.1, c_isSignR (k := 59) T (by decide) (by decide) ⟨_, rfl, fun c2 => ⟨M.1, ?_⟩, fun c2 => ⟨M.1, ?_⟩⟩⟩, fun c => ⟨M.1, ?_⟩⟩
        · have k2 : ¬ tKD s n (i0 + t) = 59 := b01_nz.mp c2
          rw [if_neg (fun y => k2 y.2)] at hR
          exact fl 1 (by decide) (by decide) hR.symm
        · have k2 : tKD s n (i0 + t) = 59 := Decidable.byContradiction (fun y => c2 (b01_nz.mpr y))
          rw [← nI_0, nI_eq (by omega) (by decide)] at c
          rw [if_pos ⟨by omega, k2⟩] at hR
          exact c_nextT T (fun h' F T' => ⟨rfl, q1 h' t (L.nx F) T' hR.symm (kp (lit 59 (by decide) k2))⟩)
        · rw [← nI_0, nI_eq (by omega) (by decide)] at c
          rw [if_neg (fun y => c (by omega))] at hR
          exact fl 1 (by decide) (by decide) hR.symm
      have go304 : ¬ (tKD s n (i0 + t) = 43 ∨ tKD s n (i0 + t) = 45 ∨ tKD s n (i0 + t) = 42) → ¬ ((tKD s n (i0 + t) = 60 ∨ tKD s n (i0 + t) = 61) ∧ cmpT st = false) → Ev w (am_Z w) mX10_reads (d + 2) 304 [(0, .ref m), (1, .int (nI (st.length - 1))), (2, .int 0)] [] h Q := by
        intro z1 z2
        rw [if_neg z1, if_neg z2] at hR
        have go324 : (tKD s n (i0 + t) = 88 ∨ tKD s n (i0 + t) = 89) → Ev w (am_Z w) mX10_reads (d + 2) 324 [(0, .ref m), (1, .int (nI (st.length - 1)))] [] h Q := by
          intro z3
          rw [if_pos z3] at hR
          have nz : ¬ tKD s n (i0 + t) = 0 := by rcases z3 with e | e <;> rw [e] <;> decide
          have fin : ∀ h1, FrA (fun a => a = m ∨ a = m + 5) h h1 → TM m h1 s n (i0 + t) → LI m s n c0 i0 h0 h1 (t + 1) → EvM w mX10_nextToken (d + 1) [.ref m] (sI h1 (m + 14) (st.length - 1) 0) (fun r h' => r = none ∧ Ev w (am_Z w) mX10_reads (d + 2) 11 [(0, .ref m), (1, .int (nI (st.length - 1))), (2, .int 1)] [] h' Q) := fun h1 F1 T1 L1 => by
            have X := nx true (setT false st) _ nz (T1.rowO (o := 14) (k := st.length - 1) (v := 0) (by decide)) ((S.fa F1).set B rfl) B.set.1 (by rw [B.set.2]; exact hl) (L1.row (o := 14) (by decide)) hR
            rw [B.set.2] at X
            exact X
          refine bX10_reads_324 ⟨M.1, c_isWordR (k := 24) T (by decide) rfl ⟨_, rfl, fun c1 => ⟨M.1, ?_⟩, fun c1 => ⟨M.1, ?_⟩⟩⟩
          · have k1 : ¬ tKD s n (i0 + t) = 88 := b01_nz.mp c1
            have k2 : tKD s n (i0 + t) = 89 := z3.resolve_left k1
            refine puts_nx T L (by rw [k2]; rfl) hb (fun h1 F1 T1 L1 => ⟨rfl, T1.1.1, T1.1.in 13 rfl rfl (by omega) (by decide), fun h3 e3 => ?_⟩)
            rw [e3, nI_clamp (by omega)]
            exact fin h1 F1 T1 L1
          · have k1 : tKD s n (i0 + t) = 88 := Decidable.byContradiction (fun y => c1 (b01_nz.mpr y))
            refine puts_nx T L (by rw [k1]; rfl) hb (fun h1 F1 T1 L1 => ⟨rfl, T1.1.1, T1.1.in 13 rfl rfl (by omega) (by decide), fun h3 e3 => ?_⟩)
            rw [e3, nI_clamp (by omega)]
            exact fin h1 F1 T1 L1
        refine bX10_reads_304 ⟨M.1, c_isWordR (k := 24) T (by decide) rfl ⟨_, rfl, fun c1 => ⟨M.1, c_isWordR (k := 25) T (by decide) rfl ⟨_, rfl, fun c2 => ⟨M.1, c_isSignR (k := 41) T (by decide) (by decide) ⟨_, rfl, fun c3 => ?_, fun c3 => ⟨fun c4 => ?_, fun c4 => ⟨M.1, ?_⟩⟩⟩⟩, fun c2 => go324 (Or.inr ?_)⟩⟩, fun c1 => go324 (Or.inl ?_)⟩⟩
        · have k1 : ¬ tKD s n (i0 + t) = 88 := b01_nz.mp c1
          have k2 : ¬ tKD s n (i0 + t) = 89 := b01_nz.mp c2
          have k3 : ¬ tKD s n (i0 + t) = 41 := b01_nz.mp c3
          exact go399 z1 z2 (fun y => y.elim k1 k2) (fun y => k3 y.1)
        · have k1 : ¬ tKD s n (i0 + t) = 88 := b01_nz.mp c1
          have k2 : ¬ tKD s n (i0 + t) = 89 := b01_nz.mp c2
          rw [← nI_0, nI_leI (by omega) (by decide)] at c4
          exact go399 z1 z2 (fun y => y.elim k1 k2) (fun y => by omega)
        · have k1 : ¬ tKD s n (i0 + t) = 88 := b01_nz.mp c1
          have k2 : ¬ tKD s n (i0 + t) = 89 := b01_nz.mp c2
          have k3 : tKD s n (i0 + t) = 41 := Decidable.byContradiction (fun y => c3 (b01_nz.mpr y))
          rw [← nI_0, nI_leI (by omega) (by decide)] at c4
          rw [if_neg (fun y => y.elim k1 k2), if_pos ⟨k3, by omega⟩] at hR
          have Bt := B.tail (by omega)
          have lt : st.tail.length = st.length - 1 := List.length_tail
          refine puts_nx T L (by rw [k3]; rfl) hb (fun h1 F1 T1 L1 => ⟨rfl, ?_⟩)
          have X := pop379 (x2 := 0) (d := d + 1) (w := w) (Q := Q) Bt (S.fa F1).tail (by omega) T1.1 (nx false (popN st.tail) h1 (lit 41 (by decide) k3) T1 (S.fa F1).tail.pop Bt.pop.1 (by have := Bt.pop.2; omega) L1 hR)
          obtain ⟨j, hj⟩ : ∃ j, st.length = j + 2 := ⟨st.length - 2, by omega⟩
          rw [lt, hj] at X
          rw [hj]
          show Ev w (am_Z w) mX10_reads (d + 2) 379 [(0, .ref m), (1, .int (nI (j + 1) + (-1))), (2, .int 0)] [] h1 Q
          rw [pk_m1]
          exact X
        · exact Decidable.byContradiction (fun y => c2 (b01_nz.mpr y))
        · exact Decidable.byContradiction (fun y => c1 (b01_nz.mpr y))
      have go263 : ¬ (tKD s n (i0 + t) = 43 ∨ tKD s n (i0 + t) = 45 ∨ tKD s n (i0 + t) = 42) → (tKD s n (i0 + t) = 60 ∨ tKD s n (i0 + t) = 61) → Ev w (am_Z w) mX10_reads (d + 2) 263 [(0, .ref m), (1, .int (nI (st.length - 1))), (2, .int 0)] [] h Q := by
        intro z1 z2
        have nz : ¬ tKD s n (i0 + t) = 0 := by rcases z2 with e | e <;> rw [e] <;> decide
        refine bX10_reads_263 ⟨M.1, M.in 13 rfl rfl (by omega) (by decide), ?_⟩
        rw [nI_clamp (by omega), S.top B]
        refine ⟨fun c => ?_, fun c => go304 z1 (fun y => ?_)⟩
        · have cf : cmpT st = false := by
            cases x : cmpT st with
            | false => rfl
            | true => rw [x] at c; exact absurd c (by decide)
          rw [if_neg z1, if_pos ⟨z2, cf⟩] at hR
          have fin : ∀ h1, FrA (fun a => a = m ∨ a = m + 5) h h1 → TM m h1 s n (i0 + t) → LI m s n c0 i0 h0 h1 (t + 1) → EvM w mX10_nextToken (d + 1) [.ref m] (sI h1 (m + 14) (st.length - 1) 1) (fun r h' => r = none ∧ Ev w (am_Z w) mX10_reads (d + 2) 11 [(0, .ref m), (1, .int (nI (st.length - 1))), (2, .int 1)] [] h' Q) := fun h1 F1 T1 L1 => by
            have X := nx true (setT true st) _ nz (T1.rowO (o := 14) (k := st.length - 1) (v := 1) (by decide)) ((S.fa F1).set B rfl) B.set.1 (by rw [B.set.2]; exact hl) (L1.row (o := 14) (by decide)) hR
            rw [B.set.2] at X
            exact X
          refine c_isSignR (k := 60) T (by decide) (by decide) ⟨_, rfl, fun c1 => ⟨M.1, ?_⟩, fun c1 => ⟨M.1, ?_⟩⟩
          · have k1 : ¬ tKD s n (i0 + t) = 60 := b01_nz.mp c1
            have k2 : tKD s n (i0 + t) = 61 := z2.resolve_left k1
            refine puts_nx T L (by rw [k2]; rfl) hb (fun h1 F1 T1 L1 => ⟨rfl, T1.1.1, T1.1.in 13 rfl rfl (by omega) (by decide), fun h3 e3 => ?_⟩)
            rw [e3]
            exact fin h1 F1 T1 L1
          · have k1 : tKD s n (i0 + t) = 60 := Decidable.byContradiction (fun y => c1 (b01_nz.mpr y))
            refine puts_nx T L (by rw [k1]; rfl) hb (fun h1 F1 T1 L1 => ⟨rfl, T1.1.1, T1.1.in 13 rfl rfl (by omega) (by decide), fun h3 e3 => ?_⟩)
            rw [e3]
            exact fin h1 F1 T1 L1
        · rw [y.2] at c
          exact c rfl
      refine bX10_reads_11 ⟨fun _ => ⟨M.1, c_isSignR (k := 43) T (by decide) (by decide) ⟨_, rfl, fun c1 => ⟨M.1, c_isSignR (k := 45) T (by decide) (by decide) ⟨_, rfl, fun c2 => ⟨M.1, c_isSignR (k := 42) T (by decide) (by decide) ⟨_, rfl, fun c3 => ⟨M.1, c_isSignR (k := 60) T (by decide) (by decide) ⟨_, rfl, fun c4 => ⟨M.1, c_isSignR (k := 61) T (by decide) (by decide) ⟨_, rfl, fun c5 => ?_, fun c5 => ?_⟩⟩, fun c4 => ?_⟩⟩, fun c3 => go206 (Or.inr (Or.inr ?_))⟩⟩, fun c2 => go206 (Or.inr (Or.inl ?_))⟩⟩, fun c1 => go206 (Or.inl ?_)⟩⟩, fun c => absurd rfl c⟩
      · have k1 : ¬ tKD s n (i0 + t) = 43 := b01_nz.mp c1
        have k2 : ¬ tKD s n (i0 + t) = 45 := b01_nz.mp c2
        have k3 : ¬ tKD s n (i0 + t) = 42 := b01_nz.mp c3
        have k4 : ¬ tKD s n (i0 + t) = 60 := b01_nz.mp c4
        have k5 : ¬ tKD s n (i0 + t) = 61 := b01_nz.mp c5
        exact go304 (fun y => y.elim k1 (fun y => y.elim k2 k3)) (fun y => y.1.elim k4 k5)
      · have k1 : ¬ tKD s n (i0 + t) = 43 := b01_nz.mp c1
        have k2 : ¬ tKD s n (i0 + t) = 45 := b01_nz.mp c2
        have k3 : ¬ tKD s n (i0 + t) = 42 := b01_nz.mp c3
        exact go263 (fun y => y.elim k1 (fun y => y.elim k2 k3)) (Or.inr (Decidable.byContradiction (fun y => c5 (b01_nz.mpr y))))
      · have k1 : ¬ tKD s n (i0 + t) = 43 := b01_nz.mp c1
        have k2 : ¬ tKD s n (i0 + t) = 45 := b01_nz.mp c2
        have k3 : ¬ tKD s n (i0 + t) = 42 := b01_nz.mp c3
        exact go263 (fun y => y.elim k1 (fun y => y.elim k2 k3)) (Or.inl (Decidable.byContradiction (fun y => c4 (b01_nz.mpr y))))
      · exact Decidable.byContradiction (fun y => c3 (b01_nz.mpr y))
      · exact Decidable.byContradiction (fun y => c2 (b01_nz.mpr y))
      · exact Decidable.byContradiction (fun y => c1 (b01_nz.mpr y))
theorem c_readsR {N c0 i : Nat} {h : am_H} (hz : tKD s n N = 0) (hN : N ≤ 1000) (hi : i ≤ N) (hc : c0 ≤ 4000) (T : TM m h s n i) (h21 : hI h m 21 = nI c0)
    (q1 : ∀ h' t, LI m s n c0 i h h' t → TM m h' s n (i + t + 1) → rd (tKD s n) (tPC s n) (N + 1 - i) i true [(false, false)] = (0, i + t + 1) → i + t < N → Q (some (.int 1)) h')
    (q0 : ∀ h', FrL m h h' → (∀ p, p < c0 ∨ c0 + (N - i) ≤ p → hI h' (m + 5) p = hI h (m + 5) p) → hI h' m 9 = (rd (tKD s n) (tPC s n) (N + 1 - i) i true [(false, false)]).1 → ¬ (rd (tKD s n) (tPC s n) (N + 1 - i) i true [(false, false)]).1 = 0 → Q (some (.int 0)) h') : EvM w mX10_reads (d + 2) [.ref m] h Q := by
  have M := T.1
  refine bX10_reads_0 ⟨M.1, M.in 13 rfl (k := 0) rfl (by decide) (by decide), fun h3 e3 => ?_⟩
  have F : FrL m h h3 := by rw [e3]; exact FrL.row (o := 14) (by decide)
  have e5 : hI h3 (m + 5) = hI h (m + 5) := by rw [e3, sI_r, hI_rn _ _ (by omega)]
  refine reads_loop (N := N) (c0 := c0) (i0 := i) (h0 := h) hz hN hc q1 q0 (N + 1 - i) 0 true [(false, false)] h3 (by omega) (by omega) ?_ ?_ ?_ (by decide) ?_ rfl
  · rw [e3]; exact T.rowO (o := 14) (by decide)
  · refine ⟨fun z => absurd rfl z, ?_, trivial⟩
    rw [e3, cl0]
    show hI (sI h (m + 14) 0 0) (m + 14) 0 = _
    rw [sI_f, if_pos rfl]
    rfl
  · exact ⟨fun _ => rfl, fun z => absurd rfl z⟩
  · refine ⟨F, ?_, fun p _ => by rw [e5], fun j hj => absurd hj (Nat.not_lt_zero _)⟩
    rw [e3, sI_r, hI_rn _ _ (by omega)]
    exact h21
end RAUTO2
