section RTELL2
variable {w : am_W} {d : Nat} {h : am_H} {Q : Option Value → am_H → Prop} {m : Nat}
/-- the people told, up to a number, in the rows of a day -/
def tldP (h : am_H) (m : Nat) (x : Int32) (p : Nat) : rP := (nI p, hI h (m + 2) 8, upto p (sdf (hI h (m + 11)) (hI h (m + 7)) x) (hI h (m + 25)), upto p (hI h (m + 8)) (hI h (m + 26)), upto p (hI h (m + 9)) (hI h (m + 27)), upto p (hI h (m + 10)) (hI h (m + 28)), upto p (fun q => cof (hI h (m + 11) q)) (hI h (m + 29)))
def tldS (h : am_H) (m : Nat) (p : Nat) : rS := (upto p (fun _ => -1) (hI h (m + 30)), upto p (fun _ => -1) (hI h (m + 31)), 0, hI h (m + 32), hI h (m + 33), hI h (m + 34), 0, if hI h (m + 2) 2 = 2 then 0 else 100000)
set_option maxHeartbeats 4000000 in
theorem c_tellsAll {x : Int32} {N : Nat} (M : Md m h) (hN' : hI h (m + 2) 7 = nI N) (hN2 : N ≤ 16) (q : ∀ h', FrD m h h' → perS h' m = tldP h m x N → getS h' m = tldS h m N → Q none h') : EvM w mX10_tellsAll (d + 1) [.ref m, .int x] h Q := by
  have loop : ∀ k p : Nat, p + k = N → ∀ hc : am_H, FrD m h hc → perS hc m = tldP h m x p → getS hc m = tldS h m p →
      Ev w (am_Z w) mX10_tellsAll (d + 1) 8 [(0, .ref m), (1, .int x), (2, .int (nI (chs (hI h (m + 11)) p))), (3, .int (nI p))] [] hc Q := by
    intro k
    induction k with
    | zero =>
      intro p hp hc F P S
      have hp : p = N := by omega
      subst hp
      have Mc := F.md M
      refine bX10_tellsAll_8 ⟨Mc.1, Mc.in 1 rfl (k := 7) (by decide) (by decide) (by decide), fun _ => q hc F P S, fun c => absurd ?_ c⟩
      rw [cl7, F.2.2.2.2.2.2.1 _ (by omega) (by omega), hN']
      exact Int32.le_refl _
    | succ k ih =>
      intro p hp hc F P S
      have Mc := F.md M
      have hpc : (nI p).toNatClampNeg = p := nI_clamp (by omega)
      have ro : ∀ o, o ≠ 0 → o < 15 → hI hc (m + o) = hI h (m + o) := fun o h0 h1 => F.2.2.2.2.2.2.1 _ (by omega) (by omega)
      have tail : ∀ (b : Int32) (s0 : Int32), s0 = sdf (hI h (m + 11)) (hI h (m + 7)) x p → (b = 0 ↔ ¬ hI h (m + 11) p = 5) → Ev w (am_Z w) mX10_tellsAll (d + 1) 60 [(0, .ref m), (1, .int x), (2, .int (nI (chs (hI h (m + 11)) p))), (3, .int (nI p)), (4, .int b)] [.int s0, .ref m] hc Q := by
        intro b s0 es hb
        refine bX10_tellsAll_60 ⟨Mc.1, Mc.in 7 rfl rfl (show p < 96 by omega) (by decide), Mc.in 8 rfl rfl (show p < 96 by omega) (by decide), Mc.in 9 rfl rfl (show p < 96 by omega) (by decide), Mc.in 10 rfl rfl (show p < 96 by omega) (by decide), c_countOf ⟨_, rfl, Mc.1, ?_⟩⟩
        have P' := P
        have S' := S
        simp only [perS, tldP, Prod.mk.injEq] at P'
        simp only [getS, tldS, Prod.mk.injEq] at S'
        obtain ⟨P1, P2, P3, P4, P5, P6, P7⟩ := P'
        obtain ⟨S1, S2, S3⟩ := S'
        refine c_joins (n := p) Mc P1 (by omega) (fun h10 F10 Q10 R10 => ⟨rfl, ?_⟩)
        rw [hpc, ro 8 (by decide) (by decide), ro 9 (by decide) (by decide), ro 10 (by decide) (by decide), ro 11 (by decide) (by decide), P2, P3, P4, P5, P6, P7, es, upto_s p (sdf (hI h (m + 11)) (hI h (m + 7)) x), upto_s, upto_s, upto_s, upto_s p (fun q => cof (hI h (m + 11) q))] at Q10
        have R10' : getS h10 m = tldS h m (p + 1) := by
          rw [R10, S1, S2, upto_s p (fun _ => (-1 : Int32)), upto_s p (fun _ => (-1 : Int32)), S]
          rfl
        have nx : nI p + 1 = nI (p + 1) := (nI_succ p).symm
        have ih := ih (p + 1) (by omega) h10 (F.tr F10) Q10 R10'
        rw [chs] at ih
        refine ⟨fun c => ?_, fun c => ?_⟩
        · rw [if_neg (hb.mp c)] at ih
          rw [nx, show nI (chs (hI h (m + 11)) p) + 0 = nI (chs (hI h (m + 11)) p + 0) by rw [Nat.add_zero]; exact Int32.add_zero _]
          exact ih
        · rw [if_pos (Classical.byContradiction fun n => c (hb.mpr n))] at ih
          rw [nx, ← nI_succ]
          exact ih
      refine bX10_tellsAll_8 ⟨Mc.1, Mc.in 1 rfl (k := 7) (by decide) (by decide) (by decide), fun c => absurd c ?_, fun _ => ⟨Mc.in 10 rfl rfl (show p < 96 by omega) (by decide), fun c => ?_, fun c => ?_⟩⟩
      · rw [cl7, ro 2 (by decide) (by decide), hN', nI_leI (by omega) (by omega)]
        omega
      · rw [hpc, ro 11 (by decide) (by decide)] at c
        refine bX10_tellsAll_34 ⟨fun c2 => absurd c2 (by decide), fun _ => ⟨fun c2 => ⟨Mc.1, Mc.in 6 rfl rfl (show p < 96 by omega) (by decide), tail 1 _ ?_ ⟨fun c3 => absurd c3 (by decide), fun c3 => absurd c c3⟩⟩, fun c2 => tail 1 _ ?_ ⟨fun c3 => absurd c3 (by decide), fun c3 => absurd c c3⟩⟩⟩
        · rw [hpc, ro 7 (by decide) (by decide), sdf, if_pos c, if_pos c2]
        · rw [sdf, if_pos c, if_neg c2]
      · rw [hpc, ro 11 (by decide) (by decide)] at c
        refine bX10_tellsAll_34 ⟨fun _ => ⟨Mc.1, Mc.in 6 rfl rfl (show p < 96 by omega) (by decide), tail 0 _ ?_ ⟨fun _ => c, fun _ => rfl⟩⟩, fun c2 => absurd rfl c2⟩
        rw [hpc, ro 7 (by decide) (by decide), sdf, if_neg c]
  refine bX10_tellsAll_0 ⟨M.1, c_dawns M (fun h2 F P S => ⟨rfl, ?_⟩)⟩
  refine loop N 0 (by omega) h2 F ?_ ?_
  · rw [P]
    simp only [tldP, perS, upto_0]
    rfl
  · rw [S]
    simp only [tldS, getS, upto_0]
/-- a person's wait, by the rows -/
def wof (g at_ : Nat → Int32) (p : Nat) : Int32 := (if 0 ≤ g p then g p else 1440) - at_ p
theorem c_waitOf {p : Nat} (M : Md m h) (hp : p < 360) (q : Q (some (.int (wof (hI h (m + 30)) (hI h (m + 26)) p))) h) : EvM w mX10_waitOf d [.ref m, .int (nI p)] h Q := by
  have hc : (nI p).toNatClampNeg = p := nI_clamp (by omega)
  unfold wof at q
  refine bX10_waitOf_0 ⟨M.1, M.in 29 rfl rfl hp (by decide), fun c => ⟨M.in 29 rfl rfl hp (by decide), M.in 25 rfl rfl hp (by decide), ?_⟩, fun c => ⟨M.in 25 rfl rfl hp (by decide), ?_⟩⟩
  · rw [hc] at c ⊢
    rw [if_pos c] at q
    exact q
  · rw [hc] at c ⊢
    rw [if_neg c] at q
    exact q
end RTELL2
