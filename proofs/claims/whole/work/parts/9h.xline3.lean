/-! The class's parser: a line. -/
def pLn (kd pc nv : Nat → Int32) (ky : Nat → Int64) (K : Nat) (S : P2) (D : LD) : P2 × LD :=
  if ¬ kd S.2 < 64 ∧ ¬ 68 < kd S.2 then (xpt kd pc 59 (tolP kd pc nv (kd S.2 - 64).toNatClampNeg D.1 S), tolD nv (kd S.2 - 64).toNatClampNeg S.2 D)
  else if kd S.2 = 69 then (if tLaws D.2.2.1 < 4 then (xpt kd pc 59 (lawE kd pc nv K S D).1, lawD (lawE kd pc nv K S D) D) else (xpt kd pc 59 (wrg pc 5 S), D))
  else if kd S.2 = 70 then (if tN D.2.2.1 < 16 then (xpt kd pc 59 (perP kd pc nv ky D.2.1 (tN D.2.2.1) (chs (tKd D.2.2.1) (tN D.2.2.1)) S), perD kd nv S.2 D) else (xpt kd pc 59 (wrg pc 5 S), D))
  else (xpt kd pc 59 (wrg pc 1 S), D)
theorem kd_64 {v : Int32} (y1 : ¬ v < 64) (y2 : ¬ 68 < v) : (v - 64).toNatClampNeg < 5 ∧ v = nI (64 + (v - 64).toNatClampNeg) := by
  obtain ⟨j, hj, rfl⟩ := nI_of (x := v) (fun z => y1 (Int32.lt_trans z (by decide)))
  rw [show (64 : Int32) = nI 64 by decide, nI_ltI hj (by decide)] at y1
  rw [show (68 : Int32) = nI 68 by decide, nI_ltI (by decide) hj] at y2
  rw [show (64 : Int32) = nI 64 by decide, nI_sub (by omega), nI_clamp (by omega)]
  refine ⟨by omega, ?_⟩
  congr 1
  omega
section XLINE3
variable {w : am_W} {d : Nat} {h : am_H} {Q : Option Value → am_H → Prop} {x ρ n N : Nat} {s kd pc : Nat → Int32} {bg : Nat → Nat} {K : Nat}
theorem c_line {S : P2} {D : LD} (hK : K = 1000) (P : PK x ρ s n N kd pc h) (B : BgO N pc bg) (I : P0 x N h S) (a : S.1 = 0) (A : DL x ρ n s bg h D) (hof : tOf D.2.2.1 ≤ 9) (hlen : D.2.2.2.2.1 ≤ S.2)
    (q : ∀ h', FrJ (ZP x ρ) (x + 18) h h' → P0 x N h' (pLn kd pc (fun i => nvT s n (bg i)) (fun i => kyT s n (bg i)) K S D).1 → ((pLn kd pc (fun i => nvT s n (bg i)) (fun i => kyT s n (bg i)) K S D).1.1 = 0 → DL x ρ n s bg h' (pLn kd pc (fun i => nvT s n (bg i)) (fun i => kyT s n (bg i)) K S D).2) → Q none h') : EvM w mX5_line (d + 41) [.ref (x + 17)] h Q := by
  have hρ := P.hr
  have r3 : hR h (x + 17) 3 = ρ := P.2.2.2.1
  have f13 : hI h ρ 13 = nI (tLaws D.2.2.1) := A.2.2.2.1.2.2.2.2.2.2.1.2.2.2.2.2.2.2
  have sz : hI h (ρ + 1) 5 = nI (tN D.2.2.1) := by obtain ⟨_, ⟨l, c⟩, _⟩ := A.2.2.2.1; exact c.2.2.2.1
  have hl4 := A.2.2.2.2.2.2.2
  have hn16 := A.2.2.2.2.2.1
  unfold pLn at q
  have after : ∀ (T : P2) (D' : LD), (∀ h', FrJ (ZP x ρ) (x + 18) h h' → P0 x N h' (xpt kd pc 59 T) → ((xpt kd pc 59 T).1 = 0 → DL x ρ n s bg h' D') → Q none h') → ∀ h1, FrJ (ZP x ρ) (x + 18) h h1 → P0 x N h1 T → (T.1 = 0 → DL x ρ n s bg h1 D') →
      (am_L 5 (x + 17) h1 ∧ EvM w mX5_expect (d + 40) [.ref (x + 17), .int 59] h1 (fun r10 h9 => r10 = none ∧ Q none h9)) := by
    intro T D' q' h1 F1 I1 A1
    have P1 := P.fr F1
    refine ⟨P1.l5, c_expect P1 I1 (by decide) (fun h2 F2 I2 => ⟨rfl, q' h2 (F1.tr F2.J) I2 (fun z => ?_)⟩)⟩
    obtain ⟨z1, _⟩ := xpt_al B (fun z => (I1.2 z).2) z
    exact (A1 z1).fn hρ F2.fn
  have wr0 : ∀ k : Nat, 1 ≤ k → k ≤ 15 → (wrg pc (nI k) S).1 = 0 → False := fun k h1 h2 z => by
    rw [wrg, if_pos a] at z
    exact flt_no B k h1 h2 (I.2 a).2 z
  have late : ∀ v : Int32, v = kd S.2 → ¬ (¬ kd S.2 < 64 ∧ ¬ 68 < kd S.2) → Ev w (am_Z w) mX5_line (d + 40 + 1) 25 [(0, .ref (x + 17)), (1, .int v)] [] h Q := by
    intro v hv hn
    rw [if_neg hn] at q
    refine bX5_line_25 ⟨fun c => ⟨P.l5, ?_⟩, fun c => ⟨fun c2 => ⟨P.l5, ?_⟩, fun c2 => ⟨P.l5, ?_⟩⟩⟩
    · rw [hv] at c
      rw [if_pos c] at q
      by_cases cl : tLaws D.2.2.1 < 4
      · rw [if_pos cl] at q
        dsimp only at q
        have aft := after (lawE kd pc (fun i => nvT s n (bg i)) K S D).1 (lawD (lawE kd pc (fun i => nvT s n (bg i)) K S D) D) q
        exact c_lawLine (d := d) hK P B I a c A cl hlen (fun h1 F1 I1 A1 => ⟨rfl, aft h1 F1 I1 A1⟩)
      · rw [if_neg cl] at q
        refine bX5_lawLine_0 ⟨P.l5, by rw [r3]; omega, by rw [r3]; exact P.2.2.2.2.2.1, fun z => absurd z ?_, fun _ => c_wrong P I (fun h1 F1 I1 => ⟨rfl, rfl, after (wrg pc 5 S) D q h1 F1.J I1 (fun z => absurd z (fun z => wr0 5 (by decide) (by decide) z))⟩)⟩
        rw [r3, f13, show (4 : Int32) = nI 4 by decide, nI_ltI (by omega) (by decide)]
        exact cl
    · rw [hv] at c c2
      rw [if_neg c, if_pos c2] at q
      by_cases cl : tN D.2.2.1 < 16
      · rw [if_pos cl] at q
        dsimp only at q
        have aft := after (perP kd pc (fun i => nvT s n (bg i)) (fun i => kyT s n (bg i)) D.2.1 (tN D.2.2.1) (chs (tKd D.2.2.1) (tN D.2.2.1)) S) (perD kd (fun i => nvT s n (bg i)) S.2 D) q
        exact c_personLine (d := d + 37) P B I a c2 A cl (fun h1 F1 I1 A1 => ⟨rfl, aft h1 F1 I1 A1⟩)
      · rw [if_neg cl] at q
        refine bX5_personLine_0 ⟨P.l5, by rw [r3]; omega, by rw [r3]; exact P.2.2.2.2.2.1, by rw [r3]; exact P.2.2.2.2.2.2.1, fun z => absurd z ?_, fun _ => c_wrong P I (fun h1 F1 I1 => ⟨rfl, rfl, after (wrg pc 5 S) D q h1 F1.J I1 (fun z => absurd z (fun z => wr0 5 (by decide) (by decide) z))⟩)⟩
        rw [r3, sz, show (16 : Int32) = nI 16 by decide, nI_ltI (by omega) (by decide)]
        exact cl
    · rw [hv] at c c2
      rw [if_neg c, if_neg c2] at q
      exact c_wrong P I (fun h1 F1 I1 => ⟨rfl, after (wrg pc 1 S) D q h1 F1.J I1 (fun z => absurd z (fun z => wr0 1 (by decide) (by decide) z))⟩)
  refine bX5_line_0 ⟨P.l5, c_kind P I (fun v hv => ⟨v, rfl, fun c => late v (hv a) (fun z => z.1 (by rw [← hv a]; exact c)), fun c => ⟨fun c2 => late v (hv a) (fun z => z.2 (by rw [← hv a]; exact c2)), fun c2 => ⟨P.l5, ?_⟩⟩⟩)⟩
  have hv := hv a
  rw [hv] at c c2
  obtain ⟨j1, j2⟩ := kd_64 c c2
  rw [if_pos ⟨c, c2⟩] at q
  rw [hv]
  generalize (kd S.2 - 64).toNatClampNeg = j at q j1 j2
  rw [j2]
  have aft := after (tolP kd pc (fun i => nvT s n (bg i)) j D.1 S) (tolD (fun i => nvT s n (bg i)) j S.2 D) q
  exact c_toldOnce (d := d + 37) P B I a j1 j2 A hof (fun h1 F1 I1 A1 => ⟨rfl, aft h1 F1 I1 A1⟩)
end XLINE3
