/-! The class's parser: the line of a law, a line. -/
def lawV (row : Nat → Int32) (a b : Nat) : (Nat → Int32) → Int32 := fun V => match runR V row (b - a) a [] with
  | some [v] => v
  | _ => 0
def tLaw (t : rT) (lf : (Nat → Int32) → Int32) : rT := (tN t, tRoom t, tTrip t, tBoats t, tShare t, tOf t, tCome t, tLaws t + 1, tKd t, tSd t, tAt t, tWt t, tCo t, fun l => if l = tLaws t then lf else tLf t l)
def lawE (kd pc nv : Nat → Int32) (K : Nat) (S : P2) (D : LD) : ES := chn kd K (prt kd pc nv (nI (tLaws D.2.2.1)) K 5) 4 (stp S, D.2.2.2.2)
def lawD (E : ES) (D : LD) : LD := (D.1, D.2.1, tLaw D.2.2.1 (lawV E.2.2.1 D.2.2.2.2.1 E.2.1), (fun i => if i = tLaws D.2.2.1 + 1 then E.2.1 else D.2.2.2.1 i), E.2)
section XLAW2
variable {w : am_W} {d : Nat} {h : am_H} {Q : Option Value → am_H → Prop} {x ρ n N : Nat} {s kd pc : Nat → Int32} {bg : Nat → Nat} {K : Nat}
theorem RvP.law {t : rT} {st : Nat → Nat} {h1 : am_H} {b : Nat} {lf : (Nat → Int32) → Int32} (R : RvP ρ h t st) (hl : tLaws t < 4) (F : FrA (fun a => a = ρ ∨ a = ρ + 10) h h1) (e13 : hI h1 ρ 13 = nI (tLaws t + 1)) (e : ∀ k, k ≠ 13 → k ≠ 14 → hI h1 ρ k = hI h ρ k) (e10 : hI h1 (ρ + 10) = va_up (hI h (ρ + 10)) (tLaws t + 1) (nI b)) : RvP ρ h1 (tLaw t lf) (fun i => if i = tLaws t + 1 then b else st i) := by
  obtain ⟨a1, ⟨l, a2⟩, a3, ⟨a4, a4'⟩, ⟨a5, a5'⟩, ⟨a6, a6'⟩, ⟨f6, f7, f8, f9, f10, f11, f12, f13⟩, a8, a9⟩ := R
  have g : ∀ a, ρ < a → a < ρ + 10 → hI h1 a = hI h a := fun a x1 x2 => F.I (fun z => by omega)
  refine ⟨F.L a1, ⟨l, a2.fr F (fun a x1 x2 z => by omega)⟩, by rw [g _ (by omega) (by omega)]; exact a3, ⟨by rw [F.N]; exact a4, by rw [g _ (by omega) (by omega)]; exact a4'⟩, ⟨by rw [F.N]; exact a5, by rw [g _ (by omega) (by omega)]; exact a5'⟩, ⟨by rw [F.N]; exact a6, by rw [g _ (by omega) (by omega)]; exact a6'⟩,
    ⟨by rw [e 6 (by decide) (by decide)]; exact f6, by rw [e 7 (by decide) (by decide)]; exact f7, by rw [e 8 (by decide) (by decide)]; exact f8, by rw [e 9 (by decide) (by decide)]; exact f9, by rw [e 10 (by decide) (by decide)]; exact f10, by rw [e 11 (by decide) (by decide)]; exact f11, by rw [e 12 (by decide) (by decide)]; exact f12, e13⟩, by rw [F.N]; exact a8, fun i hi => ?_⟩
  have hi : i ≤ tLaws t + 1 := hi
  show _ = nI (if i = tLaws t + 1 then b else st i)
  rw [e10]
  by_cases c : i = tLaws t + 1
  · rw [if_pos c, c, va_up_self]
  · rw [if_neg c, va_up_ne _ _ c]
    exact a9 i (by omega)
set_option maxHeartbeats 1000000 in
theorem c_lawLine {S : P2} {D : LD} (hK : K = 1000) (P : PK x ρ s n N kd pc h) (B : BgO N pc bg) (I : P0 x N h S) (a : S.1 = 0) (hk : kd S.2 = 69) (A : DL x ρ n s bg h D) (hl : tLaws D.2.2.1 < 4) (hlen : D.2.2.2.2.1 ≤ S.2)
    (q : ∀ h', FrJ (ZP x ρ) (x + 18) h h' → P0 x N h' (lawE kd pc (fun i => nvT s n (bg i)) K S D).1 → ((lawE kd pc (fun i => nvT s n (bg i)) K S D).1.1 = 0 → DL x ρ n s bg h' (lawD (lawE kd pc (fun i => nvT s n (bg i)) K S D) D)) → Q none h') : EvM w mX5_lawLine (d + 40) [.ref (x + 17)] h Q := by
  have hρ := P.hr
  have r3 : hR h (x + 17) 3 = ρ := P.2.2.2.1
  have f13 : hI h ρ 13 = nI (tLaws D.2.2.1) := A.2.2.2.1.2.2.2.2.2.2.1.2.2.2.2.2.2.2
  refine bX5_lawLine_0 ⟨P.l5, by rw [r3]; omega, by rw [r3]; exact P.2.2.2.2.2.1, fun _ => ?_, fun c => absurd (by rw [r3, f13, show (4 : Int32) = nI 4 by decide, nI_ltI (by omega) (by decide)]; exact hl) c⟩
  refine c_step P I (fun _ => by rw [hk]; decide) (fun h1 F1 I1 => ⟨rfl, (P.fr F1.J).l5, ?_⟩)
  have P1 := P.fr (F1.J (ρ := ρ))
  have A1 := A.fn hρ F1.fn
  have g13 : hI h1 ρ 13 = nI (tLaws D.2.2.1) := A1.2.2.2.1.2.2.2.2.2.2.1.2.2.2.2.2.2.2
  obtain ⟨A15, A16, A17⟩ := A1.2.2.2.2.1
  have es : stp S = (0, S.2 + 1) := by rw [stp, if_pos a]
  have IE1 : IE x N ρ (nI (tLaws D.2.2.1)) h1 (stp S, D.2.2.2.2) := ⟨I1, fun _ => ⟨A15, A16, A17, g13, by show D.2.2.2.2.1 ≤ (stp S).2; rw [es]; exact Nat.le_succ_of_le hlen⟩⟩
  have C := ChOK.of (w := w) (kd := kd) (s := s) (n := n) (x := x) (ρ := ρ) (N := N) (L := nI (tLaws D.2.2.1)) hK (PaOK.of (w := w) hK B 5 (Nat.le_refl _)) (Mn.pr 5) (by decide) 4 (Nat.le_refl _)
  refine C (d + 39) h1 (stp S, D.2.2.2.2) _ (by omega) P1 IE1 (fun h2 F2 I2 => ⟨rfl, (P1.fr F2.J).l5, ?_⟩)
  have P2 := P1.fr F2.J
  have r2 : hR h2 (x + 17) 3 = ρ := P2.2.2.2.1
  rw [r2]
  refine ⟨by omega, P2.2.2.2.2.2.1, bX6_endLaw_0 ⟨P2.2.2.2.2.2.1, fun h3 e3 => ?_⟩⟩
  have k13 : hI h2 ρ 13 = nI (tLaws D.2.2.1) := by rw [F2.2.1 13 (by decide)]; exact g13
  rw [k13, nI_1] at e3
  have l3 : am_L 6 ρ h3 := by rw [e3]; exact P2.2.2.2.2.2.1
  have n10 : hN h3 (ρ + 10) = 5 := by rw [e3]; exact P2.2.2.2.2.2.2.2
  refine c_set (l3.s 4 rfl) (by rw [n10]; decide) ⟨rfl, rfl, ?_⟩
  have t13 : hI h3 ρ 13 = nI (tLaws D.2.2.1 + 1) := by rw [e3, sI_f, if_pos rfl]
  rw [n10, t13, sv_nI (by omega) (by decide)]
  generalize e4 : rI h3 (ρ + 10) (va_up (hI h3 (ρ + 10)) (tLaws D.2.2.1 + 1) (hI h2 (x + 17) 4)) = h4
  have G : FrA (fun a => a = ρ ∨ a = ρ + 10) h2 h4 := by rw [← e4, e3]; exact (FrA.rf.fld (Or.inl rfl)).row (Or.inr rfl)
  have i17 : hI h4 (x + 17) = hI h2 (x + 17) := G.I (fun z => by omega)
  refine q h4 ?_ ?_ (fun z => ?_)
  · exact ((F1.J (ρ := ρ)).tr F2.J).tr (G.toJ (fun a ha => by unfold ZP; omega))
  · exact I2.1.row (fun k _ => by rw [i17])
  · obtain ⟨j1, j2, j3, j4, j5⟩ := I2.2 z
    obtain ⟨B1, B2, B3, B4, _, B8, B9, B10⟩ := A1
    have R2 : RvP ρ h4 (tLaw D.2.2.1 (lawV (lawE kd pc (fun i => nvT s n (bg i)) K S D).2.2.1 D.2.2.2.2.1 (lawE kd pc (fun i => nvT s n (bg i)) K S D).2.1)) (fun i => if i = tLaws D.2.2.1 + 1 then (lawE kd pc (fun i => nvT s n (bg i)) K S D).2.1 else D.2.2.2.1 i) := by
      have F14 : FrA (fun a => a = x + 17 ∨ a = x + 19 ∨ a = ρ) h1 h2 := F2.1
      have same2 : ∀ b, ρ < b → b ≤ ρ + 11 → same h1 h2 b := fun b y1 y2 => F14.same (fun z => by omega)
      have eI : hI h4 (ρ + 10) = va_up (hI h1 (ρ + 10)) (tLaws D.2.2.1 + 1) (nI (lawE kd pc (fun i => nvT s n (bg i)) K S D).2.1) := by
        rw [← e4, hI_rs, e3, sI_r, hI_rn _ _ (by omega), (same2 (ρ + 10) (by omega) (by omega)).2.2.1]
        congr 1
      have FF : FrA (fun a => a = ρ ∨ a = ρ + 10) h1 (rI (rI h1 ρ (hI h4 ρ)) (ρ + 10) (hI h4 (ρ + 10))) := (FrA.rf.row (Or.inl rfl)).row (Or.inr rfl)
      have R1 := B4.law (b := (lawE kd pc (fun i => nvT s n (bg i)) K S D).2.1) (lf := lawV (lawE kd pc (fun i => nvT s n (bg i)) K S D).2.2.1 D.2.2.2.2.1 (lawE kd pc (fun i => nvT s n (bg i)) K S D).2.1) hl FF ?_ ?_ ?_
      · refine R1.sm (fun b y1 y2 => ?_)
        refine ⟨?_, ?_, ?_, ?_, ?_⟩
        · rw [G.K, F14.K]; rfl
        · rw [G.N, F14.N]; rfl
        · by_cases c1 : b = ρ + 10
          · rw [c1, hI_rs]
          · rw [hI_rn _ _ c1]
            by_cases c2 : b = ρ
            · rw [c2, hI_rs]
            · rw [hI_rn _ _ c2, G.I (fun z => by omega), (same2 b (by omega) y2).2.2.1]
        · rw [G.2.2.1, F14.2.2.1]; rfl
        · rw [G.2.2.2.1, F14.2.2.2.1]; rfl
      · rw [hI_rn _ _ (by omega), hI_rs, ← e4, hI_rn _ _ (by omega)]; exact t13
      · intro k y1 y2
        rw [hI_rn _ _ (by omega), hI_rs, ← e4, hI_rn _ _ (by omega), e3, sI_f, if_neg y1]
        exact F2.2.1 k y2
      · rw [hI_rs]; exact eI
    refine ⟨?_, B2, fun i hi => ?_, R2, ⟨?_, ?_, ?_⟩, B8, B9, ?_⟩
    · rw [i17, F2.2.2]; exact B1
    · rw [G.2.2.1, F2.1.2.2.1]; exact B3 i hi
    · rw [i17]; exact j1
    · rw [G.I (fun z => by omega)]; exact j2
    · rw [← e4, hI_rn _ _ (by omega), e3, sI_f, if_neg (by decide)]; exact j3
    · show tLaws D.2.2.1 + 1 ≤ 4; omega
end XLAW2
