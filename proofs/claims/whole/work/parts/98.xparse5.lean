/-! The class's parser: chain and part are the pure ones. -/
section XPARSE5
variable {w : am_W} {d : Nat} {h : am_H} {Q : Option Value → am_H → Prop} {x ρ n N : Nat} {s kd pc nv : Nat → Int32} {bg : Nat → Nat} {L : Int32} {K : Nat}
theorem onE_d {f : P2 → P2} {S : ES} (hf : f S.1 = S.1) : onE f S = S := by unfold onE; rw [hf]
/-- the parts of within r keep to P at depth D -/
def PaOK (w : am_W) (x ρ n N : Nat) (s kd pc : Nat → Int32) (L : Int32) (D : Nat) (r : Nat) (P : ES → ES) : Prop :=
  ∀ (d : Nat) (h : am_H) (S : ES) (Q : Option Value → am_H → Prop), D ≤ d → PK x ρ s n N kd pc h → IE x N ρ L h S → (∀ h', FC x ρ h h' → IE x N ρ L h' (P S) → Q none h') → EvM w mX5_part d [.ref (x + 17), .int (nI (5 - r))] h Q
def ChOK (w : am_W) (x ρ n N : Nat) (s kd pc : Nat → Int32) (L : Int32) (D : Nat) (j r : Nat) (C : ES → ES) : Prop :=
  ∀ (d : Nat) (h : am_H) (S : ES) (Q : Option Value → am_H → Prop), D ≤ d → PK x ρ s n N kd pc h → IE x N ρ L h S → (∀ h', FC x ρ h h' → IE x N ρ L h' (C S) → Q none h') → EvM w mX5_chain d [.ref (x + 17), .int (nI (4 - j)), .int (nI (5 - r))] h Q
theorem lvl_ne {k : Int32} {l : Nat} (hl : l ≤ 3) (e : lvl k = nI l) : ¬ k = 0 := fun z => by
  rw [z] at e
  have : lvl 0 = -1 := by decide
  rw [this] at e
  exact nI_nm (a := l) (by omega) e.symm
set_option maxHeartbeats 2000000 in
theorem ChOK.of {D r : Nat} {P : ES → ES} (hK : K = 1000) (hP : PaOK w x ρ n N s kd pc L D r P) (M : Mn P) (hD : 2 ≤ D) : ∀ j, j ≤ 4 → ChOK w x ρ n N s kd pc L (D + 1 + j) j r (chn kd K P j) := by
  intro j
  induction j with
  | zero =>
    intro _ d h S Q hd PP I q
    obtain ⟨d, rfl⟩ : ∃ e, d = e + 1 := ⟨d - 1, by omega⟩
    exact bX5_chain_0 ⟨fun c => absurd c (by decide), fun _ => ⟨PP.l5, hP d h S _ (by omega) PP I (fun h' F I' => ⟨rfl, q h' F I'⟩)⟩⟩
  | succ j ih =>
    intro hj d h S Q hd PP I q
    obtain ⟨d, rfl⟩ : ∃ e, d = e + 2 := ⟨d - 2, by omega⟩
    have ih := ih (by omega)
    have hρ := PP.hr
    have e4 : nI (4 - (j + 1)) + 1 = nI (4 - j) := by rw [nI_1]; congr 1; omega
    have e4' : nI (4 - (j + 1)) = nI (3 - j) := by congr 1; omega
    rw [chn] at q
    have loop : ∀ (B k a : Nat), B ≤ 1000 → a + k = B → ∀ hc T, FC x ρ h hc → IE x N ρ L hc T → (∀ h', FC x ρ h h' → IE x N ρ L h' (lpc kd (chn kd K P j) (nI (3 - j)) k T) → Q none h') →
        Ev w (am_Z w) mX5_chain (d + 1 + 1) 35 [(0, .ref (x + 17)), (1, .int (nI (4 - (j + 1)))), (2, .int (nI (5 - r))), (3, .int (nI B)), (4, .int (nI a))] [] hc Q := by
      intro B k
      induction k with
      | zero =>
        intro a hB ha hc T Fc Ic qc
        exact bX5_chain_35 ⟨fun _ => qc hc Fc Ic, fun c => absurd (by rw [show a = B by omega]; exact Int32.le_refl _) c⟩
      | succ k ihk =>
        intro a hB ha hc T Fc Ic qc
        have Pc := PP.fr Fc.J
        rw [lpc] at qc
        refine bX5_chain_35 ⟨fun c => absurd c (by rw [nI_leI (by omega) (by omega)]; omega), fun _ => ⟨Pc.l5, fun a0 => ?_, fun a0 => ?_⟩⟩
        · rw [Ic.1.1] at a0
          refine c_kind Pc Ic.1 (fun v hv => ⟨v, rfl, c_levelOf ⟨_, rfl, fun c => ⟨Pc.l5, c_kind Pc Ic.1 (fun v2 hv2 => ⟨v2, rfl, Pc.l5, ?_⟩)⟩, fun c => ?_⟩⟩)
          · have hv := hv a0
            have hv2 := hv2 a0
            rw [hv, e4'] at c
            rw [if_pos ⟨a0, c⟩] at qc
            refine c_step Pc Ic.1 (fun _ => lvl_ne (by omega) c) (fun h2 F2 I2 => ⟨rfl, (Pc.fr F2.J).l5, ?_⟩)
            have I2' : IE x N ρ L h2 (onE stp T) := Ic.on F2 hρ I2 (fun _ => ⟨a0, by unfold stp; rw [if_pos a0]; exact Nat.le_succ _⟩)
            have P2 := Pc.fr (F2.J (ρ := ρ))
            rw [e4]
            refine ih (d + 1) h2 (onE stp T) _ (by omega) P2 I2' (fun h3 F3 I3 => ⟨rfl, (P2.fr F3.J).l5, ?_⟩)
            · have Mc := (M.ch (kd := kd) (K := K) j) (onE stp T)
              have P3 := P2.fr F3.J
              refine c_writeP P3 I3 (fun z => ?_) (fun h4 F4 I4 => ⟨rfl, ?_⟩)
              · obtain ⟨_, m2⟩ := Mc.1 z
                have i5 := (Ic.2 a0).2.2.2.2
                have e1 : (onE stp T).1.2 = T.1.2 + 1 := by unfold onE stp; rw [if_pos a0]
                have e2 : (onE stp T).2.1 = T.2.1 := rfl
                omega
              · rw [nI_1]
                refine ihk (a + 1) hB (by omega) h4 _ (((Fc.tr (F2.c hρ)).tr F3).tr F4) I4 ?_
                rw [hv2]
                exact qc
          · rw [if_neg (fun z => c (by rw [hv z.1, e4']; exact z.2))] at qc
            exact qc hc Fc Ic
        · rw [Ic.1.1] at a0
          rw [if_neg (fun z => a0 z.1)] at qc
          exact qc hc Fc Ic
    have top : EvM w mX5_chain (d + 1 + 1) [.ref (x + 17), .int (nI (4 - (j + 1))), .int (nI (5 - r))] h Q := by
      refine bX5_chain_0 ⟨fun c => ⟨PP.l5, ?_⟩, fun c => absurd (show nI (4 - (j + 1)) < 4 by rw [show (4 : Int32) = nI 4 by decide, nI_ltI (by omega) (by decide)]; omega) c⟩
      rw [e4]
      refine ih (d + 1) h S _ (by omega) PP I (fun h2 F2 I2 => ⟨rfl, fun c => ?_, fun c => ?_⟩)
      · have hj2 : j = 2 := by
          rw [show (1 : Int32) = nI 1 by decide, nI_eq (by omega) (by decide)] at c
          omega
        rw [if_pos hj2] at q
        exact loop 1 1 0 (by decide) rfl h2 _ F2 I2 q
      · have hj2 : ¬ j = 2 := fun z => c (by rw [z]; decide)
        rw [if_neg hj2] at q
        have := loop K K 0 (by omega) (by omega) h2 _ F2 I2 q
        rw [show (1000 : Int32) = nI K by rw [hK]; decide]
        exact this
    exact top
set_option maxHeartbeats 2000000 in
theorem PaOK.of (hK : K = 1000) (B : BgO N pc bg) : ∀ r, r ≤ 5 → PaOK w x ρ n N s kd pc L (6 * r + 2) r (prt kd pc (fun i => nvT s n (bg i)) L K r) := by
  have sm : ∀ {k : Int32}, ¬ k < 75 → ¬ 80 < k → isF k = true := fun {k} a b => by unfold isF; simp only [a, b, decide_false]; rfl
  intro r
  induction r with
  | zero =>
    intro _ d h S Q hd PP I q
    obtain ⟨d, rfl⟩ : ∃ e, d = e + 1 := ⟨d - 1, by omega⟩
    have hρ := PP.hr
    rw [prt] at q
    have w5 : ∀ v s0 : Int32, (S.1.1 = 0 → isSt (kd S.1.2) = true) → Ev w (am_Z w) mX5_part (d + 1) 50 [(0, .ref (x + 17)), (1, .int 5), (2, .int v), (3, .int s0)] [] h Q := by
      intro v s0 hs
      refine bX5_part_50 ⟨fun c => absurd c (by decide), fun _ => ⟨PP.l5, c_wrong PP I.1 (fun h' F I' => ⟨rfl, q h' (F.c hρ) ?_⟩)⟩⟩
      by_cases a : S.1.1 = 0
      · rw [if_pos a, if_pos (hs a)]
        exact I.on F hρ I' (fun _ => ⟨a, by unfold wrg; rw [if_pos a]; exact Nat.le_refl _⟩)
      · rw [if_neg a]
        have : wrg pc 5 S.1 = S.1 := by rw [wrg, if_neg a]
        rw [this] at I'
        exact I.on F hρ I' (fun z => absurd z a)
    have w1 : ∀ v s0 : Int32, (S.1.1 = 0 → v = kd S.1.2) → (s0 = if isF v then 1 else 0) → Ev w (am_Z w) mX5_part (d + 1) 22 [(0, .ref (x + 17)), (1, .int 5), (2, .int v)] [.int s0] h Q := by
      intro v s0 hv hs0
      refine bX5_part_22 ⟨fun c => w5 v s0 (fun a => ?_), fun c => ⟨fun c2 => w5 v s0 (fun a => ?_), fun c2 => ⟨fun c3 => w5 v s0 (fun a => ?_), fun c3 => ⟨fun c4 => ⟨PP.l5, c_wrong PP I.1 (fun h' F I' => ⟨rfl, q h' (F.c hρ) ?_⟩)⟩, fun c4 => w5 v s0 (fun a => ?_)⟩⟩⟩⟩
      · rw [← hv a, c]; decide
      · rw [← hv a, c2]; decide
      · rw [← hv a, c3]; decide
      · by_cases a : S.1.1 = 0
        · have hf : isF v = false := by
            cases e : isF v with
            | true => rw [e] at hs0; rw [hs0] at c4; exact absurd c4 (by decide)
            | false => rfl
          rw [if_pos a, if_neg (by rw [← hv a]; unfold isSt; simp [c, c2, c3, hf])]
          exact I.on F hρ I' (fun _ => ⟨a, by unfold wrg; rw [if_pos a]; exact Nat.le_refl _⟩)
        · rw [if_neg a]
          have : wrg pc 1 S.1 = S.1 := by rw [wrg, if_neg a]
          rw [this] at I'
          exact I.on F hρ I' (fun z => absurd z a)
      · have hf : isF v = true := Decidable.byContradiction (fun y => c4 (by rw [hs0, if_neg y]))
        rw [← hv a]; unfold isSt; simp [hf]
    refine bX5_part_0 ⟨PP.l5, c_kind PP I.1 (fun v hv => ⟨v, rfl, fun c => w1 v 0 hv ?_, fun c => ⟨fun c2 => w1 v 0 hv ?_, fun c2 => w1 v 1 hv ?_⟩⟩)⟩
    · rw [if_neg (by unfold isF; simp [c])]
    · rw [if_neg (by unfold isF; simp [c2])]
    · rw [if_pos (sm c c2)]
  | succ r ih =>
    intro hr d h S Q hd PP I q
    obtain ⟨d, rfl⟩ : ∃ e, d = e + 2 := ⟨d - 2, by omega⟩
    have ih := ih (by omega)
    have hρ := PP.hr
    rw [prt] at q
    have Mr : Mn (prt kd pc (fun i => nvT s n (bg i)) L K r) := Mn.pr r
    have e5 : nI (5 - (r + 1)) + 1 = nI (5 - r) := by rw [nI_1]; congr 1; omega
    have lt5 : nI (5 - (r + 1)) < 5 := by rw [show (5 : Int32) = nI 5 by decide, nI_ltI (by omega) (by decide)]; omega
    have p81 : ∀ v s0 s3 : Int32, (S.1.1 = 0 → v = kd S.1.2 ∧ isSt v = true) → (s3 = if isF v then 1 else 0) → (S.1.1 = 0 → v = 2 → s0 = nvT s n (bg S.1.2)) → Ev w (am_Z w) mX5_part (d + 1 + 1) 81 [(0, .ref (x + 17)), (1, .int (nI (5 - (r + 1)))), (2, .int v), (3, .int s3)] [.int s0] h Q := by
      intro v s0 s3 hv hs3 hs0
      refine bX5_part_81 ⟨PP.l5, c_step PP I.1 (fun a => ?_) (fun h2 F2 I2 => ⟨rfl, ?_⟩)⟩
      · obtain ⟨v1, v2⟩ := hv a
        rw [← v1]
        intro z
        rw [z] at v2
        exact absurd v2 (by decide)
      have P2 := PP.fr (F2.J (ρ := ρ))
      have I2' : IE x N ρ L h2 (onE stp S) := I.on F2 hρ I2 (fun z => by
        by_cases a : S.1.1 = 0
        · exact ⟨a, by unfold stp; rw [if_pos a]; exact Nat.le_succ _⟩
        · rw [stp, if_neg a] at z; exact absurd z a)
      have slack : (onE stp S).1.1 = 0 → (onE stp S).2.1 < (onE stp S).1.2 := fun z => by
        by_cases a : S.1.1 = 0
        · have := (I.2 a).2.2.2.2
          unfold onE stp
          rw [if_pos a]
          show S.2.1 < S.1.2 + 1
          omega
        · unfold onE stp at z; rw [if_neg a] at z; exact absurd z a
      have dn : ¬ S.1.1 = 0 → onE stp S = S := fun a => onE_d (by rw [stp, if_neg a])
      have dw : ∀ c, ¬ S.1.1 = 0 → wrt c S = S := fun c a => by rw [wrt, if_neg a]
      refine ⟨fun c => ⟨P2.l5, c_writeP P2 I2' slack (fun h3 F3 I3 => ⟨rfl, q h3 ((F2.c hρ).tr F3) ?_⟩)⟩, fun c => ⟨fun c2 => ⟨P2.l5, ?_⟩, fun c2 => ⟨fun c3 => ⟨P2.l5, ?_⟩, fun c3 => ⟨P2.l5, ?_⟩⟩⟩⟩
      · by_cases a : S.1.1 = 0
        · obtain ⟨v1, v2⟩ := hv a
          rw [← v1, if_pos a, if_pos v2, if_pos c]
          rw [hs0 a c] at I3
          exact I3
        · rw [if_neg a]; rw [dn a, dw _ a] at I3; exact I3
      · rw [e5]
        refine ih (d + 1) h2 (onE stp S) _ (by omega) P2 I2' (fun h3 F3 I3 => ⟨rfl, (P2.fr F3.J).l5, ?_⟩)
        refine c_writeP (P2.fr F3.J) I3 (fun z => ?_) (fun h4 F4 I4 => ⟨rfl, q h4 (((F2.c hρ).tr F3).tr F4) ?_⟩)
        · obtain ⟨z1, z2⟩ := (Mr _).1 z
          have := slack z1
          omega
        · by_cases a : S.1.1 = 0
          · obtain ⟨v1, v2⟩ := hv a
            rw [← v1, if_pos a, if_pos v2, if_neg c, if_pos c2]
            exact I4
          · rw [if_neg a]; rw [dn a, (Mr S).2 a, dw _ a] at I4; exact I4
      · rw [e5]
        have hf : isF v = false := by
          cases e : isF v with
          | true => rw [e] at hs3; rw [hs3] at c3; exact absurd c3 (by decide)
          | false => rfl
        have C := ChOK.of (w := w) hK ih Mr (by omega) 4 (Nat.le_refl _)
        refine C (d + 1) h2 (onE stp S) _ (by omega) P2 I2' (fun h3 F3 I3 => ⟨rfl, (P2.fr F3.J).l5, ?_⟩)
        have P3 := P2.fr F3.J
        refine c_expect P3 I3.1 (by decide) (fun h4 F4 I4 => ⟨rfl, q h4 (((F2.c hρ).tr F3).tr (F4.c hρ)) ?_⟩)
        have I4' : IE x N ρ L h4 (onE (xpt kd pc 41) (chn kd K (prt kd pc (fun i => nvT s n (bg i)) L K r) 4 (onE stp S))) := I3.on F4 hρ I4 (fun z => by
          by_cases a : (chn kd K (prt kd pc (fun i => nvT s n (bg i)) L K r) 4 (onE stp S)).1.1 = 0
          · refine ⟨a, ?_⟩
            unfold xpt
            rw [if_pos a]
            split
            · exact Nat.le_succ _
            · exact Nat.le_refl _
          · rw [xpt, if_neg a] at z; exact absurd z a)
        by_cases a : S.1.1 = 0
        · obtain ⟨v1, v2⟩ := hv a
          rw [← v1, if_pos a, if_pos v2, if_neg c, if_neg c2, if_neg (by rw [hf]; decide)]
          exact I4'
        · rw [if_neg a]
          rw [dn a, ((Mr.ch (kd := kd) (K := K) 4) S).2 a, onE_d (by rw [xpt, if_neg a])] at I4'
          exact I4'
      · have hf : isF v = true := Decidable.byContradiction (fun y => c3 (by rw [hs3, if_neg y]))
        refine c_writeP P2 I2' slack (fun h3 F3 I3 => ⟨rfl, ?_⟩)
        have P3 := P2.fr F3.J
        have l6 : am_L 6 ρ h3 := P3.2.2.2.2.2.1
        have r3 : hR h3 (x + 17) 3 = ρ := P3.2.2.2.1
        rw [r3]
        have fin : ∀ h4 u, h4 = sI h3 ρ 14 (hI h3 ρ 14 ||| u) → u = (if v = 79 then (1 : Int32) <<< (hI h3 ρ 13 &&& 31) else if v = 80 then (1 : Int32) <<< (hI h3 ρ 13 &&& 31) else 0) → Q none h4 := by
          intro h4 u e4 hu
          have F4 : FC x ρ h3 h4 := by
            rw [e4]
            refine ⟨FrA.rf.fld (Or.inr (Or.inr rfl)), fun k hk => by rw [sI_f, if_neg hk], ?_⟩
            rw [sI_r, hI_rn _ _ (by omega)]
          have i17 : hI h4 (x + 17) = hI h3 (x + 17) := by rw [e4, sI_r, hI_rn _ _ (by omega)]
          refine q h4 (((F2.c hρ).tr F3).tr F4) ?_
          have P0' : ∀ T, P0 x N h3 T → P0 x N h4 T := fun T t => by unfold P0 at *; rw [i17]; exact t
          by_cases a : S.1.1 = 0
          · obtain ⟨v1, v2⟩ := hv a
            have s1 : (onE stp S).1.1 = 0 := by unfold onE stp; rw [if_pos a]
            have e0 : (wrt (-v) (onE stp S)).1.1 = 0 := by rw [wrt, if_pos s1]; exact s1
            rw [← v1, if_pos a, if_pos v2, if_neg c, if_neg c2, if_pos hf, tmE, if_pos e0]
            obtain ⟨i1, i2, i3, i4, i5⟩ := I3.2 e0
            refine ⟨P0' _ I3.1, fun _ => ⟨by rw [i17]; exact i1, ?_, ?_, ?_, i5⟩⟩
            · rw [e4, sI_r, hI_rn _ _ (by omega)]; exact i2
            · rw [e4, sI_f, if_pos rfl, i3, hu, i4]
            · rw [e4, sI_f, if_neg (by decide)]; exact i4
          · rw [if_neg a]
            rw [dn a, dw _ a] at I3
            exact ⟨P0' _ I3.1, fun z => absurd z a⟩
        refine ⟨P3.l5, by omega, l6, fun c4 h4 e4 => fin h4 _ e4 (by rw [if_pos c4]), fun c4 => ⟨fun c5 h4 e4 => fin h4 _ e4 (by rw [if_neg c4, if_pos c5]), fun c5 h4 e4 => fin h4 _ e4 (by rw [if_neg c4, if_neg c5])⟩⟩
    have w5 : ∀ v s0 : Int32, (S.1.1 = 0 → v = kd S.1.2 ∧ isSt v = true) → (s0 = if isF v then 1 else 0) → Ev w (am_Z w) mX5_part (d + 1 + 1) 50 [(0, .ref (x + 17)), (1, .int (nI (5 - (r + 1)))), (2, .int v), (3, .int s0)] [] h Q := by
      intro v s0 hv hs0
      refine bX5_part_50 ⟨fun _ => ⟨fun c => ⟨PP.l5, by rw [PP.t]; omega, by rw [PP.t]; exact PP.l8, ?_⟩, fun c => p81 v 0 s0 hv hs0 (fun _ z => absurd z c)⟩, fun c => absurd lt5 c⟩
      rw [PP.t]
      refine c_numberX PP.1 PP.2.1 (fun v10 hv10 => ⟨v10, rfl, p81 v v10 s0 hv hs0 (fun a _ => ?_)⟩)
      obtain ⟨i1, i2⟩ := I.1.2 a
      refine hv10 (bg S.1.2) ?_ (B S.1.2 i2).2
      rw [i1, gv_nI (by have := PP.2.2.1.2.1; omega) (by decide), PP.2.2.1.2.2.2.1 S.1.2 (by omega)]
      exact (B S.1.2 i2).1
    have w1 : ∀ v s0 : Int32, (S.1.1 = 0 → v = kd S.1.2) → (s0 = if isF v then 1 else 0) → Ev w (am_Z w) mX5_part (d + 1 + 1) 22 [(0, .ref (x + 17)), (1, .int (nI (5 - (r + 1)))), (2, .int v)] [.int s0] h Q := by
      intro v s0 hv hs0
      refine bX5_part_22 ⟨fun c => w5 v s0 (fun a => ⟨hv a, by rw [c]; decide⟩) hs0, fun c => ⟨fun c2 => w5 v s0 (fun a => ⟨hv a, by rw [c2]; decide⟩) hs0, fun c2 => ⟨fun c3 => w5 v s0 (fun a => ⟨hv a, by rw [c3]; decide⟩) hs0, fun c3 => ⟨fun c4 => ⟨PP.l5, c_wrong PP I.1 (fun h' F I' => ⟨rfl, q h' (F.c hρ) ?_⟩)⟩, fun c4 => w5 v s0 (fun a => ⟨hv a, ?_⟩) hs0⟩⟩⟩⟩
      · by_cases a : S.1.1 = 0
        · have hf : isF v = false := by
            cases e : isF v with
            | true => rw [e] at hs0; rw [hs0] at c4; exact absurd c4 (by decide)
            | false => rfl
          rw [if_pos a, if_neg (by rw [← hv a]; unfold isSt; simp [c, c2, c3, hf])]
          exact I.on F hρ I' (fun _ => ⟨a, by unfold wrg; rw [if_pos a]; exact Nat.le_refl _⟩)
        · rw [if_neg a]
          have : wrg pc 1 S.1 = S.1 := by rw [wrg, if_neg a]
          rw [this] at I'
          exact I.on F hρ I' (fun z => absurd z a)
      · have hf : isF v = true := Decidable.byContradiction (fun y => c4 (by rw [hs0, if_neg y]))
        unfold isSt; simp [hf]
    refine bX5_part_0 ⟨PP.l5, c_kind PP I.1 (fun v hv => ⟨v, rfl, fun c => w1 v 0 hv ?_, fun c => ⟨fun c2 => w1 v 0 hv ?_, fun c2 => w1 v 1 hv ?_⟩⟩)⟩
    · rw [if_neg (by unfold isF; simp [c])]
    · rw [if_neg (by unfold isF; simp [c2])]
    · rw [if_pos (sm c c2)]
end XPARSE5
