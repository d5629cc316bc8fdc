/-! The class's parser: lines told once, on the heap. -/
theorem num_d {kd pc nv : Nat → Int32} {lo hi : Int32} {S : P2} (a : ¬ S.1 = 0) : num kd pc nv lo hi S = S := by rw [num, if_neg a]
theorem tSet_33 {v v2 u : Int32} {t : rT} : tSet 3 v v2 (tSet 3 v u t) = tSet 3 v v2 t := rfl
theorem set3 {k : Nat} {v u X : Int32} : (if k = 6 ∧ (3 : Nat) = 0 then v else if k = 7 ∧ (3 : Nat) = 1 then v else if k = 8 ∧ (3 : Nat) = 2 then v else if k = 9 ∧ (3 : Nat) = 3 then v else if k = 10 ∧ (3 : Nat) = 3 then u else if k = 11 ∧ (3 : Nat) = 4 then v else X) = if k = 9 then v else if k = 10 then u else X := by simp
section XLINE2
variable {w : am_W} {d : Nat} {h : am_H} {Q : Option Value → am_H → Prop} {x ρ n N : Nat} {s kd pc : Nat → Int32} {bg : Nat → Nat}
theorem DL.told {D : LD} {b : Nat} (A : DL x ρ n s bg h D) (hρ : x + 69 ≤ ρ) (hb : b < 32) : DL x ρ n s bg (sI h (x + 17) 7 (nI b)) (b, D.2) := by
  obtain ⟨a1, a2, a3, a4, ⟨a5, a6, a7⟩, a8⟩ := A
  have F : FrA (fun a => a = x + 17) h (sI h (x + 17) 7 (nI b)) := FrA.rf.fld rfl
  refine ⟨by rw [sI_f, if_pos rfl], hb, a3, a4.sm (fun a g1 g2 => F.same (show ¬ a = x + 17 by omega)), ⟨by rw [sI_f, if_neg (by decide)]; exact a5, ?_, ?_⟩, a8⟩
  · rw [F.I (show ¬ x + 19 = x + 17 by omega)]; exact a6
  · rw [F.I (show ¬ ρ = x + 17 by omega)]; exact a7
theorem P0.row {h1 : am_H} {S : P2} (I : P0 x N h S) (e : ∀ k, k = 5 ∨ k = 6 → hI h1 (x + 17) k = hI h (x + 17) k) : P0 x N h1 S := by
  unfold P0
  rw [e 5 (Or.inl rfl), e 6 (Or.inr rfl)]
  exact I
/-- one number, set in the river -/
theorem c_oneNum {S : P2} {D : LD} {j k : Nat} {lo hi : Int32} (P : PK x ρ s n N kd pc h) (B : BgO N pc bg) (I : P0 x N h S) (A : DL x ρ n s bg h D) (hlo : ¬ lo < 0) (hk : (k = 6 ∧ j = 0) ∨ (k = 7 ∧ j = 1) ∨ (k = 8 ∧ j = 2) ∨ (k = 11 ∧ j = 4))
    (q : ∀ h', FrJ (ZP x ρ) (x + 18) h h' → P0 x N h' (num kd pc (fun i => nvT s n (bg i)) lo hi S) → ((num kd pc (fun i => nvT s n (bg i)) lo hi S).1 = 0 → DL x ρ n s bg h' (D.1, D.2.1, tSet j (nvT s n (bg S.2)) (nvT s n (bg (S.2 + 2))) D.2.2.1, D.2.2.2)) → Q none h') :
    EvM w mX5_number (d + 2) [.ref (x + 17), .int lo, .int hi] h (fun r8 h7 => ∃ v9 : Int32, r8 = some (.int v9) ∧ ((am_L 6 ρ h7) ∧ (∀ h11 : am_H, h11 = sI h7 ρ k v9 → (Q none h11)))) := by
  have hρ := P.hr
  refine c_numberP P B I (fun v h7 F7 I7 V7 => ⟨v, rfl, (P.fr F7.J).2.2.2.2.2.1, fun h11 e11 => q h11 ?_ ?_ (fun z => ?_)⟩)
  · rw [e11]; exact (F7.J (ρ := ρ)).fld (by unfold ZP; omega)
  · refine I7.row (fun k _ => ?_)
    rw [e11, sI_r, hI_rn _ _ (by omega)]
  · obtain ⟨_, ev, v1, v2⟩ := V7 z
    have A7 := A.fn hρ F7.fn
    have hv : ¬ v < 0 := fun y => v1 (Int32.lt_of_lt_of_le y (Int32.not_lt.mp hlo))
    rw [ev] at e11 hv
    have F11 : FrA (fun a => a = ρ) h7 h11 := by rw [e11]; exact FrA.rf.fld rfl
    refine A7.set (v2 := nvT s n (bg (S.2 + 2))) hρ F11 rfl hv (fun e3 => by omega) (fun i => ?_) rfl
    rw [e11, sI_f]
    by_cases c : i = k
    · rw [if_pos c]
      rcases hk with ⟨k1, k2⟩ | ⟨k1, k2⟩ | ⟨k1, k2⟩ | ⟨k1, k2⟩
      · rw [if_pos ⟨c.trans k1, k2⟩]
      · rw [if_neg (by omega), if_pos ⟨c.trans k1, k2⟩]
      · rw [if_neg (by omega), if_neg (by omega), if_pos ⟨c.trans k1, k2⟩]
      · rw [if_neg (by omega), if_neg (by omega), if_neg (by omega), if_neg (by omega), if_neg (by omega), if_pos ⟨c.trans k1, k2⟩]
    · rw [if_neg c, if_neg (by omega), if_neg (by omega), if_neg (by omega), if_neg (by omega), if_neg (by omega), if_neg (by omega)]
set_option maxHeartbeats 1000000 in
theorem c_toldOnce {S : P2} {D : LD} {j : Nat} (P : PK x ρ s n N kd pc h) (B : BgO N pc bg) (I : P0 x N h S) (a : S.1 = 0) (hj : j < 5) (hk : kd S.2 = nI (64 + j)) (A : DL x ρ n s bg h D) (hof : tOf D.2.2.1 ≤ 9)
    (q : ∀ h', FrJ (ZP x ρ) (x + 18) h h' → P0 x N h' (tolP kd pc (fun i => nvT s n (bg i)) j D.1 S) → ((tolP kd pc (fun i => nvT s n (bg i)) j D.1 S).1 = 0 → DL x ρ n s bg h' (tolD (fun i => nvT s n (bg i)) j S.2 D)) → Q none h') : EvM w mX5_lineToldOnce (d + 3) [.ref (x + 17), .int (nI (64 + j))] h Q := by
  have hρ := P.hr
  obtain ⟨t1, t2, t3⟩ := tb_bit A.2.1 hj
  have b7 : hI h (x + 17) 7 = nI D.1 := A.1
  have es : stp S = (0, S.2 + 1) := by rw [stp, if_pos a]
  refine bX5_lineToldOnce_0 ⟨P.l5, fun c h2 e2 => ?_, fun c => ?_⟩
  · rw [b7, t1] at c
    rw [b7, t2] at e2
    have A2 : DL x ρ n s bg h2 (D.1 ||| 2 ^ j, D.2) := by rw [e2]; exact A.told hρ t3
    have F2 : FrJ (ZP x ρ) (x + 18) h h2 := by rw [e2]; exact FrJ.rf.fld (Or.inl rfl)
    have P2 := P.fr F2
    have I2 : P0 x N h2 S := I.row (fun k hk => by rw [e2, sI_f, if_neg (by omega)])
    have q0 : ∀ h', FrJ (ZP x ρ) (x + 18) h h' → P0 x N h' (if j = 3 then sidP kd pc (fun i => nvT s n (bg i)) S else num kd pc (fun i => nvT s n (bg i)) (loJ j) (hiJ j) (stp S)) → ((if j = 3 then sidP kd pc (fun i => nvT s n (bg i)) S else num kd pc (fun i => nvT s n (bg i)) (loJ j) (hiJ j) (stp S)).1 = 0 → DL x ρ n s bg h' (tolD (fun i => nvT s n (bg i)) j S.2 D)) → Q none h' := by
      intro h' F' I' A'
      have e : tolP kd pc (fun i => nvT s n (bg i)) j D.1 S = (if j = 3 then sidP kd pc (fun i => nvT s n (bg i)) S else num kd pc (fun i => nvT s n (bg i)) (loJ j) (hiJ j) (stp S)) := by rw [tolP, if_neg (by rw [c]; decide)]
      rw [e] at q
      exact q h' F' I' A'
    refine c_step P2 I2 (fun _ => by rw [hk]; intro z; rw [show (0 : Int32) = nI 0 by decide, nI_eq (by omega) (by decide)] at z; omega) (fun h3 F3 I3 => ⟨rfl, ?_⟩)
    have F3' : FrJ (ZP x ρ) (x + 18) h h3 := F2.tr F3.J
    have P3 := P.fr F3'
    have A3 := A2.fn hρ F3.fn
    have r3 : hR h3 (x + 17) 3 = ρ := P3.2.2.2.1
    have lit : ∀ k, k < 5 → (nI (64 + j) = nI (64 + k) ↔ j = k) := fun k hk => by rw [nI_eq (by omega) (by omega)]; omega
    have l0 := lit 0 (by decide)
    have l1 := lit 1 (by decide)
    have l2 := lit 2 (by decide)
    have l3 := lit 3 (by decide)
    change (nI (64 + j) = 64 ↔ j = 0) at l0
    change (nI (64 + j) = 65 ↔ j = 1) at l1
    change (nI (64 + j) = 66 ↔ j = 2) at l2
    change (nI (64 + j) = 67 ↔ j = 3) at l3
    rw [r3]
    have one : ∀ (k : Nat) (lo hi : Int32), ¬ lo < 0 → lo = loJ j → hi = hiJ j → ((k = 6 ∧ j = 0) ∨ (k = 7 ∧ j = 1) ∨ (k = 8 ∧ j = 2) ∨ (k = 11 ∧ j = 4)) →
        EvM w mX5_number (d + 2) [.ref (x + 17), .int lo, .int hi] h3 (fun r8 h7 => ∃ v9 : Int32, r8 = some (.int v9) ∧ ((am_L 6 ρ h7) ∧ (∀ h11 : am_H, h11 = sI h7 ρ k v9 → (Q none h11)))) := by
      intro k lo hi h0 elo ehi hk
      refine c_oneNum P3 B I3 A3 h0 hk (fun h' F' I' A' => q0 h' (F3'.tr F') ?_ (fun z => ?_))
      · rw [if_neg (by omega), ← elo, ← ehi]; exact I'
      · rw [if_neg (by omega), ← elo, ← ehi] at z
        have := A' z
        rw [es] at this
        exact this
    refine ⟨fun c0 => ⟨P3.l5, by omega, one 6 1 40 (by decide) ?_ ?_ (by have := l0.mp c0; omega)⟩, fun c0 => ⟨fun c1 => ⟨P3.l5, by omega, one 7 0 99 (by decide) ?_ ?_ (by have := l1.mp c1; omega)⟩, fun c1 => ⟨fun c2 => ⟨P3.l5, by omega, one 8 1 2 (by decide) ?_ ?_ (by have := l2.mp c2; omega)⟩, fun c2 => ⟨fun c3 => ⟨P3.l5, by omega, ?_⟩, fun c3 => ⟨P3.l5, by omega, one 11 0 1000 (by decide) ?_ ?_ ?_⟩⟩⟩⟩⟩
    · rw [l0.mp c0]; rfl
    · rw [l0.mp c0]; rfl
    · rw [l1.mp c1]; rfl
    · rw [l1.mp c1]; rfl
    · rw [l2.mp c2]; rfl
    · rw [l2.mp c2]; rfl
    · have j3 := l3.mp c3
      refine c_numberP P3 B I3 (fun v h4 F4 I4 V4 => ⟨v, rfl, (P3.fr F4.J).2.2.2.2.2.1, fun h5 e5 => ?_⟩)
      have F4' : FrJ (ZP x ρ) (x + 18) h h4 := F3'.tr F4.J
      have F5 : FrJ (ZP x ρ) (x + 18) h h5 := by rw [e5]; exact F4'.fld (by unfold ZP; omega)
      have P5 := P.fr F5
      have I5 : P0 x N h5 (num kd pc (fun i => nvT s n (bg i)) 1 8 (stp S)) := I4.row (fun k _ => by rw [e5, sI_r, hI_rn _ _ (by omega)])
      refine ⟨P5.l5, c_expect P5 I5 (by decide) (fun h6 F6 I6 => ⟨rfl, (P5.fr F6.J).l5, ?_⟩)⟩
      have F6' : FrJ (ZP x ρ) (x + 18) h h6 := F5.tr F6.J
      have P6 := P.fr F6'
      have r6 : hR h6 (x + 17) 3 = ρ := P6.2.2.2.1
      have e9 : hI h6 ρ 9 = v := by rw [F6.1.I (show ¬ ρ = x + 17 by omega), e5, sI_f, if_pos rfl]
      rw [r6, e9]
      refine ⟨by omega, P6.2.2.2.2.2.1, c_numberP P6 B I6 (fun v2 h7 F7 I7 V7 => ⟨v2, rfl, (P6.fr F7.J).2.2.2.2.2.1, fun h8 e8 => ?_⟩)⟩
      have F8 : FrJ (ZP x ρ) (x + 18) h h8 := by rw [e8]; exact (F6'.tr F7.J).fld (by unfold ZP; omega)
      have sde : num kd pc (fun i => nvT s n (bg i)) (v + 1) 9 (xpt kd pc 71 (num kd pc (fun i => nvT s n (bg i)) 1 8 (stp S))) = sidP kd pc (fun i => nvT s n (bg i)) S := by
        unfold sidP
        by_cases z : (xpt kd pc 71 (num kd pc (fun i => nvT s n (bg i)) 1 8 (stp S))).1 = 0
        · obtain ⟨z1, _, _⟩ := xpt_al B (fun z => (I4.2 z).2) z
          obtain ⟨_, ev, _⟩ := V4 z1
          rw [ev, es]
        · rw [num_d z, num_d z]
      refine q0 h8 F8 ?_ (fun z => ?_)
      · rw [if_pos j3, ← sde]
        exact I7.row (fun k _ => by rw [e8, sI_r, hI_rn _ _ (by omega)])
      · rw [if_pos j3, ← sde] at z
        obtain ⟨z2, ev2, w1, w2⟩ := V7 z
        obtain ⟨z1, _, ex⟩ := xpt_al B (fun z => (I4.2 z).2) z2
        obtain ⟨z0, ev, u1, u2⟩ := V4 z1
        obtain ⟨_, _, _, _, en⟩ := num_al B (fun z => (I3.2 z).2) z1
        rw [es] at ev en
        have en : _ = ((0 : Int32), S.2 + 2) := en
        rw [es, en] at ex
        have ex : _ = ((0 : Int32), S.2 + 3) := ex
        rw [es, en, ex] at ev2
        have ev2 : v2 = nvT s n (bg (S.2 + 3)) := ev2
        have ev : v = nvT s n (bg (S.2 + 1)) := ev
        have hv : ¬ v < 0 := fun y => u1 (Int32.lt_trans y (by decide))
        have hv2 : ¬ v2 < 0 := fun y => w1 (by
          obtain ⟨k, hk, rfl⟩ := nI_of hv
          rw [nI_1]
          refine Int32.lt_of_lt_of_le y ?_
          exact Int32.not_lt.mp (nI_pos (by rw [show (8 : Int32) = nI 8 by decide, nI_leI hk (by decide)] at u2; omega)))
        have A4 := A3.fn hρ F4.fn
        have f10 : hI h4 ρ 10 = nI (tOf D.2.2.1) := A4.2.2.2.1.2.2.2.2.2.2.1.2.2.2.2.1
        have A5 : DL x ρ n s bg h5 (D.1 ||| 2 ^ j, D.2.1, tSet 3 v (nI (tOf D.2.2.1)) D.2.2.1, D.2.2.2) := by
          have ho : ¬ nI (tOf D.2.2.1) < 0 := nI_pos (by omega)
          refine A4.set (j := 3) (v := v) (v2 := nI (tOf D.2.2.1)) hρ (by rw [e5]; exact FrA.rf.fld rfl) rfl hv (fun _ => ho) (fun k => ?_) rfl
          rw [set3, e5, sI_f]
          by_cases k9 : k = 9
          · rw [if_pos k9, if_pos k9]
          · rw [if_neg k9, if_neg k9]
            by_cases k10 : k = 10
            · rw [if_pos k10, k10, f10]
            · rw [if_neg k10]
        have A7 := (A5.fn hρ F6.fn).fn hρ F7.fn
        have e9' : hI h7 ρ 9 = v := by rw [F7.1.I (show ¬ ρ = x + 17 by omega)]; exact e9
        have A8 : DL x ρ n s bg h8 (D.1 ||| 2 ^ j, D.2.1, tSet 3 v v2 (tSet 3 v (nI (tOf D.2.2.1)) D.2.2.1), D.2.2.2) := by
          refine A7.set (j := 3) (v := v) (v2 := v2) hρ (by rw [e8]; exact FrA.rf.fld rfl) rfl hv (fun _ => hv2) (fun k => ?_) rfl
          rw [set3, e8, sI_f]
          by_cases k9 : k = 9
          · rw [if_neg (by omega), if_pos k9, k9, e9']
          · rw [if_neg k9]
        rw [tSet_33, ev, ev2] at A8
        rw [tolD, j3]
        rw [j3] at A8
        exact A8
    · have : j = 4 := by have y0 : ¬ j = 0 := fun y => c0 (l0.mpr y); have y1 : ¬ j = 1 := fun y => c1 (l1.mpr y); have y2 : ¬ j = 2 := fun y => c2 (l2.mpr y); have y3 : ¬ j = 3 := fun y => c3 (l3.mpr y); omega
      rw [this]; rfl
    · have : j = 4 := by have y0 : ¬ j = 0 := fun y => c0 (l0.mpr y); have y1 : ¬ j = 1 := fun y => c1 (l1.mpr y); have y2 : ¬ j = 2 := fun y => c2 (l2.mpr y); have y3 : ¬ j = 3 := fun y => c3 (l3.mpr y); omega
      rw [this]; rfl
    · have : j = 4 := by have y0 : ¬ j = 0 := fun y => c0 (l0.mpr y); have y1 : ¬ j = 1 := fun y => c1 (l1.mpr y); have y2 : ¬ j = 2 := fun y => c2 (l2.mpr y); have y3 : ¬ j = 3 := fun y => c3 (l3.mpr y); omega
      omega
  · rw [b7, t1] at c
    refine c_wrong P I (fun h' F' I' => ⟨rfl, ?_⟩)
    have e : tolP kd pc (fun i => nvT s n (bg i)) j D.1 S = wrg pc 3 S := by rw [tolP, if_pos (by cases y : D.1.testBit j with | true => rfl | false => exact absurd y c)]
    rw [e] at q
    refine q h' F'.J I' (fun z => ?_)
    rw [wrg, if_pos a] at z
    exact absurd z (flt_no B 3 (by decide) (by decide) (I.2 a).2)
end XLINE2
