/-! The class's send, judged, best. -/
theorem sndL_s (r : rV) (a : Nat) (what : Int32) (k n : Nat) : sndL r a what (k + 1) n = if sndR r a 0 n then (if what = 0 then nI n else if nI n = 0 then -1 else 0) else if sndR r a 1 n then (if what = 0 then nI n else if nI n = 0 then -1 else 1) else sndL r a what k (n + 1) := rfl
section XSEND
variable {w : am_W} {d : Nat} {h h1 : am_H} {Q : Option Value → am_H → Prop} {x y : Nat} {A : rA} {H : rH}
set_option maxHeartbeats 4000000 in
theorem c_sendX {minute what : Int32} (R : RepX x y h A) (q : ∀ h', QF x h h' → RepX x y h' A → Q (some (.int (aSend (rvOf A.2.2.1) minute what))) h') : EvM w mX9_send (d + 6) [.ref x, .int minute, .int what] h Q := by
  obtain ⟨V, s1, G, Rv⟩ := R.st
  have X := R.2.1
  have hNn := V.1.1
  unfold aSend at q
  have wh : ¬ what < 0 → (what ≤ 1 ↔ (0 ≤ what ∧ what ≤ 1)) := fun h0 => ⟨fun h1 => ⟨Int32.not_lt.mp h0, h1⟩, fun h1 => h1.2⟩
  refine bX9_send_0 (c_isMinute ⟨_, rfl, fun c => ?_, fun c => ⟨fun c2 => ?_, fun c2 => ⟨fun c3 => ⟨X.1, X.2.2.2.2.2.1, ?_⟩, fun c3 => ?_⟩⟩⟩)
  · rw [if_neg (b01_z c)] at q; exact q h QF.rf R
  · rw [if_pos (b01_n c), if_neg (fun hh => absurd (Int32.lt_of_lt_of_le c2 hh.1) Int32.lt_irrefl)] at q; exact q h QF.rf R
  · have c := b01_n c
    rw [if_pos c, if_pos ((wh c2).mp c3)] at q
    obtain ⟨a, ha, rfl⟩ := nI_of (Int32.not_lt.mpr c.1)
    have ha' : a < 1440 := by
      have := c.2
      rw [show (1440 : Int32) = nI 1440 by decide, nI_ltI ha (by decide)] at this
      exact this
    rw [nI_clamp ha] at q
    rw [R.2.2.2.1.2.2.2.2.1]
    refine c_beginTrial (d := d + 3) R V.self (fun h6 l F6 R6 D6 Y6 e16 e17 => ⟨rfl, R6.2.1.1, ?_⟩)
    have D6 : DC (x + 44) 300 16 (vN (rvOf A.2.2.1)) (hR h (x + 20) 1) (hR h (x + 20) 1 + 1) (hR h (x + 20) 1 + 3) (canP (rvOf A.2.2.1) (-1)) l (vRoom (rvOf A.2.2.1)) (vTrip (rvOf A.2.2.1)) (vBoats (rvOf A.2.2.1)) (vLf (rvOf A.2.2.1)) h6 := D6
    have Y6 : YS (x + 44) (vN (rvOf A.2.2.1)) (canP (rvOf A.2.2.1) (-1)) l (vBoats (rvOf A.2.2.1)) h6 (canS (rvOf A.2.2.1)) 0 0 := Y6
    have pp := D6.2.2.2.2.2.2.2.2.2.2.2
    have hC := D6.2.2.2.2.2.2.2.2.2.1.2.2.2.2.2.2.1
    have O : OrdL (vAt (rvOf A.2.2.1)) (vN (rvOf A.2.2.1)) l := D6.2.2.2.2.2.2.2.1.2.2.2.2.2.2.2.1
    generalize rvOf A.2.2.1 = r at q D6 Y6 pp hC O
    refine c_run (d := d + 1) (unt := a) (lv := 1440) (pl := 0) D6 Y6 e17 (Nat.le_refl _) (fun hh => absurd hh (by omega)) (by omega) (fun h9 kr j F9 Y9 T9 => ⟨rfl, (R6.tri F9.g).2.1.1, ?_⟩)
    rw [dayX_go a (by omega)] at Y9
    have Y9 : YS (x + 44) (vN r) (canP r (-1)) l (vBoats r) h9 (dayK r (-1) a) kr j := Y9
    have D9 := D6.fr F9
    have hjn := Y9.1.2
    refine c_come (j := 0) (d := d + 3) D9 (fun h12 j2 F12 Y12 hz C12 => ⟨rfl, (R6.tri (F9.g.tr F12.g)).2.1.1, ?_⟩) (vN r - j) j h9 (by omega) (Nat.zero_le _) FrY.rf Y9 (fun z hz hn => Int32.lt_irrefl (Int32.lt_trans hn (T9 z hz)))
    have D12 := D9.fr F12
    have F12g := F9.g.tr F12.g
    -- by lists
    have sl : ∀ b g, (b = 0 ∨ b = 1) → sndR r a b g = wrL (canP r (-1)) (dayK r (-1) a) (vLf r) (nI a) ((l.take j2).filter (inB (canP r (-1)).2.2.1 (dayK r (-1) a).1 0)) ((l.take j2).filter (inB (canP r (-1)).2.2.1 (dayK r (-1) a).1 1)) (if b = 0 then g else 0) (if b = 0 then 0 else g) := by
      intro b g hb
      rw [take_filter C12, take_filter C12]
      exact snd_list hb ha' O pp hC
    have s0 : ∀ b, (b = 0 ∨ b = 1) → sndR r a b 0 = wr (canP r (-1)) (vN r) (vLf r) (nI a) (dayK r (-1) a) := by
      intro b hb
      rw [snd_list hb ha' O pp hC, wr_list O pp hC (by omega)]
      rcases hb with e | e <;> subst e <;> rfl
    obtain ⟨Z, hZ'⟩ : ∃ Z, Z = sndL r a what (40 + 1) 0 := ⟨_, rfl⟩
    have q : ∀ h', QF x h h' → RepX x y h' A → Q (some (.int Z)) h' := by rw [hZ']; exact q
    have fin : ∀ h' (v : Int32), FrG (x + 44) h6 h' → v = Z → Q (some (.int v)) h' := by
      intro h' v F' e
      rw [e]
      exact q h' ((F6.tr F').q (by omega)) (R6.tri F')
    refine c_wouldRingX (d := d + 3) D12 Y12 C12 (by omega) (fun h15 F15 => ⟨_, rfl, fun c4 => ?_, fun c4 => ?_⟩)
    · have F15y : FrY (x + 44) h12 h15 := F15.y (fun b hb => by omega)
      have w0 : wr (canP r (-1)) (vN r) (vLf r) (nI a) (dayK r (-1) a) = false := by
        cases hh : wr (canP r (-1)) (vN r) (vLf r) (nI a) (dayK r (-1) a) with
        | false => rfl
        | true => rw [hh] at c4; exact absurd c4 (by decide)
      -- more and more
      have loop : ∀ k g, g + k = 41 → 1 ≤ g → ∀ hc, FrY (x + 44) h12 hc → YS (x + 44) (vN r) (canP r (-1)) l (vBoats r) hc (dayK r (-1) a) kr j2 → sndL r a what k g = Z → Ev w (am_Z w) mX9_send (d + 5 + 1) 68 [(0, .ref x), (1, .int (nI a)), (2, .int what), (3, .int (nI g))] [] hc Q := by
        intro k
        induction k with
        | zero =>
          intro g hg h1 hc F Y E
          refine bX9_send_68 ⟨fun _ => fin hc (-1) (F12g.tr F.g) (by rw [← E]; rfl), fun c5 => absurd ?_ c5⟩
          rw [show (40 : Int32) = nI 40 by decide]
          exact nI_lt (by omega) (by omega)
        | succ k ih =>
          intro g hg h1 hc F Y E
          have g0 : ¬ nI g = 0 := nI_ne0 (by omega) (by omega)
          rw [sndL_s] at E
          refine bX9_send_68 ⟨fun c5 => ?_, fun _ => ?_⟩
          · rw [show (40 : Int32) = nI 40 by decide, nI_ltI (by decide) (by omega)] at c5
            omega
          refine bX9_send_77 ⟨fun c5 => absurd c5 (by decide), fun _ => ⟨(R6.tri (F12g.tr F.g)).2.1.1, c_wouldRingWith (d := d + 2) (b := 0) (D12.fr F) Y (Or.inl rfl) (by omega) (by omega) (fun h2 F2 Y2 => ⟨_, rfl, fun c5 => ?_, fun c5 => ?_⟩)⟩⟩
          · rw [← sl 0 g (Or.inl rfl)] at c5
            have e0 : sndR r a 0 g = false := by
              cases hh : sndR r a 0 g with
              | false => rfl
              | true => rw [hh] at c5; exact absurd c5 (by decide)
            rw [e0, if_neg (by decide)] at E
            refine bX9_send_77 ⟨fun c6 => absurd c6 (by decide), fun _ => ⟨(R6.tri (F12g.tr (F.tr F2).g)).2.1.1, c_wouldRingWith (d := d + 2) (b := 0 + 1) (D12.fr (F.tr F2)) Y2 (Or.inr (by decide)) (by omega) (by omega) (fun h3 F3 Y3 => ⟨_, rfl, fun c6 => ?_, fun c6 => ?_⟩)⟩⟩
            · rw [show (0 : Int32) + 1 = 1 by decide, ← sl 1 g (Or.inr rfl)] at c6
              have e1 : sndR r a 1 g = false := by
                cases hh : sndR r a 1 g with
                | false => rfl
                | true => rw [hh] at c6; exact absurd c6 (by decide)
              rw [e1, if_neg (by decide)] at E
              refine bX9_send_77 ⟨fun _ => ?_, fun c7 => absurd (by decide) c7⟩
              rw [nI_1]
              exact ih (g + 1) (by omega) (by omega) h3 ((F.tr F2).tr F3) Y3 E
            · rw [show (0 : Int32) + 1 = 1 by decide, ← sl 1 g (Or.inr rfl)] at c6
              have e1 : sndR r a 1 g = true := by
                cases hh : sndR r a 1 g with
                | true => rfl
                | false => rw [hh] at c6; exact absurd rfl c6
              rw [e1, if_pos rfl, if_neg g0] at E
              refine ⟨fun c7 => fin h3 _ (F12g.tr ((F.tr F2).tr F3).g) ?_, fun c7 => fin h3 _ (F12g.tr ((F.tr F2).tr F3).g) ?_⟩
              · rw [if_pos c7] at E; exact E
              · rw [if_neg c7] at E; exact E
          · rw [← sl 0 g (Or.inl rfl)] at c5
            have e0 : sndR r a 0 g = true := by
              cases hh : sndR r a 0 g with
              | true => rfl
              | false => rw [hh] at c5; exact absurd rfl c5
            rw [e0, if_pos rfl, if_neg g0] at E
            refine ⟨fun c7 => fin h2 _ (F12g.tr (F.tr F2).g) ?_, fun c7 => fin h2 _ (F12g.tr (F.tr F2).g) ?_⟩
            · rw [if_pos c7] at E; exact E
            · rw [if_neg c7] at E; exact E
      refine loop 40 1 (by decide) (by decide) h15 F15y (Y12.fr2 F15) ?_
      rw [hZ', sndL_s r a what 40 0, s0 0 (Or.inl rfl), s0 1 (Or.inr rfl), w0, if_neg (by decide), if_neg (by decide)]
    · have w0 : wr (canP r (-1)) (vN r) (vLf r) (nI a) (dayK r (-1) a) = true := by
        cases hh : wr (canP r (-1)) (vN r) (vLf r) (nI a) (dayK r (-1) a) with
        | true => rfl
        | false => rw [hh] at c4; exact absurd rfl c4
      have E : Z = if what = 0 then nI 0 else if nI 0 = 0 then -1 else 0 := by
        rw [hZ', sndL_s r a what 40 0, s0 0 (Or.inl rfl), w0, if_pos rfl]
      have F15g : FrG (x + 44) h6 h15 := F12g.tr (F15.y (fun b hb => by omega)).g
      refine ⟨fun c5 => fin h15 _ F15g ?_, fun c5 => fin h15 _ F15g ?_⟩
      · rw [E, if_pos c5]; rfl
      · rw [E, if_neg c5, if_pos nI_0]
  · rw [if_pos (b01_n c), if_neg (fun hh => c3 hh.2)] at q; exact q h QF.rf R
end XSEND
