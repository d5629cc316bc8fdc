/-! What is asked of a day of the class. -/
section XASK
variable {w : am_W} {d : Nat} {h h1 : am_H} {Q : Option Value → am_H → Prop} {D L Lc n ρ c s room kr j : Nat} {P : rP} {l X0 X1 : List Nat} {trip boats : Int32} {lf : (Nat → Int32) → Int32} {S : rS}
theorem c_waitOfX {p : Nat} (A : DC D L Lc n ρ c s P l room trip boats lf h) (Y : YS D n P l boats h S kr j) (hp : p < n) (q : Q (some (.int (wof S.1 P.2.2.2.1 p))) h) : EvM w mX3_waitOf (d + 1) [.ref D, .int (nI p)] h Q := by
  obtain ⟨a1, a2, a3, a4, a5, ⟨r12, r13, r14, z1, z2, z3⟩, ⟨o1, o2, o3, o4⟩, C, _⟩ := id A
  have hL := C.2.2.1
  have hL2 := a2.2.2
  unfold wof at q
  refine bX3_waitOf_0 ⟨a1, c_get (a1.s 5 rfl) (by omega) ⟨_, rfl, a1, by rw [r13]; exact z2, by rw [r13]; exact C.1, ?_⟩⟩
  rw [r13]
  refine c_get (C.1.s 0 rfl) (by rw [C.2.1.1]; omega) ⟨_, rfl, ?_⟩
  rw [a4.2.2.2.1, C.2.1.1, gv_nI (by omega) (by omega), gv_nI (by omega) (by omega), Y.2.2.2.1.1 p hp, C.2.2.2.2.1 p hp]
  exact q
theorem c_longestWait (A : DC D L Lc n ρ c s P l room trip boats lf h) (Y : YS D n P l boats h S kr j) (q : Q (some (.int (mxS S.1 P.2.2.2.1 n))) h) : EvM w mX3_longestWait (d + 2) [.ref D] h Q := by
  obtain ⟨a1, a2, a3, a4, a5, ⟨r12, r13, r14, z1, z2, z3⟩, ⟨o1, o2, o3, o4⟩, C, _⟩ := id A
  have hL := C.2.2.1
  have loop : ∀ k p, p + k = n → Ev w (am_Z w) mX3_longestWait (d + 1 + 1) 4 [(0, .ref D), (1, .int (mxS S.1 P.2.2.2.1 p)), (2, .int (nI p))] [] h Q := by
    intro k
    induction k with
    | zero =>
      intro p hp
      have hp : p = n := by omega
      subst hp
      exact bX3_longestWait_4 ⟨a1, by rw [r13]; exact z2, by rw [r13]; exact C.1, fun _ => q, fun c1 => absurd (by rw [r13, C.2.2.2.1]; exact Int32.le_refl _) c1⟩
    | succ k ih =>
      intro p hp
      have ih := ih (p + 1) (by omega)
      rw [mxS] at ih
      refine bX3_longestWait_4 ⟨a1, by rw [r13]; exact z2, by rw [r13]; exact C.1, fun c1 => absurd c1 (by rw [r13, C.2.2.2.1, nI_leI (by omega) (by omega)]; omega), fun _ => c_waitOfX A Y (by omega) ⟨_, rfl, ?_⟩⟩
      rw [nI_1]
      exact ih
  exact bX3_longestWait_0 (loop n 0 (by omega))
theorem c_costOf {co : Nat → Int32} {p : Nat} (A : DC D L Lc n ρ c s P l room trip boats lf h) (Y : YS D n P l boats h S kr j) (hc : hN h (ρ + 7) = 16 ∧ n ≤ 16 ∧ eqR n (hI h (ρ + 7)) co) (hp : p < n) (q : Q (some (.int (co p * wof S.1 P.2.2.2.1 p))) h) : EvM w mX3_costOf (d + 2) [.ref D, .int (nI p)] h Q := by
  obtain ⟨r1, r2, r3, r4⟩ := A.rho
  refine bX3_costOf_0 ⟨A.1, by rw [r1]; exact r2, by rw [r1]; exact r3, ?_⟩
  rw [r1]
  refine c_get (r3.s 1 rfl) (by omega) ⟨_, rfl, A.1, c_waitOfX A Y hp ⟨_, rfl, ?_⟩⟩
  rw [hc.1, gv_nI (by omega) (by omega), hc.2.2 p hp]
  exact q
theorem c_costWithout {co : Nat → Int32} {but : Int32} (A : DC D L Lc n ρ c s P l room trip boats lf h) (Y : YS D n P l boats h S kr j) (hc : hN h (ρ + 7) = 16 ∧ n ≤ 16 ∧ eqR n (hI h (ρ + 7)) co) (q : Q (some (.int (cstS co S.1 P.2.2.2.1 but n))) h) : EvM w mX3_costWithout (d + 3) [.ref D, .int but] h Q := by
  obtain ⟨a1, a2, a3, a4, a5, ⟨r12, r13, r14, z1, z2, z3⟩, ⟨o1, o2, o3, o4⟩, C, _⟩ := id A
  have loop : ∀ k p, p + k = n → Ev w (am_Z w) mX3_costWithout (d + 2 + 1) 4 [(0, .ref D), (1, .int but), (2, .int (cstS co S.1 P.2.2.2.1 but p)), (3, .int (nI p))] [] h Q := by
    intro k
    induction k with
    | zero =>
      intro p hp
      have hp : p = n := by omega
      subst hp
      exact bX3_costWithout_4 ⟨a1, by rw [r13]; exact z2, by rw [r13]; exact C.1, fun _ => q, fun c1 => absurd (by rw [r13, C.2.2.2.1]; exact Int32.le_refl _) c1⟩
    | succ k ih =>
      intro p hp
      have ih := ih (p + 1) (by omega)
      rw [cstS] at ih
      refine bX3_costWithout_4 ⟨a1, by rw [r13]; exact z2, by rw [r13]; exact C.1, fun c1 => absurd c1 (by rw [r13, C.2.2.2.1, nI_leI (by omega) (by omega)]; omega), fun _ => ⟨fun c1 => ?_, fun c1 => c_costOf A Y hc (by omega) ⟨_, rfl, ?_⟩⟩⟩
      · rw [if_pos c1] at ih
        rw [nI_1]
        exact ih
      · rw [if_neg c1] at ih
        rw [nI_1]
        exact ih
  exact bX3_costWithout_0 (loop n 0 (by omega))
theorem c_isWaitingBehind {p a : Nat} (A : DC D L Lc n ρ c s P l room trip boats lf h) (Y : YS D n P l boats h S kr j) (hp : p < n) (ha : a < 1440) (q : Q (some (.int (if wbh S.1 P.2.2.2.1 (nI a) p then 1 else 0))) h) : EvM w mX3_isWaitingBehind (d + 1) [.ref D, .int (nI p), .int (nI a)] h Q := by
  obtain ⟨a1, a2, a3, a4, a5, ⟨r12, r13, r14, z1, z2, z3⟩, ⟨o1, o2, o3, o4⟩, C, _⟩ := id A
  have hL := C.2.2.1
  have hL2 := a2.2.2
  refine bX3_isWaitingBehind_0 ⟨a1, by rw [r13]; exact z2, by rw [r13]; exact C.1, ?_⟩
  rw [r13]
  refine c_get (C.1.s 0 rfl) (by rw [C.2.1.1]; omega) ⟨_, rfl, ?_⟩
  rw [C.2.1.1, gv_nI (by omega) (by omega), C.2.2.2.2.1 p hp]
  unfold wbh at q
  refine ⟨fun c1 => ?_, fun c1 => ⟨a1, c_get (a1.s 5 rfl) (by omega) ⟨_, rfl, ?_⟩⟩⟩
  · simpa [c1] using q
  rw [a4.2.2.2.1, gv_nI (by omega) (by omega), Y.2.2.2.1.1 p hp]
  by_cases g0 : 0 ≤ S.1 p
  · rw [if_pos g0]
    have g1 : ¬ S.1 p < 0 := Int32.not_lt.mpr g0
    refine ⟨fun c2 => ?_, fun c2 => ?_⟩
    · simpa [c1, g1, c2] using q
    · simpa [c1, g1, c2] using q
  · rw [if_neg g0]
    have g1 : S.1 p < 0 := Int32.not_le.mp g0
    refine ⟨fun c2 => ?_, fun c2 => ?_⟩
    · rw [show (1440 : Int32) = nI 1440 by decide, nI_leI (by decide) (by omega)] at c2
      omega
    · simpa [c1, g1] using q
theorem bool_nar (b : Bool) : narrow .boolean (.int (if b then 1 else 0)) = .int (if b then 1 else 0) := by cases b <;> rfl
/-- guests are only thought of -/
theorem c_wouldRingWith {a g : Nat} {b : Int32} (A : DC D L Lc n ρ c s P l room trip boats lf h) (Y : YS D n P l boats h S kr j) (hb : b = 0 ∨ b = 1) (hg : g ≤ 40) (ha : a ≤ 1440)
    (q : ∀ h', FrY D h h' → YS D n P l boats h' S kr j → Q (some (.int (if wrL P S lf (nI a) ((l.take j).filter (inB P.2.2.1 S.1 0)) ((l.take j).filter (inB P.2.2.1 S.1 1)) (if b = 0 then g else 0) (if b = 0 then 0 else g) then 1 else 0))) h') : EvM w mX3_wouldRingWith (d + 3) [.ref D, .int b, .int (nI g), .int (nI a)] h Q := by
  obtain ⟨a1, a2, a3, a4, a5, a6⟩ := id A
  obtain ⟨⟨y1, y2⟩, ⟨y3, y4, y5, y6, y7, y8⟩, ⟨y9, y10, y11⟩, ⟨y12, y13⟩, y14, b0, b1⟩ := id Y
  have O : OrdL P.2.2.2.1 n l := A.2.2.2.2.2.2.2.1.2.2.2.2.2.2.2.1
  refine bX3_wouldRingWith_0 ⟨a1, c_bankOf A ⟨_, rfl, ?_⟩⟩
  -- guests there and away again
  have key : ∀ B, (B = D + 4 ∨ B = D + 6) → am_L 0 B h → (∀ h6, FrA (fun x => x = B) h h6 → hI h6 B = va_up (hI h B) 5 (nI g) → Bk (D + 4) h6 ((l.take j).filter (inB P.2.2.1 S.1 0)) j P.2.2.2.2.2.2 P.2.2.2.2.1 (nI (if b = 0 then g else 0)) ∧ Bk (D + 6) h6 ((l.take j).filter (inB P.2.2.1 S.1 1)) j P.2.2.2.2.2.2 P.2.2.2.2.1 (nI (if b = 0 then 0 else g))) → hI h B 5 = 0 →
      ((am_L 0 B h) ∧ (∀ h6 : am_H, h6 = sI h B 5 (nI g) → ((am_L 3 D h6) ∧ (EvM w mX3_wouldRing (d + 2) [.ref D, .int (nI a)] h6 (fun r9 h8 => ∃ v10 : Int32, r9 = some (.int v10) ∧ ((am_L 0 B h8) ∧ (∀ h12 : am_H, h12 = sI h8 B 5 0 → (narrow .boolean (.int v10) = .int v10 ∧ (Q (some (.int v10)) h12))))))))) := by
    intro B hB LB kb z5
    refine ⟨LB, fun h6 e6 => ?_⟩
    have F6 : FrA (fun x => x = B) h h6 := by rw [e6]; exact FrA.rf.fld rfl
    have i6 : hI h6 B = va_up (hI h B) 5 (nI g) := by rw [e6, sI_r, hI_rs]
    obtain ⟨k0, k1⟩ := kb h6 F6 i6
    have F6y : FrY D h h6 := F6.y (fun x hx => by omega)
    refine ⟨F6.L a1, c_wouldRingG (A.fr F6y) k0 k1 (by omega) ⟨by split <;> omega, by split <;> omega⟩ ha (fun x hx => filt_lt O hx) (fun x hx => filt_lt O hx) (by rw [F6.I (by omega)]; exact y9) (by rw [F6.I (by omega)]; exact y10) y11 (fun h8 F8 => ⟨_, rfl, F8.L (F6.L LB), fun h12 e12 => ⟨bool_nar _, ?_⟩⟩)⟩
    have x12 : ∀ x, x ≠ D + 2 → x ≠ D + 3 → hI h12 x = hI h x := by
      intro x h1 h2
      by_cases e : x = B
      · rw [e, e12, sI_r, hI_rs, F8.I (by omega), i6]
        funext k
        rw [va_ui]
        by_cases ek : k = 5
        · rw [if_pos ek, ek, z5]
        · rw [if_neg ek, va_up_ne _ _ ek]
      · rw [e12, sI_r, hI_rn _ _ e, F8.I (by omega), F6.I e]
    have F12 : FrY D h h12 := by
      rw [e12]
      refine F6y.tr ((F8.y (D := D) (fun x hx => by omega)).tr ?_)
      exact (FrA.rf.fld (Z := fun x => x = B) rfl).y (fun x hx => by omega)
    refine q h12 F12 ⟨by rw [x12 _ (by omega) (by omega)]; exact ⟨y1, y2⟩, by rw [x12 D (by omega) (by omega), x12 (D + 10) (by omega) (by omega), x12 (D + 11) (by omega) (by omega), x12 (D + 12) (by omega) (by omega)]; exact ⟨y3, y4, y5, y6, y7, y8⟩, by rw [x12 (D + 1) (by omega) (by omega)]; exact ⟨y9, y10, y11⟩, by rw [x12 (D + 8) (by omega) (by omega), x12 (D + 9) (by omega) (by omega)]; exact ⟨y12, y13⟩, y14, b0.cg (x12 _ (by omega) (by omega)) (x12 _ (by omega) (by omega)), b1.cg (x12 _ (by omega) (by omega)) (x12 _ (by omega) (by omega))⟩
  have setg : ∀ {B : Nat} {X : List Nat} {h6 : am_H}, Bk B h X j P.2.2.2.2.2.2 P.2.2.2.2.1 0 → FrA (fun x => x = B) h h6 → hI h6 B = va_up (hI h B) 5 (nI g) → Bk B h6 X j P.2.2.2.2.2.2 P.2.2.2.2.1 (nI g) := by
    intro B X h6 bk F6 i6
    obtain ⟨hd, e1, e2, e3, e4, e5, e6, e7⟩ := bk
    refine ⟨hd, ?_, ?_, e3, by rw [F6.I (by omega)]; exact e4, ?_, ?_, by rw [i6, va_up_self]⟩
    · rw [i6, va_up_ne _ _ (by decide)]; exact e1
    · rw [i6, va_up_ne _ _ (by decide)]; exact e2
    · rw [i6, va_up_ne _ _ (by decide)]; exact e5
    · rw [i6, va_up_ne _ _ (by decide)]; exact e6
  rcases hb with e | e
  · subst e
    rw [if_pos rfl]
    refine key (D + 4) (Or.inl rfl) a2.1 (fun h6 F6 i6 => ?_) (by obtain ⟨_, _, _, _, _, _, _, e7⟩ := b0; exact e7)
    rw [if_pos rfl, if_pos rfl]
    exact ⟨setg b0 F6 i6, b1.cg (F6.I (by omega)) (F6.I (by omega))⟩
  · subst e
    rw [if_neg (by decide)]
    refine key (D + 6) (Or.inr rfl) a3.1 (fun h6 F6 i6 => ?_) (by obtain ⟨_, _, _, _, _, _, _, e7⟩ := b1; exact e7)
    rw [if_neg (by decide), if_neg (by decide)]
    exact ⟨b0.cg (F6.I (by omega)) (F6.I (by omega)), setg b1 F6 i6⟩
end XASK
