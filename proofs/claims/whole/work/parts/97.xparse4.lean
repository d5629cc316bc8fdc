/-! The class's parser: chain and part. -/
section XPARSE4
variable {w : am_W} {d : Nat} {h : am_H} {Q : Option Value → am_H → Prop} {x ρ n N : Nat} {s kd pc : Nat → Int32} {bg : Nat → Nat} {L : Int32}
theorem c_numberP {S : P2} {lo hi : Int32} (P : PK x ρ s n N kd pc h) (B : BgO N pc bg) (I : P0 x N h S) (q : ∀ v h', FL x h h' → P0 x N h' (num kd pc (fun i => nvT s n (bg i)) lo hi S) → ((num kd pc (fun i => nvT s n (bg i)) lo hi S).1 = 0 → S.1 = 0 ∧ v = nvT s n (bg S.2) ∧ ¬ v < lo ∧ v ≤ hi) → Q (some (.int v)) h') : EvM w mX5_number (d + 2) [.ref (x + 17), .int lo, .int hi] h Q := by
  have dead : ¬ S.1 = 0 → num kd pc (fun i => nvT s n (bg i)) lo hi S = S := fun a => by rw [num, if_neg a]
  have deadw : ∀ k, ¬ S.1 = 0 → wrg pc k S = S := fun k a => by rw [wrg, if_neg a]
  have deads : ¬ S.1 = 0 → stp S = S := fun a => by rw [stp, if_neg a]
  refine bX5_number_0 ⟨P.l5, c_kind P I (fun v hv => ⟨v, rfl, fun c => ⟨P.l5, by rw [P.t]; omega, by rw [P.t]; exact P.l8, ?_⟩, fun c => ⟨P.l5, c_wrong P I (fun h' F I' => ⟨rfl, q _ h' F ?_ ?_⟩)⟩⟩)⟩
  · rw [P.t]
    refine c_numberX P.1 P.2.1 (fun v10 hv10 => ⟨v10, rfl, ?_⟩)
    have e10 : S.1 = 0 → v10 = nvT s n (bg S.2) := fun a => by
      obtain ⟨i1, i2⟩ := I.2 a
      refine hv10 (bg S.2) ?_ (B S.2 i2).2
      rw [i1, gv_nI (by have := P.2.2.1.2.1; omega) (by decide), P.2.2.1.2.2.2.1 S.2 (by omega)]
      exact (B S.2 i2).1
    refine ⟨fun c2 => ⟨P.l5, c_wrong P I (fun h' F I' => ⟨rfl, q _ h' F ?_ ?_⟩)⟩, fun c2 => ⟨fun c3 => ⟨P.l5, c_step P I (fun a => ?_) (fun h' F I' => ⟨rfl, q _ h' F ?_ ?_⟩)⟩, fun c3 => ⟨P.l5, c_wrong P I (fun h' F I' => ⟨rfl, q _ h' F ?_ ?_⟩)⟩⟩⟩
    · by_cases a : S.1 = 0
      · rw [num, if_pos a, if_pos (by rw [← hv a]; exact c), if_pos (by rw [← e10 a]; exact c2)]
        rw [wrg, if_pos a] at I'
        exact I'
      · rw [dead a]; rw [deadw _ a] at I'; exact I'
    · intro z
      by_cases a : S.1 = 0
      · rw [num, if_pos a, if_pos (by rw [← hv a]; exact c), if_pos (by rw [← e10 a]; exact c2), (B S.2 (I.2 a).2).1] at z
        exact absurd z (flt_ne (k := 4) (by decide) (by decide) (B S.2 (I.2 a).2).2)
      · rw [dead a] at z; exact absurd z a
    · rw [← hv a, c]; decide
    · by_cases a : S.1 = 0
      · rw [num, if_pos a, if_pos (by rw [← hv a]; exact c), if_neg (by rw [← e10 a]; exact c2), if_pos (by rw [← e10 a]; exact c3)]
        rw [stp, if_pos a] at I'
        exact I'
      · rw [dead a]; rw [deads a] at I'; exact I'
    · intro z
      by_cases a : S.1 = 0
      · exact ⟨a, e10 a, c2, c3⟩
      · rw [dead a] at z; exact absurd z a
    · by_cases a : S.1 = 0
      · rw [num, if_pos a, if_pos (by rw [← hv a]; exact c), if_neg (by rw [← e10 a]; exact c2), if_neg (by rw [← e10 a]; exact c3)]
        rw [wrg, if_pos a] at I'
        exact I'
      · rw [dead a]; rw [deadw _ a] at I'; exact I'
    · intro z
      by_cases a : S.1 = 0
      · rw [num, if_pos a, if_pos (by rw [← hv a]; exact c), if_neg (by rw [← e10 a]; exact c2), if_neg (by rw [← e10 a]; exact c3), (B S.2 (I.2 a).2).1] at z
        exact absurd z (flt_ne (k := 4) (by decide) (by decide) (B S.2 (I.2 a).2).2)
      · rw [dead a] at z; exact absurd z a
  · by_cases a : S.1 = 0
    · rw [num, if_pos a, if_neg (by rw [← hv a]; exact c)]
      rw [wrg, if_pos a] at I'
      exact I'
    · rw [dead a]; rw [deadw _ a] at I'; exact I'
  · intro z
    by_cases a : S.1 = 0
    · rw [num, if_pos a, if_neg (by rw [← hv a]; exact c), (B S.2 (I.2 a).2).1] at z
      exact absurd z (flt_ne (k := 1) (by decide) (by decide) (B S.2 (I.2 a).2).2)
    · rw [dead a] at z; exact absurd z a
/-- the state while a law is read -/
def IE (x N ρ : Nat) (L : Int32) (h : am_H) (S : ES) : Prop := P0 x N h S.1 ∧ (S.1.1 = 0 → hI h (x + 17) 4 = nI S.2.1 ∧ hI h (x + 19) = S.2.2.1 ∧ hI h ρ 14 = S.2.2.2 ∧ hI h ρ 13 = L ∧ S.2.1 ≤ S.1.2)
def FC (x ρ : Nat) (h h' : am_H) : Prop := FrA (fun a => a = x + 17 ∨ a = x + 19 ∨ a = ρ) h h' ∧ (∀ k, k ≠ 14 → hI h' ρ k = hI h ρ k) ∧ hI h' (x + 17) 7 = hI h (x + 17) 7
theorem FC.rf : FC x ρ h h := ⟨FrA.rf, fun _ _ => rfl, rfl⟩
theorem FC.tr {h1 h2 : am_H} (F : FC x ρ h h1) (G : FC x ρ h1 h2) : FC x ρ h h2 := ⟨F.1.tr G.1, fun k a => (G.2.1 k a).trans (F.2.1 k a), G.2.2.trans F.2.2⟩
theorem FL.c {h1 : am_H} (F : FL x h h1) (hρ : x + 69 ≤ ρ) : FC x ρ h h1 := ⟨F.1.mono (fun a e => Or.inl e), fun k _ => by rw [F.1.I (show ¬ ρ = x + 17 by omega)], F.2 7 (by decide) (by decide)⟩
theorem FC.J {h1 : am_H} (F : FC x ρ h h1) : FrJ (ZP x ρ) (x + 18) h h1 := F.1.toJ (fun a ha => by unfold ZP; omega)
theorem PK.hr (P : PK x ρ s n N kd pc h) : x + 69 ≤ ρ := P.2.2.2.2.1
/-- a small step of the parser within a law -/
theorem IE.on {h1 : am_H} {S : ES} {T : P2} (I : IE x N ρ L h S) (F : FL x h h1) (hρ : x + 69 ≤ ρ) (I' : P0 x N h1 T) (ha : T.1 = 0 → S.1.1 = 0 ∧ S.1.2 ≤ T.2) : IE x N ρ L h1 (T, S.2) := by
  refine ⟨I', fun a => ?_⟩
  obtain ⟨a1, a2⟩ := ha a
  obtain ⟨i1, i2, i3, i4, i5⟩ := I.2 a1
  refine ⟨by rw [F.2 4 (by decide) (by decide)]; exact i1, ?_, ?_, ?_, Nat.le_trans i5 a2⟩
  · rw [F.1.I (show ¬ x + 19 = x + 17 by omega)]; exact i2
  · rw [F.1.I (show ¬ ρ = x + 17 by omega)]; exact i3
  · rw [F.1.I (show ¬ ρ = x + 17 by omega)]; exact i4
theorem c_writeP {S : ES} {c : Int32} (P : PK x ρ s n N kd pc h) (I : IE x N ρ L h S) (hs : S.1.1 = 0 → S.2.1 < S.1.2) (q : ∀ h', FC x ρ h h' → IE x N ρ L h' (wrt c S) → Q none h') : EvM w mX5_write (d + 1) [.ref (x + 17), .int c] h Q := by
  have n19 : hN h (x + 17 + 2) = 1000 := P.1.2.2.2.2.1.2.1
  have hρ := P.hr
  refine bX5_write_0 ⟨P.l5, c_set (am_L.s P.l5 1 rfl) (by rw [n19]; decide) ⟨rfl, FrA.L (Z := fun _ => True) (FrA.rf.row trivial) P.l5, fun h5 e5 => q h5 ⟨?_, fun k hk => ?_, ?_⟩ ?_⟩⟩
  · rw [e5]
    exact (FrA.rf.row (Or.inr (Or.inl rfl))).fld (Or.inl rfl)
  · rw [e5, sI_r, hI_rn _ _ (by omega), hI_rn _ _ (by omega)]
  · rw [e5, sI_f, if_neg (by decide), hI_rn _ _ (by omega)]
  · have p6 : ∀ k, k ≠ 4 → hI h5 (x + 17) k = hI h (x + 17) k := fun k hk => by rw [e5, sI_f, if_neg hk, hI_rn _ _ (by omega)]
    by_cases a : S.1.1 = 0
    · obtain ⟨i1, i2, i3, i4, i5⟩ := I.2 a
      obtain ⟨j1, j2⟩ := I.1.2 a
      have hN1 := P.2.2.1.2.1
      have hs := hs a
      rw [wrt, if_pos a]
      refine ⟨⟨by rw [p6 6 (by decide)]; exact I.1.1, fun _ => ⟨by rw [p6 5 (by decide)]; exact j1, j2⟩⟩, fun _ => ⟨?_, ?_, ?_, ?_, by show S.2.1 + 1 ≤ S.1.2; omega⟩⟩
      · rw [e5, sI_f, if_pos rfl, hI_rn _ _ (by omega), i1, nI_1]
      · rw [e5, sI_r, hI_rn _ _ (by omega)]
        show hI (rI h (x + 17 + 2) (sv (hN h (x + 17 + 2)) (hI h (x + 17 + 2)) (hI h (x + 17) 4) c)) (x + 17 + 2) = _
        rw [hI_rs, n19, i1, sv_nI (by omega) (by decide)]
        show va_up (hI h (x + 19)) S.2.1 c = _
        rw [i2]
      · rw [e5, sI_r, hI_rn _ _ (by omega), hI_rn _ _ (by omega)]; exact i3
      · rw [e5, sI_r, hI_rn _ _ (by omega), hI_rn _ _ (by omega)]; exact i4
    · rw [wrt, if_neg a]
      exact ⟨⟨by rw [p6 6 (by decide)]; exact I.1.1, fun z => absurd z a⟩, fun z => absurd z a⟩
theorem c_levelOf {k : Int32} (q : Q (some (.int (lvl k))) h) : EvM w mX5_levelOf d [.int k] h Q := by
  unfold lvl at q
  refine bX5_levelOf_0 ⟨fun c => ?_, fun c => ⟨fun c2 => ?_, fun c2 => ⟨fun c3 => ?_, fun c3 => ⟨fun c4 => ?_, fun c4 => ⟨fun c5 => ?_, fun c5 => ⟨fun c6 => ?_, fun c6 => ⟨fun c7 => ?_, fun c7 => ?_⟩⟩⟩⟩⟩⟩⟩
  · rw [if_pos c] at q; exact q
  · rw [if_neg c, if_pos c2] at q; exact q
  · rw [if_neg c, if_neg c2, if_pos c3] at q; exact q
  · rw [if_neg c, if_neg c2, if_neg c3, if_pos c4] at q; exact q
  · rw [if_neg c, if_neg c2, if_neg c3, if_neg c4, if_pos c5] at q; exact q
  · rw [if_neg c, if_neg c2, if_neg c3, if_neg c4, if_neg c5, if_pos c6] at q; exact q
  · rw [if_neg c, if_neg c2, if_neg c3, if_neg c4, if_neg c5, if_neg c6, if_pos c7] at q; exact q
  · rw [if_neg c, if_neg c2, if_neg c3, if_neg c4, if_neg c5, if_neg c6, if_neg c7] at q; exact q
end XPARSE4
