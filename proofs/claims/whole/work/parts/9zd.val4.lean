/-! A law's value: parts. -/
def AgE (d : Nat) (E E' : Nat → Nat → Int32) : Prop := ∀ o k, k ≤ d → E' o k = E o k
def PaV (kd pc nv : Nat → Int32) (L : Int32) (K r : Nat) : Prop := ∀ S : ES, S.1.1 = 0 → (prt kd pc nv L K r S).1.1 = 0 → ∃ v, RSd S (prt kd pc nv L K r S) v (4 * r) ∧ ∀ V d E, d + r = 5 → ∃ E', AgE d E E' ∧ RunW V (fun i => cdT (kd i) (nv i)) S.1.2 (prt kd pc nv L K r S).1.2 d E (nots E d (v V)).1 (termE (nots E d (v V)).1 (nots E d (v V)).2 E')
section VAL4
variable {kd pc nv : Nat → Int32} {L : Int32} {K r : Nat}
theorem ChV.z (P : PaV kd pc nv L K r) : ChV kd nv K r (prt kd pc nv L K r) 0 := by
  intro S a z
  obtain ⟨v, v1, v2⟩ := P S a z
  refine ⟨v, v1, fun V d E hd B _ => ?_⟩
  obtain ⟨E', e1, e2⟩ := v2 V d E hd
  rw [B (v V)] at e2
  refine ⟨_, e2, ?_, ?_⟩
  · rw [KEj, if_pos rfl]
    intro o k h
    show termE d (v V) E' o k = E o k
    unfold termE
    rw [up2_at]
    by_cases c : o = 21
    · rw [if_pos c, if_neg (by omega)]; exact e1 o k (by omega)
    · rw [if_neg c]; exact e1 o k (by omega)
  · rw [FinE, if_pos rfl]
    show termE d (v V) E' 21 d = _
    unfold termE
    rw [up2_at, if_pos rfl, if_pos rfl, e1 22 d (Nat.le_refl _), e1 21 d (Nat.le_refl _)]
theorem stepW_num {V : Nat → Int32} {d k : Nat} {E : Nat → Nat → Int32} (hk : k ≤ 9999) : stepW V (100 + nI k) d E = some ((nots E d (nI k)).1, termE (nots E d (nI k)).1 (nots E d (nI k)).2 E) := by
  have e : (100 : Int32) + nI k = nI (100 + k) := by rw [show (100 : Int32) = nI 100 by decide, nI_add]
  have ne' : ∀ j : Nat, j < 100 → ¬ nI (100 + k) = nI j := fun j hj y => by rw [nI_eq (by omega) (by omega)] at y; omega
  have ne : ∀ (j : Nat) (c : Int32), j < 100 → c = nI j → ¬ nI (100 + k) = c := fun j c hj hc => by rw [hc]; exact ne' j hj
  have e2 : nI (100 + k) - 100 = nI k := by
    rw [show (100 : Int32) = nI 100 by decide, nI_sub (by omega)]
    congr 1
    omega
  rw [e, stepW, if_neg (ne 28 28 (by decide) (by decide)), if_neg (ne 30 30 (by decide) (by decide)), if_neg (ne 20 20 (by decide) (by decide)), if_neg (ne 21 21 (by decide) (by decide)), if_neg (ne 22 22 (by decide) (by decide)), if_neg (ne 24 24 (by decide) (by decide)), if_neg (ne 25 25 (by decide) (by decide)), if_neg (ne 26 26 (by decide) (by decide)), if_neg (ne 27 27 (by decide) (by decide)), if_neg (ne 29 29 (by decide) (by decide)), if_neg (by rw [show (100 : Int32) = nI 100 by decide, nI_ltI (by omega) (by decide)]; omega), e2]
theorem stepW_fact {V : Nat → Int32} {d : Nat} {E : Nat → Nat → Int32} {k : Int32} (hk : isF k = true) : stepW V (fcA k) d E = some ((nots E d (V (fcA k).toNatClampNeg)).1, termE (nots E d (V (fcA k).toNatClampNeg)).1 (nots E d (V (fcA k).toNatClampNeg)).2 E) := by
  rcases isF_or hk with e | e | e | e | e | e <;> subst e <;> rfl
theorem stepR_fact {V : Nat → Int32} {st : List Int32} {k : Int32} (hk : isF k = true) (hs : st.length < 32) : stepR V (-k) st = some (V (fcA k).toNatClampNeg :: st) := by
  rw [stepR.eq_def, if_neg (by omega)]
  rcases isF_or hk with e | e | e | e | e | e <;> subst e <;> rw [if_neg (by decide), if_pos (by decide)] <;> rfl
theorem stepR_not {V : Nat → Int32} {st : List Int32} {v : Int32} (hs : st.length + 1 < 32) : stepR V (-87) (v :: st) = some ((if v = 0 then 1 else 0) :: st) := by
  rw [stepR.eq_def, if_neg (by rw [List.length_cons]; omega), if_neg (by decide), if_neg (by decide), if_pos rfl]
theorem PaV.z (hf : ∀ i, ¬ (1 : Int32) + 16 * pc i = 0 ∧ ¬ (5 : Int32) + 16 * pc i = 0) : PaV kd pc nv L K 0 := by
  intro S a z
  rw [prt, if_pos a] at z
  split at z
  · rw [wrg_1 a] at z; exact absurd z (hf _).2
  · rw [wrg_1 a] at z; exact absurd z (hf _).1
/-- a code written where one token was read -/
theorem RSd.one {S T : ES} {c : Int32} {v : (Nat → Int32) → Int32} {q : Nat} (e1 : T.2.1 = S.2.1 + 1) (e2 : T.2.2.1 = va_up S.2.2.1 S.2.1 c) (h : ∀ V st, st.length < 32 → stepR V c st = some (v V :: st)) : RSd S T v q := by
  refine ⟨by omega, fun p hp => by rw [e2, va_up_ne _ _ (by omega)], fun V row stk hrow hlen => ?_⟩
  rw [e1]
  refine RunR.one ?_
  rw [hrow S.2.1 (Nat.le_refl _) (by omega), e2, va_up_self]
  exact h V stk (by omega)
theorem opens_ag {d : Nat} {E : Nat → Nat → Int32} {v : Int32} : AgE d E (opensE (d + 1) (up2 E 23 (d + 1) v)) := fun o k hk => by
  rw [opensE_at, if_neg (by omega), up2_at]
  split
  · rw [if_neg (by omega)]
  · rfl
theorem opens_23 {d : Nat} {E : Nat → Nat → Int32} {v : Int32} : opensE (d + 1) (up2 E 23 (d + 1) v) 23 (d + 1) = v := by
  rw [opensE_at, if_pos rfl, if_neg (by decide), if_neg (by decide), if_neg (by decide), if_neg (by decide), if_neg (by decide), up2_at, if_pos rfl, if_pos rfl]
theorem opens_pre {d : Nat} {E : Nat → Nat → Int32} : PreE 4 d (opensE d E) := by
  refine ⟨fun _ => ?_, fun _ => ⟨?_, ?_⟩, fun _ => ?_, fun _ => ?_⟩
  · rw [opensE_at, if_pos rfl, if_pos rfl]
  · rw [opensE_at, if_pos rfl, if_neg (by decide), if_neg (by decide), if_pos rfl]
  · rw [opensE_at, if_pos rfl, if_neg (by decide), if_pos rfl]
  · rw [opensE_at, if_pos rfl, if_neg (by decide), if_neg (by decide), if_neg (by decide), if_pos rfl]
  · rw [opensE_at, if_pos rfl, if_neg (by decide), if_neg (by decide), if_neg (by decide), if_neg (by decide), if_pos rfl]
set_option maxHeartbeats 1000000 in
theorem PaV.s (hf : ∀ i, ¬ (1 : Int32) + 16 * pc i = 0 ∧ ¬ (5 : Int32) + 16 * pc i = 0) (hnv : ∀ i, kd i = 2 → ∃ k, k ≤ 9999 ∧ nv i = nI k) (P : PaV kd pc nv L K r) (C : ChV kd nv K r (prt kd pc nv L K r) 4) : PaV kd pc nv L K (r + 1) := by
  intro S a z
  rw [prt, if_pos a] at z ⊢
  by_cases c : isSt (kd S.1.2) = true
  · rw [if_pos c] at z ⊢
    have es := stp_1 a
    have ha : (onE stp S).1.1 = 0 := by rw [es]
    have hb : (onE stp S).1.2 = S.1.2 + 1 := by rw [es]
    by_cases c2 : kd S.1.2 = 2
    · rw [if_pos c2] at z ⊢
      obtain ⟨k, k1, k2⟩ := hnv _ c2
      have e1 : (wrt (nv S.1.2) (onE stp S)).1.2 = S.1.2 + 1 := by rw [wrt_1]; exact hb
      refine ⟨fun _ => nv S.1.2, RSd.one (c := nv S.1.2) (by rw [wrt, if_pos ha]; rfl) (by rw [wrt, if_pos ha]; rfl) (fun V st hs => ?_), fun V d E hd => ⟨E, fun _ _ _ => rfl, ?_⟩⟩
      · rw [stepR.eq_def, if_neg (by omega), if_pos (by rw [k2]; exact nI_pos (by omega))]
      · rw [e1]
        refine RunW.one ?_
        dsimp only
        rw [c2, show cdT 2 (nv S.1.2) = 100 + nv S.1.2 from rfl, k2]
        exact stepW_num k1
    rw [if_neg c2] at z ⊢
    by_cases c3 : kd S.1.2 = 87
    · rw [if_pos c3] at z ⊢
      have u : (prt kd pc nv L K r (onE stp S)).1.1 = 0 := by rw [wrt_1] at z; exact z
      obtain ⟨v, ⟨v1, v2, v3⟩, v4⟩ := P (onE stp S) ha u
      rw [stp_2] at v1 v2 v3
      rw [hb] at v4
      generalize prt kd pc nv L K r (onE stp S) = U at z u v1 v2 v3 v4 ⊢
      have w2 : (wrt (-87) U).2.1 = U.2.1 + 1 := by rw [wrt, if_pos u]
      have w3 : (wrt (-87) U).2.2.1 = va_up U.2.2.1 U.2.1 (-87) := by rw [wrt, if_pos u]
      refine ⟨fun V => if v V = 0 then 1 else 0, ⟨by omega, fun p hp => by rw [w3, va_up_ne _ _ (by omega)]; exact v2 p hp, fun V row stk hrow hlen => ?_⟩, fun V d E hd => ?_⟩
      · rw [w2, w3] at hrow
        rw [w2]
        refine (v3 V row stk (fun p p1 p2 => by rw [hrow p p1 (by omega), va_up_ne _ _ (by omega)]) (by omega)).tr (RunR.one ?_)
        rw [hrow U.2.1 v1 (by omega), va_up_self]
        exact stepR_not (by omega)
      · rw [wrt_1]
        obtain ⟨E2, t1, t2⟩ := v4 V (d + 1) (opensE (d + 1) (up2 E 23 (d + 1) 1)) (by omega)
        have en : nots (opensE (d + 1) (up2 E 23 (d + 1) 1)) (d + 1) (v V) = nots E d (if v V = 0 then 1 else 0) := by
          rw [nots, opens_23, if_pos rfl]
          exact nots_cg d _ (fun k hk => opens_ag 23 k hk)
        rw [en] at t2
        refine ⟨E2, fun o k hk => by rw [t1 o k (by omega)]; exact opens_ag o k hk, (RunW.one ?_).tr t2⟩
        rw [c3, show cdT 87 (nv S.1.2) = 30 from rfl, stepW, if_neg (by decide), if_pos rfl, if_pos (by omega)]
    rw [if_neg c3] at z ⊢
    by_cases c4 : isF (kd S.1.2) = true
    · rw [if_pos c4] at z ⊢
      have e0 : (wrt (-(kd S.1.2)) (onE stp S)).1.1 = 0 := by rw [wrt_1]; exact ha
      have e1 : (tmE L (kd S.1.2) (wrt (-(kd S.1.2)) (onE stp S))).1.2 = S.1.2 + 1 := by rw [tmE_1, wrt_1]; exact hb
      refine ⟨fun V => V (fcA (kd S.1.2)).toNatClampNeg, RSd.one (c := -(kd S.1.2)) (by rw [tmE, if_pos e0, wrt, if_pos ha]; rfl) (by rw [tmE, if_pos e0, wrt, if_pos ha]; rfl) (fun V st hs => stepR_fact c4 hs), fun V d E hd => ⟨E, fun _ _ _ => rfl, ?_⟩⟩
      rw [e1]
      refine RunW.one ?_
      dsimp only
      rw [cdT_F c4]
      exact stepW_fact c4
    rw [if_neg c4] at z ⊢
    have k4 : kd S.1.2 = 40 := by
      rcases isSt_or.mp c with e | e | e | e
      · exact absurd e c2
      · exact absurd e c3
      · exact e
      · exact absurd e c4
    have xd : ∀ U : ES, ¬ U.1.1 = 0 → (onE (xpt kd pc 41) U).1 = U.1 := fun U y => by unfold onE xpt; rw [if_neg y]
    have u : (chn kd K (prt kd pc nv L K r) 4 (onE stp S)).1.1 = 0 := Decidable.byContradiction (fun y => by
      rw [xd _ y] at z
      exact y z)
    obtain ⟨v, ⟨v1, v2, v3⟩, v4⟩ := C (onE stp S) ha u
    rw [stp_2] at v1 v2 v3
    unfold WSd at v4
    rw [hb] at v4
    generalize chn kd K (prt kd pc nv L K r) 4 (onE stp S) = U at z u v1 v2 v3 v4 ⊢
    have ex : (onE (xpt kd pc 41) U).1 = if kd U.1.2 = 41 then (0, U.1.2 + 1) else (1 + 16 * pc U.1.2, U.1.2) := by unfold onE xpt; rw [if_pos u]
    have k5 : kd U.1.2 = 41 := Decidable.byContradiction (fun y => by
      rw [ex, if_neg y] at z
      exact (hf _).1 z)
    rw [if_pos k5] at ex
    refine ⟨v, ⟨v1, v2, fun V row stk hrow hlen => v3 V row stk hrow (by omega)⟩, fun V d E hd => ?_⟩
    rw [ex]
    have B1 : BaseE (d + 1) (opensE (d + 1) (up2 E 23 (d + 1) 0)) := fun y => by rw [nots, opens_23, if_neg (by decide)]
    obtain ⟨E2, t1, t2, t3⟩ := v4 V (d + 1) _ (by omega) B1 opens_pre
    have t3 : FVe E2 (d + 1) = v V := t3
    have t2 : KE 4 (d + 1) (opensE (d + 1) (up2 E 23 (d + 1) 0)) E2 := t2
    have ag : AgE d E (testsE (d + 1) E2) := fun o k hk => by
      rw [testsE_at, if_neg (by omega), t2 o k (by omega)]
      exact opens_ag o k hk
    have e15 : testsE (d + 1) E2 15 (d + 1) = v V := by rw [testsE_at, if_pos rfl, if_neg (by decide), if_neg (by decide), if_neg (by decide), if_pos rfl]; exact t3
    refine ⟨testsE (d + 1) E2, ag, ((RunW.one ?_).tr t1).tr (RunW.one ?_)⟩
    · rw [k4, show cdT 40 (nv S.1.2) = 28 from rfl, stepW, if_pos rfl, if_pos (by omega)]
    · rw [k5, show cdT 41 (nv U.1.2) = 29 from rfl]
      show closeW E2 (d + 1) = _
      rw [closeW, e15, nots_cg d (v V) (fun k hk => ag 23 k hk)]
  · rw [if_neg c, wrg_1 a] at z
    exact absurd z (hf _).1
theorem ChV.of (P : PaV kd pc nv L K r) : ChV kd nv K r (prt kd pc nv L K r) 4 := ((((ChV.z P).s (by decide)).s (by decide)).s (by decide)).s (by decide)
theorem PaV.of (hf : ∀ i, ¬ (1 : Int32) + 16 * pc i = 0 ∧ ¬ (5 : Int32) + 16 * pc i = 0) (hnv : ∀ i, kd i = 2 → ∃ k, k ≤ 9999 ∧ nv i = nI k) : ∀ r, PaV kd pc nv L K r := by
  intro r
  induction r with
  | zero => exact PaV.z hf
  | succ r ih => exact ih.s hf hnv (ChV.of ih)
/-- the value of a law -/
theorem law_val (hf : ∀ i, ¬ (1 : Int32) + 16 * pc i = 0 ∧ ¬ (5 : Int32) + 16 * pc i = 0) (hnv : ∀ i, kd i = 2 → ∃ k, k ≤ 9999 ∧ nv i = nI k) {S : ES} (a : S.1.1 = 0) (z : (chn kd K (prt kd pc nv L K 5) 4 S).1.1 = 0) :
    S.2.1 ≤ (chn kd K (prt kd pc nv L K 5) 4 S).2.1 ∧ (∀ p, p < S.2.1 → (chn kd K (prt kd pc nv L K 5) 4 S).2.2.1 p = S.2.2.1 p) ∧ (∀ row, (∀ p, S.2.1 ≤ p → p < (chn kd K (prt kd pc nv L K 5) 4 S).2.1 → row p = (chn kd K (prt kd pc nv L K 5) 4 S).2.2.1 p) → RpnOK row S.2.1 (chn kd K (prt kd pc nv L K 5) 4 S).2.1 (lawV (chn kd K (prt kd pc nv L K 5) 4 S).2.2.1 S.2.1 (chn kd K (prt kd pc nv L K 5) 4 S).2.1)) ∧
      S.1.2 ≤ (chn kd K (prt kd pc nv L K 5) 4 S).1.2 ∧ ∀ V E0, ∃ e E, runW V (fun i => cdT (kd i) (nv i)) ((chn kd K (prt kd pc nv L K 5) 4 S).1.2 - S.1.2) S.1.2 0 (opensE 0 E0) = some (e, E) ∧ testsE 0 E 15 0 = lawV (chn kd K (prt kd pc nv L K 5) 4 S).2.2.1 S.2.1 (chn kd K (prt kd pc nv L K 5) 4 S).2.1 V := by
  obtain ⟨v, ⟨v1, v2, v3⟩, v4⟩ := ChV.of (PaV.of (L := L) (K := K) hf hnv 5) S a z
  generalize chn kd K (prt kd pc nv L K 5) 4 S = T at z v1 v2 v3 v4 ⊢
  have lv : ∀ V, lawV T.2.2.1 S.2.1 T.2.1 V = v V := fun V => by
    unfold lawV
    rw [(v3 V T.2.2.1 [] (fun _ _ _ => rfl) (by decide)).2]
  have W : ∀ V E0, ∃ E', RunW V (fun i => cdT (kd i) (nv i)) S.1.2 T.1.2 0 (opensE 0 E0) 0 E' ∧ FVe E' 0 = v V := fun V E0 => by
    obtain ⟨E', t1, _, t3⟩ := v4 V 0 (opensE 0 E0) rfl (fun _ => rfl) opens_pre
    exact ⟨E', t1, t3⟩
  refine ⟨v1, v2, fun row hr V => ?_, ?_, fun V E0 => ?_⟩
  · rw [lv]; exact (v3 V row [] hr (by decide)).2
  · obtain ⟨E', t1, _⟩ := W (fun _ => 0) (fun _ _ => 0)
    exact t1.1
  · obtain ⟨E', t1, t2⟩ := W V E0
    refine ⟨0, E', t1.2, ?_⟩
    rw [testsE_at, if_pos rfl, if_neg (by decide), if_neg (by decide), if_neg (by decide), if_pos rfl, lv]
    exact t2
end VAL4
