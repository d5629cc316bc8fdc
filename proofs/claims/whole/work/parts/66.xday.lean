/-! The class's day at D: what stands still, what goes on. -/
def Out (D a : Nat) : Prop := a < D ∨ D + 12 < a
def ZD (D a : Nat) : Prop := D ≤ a ∧ a ≤ D + 12
/-- a river as a day needs it -/
def RvY (ρ : Nat) (h : am_H) (room : Nat) (trip boats u : Int32) (lf : (Nat → Int32) → Int32) : Prop := am_L 6 ρ h ∧ hI h ρ 6 = nI room ∧ hI h ρ 7 = trip ∧ hI h ρ 8 = boats ∧ (boats = 1 ∨ boats = 2) ∧ (0 < room ∧ room ≤ 40) ∧ lfC lf ∧ LawX ρ h u lf ∧ (0 ≤ u → ((hI h ρ 14) >>> (u &&& 31)) &&& 1 = 0 → ∀ V V' : Nat → Int32, (∀ i, 1 ≤ i → i ≤ 4 → V i = V' i) → lf V = lf V')
theorem RvY.fr {ρ : Nat} {h h1 : am_H} {room : Nat} {trip boats u : Int32} {lf : (Nat → Int32) → Int32} {Z : Nat → Prop} (A : RvY ρ h room trip boats u lf) (F : FrA Z h h1) (h0 : ∀ a, ρ ≤ a → a ≤ ρ + 11 → ¬ Z a) (h2 : ¬ Z (hR h ρ 5)) : RvY ρ h1 room trip boats u lf := by
  obtain ⟨a1, a2, a3, a4, a5, a6, a7, a8, a9⟩ := A
  unfold RvY
  rw [F.I (h0 ρ (by omega) (by omega))]
  exact ⟨F.L a1, a2, a3, a4, a5, a6, a7, a8.fr F (h0 _ (by omega) (by omega)) h2, a9⟩
def DC (D L Lc n ρ c s : Nat) (P : rP) (l : List Nat) (room : Nat) (trip boats : Int32) (lf : (Nat → Int32) → Int32) (h : am_H) : Prop :=
  am_L 3 D h ∧ BkL (D + 4) L h ∧ BkL (D + 6) L h ∧ (hN h (D + 1) = 2 ∧ hN h (D + 2) = 6 ∧ hN h (D + 3) = 32 ∧ hN h (D + 8) = L ∧ hN h (D + 9) = L ∧ hN h (D + 10) = L ∧ hN h (D + 11) = L ∧ hN h (D + 12) = L) ∧ n ≤ L ∧
  (hR h D 12 = ρ ∧ hR h D 13 = c ∧ hR h D 14 = s ∧ ρ ≠ 0 ∧ c ≠ 0 ∧ s ≠ 0) ∧ ((∀ a, ρ ≤ a → a ≤ ρ + 11 → Out D a) ∧ (∀ a, c ≤ a → a ≤ c + 5 → Out D a) ∧ Out D s ∧ Out D (hR h ρ 5)) ∧
  CwX c Lc n l P.2.2.2.1 P.2.2.2.2.1 P.2.2.2.2.2.2 h ∧ (hK h s = 12 ∧ n ≤ hN h s ∧ hN h s ≤ 300 ∧ eqR n (hI h s) P.2.2.1) ∧ RvY ρ h room trip boats P.2.1 lf ∧ hI h D 15 = P.2.1 ∧ PpOK P n
/-- the day alone is changed -/
def FrY (D : Nat) (h h' : am_H) : Prop := FrA (ZD D) h h' ∧ ∀ k, k ≠ 10 → k ≠ 11 → hI h' D k = hI h D k
theorem FrY.rf {D : Nat} {h : am_H} : FrY D h h := ⟨FrA.rf, fun _ _ _ => rfl⟩
theorem FrY.tr {D : Nat} {h h1 h2 : am_H} (a : FrY D h h1) (b : FrY D h1 h2) : FrY D h h2 := ⟨a.1.tr b.1, fun k h1 h2 => (b.2 k h1 h2).trans (a.2 k h1 h2)⟩
theorem FrA.y {D : Nat} {h h1 : am_H} {Z : Nat → Prop} (F : FrA Z h h1) (hz : ∀ a, Z a → D < a ∧ a ≤ D + 12) : FrY D h h1 := by
  refine ⟨F.mono (fun a z => ⟨by have := hz a z; omega, (hz a z).2⟩), fun k _ _ => ?_⟩
  rw [F.I (fun z => by have := hz D z; omega)]
theorem FrY.fld {D : Nat} {h h1 : am_H} {k : Nat} {v : Int32} (F : FrY D h h1) (hk : k = 10 ∨ k = 11) : FrY D h (sI h1 D k v) :=
  F.tr ⟨FrA.rf.fld ⟨Nat.le_refl _, by omega⟩, fun j h1 h2 => by rw [sI_r, hI_rs, va_up_ne _ _ (by omega)]⟩
def YS (D n : Nat) (P : rP) (l : List Nat) (boats : Int32) (h : am_H) (S : rS) (kr j : Nat) : Prop :=
  (hI h D 11 = nI j ∧ j ≤ n) ∧ (hI h D 10 = nI kr ∧ S.2.2.1 = nI kr ∧ kr + cnt S.1 n ≤ n ∧ eqR kr (hI h (D + 10)) S.2.2.2.1 ∧ eqR kr (hI h (D + 11)) S.2.2.2.2.1 ∧ eqR kr (hI h (D + 12)) S.2.2.2.2.2.1) ∧
  (hI h (D + 1) 0 = S.2.2.2.2.2.2.1 ∧ (boats = 2 → hI h (D + 1) 1 = S.2.2.2.2.2.2.2) ∧ (boats = 1 → S.2.2.2.2.2.2.2 = 100000)) ∧
  ((∀ p, p < n → hI h (D + 8) p = (if 0 ≤ S.1 p then S.1 p else 1440)) ∧ eqR n (hI h (D + 9)) S.2.1) ∧ (∀ q ∈ l.drop j, S.1 q = -1) ∧
  Bk (D + 4) h ((l.take j).filter (inB P.2.2.1 S.1 0)) j P.2.2.2.2.2.2 P.2.2.2.2.1 0 ∧ Bk (D + 6) h ((l.take j).filter (inB P.2.2.1 S.1 1)) j P.2.2.2.2.2.2 P.2.2.2.2.1 0
section XDAY
variable {w : am_W} {d : Nat} {h h1 : am_H} {Q : Option Value → am_H → Prop} {D L Lc n ρ c s room kr j : Nat} {P : rP} {l X0 X1 : List Nat} {trip boats : Int32} {lf : (Nat → Int32) → Int32} {S : rS}
theorem DC.fr (A : DC D L Lc n ρ c s P l room trip boats lf h) (F : FrY D h h1) : DC D L Lc n ρ c s P l room trip boats lf h1 := by
  obtain ⟨a1, a2, a3, a4, a5, a6, ⟨o1, o2, o3, o4⟩, a8, a9, a10, a11, a12⟩ := A
  have G := F.1
  refine ⟨G.L a1, a2.fr G, a3.fr G, ?_, a5, ?_, ⟨o1, o2, o3, by rw [G.R]; exact o4⟩, a8.fr G (fun a h1 h2 z => ?_), ?_, a10.fr G (fun a h1 h2 z => ?_) (fun z => ?_), by rw [F.2 15 (by decide) (by decide)]; exact a11, a12⟩
  · rw [G.N, G.N, G.N, G.N, G.N, G.N, G.N, G.N]; exact a4
  · rw [G.R, G.R, G.R]; exact a6
  · have := o2 a h1 h2; unfold Out at this; unfold ZD at z; omega
  · rw [G.K, G.N, G.I (fun z => by unfold Out at o3; unfold ZD at z; omega)]; exact a9
  · have := o1 a h1 h2; unfold Out at this; unfold ZD at z; omega
  · unfold Out at o4; unfold ZD at z; omega
/-- the banks' cells and the row of goings are changed, no more: what a day stands at else -/
theorem mem_take_lt (O : OrdL P.2.2.2.1 n l) {q : Nat} (h : q ∈ l.take j) : q < n := O.mem.mp (List.mem_of_mem_take h)
theorem c_bankOf (A : DC D L Lc n ρ c s P l room trip boats lf h) {x : Int32} (q : Q (some (.ref (if x = 0 then D + 4 else D + 6))) h) : EvM w mX3_bankOf d [.ref D, .int x] h Q := by
  refine bX3_bankOf_0 ⟨fun e => ⟨A.1, ?_⟩, fun e => ⟨A.1, ?_⟩⟩
  · rw [if_pos e] at q; exact q
  · rw [if_neg e] at q; exact q
set_option maxHeartbeats 4000000 in
theorem c_come {a : Nat} {h0 : am_H} (A0 : DC D L Lc n ρ c s P l room trip boats lf h0) (q : ∀ h' j', FrY D h0 h' → YS D n P l boats h' S kr j' → j ≤ j' → Cm P.2.2.2.1 l j' (nI a) → Q none h') :
    ∀ k i h, i + k = n → j ≤ i → FrY D h0 h → YS D n P l boats h S kr i → (∀ q ∈ l.take i, ¬ nI a < P.2.2.2.1 q) → EvM w mX3_come (d + 2) [.ref D, .int (nI a)] h Q := by
  intro k
  induction k with
  | zero =>
    intro i h hi hji F Y T
    have A := A0.fr F
    obtain ⟨a1, a2, a3, a4, a5, ⟨r12, r13, r14, z1, z2, z3⟩, ⟨o1, o2, o3, o4⟩, C, a9, a10, a11, a12⟩ := id A
    have hi : i = n := by omega
    subst hi
    refine bX3_come_0 ⟨a1, by rw [r13]; exact z2, by rw [r13]; exact C.1, fun _ => q h i F Y hji ⟨T, fun x hx => ?_⟩, fun c1 => absurd ?_ c1⟩
    · rw [List.drop_eq_nil_of_le (by rw [C.2.2.2.2.2.2.2.1.len]; exact Nat.le_refl _)] at hx
      cases hx
    · rw [r13, C.2.2.2.1, Y.1.1]; exact Int32.le_refl _
  | succ k ih =>
    intro i h hi hji F Y T
    have A := A0.fr F
    obtain ⟨a1, a2, a3, a4, a5, ⟨r12, r13, r14, z1, z2, z3⟩, ⟨o1, o2, o3, o4⟩, C, ⟨s1, s2, s3, s4⟩, a10, a11, a12⟩ := id A
    have O := C.2.2.2.2.2.2.2.1
    have hL := C.2.2.1
    have hil : i < l.length := by rw [O.len]; omega
    have hd : l.drop i = l[i] :: l.drop (i + 1) := List.drop_eq_getElem_cons hil
    have hp : l[i] < n := O.mem.mp (List.getElem_mem _)
    have Lb := a2.2.2
    refine bX3_come_0 ⟨a1, by rw [r13]; exact z2, by rw [r13]; exact C.1, fun c1 => absurd c1 (by rw [r13, C.2.2.2.1, Y.1.1, nI_leI (by omega) (by omega)]; omega), fun _ => ?_⟩
    rw [r13, Y.1.1]
    refine c_timeAt C (by omega) ⟨_, rfl, fun c1 => q h i F Y hji ⟨T, fun x hx => ?_⟩, fun c1 => ⟨a1, by rw [r13]; exact z2, by rw [r13]; exact C.1, ?_⟩⟩
    · rw [hd] at hx
      rcases List.mem_cons.mp hx with e | e
      · rw [e]; exact c1
      · have pw := (List.pairwise_append.mp (by rw [List.take_append_drop i l]; exact O.1)).2.1
        rw [hd] at pw
        exact Int32.lt_of_lt_of_le c1 ((List.pairwise_cons.mp pw).1 x e).le
    rw [r13, Y.1.1]
    refine c_get (C.1.s 4 rfl) (by rw [C.2.1.2.2.2.2]; omega) ⟨_, rfl, a1, by rw [r14]; exact z3, ?_⟩
    rw [r14, C.2.1.2.2.2.2, gv_nI (by omega) (by omega), C.order (show i < n by omega)]
    refine c_get s1 (by omega) ⟨_, rfl, a1, ?_⟩
    rw [gv_nI (by omega) (by omega), s4 _ hp]
    refine c_bankOf A ⟨_, rfl, a1, by rw [r13]; exact z2, ?_⟩
    obtain ⟨⟨y1, y2⟩, ⟨y3, y4, y5, y6, y7, y8⟩, ⟨y9, y10, y11⟩, ⟨y12, y13⟩, y14, b0, b1⟩ := id Y
    have hm1 : S.1 l[i] = -1 := y14 _ (by rw [hd]; exact List.mem_cons_self)
    have tk : l.take (i + 1) = l.take i ++ [l[i]] := List.take_succ_eq_append_getElem hil
    have T' : ∀ q ∈ l.take (i + 1), ¬ nI a < P.2.2.2.1 q := by
      intro x hx
      rw [tk] at hx
      rcases List.mem_append.mp hx with e | e
      · exact T x e
      · rw [List.mem_singleton.mp e]; exact c1
    have U' : ∀ q ∈ l.drop (i + 1), S.1 q = -1 := fun x hx => y14 x (by rw [hd]; exact List.mem_cons_of_mem _ hx)
    have oc : D + 12 < c ∨ c + 5 < D := by
      have h1 := o2 c (by omega) (by omega)
      have h2 := o2 (c + 5) (by omega) (by omega)
      unfold Out at h1 h2
      by_cases hh : c < D
      · by_cases h3 : c + 5 < D
        · exact Or.inr h3
        · have := o2 D (by omega) (by omega)
          unfold Out at this
          omega
      · exact Or.inl (by omega)
    rw [r13]
    have fin : ∀ h25, FrA (fun a => a = D + 4 ∨ a = D + 5 ∨ a = D + 6 ∨ a = D + 7) h h25 → Bk (D + 4) h25 ((l.take (i + 1)).filter (inB P.2.2.1 S.1 0)) (i + 1) P.2.2.2.2.2.2 P.2.2.2.2.1 0 → Bk (D + 6) h25 ((l.take (i + 1)).filter (inB P.2.2.1 S.1 1)) (i + 1) P.2.2.2.2.2.2 P.2.2.2.2.1 0 →
        am_L 3 D h25 ∧ ∀ h28, h28 = sI h25 D 11 (hI h25 D 11 + 1) → Ev w (am_Z w) mX3_come (d + 1 + 1) 0 [(0, .ref D), (1, .int (nI a))] [] h28 Q := by
      intro h25 F25 k0 k1
      refine ⟨F25.L a1, fun h28 e28 => ?_⟩
      have FY : FrY D h h25 := F25.y (fun x hx => by omega)
      have x25 : hI h25 D = hI h D := F25.I (by omega)
      rw [x25, y1, nI_1] at e28
      have F28 : FrY D h h28 := by rw [e28]; exact FY.fld (Or.inr rfl)
      have i28 : ∀ x, x ≠ D → hI h28 x = hI h25 x := fun x hx => by rw [e28, sI_r, hI_rn _ _ hx]
      have d28 : hI h28 D = va_up (hI h D) 11 (nI (i + 1)) := by rw [e28, sI_r, hI_rs, x25]
      have o25 : ∀ x, x ≠ D → (x < D + 4 ∨ D + 7 < x) → hI h28 x = hI h x := fun x hx hy => by rw [i28 x hx, F25.I (by omega)]
      refine ih (i + 1) h28 (by omega) (by omega) (F.tr F28) ⟨⟨by rw [d28, va_up_self], by omega⟩, ⟨by rw [d28, va_up_ne _ _ (by decide)]; exact y3, y4, y5, ?_, ?_, ?_⟩, ?_, ⟨?_, ?_⟩, U', k0.cg (i28 _ (by omega)) (i28 _ (by omega)), k1.cg (i28 _ (by omega)) (i28 _ (by omega))⟩ T'
      · rw [o25 _ (by omega) (by omega)]; exact y6
      · rw [o25 _ (by omega) (by omega)]; exact y7
      · rw [o25 _ (by omega) (by omega)]; exact y8
      · rw [o25 _ (by omega) (by omega)]; exact ⟨y9, y10, y11⟩
      · rw [o25 _ (by omega) (by omega)]; exact y12
      · rw [o25 _ (by omega) (by omega)]; exact y13
    rcases a12.1 _ hp with e | e
    · rw [e, if_pos rfl]
      refine ⟨a2.1, c_joinB a2 C (by omega) hp b0 (by omega) (fun h25 F25 k0 => ⟨rfl, fin h25 (F25.mono (fun x hx => by unfold ZB at hx; omega)) ?_ ?_⟩)⟩
      · rw [tk, List.filter_append, show [l[i]].filter (inB P.2.2.1 S.1 0) = [l[i]] by simp [inB, e, hm1]]
        exact k0
      · rw [tk, List.filter_append, show [l[i]].filter (inB P.2.2.1 S.1 1) = [] by simp [inB, e], List.append_nil]
        exact (b1.cg (F25.I (by unfold ZB; omega)) (F25.I (by unfold ZB; omega))).up (by omega)
    · rw [e, if_neg (by decide)]
      refine ⟨a3.1, c_joinB a3 C (by omega) hp b1 (by omega) (fun h25 F25 k1 => ⟨rfl, fin h25 (F25.mono (fun x hx => by unfold ZB at hx; omega)) ?_ ?_⟩)⟩
      · rw [tk, List.filter_append, show [l[i]].filter (inB P.2.2.1 S.1 0) = [] by simp [inB, e], List.append_nil]
        exact (b0.cg (F25.I (by unfold ZB; omega)) (F25.I (by unfold ZB; omega))).up (by omega)
      · rw [tk, List.filter_append, show [l[i]].filter (inB P.2.2.1 S.1 1) = [l[i]] by simp [inB, e, hm1]]
        exact k1
end XDAY
