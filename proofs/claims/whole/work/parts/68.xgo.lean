/-! The class's board and goOver. -/
section XGO
variable {w : am_W} {d : Nat} {h h1 : am_H} {Q : Option Value → am_H → Prop} {D L Lc n ρ c s room kr j : Nat} {P : rP} {l X : List Nat} {trip boats : Int32} {lf : (Nat → Int32) → Int32} {S : rS}
theorem DC.oc (A : DC D L Lc n ρ c s P l room trip boats lf h) : D + 12 < c ∨ c + 5 < D := by
  obtain ⟨_, o2, _, _⟩ := A.2.2.2.2.2.2.1
  have h1 := o2 c (by omega) (by omega)
  have h2 := o2 (c + 5) (by omega) (by omega)
  unfold Out at h1 h2
  by_cases hh : c < D
  · by_cases h3 : c + 5 < D
    · exact Or.inr h3
    · have := o2 D (by omega) (by omega)
      unfold Out at this
      omega
  · exact Or.inl (by omega)
set_option maxHeartbeats 4000000 in
theorem c_board {B a : Nat} (A : DC D L Lc n ρ c s P l room trip boats lf h) (hB : B = D + 4 ∨ B = D + 6) (b : Bk B h X j P.2.2.2.2.2.2 P.2.2.2.2.1 0) (hj : j ≤ L) (hX : ∀ q ∈ X, q < n)
    (q : ∀ h', FrA (fun a => a = B ∨ a = D + 8 ∨ a = D + 9) h h' → Bk B h' (X.drop room) j P.2.2.2.2.2.2 P.2.2.2.2.1 0 → hI h' (D + 8) = setL (hI h (D + 8)) (X.take room) (nI a) → hI h' (D + 9) = setL (hI h (D + 9)) (X.take room) (hI h D 10) → Q (some (.int (nI (min room X.length)))) h') : EvM w mX3_board (d + 2) [.ref D, .ref B, .int (nI a)] h Q := by
  obtain ⟨a1, a2, a3, a4, a5, ⟨r12, r13, r14, z1, z2, z3⟩, ⟨o1, o2, o3, o4⟩, C, ⟨s1, s2, s3, s4⟩, a10, a11, a12⟩ := id A
  have oc := A.oc
  have K : BkL B L h := by rcases hB with e | e <;> (rw [e]; assumption)
  have hroom := a10.2.2.2.2.2.1
  have hlen : X.length ≤ 300 := by obtain ⟨hd, _, _, e3, _⟩ := b; have := a2.2.2; omega
  have nL := K.2.2
  have loop : ∀ k i, i + k = min room X.length → ∀ hc, FrA (fun a => a = B ∨ a = D + 8 ∨ a = D + 9) h hc → Bk B hc (X.drop i) j P.2.2.2.2.2.2 P.2.2.2.2.1 0 → hI hc (D + 8) = setL (hI h (D + 8)) (X.take i) (nI a) → hI hc (D + 9) = setL (hI h (D + 9)) (X.take i) (hI h D 10) →
      Ev w (am_Z w) mX3_board (d + 1 + 1) 23 [(0, .ref D), (1, .ref B), (2, .int (nI a)), (3, .int (nI (min room X.length))), (4, .int (nI i))] [] hc Q := by
    intro k
    induction k with
    | zero =>
      intro i hi hc F bk e8 e9
      have hi : i = min room X.length := by omega
      have t : X.take i = X.take room := by
        rw [hi]
        by_cases hh : room ≤ X.length
        · rw [Nat.min_eq_left hh]
        · rw [Nat.min_eq_right (by omega), List.take_length, List.take_of_length_le (by omega)]
      have dr : X.drop i = X.drop room := by
        rw [hi]
        by_cases hh : room ≤ X.length
        · rw [Nat.min_eq_left hh]
        · rw [Nat.min_eq_right (by omega), List.drop_length, List.drop_eq_nil_of_le (by omega)]
      rw [t] at e8 e9
      rw [dr] at bk
      exact bX3_board_23 ⟨fun _ => q hc F bk e8 e9, fun c1 => absurd (by rw [hi]; exact Int32.le_refl _) c1⟩
    | succ k ih =>
      intro i hi hc F bk e8 e9
      have hil : i < X.length := by omega
      have dd : X.drop i = X[i] :: X.drop (i + 1) := List.drop_eq_getElem_cons hil
      have tt : X.take (i + 1) = X.take i ++ [X[i]] := List.take_succ_eq_append_getElem hil
      have hp : X[i] < n := hX _ (List.getElem_mem _)
      rw [dd] at bk
      obtain ⟨hd, b1, b2, b3, b4, b5⟩ := id bk
      rw [List.length_cons] at b3
      have xD : hI hc D = hI h D := F.I (by omega)
      refine bX3_board_23 ⟨fun c1 => absurd c1 (by rw [nI_leI (by omega) (by omega)]; omega), fun _ => ⟨F.L K.1, c_get (by rw [F.K]; exact K.1.s 0 rfl) (by rw [F.N, K.2.1]; omega) ⟨_, rfl, F.L a1, ?_⟩⟩⟩
      rw [F.N, K.2.1, b1, gv_nI (by omega) (by omega), b4.1]
      refine c_set (by rw [F.K]; exact a1.s 5 rfl) (by rw [F.N, a4.2.2.2.1]; omega) ⟨rfl, F.L a1, ?_⟩
      rw [F.N, a4.2.2.2.1, sv_nI (by omega) (by omega), e8, setL_up, ← tt]
      generalize hh2 : rI hc (D + 8) (setL (hI h (D + 8)) (X.take (i + 1)) (nI a)) = h2
      have F2 : FrA (fun a => a = B ∨ a = D + 8 ∨ a = D + 9) h h2 := by rw [← hh2]; exact F.row (by omega)
      have i2 : ∀ x, x ≠ D + 8 → hI h2 x = hI hc x := fun x hx => by rw [← hh2, hI_rn _ _ hx]
      refine c_set (by rw [F2.K]; exact a1.s 6 rfl) (by rw [F2.N, a4.2.2.2.2.1]; omega) ⟨rfl, F2.L a1, by rw [show hR (rI h2 (D + 9) _) = hR h2 from rfl, F2.R, r13]; exact z2, F2.L K.1, ?_⟩
      rw [F2.N, a4.2.2.2.2.1, sv_nI (by omega) (by omega), i2 (D + 9) (by omega), e9, i2 D (by omega), xD, setL_up, ← tt, show hR (rI h2 (D + 9) (setL (hI h (D + 9)) (X.take (i + 1)) (hI h D 10))) = hR h2 from rfl, F2.R, r13]
      generalize hh3 : rI h2 (D + 9) (setL (hI h (D + 9)) (X.take (i + 1)) (hI h D 10)) = h3
      have F3 : FrA (fun a => a = B ∨ a = D + 8 ∨ a = D + 9) h h3 := by rw [← hh3]; exact F2.row (by omega)
      have i3 : ∀ x, x ≠ D + 9 → hI h3 x = hI h2 x := fun x hx => by rw [← hh3, hI_rn _ _ hx]
      have i3' : hI h3 (D + 9) = setL (hI h (D + 9)) (X.take (i + 1)) (hI h D 10) := by rw [← hh3, hI_rs]
      have i2' : hI h2 (D + 8) = setL (hI h (D + 8)) (X.take (i + 1)) (nI a) := by rw [← hh2, hI_rs]
      refine c_leaveFirstB (K.fr F3) (C.fr F3 (fun x h1 h2 => by omega)) (by omega) hp (bk.cg (by rw [i3 _ (by omega), i2 _ (by omega)]) (by rw [i3 _ (by omega), i2 _ (by omega)])) hj (fun h' F' bk' => ⟨rfl, ?_⟩)
      rw [nI_1]
      refine ih (i + 1) (by omega) h' (F3.tr (F'.mono (fun x e => Or.inl e))) bk' ?_ ?_
      · rw [F'.I (by omega), i3 _ (by omega), i2']
      · rw [F'.I (by omega), i3']
  obtain ⟨hd, b1, b2, b3, b4, b5⟩ := id b
  refine bX3_board_0 ⟨a1, by rw [r12]; exact z1, by rw [r12]; exact a10.1, K.1, ?_⟩
  have e : (if hI h B 2 - hI h B 1 < hI h (hR h D 12) 6 then hI h B 2 - hI h B 1 else hI h (hR h D 12) 6) = nI (min room X.length) := by
    rw [r12, a10.2.1, b2, b1, nI_sub (by omega), show hd + X.length - hd = X.length by omega]
    by_cases hh : X.length < room
    · rw [if_pos (by rw [nI_ltI (by omega) (by omega)]; exact hh), Nat.min_eq_right (by omega)]
    · rw [if_neg (by rw [nI_ltI (by omega) (by omega)]; exact hh), Nat.min_eq_left (by omega)]
  rw [e]
  exact loop _ 0 (Nat.zero_add _) h FrA.rf b (by rw [List.take_zero, setL_nil]) (by rw [List.take_zero, setL_nil])
/-- boats behind a ringing -/
def btR (boats b0 b1 minute v : Int32) (f : Nat → Int32) : Nat → Int32 := sv 2 f (frB boats b0 b1 minute) v
/-- the right bank boards, the ringing is counted -/
theorem c_goOverB {a : Nat} {X1 : List Nat} (A : DC D L Lc n ρ c s P l room trip boats lf h) (b1 : Bk (D + 6) h X1 j P.2.2.2.2.2.2 P.2.2.2.2.1 0) (hj : j ≤ L) (l1 : ∀ q ∈ X1, q < n) (y3 : hI h D 10 = nI kr) (hkr : kr < L)
    (q : ∀ h', FrY D h h' → hI h' D = va_up (hI h D) 10 (nI (kr + 1)) → hI h' (D + 8) = setL (hI h (D + 8)) (X1.take room) (nI a) → hI h' (D + 9) = setL (hI h (D + 9)) (X1.take room) (nI kr) → hI h' (D + 12) = va_up (hI h (D + 12)) kr (nI (min room X1.length)) → Bk (D + 6) h' (X1.drop room) j P.2.2.2.2.2.2 P.2.2.2.2.1 0 → (∀ x, x ≠ D → x ≠ D + 6 → x ≠ D + 8 → x ≠ D + 9 → x ≠ D + 12 → hI h' x = hI h x) → Q none h') :
    EvM w mX3_board (d + 2) [.ref D, .ref (D + 6), .int (nI a)] h (fun r21 h20 => ∃ v22 : Int32, r21 = some (.int v22) ∧ (EvM w mX9_set (d + 2) [.ref (D + 12), .int (hI h D 10), .int v22] h20 (fun r24 h23 => r24 = none ∧ ((am_L 3 D h23) ∧ (∀ h26 : am_H, h26 = sI h23 D 10 ((hI h23 D 10) + 1) → (Q none h26)))))) := by
  have a1 := A.1
  have hL : L ≤ 300 := A.2.1.2.2
  have n12 : hN h (D + 12) = L := A.2.2.2.1.2.2.2.2.2.2.2
  refine c_board A (Or.inr rfl) b1 hj l1 (fun h20 F20 k20 e20 e20' => ⟨_, rfl, c_set (by rw [F20.K]; exact a1.s 9 rfl) (by rw [F20.N, n12]; omega) ⟨rfl, F20.L a1, fun h26 e26 => ?_⟩⟩)
  have j20 : ∀ x, x ≠ D + 6 → x ≠ D + 8 → x ≠ D + 9 → hI h20 x = hI h x := fun x h1 h2 h3 => F20.I (by omega)
  rw [F20.N, n12, y3, sv_nI hkr (by omega), j20 (D + 12) (by omega) (by omega) (by omega)] at e26
  rw [y3] at e20'
  have i26 : ∀ x, x ≠ D → x ≠ D + 12 → hI h26 x = hI h20 x := fun x hx hy => by rw [e26, sI_r, hI_rn _ _ hx, hI_rn _ _ hy]
  refine q h26 ?_ ?_ ?_ ?_ ?_ (k20.cg (i26 _ (by omega) (by omega)) (i26 _ (by omega) (by omega))) (fun x h1 h2 h3 h4 h5 => by rw [i26 x h1 h5, j20 x h2 h3 h4])
  · rw [e26]
    exact ((F20.y (D := D) (fun x hx => by omega)).tr ((FrA.rf.row (Z := fun x => x = D + 12) rfl).y (fun x hx => by omega))).fld (Or.inl rfl)
  · rw [e26, sI_r, hI_rs, hI_rn _ _ (by omega), j20 D (by omega) (by omega) (by omega), y3, nI_1]
  · rw [i26 _ (by omega) (by omega), e20]
  · rw [i26 _ (by omega) (by omega), e20']
  · rw [e26, sI_r, hI_rn _ _ (by omega), hI_rs]
/-- the left bank boards -/
theorem c_goOverA {a : Nat} {X0 X1 : List Nat} (A : DC D L Lc n ρ c s P l room trip boats lf h) (b0 : Bk (D + 4) h X0 j P.2.2.2.2.2.2 P.2.2.2.2.1 0) (b1 : Bk (D + 6) h X1 j P.2.2.2.2.2.2 P.2.2.2.2.1 0) (hj : j ≤ L) (l0 : ∀ q ∈ X0, q < n) (l1 : ∀ q ∈ X1, q < n) (y3 : hI h D 10 = nI kr) (hkr : kr < L)
    (q : ∀ h', FrY D h h' → hI h' D = va_up (hI h D) 10 (nI (kr + 1)) → hI h' (D + 8) = setL (setL (hI h (D + 8)) (X0.take room) (nI a)) (X1.take room) (nI a) → hI h' (D + 9) = setL (setL (hI h (D + 9)) (X0.take room) (nI kr)) (X1.take room) (nI kr) → hI h' (D + 11) = va_up (hI h (D + 11)) kr (nI (min room X0.length)) → hI h' (D + 12) = va_up (hI h (D + 12)) kr (nI (min room X1.length)) → Bk (D + 4) h' (X0.drop room) j P.2.2.2.2.2.2 P.2.2.2.2.1 0 → Bk (D + 6) h' (X1.drop room) j P.2.2.2.2.2.2 P.2.2.2.2.1 0 → hI h' (D + 1) = hI h (D + 1) → hI h' (D + 10) = hI h (D + 10) → Q none h') :
    EvM w mX3_board (d + 2) [.ref D, .ref (D + 4), .int (nI a)] h (fun r15 h14 => ∃ v16 : Int32, r15 = some (.int v16) ∧ (EvM w mX9_set (d + 2) [.ref (D + 11), .int (hI h D 10), .int v16] h14 (fun r18 h17 => r18 = none ∧ ((am_L 3 D h17) ∧ (EvM w mX3_board (d + 2) [.ref D, .ref (D + 6), .int (nI a)] h17 (fun r21 h20 => ∃ v22 : Int32, r21 = some (.int v22) ∧ (EvM w mX9_set (d + 2) [.ref (D + 12), .int (hI h17 D 10), .int v22] h20 (fun r24 h23 => r24 = none ∧ ((am_L 3 D h23) ∧ (∀ h26 : am_H, h26 = sI h23 D 10 ((hI h23 D 10) + 1) → (Q none h26)))))))))))  := by
  have a1 := A.1
  have hL : L ≤ 300 := A.2.1.2.2
  have n11 : hN h (D + 11) = L := A.2.2.2.1.2.2.2.2.2.2.1
  refine c_board A (Or.inl rfl) b0 hj l0 (fun h14 F14 k14 e14 e14' => ⟨_, rfl, c_set (by rw [F14.K]; exact a1.s 8 rfl) (by rw [F14.N, n11]; omega) ⟨rfl, F14.L a1, ?_⟩⟩)
  have j14 : ∀ x, x ≠ D + 4 → x ≠ D + 8 → x ≠ D + 9 → hI h14 x = hI h x := fun x h1 h2 h3 => F14.I (by omega)
  rw [y3] at e14'
  rw [F14.N, n11, y3, sv_nI hkr (by omega), j14 (D + 11) (by omega) (by omega) (by omega)]
  generalize hh17 : rI h14 (D + 11) (va_up (hI h (D + 11)) kr (nI (min room X0.length))) = h17
  have F17 : FrY D h h17 := by rw [← hh17]; exact (F14.y (fun x hx => by omega)).tr ((FrA.rf.row (Z := fun x => x = D + 11) rfl).y (fun x hx => by omega))
  have i17 : ∀ x, x ≠ D + 11 → hI h17 x = hI h14 x := fun x hx => by rw [← hh17, hI_rn _ _ hx]
  have i17' : hI h17 (D + 11) = va_up (hI h (D + 11)) kr (nI (min room X0.length)) := by rw [← hh17, hI_rs]
  have xD : hI h17 D = hI h D := by rw [i17 _ (by omega), j14 _ (by omega) (by omega) (by omega)]
  refine c_goOverB (A.fr F17) (b1.cg (by rw [i17 _ (by omega), j14 _ (by omega) (by omega) (by omega)]) (by rw [i17 _ (by omega), j14 _ (by omega) (by omega) (by omega)])) hj l1 (by rw [xD]; exact y3) hkr (fun h' F' d' p8 p9 p12 k' o' => q h' (F17.tr F') ?_ ?_ ?_ ?_ ?_ (k14.cg ?_ ?_) k' ?_ ?_)
  · rw [d', xD]
  · rw [p8, i17 _ (by omega), e14]
  · rw [p9, i17 _ (by omega), e14']
  · rw [o' _ (by omega) (by omega) (by omega) (by omega) (by omega), i17']
  · rw [p12, i17 _ (by omega), j14 _ (by omega) (by omega) (by omega)]
  · rw [o' _ (by omega) (by omega) (by omega) (by omega) (by omega), i17 _ (by omega)]
  · rw [o' _ (by omega) (by omega) (by omega) (by omega) (by omega), i17 _ (by omega)]
  · rw [o' _ (by omega) (by omega) (by omega) (by omega) (by omega), i17 _ (by omega), j14 _ (by omega) (by omega) (by omega)]
  · rw [o' _ (by omega) (by omega) (by omega) (by omega) (by omega), i17 _ (by omega), j14 _ (by omega) (by omega) (by omega)]
/-- the cells behind goOver -/
theorem c_goOverH {a : Nat} {X0 X1 : List Nat} {z0 z1 : Int32} (A : DC D L Lc n ρ c s P l room trip boats lf h) (b0 : Bk (D + 4) h X0 j P.2.2.2.2.2.2 P.2.2.2.2.1 0) (b1 : Bk (D + 6) h X1 j P.2.2.2.2.2.2 P.2.2.2.2.1 0) (hj : j ≤ L) (l0 : ∀ q ∈ X0, q < n) (l1 : ∀ q ∈ X1, q < n) (y3 : hI h D 10 = nI kr) (hkr : kr < L) (y9 : hI h (D + 1) 0 = z0) (y10 : boats = 2 → hI h (D + 1) 1 = z1)
    (q : ∀ h', FrY D h h' → hI h' D = va_up (hI h D) 10 (nI (kr + 1)) → hI h' (D + 1) = btR boats z0 z1 (nI a) (nI a + trip) (hI h (D + 1)) → hI h' (D + 8) = setL (setL (hI h (D + 8)) (X0.take room) (nI a)) (X1.take room) (nI a) → hI h' (D + 9) = setL (setL (hI h (D + 9)) (X0.take room) (nI kr)) (X1.take room) (nI kr) →
      hI h' (D + 10) = va_up (hI h (D + 10)) kr (nI a) → hI h' (D + 11) = va_up (hI h (D + 11)) kr (nI (min room X0.length)) → hI h' (D + 12) = va_up (hI h (D + 12)) kr (nI (min room X1.length)) → Bk (D + 4) h' (X0.drop room) j P.2.2.2.2.2.2 P.2.2.2.2.1 0 → Bk (D + 6) h' (X1.drop room) j P.2.2.2.2.2.2 P.2.2.2.2.1 0 → Q none h') : EvM w mX3_goOver (d + 3) [.ref D, .int (nI a)] h Q := by
  have a1 := A.1
  have hL : L ≤ 300 := A.2.1.2.2
  have n1 : hN h (D + 1) = 2 := A.2.2.2.1.1
  have n10 : hN h (D + 10) = L := A.2.2.2.1.2.2.2.2.2.1
  obtain ⟨r1, r2, r3, r4⟩ := A.rho
  have rt : hI h ρ 7 = trip := A.2.2.2.2.2.2.2.2.2.1.2.2.1
  refine bX3_goOver_0 ⟨a1, c_freeBoat A y9 y10 ⟨_, rfl, a1, by rw [r1]; exact r2, by rw [r1]; exact r3, c_set (a1.s 0 rfl) (by omega) ⟨rfl, a1, ?_⟩⟩⟩
  rw [n1, r1, rt, show sv 2 (hI h (D + 1)) (frB boats z0 z1 (nI a)) (nI a + trip) = btR boats z0 z1 (nI a) (nI a + trip) (hI h (D + 1)) from rfl]
  generalize btR boats z0 z1 (nI a) (nI a + trip) (hI h (D + 1)) = bf at q ⊢
  generalize hh8 : rI h (D + 1) bf = h8
  have F8 : FrY D h h8 := by rw [← hh8]; exact (FrA.rf.row (Z := fun x => x = D + 1) rfl).y (fun x hx => by omega)
  have i8 : ∀ x, x ≠ D + 1 → hI h8 x = hI h x := fun x hx => by rw [← hh8, hI_rn _ _ hx]
  have i8' : hI h8 (D + 1) = bf := by rw [← hh8, hI_rs]
  refine c_set (by rw [F8.1.K]; exact a1.s 7 rfl) (by rw [F8.1.N, n10]; omega) ⟨rfl, FrA.L (Z := fun _ => True) (FrA.rf.row trivial) (F8.1.L a1), ?_⟩
  rw [F8.1.N, n10, i8 D (by omega), y3, sv_nI hkr (by omega), i8 (D + 10) (by omega)]
  generalize hh11 : rI h8 (D + 10) (va_up (hI h (D + 10)) kr (nI a)) = h11
  have F11 : FrY D h h11 := by rw [← hh11]; exact F8.tr ((FrA.rf.row (Z := fun x => x = D + 10) rfl).y (fun x hx => by omega))
  have i11 : ∀ x, x ≠ D + 10 → x ≠ D + 1 → hI h11 x = hI h x := fun x hx hy => by rw [← hh11, hI_rn _ _ hx, i8 x hy]
  have i11' : hI h11 (D + 10) = va_up (hI h (D + 10)) kr (nI a) := by rw [← hh11, hI_rs]
  have i11'' : hI h11 (D + 1) = bf := by rw [← hh11, hI_rn _ _ (by omega), i8']
  refine c_goOverA (A.fr F11) (b0.cg (i11 _ (by omega) (by omega)) (i11 _ (by omega) (by omega))) (b1.cg (i11 _ (by omega) (by omega)) (i11 _ (by omega) (by omega))) hj l0 l1 (by rw [i11 _ (by omega) (by omega)]; exact y3) hkr (fun h' F' d' p8 p9 p11 p12 k0 k1 p1 p10 => q h' (F11.tr F') ?_ ?_ ?_ ?_ ?_ ?_ ?_ k0 k1)
  · rw [d', i11 _ (by omega) (by omega)]
  · rw [p1, i11'']
  · rw [p8, i11 _ (by omega) (by omega)]
  · rw [p9, i11 _ (by omega) (by omega)]
  · rw [p10, i11']
  · rw [p11, i11 _ (by omega) (by omega)]
  · rw [p12, i11 _ (by omega) (by omega)]
end XGO
