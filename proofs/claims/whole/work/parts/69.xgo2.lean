section XGO2
variable {w : am_W} {d : Nat} {h h1 : am_H} {Q : Option Value → am_H → Prop} {D L Lc n ρ c s room kr j : Nat} {P : rP} {l X : List Nat} {trip boats : Int32} {lf : (Nat → Int32) → Int32} {S : rS}
theorem nI_nm {a : Nat} (ha : a < 2 ^ 31) : ¬ nI a = -1 := fun e => by
  have := nI_pos' (n := a) ha
  rw [e] at this
  exact absurd this (by decide)
theorem lt_hun {a : Nat} (ha : a ≤ 1440) : nI a < 100000 := by rw [show (100000 : Int32) = nI 100000 by decide, nI_ltI (by omega) (by decide)]; omega
theorem btR_ok {z0 z1 v mi : Int32} {f : Nat → Int32} (hb : boats = 1 ∨ boats = 2) (free : ¬ frB boats z0 z1 mi = -1) (y9 : f 0 = z0) (y10 : boats = 2 → f 1 = z1) (y11 : boats = 1 → z1 = 100000) : btR boats z0 z1 mi v f 0 = (if mi < z0 then z0 else v) ∧ (boats = 2 → btR boats z0 z1 mi v f 1 = (if mi < z0 then v else z1)) ∧ (boats = 1 → (if mi < z0 then v else z1) = 100000) := by
  unfold btR
  unfold frB at free ⊢
  by_cases c0 : mi < z0
  · simp only [if_pos c0] at free ⊢
    rcases hb with e | e
    · rw [if_neg (by rw [e]; decide)] at free
      exact absurd rfl free
    · rw [if_pos e] at free ⊢
      by_cases c1 : mi < z1
      · rw [if_pos c1] at free; exact absurd rfl free
      · rw [if_neg c1, show (1 : Int32) = nI 1 by decide, sv_nI (by decide) (by decide)]
        refine ⟨by rw [va_up_ne _ _ (by decide)]; exact y9, fun _ => by rw [va_up_self], fun e1 => ?_⟩
        rw [e] at e1; exact absurd e1 (by decide)
  · simp only [if_neg c0]
    rw [← nI_0, sv_nI (by decide) (by decide)]
    exact ⟨by rw [va_up_self], fun e => by rw [va_up_ne _ _ (by decide)]; exact y10 e, y11⟩
set_option maxHeartbeats 4000000 in
theorem c_goOver {a : Nat} (A : DC D L Lc n ρ c s P l room trip boats lf h) (Y : YS D n P l boats h S kr j) (C : Cm P.2.2.2.1 l j (nI a)) (ha : a < 1440) (hw : wr P n lf (nI a) S = true)
    (q : ∀ h', FrY D h h' → YS D n P l boats h' (ring1 P n room trip (nI a) S) (kr + 1) j → Q none h') : EvM w mX3_goOver (d + 3) [.ref D, .int (nI a)] h Q := by
  obtain ⟨⟨y1, y2⟩, ⟨y3, y4, y5, y6, y7, y8⟩, ⟨y9, y10, y11⟩, ⟨y12, y13⟩, y14, b0, b1⟩ := id Y
  have O : OrdL P.2.2.2.1 n l := A.2.2.2.2.2.2.2.1.2.2.2.2.2.2.2.1
  have hm : ¬ nI a = -1 := nI_nm (by omega)
  have hR := A.2.2.2.2.2.2.2.2.2.1
  have a5 := A.2.2.2.2.1
  have hL : L ≤ 300 := A.2.1.2.2
  have dec := ring1_dec (trip := trip) hm hR.2.2.2.2.2.1.1 A.2.2.2.2.2.2.2.2.2.2.2.1 hw
  have hkr : kr < n := by omega
  have fb := frB_free (b0 := S.2.2.2.2.2.2.1) (b1 := S.2.2.2.2.2.2.2) hR.2.2.2.2.1 y11 (lt_hun (a := a) (by omega))
  have free : ¬ frB boats S.2.2.2.2.2.2.1 S.2.2.2.2.2.2.2 (nI a) = -1 := by
    intro e
    have := fb.mp e
    unfold wr wrV at hw
    rw [this] at hw
    cases hw
  have bt := btR_ok (v := nI a + trip) hR.2.2.2.2.1 free y9 y10 y11
  rw [ring1_list O hm C] at q dec
  have ndT : (l.take j).Nodup := O.nodup.sublist (List.take_sublist _ _)
  have f0 := inB_drop (sd := P.2.2.1) (g := S.1) (b := 0) hm ndT room
  generalize hX0 : (l.take j).filter (inB P.2.2.1 S.1 0) = X0 at q dec b0 f0
  generalize hX1 : (l.take j).filter (inB P.2.2.1 S.1 1) = X1 at q dec b1
  have t0 : ∀ x, x ∈ X0.take room → P.2.2.1 x = 0 := fun x hx => by rw [← hX0] at hx; exact inB_sd hx
  have t1 : ∀ x, x ∈ X1.take room → P.2.2.1 x = 1 := fun x hx => by rw [← hX1] at hx; exact inB_sd hx
  have e0 : (l.take j).filter (inB P.2.2.1 (setL (setL S.1 (X0.take room) (nI a)) (X1.take room) (nI a)) 0) = X0.drop room := by
    rw [inB_other hm (fun x hx => by rw [t1 x hx]; decide)]
    exact f0
  have e1 : (l.take j).filter (inB P.2.2.1 (setL (setL S.1 (X0.take room) (nI a)) (X1.take room) (nI a)) 1) = X1.drop room := by
    have eo : (l.take j).filter (inB P.2.2.1 (setL S.1 (X0.take room) (nI a)) 1) = X1 := by
      rw [inB_other hm (fun x hx => by rw [t0 x hx]; decide)]
      exact hX1
    have := inB_drop (sd := P.2.2.1) (g := setL S.1 (X0.take room) (nI a)) (b := 1) hm ndT room
    rw [eo] at this
    exact this
  have inT : ∀ x, x ∈ X0.take room ∨ x ∈ X1.take room → x ∈ l.take j := by
    intro x hx
    rcases hx with hx | hx
    · rw [← hX0] at hx; exact (List.mem_filter.mp (List.mem_of_mem_take hx)).1
    · rw [← hX1] at hx; exact (List.mem_filter.mp (List.mem_of_mem_take hx)).1
  have pos : (0 : Int32) ≤ nI a := nI_pos' (by omega)
  have kc : (nI kr).toNatClampNeg = kr := nI_clamp (by omega)
  rw [y4, kc, show (nI kr + 1) = nI (kr + 1) from nI_1 kr] at q
  refine c_goOverH (kr := kr) (X0 := X0) (X1 := X1) A b0 b1 (by omega) (fun x hx => by rw [← hX0] at hx; exact filt_lt O hx) (fun x hx => by rw [← hX1] at hx; exact filt_lt O hx) y3 (by omega) y9 y10 (fun h26 F26 d26 p1 p8 p9 p10 p11 p12 k0 k1 => ?_)
  rw [← e0] at k0
  rw [← e1] at k1
  refine q h26 F26 ⟨⟨by rw [d26, va_up_ne _ _ (by decide)]; exact y1, y2⟩, ⟨by rw [d26, va_up_self], rfl, ?_, by rw [p10]; exact y6.s rfl, by rw [p11]; exact y7.s rfl, by rw [p12]; exact y8.s rfl⟩, by rw [p1]; exact bt, ⟨fun p hp => ?_, fun p hp => ?_⟩, fun x hx => ?_, k0, k1⟩
  · have : cnt (setL (setL S.1 (X0.take room) (nI a)) (X1.take room) (nI a)) n < cnt S.1 n := dec
    show kr + 1 + cnt (setL (setL S.1 (X0.take room) (nI a)) (X1.take room) (nI a)) n ≤ n
    omega
  · rw [p8]
    show setL (setL (hI h (D + 8)) (X0.take room) (nI a)) (X1.take room) (nI a) p = if 0 ≤ setL (setL S.1 (X0.take room) (nI a)) (X1.take room) (nI a) p then setL (setL S.1 (X0.take room) (nI a)) (X1.take room) (nI a) p else 1440
    by_cases e1 : p ∈ X1.take room
    · have g1 : ∀ f : Nat → Int32, setL f (X1.take room) (nI a) p = nI a := fun f => if_pos e1
      rw [g1, g1, if_pos pos]
    · have g1 : ∀ f : Nat → Int32, setL f (X1.take room) (nI a) p = f p := fun f => if_neg e1
      rw [g1, g1]
      by_cases e0 : p ∈ X0.take room
      · have g0 : ∀ f : Nat → Int32, setL f (X0.take room) (nI a) p = nI a := fun f => if_pos e0
        rw [g0, g0, if_pos pos]
      · have g0 : ∀ f : Nat → Int32, setL f (X0.take room) (nI a) p = f p := fun f => if_neg e0
        rw [g0, g0]
        exact y12 p hp
  · rw [p9]
    show setL (setL (hI h (D + 9)) _ _) _ _ p = setL (setL S.2.1 _ _) _ _ p
    simp only [setL]
    rw [y13 p hp]
  · show setL (setL S.1 _ _) _ _ x = -1
    have nx : ¬ x ∈ l.take j := by
      intro hx2
      have := O.nodup
      rw [← List.take_append_drop j l] at this
      exact (List.nodup_append.mp this).2.2 x hx2 x hx rfl
    simp only [setL]
    rw [if_neg (fun e => nx (inT x (Or.inr e))), if_neg (fun e => nx (inT x (Or.inl e)))]
    exact y14 x hx
end XGO2
