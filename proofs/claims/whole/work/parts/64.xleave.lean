/-! One who goes home leaves a bank's row. -/
def shf (f : Nat → Int32) (lo hi : Nat) : Nat → Int32 := fun k => if lo < k ∧ k ≤ hi then f (k - 1) else f k
theorem shf_id (f : Nat → Int32) (a : Nat) : shf f a a = f := by funext k; simp only [shf]; rw [if_neg (by omega)]
theorem shf_s {f : Nat → Int32} {lo hi : Nat} (h : lo + 1 ≤ hi) : va_up (shf f (lo + 1) hi) (lo + 1) (shf f (lo + 1) hi lo) = shf f lo hi := by
  funext k
  by_cases e : k = lo + 1
  · subst e
    rw [va_up_self]
    simp only [shf]
    rw [if_neg (by omega), if_pos (by omega)]
    rfl
  · rw [va_up_ne _ _ e]
    simp only [shf]
    by_cases h2 : lo + 1 < k ∧ k ≤ hi
    · rw [if_pos h2, if_pos (by omega)]
    · rw [if_neg h2, if_neg (by omega)]
theorem nI_m1 (a : Nat) : nI a - 1 = nI a + (-1) := Int32.sub_eq_add_neg _ _
theorem nI_m1lt {a : Nat} (h : a < 2 ^ 31) : nI a + (-1) < nI a := by
  cases a with
  | zero => decide
  | succ a => rw [pk_m1, nI_ltI (by omega) h]; omega
section XLEAVE
variable {w : am_W} {d : Nat} {h : am_H} {Q : Option Value → am_H → Prop} {B L c Lc n j : Nat} {l X : List Nat} {at_ wt ct : Nat → Int32} {gs : Int32}
set_option maxHeartbeats 4000000 in
theorem c_leaveB {p : Nat} (K : BkL B L h) (C : CwX c Lc n l at_ wt ct h) (hB : B + 1 < c ∨ c + 5 < B) (b : Bk B h X j ct wt gs) (hX : X.Nodup) (hn : ∀ q ∈ X, q < n) (hp : p < 2 ^ 31) (hj : j ≤ L)
    (q : ∀ h', FrA (ZB B) h h' → Bk B h' (X.filter (fun q => !decide (q = p))) j ct wt gs → Q none h') : EvM w mX0_leave (d + 2) [.ref B, .int (nI p), .ref c] h Q := by
  obtain ⟨hd, b1, b2, b3, b4, b5, b6, b7⟩ := b
  obtain ⟨k1, k2, k3⟩ := id K
  have hL : n ≤ 300 := by have := C.2.2.1; omega
  -- the rows ahead move up
  have shift : ∀ i (hi : i < X.length), X[i] = p → ∀ m, m ≤ i → ∀ hc, FrA (ZB B) h hc → hI hc B = hI h B → hI hc (B + 1) = shf (hI h (B + 1)) (hd + m) (hd + i) →
      Ev w (am_Z w) mX0_leave (d + 1 + 1) 30 [(0, .ref B), (1, .int (nI p)), (2, .ref c), (4, .int (nI (hd + m)))] [] hc Q := by
    intro i hi hxi m
    induction m with
    | zero =>
      intro _ hc F e1 e2
      rw [Nat.add_zero] at e2 ⊢
      refine bX0_leave_30 ⟨F.L k1, fun _ => c_set (by rw [F.K]; exact k1.s 0 rfl) (by rw [F.N]; omega) ⟨rfl, F.L k1, ?_⟩, fun c1 => absurd (by rw [e1, b1]; exact Int32.le_refl _) c1⟩
      rw [F.N, k2, e1, b1, e2, sv_nI (by omega) (by omega)]
      have F2 : FrA (ZB B) h (rI hc (B + 1) (va_up (shf (hI h (B + 1)) hd (hd + i)) hd (nI p))) := F.row (Or.inr rfl)
      generalize hh2 : rI hc (B + 1) (va_up (shf (hI h (B + 1)) hd (hd + i)) hd (nI p)) = h2 at F2
      have i2 : hI h2 B = hI h B := by rw [← hh2, hI_rn _ _ (by omega), e1]
      have i3 : hI h2 (B + 1) = va_up (shf (hI h (B + 1)) hd (hd + i)) hd (nI p) := by rw [← hh2, hI_rs]
      have split : X = X.take i ++ p :: X.drop (i + 1) := by
        rw [← hxi, List.getElem_cons_drop, List.take_append_drop]
      have lt : (X.take i).length = i := by rw [List.length_take]; omega
      have ld : (X.drop (i + 1)).length = X.length - (i + 1) := List.length_drop
      generalize hY : X.take i = Y at split lt
      generalize hZ : X.drop (i + 1) = Z at split ld
      rw [split, Rw_app] at b4
      have pe : (p :: (Y ++ Z)).Perm X := by rw [split]; exact List.perm_middle.symm
      have bk2 : Bk B h2 (p :: (Y ++ Z)) j ct wt gs := by
        refine ⟨hd, by rw [i2]; exact b1, by rw [i2, pe.length_eq]; exact b2, by rw [pe.length_eq]; exact b3, ⟨by rw [i3, va_up_self], Rw_app.mpr ⟨?_, ?_⟩⟩, by rw [i2, sm_perm pe]; exact b5, by rw [i2, sm_perm pe]; exact b6, by rw [i2]; exact b7⟩
        · refine b4.1.sh (fun k h1 h2 => ?_)
          rw [i3, va_up_ne _ _ (by omega)]
          simp only [shf]
          rw [if_pos (by omega)]
          rfl
        · have := b4.2.2
          rw [show hd + Y.length + 1 = hd + 1 + Y.length by omega] at this
          refine this.cg (fun k h1 h2 => ?_)
          rw [i3, va_up_ne _ _ (by omega)]
          simp only [shf]
          rw [if_neg (by omega)]
      have hpn : p < n := hn p (by rw [← hxi]; exact List.getElem_mem _)
      have nd := hX
      rw [split] at nd
      have fl : X.filter (fun q => !decide (q = p)) = Y ++ Z := by
        have nd2 : (p :: (Y ++ Z)).Nodup := List.perm_middle.nodup_iff.mp nd
        have h3 := (List.nodup_cons.mp nd2).1
        rw [split, List.filter_append, List.filter_cons_of_neg (by simp), ← List.filter_append, List.filter_eq_self]
        intro a ha
        have : ¬ a = p := fun e => h3 (by rw [← e]; exact ha)
        simp [this]
      refine c_leaveFirstB (K.fr F2) (C.fr F2 (fun a h1 h2 => by unfold ZB; omega)) hB hpn bk2 hj (fun h' F' bk' => ⟨rfl, q h' (F2.tr (F'.mono (fun x e => Or.inl e))) ?_⟩)
      rw [fl]
      exact bk'
    | succ m ih =>
      intro hm hc F e1 e2
      refine bX0_leave_30 ⟨F.L k1, fun c1 => absurd c1 (by rw [e1, b1, nI_leI (by omega) (by omega)]; omega), fun _ => c_get (by rw [F.K]; exact k1.s 0 rfl) (by rw [F.N]; omega) ⟨_, rfl, c_set (by rw [F.K]; exact k1.s 0 rfl) (by rw [F.N]; omega) ⟨rfl, ?_⟩⟩⟩
      rw [show hd + (m + 1) = hd + m + 1 by omega] at e2 ⊢
      rw [F.N, k2, nI_pred, gv_nI (by omega) (by omega), sv_nI (by omega) (by omega), e2, shf_s (by omega), pk_m1]
      exact ih (by omega) _ (F.row (Or.inr rfl)) (by rw [hI_rn _ _ (by omega)]; exact e1) (hI_rs _ _ _)
  have look : ∀ i, i ≤ X.length → (∀ k (hk : k < X.length), i ≤ k → ¬ X[k] = p) → Ev w (am_Z w) mX0_leave (d + 1 + 1) 7 [(0, .ref B), (1, .int (nI p)), (2, .ref c), (3, .int (nI (hd + i) + (-1)))] [] h Q := by
    intro i
    induction i with
    | zero =>
      intro _ hno
      refine bX0_leave_7 ⟨k1, fun _ => q h FrA.rf ?_, fun c1 => absurd (by rw [b1]; exact nI_m1lt (by omega)) c1⟩
      have : X.filter (fun q => !decide (q = p)) = X := by
        rw [List.filter_eq_self]
        intro a ha
        obtain ⟨k, hk, e⟩ := List.mem_iff_getElem.mp ha
        have := hno k hk (Nat.zero_le _)
        rw [e] at this
        simp [this]
      rw [this]
      exact ⟨hd, b1, b2, b3, b4, b5, b6, b7⟩
    | succ i ih =>
      intro hi hno
      rw [show hd + (i + 1) = hd + i + 1 by omega, pk_m1]
      refine bX0_leave_7 ⟨k1, fun c1 => absurd c1 (by rw [b1, nI_ltI (by omega) (by omega)]; omega), fun _ => c_get (k1.s 0 rfl) (by omega) ⟨_, rfl, ?_⟩⟩
      rw [k2, gv_nI (by omega) (by omega), b4.get i (by omega)]
      have hq : X[i] < n := hn _ (List.getElem_mem _)
      refine ⟨fun c1 => ?_, fun c1 => ih (by omega) (fun k hk h1 => ?_)⟩
      · rw [nI_eq (by omega) hp] at c1
        exact shift i (by omega) c1 i (Nat.le_refl _) h FrA.rf rfl (shf_id _ _).symm
      · by_cases e : k = i
        · subst e
          rw [nI_eq (by omega) hp] at c1
          exact c1
        · exact hno k hk (by omega)
  refine bX0_leave_0 ⟨k1, ?_⟩
  rw [b2, nI_m1]
  exact look X.length (Nat.le_refl _) (fun k hk h1 => absurd hk (by omega))
end XLEAVE
