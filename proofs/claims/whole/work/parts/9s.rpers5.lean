/-! The reference's line of a person. -/
section RPERS5
variable {w : am_W} {d : Nat} {h : am_H} {Q : Option Value → am_H → Prop} {m n i : Nat} {s : Nat → Int32}
def kyR (s : Nat → Int32) (n j : Nat) : Int64 := tkW s n (bgn s n j)
theorem psT_d {kd pc nv : Nat → Int32} {ch : Nat} {S : P2} (ne : ¬ S.1 = 0) : psT kd pc nv ch S = S := by
  unfold psT
  rw [xpt_d ne, num_d ne, xpt_d ne, num_d ne, xpt_d ne, num_d ne, kwd_d ne, xpt_d ne]
set_option maxHeartbeats 1000000 in
theorem c_readsPersonR {p ch : Nat} {nm : Nat → Nat} (T : TM m h s n i) (hp : p < 16) (hc : hI h (m + 2) 17 = nI p) (hch : ch = chs (fun q => hI h (m + 11) (16 + q)) p) (hc8 : ch ≤ 8) (hn : ∀ j, j < p → hJ h (m + 6) j = kyR s n (nm j))
    (q1 : xpt (tKD s n) (tPC s n) 59 (perP (tKD s n) (tPC s n) (tNV s n) (kyR s n) nm p ch (0, i)) = (0, i + 11) → ∀ h', FrQ m h h' → TM m h' s n (i + 11) → hI h' (m + 7) = va_up (hI h (m + 7)) (16 + p) (tKD s n (i + 2) - 75) → hI h' (m + 8) = va_up (hI h (m + 8)) (16 + p) (tNV s n (i + 4)) → hI h' (m + 9) = va_up (hI h (m + 9)) (16 + p) (tNV s n (i + 6)) → hI h' (m + 10) = va_up (hI h (m + 10)) (16 + p) (tNV s n (i + 8)) → hI h' (m + 11) = va_up (hI h (m + 11)) (16 + p) (kdA (tKD s n (i + 9))) → hI h' (m + 2) = va_up (hI h (m + 2)) 17 (nI (p + 1)) → hJ h' (m + 6) = va_up (hJ h (m + 6)) p (kyR s n (i + 1)) → Q (some (.int 1)) h')
    (q0 : ∀ h', FrQ m h h' → hI h' m 9 = (xpt (tKD s n) (tPC s n) 59 (perP (tKD s n) (tPC s n) (tNV s n) (kyR s n) nm p ch (0, i))).1 → ¬ (xpt (tKD s n) (tPC s n) 59 (perP (tKD s n) (tPC s n) (tNV s n) (kyR s n) nm p ch (0, i))).1 = 0 → Q (some (.int 0)) h') : EvM w mX10_readsPerson (d + 3) [.ref m] h Q := by
  have c17 : Int32.toNatClampNeg 17 = 17 := by decide
  have et : xpt (tKD s n) (tPC s n) 59 (perP (tKD s n) (tPC s n) (tNV s n) (kyR s n) nm p ch (0, i)) = psT (tKD s n) (tPC s n) (tNV s n) ch (sdw (tKD s n) (tPC s n) (nme (tKD s n) (tPC s n) (kyR s n) nm p (0, i + 1))) := rfl
  rw [et] at q0 q1
  have B := BgO.of (s := s) T.2.2.1 (i + 2)
  have sd_d : ∀ S : P2, ¬ S.1 = 0 → sdw (tKD s n) (tPC s n) S = S := fun S a => by rw [sdw, if_neg a]
  have rr : ∀ {ha hb : am_H}, FrN m ha hb → ∀ o, 0 < o → hI hb (m + o) = hI ha (m + o) := fun F o ho => (F.2.2.2.2.2.1 (m + o) (by omega)).1
  have bad : ∀ k : Nat, 1 ≤ k → k ≤ 15 → nme (tKD s n) (tPC s n) (kyR s n) nm p (0, i + 1) = (nI k + 16 * tPC s n (i + 1), i + 1) → ∀ h', FrQ m h h' → hI h' m 9 = nI k + 16 * tPC s n (i + 1) → Q (some (.int 0)) h' := by
    intro k h1 h2 e h' F e9
    have ne : ¬ nI k + 16 * tPC s n (i + 1) = 0 := flt_no B k h1 h2 (by omega)
    rw [e, sd_d _ ne, psT_d ne] at q0
    exact q0 h' F e9 ne
  refine bX10_readsPerson_0 ⟨T.1.1, T.1.in 1 rfl (show (17 : Int32) = nI 17 by decide) (by decide) (by decide), ?_⟩
  rw [c17, hc]
  refine ⟨fun c => absurd c (by rw [show (16 : Int32) = nI 16 by decide, nI_eq (by omega) (by decide)]; omega), fun _ => c_nextT T (fun h1 F1 T1 => ⟨rfl, T1.1.1, c_isKeptR T1 ⟨_, rfl, fun c => ?_, fun c => ⟨T1.1.1, c_failsR T1 (fun h' F e9 => ⟨_, rfl, nar0, ?_⟩)⟩⟩⟩)⟩
  rotate_left
  · have c3 : ¬ tKD s n (i + 1) = 3 := Decidable.byContradiction (fun z => c (b01_nz.mpr z))
    refine bad 1 (by decide) (by decide) ?_ h' (F1.r.q.tr F.q) e9
    rw [nme, if_pos rfl]
    dsimp only
    rw [if_neg c3]
    rfl
  have c3 : tKD s n (i + 1) = 3 := Decidable.byContradiction (fun z => b01_nz.mp c z)
  have w7 : hJ h1 m 7 = kyR s n (i + 1) := T1.2.2.2.2.2.2.2.1
  have j6 : hJ h1 (m + 6) = hJ h (m + 6) := (F1.2.2.2.2.2.1 (m + 6) (by omega)).2
  have loop : ∀ k j, j + k = p → dup (kyR s n) nm (i + 1) j = false → Ev w (am_Z w) mX10_readsPerson (d + 2 + 1) 39 [(0, .ref m), (1, .int (nI p)), (2, .int (nI j))] [] h1 Q := by
    intro k
    induction k with
    | zero =>
      intro j hj hd
      have hj : j = p := by omega
      subst hj
      refine bX10_readsPerson_39 ⟨fun _ => ⟨T1.1.1, T1.1.in 5 rfl rfl hp (by decide), fun h3 e3 => ?_⟩, fun z => absurd (Int32.le_refl _) z⟩
      rw [nI_clamp (by omega), w7] at e3
      have T3 : TM m h3 s n (i + 1) := by rw [e3]; exact T1.nam
      have G3 : FrQ m h h3 := F1.r.q.tr (by rw [e3]; exact FrQ.nam)
      have en : nme (tKD s n) (tPC s n) (kyR s n) nm j (0, i + 1) = (0, i + 2) := by
        rw [nme, if_pos rfl]
        dsimp only
        rw [if_pos c3, if_neg (by rw [hd]; decide)]
      rw [en] at q0 q1
      refine c_nextT T3 (fun h4 F4 T4 => ⟨rfl, T4.1.1, ?_⟩)
      have G4 := G3.tr F4.r.q
      have st : ∀ o, 0 < o → hI h4 (m + o) = hI h (m + o) := fun o o0 => by rw [rr F4 o o0, e3]; exact rr F1 o o0
      have j4 : hJ h4 (m + 6) = va_up (hJ h (m + 6)) j (kyR s n (i + 1)) := by
        rw [(F4.2.2.2.2.2.1 (m + 6) (by omega)).2, e3, ← j6]
        exact va_up_self _ _ _
      have go : ∀ v : Int32, v = tKD s n (i + 2) - 75 → sdw (tKD s n) (tPC s n) (0, i + 2) = (0, i + 3) → Ev w (am_Z w) mX10_readsPerson (d + 2 + 1) 129 [(0, .ref m), (1, .int (nI j))] [.int v, .int (16 + nI j), .ref (m + 7)] h4 Q := by
        intro v hv es
        rw [es] at q0 q1
        refine c_pers129 T4 hp (by rw [st 2 (by decide)]; exact hc) (by rw [st 11 (by decide)]; exact hch) hc8 (fun ex h' F' T' r7 r8 r9 r10 r11 r2 r6 => q1 ex h' (G4.tr F') T' ?_ ?_ ?_ ?_ ?_ ?_ ?_) (fun h' F' e' ne => q0 h' (G4.tr F') e' ne)
        · rw [r7, st 7 (by decide), hv]
        · rw [r8, st 8 (by decide)]
        · rw [r9, st 9 (by decide)]
        · rw [r10, st 10 (by decide)]
        · rw [r11, st 11 (by decide)]
        · rw [r2, st 2 (by decide)]
        · rw [r6, j4]
      refine c_isWordR (k := 12) T4 (by decide) rfl ⟨_, rfl, fun a => ⟨T4.1.1, c_isWordR (k := 11) T4 (by decide) rfl ⟨_, rfl, fun b => ⟨T4.1.1, c_failsR T4 (fun h' F e9 => ⟨_, rfl, nar0, ?_⟩)⟩, fun b => ⟨T4.1.1, fun _ => go 0 ?_ ?_, fun z => absurd a z⟩⟩⟩, fun a => ⟨T4.1.1, fun z => absurd z a, fun _ => go 1 ?_ ?_⟩⟩
      · have a' : ¬ tKD s n (i + 2) = 76 := b01_nz.mp a
        have b' : ¬ tKD s n (i + 2) = 75 := b01_nz.mp b
        have es : sdw (tKD s n) (tPC s n) (0, i + 2) = (nI 1 + 16 * tPC s n (i + 2), i + 2) := by
          rw [sdw, if_pos rfl]
          dsimp only
          rw [if_neg b', if_neg a']
          rfl
        have ne : ¬ nI 1 + 16 * tPC s n (i + 2) = 0 := flt_no B 1 (by decide) (by decide) (by omega)
        rw [es, psT_d ne] at q0
        exact q0 h' (G4.tr F.q) e9 ne
      · have b' : tKD s n (i + 2) = 75 := Decidable.byContradiction (fun z => b (b01_nz.mpr z))
        rw [b']; decide
      · have b' : tKD s n (i + 2) = 75 := Decidable.byContradiction (fun z => b (b01_nz.mpr z))
        rw [sdw, if_pos rfl]; dsimp only; rw [if_pos b']
      · have a' : tKD s n (i + 2) = 76 := Decidable.byContradiction (fun z => a (b01_nz.mpr z))
        rw [a']; decide
      · have a' : tKD s n (i + 2) = 76 := Decidable.byContradiction (fun z => a (b01_nz.mpr z))
        rw [sdw, if_pos rfl]; dsimp only; rw [if_neg (by rw [a']; decide), if_pos a']
    | succ k ih =>
      intro j hj hd
      refine bX10_readsPerson_39 ⟨fun z => absurd z (by rw [nI_leI (by omega) (by omega)]; omega), fun _ => ⟨T1.1.1, T1.1.in 5 rfl rfl (by omega) (by decide), ?_⟩⟩
      rw [nI_clamp (by omega), j6, w7, hn j (by omega)]
      refine ⟨fun e => c_failsR T1 (fun h' F e9 => ⟨_, rfl, nar0, ?_⟩), fun e => ?_⟩
      · refine bad 3 (by decide) (by decide) ?_ h' (F1.r.q.tr F.q) e9
        rw [nme, if_pos rfl]
        dsimp only
        rw [if_pos c3, if_pos (dup_tt (j := j) (by omega) e)]
        rfl
      · rw [nI_1]
        exact ih (j + 1) (by omega) (by rw [dup, hd, Bool.false_or]; exact decide_eq_false e)
  exact loop p 0 (by omega) rfl
end RPERS5
