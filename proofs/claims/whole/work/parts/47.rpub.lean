/-! The reference's answers that look at a day: rings, ring, waits, all, bank. -/
theorem b01_1 {p : Prop} [Decidable p] (h : p) : b01 p = 1 := if_pos h
theorem b01_0 {p : Prop} [Decidable p] (h : ¬ p) : b01 p = 0 := if_neg h
theorem b01_n {p : Prop} [Decidable p] (h : ¬ b01 p = 0) : p := Classical.byContradiction fun n => h (b01_0 n)
theorem b01_z {p : Prop} [Decidable p] (h : b01 p = 0) : ¬ p := fun y => by rw [b01_1 y] at h; exact absurd h (by decide)
def aRing (r : rV) (i what : Int32) : Int32 :=
  if i < 0 then -1 else if (dayK r (-1) 1440).2.2.1 ≤ i then -1 else if 0 ≤ what ∧ what ≤ 2 then (if what = 0 then (dayK r (-1) 1440).2.2.2.1 i.toNatClampNeg else if what = 1 then (dayK r (-1) 1440).2.2.2.2.1 i.toNatClampNeg else (dayK r (-1) 1440).2.2.2.2.2.1 i.toNatClampNeg) else -1
def aWaits (r : rV) (p what : Int32) : Int32 :=
  if 0 ≤ p ∧ p < nI (vN r) then (if 0 ≤ what ∧ what ≤ 1 then (if what = 0 then wof (dayK r (-1) 1440).1 (vAt r) p.toNatClampNeg else (dayK r (-1) 1440).2.1 p.toNatClampNeg) else -1) else -1
/-- the longest wait, and who spends the night -/
def mxS (g at_ : Nat → Int32) : Nat → Int32
  | 0 => 0
  | p + 1 => if mxS g at_ p < wof g at_ p then wof g at_ p else mxS g at_ p
def ntS (g : Nat → Int32) : Nat → Int32
  | 0 => 0
  | p + 1 => ntS g p ||| if 0 ≤ g p then 0 else (1 : Int32) <<< (nI p &&& 31)
def aAll (r : rV) (what : Int32) : Int32 :=
  if 0 ≤ what ∧ what ≤ 2 then (if what = 0 then cstS (vCo r) (dayK r (-1) 1440).1 (vAt r) (-1) (vN r) else if what = 1 then mxS (dayK r (-1) 1440).1 (vAt r) (vN r) else ntS (dayK r (-1) 1440).1 (vN r)) else -1
def wbh (g at_ : Nat → Int32) (minute : Int32) (p : Nat) : Bool := !decide (minute < at_ p) && (decide (g p < 0) || !decide (g p ≤ minute))
def bkS (sd at_ g : Nat → Int32) (side minute : Int32) (f : Nat → Int32) : Nat → Int32
  | 0 => 0
  | p + 1 => bkS sd at_ g side minute f p + if sd p = side then (if wbh g at_ minute p then f p else 0) else 0
def aBank (r : rV) (side minute what : Int32) : Int32 :=
  if 0 ≤ side ∧ side ≤ 1 then (if 0 ≤ minute ∧ minute < 1440 then (if 0 ≤ what ∧ what ≤ 2 then bkS (vSd r) (vAt r) (dayK r (-1) 1440).1 side minute (if what = 0 then (fun _ => 1) else if what = 1 then (fun p => cof (vKd r p)) else vWt r) (vN r) else -1) else -1) else -1
theorem sdf_m1 (kd sd : Nat → Int32) (p : Nat) : sdf kd sd (-1) p = sd p := by
  unfold sdf
  split
  · rw [if_pos (by decide)]
  · rfl
section RPUB
variable {w : am_W} {d : Nat} {h : am_H} {Q : Option Value → am_H → Prop} {m : Nat} {r : rV}
theorem c_isMinuteM {x : Int32} (q : Q (some (.int (b01 (0 ≤ x ∧ x < 1440)))) h) : EvM w mX10_isMinute d [.int x] h Q := by
  refine bX10_isMinute_0 ⟨fun c => ?_, fun c => ⟨fun c2 => ?_, fun c2 => ?_⟩⟩
  · rw [b01_0 (fun h => absurd (Int32.lt_of_lt_of_le c h.1) (Int32.lt_irrefl))] at q; exact q
  · rw [b01_0 (fun h => absurd (Int32.lt_of_lt_of_le h.2 c2) (Int32.lt_irrefl))] at q; exact q
  · rw [b01_1 ⟨Int32.not_lt.mp c, Int32.not_le.mp c2⟩] at q; exact q
theorem c_isPersonM {x : Int32} {N : Nat} (M : Md m h) (hN' : hI h (m + 2) 7 = nI N) (q : Q (some (.int (b01 (0 ≤ x ∧ x < nI N)))) h) : EvM w mX10_isPerson d [.ref m, .int x] h Q := by
  refine bX10_isPerson_0 ⟨fun c => ?_, fun c => ⟨M.1, M.in 1 rfl (k := 7) (by decide) (by decide) (by decide), fun c2 => ?_, fun c2 => ?_⟩⟩
  · rw [b01_0 (fun h => absurd (Int32.lt_of_lt_of_le c h.1) (Int32.lt_irrefl))] at q; exact q
  · rw [cl7, hN'] at c2
    rw [b01_0 (fun h => absurd (Int32.lt_of_lt_of_le h.2 c2) (Int32.lt_irrefl))] at q; exact q
  · rw [cl7, hN'] at c2
    rw [b01_1 ⟨Int32.not_lt.mp c, Int32.not_le.mp c2⟩] at q; exact q
theorem c_rings (R : RvC w (d + 2) m h r) (q : ∀ h', FrZ m h h' → Q (some (.int (dayK r (-1) 1440).2.2.1)) h') : EvM w mX10_rings (d + 6) [.ref m] h Q := by
  refine bX10_rings_0 ⟨R.1.1.1, fun h2 e2 => ?_⟩
  have F2 : FrZ m h h2 := by rw [e2]; exact FrZ.rf.fld
  refine c_dayC (R.fr F2) (fun h3 k F3 D => ⟨rfl, ((F2.tr F3).md R.1.1).1, ?_⟩)
  have e : hI h3 m 44 = (dayK r (-1) 1440).2.2.1 := D.2.2.2.2.2.2.2.1.trans D.2.2.2.2.2.2.2.2.1.symm
  rw [e]
  exact q h3 (F2.tr F3)
theorem c_ring {i what : Int32} (R : RvC w (d + 2) m h r) (q : ∀ h', FrZ m h h' → Q (some (.int (aRing r i what))) h') : EvM w mX10_ring (d + 6) [.ref m, .int i, .int what] h Q := by
  refine bX10_ring_0 ⟨R.1.1.1, fun h2 e2 => ?_⟩
  have F2 : FrZ m h h2 := by rw [e2]; exact FrZ.rf.fld
  refine c_dayC (R.fr F2) (fun h3 k F3 D => ⟨rfl, ?_⟩)
  have F := F2.tr F3
  have M3 := F.md R.1.1
  obtain ⟨d1, d2, d3, d4, d5, s1, s2, s3, s4, s5, s6, s7, s8, s9⟩ := D
  have s3 : hI h3 m 44 = nI k := s3
  have q := q h3 F
  unfold aRing at q
  rw [s4] at q
  refine ⟨fun c => by rw [if_pos c] at q; exact q, fun c => ⟨M3.1, fun c2 => ?_, fun c2 => c_within ⟨_, rfl, fun c3 => ?_, fun c3 => ?_⟩⟩⟩
  · rw [s3] at c2
    rw [if_neg c, if_pos c2] at q; exact q
  · rw [s3] at c2
    rw [if_neg c, if_neg c2, if_neg (b01_z c3)] at q; exact q
  · rw [s3] at c2
    rw [if_neg c, if_neg c2, if_pos (b01_n c3)] at q
    obtain ⟨j, hj, rfl⟩ := nI_of c
    rw [nI_leI (by omega) hj] at c2
    have hc : (nI j).toNatClampNeg = j := nI_clamp hj
    rw [hc] at q
    refine ⟨fun c4 => ⟨M3.1, M3.in 31 rfl rfl (show j < 360 by omega) (by decide), ?_⟩, fun c4 => ⟨fun c5 => ⟨M3.1, M3.in 32 rfl rfl (show j < 360 by omega) (by decide), ?_⟩, fun c5 => ⟨M3.1, M3.in 33 rfl rfl (show j < 360 by omega) (by decide), ?_⟩⟩⟩
    · rw [if_pos c4] at q
      rw [hc, show hI h3 (m + 32) j = _ from s5 j (by omega)]
      exact q
    · rw [if_neg c4, if_pos c5] at q
      rw [hc, show hI h3 (m + 33) j = _ from s6 j (by omega)]
      exact q
    · rw [if_neg c4, if_neg c5] at q
      rw [hc, show hI h3 (m + 34) j = _ from s7 j (by omega)]
      exact q
theorem c_waits {p what : Int32} (R : RvC w (d + 2) m h r) (q : ∀ h', FrZ m h h' → Q (some (.int (aWaits r p what))) h') : EvM w mX10_waits (d + 6) [.ref m, .int p, .int what] h Q := by
  refine bX10_waits_0 ⟨R.1.1.1, fun h2 e2 => ?_⟩
  have F2 : FrZ m h h2 := by rw [e2]; exact FrZ.rf.fld
  have R2 := R.fr F2
  have hN2 := R.1.2.2.1
  unfold aWaits at q
  refine c_isPersonM R2.1.1 R2.1.2.1 ⟨_, rfl, fun c => ?_, fun c => c_within ⟨_, rfl, fun c2 => ?_, fun c2 => ⟨R2.1.1.1, c_dayC R2 (fun h3 k F3 D => ⟨rfl, ?_⟩)⟩⟩⟩
  · rw [if_neg (b01_z c)] at q; exact q h2 F2
  · rw [if_pos (b01_n c), if_neg (b01_z c2)] at q; exact q h2 F2
  · have F := F2.tr F3
    have M3 := F.md R.1.1
    rw [if_pos (b01_n c), if_pos (b01_n c2)] at q
    obtain ⟨d1, d2, d3, d4, d5, s1, s2, s3⟩ := D
    have c := b01_n c
    obtain ⟨j, hj, rfl⟩ := nI_of (Int32.not_lt.mpr c.1)
    have c1 := c.2
    rw [nI_ltI hj (by omega)] at c1
    have hc : (nI j).toNatClampNeg = j := nI_clamp hj
    rw [hc] at q
    have q := q h3 F
    refine ⟨fun c4 => ⟨M3.1, c_waitOf M3 (by omega) ⟨_, rfl, ?_⟩⟩, fun c4 => ⟨M3.1, M3.in 30 rfl rfl (show j < 360 by omega) (by decide), ?_⟩⟩
    · rw [if_pos c4] at q
      have e : wof (hI h3 (m + 30)) (hI h3 (m + 26)) j = wof (dayK r (-1) 1440).1 (vAt r) j := by
        unfold wof
        rw [show hI h3 (m + 30) j = _ from s1 j c1, show hI h3 (m + 26) j = _ from d2.2.2.1 j c1]
        rfl
      rw [e]
      exact q
    · rw [if_neg c4] at q
      rw [hc, show hI h3 (m + 31) j = _ from s2 j c1]
      exact q
end RPUB
