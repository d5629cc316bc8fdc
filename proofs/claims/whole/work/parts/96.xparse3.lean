/-! The class's parser: numbers, what it writes; the parts of a law as pure steps. -/
def nvT (s : Nat → Int32) (n b : Nat) : Int32 := nvX s n (nI b) (rnl isD s n (nI b) 4 0)
def kyT (s : Nat → Int32) (n b : Nat) : Int64 := kyX s n (nI b) (rnl isL s n (nI b) 8 0)
def BgO (N : Nat) (pc : Nat → Int32) (bg : Nat → Nat) : Prop := ∀ i, i ≤ N → pc i = nI (bg i) ∧ bg i ≤ 1000
theorem flt_ne {k b : Nat} (h1 : 1 ≤ k) (h2 : k ≤ 15) (hb : b ≤ 1000) : ¬ nI k + 16 * nI b = 0 := fun e => by
  rw [show (16 : Int32) = nI 16 by decide, pk_mul, nI_add, show (0 : Int32) = nI 0 by decide, nI_eq (by omega) (by decide)] at e
  omega
abbrev ES : Type := P2 × Nat × (Nat → Int32) × Int32
def wrt (c : Int32) (S : ES) : ES := if S.1.1 = 0 then (S.1, S.2.1 + 1, va_up S.2.2.1 S.2.1 c, S.2.2.2) else S
def onE (f : P2 → P2) (S : ES) : ES := (f S.1, S.2)
def tmE (L k : Int32) (S : ES) : ES := if S.1.1 = 0 then (S.1, S.2.1, S.2.2.1, S.2.2.2 ||| (if k = 79 then 1 <<< (L &&& 31) else if k = 80 then 1 <<< (L &&& 31) else 0)) else S
def isF (k : Int32) : Bool := !decide (k < 75) && !decide (80 < k)
def isSt (k : Int32) : Bool := decide (k = 2) || (decide (k = 87) || (decide (k = 40) || isF k))
def lvl (k : Int32) : Int32 := if k = 42 then 3 else if k = 43 then 2 else if k = 45 then 2 else if k = 60 then 1 else if k = 61 then 1 else if k = 88 then 0 else if k = 89 then 0 else -1
/-- parts joined by the signs of a level -/
def lpc (kd : Nat → Int32) (C : ES → ES) (lev : Int32) : Nat → ES → ES
  | 0, S => S
  | k + 1, S => if S.1.1 = 0 ∧ lvl (kd S.1.2) = lev then lpc kd C lev k (wrt (-(kd S.1.2)) (C (onE stp S))) else S
/-- j levels above the parts P -/
def chn (kd : Nat → Int32) (K : Nat) (P : ES → ES) : Nat → ES → ES
  | 0, S => P S
  | j + 1, S => lpc kd (chn kd K P j) (nI (3 - j)) (if j = 2 then 1 else K) (chn kd K P j S)
/-- a part where r more may lie within one another -/
def prt (kd pc nv : Nat → Int32) (L : Int32) (K : Nat) : Nat → ES → ES
  | 0, S => if S.1.1 = 0 then (if isSt (kd S.1.2) then onE (wrg pc 5) S else onE (wrg pc 1) S) else S
  | r + 1, S => if S.1.1 = 0 then (if isSt (kd S.1.2) then (if kd S.1.2 = 2 then wrt (nv S.1.2) (onE stp S) else if kd S.1.2 = 87 then wrt (-87) (prt kd pc nv L K r (onE stp S)) else if isF (kd S.1.2) then tmE L (kd S.1.2) (wrt (-(kd S.1.2)) (onE stp S)) else onE (xpt kd pc 41) (chn kd K (prt kd pc nv L K r) 4 (onE stp S))) else onE (wrg pc 1) S) else S
/-- nothing is written that is not read -/
def Mn (f : ES → ES) : Prop := ∀ S, ((f S).1.1 = 0 → S.1.1 = 0 ∧ S.1.2 + (f S).2.1 ≤ (f S).1.2 + S.2.1) ∧ (¬ S.1.1 = 0 → f S = S)
theorem Mn.lp {kd : Nat → Int32} {C : ES → ES} {lev : Int32} (M : Mn C) : ∀ k, Mn (lpc kd C lev k) := by
  intro k
  induction k with
  | zero => intro S; exact ⟨fun a => ⟨a, Nat.le_refl _⟩, fun _ => rfl⟩
  | succ k ih =>
    intro S
    rw [lpc]
    by_cases c : S.1.1 = 0 ∧ lvl (kd S.1.2) = lev
    · rw [if_pos c]
      refine ⟨fun a => ?_, fun a => absurd c.1 a⟩
      obtain ⟨b1, b2⟩ := (ih _).1 a
      have hT : (C (onE stp S)).1.1 = 0 := by
        unfold wrt at b1
        split at b1
        · assumption
        · exact b1
      obtain ⟨d1, d2⟩ := (M _).1 hT
      generalize lpc kd C lev k (wrt (-(kd S.1.2)) (C (onE stp S))) = U at a b2 ⊢
      rw [wrt, if_pos hT] at b2
      have e1 : (onE stp S).1.2 = S.1.2 + 1 := by unfold onE stp; rw [if_pos c.1]
      have e2 : (onE stp S).2.1 = S.2.1 := rfl
      have b2 : (C (onE stp S)).1.2 + U.2.1 ≤ U.1.2 + ((C (onE stp S)).2.1 + 1) := b2
      exact ⟨c.1, by omega⟩
    · rw [if_neg c]
      exact ⟨fun a => ⟨a, Nat.le_refl _⟩, fun _ => rfl⟩
theorem Mn.ch {kd : Nat → Int32} {K : Nat} {P : ES → ES} (M : Mn P) : ∀ j, Mn (chn kd K P j) := by
  intro j
  induction j with
  | zero => intro S; exact M S
  | succ j ih =>
    intro S
    rw [chn]
    have L := ih.lp (kd := kd) (lev := nI (3 - j)) (if j = 2 then 1 else K) (chn kd K P j S)
    refine ⟨fun a => ?_, fun a => ?_⟩
    · obtain ⟨b1, b2⟩ := L.1 a
      obtain ⟨c1, c2⟩ := (ih S).1 b1
      exact ⟨c1, by omega⟩
    · have e := (ih S).2 a
      rw [e] at L ⊢
      exact L.2 a
theorem Mn.pr {kd pc nv : Nat → Int32} {L : Int32} {K : Nat} : ∀ r, Mn (prt kd pc nv L K r) := by
  intro r
  have wr : ∀ (k : Int32) (S : ES), S.1.1 = 0 → ((onE (wrg pc k) S).1.2 = S.1.2 ∧ (onE (wrg pc k) S).2 = S.2) := fun k S a => by
    unfold onE wrg
    rw [if_pos a]
    exact ⟨rfl, rfl⟩
  induction r with
  | zero =>
    intro S
    rw [prt]
    by_cases a : S.1.1 = 0
    · rw [if_pos a]
      refine ⟨fun _ => ⟨a, ?_⟩, fun x => absurd a x⟩
      split
      · rw [(wr 5 S a).1, (wr 5 S a).2]; exact Nat.le_refl _
      · rw [(wr 1 S a).1, (wr 1 S a).2]; exact Nat.le_refl _
    · rw [if_neg a]
      exact ⟨fun x => absurd x a, fun _ => rfl⟩
  | succ r ih =>
    intro S
    rw [prt]
    by_cases a : S.1.1 = 0
    · rw [if_pos a]
      refine ⟨fun z => ⟨a, ?_⟩, fun x => absurd a x⟩
      have e0 : (onE stp S).1.1 = 0 := by unfold onE stp; rw [if_pos a]
      have e1 : (onE stp S).1.2 = S.1.2 + 1 := by unfold onE stp; rw [if_pos a]
      have e2 : (onE stp S).2 = S.2 := rfl
      by_cases c1 : isSt (kd S.1.2) = true
      · rw [if_pos c1] at z ⊢
        by_cases c2 : kd S.1.2 = 2
        · rw [if_pos c2, wrt, if_pos e0]
          show S.1.2 + (S.2.1 + 1) ≤ (onE stp S).1.2 + S.2.1
          omega
        · rw [if_neg c2] at z ⊢
          by_cases c3 : kd S.1.2 = 87
          · rw [if_pos c3] at z ⊢
            have hT : (prt kd pc nv L K r (onE stp S)).1.1 = 0 := by
              unfold wrt at z
              split at z
              · assumption
              · exact z
            obtain ⟨_, d2⟩ := (ih _).1 hT
            rw [wrt, if_pos hT]
            show S.1.2 + ((prt kd pc nv L K r (onE stp S)).2.1 + 1) ≤ (prt kd pc nv L K r (onE stp S)).1.2 + S.2.1
            rw [e1, e2] at d2
            omega
          · rw [if_neg c3] at z ⊢
            by_cases c4 : isF (kd S.1.2) = true
            · rw [if_pos c4, wrt, if_pos e0, tmE, if_pos e0]
              show S.1.2 + (S.2.1 + 1) ≤ (onE stp S).1.2 + S.2.1
              omega
            · rw [if_neg c4] at z ⊢
              have C := (ih.ch (kd := kd) (K := K) 4) (onE stp S)
              generalize chn kd K (prt kd pc nv L K r) 4 (onE stp S) = T at z C ⊢
              have hT : T.1.1 = 0 := Decidable.byContradiction (fun y => by
                unfold onE xpt at z
                rw [if_neg y] at z
                exact y z)
              obtain ⟨_, d2⟩ := C.1 hT
              rw [e1, e2] at d2
              have : T.1.2 ≤ (onE (xpt kd pc 41) T).1.2 := by
                unfold onE xpt
                rw [if_pos hT]
                split
                · exact Nat.le_succ _
                · exact Nat.le_refl _
              show S.1.2 + T.2.1 ≤ (onE (xpt kd pc 41) T).1.2 + S.2.1
              omega
      · rw [if_neg c1, (wr 1 S a).1, (wr 1 S a).2]
        exact Nat.le_refl _
    · rw [if_neg a]
      exact ⟨fun x => absurd x a, fun _ => rfl⟩
