theorem exB_iff {p : Nat → Bool} : ∀ {n : Nat}, exB p n = true ↔ ∃ k, k < n ∧ p k = true
  | 0 => by simp [exB]
  | n + 1 => by
    rw [exB, Bool.or_eq_true, exB_iff (n := n)]
    constructor
    · rintro (⟨k, hk, h⟩ | h)
      · exact ⟨k, by omega, h⟩
      · exact ⟨n, by omega, h⟩
    · rintro ⟨k, hk, h⟩
      by_cases e : k = n
      · subst e; exact Or.inr h
      · exact Or.inl ⟨k, by omega, h⟩
/-- who stands where -/
def SD (D : HP) (o : Nat) (S : SC) : Prop := BS (D o 1) (fun k => decide ((k : Int) < S 0 3) && som S k) ∧ ∀ c : Nat, c < 25 → BS (D (o + 10) c) (fun k => decide ((k : Int) < S 0 3) && (som S k && decide (S 6 k = c)))
/-- whose umbrella has turned ahead of minute m -/
def TD (D : HP) (o : Nat) (S : SC) (m : Nat) : Prop := BS (D (o + 11) m) (fun k => decide ((k : Int) < S 0 3) && decide (tu S m k ≠ -1))
theorem cs_lee {D : HP} {o : Nat} {S : SC} (h : OKS S) (hS : SD D o S) {m : Nat} (hT : TD D o S m) {b : Int} (hb : b = -1 ∨ (0 ≤ b ∧ b < S 0 1)) :
    (if b < 0 then (0 : Int) else (if 25 ≤ b then (0 : Int) else (if (b_iand (D (o + 10) b.toNat) (b_ixor (D (o + 11) m) (-1))) = 0 then (0 : Int) else 1))) = if leeS S (tu S m) m b = true then 1 else 0 := by
  have h1 := h.2.1
  have h3 := h.2.2.2.1
  rcases hb with rfl | hb
  · rw [if_pos (by decide), if_neg]
    unfold leeS
    rw [exB_iff]
    rintro ⟨k, hk, z⟩
    simp at z
  · rw [if_neg (by omega), if_neg (by omega)]
    have e := ((hS.2 b.toNat (by omega)).but hT).em
    have ee : (b_iand (D (o + 10) b.toNat) (b_ixor (D (o + 11) m) (-1))) = 0 ↔ ¬ leeS S (tu S m) m b = true := by
      rw [e]
      unfold leeS
      rw [exB_iff]
      constructor
      · rintro z ⟨k, hk, y⟩
        have := z k (by omega)
        rw [decide_eq_true_eq] at y
        obtain ⟨y1, y2, y3, y4⟩ := y
        have t := tu_in (S := S) (k := k) m
        have t1 : tu S m k = -1 := by omega
        have s1 : som S k = true := by unfold som; rw [y2]; simp; omega
        simp [s1, y2, t1] at this
        omega
      · intro z k hk
        cases hq : ((decide ((k : Int) < S 0 3) && (som S k && decide (S 6 k = b.toNat))) && !(decide ((k : Int) < S 0 3) && decide (tu S m k ≠ -1)))
        · rfl
        · refine absurd ⟨k, ?_, ?_⟩ z
          · simp at hq; omega
          · simp at hq
            obtain ⟨⟨q1, q2, q3⟩, q4⟩ := hq
            unfold som at q2
            rw [decide_eq_true_eq] at q2
            have q4 : tu S m k = -1 := by omega
            rw [decide_eq_true_eq]
            have e6 : S 6 k = b := by omega
            rw [e6] at q2
            exact ⟨by omega, e6, q2.2, Or.inl q4⟩
    by_cases z : leeS S (tu S m) m b = true
    · rw [if_neg (fun y => ee.1 y z), if_pos z]
    · rw [if_pos (ee.2 z), if_neg z]
theorem cs_wind {D : HP} {o : Nat} {S : SC} (h : OKS S) (hM : CS D o S) (hV : SV D o S) (hS : SD D o S) {m : Nat} (hm : (m : Int) < S 0 2) (hT : TD D o S m) {c : Nat} (hc : (c : Int) < S 0 1) : fX0_windOn D o m c = wnd S (tu S m) m c := by
  have h1 := h.2.1
  have h2 := h.2.2.1
  have hg := h.2.2.2.2.2.1 m hm
  obtain ⟨w, hw⟩ : ∃ w : Nat, S 4 m = w := ⟨(S 4 m).toNat, by omega⟩
  have hi : ((S 4 m * 25) + (c : Int)).toNat = 25 * w + c := by omega
  have hv := hV w (by omega) c hc
  have hb := bes_in h (c := c) (w := w) (by omega) hc
  have hl := cs_lee h hS hT hb
  unfold fX0_windOn
  rw [show ((m : Int)).toNat = m by omega, (hM.2.2.1 m hm).1, (hM.2.2.1 m hm).2, hi, hM.1.2.1, hv.1, hv.2, hl, if_neg (by omega), if_neg (by omega), if_neg (by omega), if_pos hc, if_neg (by omega), if_neg (by omega)]
  have b01 : ∀ p : Bool, ((if p = true then (1 : Int) else 0) = 0) ↔ ¬ p = true := fun p => by cases p <;> simp
  simp only [b01]
  have key : (layS S c w = 0 → wbs S m c = 0) ∧ (layS S c w ≠ 0 → (if (if layS S c w % 4 = 1 then S 5 m / 2 else S 5 m) = 0 then (if layS S c w % 4 = 1 then S 5 m / 2 else S 5 m) else if layS S c w < 4 then (if layS S c w % 4 = 1 then S 5 m / 2 else S 5 m) else (if layS S c w % 4 = 1 then S 5 m / 2 else S 5 m) + 3) = wbs S m c) := by
    unfold wbs wst layS
    rw [hw]
    by_cases a : wal S c = true ∨ wal S (bes S c w) = true
    · simp [a]
    · rw [if_neg a, if_neg a]
      by_cases x : bes S c w ≠ -1 ∧ wal S (bes S (bes S c w) w) = true
      · rw [if_pos x, if_pos x]
        by_cases y : wal S (bes S c (((w : Int) + 1) % 4)) = true ∧ wal S (bes S c (((w : Int) + 3) % 4)) = true
        · rw [if_pos y]
          refine ⟨fun z => absurd z (by decide), fun _ => ?_⟩
          simp only [show ((1 : Int) + 4) % 4 = 1 from rfl, show ¬ (1 : Int) + 4 < 4 by decide, show ((1 : Int) + 0) % 4 = 1 from rfl, show (1 : Int) + 0 < 4 by decide, show ¬ ((2 : Int) + 4) % 4 = 1 by decide, show ¬ (2 : Int) + 4 < 4 by decide, show ¬ ((2 : Int) + 0) % 4 = 1 by decide, show (2 : Int) + 0 < 4 by decide, if_true, if_false]
          by_cases z : S 5 m / 2 = 0
          · rw [if_pos z, if_neg (by omega)]
          · rw [if_neg z, if_pos ⟨by omega, y⟩]
        · rw [if_neg y]
          refine ⟨fun z => absurd z (by decide), fun _ => ?_⟩
          simp only [show ((1 : Int) + 4) % 4 = 1 from rfl, show ¬ (1 : Int) + 4 < 4 by decide, show ((1 : Int) + 0) % 4 = 1 from rfl, show (1 : Int) + 0 < 4 by decide, show ¬ ((2 : Int) + 4) % 4 = 1 by decide, show ¬ (2 : Int) + 4 < 4 by decide, show ¬ ((2 : Int) + 0) % 4 = 1 by decide, show (2 : Int) + 0 < 4 by decide, if_true, if_false]
          rw [ite_self]
          split
          · rename_i z; exact absurd z.2 y
          · rfl
      · rw [if_neg x, if_neg x]
        by_cases y : wal S (bes S c (((w : Int) + 1) % 4)) = true ∧ wal S (bes S c (((w : Int) + 3) % 4)) = true
        · rw [if_pos y]
          refine ⟨fun z => absurd z (by decide), fun _ => ?_⟩
          simp only [show ((1 : Int) + 4) % 4 = 1 from rfl, show ¬ (1 : Int) + 4 < 4 by decide, show ((1 : Int) + 0) % 4 = 1 from rfl, show (1 : Int) + 0 < 4 by decide, show ¬ ((2 : Int) + 4) % 4 = 1 by decide, show ¬ (2 : Int) + 4 < 4 by decide, show ¬ ((2 : Int) + 0) % 4 = 1 by decide, show (2 : Int) + 0 < 4 by decide, if_true, if_false]
          by_cases z : S 5 m = 0
          · rw [if_pos z, if_neg (by omega)]
          · rw [if_neg z, if_pos ⟨by omega, y⟩]
        · rw [if_neg y]
          refine ⟨fun z => absurd z (by decide), fun _ => ?_⟩
          simp only [show ((1 : Int) + 4) % 4 = 1 from rfl, show ¬ (1 : Int) + 4 < 4 by decide, show ((1 : Int) + 0) % 4 = 1 from rfl, show (1 : Int) + 0 < 4 by decide, show ¬ ((2 : Int) + 4) % 4 = 1 by decide, show ¬ (2 : Int) + 4 < 4 by decide, show ¬ ((2 : Int) + 0) % 4 = 1 by decide, show (2 : Int) + 0 < 4 by decide, if_true, if_false]
          rw [ite_self]
          split
          · rename_i z; exact absurd z.2 y
          · rfl
  unfold wnd
  rw [hw]
  by_cases z : layS S c w = 0
  · rw [if_pos z, key.1 z]
    split <;> rfl
  · rw [if_neg z, key.2 z]
    by_cases y : leeS S (tu S m) m (bes S c w) = true
    · rw [if_pos y, if_neg (fun x => x y)]
    · rw [if_neg y, if_pos y]
