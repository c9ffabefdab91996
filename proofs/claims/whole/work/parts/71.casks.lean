theorem b10 {p : Prop} [Decidable p] : ((if p then (1 : Int) else 0) = 0) ↔ ¬ p := by by_cases q : p <;> simp [q]
theorem k_isMin {D : HP} {S : SC} (h : TC D 9 S) {a : Int} : fX5_isMinute D a = if 0 ≤ a ∧ a < S 0 2 then 1 else 0 := by
  have h2 := h.1.2.2.1
  have e : D 10 2 = S 0 2 := h.2.2.1.1.2.2.1
  unfold fX5_isMinute
  rw [e]
  repeat' split
  all_goals omega
theorem k_isCan {D : HP} {S : SC} (h : TC D 9 S) {a : Int} : fX5_isCandidate D a = if 0 ≤ a ∧ a < S 0 3 then 1 else 0 := by
  have h2 := h.1.2.2.2.1
  have e : D 10 3 = S 0 3 := h.2.2.1.1.2.2.2
  unfold fX5_isCandidate
  rw [e]
  repeat' split
  all_goals omega
theorem K_cell {D : HP} {S : SC} (h : TC D 9 S) (a : Int) : CT mX5_cell [vR 0, vI a] D (PF (vI (vCell S a)) D) := by
  have hok := h.1
  have h1 := hok.2.1
  have e : fX5_cell D a = vCell S a := by
    unfold fX5_cell vCell
    by_cases z : 0 ≤ a ∧ a ≤ 24
    · rw [if_neg (by omega), if_pos (by omega), if_pos z, cs_cell hok h.2.2.1]
      simp only [b10, ite_not]
      by_cases y : a < S 0 1
      · rw [if_pos (show 0 ≤ a ∧ a < S 0 1 from ⟨z.1, y⟩), if_pos y, cs_wall hok h.2.2.1 (Or.inr ⟨z.1, y⟩)]
        unfold wal
        rcases hok.2.2.2.2.1 a.toNat (by omega) with w | w <;> rw [w] <;> simp <;> omega
      · rw [if_neg (show ¬ (0 ≤ a ∧ a < S 0 1) from fun w => y w.2), if_neg y]
    · rw [if_neg z]
      repeat' split
      all_goals first | rfl | omega
  rw [← e]
  exact P_X5_cell ⟨fun _ => trivial, fun _ => ⟨fun _ => ⟨fun _ => trivial, fun _ => ⟨cs_wallo, trivial⟩⟩, fun _ => trivial⟩⟩
theorem K_gust {D : HP} {S : SC} (h : TC D 9 S) (a b : Int) : CT mX5_gust [vR 0, vI a, vI b] D (PF (vI (vGust S a b)) D) := by
  have h2 := h.1.2.2.1
  have e : fX5_gust D a b = vGust S a b := by
    unfold fX5_gust vGust
    rw [k_isMin h]
    simp only [b10, ite_not]
    by_cases z : 0 ≤ a ∧ a < S 0 2
    · have g := h.2.2.1.2.2.1 a.toNat (by omega)
      have g1 : D 14 a.toNat = S 4 a.toNat := g.1
      have g2 : D 15 a.toNat = S 5 a.toNat := g.2
      rw [if_pos z, g1, g2]
      by_cases y : 0 ≤ b ∧ b ≤ 1
      · rw [if_neg (show ¬ b < 0 by omega), if_pos y.2, if_pos (show (0 ≤ a ∧ a < S 0 2) ∧ 0 ≤ b ∧ b ≤ 1 from ⟨z, y⟩)]
      · rw [if_neg (show ¬ ((0 ≤ a ∧ a < S 0 2) ∧ 0 ≤ b ∧ b ≤ 1) from fun w => y w.2)]
        repeat' split
        all_goals first | rfl | omega
    · rw [if_neg z, if_neg (show ¬ ((0 ≤ a ∧ a < S 0 2) ∧ 0 ≤ b ∧ b ≤ 1) from fun w => z w.1)]
  rw [← e]
  refine P_X5_gust ?_
  unfold oX5_gust
  rw [k_isMin h]
  by_cases z : 0 ≤ a ∧ a < S 0 2
  · exact ⟨fun _ => trivial, fun _ => ⟨fun _ => trivial, fun _ => ⟨fun _ => ⟨⟨fun _ => by omega, fun _ => by omega⟩, trivial⟩, fun _ => trivial⟩⟩⟩
  · rw [if_neg z]
    exact ⟨fun _ => trivial, fun w => absurd rfl w⟩
theorem K_candidate {D : HP} {S : SC} (h : TC D 9 S) (a b : Int) : CT mX5_candidate [vR 0, vI a, vI b] D (PF (vI (vCand S a b)) D) := by
  have h3 := h.1.2.2.2.1
  have e : fX5_candidate D a b = vCand S a b := by
    unfold fX5_candidate vCand
    rw [k_isCan h]
    simp only [b10, ite_not]
    by_cases z : 0 ≤ a ∧ a < S 0 3
    · have g := h.2.2.1.2.2.2 a.toNat (by omega)
      have g1 : D 16 a.toNat = S 6 a.toNat := g.1
      have g2 : D 17 a.toNat = S 7 a.toNat := g.2.1
      have g3 : D 18 a.toNat = S 8 a.toNat := g.2.2
      have g4 := k_some h (k := a.toNat) (by omega)
      rw [show ((a.toNat : Nat) : Int) = a by omega] at g4
      rw [if_pos z, g1, g2, g3, g4]
      unfold vCandOf
      by_cases y : 0 ≤ b ∧ b ≤ 3
      · rw [if_pos (show (0 ≤ a ∧ a < S 0 3) ∧ 0 ≤ b ∧ b ≤ 3 from ⟨z, y⟩)]
        rcases (show b = 0 ∨ b = 1 ∨ b = 2 ∨ b = 3 by omega) with rfl | rfl | rfl | rfl
        · rfl
        · rfl
        · rfl
        · cases som S a.toNat <;> rfl
      · rw [if_neg (show ¬ ((0 ≤ a ∧ a < S 0 3) ∧ 0 ≤ b ∧ b ≤ 3) from fun w => y w.2)]
        repeat' split
        all_goals first | rfl | omega
    · rw [if_neg z, if_neg (show ¬ ((0 ≤ a ∧ a < S 0 3) ∧ 0 ≤ b ∧ b ≤ 3) from fun w => z w.1)]
  rw [← e]
  refine P_X5_candidate ?_
  unfold oX5_candidate
  rw [k_isCan h]
  by_cases z : 0 ≤ a ∧ a < S 0 3
  · exact ⟨fun _ => trivial, fun _ => ⟨fun _ => ⟨by omega, trivial⟩, fun _ => ⟨by omega, trivial⟩, fun _ => ⟨by omega, trivial⟩, fun _ => trivial⟩⟩
  · rw [if_neg z]
    exact ⟨fun _ => trivial, fun w => absurd rfl w⟩
theorem K_wind {D : HP} {S : SC} (h : TC D 9 S) (a b : Int) : CT mX5_wind [vR 0, vI a, vI b] D (PF (vI (vWind S a b)) D) := by
  have h2 := h.1.2.2.1
  have e : fX5_wind D a b = vWind S a b := by
    unfold fX5_wind vWind
    rw [k_isMin h, cs_cell h.1 h.2.2.1]
    simp only [b10, ite_not]
    by_cases z : 0 ≤ a ∧ a < S 0 2
    · rw [if_pos z]
      by_cases y : 0 ≤ b ∧ b < S 0 1
      · have g := k_wind h (m := a.toNat) (c := b.toNat) (by omega) (by omega)
        rw [show ((a.toNat : Nat) : Int) = a by omega, show ((b.toNat : Nat) : Int) = b by omega] at g
        rw [if_pos y, if_pos (show (0 ≤ a ∧ a < S 0 2) ∧ 0 ≤ b ∧ b < S 0 1 from ⟨z, y⟩), g]
      · rw [if_neg y, if_neg (show ¬ ((0 ≤ a ∧ a < S 0 2) ∧ 0 ≤ b ∧ b < S 0 1) from fun w => y w.2)]
    · rw [if_neg z, if_neg (show ¬ ((0 ≤ a ∧ a < S 0 2) ∧ 0 ≤ b ∧ b < S 0 1) from fun w => z w.1)]
  rw [← e]
  refine P_X5_wind ?_
  unfold oX5_wind
  rw [k_isMin h]
  by_cases z : 0 ≤ a ∧ a < S 0 2
  · have g := cs_windo h.1 h.2.2.1 h.2.2.2.1 (m := a.toNat) (by omega) b
    rw [show ((a.toNat : Nat) : Int) = a by omega] at g
    exact ⟨fun _ => trivial, fun _ => ⟨fun _ => trivial, fun _ => ⟨g, trivial⟩⟩⟩
  · rw [if_neg z]
    exact ⟨fun _ => trivial, fun w => absurd rfl w⟩
theorem K_ribs {D : HP} {S : SC} (h : TC D 9 S) (a b : Int) : CT mX5_ribs [vR 0, vI a, vI b] D (PF (vI (vRibs S a b)) D) := by
  have h2 := h.1.2.2.1
  have h3 := h.1.2.2.2.1
  have e : fX5_ribs D a b = vRibs S a b := by
    unfold fX5_ribs vRibs
    rw [k_isMin h, k_isCan h]
    simp only [b10, ite_not]
    by_cases z : 0 ≤ a ∧ a < S 0 2
    · rw [if_pos z]
      by_cases y : 0 ≤ b ∧ b < S 0 3
      · have g := k_ribs h (m := a.toNat) (k := b.toNat) (by omega) (by omega)
        rw [show ((a.toNat : Nat) : Int) = a by omega, show ((b.toNat : Nat) : Int) = b by omega] at g
        rw [if_pos y, if_pos (show (0 ≤ a ∧ a < S 0 2) ∧ 0 ≤ b ∧ b < S 0 3 from ⟨z, y⟩), g]
      · rw [if_neg y, if_neg (show ¬ ((0 ≤ a ∧ a < S 0 2) ∧ 0 ≤ b ∧ b < S 0 3) from fun w => y w.2)]
    · rw [if_neg z, if_neg (show ¬ ((0 ≤ a ∧ a < S 0 2) ∧ 0 ≤ b ∧ b < S 0 3) from fun w => z w.1)]
  rw [← e]
  refine P_X5_ribs ?_
  unfold oX5_ribs oX0_ribsAhead
  rw [k_isMin h, k_isCan h]
  by_cases z : 0 ≤ a ∧ a < S 0 2
  · refine ⟨fun _ => trivial, fun _ => ?_⟩
    by_cases y : 0 ≤ b ∧ b < S 0 3
    · exact ⟨fun _ => trivial, fun _ => ⟨⟨by unfold c32; omega, by unfold c32; omega, ⟨fun _ => trivial, fun _ => ⟨fun _ => trivial, fun _ => by omega⟩⟩, trivial⟩, trivial⟩⟩
    · rw [if_neg y]
      exact ⟨fun _ => trivial, fun w => absurd rfl w⟩
  · rw [if_neg z]
    exact ⟨fun _ => trivial, fun w => absurd rfl w⟩
