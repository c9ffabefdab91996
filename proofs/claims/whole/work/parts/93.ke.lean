/-! ===== the class: what its askers answer, and that they may be asked (made by wip/whole/genke.py out of 71, 72) ===== -/
theorem ke_cell {D : HP} {S : SC} (h : TC D 9 S) (a : Int) : fX5_cell D a = vCell S a := by
  have hok := h.1
  have h1 := hok.2.1
  unfold fX5_cell vCell
  by_cases z : 0 ≤ a ∧ a ≤ 24
  · rw [if_neg (by omega), if_pos (by omega), if_pos z, cs_cell hok h.2.2.1]
    simp only [b10, ite_not]
    by_cases y : a < S 0 1
    · rw [if_pos (show 0 ≤ a ∧ a < S 0 1 from ⟨z.1, y⟩), if_pos y, cs_wall hok h.2.2.1 (Or.inr ⟨z.1, y⟩)]
      unfold wal
      rcases hok.2.2.2.2.1 a.toNat (by omega) with w | w <;> rw [w] <;> simp <;> omega
    · rw [if_neg (show ¬ (0 ≤ a ∧ a < S 0 1) from fun w => y w.2), if_neg y]
  · rw [if_neg z]
    repeat' split
    all_goals first | rfl | omega
theorem ko_cell {D : HP} {S : SC} (h : TC D 9 S) (a : Int) : oX5_cell D a := by
  have hok := h.1
  have h1 := hok.2.1
  exact ⟨fun _ => trivial, fun _ => ⟨fun _ => ⟨fun _ => trivial, fun _ => ⟨cs_wallo, trivial⟩⟩, fun _ => trivial⟩⟩
theorem ke_gust {D : HP} {S : SC} (h : TC D 9 S) (a b : Int) : fX5_gust D a b = vGust S a b := by
  have h2 := h.1.2.2.1
  unfold fX5_gust vGust
  rw [k_isMin h]
  simp only [b10, ite_not]
  by_cases z : 0 ≤ a ∧ a < S 0 2
  · have g := h.2.2.1.2.2.1 a.toNat (by omega)
    have g1 : D 14 a.toNat = S 4 a.toNat := g.1
    have g2 : D 15 a.toNat = S 5 a.toNat := g.2
    rw [if_pos z, g1, g2]
    by_cases y : 0 ≤ b ∧ b ≤ 1
    · rw [if_neg (show ¬ b < 0 by omega), if_pos y.2, if_pos (show (0 ≤ a ∧ a < S 0 2) ∧ 0 ≤ b ∧ b ≤ 1 from ⟨z, y⟩)]
    · rw [if_neg (show ¬ ((0 ≤ a ∧ a < S 0 2) ∧ 0 ≤ b ∧ b ≤ 1) from fun w => y w.2)]
      repeat' split
      all_goals first | rfl | omega
  · rw [if_neg z, if_neg (show ¬ ((0 ≤ a ∧ a < S 0 2) ∧ 0 ≤ b ∧ b ≤ 1) from fun w => z w.1)]
theorem ko_gust {D : HP} {S : SC} (h : TC D 9 S) (a b : Int) : oX5_gust D a b := by
  have h2 := h.1.2.2.1
  unfold oX5_gust
  rw [k_isMin h]
  by_cases z : 0 ≤ a ∧ a < S 0 2
  · exact ⟨fun _ => trivial, fun _ => ⟨fun _ => trivial, fun _ => ⟨fun _ => ⟨⟨fun _ => by omega, fun _ => by omega⟩, trivial⟩, fun _ => trivial⟩⟩⟩
  · rw [if_neg z]
    exact ⟨fun _ => trivial, fun w => absurd rfl w⟩
theorem ke_candidate {D : HP} {S : SC} (h : TC D 9 S) (a b : Int) : fX5_candidate D a b = vCand S a b := by
  have h3 := h.1.2.2.2.1
  unfold fX5_candidate vCand
  rw [k_isCan h]
  simp only [b10, ite_not]
  by_cases z : 0 ≤ a ∧ a < S 0 3
  · have g := h.2.2.1.2.2.2 a.toNat (by omega)
    have g1 : D 16 a.toNat = S 6 a.toNat := g.1
    have g2 : D 17 a.toNat = S 7 a.toNat := g.2.1
    have g3 : D 18 a.toNat = S 8 a.toNat := g.2.2
    have g4 := k_some h (k := a.toNat) (by omega)
    rw [show ((a.toNat : Nat) : Int) = a by omega] at g4
    rw [if_pos z, g1, g2, g3, g4]
    unfold vCandOf
    by_cases y : 0 ≤ b ∧ b ≤ 3
    · rw [if_pos (show (0 ≤ a ∧ a < S 0 3) ∧ 0 ≤ b ∧ b ≤ 3 from ⟨z, y⟩)]
      rcases (show b = 0 ∨ b = 1 ∨ b = 2 ∨ b = 3 by omega) with rfl | rfl | rfl | rfl
      · rfl
      · rfl
      · rfl
      · cases som S a.toNat <;> rfl
    · rw [if_neg (show ¬ ((0 ≤ a ∧ a < S 0 3) ∧ 0 ≤ b ∧ b ≤ 3) from fun w => y w.2)]
      repeat' split
      all_goals first | rfl | omega
  · rw [if_neg z, if_neg (show ¬ ((0 ≤ a ∧ a < S 0 3) ∧ 0 ≤ b ∧ b ≤ 3) from fun w => z w.1)]
theorem ko_candidate {D : HP} {S : SC} (h : TC D 9 S) (a b : Int) : oX5_candidate D a b := by
  have h3 := h.1.2.2.2.1
  unfold oX5_candidate
  rw [k_isCan h]
  by_cases z : 0 ≤ a ∧ a < S 0 3
  · exact ⟨fun _ => trivial, fun _ => ⟨fun _ => ⟨by omega, trivial⟩, fun _ => ⟨by omega, trivial⟩, fun _ => ⟨by omega, trivial⟩, fun _ => trivial⟩⟩
  · rw [if_neg z]
    exact ⟨fun _ => trivial, fun w => absurd rfl w⟩
theorem ke_wind {D : HP} {S : SC} (h : TC D 9 S) (a b : Int) : fX5_wind D a b = vWind S a b := by
  have h2 := h.1.2.2.1
  unfold fX5_wind vWind
  rw [k_isMin h, cs_cell h.1 h.2.2.1]
  simp only [b10, ite_not]
  by_cases z : 0 ≤ a ∧ a < S 0 2
  · rw [if_pos z]
    by_cases y : 0 ≤ b ∧ b < S 0 1
    · have g := k_wind h (m := a.toNat) (c := b.toNat) (by omega) (by omega)
      rw [show ((a.toNat : Nat) : Int) = a by omega, show ((b.toNat : Nat) : Int) = b by omega] at g
      rw [if_pos y, if_pos (show (0 ≤ a ∧ a < S 0 2) ∧ 0 ≤ b ∧ b < S 0 1 from ⟨z, y⟩), g]
    · rw [if_neg y, if_neg (show ¬ ((0 ≤ a ∧ a < S 0 2) ∧ 0 ≤ b ∧ b < S 0 1) from fun w => y w.2)]
  · rw [if_neg z, if_neg (show ¬ ((0 ≤ a ∧ a < S 0 2) ∧ 0 ≤ b ∧ b < S 0 1) from fun w => z w.1)]
theorem ko_wind {D : HP} {S : SC} (h : TC D 9 S) (a b : Int) : oX5_wind D a b := by
  have h2 := h.1.2.2.1
  unfold oX5_wind
  rw [k_isMin h]
  by_cases z : 0 ≤ a ∧ a < S 0 2
  · have g := cs_windo h.1 h.2.2.1 h.2.2.2.1 (m := a.toNat) (by omega) b
    rw [show ((a.toNat : Nat) : Int) = a by omega] at g
    exact ⟨fun _ => trivial, fun _ => ⟨fun _ => trivial, fun _ => ⟨g, trivial⟩⟩⟩
  · rw [if_neg z]
    exact ⟨fun _ => trivial, fun w => absurd rfl w⟩
theorem ke_ribs {D : HP} {S : SC} (h : TC D 9 S) (a b : Int) : fX5_ribs D a b = vRibs S a b := by
  have h2 := h.1.2.2.1
  have h3 := h.1.2.2.2.1
  unfold fX5_ribs vRibs
  rw [k_isMin h, k_isCan h]
  simp only [b10, ite_not]
  by_cases z : 0 ≤ a ∧ a < S 0 2
  · rw [if_pos z]
    by_cases y : 0 ≤ b ∧ b < S 0 3
    · have g := k_ribs h (m := a.toNat) (k := b.toNat) (by omega) (by omega)
      rw [show ((a.toNat : Nat) : Int) = a by omega, show ((b.toNat : Nat) : Int) = b by omega] at g
      rw [if_pos y, if_pos (show (0 ≤ a ∧ a < S 0 2) ∧ 0 ≤ b ∧ b < S 0 3 from ⟨z, y⟩), g]
    · rw [if_neg y, if_neg (show ¬ ((0 ≤ a ∧ a < S 0 2) ∧ 0 ≤ b ∧ b < S 0 3) from fun w => y w.2)]
  · rw [if_neg z, if_neg (show ¬ ((0 ≤ a ∧ a < S 0 2) ∧ 0 ≤ b ∧ b < S 0 3) from fun w => z w.1)]
theorem ko_ribs {D : HP} {S : SC} (h : TC D 9 S) (a b : Int) : oX5_ribs D a b := by
  have h2 := h.1.2.2.1
  have h3 := h.1.2.2.2.1
  unfold oX5_ribs oX0_ribsAhead
  rw [k_isMin h, k_isCan h]
  by_cases z : 0 ≤ a ∧ a < S 0 2
  · refine ⟨fun _ => trivial, fun _ => ?_⟩
    by_cases y : 0 ≤ b ∧ b < S 0 3
    · exact ⟨fun _ => trivial, fun _ => ⟨⟨by unfold c32; omega, by unfold c32; omega, ⟨fun _ => trivial, fun _ => ⟨fun _ => trivial, fun _ => by omega⟩⟩, trivial⟩, trivial⟩⟩
    · rw [if_neg y]
      exact ⟨fun _ => trivial, fun w => absurd rfl w⟩
  · rw [if_neg z]
    exact ⟨fun _ => trivial, fun w => absurd rfl w⟩
theorem ke_overturns {D : HP} {S : SC} (h : TC D 9 S) (a b : Int) : fX5_overturns D a b = vOver S a b := by
  have h3 := h.1.2.2.2.1
  unfold fX5_overturns vOver
  rw [k_isCan h]
  simp only [b10, ite_not]
  by_cases z : 0 ≤ a ∧ a < S 0 3
  · have g1 := k_turns h (k := a.toNat) (by omega)
    have g2 := k_ret h (k := a.toNat) (by omega)
    have g3 := k_elec h (k := a.toNat) (by omega)
    have g4 : forS S a = forS S ((a.toNat : Nat) : Int) := by rw [show ((a.toNat : Nat) : Int) = a by omega]
    rw [show ((a.toNat : Nat) : Int) = a by omega] at g1 g2 g3
    rw [if_pos z, g1, g2, g3, k_for h]
    unfold vOverOf
    by_cases y : 0 ≤ b ∧ b ≤ 3
    · rw [if_pos (show (0 ≤ a ∧ a < S 0 3) ∧ 0 ≤ b ∧ b ≤ 3 from ⟨z, y⟩)]
      rcases (show b = 0 ∨ b = 1 ∨ b = 2 ∨ b = 3 by omega) with rfl | rfl | rfl | rfl
      · rfl
      · simp only [show ¬ (1 : Int) = 0 by decide, if_false, if_true]
        rcases retS_b S a.toNat with w | w <;> rw [w] <;> rfl
      · simp only [show ¬ (2 : Int) = 0 by decide, show ¬ (2 : Int) = 1 by decide, if_false, if_true]
        rcases eleS_b S a.toNat with w | w <;> rw [w] <;> rfl
      · simp only [show ¬ (3 : Int) = 0 by decide, show ¬ (3 : Int) = 1 by decide, show ¬ (3 : Int) = 2 by decide, if_false, if_true]
        rw [show ((a.toNat : Nat) : Int) = a by omega]
    · rw [if_neg (show ¬ ((0 ≤ a ∧ a < S 0 3) ∧ 0 ≤ b ∧ b ≤ 3) from fun w => y w.2)]
      repeat' split
      all_goals first | rfl | omega
  · rw [if_neg z, if_neg (show ¬ ((0 ≤ a ∧ a < S 0 3) ∧ 0 ≤ b ∧ b ≤ 3) from fun w => z w.1)]
theorem ko_overturns {D : HP} {S : SC} (h : TC D 9 S) (a b : Int) : oX5_overturns D a b := by
  have h3 := h.1.2.2.2.1
  unfold oX5_overturns oX0_isReturned oX0_isElected
  exact ⟨fun _ => trivial, fun _ => ⟨fun _ => trivial, fun _ => ⟨⟨⟨fun _ => trivial, fun _ => ⟨fun _ => trivial, fun _ => by omega⟩⟩, trivial⟩, trivial⟩, fun _ => ⟨⟨⟨fun _ => trivial, fun _ => ⟨fun _ => trivial, fun _ => by omega⟩⟩, trivial⟩, trivial⟩, fun _ => trivial⟩⟩
theorem ke_in {D : HP} {S : SC} (h : TC D 9 S) (a : Int) : fX5_in D a = vIn S a := by
  unfold fX5_in vIn
  rw [k_isMin h, k_who h]
  simp only [b10, ite_not]
  by_cases z : 0 ≤ a ∧ a < S 0 2
  · rw [if_pos z, if_pos z, if_pos z]
  · rw [if_neg z, if_neg z]
theorem ko_in {D : HP} {S : SC} (h : TC D 9 S) (a : Int) : oX5_in D a := by
  exact ⟨⟨fun _ => trivial, fun _ => oT_X0_whoIsIn _ _ _⟩, trivial⟩
theorem ke_first {D : HP} {S : SC} (h : TC D 9 S) (a : Int) : fX5_first D a = vFirst S a := by
  have h2 := h.1.2.2.1
  have e2 : D 10 2 = S 0 2 := h.2.2.1.1.2.2.1
  have ef : fsN (fun m => decide (fX0_whoIsIn D 9 m ≠ -1)) (D 10 2).toNat = fstS S := by
    unfold fstS
    rw [e2]
    refine fsN_congr fun m hm => ?_
    rw [k_who h, if_pos (by omega), show ((m : Int)).toNat = m by omega]
  unfold fX5_first vFirst vFirstOf
  rw [ef]
  by_cases z : 0 ≤ a ∧ a ≤ 1
  · rw [if_neg (by omega), if_neg (by omega), if_pos z]
    by_cases y : fstS S = -1
    · rw [if_pos y, if_pos y]
    · have g : 0 ≤ fstS S ∧ fstS S < S 0 2 := by
        have := fsN_in (p := fun i => decide (inn S i ≠ -1)) (S 0 2).toNat
        unfold fstS at *
        omega
      rw [if_neg y, if_neg y, k_who h, if_pos g]
  · rw [if_neg z]
    repeat' split
    all_goals first | rfl | omega
theorem ko_first {D : HP} {S : SC} (h : TC D 9 S) (a : Int) : oX5_first D a := by
  have h2 := h.1.2.2.1
  have e2 : D 10 2 = S 0 2 := h.2.2.1.1.2.2.1
  have ef : fsN (fun m => decide (fX0_whoIsIn D 9 m ≠ -1)) (D 10 2).toNat = fstS S := by
    unfold fstS
    rw [e2]
    refine fsN_congr fun m hm => ?_
    rw [k_who h, if_pos (by omega), show ((m : Int)).toNat = m by omega]
  exact trivial
theorem ke_lulls {D : HP} {S : SC} (h : TC D 9 S)  : fX5_lulls D = vLulls S := by
  unfold fX5_lulls vLulls
  exact k_for h (-1)
theorem ko_lulls {D : HP} {S : SC} (h : TC D 9 S)  : oX5_lulls D  := by
  exact trivial
