theorem K_overturns {D : HP} {S : SC} (h : TC D 9 S) (a b : Int) : CT mX5_overturns [vR 0, vI a, vI b] D (PF (vI (vOver S a b)) D) := by
  have h3 := h.1.2.2.2.1
  have e : fX5_overturns D a b = vOver S a b := by
    unfold fX5_overturns vOver
    rw [k_isCan h]
    simp only [b10, ite_not]
    by_cases z : 0 ≤ a ∧ a < S 0 3
    · have g1 := k_turns h (k := a.toNat) (by omega)
      have g2 := k_ret h (k := a.toNat) (by omega)
      have g3 := k_elec h (k := a.toNat) (by omega)
      have g4 : forS S a = forS S ((a.toNat : Nat) : Int) := by rw [show ((a.toNat : Nat) : Int) = a by omega]
      rw [show ((a.toNat : Nat) : Int) = a by omega] at g1 g2 g3
      rw [if_pos z, g1, g2, g3, k_for h]
      unfold vOverOf
      by_cases y : 0 ≤ b ∧ b ≤ 3
      · rw [if_pos (show (0 ≤ a ∧ a < S 0 3) ∧ 0 ≤ b ∧ b ≤ 3 from ⟨z, y⟩)]
        rcases (show b = 0 ∨ b = 1 ∨ b = 2 ∨ b = 3 by omega) with rfl | rfl | rfl | rfl
        · rfl
        · simp only [show ¬ (1 : Int) = 0 by decide, if_false, if_true]
          rcases retS_b S a.toNat with w | w <;> rw [w] <;> rfl
        · simp only [show ¬ (2 : Int) = 0 by decide, show ¬ (2 : Int) = 1 by decide, if_false, if_true]
          rcases eleS_b S a.toNat with w | w <;> rw [w] <;> rfl
        · simp only [show ¬ (3 : Int) = 0 by decide, show ¬ (3 : Int) = 1 by decide, show ¬ (3 : Int) = 2 by decide, if_false, if_true]
          rw [show ((a.toNat : Nat) : Int) = a by omega]
      · rw [if_neg (show ¬ ((0 ≤ a ∧ a < S 0 3) ∧ 0 ≤ b ∧ b ≤ 3) from fun w => y w.2)]
        repeat' split
        all_goals first | rfl | omega
    · rw [if_neg z, if_neg (show ¬ ((0 ≤ a ∧ a < S 0 3) ∧ 0 ≤ b ∧ b ≤ 3) from fun w => z w.1)]
  rw [← e]
  refine P_X5_overturns ?_
  unfold oX5_overturns oX0_isReturned oX0_isElected
  exact ⟨fun _ => trivial, fun _ => ⟨fun _ => trivial, fun _ => ⟨⟨⟨fun _ => trivial, fun _ => ⟨fun _ => trivial, fun _ => by omega⟩⟩, trivial⟩, trivial⟩, fun _ => ⟨⟨⟨fun _ => trivial, fun _ => ⟨fun _ => trivial, fun _ => by omega⟩⟩, trivial⟩, trivial⟩, fun _ => trivial⟩⟩
theorem K_in {D : HP} {S : SC} (h : TC D 9 S) (a : Int) : CT mX5_in [vR 0, vI a] D (PF (vI (vIn S a)) D) := by
  have e : fX5_in D a = vIn S a := by
    unfold fX5_in vIn
    rw [k_isMin h, k_who h]
    simp only [b10, ite_not]
    by_cases z : 0 ≤ a ∧ a < S 0 2
    · rw [if_pos z, if_pos z, if_pos z]
    · rw [if_neg z, if_neg z]
  rw [← e]
  exact P_X5_in ⟨⟨fun _ => trivial, fun _ => oT_X0_whoIsIn _ _ _⟩, trivial⟩
theorem K_first {D : HP} {S : SC} (h : TC D 9 S) (a : Int) : CT mX5_first [vR 0, vI a] D (PF (vI (vFirst S a)) D) := by
  have h2 := h.1.2.2.1
  have e2 : D 10 2 = S 0 2 := h.2.2.1.1.2.2.1
  have ef : fsN (fun m => decide (fX0_whoIsIn D 9 m ≠ -1)) (D 10 2).toNat = fstS S := by
    unfold fstS
    rw [e2]
    refine fsN_congr fun m hm => ?_
    rw [k_who h, if_pos (by omega), show ((m : Int)).toNat = m by omega]
  have e : fX5_first D a = vFirst S a := by
    unfold fX5_first vFirst vFirstOf
    rw [ef]
    by_cases z : 0 ≤ a ∧ a ≤ 1
    · rw [if_neg (by omega), if_neg (by omega), if_pos z]
      by_cases y : fstS S = -1
      · rw [if_pos y, if_pos y]
      · have g : 0 ≤ fstS S ∧ fstS S < S 0 2 := by
          have := fsN_in (p := fun i => decide (inn S i ≠ -1)) (S 0 2).toNat
          unfold fstS at *
          omega
        rw [if_neg y, if_neg y, k_who h, if_pos g]
    · rw [if_neg z]
      repeat' split
      all_goals first | rfl | omega
  rw [← e]
  exact P_X5_first trivial
theorem K_lulls {D : HP} {S : SC} (h : TC D 9 S) : CT mX5_lulls [vR 0] D (PF (vI (vLulls S)) D) := by
  have e : fX5_lulls D = vLulls S := by
    unfold fX5_lulls vLulls
    exact k_for h (-1)
  rw [← e]
  exact P_X5_lulls trivial
