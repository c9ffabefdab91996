set_option maxHeartbeats 4000000 in
theorem K_move {D : HP} {S : SC} (h : TC D 9 S) (a : Int) : CT mX5_move [vR 0, vI a] D (fun v E => v = some (vI (vMove S a)) ∧ FR D E) := by
  have hok := h.1
  have h1 := hok.2.1
  have bad : ¬ (0 ≤ a ∧ a ≤ 1) → some (vI (-2)) = some (vI (vMove S a)) ∧ FR D D := fun q => ⟨by unfold vMove; rw [if_neg q], FR.rf D⟩
  refine V_X5_move a
    (fun x1 x2 x3 x4 E => x1 = a ∧ (0 ≤ a ∧ a ≤ 1) ∧ (∃ c : Nat, x4 = c ∧ (c : Int) ≤ S 0 1 ∧ x2 = cntB (mvP S) (4 * c) ∧ x3 = fsN (mvP S) (4 * c)) ∧ FR D E) (fun _ _ _ x4 _ => (S 0 1 - x4).toNat * 10)
    (fun x1 x2 x3 x4 x5 E => x1 = a ∧ (0 ≤ a ∧ a ≤ 1) ∧ (∃ c w : Nat, x4 = c ∧ x5 = w ∧ w ≤ 4 ∧ (c : Int) < S 0 1 ∧ x2 = cntB (mvP S) (4 * c + w) ∧ x3 = fsN (mvP S) (4 * c + w)) ∧ FR D E) (fun _ _ _ x4 x5 _ => (S 0 1 - x4 - 1).toNat * 10 + (4 - x5).toNat + 1)
    (fun _ _ => ⟨fun q => bad (by omega), fun q0 => ⟨fun q1 => ⟨rfl, by omega, ⟨0, rfl, by omega, rfl, rfl⟩, FR.rf D⟩, fun q => bad (by omega)⟩⟩) ?_ ?_
  · rintro x1 x2 x3 x4 E ⟨rfl, hb, ⟨c, rfl, hc, rfl, rfl⟩, hF⟩ _ _ _ _ _
    have e1 : E 10 1 = S 0 1 := (hF.TC h).2.2.1.1.2.1
    rw [e1]
    refine ⟨fun q => ⟨?_, hF⟩, fun q => ⟨⟨rfl, hb, ⟨c, 0, rfl, rfl, by omega, by omega, rfl, rfl⟩, hF⟩, by omega⟩⟩
    unfold vMove vMoveOf mvN
    rw [if_pos hb, show (S 0 1).toNat = c by omega]
  · rintro x1 x2 x3 x4 x5 E ⟨rfl, hb, ⟨c, w, rfl, rfl, hw, hc, rfl, rfl⟩, hF⟩ _ _ _ _ _ _
    refine ⟨fun q => ⟨by unfold c32; omega, ⟨rfl, hb, ⟨c + 1, by omega, by omega, ?_, ?_⟩, hF⟩, by omega⟩, fun q => ⟨_, C_movesAnotherIn (hF.TC h) hc (by omega), ?_⟩⟩
    · rw [show 4 * (c + 1) = 4 * c + w by omega]
    · rw [show 4 * (c + 1) = 4 * c + w by omega]
    · rintro r E5 ⟨hr, hF5⟩ _ _
      have hr := vIj hr
      have cb := cntB_in (mvP S) (4 * c + w)
      have fb := fsN_in (p := mvP S) (4 * c + w)
      have e1 : cntB (mvP S) (4 * c + (w + 1)) = cntB (mvP S) (4 * c + w) + if mvP S (4 * c + w) = true then 1 else 0 := rfl
      have e2 : fsN (mvP S) (4 * c + (w + 1)) = if fsN (mvP S) (4 * c + w) ≠ -1 then fsN (mvP S) (4 * c + w) else if mvP S (4 * c + w) = true then ((4 * c + w : Nat) : Int) else -1 := rfl
      refine ⟨⟨fun _ => trivial, fun _ => ⟨by unfold c32; omega, fun _ => ⟨by unfold c32; omega, by unfold c32; omega⟩, fun _ => trivial⟩⟩, by unfold c32; omega, ⟨rfl, hb, ⟨c, w + 1, rfl, by omega, by omega, hc, ?_, ?_⟩, hF.tr hF5⟩, by omega⟩
      · rw [e1, hr]
        by_cases y : mvP S (4 * c + w) = true
        · rw [if_pos y, if_neg (by decide)]
        · rw [if_neg y, if_pos rfl]; omega
      · rw [e2, hr]
        by_cases y : mvP S (4 * c + w) = true
        · rw [if_pos y, if_neg (by decide), if_pos y]
          by_cases z : fsN (mvP S) (4 * c + w) = -1
          · rw [if_pos z, if_neg (fun u => u z)]; omega
          · rw [if_neg z, if_pos z]
        · rw [if_neg y, if_pos rfl, if_neg y]
          by_cases z : fsN (mvP S) (4 * c + w) = -1
          · rw [if_neg (fun u => u z), z]
          · rw [if_pos z]
