/-! ===== the class: sightings ===== -/
def SGC (D : HP) : Prop := (0 ≤ D 41 0 ∧ D 41 0 ≤ 8) ∧ ∀ i : Nat, (i : Int) < D 41 0 → (0 ≤ D 42 i ∧ D 42 i ≤ 11) ∧ 0 ≤ D 43 i ∧ D 43 i ≤ 8
theorem C_append {D : HP} {a b : Int} (h : 0 ≤ D 41 0 ∧ D 41 0 < 8) : CT mX4_append [vR 41, vI a, vI b] D (fun v E => v = none ∧ E = hu (hu (hu D 42 (D 41 0).toNat a) 43 (D 41 0).toNat b) 41 0 (D 41 0 + 1)) := by
  refine V_X4_append a b (fun _ _ _ => ⟨fun q => absurd q (by omega), fun _ => ⟨fun q => absurd q (by omega), fun _ => ⟨h, fun E3 e3 => ?_⟩⟩⟩)
  have g3 : E3 41 0 = D 41 0 := by rw [e3, hu_k _ _ (by decide)]
  rw [g3]
  refine ⟨h, fun E5 e5 => ?_⟩
  have g5 : E5 41 0 = D 41 0 := by rw [e5, hu_k _ _ (by decide), g3]
  rw [g5]
  refine ⟨by unfold c32; omega, fun E7 e7 => ⟨rfl, ?_⟩⟩
  rw [e7, e5, e3]
def seenC (D : HP) (a b : Int) : HP := hu (hu (hu (hu D 42 (D 41 0).toNat a) 43 (D 41 0).toNat b) 41 0 (D 41 0 + 1)) 0 7 (-1)
theorem K_seen {D : HP} (hG : 0 ≤ D 41 0 ∧ D 41 0 ≤ 8) (a b : Int) : CT mX5_seen [vR 0, vI a, vI b] D (fun v E => if (0 ≤ a ∧ a ≤ 11) ∧ 0 ≤ b ∧ b ≤ 8 then (if D 41 0 = 8 then v = some (vI (-4)) ∧ E = D else v = some (vI (D 41 0 + 1)) ∧ E = seenC D a b) else v = some (vI (-2)) ∧ E = D) := by
  have e : fX4_isSighting D a b = if (0 ≤ a ∧ a ≤ 11) ∧ 0 ≤ b ∧ b ≤ 8 then 1 else 0 := by
    unfold fX4_isSighting
    repeat' split
    all_goals omega
  have f : fX4_isFull D = if D 41 0 = 8 then 1 else 0 := by
    unfold fX4_isFull
    repeat' split
    all_goals omega
  refine V_X5_seen a b (fun _ _ _ => ?_)
  rw [e, f, b10, b10]
  refine ⟨fun q => by rw [if_neg q]; exact ⟨rfl, rfl⟩, fun q => ⟨fun q8 => ⟨_, C_append (by omega), ?_⟩, fun q8 => ?_⟩⟩
  · rintro E6 ⟨-, e6⟩ _ E10 e10
    rw [if_pos (Decidable.of_not_not q), if_neg q8]
    refine ⟨?_, by rw [e10, e6]; rfl⟩
    rw [e10, hu_k _ _ (by decide), e6, hu_s]
  · rw [if_pos (Decidable.of_not_not q), if_pos (Decidable.of_not_not q8)]
    exact ⟨rfl, rfl⟩
theorem K_forget (D : HP) : CT mX5_forget [vR 0] D (fun v E => v = some (vI (D 41 0)) ∧ E = hu (hu D 41 0 0) 0 7 (-1)) :=
  V_X5_forget (fun _ E1 e1 E3 e3 => ⟨rfl, by rw [e3, e1]⟩)
