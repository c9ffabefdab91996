set_option maxHeartbeats 4000000 in
theorem K_shield {D : HP} {S : SC} (h : TC D 9 S) (a : Int) : CT mX5_shield [vR 0, vI a] D (fun v E => v = some (vI (vShield S a)) ∧ FR D E) := by
  have hok := h.1
  have h1 := hok.2.1
  have h3 := hok.2.2.2.1
  by_cases hq : 0 ≤ a ∧ a < S 0 3
  · obtain ⟨k, hk⟩ : ∃ k : Nat, a = k := ⟨a.toNat, by omega⟩
    subst hk
    have ev : vShield S k = vShieldOf S k := by unfold vShield; rw [if_pos hq, show ((k : Int)).toNat = k by omega]
    rw [ev]
    refine V_X5_shield k
      (fun x1 x2 E => x1 = k ∧ trn S k ≠ -1 ∧ (∃ c : Nat, x2 = c ∧ (c : Int) ≤ S 0 3 ∧ ∀ y, y < c → decide (shF S k y ≠ -1) = false) ∧ FR D E) (fun _ x2 _ => (S 0 3 - x2).toNat)
      (fun _ _ => ?_) ?_
    · rw [k_isCan h, b10, k_turns h (by omega)]
      exact ⟨fun q => absurd hq q, fun _ => ⟨fun y => ⟨by unfold vShieldOf; rw [if_pos y], FR.rf D⟩, fun y => ⟨rfl, y, ⟨0, rfl, by omega, fun y hy => absurd hy (Nat.not_lt_zero _)⟩, FR.rf D⟩⟩⟩
    · rintro x1 x2 E ⟨rfl, ht, ⟨c, rfl, hc, hA⟩, hF⟩ _ _ _
      have hT := hF.TC h
      have e3 : E 10 3 = S 0 3 := hT.2.2.1.1.2.2.2
      rw [e3]
      have nx : decide (shF S k c ≠ -1) = false → ∀ y, y < c + 1 → decide (shF S k y ≠ -1) = false := fun w y hy => by
        by_cases e : y = c
        · rw [e]; exact w
        · exact hA y (by omega)
      refine ⟨fun q => ⟨?_, hF⟩, fun q => ⟨fun y => ⟨by unfold c32; omega, ⟨rfl, ht, ⟨c + 1, by omega, by omega, nx ?_⟩, hF⟩, by omega⟩, fun y => ⟨_, C_place hT (k := k) (o := c) (by omega) (by omega) (by omega), ?_⟩⟩⟩
      · unfold vShieldOf shO
        rw [if_neg ht, show (S 0 3).toNat = c by omega, fsN_no hA, if_pos rfl]
      · obtain rfl : c = k := by omega
        unfold shF
        rw [fsN_no (fun j _ => by unfold shP; exact decide_eq_false fun w => w.1 rfl)]
        rfl
      · rintro r E5 ⟨hr, hF5⟩ _ _
        have hr := vIj hr
        have hb := fsN_in (p := shP S k c) (S 0 1).toNat
        have hr2 : r = fsN (shP S k c) (S 0 1).toNat := hr
        refine ⟨fun w => ⟨by unfold c32; omega, ⟨rfl, ht, ⟨c + 1, by omega, by omega, nx (by rw [← hr, w]; rfl)⟩, hF.tr hF5⟩, by omega⟩, fun w => ⟨by unfold c32; omega, by unfold c32; omega, ?_, hF.tr hF5⟩⟩
        have e : shO S k = c := by
          unfold shO
          exact fsN_yes hA (decide_eq_true (by rw [← hr]; exact w)) (by omega)
        unfold vShieldOf
        rw [if_neg ht, e, if_neg (by omega), show ((c : Int)).toNat = c by omega, hr]
  · refine V_X5_shield a (fun _ _ _ => False) (fun _ _ _ => 0) (fun _ _ => ?_) (fun _ _ _ hf => hf.elim)
    rw [k_isCan h, b10]
    exact ⟨fun q => ⟨by unfold vShield; rw [if_neg q], FR.rf D⟩, fun q => absurd hq q⟩
