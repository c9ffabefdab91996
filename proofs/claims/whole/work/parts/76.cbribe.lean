theorem TC_run {E : HP} {S : SC} (hok : OKS S) (hd : DV S) (hM : CS E 25 S) (hV : SV E 25 S) (hD : DC E 25 S) : TC E 25 S := ⟨hok, hd, hM, hV, hD⟩
theorem DV_up {S : SC} (h : DV S) {r : Nat} (hr : r ≠ 0) (i : Nat) (z : Int) : DV (upS S r i z) := by
  unfold DV
  rw [upS_r S z (Ne.symm hr), upS_r S z (Ne.symm hr)]
  exact h
set_option maxHeartbeats 4000000 in
theorem K_bribe {D : HP} {S : SC} (h : TC D 9 S) (a : Int) : CT mX5_bribe [vR 0, vI a] D (fun v E => v = some (vI (vBribe S a)) ∧ FR D E) := by
  have hok := h.1
  have h2 := hok.2.2.1
  have h3 := hok.2.2.2.1
  by_cases hq : 0 ≤ a ∧ a < S 0 3
  · obtain ⟨k, hk⟩ : ∃ k : Nat, a = k := ⟨a.toNat, by omega⟩
    subst hk
    have h7 := (hok.2.2.2.2.2.2 k (by omega)).2.1
    have ev : vBribe S k = fsN (brP S k) (S 7 k).toNat := by unfold vBribe vBribeOf; rw [if_pos hq, show ((k : Int)).toNat = k by omega]
    rw [ev]
    refine V_X5_bribe k
      (fun x1 x2 x3 E => x1 = k ∧ x2 = S 7 k ∧ (∃ c : Nat, x3 = c ∧ (c : Int) ≤ S 7 k ∧ ∀ y, y < c → brP S k y = false) ∧ (∃ z, CS E 25 (upS S 7 k z)) ∧ SV E 25 S ∧ FR D E) (fun _ x2 x3 _ => (x2 - x3).toNat)
      (fun _ _ => ?_) ?_
    · rw [k_isCan h, b10]
      refine ⟨fun q => absurd hq q, fun _ => ⟨_, C_tellAs hok h.2.2.1 h.2.2.2.1, ?_⟩⟩
      rintro E ⟨-, hM, hV, hF⟩ _
      have hF2 : FR D E := fun a i q => hF a i (by omega)
      refine ⟨by omega, rfl, ?_, ⟨0, rfl, by omega, fun y hy => absurd hy (Nat.not_lt_zero _)⟩, ⟨S 7 k, by rw [upS_me]; exact hM⟩, hV, hF2⟩
      rw [show ((k : Int)).toNat = k by omega]
      exact ((hF2.TC h).2.2.1.2.2.2 k (by omega)).2.1
    · rintro x1 x2 x3 E ⟨rfl, rfl, ⟨c, rfl, hc, hA⟩, ⟨z, hM⟩, hV, hF⟩ _ _ _ _
      refine ⟨fun q => ⟨?_, hF⟩, fun q => ⟨by unfold c32; omega, by omega, fun E11 hE => ?_⟩⟩
      · rw [show (S 7 k).toNat = c by omega, fsN_no hA]
      rw [show ((k : Int)).toNat = k by omega] at hE
      have hM11 : CS E11 25 (upS S 7 k (S 7 k - c)) := by
        have := CS_up hM (r := 7) (Or.inr rfl) k (S 7 k - c)
        rw [upS_up] at this
        rw [hE]; exact this
      have hV11 : SV E11 25 S := fun w hw j hj => by rw [hE, hu_k _ _ (by decide), hu_k _ _ (by decide)]; exact hV w hw j hj
      have hok7 := OKS_7 hok k (z := S 7 k - c) (by omega)
      refine ⟨_, C_run (Or.inr rfl) hok7 hM11 (SV_up hV11 (by decide) k _), ?_⟩
      rintro E5 ⟨-, hD5, hF5⟩ _
      have hM5 := hF5.CS hM11
      have hV5 : SV E5 25 S := hF5.SV hV11
      have hT5 : TC E5 25 (upS S 7 k (S 7 k - c)) := ⟨hok7, DV_up h.2.1 (by decide) k _, hM5, SV_up hV5 (by decide) k _, hD5⟩
      have hF11 : FR D E11 := hF.tr fun a i q => by rw [hE, hu_k _ _ (by omega)]
      have e2 : E5 (25 + 1) 2 = S 0 2 := by rw [hM5.1.2.2.1, upS_r _ _ (by decide)]
      rw [k_last hT5]
      refine ⟨⟨?_, oT_X0_whoIsIn _ _ _, trivial⟩, fun y => ⟨?_, hF11.tr hF5.R⟩, fun y => ⟨by unfold c32; omega, ⟨rfl, rfl, ⟨c + 1, by omega, by omega, fun j hj => ?_⟩, ⟨_, hM5⟩, hV5, hF11.tr hF5.R⟩, by omega⟩⟩
      · rw [e2]; unfold c32; omega
      · rw [fsN_yes hA (by unfold brP; exact decide_eq_true y) (by omega)]
      · by_cases e : j = c
        · subst e; unfold brP; exact decide_eq_false y
        · exact hA j (by omega)
  · refine V_X5_bribe a (fun _ _ _ _ => False) (fun _ _ _ _ => 0) (fun _ _ => ?_) (fun _ _ _ _ hf => hf.elim)
    rw [k_isCan h, b10]
    exact ⟨fun q => ⟨by unfold vBribe; rw [if_neg q], FR.rf D⟩, fun q => absurd hq q⟩
