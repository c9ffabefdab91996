/-- what a plan may write over -/
def FR (D E : HP) : Prop := ∀ a i, (a < 25 ∨ 40 < a) → E a i = D a i
theorem FR.rf (D : HP) : FR D D := fun _ _ _ => rfl
theorem FR.tr {D E F : HP} (h : FR D E) (g : FR E F) : FR D F := fun a i q => (g a i q).trans (h a i q)
theorem FR.TC {D E : HP} (h : FR D E) {S : SC} (hT : TC D 9 S) : TC E 9 S := TC_fr hT fun a i _ q => h a i (Or.inl q)
theorem FC.R {D E : HP} (h : FC 25 D E) : FR D E := fun a i q => h a i (by omega) (by omega)
set_option maxHeartbeats 4000000 in
theorem K_stand {D : HP} {S : SC} (h : TC D 9 S) (a b : Int) : CT mX5_stand [vR 0, vI a, vI b] D (fun v E => v = some (vI (vStand S a b)) ∧ FR D E) := by
  have hok := h.1
  have h1 := hok.2.1
  have h3 := hok.2.2.2.1
  have bad : ¬ ((0 ≤ a ∧ a < S 0 3) ∧ 0 ≤ b ∧ b ≤ 1) → some (vI (-2)) = some (vI (vStand S a b)) ∧ FR D D := fun q => ⟨by unfold vStand; rw [if_neg q], FR.rf D⟩
  by_cases hq : 0 ≤ a ∧ a < S 0 3
  · obtain ⟨k, hk⟩ : ∃ k : Nat, a = k := ⟨a.toNat, by omega⟩
    subst hk
    refine V_X5_stand k b
      (fun x1 x2 x3 x4 x5 E => x1 = k ∧ x2 = b ∧ (0 ≤ b ∧ b ≤ 1) ∧ (∃ c : Nat, x5 = c ∧ (c : Int) ≤ S 0 1 ∧ x3 = (stc S k c).1 ∧ x4 = (stc S k c).2) ∧ (∃ z, CS E 25 (upS S 6 k z)) ∧ SV E 25 S ∧ FR D E) (fun _ _ _ _ x5 _ => (S 0 1 - x5).toNat)
      (fun _ _ _ => ?_) ?_
    · rw [k_isCan h, b10]
      refine ⟨fun q => absurd hq q, fun _ => ⟨fun q => bad (by omega), fun q0 => ⟨fun q1 => ⟨_, C_tellAs hok h.2.2.1 h.2.2.2.1, ?_⟩, fun q => bad (by omega)⟩⟩⟩
      rintro E ⟨-, hM, hV, hF⟩ _
      exact ⟨rfl, rfl, ⟨by omega, q1⟩, ⟨0, rfl, by omega, rfl, rfl⟩, ⟨S 6 k, by rw [upS_me]; exact hM⟩, hV, fun a i q => hF a i (by omega)⟩
    · rintro x1 x2 x3 x4 x5 E ⟨rfl, rfl, hb, ⟨c, rfl, hc, rfl, rfl⟩, ⟨z, hM⟩, hV, hF⟩ _ _ _ _ _ _
      have hT := hF.TC h
      have e1 : E 10 1 = S 0 1 := hT.2.2.1.1.2.1
      rw [e1]
      refine ⟨fun q => ⟨?_, hF⟩, fun q => ⟨?_, ?_⟩⟩
      · unfold vStand vStandOf
        rw [if_pos (show (0 ≤ (k : Int) ∧ (k : Int) < S 0 3) ∧ 0 ≤ x2 ∧ x2 ≤ 1 from ⟨hq, hb⟩), show (((k : Int)).toNat) = k by omega, show (S 0 1).toNat = c by omega]
      · unfold oX0_isFreeFor
        exact ⟨⟨fun _ => trivial, fun _ => ⟨cs_wallo, fun _ => by omega, fun _ => trivial⟩⟩, trivial⟩
      have hst : stc S k (c + 1) = if stq S k c (stc S k c) = true then ((c : Int), trn (upS S 6 k c) k) else stc S k c := rfl
      rw [k_freeFor hT (by omega) (by omega), b10]
      refine ⟨fun y => ⟨by unfold c32; omega, ⟨rfl, rfl, hb, ⟨c + 1, by omega, by omega, ?_⟩, ⟨z, hM⟩, hV, hF⟩, by omega⟩, fun y => ⟨by omega, fun E16 hE => ?_⟩⟩
      · rw [hst, if_neg]
        · exact ⟨rfl, rfl⟩
        · unfold stq
          rw [decide_eq_true_eq]
          exact fun w => y ⟨w.1, w.2.1⟩
      have y : S 1 c = 0 ∧ tak S c k = false := Decidable.of_not_not y
      rw [show ((k : Int)).toNat = k by omega] at hE
      have hM16 : CS E16 25 (upS S 6 k c) := by
        have := CS_up hM (r := 6) (Or.inl rfl) k (c : Int)
        rw [upS_up] at this
        rw [hE]; exact this
      have hV16 : SV E16 25 S := fun w hw j hj => by rw [hE, hu_k _ _ (by decide), hu_k _ _ (by decide)]; exact hV w hw j hj
      have hok6 := OKS_6 hok k (z := c) (by omega)
      refine ⟨_, C_runUntilTurned (Or.inr rfl) hok6 hM16 (SV_up hV16 (by decide) k _) (k := k) (by rw [upS_r _ _ (by decide)]; omega), ?_⟩
      rintro r E5 ⟨hr, hF5⟩ _ _
      have hr := vIj hr
      subst hr
      have hM5 := hF5.CS hM16
      have hV5 : SV E5 25 S := hF5.SV hV16
      have hF16 : FR D E16 := hF.tr fun a i q => by rw [hE, hu_k _ _ (by omega)]
      refine ⟨by unfold c32; omega, ⟨rfl, rfl, hb, ⟨c + 1, by omega, by omega, ?_⟩, ⟨c, hM5⟩, hV5, hF16.tr hF5.R⟩, by omega⟩
      rw [hst]
      unfold stq
      have hp : ∀ n : Nat, (stc S k n).1 = -1 ↔ (stc S k n).2 = -1 := fun n => by
        induction n with
        | zero => exact ⟨fun _ => rfl, fun _ => rfl⟩
        | succ n ih =>
          rw [show stc S k (n + 1) = if stq S k n (stc S k n) = true then ((n : Int), trn (upS S 6 k n) k) else stc S k n from rfl]
          by_cases w : stq S k n (stc S k n) = true
          · rw [if_pos w]
            unfold stq at w
            rw [decide_eq_true_eq] at w
            constructor
            · intro u
              have u : (n : Int) = -1 := u
              omega
            · intro u; exact absurd u w.2.2.1
          · rw [if_neg w]; exact ih
      have hpc := hp c
      generalize stc S k c = p at *
      generalize trn (upS S 6 k c) k = t at *
      obtain ⟨p1, p2⟩ := p
      have hpc : p1 = -1 ↔ p2 = -1 := hpc
      by_cases w : t = -1
      · rw [if_pos w, if_pos w, if_neg (by rw [decide_eq_true_eq]; exact fun u => u.2.2.1 w)]
        exact ⟨rfl, rfl⟩
      · rw [if_neg w, if_neg w]
        by_cases u : p2 = -1
        · rw [if_pos (show (p1, p2).2 = -1 from u), if_pos (show (p1, p2).2 = -1 from u), if_pos (by rw [decide_eq_true_eq]; exact ⟨y.1, y.2, w, Or.inl (hpc.2 u)⟩)]
          exact ⟨rfl, rfl⟩
        · rw [if_neg (show ¬ (p1, p2).2 = -1 from u), if_neg (show ¬ (p1, p2).2 = -1 from u)]
          by_cases s : p2 ≤ t
          · rw [if_pos (show (p1, p2).2 ≤ t from s), if_pos (show (p1, p2).2 ≤ t from s), if_neg]
            · exact ⟨rfl, rfl⟩
            · rw [decide_eq_true_eq]
              rintro ⟨-, -, -, g⟩
              have g : p1 = -1 ∨ t < p2 := g
              omega
          · rw [if_neg (show ¬ (p1, p2).2 ≤ t from s), if_neg (show ¬ (p1, p2).2 ≤ t from s), if_pos (by rw [decide_eq_true_eq]; exact ⟨y.1, y.2, w, Or.inr (by show t < p2; omega)⟩)]
            exact ⟨rfl, rfl⟩
  · refine V_X5_stand a b (fun _ _ _ _ _ _ => False) (fun _ _ _ _ _ _ => 0) (fun _ _ _ => ?_) (fun _ _ _ _ _ _ hf => hf.elim)
    rw [k_isCan h, b10]
    exact ⟨fun q => bad (fun w => q w.1), fun q => absurd hq q⟩
