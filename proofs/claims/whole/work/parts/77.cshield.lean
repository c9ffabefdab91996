theorem k_free {D : HP} {S : SC} (h : TC D 9 S) {c : Nat} (hc : (c : Int) < S 0 1) : fX0_isFree D 9 c = if S 1 c = 0 ∧ tak S c (-1) = false then 1 else 0 := by
  have hok := h.1
  have h1 := hok.2.1
  have h3 := hok.2.2.2.1
  unfold fX0_isFree
  rw [cs_cell hok h.2.2.1, cs_wall hok h.2.2.1 (Or.inr ⟨by omega, hc⟩), show ((c : Int)).toNat = c by omega]
  simp only [b10, ite_not]
  rw [if_pos (show 0 ≤ (c : Int) ∧ (c : Int) < S 0 1 by omega)]
  have hw : wal S c = true ↔ ¬ S 1 c = 0 := by
    unfold wal
    rw [decide_eq_true_eq, show ((c : Int)).toNat = c by omega]
    exact ⟨fun y => y.2, fun y => ⟨by omega, y⟩⟩
  by_cases z : S 1 c = 0
  · rw [if_neg (fun y => hw.1 y z)]
    have hb := (h.2.2.2.2.1.1.2 c (by omega)).em
    have ht : tak S c (-1) = false ↔ D (9 + 10) c = 0 := by
      rw [hb]
      unfold tak
      rw [← Bool.not_eq_true, exB_iff]
      constructor
      · intro y j hj
        cases hq : (decide ((j : Int) < S 0 3) && (som S j && decide (S 6 j = c)))
        · rfl
        · simp at hq
          exact absurd ⟨j, by omega, by simp [hq.2.2]⟩ y
      · rintro y ⟨j, hj, w⟩
        rw [decide_eq_true_eq] at w
        have := y j (by omega)
        have sj : som S j = true := by unfold som; rw [w.2]; simp; exact ⟨hc, z⟩
        simp [sj, w.2] at this
        omega
    by_cases y : tak S c (-1) = false
    · rw [if_pos (ht.1 y), if_pos ⟨z, y⟩]
    · rw [if_neg (fun w => y (ht.2 w)), if_neg (fun w => y w.2)]
  · rw [if_pos (hw.2 z), if_neg (fun w => z w.1)]
set_option maxHeartbeats 4000000 in
theorem C_place {D : HP} {S : SC} (h : TC D 9 S) {k o : Nat} (hk : (k : Int) < S 0 3) (ho : (o : Int) < S 0 3) (hn : o ≠ k) : CT mX5_placeToShield [vR 0, vI k, vI o] D (fun v E => v = some (vI (shF S k o)) ∧ FR D E) := by
  have hok := h.1
  have h1 := hok.2.1
  have h3 := hok.2.2.2.1
  refine V_X5_placeToShield k o
    (fun x1 x2 x3 E => x1 = k ∧ x2 = o ∧ (∃ c : Nat, x3 = c ∧ (c : Int) ≤ S 0 1 ∧ ∀ y, y < c → shP S k o y = false) ∧ (∃ z, CS E 25 (upS S 6 o z)) ∧ SV E 25 S ∧ FR D E) (fun _ _ x3 _ => (S 0 1 - x3).toNat)
    (fun _ _ _ => ⟨_, C_tellAs hok h.2.2.1 h.2.2.2.1, ?_⟩) ?_
  · rintro E ⟨-, hM, hV, hF⟩ _
    exact ⟨rfl, rfl, ⟨0, rfl, by omega, fun y hy => absurd hy (Nat.not_lt_zero _)⟩, ⟨S 6 o, by rw [upS_me]; exact hM⟩, hV, fun a i q => hF a i (by omega)⟩
  · rintro x1 x2 x3 E ⟨rfl, rfl, ⟨c, rfl, hc, hA⟩, ⟨z, hM⟩, hV, hF⟩ _ _ _ _
    have hT := hF.TC h
    have e1 : E 10 1 = S 0 1 := hT.2.2.1.1.2.1
    rw [e1]
    refine ⟨fun q => ⟨?_, hF⟩, fun q => ⟨?_, ?_⟩⟩
    · unfold shF
      rw [show (S 0 1).toNat = c by omega, fsN_no hA]
    · unfold oX0_isFree
      exact ⟨⟨fun _ => trivial, fun _ => ⟨cs_wallo, fun _ => by omega, fun _ => trivial⟩⟩, trivial⟩
    have nx : shP S k o c = false → ∀ y, y < c + 1 → shP S k o y = false := fun w y hy => by
      by_cases e : y = c
      · rw [e]; exact w
      · exact hA y (by omega)
    rw [k_free hT (by omega), b10]
    refine ⟨fun y => ⟨by unfold c32; omega, ⟨rfl, rfl, ⟨c + 1, by omega, by omega, nx ?_⟩, ⟨z, hM⟩, hV, hF⟩, by omega⟩, fun y => ⟨by omega, fun E16 hE => ?_⟩⟩
    · unfold shP; exact decide_eq_false fun w => y ⟨w.2.1, w.2.2.1⟩
    have y := Decidable.of_not_not y
    rw [show ((o : Int)).toNat = o by omega] at hE
    have hM16 : CS E16 25 (upS S 6 o c) := by
      have := CS_up hM (r := 6) (Or.inl rfl) o (c : Int)
      rw [upS_up] at this
      rw [hE]; exact this
    have hV16 : SV E16 25 S := fun w hw j hj => by rw [hE, hu_k _ _ (by decide), hu_k _ _ (by decide)]; exact hV w hw j hj
    have hok6 := OKS_6 hok o (z := c) (by omega)
    refine ⟨_, C_runUntilTurned (Or.inr rfl) hok6 hM16 (SV_up hV16 (by decide) o _) (k := k) (by rw [upS_r _ _ (by decide)]; omega), ?_⟩
    rintro r E5 ⟨hr, hF5⟩ _ _
    have hr := vIj hr
    subst hr
    have hF16 : FR D E16 := hF.tr fun a i q => by rw [hE, hu_k _ _ (by omega)]
    refine ⟨fun w => ⟨?_, hF16.tr hF5.R⟩, fun w => ⟨by unfold c32; omega, ⟨rfl, rfl, ⟨c + 1, by omega, by omega, nx ?_⟩, ⟨c, hF5.CS hM16⟩, hF5.SV hV16, hF16.tr hF5.R⟩, by omega⟩⟩
    · unfold shF
      rw [fsN_yes hA (by unfold shP; exact decide_eq_true ⟨hn, y.1, y.2, w⟩) (by omega)]
    · unfold shP; exact decide_eq_false fun u => w u.2.2.2
