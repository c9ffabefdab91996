/-! ===== the class: plans, on the course at 25 ===== -/
theorem TC_fr {D E : HP} {S : SC} (h : TC D 9 S) (e : ∀ a i, 9 ≤ a → a < 25 → E a i = D a i) : TC E 9 S := by
  obtain ⟨hok, hd, hM, hV, ⟨⟨⟨s1, s2⟩, hT, hr, hx⟩, hD⟩⟩ := h
  have ee : ∀ a i, a < 16 → E (9 + a) i = D (9 + a) i := fun a i q => e _ i (by omega) (by omega)
  have e0 : ∀ i, E 9 i = D 9 i := fun i => e 9 i (by omega) (by omega)
  refine ⟨hok, hd, CS_of hM (fun a i q => e a i (by omega) (by omega)), fun w hw c hc => ?_, ⟨⟨?_, fun c hc => ?_⟩, fun j hj => ?_, fun j hj k hk => ?_, fun j hj => ?_⟩, fun j hj => ?_⟩
  · rw [ee _ _ (by decide), ee _ _ (by decide)]; exact hV w hw c hc
  · rw [e0]; exact s1
  · rw [ee _ _ (by decide)]; exact s2 c hc
  · unfold TD; rw [ee _ _ (by decide)]; exact hT j hj
  · rw [ee _ _ (by decide)]; exact hr j hj k hk
  · rw [ee _ _ (by decide), ee _ _ (by decide), ee _ _ (by decide)]; exact hx j hj
  · rw [ee _ _ (by decide), ee _ _ (by decide), ee _ _ (by decide)]; exact hD j hj
theorem bes_up {S : SC} {r : Nat} (hr : r ≠ 0) (i : Nat) (z c w : Int) : bes (upS S r i z) c w = bes S c w := by
  unfold bes
  rw [upS_r S z (Ne.symm hr), upS_r S z (Ne.symm hr)]
theorem layS_up {S : SC} {r : Nat} (hr : r ≠ 0 ∧ r ≠ 1) (i : Nat) (z c w : Int) : layS (upS S r i z) c w = layS S c w := by
  have w1 : ∀ c, wal (upS S r i z) c = wal S c := fun c => by unfold wal; rw [upS_r S z (Ne.symm hr.2)]
  unfold layS
  simp only [bes_up hr.1, w1]
theorem SV_up {D : HP} {o : Nat} {S : SC} (h : SV D o S) {r : Nat} (hr : r ≠ 0 ∧ r ≠ 1) (i : Nat) (z : Int) : SV D o (upS S r i z) := fun w hw c hc => by
  rw [upS_r S z (Ne.symm hr.1)] at hc
  rw [bes_up hr.1, layS_up hr]
  exact h w hw c hc
theorem CS_up {D : HP} {o : Nat} {S : SC} (hM : CS D o S) {r : Nat} (hr : r = 6 ∨ r = 7) (i : Nat) (z : Int) : CS (hu D (o + 1 + r) i z) o (upS S r i z) := by
  have c0 : ∀ j, upS S r i z 0 j = S 0 j := fun j => upS_r S z (by omega)
  have row : ∀ q j : Nat, (q = 6 ∨ q = 7) → D (o + 1 + q) j = S q j → hu D (o + 1 + r) i z (o + 1 + q) j = upS S r i z q j := fun q j hq h => by
    by_cases e : q = r
    · subst e
      by_cases f : j = i
      · subst f; rw [hu_s, upS_s]
      · rw [hu_i _ _ f, upS_i _ _ f, h]
    · rw [hu_k _ _ (by omega), upS_r _ _ e, h]
  refine ⟨⟨fun q => ?_, ?_, ?_, ?_⟩, fun j hj => ?_, fun m hm => ?_, fun k hk => ?_⟩
  · rw [c0] at q ⊢; rw [hu_k _ _ (by omega)]; exact hM.1.1 q
  · rw [c0, hu_k _ _ (by omega)]; exact hM.1.2.1
  · rw [c0, hu_k _ _ (by omega)]; exact hM.1.2.2.1
  · rw [c0, hu_k _ _ (by omega)]; exact hM.1.2.2.2
  · rw [c0] at hj; rw [hu_k _ _ (by omega), upS_r _ _ (by omega)]; exact hM.2.1 j hj
  · rw [c0] at hm; rw [hu_k _ _ (by omega), hu_k _ _ (by omega), upS_r _ _ (by omega), upS_r _ _ (by omega)]; exact hM.2.2.1 m hm
  · rw [c0] at hk
    have g := hM.2.2.2 k hk
    exact ⟨row 6 k (by decide) g.1, row 7 k (by decide) g.2.1, by rw [hu_k _ _ (by omega), upS_r _ _ (by omega)]; exact g.2.2⟩
theorem k_freeFor {D : HP} {S : SC} (h : TC D 9 S) {k : Nat} (hk : (k : Int) < S 0 3) {c : Nat} (hc : (c : Int) < S 0 1) : fX0_isFreeFor D 9 k c = if S 1 c = 0 ∧ tak S c k = false then 1 else 0 := by
  have hok := h.1
  have h1 := hok.2.1
  have h3 := hok.2.2.2.1
  unfold fX0_isFreeFor
  rw [cs_cell hok h.2.2.1, cs_wall hok h.2.2.1 (Or.inr ⟨by omega, hc⟩), show ((c : Int)).toNat = c by omega]
  simp only [b10, ite_not]
  rw [if_pos (show 0 ≤ (c : Int) ∧ (c : Int) < S 0 1 by omega)]
  have hw : wal S c = true ↔ ¬ S 1 c = 0 := by
    unfold wal
    rw [decide_eq_true_eq, show ((c : Int)).toNat = c by omega]
    exact ⟨fun y => y.2, fun y => ⟨by omega, y⟩⟩
  by_cases z : S 1 c = 0
  · rw [if_neg (fun y => hw.1 y z)]
    have hb := ((h.2.2.2.2.1.1.2 c (by omega)).but (BS.one (k := k) (by omega))).em
    have ht : tak S c k = false ↔ (b_iand (D (9 + 10) c) (b_ixor (b_ishl 1 (k : Int)) (-1))) = 0 := by
      rw [hb]
      unfold tak
      rw [← Bool.not_eq_true, exB_iff]
      constructor
      · intro y j hj
        cases hq : ((decide ((j : Int) < S 0 3) && (som S j && decide (S 6 j = c))) && !(decide (j = k)))
        · rfl
        · simp at hq
          exact absurd ⟨j, by omega, by simp [hq.1.2.2]; omega⟩ y
      · rintro y ⟨j, hj, w⟩
        rw [decide_eq_true_eq] at w
        have := y j (by omega)
        have sj : som S j = true := by unfold som; rw [w.2]; simp; exact ⟨hc, z⟩
        have njk : ¬ j = k := by omega
        simp [sj, w.2, njk] at this
        omega
    by_cases y : tak S c k = false
    · rw [if_pos (ht.1 y), if_pos ⟨z, y⟩]
    · rw [if_neg (fun w => y (ht.2 w)), if_neg (fun w => y w.2)]
  · rw [if_pos (hw.2 z), if_neg (fun w => z w.1)]
