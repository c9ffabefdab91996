/-- a text gets shorter in both -/
theorem short_both {D : HP} (h : RLB D) {a : Nat} (ha : a < 3) {n : Int} (hn : 0 ≤ n ∧ n ≤ D 57 a) : TXM (hu D 57 a n) ∧ TXA D (hu D 57 a n) a ∧ (∀ x i, x ≠ 2 + a → x ≠ 5 + a → hu D (2 + a) 2 n x i = D x i) ∧ hu D (2 + a) 2 n (2 + a) 1 = D (2 + a) 1 ∧ hu D (2 + a) 2 n (2 + a) 2 = hu D 57 a n 57 a ∧ ∀ i : Nat, (i : Int) < hu D 57 a n 57 a → hu D (2 + a) 2 n (5 + a) i = hu D 57 a n 58 (39 * a + i) := by
  have hT := h.1.1
  have t1 := hT.1
  have t2 := hT.2.1
  have t3 := hT.2.2.1
  refine ⟨⟨?_, ?_, ?_, fun i hi => ?_⟩, ⟨fun t q => by rw [hu_i _ _ q], fun t i p1 p2 p3 => by rw [hu_k _ _ (by decide)]⟩, fun x i p1 p2 => by rw [hu_k _ _ p1], by rw [hu_i _ _ (by decide)], by rw [hu_s, hu_s], fun i hi => ?_⟩
  · by_cases q : a = 0
    · subst q; rw [hu_s]; omega
    · rw [hu_i _ _ (by omega)]; exact t1
  · by_cases q : a = 1
    · subst q; rw [hu_s]; omega
    · rw [hu_i _ _ (by omega)]; exact t2
  · by_cases q : a = 2
    · subst q; rw [hu_s]; omega
    · rw [hu_i _ _ (by omega)]; exact t3
  · rw [hu_k _ _ (by decide)]; exact hT.2.2.2 i hi
  · rw [hu_s] at hi
    rw [hu_k _ _ (show 5 + a ≠ 2 + a by omega), hu_k _ _ (by decide)]
    exact (h.2.1.2 a ha).2 i (by omega)
set_option maxHeartbeats 4000000 in
theorem st_wipe {D : HP} (h : RLB D) (z : Int) : ST mX5_wipe mX6_wipe [vI z] D := by
  by_cases hq : 0 ≤ z ∧ z ≤ 2
  · obtain ⟨a, rfl⟩ : ∃ a : Nat, z = a := ⟨z.toNat, by omega⟩
    have ha : a < 3 := by omega
    have ea : ((a : Int)).toNat = a := by omega
    obtain ⟨hl, h2, h1⟩ := RL_len h ha
    obtain ⟨hT0, hA, hD, hm, hl2, hb2⟩ := short_both h ha (n := 0) (by omega)
    refine ⟨fun v E => v = some (vI (D 57 a)) ∧ (TC E 9 (tS (hu D 57 a 0)) ∧ FL0 (hu D 57 a 0) E ∧ (E 0 7 = -1 ∧ E 0 10 = -1) ∧ FT (hu D (2 + a) 2 0) E), V_X5_wipe a (fun _ _ => ⟨fun q => absurd hq (isTx.1 q), fun _ => ⟨by omega, by omega, ?_⟩⟩), ?_⟩
    · rw [ea]
      unfold fX2_length
      refine ⟨_, C_shorten (D := D) (o := 2 + a) (by omega) (by omega) (b := D (2 + a) 2) (by omega), ?_⟩
      rintro E1 ⟨-, e1⟩ _
      rw [Int.sub_self] at e1
      subst e1
      refine ⟨_, C_retold h ha hT0 hA hD hl2 hb2, ?_⟩
      rintro E ⟨-, hE⟩ _
      exact ⟨by rw [h2], hE⟩
    · rintro v E ⟨e1, hE⟩
      have fE : ∀ x i, x = 57 ∨ x = 58 → E x i = D x i := fun x i q => by rw [hE.2.2.2 x i (by omega) (by omega), hD x i (by omega) (by omega)]
      refine ⟨_, M_wipe E a, fun v' F hF => ?_⟩
      rw [if_pos hq, ea, fE 57 _ (Or.inl rfl)] at hF
      refine ⟨hF.1.trans e1.symm, RL_text h ha hT0 hA hD hm hl2 hb2 hE (fun x i p1 p2 => by rw [hF.2, hu_k _ _ p1]) (fun x i q => ?_)⟩
      rw [hF.2]
      unfold hu
      by_cases q1 : x = 57 ∧ i = a
      · rw [if_pos q1, if_pos q1]
      · rw [if_neg q1, if_neg q1]; exact fE x i q
  · refine ⟨fun v E => v = some (vI (-2)) ∧ E = D, V_X5_wipe z (fun _ _ => ⟨fun _ => ⟨rfl, rfl⟩, fun q => absurd (isTx.2 hq) q⟩), ?_⟩
    rintro v E ⟨e1, e2⟩
    subst e2
    refine ⟨_, M_wipe E z, fun v' E' hE => ?_⟩
    rw [if_neg hq] at hE
    exact ⟨hE.1.trans e1.symm, by rw [hE.2]; exact h⟩
set_option maxHeartbeats 4000000 in
theorem st_undo {D : HP} (h : RLB D) (z : Int) : ST mX5_undo mX6_undo [vI z] D := by
  by_cases hq : 0 ≤ z ∧ z ≤ 2
  · obtain ⟨a, rfl⟩ : ∃ a : Nat, z = a := ⟨z.toNat, by omega⟩
    have ha : a < 3 := by omega
    have ea : ((a : Int)).toNat = a := by omega
    obtain ⟨hl, h2, h1⟩ := RL_len h ha
    by_cases hf : D 57 a = 0
    · refine ⟨fun v E => v = some (vI (-3)) ∧ E = D, V_X5_undo a (fun _ _ => ⟨fun q => absurd hq (isTx.1 q), fun _ => ⟨by omega, fun _ => ⟨rfl, rfl⟩, fun q => ?_⟩⟩), ?_⟩
      · rw [ea] at q
        exact absurd (h2.trans hf) q
      · rintro v E ⟨e1, e2⟩
        subst e2
        refine ⟨_, M_undo h.1.1 a, fun v' E' hE => ?_⟩
        rw [if_pos hq, ea, if_pos hf] at hE
        exact ⟨hE.1.trans e1.symm, by rw [hE.2]; exact h⟩
    · obtain ⟨hT0, hA, hD, hm, hl2, hb2⟩ := short_both h ha (n := D 57 a - 1) (by omega)
      refine ⟨fun v E => v = some (vI (D 57 a - 1)) ∧ (TC E 9 (tS (hu D 57 a (D 57 a - 1))) ∧ FL0 (hu D 57 a (D 57 a - 1)) E ∧ (E 0 7 = -1 ∧ E 0 10 = -1) ∧ FT (hu D (2 + a) 2 (D 57 a - 1)) E), V_X5_undo a (fun _ _ => ⟨fun q => absurd hq (isTx.1 q), fun _ => ⟨by omega, fun q => ?_, fun q => ⟨by omega, ?_⟩⟩⟩), ?_⟩
      · rw [ea] at q
        exact absurd (h2.symm.trans q) hf
      · rw [ea]
        refine ⟨_, C_shorten (D := D) (o := 2 + a) (by omega) (by omega) (b := 1) (by omega), ?_⟩
        rintro E1 ⟨-, e1⟩ _
        rw [h2] at e1
        subst e1
        refine ⟨_, C_retold h ha hT0 hA hD hl2 hb2, ?_⟩
        rintro E ⟨-, hE⟩ _
        refine ⟨by omega, ?_, hE⟩
        unfold fX2_length
        rw [hE.2.2.2 (2 + a) 2 (by omega) (by omega), hu_s]
      · rintro v E ⟨e1, hE⟩
        have fE : ∀ x i, x = 57 ∨ x = 58 → E x i = D x i := fun x i q => by rw [hE.2.2.2 x i (by omega) (by omega), hD x i (by omega) (by omega)]
        refine ⟨_, M_undo (TXM_of h.1.1 fE) a, fun v' F hF => ?_⟩
        rw [if_pos hq, ea, fE 57 _ (Or.inl rfl), if_neg hf] at hF
        refine ⟨hF.1.trans e1.symm, RL_text h ha hT0 hA hD hm hl2 hb2 hE (fun x i p1 p2 => by rw [hF.2, hu_k _ _ p1]) (fun x i q => ?_)⟩
        rw [hF.2]
        unfold hu
        by_cases q1 : x = 57 ∧ i = a
        · rw [if_pos q1, if_pos q1]
        · rw [if_neg q1, if_neg q1]; exact fE x i q
  · refine ⟨fun v E => v = some (vI (-2)) ∧ E = D, V_X5_undo z (fun _ _ => ⟨fun _ => ⟨rfl, rfl⟩, fun q => absurd (isTx.2 hq) q⟩), ?_⟩
    rintro v E ⟨e1, e2⟩
    subst e2
    refine ⟨_, M_undo h.1.1 z, fun v' E' hE => ?_⟩
    rw [if_neg hq] at hE
    exact ⟨hE.1.trans e1.symm, by rw [hE.2]; exact h⟩
