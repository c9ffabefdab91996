def SV (D : HP) (o : Nat) (S : SC) : Prop := ∀ w : Nat, w < 4 → ∀ c : Nat, (c : Int) < S 0 1 → D (o + 3) (25 * w + c) = bes S c w ∧ D (o + 4) (25 * w + c) = layS S c w
theorem CS_of {D E : HP} {o : Nat} {S : SC} (h : CS D o S) (hE : ∀ a i, a = o + 1 ∨ a = o + 2 ∨ (o + 5 ≤ a ∧ a ≤ o + 9) → E a i = D a i) : CS E o S := by
  have e1 : ∀ i, E (o + 1) i = D (o + 1) i := fun i => hE _ i (by omega)
  refine ⟨⟨?_, ?_, ?_, ?_⟩, fun j hj => ?_, fun m hm => ?_, fun k hk => ?_⟩
  · rw [e1]; exact h.1.1
  · rw [e1]; exact h.1.2.1
  · rw [e1]; exact h.1.2.2.1
  · rw [e1]; exact h.1.2.2.2
  · rw [hE _ j (by omega)]; exact h.2.1 j hj
  · rw [hE _ m (by omega), hE _ m (by omega)]; exact h.2.2.1 m hm
  · rw [hE _ k (by omega), hE _ k (by omega), hE _ k (by omega)]; exact h.2.2.2 k hk
set_option maxHeartbeats 4000000 in
theorem C_survey {o : Nat} (ho : o = 9 ∨ o = 25) {D : HP} {S : SC} (h : OKS S) (hd : DV S) (hM : CS D o S) : CT mX1_survey [vR (o + 1)] D (fun v E => v = none ∧ SV E o S ∧ ∀ a i, a ≠ o + 3 → a ≠ o + 4 → E a i = D a i) := by
  have h1 := h.2.1
  refine V_X1_survey ho
    (fun x E => ∃ n : Nat, x = n ∧ n ≤ 4 ∧ (∀ w : Nat, w < n → ∀ c : Nat, (c : Int) < S 0 1 → E (o + 3) (25 * w + c) = bes S c w ∧ E (o + 4) (25 * w + c) = layS S c w) ∧ ∀ a i, a ≠ o + 3 → a ≠ o + 4 → E a i = D a i) (fun x _ => (4 - x).toNat * 100)
    (fun x y E => ∃ n m : Nat, x = n ∧ y = m ∧ n < 4 ∧ (m : Int) ≤ S 0 1 ∧ (∀ w : Nat, w < n → ∀ c : Nat, (c : Int) < S 0 1 → E (o + 3) (25 * w + c) = bes S c w ∧ E (o + 4) (25 * w + c) = layS S c w) ∧ (∀ c : Nat, c < m → E (o + 3) (25 * n + c) = bes S c n ∧ E (o + 4) (25 * n + c) = layS S c n) ∧ ∀ a i, a ≠ o + 3 → a ≠ o + 4 → E a i = D a i) (fun x y _ => (3 - x).toNat * 100 + (S 0 1 - y).toNat + 1)
    (fun _ => ⟨0, rfl, by omega, fun w hw => absurd hw (Nat.not_lt_zero _), fun _ _ _ _ => rfl⟩) ?_ ?_
  · rintro x E ⟨n, rfl, hn, hA, hF⟩ _ _
    refine ⟨fun q => ⟨rfl, fun w hw => hA w (by omega), hF⟩, fun q => ⟨⟨n, 0, rfl, rfl, by omega, by omega, hA, fun c hc => absurd hc (Nat.not_lt_zero _), hF⟩, by omega⟩⟩
  · rintro x y E ⟨n, m, rfl, rfl, hn, hm, hA, hB, hF⟩ _ _ _
    have hME : CS E o S := CS_of hM (fun a i hq => hF a i (by omega) (by omega))
    have up : S 0 1 ≤ m → c32 ((n : Int) + 1) ∧ (∃ k : Nat, (n : Int) + 1 = k ∧ k ≤ 4 ∧ (∀ w : Nat, w < k → ∀ c : Nat, (c : Int) < S 0 1 → E (o + 3) (25 * w + c) = bes S c w ∧ E (o + 4) (25 * w + c) = layS S c w) ∧ ∀ a i, a ≠ o + 3 → a ≠ o + 4 → E a i = D a i) ∧ (4 - ((n : Int) + 1)).toNat * 100 < (3 - (n : Int)).toNat * 100 + (S 0 1 - m).toNat + 1 := fun q => by
      refine ⟨by unfold c32; omega, ⟨n + 1, rfl, by omega, fun w hw c hc => ?_, hF⟩, by omega⟩
      by_cases e : w = n
      · rw [e]; exact hB c (by omega)
      · exact hA w (by omega) c hc
    rw [hME.1.2.1]
    refine ⟨fun q => up q, fun q => ⟨fun q2 => absurd q2 (by omega), fun q2 => ⟨by unfold c32; omega, by unfold c32; omega, cs_beso h hME (by omega), by omega, fun E6 hE6 => ⟨by unfold c32; omega, by unfold c32; omega, ?_⟩⟩⟩⟩
    have e1 : (((n : Int) * 25) + (m : Int)).toNat = 25 * n + m := by omega
    rw [e1] at hE6 ⊢
    rw [cs_bes h hd hME (by omega) (by omega) (by omega)] at hE6
    have hM6 : CS E6 o S := CS_of hME (fun a i hq => by rw [hE6, hu_k _ _ (by omega)])
    refine ⟨cs_layo h hM6 (by omega), by omega, fun E8 hE8 => ?_⟩
    rw [cs_lay h hd hM6 (by omega) (by omega) (by omega)] at hE8
    refine ⟨by unfold c32; omega, ⟨n, m + 1, rfl, rfl, hn, by omega, fun w hw c hc => ?_, fun c hc => ?_, fun a i p1 p2 => ?_⟩, by omega⟩
    · rw [hE8, hE6]
      have g := hA w hw c hc
      constructor
      · rw [hu_k _ _ (by omega), hu_i _ _ (by omega)]; exact g.1
      · rw [hu_i _ _ (by omega), hu_k _ _ (by omega)]; exact g.2
    · rw [hE8, hE6]
      by_cases e : c = m
      · subst e
        exact ⟨by rw [hu_k _ _ (by omega), hu_s], hu_s _ _ _ _⟩
      · have g := hB c (by omega)
        constructor
        · rw [hu_k _ _ (by omega), hu_i _ _ (by omega)]; exact g.1
        · rw [hu_i _ _ (by omega), hu_k _ _ (by omega)]; exact g.2
    · rw [hE8, hE6, hu_k _ _ p2, hu_k _ _ p1]
      exact hF a i p1 p2
