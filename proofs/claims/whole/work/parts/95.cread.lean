/-! ===== READ, of both ===== -/
def gdP (sz n0 : Int) (it : Nat → Int) (k : Nat) : Prop := 2 * (k : Int) + 1 < sz ∧ ((0 ≤ it (2 * k) ∧ it (2 * k) ≤ 11) ∧ 0 ≤ it (2 * k + 1) ∧ it (2 * k + 1) ≤ 8) ∧ n0 + (k : Int) ≠ 8
theorem gdP_one {sz n0 : Int} {it : Nat → Int} {k j : Nat} (h1 : ∀ i, i < k → gdP sz n0 it i) (h2 : ¬ gdP sz n0 it k) (g1 : ∀ i, i < j → gdP sz n0 it i) (g2 : ¬ gdP sz n0 it j) : k = j := by
  rcases Nat.lt_trichotomy k j with h | h | h
  · exact absurd (g1 k h) h2
  · exact h
  · exact absurd (h1 j h) g2
def RDC (D : HP) (s k : Nat) (E : HP) : Prop := E 41 0 = D 41 0 + (k : Int) ∧ (∀ i : Nat, i < k → E 42 ((D 41 0).toNat + i) = D (49 + s) (2 * i) ∧ E 43 ((D 41 0).toNat + i) = D (49 + s) (2 * i + 1)) ∧ (∀ x i, (x ≠ 41 ∨ i ≠ 0) → (x ≠ 42 ∨ i < (D 41 0).toNat) → (x ≠ 43 ∨ i < (D 41 0).toNat) → (x ≠ 0 ∨ i ≠ 7) → E x i = D x i) ∧ ((k = 0 ∧ E = D) ∨ E 0 7 = -1)
set_option maxHeartbeats 4000000 in
theorem K_read {D : HP} (hS : SHC D) (hG : 0 ≤ D 41 0 ∧ D 41 0 ≤ 8) (a : Int) : CT mX5_read [vR 0, vI a] D (fun v E => if 0 ≤ a ∧ a ≤ 3 then (if D (45 + a.toNat) 0 = -1 then v = some (vI (-11)) ∧ E = hu D 0 6 1 else ∃ k : Nat, v = some (vI k) ∧ (∀ j, j < k → gdP (D (45 + a.toNat) 1) (D 41 0) (D (49 + a.toNat)) j) ∧ ¬ gdP (D (45 + a.toNat) 1) (D 41 0) (D (49 + a.toNat)) k ∧ RDC D a.toNat k E) else v = some (vI (-2)) ∧ E = D) := by
  refine V_X5_read a
    (fun x1 x2 x3 E => x1 = a ∧ (0 ≤ a ∧ a ≤ 3) ∧ D (45 + a.toNat) 0 ≠ -1 ∧ x2 = D (45 + a.toNat) 1 / 2 ∧ ∃ k : Nat, x3 = k ∧ (k : Int) ≤ D (45 + a.toNat) 1 / 2 ∧ (∀ j, j < k → gdP (D (45 + a.toNat) 1) (D 41 0) (D (49 + a.toNat)) j) ∧ RDC D a.toNat k E ∧ D 41 0 + (k : Int) ≤ 8) (fun _ x2 x3 _ => (x2 - x3).toNat)
    (fun _ _ => ⟨fun q => ?_, fun q => ?_⟩) ?_
  · rw [isSh] at q
    rw [if_neg q]; exact ⟨rfl, rfl⟩
  · rw [isSh] at q
    have q := Decidable.of_not_not q
    have hs := (hS a.toNat (by omega)).2
    rw [isLo]
    refine ⟨by omega, fun q2 => ⟨by omega, by omega, rfl, q, q2, rfl, 0, rfl, by omega, fun j hj => absurd hj (Nat.not_lt_zero _), ⟨by omega, fun i hi => absurd hi (Nat.not_lt_zero _), fun _ _ _ _ _ _ => rfl, Or.inl ⟨rfl, rfl⟩⟩, by omega⟩, fun q2 => ⟨_, C_finding D (n := 1) (by omega), ?_⟩⟩
    rintro r E ⟨hr, hE⟩ _ _
    rw [if_pos q, if_pos (Decidable.of_not_not q2)]
    exact ⟨hr, hE⟩
  · rintro x1 x2 x3 E ⟨rfl, ha, hl, rfl, k, rfl, hk, hgd, hR, h8⟩ _ _ _ _
    obtain ⟨r1, r2, r3, r4⟩ := hR
    have hs := (hS x1.toNat (by omega)).2
    simp only [if_pos ha, if_neg hl]
    have fk : ∀ x i, x ≠ 41 → x ≠ 42 → x ≠ 43 → x ≠ 0 → E x i = D x i := fun x i p1 p2 p3 p4 => r3 x i (Or.inl p1) (Or.inl p2) (Or.inl p3) (Or.inl p4)
    have e1 : E (45 + x1.toNat) 1 = D (45 + x1.toNat) 1 := fk _ _ (by omega) (by omega) (by omega) (by omega)
    refine ⟨fun q => ⟨k, by rw [show D (45 + x1.toNat) 1 / 2 = k by omega], hgd, fun z => by have := z.1; omega, r1, r2, r3, r4⟩, fun q => ?_⟩
    have ei : ∀ i : Nat, (i : Int) < D (45 + x1.toNat) 1 → fX3_item E (45 + x1.toNat) i = D (49 + x1.toNat) i := fun i hi => by
      unfold fX3_item
      rw [e1, if_neg (by omega), if_neg (by omega), if_neg (by omega), show ((i : Int)).toNat = i by omega, show 45 + x1.toNat + 4 = 49 + x1.toNat by omega]
      exact fk _ _ (by omega) (by omega) (by omega) (by omega)
    have i1 := ei (2 * k) (by omega)
    have i2 := ei (2 * k + 1) (by omega)
    rw [show ((2 * k : Nat) : Int) = 2 * (k : Int) by omega] at i1
    rw [show ((2 * k + 1 : Nat) : Int) = 2 * (k : Int) + 1 by omega] at i2
    have io : ∀ i, oX3_item E (45 + x1.toNat) i := fun i => ⟨⟨fun _ => trivial, fun _ => ⟨fun _ => trivial, fun _ => ⟨fun _ => trivial, fun _ => by omega⟩⟩⟩, trivial⟩
    rw [i1, i2]
    refine ⟨by omega, by unfold c32; omega, io _, by omega, by unfold c32; omega, by unfold c32; omega, io _, _, K_seen (D := E) (by rw [r1]; omega) _ _, ?_⟩
    intro r F hF _ _
    by_cases y : (0 ≤ D (49 + x1.toNat) (2 * k) ∧ D (49 + x1.toNat) (2 * k) ≤ 11) ∧ 0 ≤ D (49 + x1.toNat) (2 * k + 1) ∧ D (49 + x1.toNat) (2 * k + 1) ≤ 8
    · rw [if_pos y, r1] at hF
      by_cases y8 : D 41 0 + (k : Int) = 8
      · rw [if_pos y8] at hF
        have hr := vIj hF.1
        refine ⟨fun z => absurd z (by omega), fun _ => ⟨k, rfl, hgd, fun z => z.2.2 y8, ?_⟩⟩
        rw [hF.2]
        exact ⟨r1, r2, r3, r4⟩
      · rw [if_neg y8] at hF
        have hr := vIj hF.1
        have e := hF.2
        unfold seenC at e
        rw [r1, show (D 41 0 + (k : Int)).toNat = (D 41 0).toNat + k by omega] at e
        refine ⟨fun _ => ⟨by unfold c32; omega, ⟨trivial, ha, hl, trivial, k + 1, by omega, by omega, fun j hj => ?_, ⟨?_, fun i hi => ?_, fun x i p1 p2 p3 p4 => ?_, Or.inr ?_⟩, by omega⟩, by omega⟩, fun z => absurd (show 0 ≤ r by omega) z⟩
        · by_cases w : j = k
          · rw [w]; exact ⟨by omega, y, y8⟩
          · exact hgd j (by omega)
        · rw [e, hu_k _ _ (by decide), hu_s]; omega
        · refine ⟨?_, ?_⟩
          · rw [e, hu_k _ _ (show (42 : Nat) ≠ 0 by decide), hu_k _ _ (show (42 : Nat) ≠ 41 by decide), hu_k _ _ (show (42 : Nat) ≠ 43 by decide)]
            by_cases w : i = k
            · rw [w, hu_s]
            · rw [hu_i _ _ (show (D 41 0).toNat + i ≠ (D 41 0).toNat + k by omega)]
              exact (r2 i (by omega)).1
          · rw [e, hu_k _ _ (show (43 : Nat) ≠ 0 by decide), hu_k _ _ (show (43 : Nat) ≠ 41 by decide)]
            by_cases w : i = k
            · rw [w, hu_s]
            · rw [hu_i _ _ (show (D 41 0).toNat + i ≠ (D 41 0).toNat + k by omega), hu_k _ _ (show (43 : Nat) ≠ 42 by decide)]
              exact (r2 i (by omega)).2
        · have u4 : hu E 42 ((D 41 0).toNat + k) (D (49 + x1.toNat) (2 * k)) x i = E x i := by
            rcases p2 with p2 | p2
            · exact hu_k _ _ p2
            · exact hu_i _ _ (by omega)
          have u3 : hu (hu E 42 ((D 41 0).toNat + k) (D (49 + x1.toNat) (2 * k))) 43 ((D 41 0).toNat + k) (D (49 + x1.toNat) (2 * k + 1)) x i = E x i := by
            rcases p3 with p3 | p3
            · rw [hu_k _ _ p3, u4]
            · rw [hu_i _ _ (by omega), u4]
          rw [e]
          rcases p4 with p4 | p4
          · rw [hu_k _ _ p4]
            rcases p1 with p1 | p1
            · rw [hu_k _ _ p1, u3]; exact r3 x i (Or.inl p1) p2 p3 (Or.inl p4)
            · rw [hu_i _ _ p1, u3]; exact r3 x i (Or.inr p1) p2 p3 (Or.inl p4)
          · rw [hu_i _ _ p4]
            rcases p1 with p1 | p1
            · rw [hu_k _ _ p1, u3]; exact r3 x i (Or.inl p1) p2 p3 (Or.inr p4)
            · rw [hu_i _ _ p1, u3]; exact r3 x i (Or.inr p1) p2 p3 (Or.inr p4)
        · rw [e, hu_s]
    · rw [if_neg y] at hF
      have hr := vIj hF.1
      refine ⟨fun z => absurd z (by omega), fun _ => ⟨k, rfl, hgd, fun z => y z.2.1, ?_⟩⟩
      rw [hF.2]
      exact ⟨r1, r2, r3, r4⟩
def RDM (D : HP) (s k : Nat) (E : HP) : Prop := E 56 17 = D 56 17 + (k : Int) ∧ (∀ i : Nat, i < k → E 70 ((D 56 17).toNat + i) = D 78 (60 * s + 2 * i) ∧ E 71 ((D 56 17).toNat + i) = D 78 (60 * s + 2 * i + 1)) ∧ ∀ x i, (x ≠ 56 ∨ i ≠ 17) → (x ≠ 70 ∨ i < (D 56 17).toNat) → (x ≠ 71 ∨ i < (D 56 17).toNat) → E x i = D x i
theorem rdM_cl {D : HP} {s : Nat} (h0 : 0 ≤ D 56 17) : ∀ {k : Nat} {E : HP}, rdM D s k = some E → (∀ j, j < k → gdP (D 77 s) (D 56 17) (fun i => D 78 (60 * s + i)) j) ∧ RDM D s k E
  | 0, E, h => by
    have e : D = E := Option.some.inj h
    rw [← e]
    exact ⟨fun j hj => absurd hj (Nat.not_lt_zero _), by omega, fun i hi => absurd hi (Nat.not_lt_zero _), fun _ _ _ _ _ => rfl⟩
  | k + 1, E, h => by
    rw [rdM] at h
    cases hk : rdM D s k with
    | none => rw [hk] at h; cases h
    | some F =>
      obtain ⟨g, r1, r2, r3⟩ := rdM_cl h0 hk
      rw [hk] at h
      have h : (if 2 * (k : Int) + 1 < D 77 s ∧ ((0 ≤ D 78 (60 * s + 2 * k) ∧ D 78 (60 * s + 2 * k) ≤ 11) ∧ 0 ≤ D 78 (60 * s + 2 * k + 1) ∧ D 78 (60 * s + 2 * k + 1) ≤ 8) ∧ F 56 17 ≠ 8 then some (hu (hu (hu F 70 (F 56 17).toNat (D 78 (60 * s + 2 * k))) 71 (F 56 17).toNat (D 78 (60 * s + 2 * k + 1))) 56 17 (F 56 17 + 1)) else none) = some E := h
      by_cases q : 2 * (k : Int) + 1 < D 77 s ∧ ((0 ≤ D 78 (60 * s + 2 * k) ∧ D 78 (60 * s + 2 * k) ≤ 11) ∧ 0 ≤ D 78 (60 * s + 2 * k + 1) ∧ D 78 (60 * s + 2 * k + 1) ≤ 8) ∧ F 56 17 ≠ 8
      · rw [if_pos q, r1, show (D 56 17 + (k : Int)).toNat = (D 56 17).toNat + k by omega] at h
        have e := (Option.some.inj h).symm
        rw [r1] at q
        refine ⟨fun j hj => ?_, ?_, fun i hi => ?_, fun x i p1 p2 p3 => ?_⟩
        · by_cases w : j = k
          · rw [w]; exact q
          · exact g j (by omega)
        · rw [e, hu_s]; omega
        · refine ⟨?_, ?_⟩
          · rw [e, hu_k _ _ (show (70 : Nat) ≠ 56 by decide), hu_k _ _ (show (70 : Nat) ≠ 71 by decide)]
            by_cases w : i = k
            · rw [w, hu_s]
            · rw [hu_i _ _ (show (D 56 17).toNat + i ≠ (D 56 17).toNat + k by omega)]
              exact (r2 i (by omega)).1
          · rw [e, hu_k _ _ (show (71 : Nat) ≠ 56 by decide)]
            by_cases w : i = k
            · rw [w, hu_s]
            · rw [hu_i _ _ (show (D 56 17).toNat + i ≠ (D 56 17).toNat + k by omega), hu_k _ _ (show (71 : Nat) ≠ 70 by decide)]
              exact (r2 i (by omega)).2
        · have u4 : hu F 70 ((D 56 17).toNat + k) (D 78 (60 * s + 2 * k)) x i = F x i := by
            rcases p2 with p2 | p2
            · exact hu_k _ _ p2
            · exact hu_i _ _ (by omega)
          have u3 : hu (hu F 70 ((D 56 17).toNat + k) (D 78 (60 * s + 2 * k))) 71 ((D 56 17).toNat + k) (D 78 (60 * s + 2 * k + 1)) x i = F x i := by
            rcases p3 with p3 | p3
            · rw [hu_k _ _ p3, u4]
            · rw [hu_i _ _ (by omega), u4]
          rw [e]
          rcases p1 with p1 | p1
          · rw [hu_k _ _ p1, u3]; exact r3 x i (Or.inl p1) p2 p3
          · rw [hu_i _ _ p1, u3]; exact r3 x i (Or.inr p1) p2 p3
      · rw [if_neg q] at h; cases h
theorem rdM_no {D : HP} {s : Nat} (h0 : 0 ≤ D 56 17) {k : Nat} {E : HP} (h : rdM D s k = some E) (h1 : rdM D s (k + 1) = none) : ¬ gdP (D 77 s) (D 56 17) (fun i => D 78 (60 * s + i)) k := by
  obtain ⟨g, r1, r2, r3⟩ := rdM_cl h0 h
  rw [rdM, h] at h1
  have h1 : (if 2 * (k : Int) + 1 < D 77 s ∧ ((0 ≤ D 78 (60 * s + 2 * k) ∧ D 78 (60 * s + 2 * k) ≤ 11) ∧ 0 ≤ D 78 (60 * s + 2 * k + 1) ∧ D 78 (60 * s + 2 * k + 1) ≤ 8) ∧ E 56 17 ≠ 8 then some (hu (hu (hu E 70 (E 56 17).toNat (D 78 (60 * s + 2 * k))) 71 (E 56 17).toNat (D 78 (60 * s + 2 * k + 1))) 56 17 (E 56 17 + 1)) else none) = none := h1
  intro q
  rw [if_pos (by rw [r1]; exact q)] at h1
  cases h1
