/-! ===== the class: a scene, its lee and lay ===== -/
/-- the rows of a corner are whole -/
def DV (S : SC) : Prop := ∃ r : Int, S 0 1 = r * S 0 0
theorem DV.e {S : SC} (h : DV S) (hw : 1 ≤ S 0 0) {a : Int} (h1 : a < S 0 1) (h2 : a % S 0 0 + 1 < S 0 0) : a + 1 < S 0 1 := by
  obtain ⟨r, hr⟩ := h
  rw [hr] at h1 ⊢
  have e := Int.mul_ediv_add_emod a (S 0 0)
  have q : a / S 0 0 < r := Int.ediv_lt_of_lt_mul (by omega) h1
  have p : (a / S 0 0 + 1) * S 0 0 ≤ r * S 0 0 := Int.mul_le_mul_of_nonneg_right (by omega) (by omega)
  rw [Int.add_mul, Int.mul_comm] at p
  omega
theorem scT_dv {n0 n1 n2 : Nat} {b0 b1 b2 : Nat → Int} : DV (scT n0 n1 n2 b0 b1 b2) := by
  show ∃ r : Int, ccl b0 n0 = r * cwd b0 n0
  unfold ccl cwd
  by_cases q : cfl b0 n0 = -1
  · rw [if_pos q, if_pos q]
    have hf : fsN (cbad b0) n0 = -1 ∧ cend b0 n0 = false := by
      unfold cfl at q
      by_cases z : fsN (cbad b0) n0 = -1
      · rw [if_pos z] at q
        refine ⟨z, ?_⟩
        cases hc : cend b0 n0
        · rfl
        · rw [hc, if_pos rfl] at q; omega
      · rw [if_neg z] at q; exact absurd q z
    obtain ⟨h1, h2, h3, h4, h5, -, h7⟩ := cinv b0 n0 (fsN_m1 hf.1)
    have hc := hf.2
    unfold cend at hc
    rw [decide_eq_false_iff_not] at hc
    rw [h5]
    by_cases z : cR b0 n0 = 0
    · have h7 := h7 z
      rw [if_pos z, if_pos z]
      by_cases y : 0 < cC b0 n0
      · rw [if_pos y]; exact ⟨1, by omega⟩
      · rw [if_neg y]; exact ⟨0, by omega⟩
    · rw [if_neg z, if_neg z]
      have hn : 0 < n0 := Nat.pos_of_ne_zero fun e => z (by rw [e]; rfl)
      have : cC b0 n0 = cM b0 n0 := by
        by_cases y : cC b0 n0 < cM b0 n0
        · exact absurd ⟨hn, Or.inr ⟨by omega, y⟩⟩ hc
        · omega
      exact ⟨cR b0 n0 + 1, by rw [Int.add_mul, this]; omega⟩
  · rw [if_neg q, if_neg q]
    exact ⟨0, rfl⟩
def CS (D : HP) (o : Nat) (S : SC) : Prop := ((0 < S 0 1 → D (o + 1) 0 = S 0 0) ∧ D (o + 1) 1 = S 0 1 ∧ D (o + 1) 2 = S 0 2 ∧ D (o + 1) 3 = S 0 3) ∧ (∀ j : Nat, (j : Int) < S 0 1 → D (o + 2) j = S 1 j) ∧
  (∀ m : Nat, (m : Int) < S 0 2 → D (o + 5) m = S 4 m ∧ D (o + 6) m = S 5 m) ∧ (∀ k : Nat, (k : Int) < S 0 3 → D (o + 7) k = S 6 k ∧ D (o + 8) k = S 7 k ∧ D (o + 9) k = S 8 k)
theorem cs_cell {D : HP} {o : Nat} {S : SC} (h : OKS S) (hM : CS D o S) {a : Int} : fX1_isCell D o a = if 0 ≤ a ∧ a < S 0 1 then 1 else 0 := by
  have := h.2.1
  unfold fX1_isCell
  rw [hM.1.2.1]
  repeat' split
  all_goals omega
theorem cs_wall {D : HP} {o : Nat} {S : SC} (h : OKS S) (hM : CS D o S) {a : Int} (ha : a = -1 ∨ (0 ≤ a ∧ a < S 0 1)) : fX1_isWall D o a = if wal S a = true then 1 else 0 := by
  have h1 := h.2.1
  have hw := h.2.2.2.2.1
  unfold fX1_isWall wal
  rw [hM.1.2.1]
  rcases ha with rfl | ha
  · rfl
  · rw [if_neg (by omega), if_neg (by omega), if_neg (by omega), hM.2.1 a.toNat (by omega)]
    rcases hw a.toNat (by omega) with e | e <;> rw [e]
    · rw [if_neg (by decide), if_neg (by simp)]
    · rw [if_pos rfl, if_pos (by simp; omega)]
theorem cs_wallo {D : HP} {o : Nat} {a : Int} : oX1_isWall D o a := by
  unfold oX1_isWall
  refine ⟨⟨fun _ => trivial, fun h => ⟨fun _ => trivial, fun _ => ⟨fun _ => trivial, fun h2 => ?_⟩⟩⟩, trivial⟩
  omega
theorem cs_bes {D : HP} {o : Nat} {S : SC} (h : OKS S) (hd : DV S) (hM : CS D o S) {a b : Int} (h0 : 0 ≤ a) (h1 : a < S 0 1) (hb : 0 ≤ b ∧ b ≤ 3) : fX1_beside D o a b = bes S a b := by
  have hw := h.1
  have h2 := Int.emod_nonneg a (show S 0 0 ≠ 0 by omega)
  have h3 := Int.emod_lt_of_pos a (show 0 < S 0 0 by omega)
  unfold fX1_beside bes
  rw [cs_cell h hM, if_pos (show 0 ≤ a ∧ a < S 0 1 from ⟨h0, h1⟩), hM.1.1 (by omega), hM.1.2.1, if_neg (by decide), if_pos hw.1]
  have h4 : a < S 0 0 → a % S 0 0 = a := fun q => Int.emod_eq_of_lt h0 q
  have h6 : 0 < a % S 0 0 → 1 ≤ a := fun q => by
    rcases Int.lt_or_le 0 a with z | z
    · omega
    · have : a = 0 := by omega
      subst this
      simp at q
  rcases (show b = 0 ∨ b = 1 ∨ b = 2 ∨ b = 3 by omega) with rfl | rfl | rfl | rfl
  · simp only [if_true]
    by_cases q : a < S 0 0
    · rw [if_pos q, if_neg (by omega)]
    · rw [if_neg q, if_pos (by omega)]
  · simp only [show ¬ (1 : Int) = 0 by decide, if_false, if_true]
    by_cases q : S 0 0 ≤ a % S 0 0 + 1
    · rw [if_pos q, if_neg (by omega)]
    · have := hd.e hw.1 h1 (by omega)
      rw [if_neg q, if_pos (by omega)]
  · simp only [show ¬ (2 : Int) = 0 by decide, show ¬ (2 : Int) = 1 by decide, if_false, if_true]
    by_cases q : S 0 1 ≤ a + S 0 0
    · rw [if_pos q, if_neg (by omega)]
    · rw [if_neg q, if_pos (by omega)]
  · simp only [show ¬ (3 : Int) = 0 by decide, show ¬ (3 : Int) = 1 by decide, show ¬ (3 : Int) = 2 by decide, if_false, if_true]
    by_cases q : a % S 0 0 ≤ 0
    · rw [if_pos q, if_neg (by omega)]
    · rw [if_neg q, if_pos (by omega)]
