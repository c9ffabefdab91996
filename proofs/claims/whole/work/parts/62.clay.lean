theorem cs_beso {D : HP} {o : Nat} {S : SC} (h : OKS S) (hM : CS D o S) {a b : Int} (hb : 0 ≤ b ∧ b ≤ 3) : oX1_beside D o a b := by
  have h1 := h.2.1
  have hw := h.1
  unfold oX1_beside
  rw [cs_cell h hM]
  refine ⟨fun _ => trivial, fun q => ?_⟩
  have q : 0 ≤ a ∧ a < S 0 1 := Decidable.byContradiction fun z => q (if_neg z)
  have e := hM.1.1 (by omega)
  have h2 := Int.emod_nonneg a (show S 0 0 ≠ 0 by omega)
  have h3 := Int.emod_lt_of_pos a (show 0 < S 0 0 by omega)
  rw [e, hM.1.2.1]
  refine ⟨fun _ => ⟨by omega, fun _ => ⟨⟨fun _ => trivial, fun _ => by unfold c32; omega⟩, trivial⟩, fun _ => ⟨by unfold c32; omega, ⟨fun _ => trivial, fun _ => by unfold c32; omega⟩, trivial⟩, fun _ => ⟨by unfold c32; omega, ⟨fun _ => trivial, fun _ => by unfold c32; omega⟩, trivial⟩, fun _ => ⟨⟨fun _ => trivial, fun _ => by unfold c32; omega⟩, trivial⟩⟩, fun _ => trivial⟩
theorem cs_bes1 {D : HP} {o : Nat} {S : SC} (h : OKS S) (hM : CS D o S) {b : Int} : fX1_beside D o (-1) b = -1 := by
  unfold fX1_beside
  rw [cs_cell h hM, if_neg (show ¬ (0 ≤ (-1 : Int) ∧ (-1 : Int) < S 0 1) by omega), if_pos rfl]
def layS (S : SC) (c w : Int) : Int :=
  if wal S c = true ∨ wal S (bes S c w) = true then 0
  else (if bes S c w ≠ -1 ∧ wal S (bes S (bes S c w) w) = true then 1 else 2) + (if wal S (bes S c ((w + 1) % 4)) = true ∧ wal S (bes S c ((w + 3) % 4)) = true then 4 else 0)
theorem cs_lay {D : HP} {o : Nat} {S : SC} (h : OKS S) (hd : DV S) (hM : CS D o S) {a b : Int} (h0 : 0 ≤ a) (h1 : a < S 0 1) (hb : 0 ≤ b ∧ b ≤ 3) : fX1_layOf D o a b = layS S a b := by
  have b1 := bes_in h h0 h1 (w := b)
  have b2 := bes_in h h0 h1 (w := (b + 1) % 4)
  have b3 := bes_in h h0 h1 (w := (b + 3) % 4)
  unfold fX1_layOf layS
  rw [cs_bes h hd hM h0 h1 hb, cs_bes h hd hM h0 h1 (b := (b + 1) % 4) (by omega), cs_bes h hd hM h0 h1 (b := (b + 3) % 4) (by omega), cs_wall h hM (Or.inr ⟨h0, h1⟩), cs_wall h hM b1, cs_wall h hM b2, cs_wall h hM b3]
  have e : fX1_isWall D o (fX1_beside D o (bes S a b) b) = if bes S a b ≠ -1 ∧ wal S (bes S (bes S a b) b) = true then 1 else 0 := by
    rcases b1 with e | e
    · rw [e, cs_bes1 h hM, cs_wall h hM (Or.inl rfl), if_neg (by simp [wal]), if_neg (fun z => z.1 rfl)]
    · rw [cs_bes h hd hM e.1 e.2 hb, cs_wall h hM (bes_in h e.1 e.2)]
      by_cases z : wal S (bes S (bes S a b) b) = true
      · rw [if_pos z, if_pos ⟨by omega, z⟩]
      · rw [if_neg z, if_neg (fun y => z y.2)]
  rw [e]
  by_cases x5 : bes S a b ≠ -1 ∧ wal S (bes S (bes S a b) b) = true
  · simp only [if_pos x5]
    generalize wal S a = p
    generalize wal S (bes S a b) = q
    generalize wal S (bes S a ((b + 1) % 4)) = r
    generalize wal S (bes S a ((b + 3) % 4)) = s
    cases p <;> cases q <;> cases r <;> cases s <;> rfl
  · simp only [if_neg x5]
    generalize wal S a = p
    generalize wal S (bes S a b) = q
    generalize wal S (bes S a ((b + 1) % 4)) = r
    generalize wal S (bes S a ((b + 3) % 4)) = s
    cases p <;> cases q <;> cases r <;> cases s <;> rfl
theorem cs_layo {D : HP} {o : Nat} {S : SC} (h : OKS S) (hM : CS D o S) {a b : Int} (hb : 0 ≤ b ∧ b ≤ 3) : oX1_layOf D o a b := by
  have bb : ∀ a, oX1_beside D o a b := fun a => cs_beso h hM hb
  have bb1 : oX1_beside D o a ((b + 1) % 4) := cs_beso h hM (by omega)
  have bb3 : oX1_beside D o a ((b + 3) % 4) := cs_beso h hM (by omega)
  unfold oX1_layOf
  refine ⟨bb _, cs_wallo, fun _ => ⟨cs_wallo, fun _ => ⟨bb _, cs_wallo, by unfold c32; omega, by omega, bb1, cs_wallo, ⟨fun _ => trivial, fun _ => ⟨by unfold c32; omega, by omega, bb3, cs_wallo⟩⟩, ⟨fun _ => trivial, fun _ => ?_⟩, trivial⟩, fun _ => trivial⟩, fun _ => trivial⟩
  unfold c32; split <;> omega
