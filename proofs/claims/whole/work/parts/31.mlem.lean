/-! ===== the model's cells hold a scene ===== -/
def MS (D : HP) (S : SC) : Prop := (D 56 2 = S 0 0 ∧ D 56 3 = S 0 1 ∧ D 56 5 = S 0 2 ∧ D 56 8 = S 0 3) ∧ (∀ j : Nat, (j : Int) < S 0 1 → D 59 j = S 1 j) ∧
  (∀ m : Nat, (m : Int) < S 0 2 → D 60 m = S 4 m ∧ D 61 m = S 5 m) ∧ (∀ k : Nat, (k : Int) < S 0 3 → D 62 k = S 6 k ∧ D 63 k = S 7 k ∧ D 64 k = S 8 k)
theorem besM {D : HP} {S : SC} (hM : MS D S) (h : OKS S) {c w : Int} (h0 : 0 ≤ c) (h1 : c < S 0 1) (hw : 0 ≤ w ∧ w ≤ 3) : fX6_beside D c w = bes S c w := by
  have hw0 := h.1
  have h2 := Int.emod_nonneg c (show S 0 0 ≠ 0 by omega)
  have h5 : 0 < c % S 0 0 → 1 ≤ c := fun q => by
    rcases Int.lt_or_le 0 c with z | z
    · omega
    · have : c = 0 := by omega
      subst this
      simp at q
  unfold fX6_beside fX6_within bes
  rw [hM.1.1, hM.1.2.1]
  rcases (show w = 0 ∨ w = 1 ∨ w = 2 ∨ w = 3 by omega) with rfl | rfl | rfl | rfl <;> simp <;> repeat' split
  all_goals first | omega | rfl | (have := h5 (by omega); omega)
theorem besMo {D : HP} {S : SC} (hM : MS D S) (h : OKS S) {c w : Int} (h0 : 0 ≤ c) (h1 : c < S 0 1) : oX6_beside D c w := by
  have hw0 := h.1
  have hc0 := h.2.1
  unfold oX6_beside
  rw [hM.1.1, hM.1.2.1]
  refine ⟨⟨fun _ => ?_, fun _ => ⟨fun _ => ⟨⟨h0, by omega⟩, ?_, fun _ => trivial, fun _ => ?_⟩, fun _ => ⟨fun _ => ?_, fun _ => ⟨⟨h0, by omega⟩, fun _ => trivial, fun _ => ?_⟩⟩⟩⟩, ?_, trivial⟩
  all_goals (unfold c32; omega)
theorem walM {D : HP} {S : SC} (hM : MS D S) (h : OKS S) {c : Int} (hc : c = -1 ∨ (0 ≤ c ∧ c < S 0 1)) : fX6_isWallAt D c = if wal S c = true then 1 else 0 := by
  unfold fX6_isWallAt wal
  rcases hc with rfl | hc
  · rfl
  · rw [if_neg (by omega), hM.2.1 c.toNat (by omega)]
    have hn : c ≠ -1 := by omega
    by_cases q : S 1 c.toNat = 0 <;> simp [q, hn]
theorem walMo {D : HP} {S : SC} (h : OKS S) {c : Int} (hc : c = -1 ∨ (0 ≤ c ∧ c < S 0 1)) : oX6_isWallAt D c := by
  have := h.2.1
  unfold oX6_isWallAt
  exact ⟨⟨fun _ => trivial, fun _ => by omega⟩, trivial⟩
theorem leeM {D : HP} {S : SC} (hM : MS D S) (h : OKS S) {m c : Int} (hc : c = -1 ∨ (0 ≤ c ∧ c < S 0 1)) : fX6_isLee D m c = if leeS S (D 66) m c = true then 1 else 0 := by
  unfold fX6_isLee leeS
  rw [hM.1.2.2.2]
  have e : exB (fun k => decide (c ≠ -1 ∧ D 62 k = c ∧ D 59 c.toNat = 0 ∧ (D 66 k = -1 ∨ m ≤ D 66 k))) (S 0 3).toNat = exB (fun k => decide (c ≠ -1 ∧ S 6 k = c ∧ S 1 c.toNat = 0 ∧ (D 66 k = -1 ∨ m ≤ D 66 k))) (S 0 3).toNat := by
    refine exB_congr fun k hk => ?_
    rw [(hM.2.2.2 k (by omega)).1]
    rcases hc with rfl | hc
    · simp
    · rw [hM.2.1 c.toNat (by omega)]
  rw [e]
theorem leeMo {D : HP} {S : SC} (hM : MS D S) (h : OKS S) {m c : Int} (hc : c = -1 ∨ (0 ≤ c ∧ c < S 0 1)) : oX6_isLee D m c := by
  have := h.2.1
  unfold oX6_isLee
  rw [hM.1.2.2.2]
  exact ⟨by have := h.2.2.2.1; omega, by omega⟩
theorem windM {D : HP} {S : SC} (hM : MS D S) (h : OKS S) {m : Nat} (hm : (m : Int) < S 0 2) {c : Int} (h0 : 0 ≤ c) (h1 : c < S 0 1) : fX6_windNow D m c = wnd S (D 66) m c := by
  obtain ⟨hf, hg⟩ := h.2.2.2.2.2.1 m hm
  have e1 : D 60 (m : Int).toNat = S 4 m := (hM.2.2.1 m hm).1
  have e2 : D 61 (m : Int).toNat = S 5 m := (hM.2.2.1 m hm).2
  have i1 := bes_in h h0 h1 (w := S 4 m)
  have i2 := bes_in h h0 h1 (w := (S 4 m + 1) % 4)
  have i3 := bes_in h h0 h1 (w := (S 4 m + 3) % 4)
  have e5 : D 59 c.toNat = S 1 c.toNat := hM.2.1 _ (by omega)
  have e6 : wal S c = true ↔ ¬ S 1 c.toNat = 0 := by unfold wal; simp; omega
  have e7 : fX6_isWallAt D (if bes S c (S 4 m) = -1 then (-1 : Int) else fX6_beside D (bes S c (S 4 m)) (S 4 m)) = if bes S c (S 4 m) ≠ -1 ∧ wal S (bes S (bes S c (S 4 m)) (S 4 m)) = true then 1 else 0 := by
    by_cases q : bes S c (S 4 m) = -1
    · rw [if_pos q, if_neg (fun z => z.1 q)]; rfl
    · have z : 0 ≤ bes S c (S 4 m) ∧ bes S c (S 4 m) < S 0 1 := i1.resolve_left q
      rw [if_neg q, besM hM h z.1 z.2 hf, walM hM h (bes_in h z.1 z.2)]
      by_cases y : wal S (bes S (bes S c (S 4 m)) (S 4 m)) = true <;> simp [q, y]
  unfold fX6_windNow
  rw [e1, e2, besM hM h h0 h1 hf, besM hM h h0 h1 (w := (S 4 m + 1) % 4) (by omega), besM hM h h0 h1 (w := (S 4 m + 3) % 4) (by omega), e7, walM hM h i1, walM hM h i2, walM hM h i3, leeM hM h i1, e5]
  have e8 := wst_in h hm (c := c)
  unfold wnd wbs
  unfold wst at *
  by_cases a1 : S 1 c.toNat = 0 <;> by_cases a2 : wal S (bes S c (S 4 m)) = true <;> by_cases a3 : bes S c (S 4 m) ≠ -1 ∧ wal S (bes S (bes S c (S 4 m)) (S 4 m)) = true <;> by_cases a4 : wal S (bes S c ((S 4 m + 1) % 4)) = true <;> by_cases a5 : wal S (bes S c ((S 4 m + 3) % 4)) = true <;> by_cases a6 : leeS S (D 66) m (bes S c (S 4 m)) = true <;> simp only [e6, a1, a2, a3, a4, a5, a6, if_true, if_false, true_or, or_true, not_true, not_false_iff, or_self, and_true, true_and, and_false, false_and] at * <;> grind
