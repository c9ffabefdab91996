theorem BS.hs {x : Int} {p : Nat → Bool} (h : BS x p) {k : Nat} (hk : k < 8) : (b_iand (b_ishr x k) 1 = 1) ↔ p k = true := by
  have e := h.has (D := fun _ _ => 0) hk
  unfold fX0_has at e
  by_cases q : b_iand (b_ishr x k) 1 = 1 <;> by_cases z : p k = true <;> simp [q, z] at e ⊢
theorem tu_new {S : SC} {m k : Nat} : (tu S (m + 1) k ≠ -1 ∧ tu S m k = -1) ↔ tu S (m + 1) k = m := by
  have a := tu_in (S := S) (k := k) m
  constructor
  · rintro ⟨h1, h2⟩
    have : tu S (m + 1) k = m ∨ tu S (m + 1) k = tu S m k := by
      unfold tu; simp only [rt]; split
      · exact Or.inl rfl
      · exact Or.inr rfl
    omega
  · intro h
    refine ⟨by omega, Decidable.byContradiction fun z => ?_⟩
    have := tu_keep z
    omega
def mn8 (n : Nat) (c : Int) : Nat := if (n : Int) ≤ c then n else c.toNat
set_option maxHeartbeats 4000000 in
theorem C_elect {o : Nat} (ho : o = 9 ∨ o = 25) {D : HP} {S : SC} (h : OKS S) {m : Nat} (hm : m < 12) {b : Int} (hT0 : TD D o S m) (hT1 : TD D o S (m + 1))
    (hb : BS b (fun k => decide ((k : Int) < S 0 3) && (decide (tu S (m + 1) k = m) && rtd S m k))) (hr : ∀ k : Nat, (k : Int) < S 0 3 → D (o + 12) (8 * m + k) = rb S m k) (hin : m ≠ 0 → D (o + 15) (m - 1) = inn S (m - 1)) :
    CT mX0_elect [vR o, vI m, vI b] D (fun v E => v = none ∧ E = hu (hu (hu D (o + 13) m b) (o + 14) m (ele S m)) (o + 15) m (inn S m)) := by
  have h3 := h.2.2.2.1
  refine V_X0_elect ho m b
    (fun x1 x2 x3 x4 x5 x6 E => x1 = m ∧ x2 = b ∧ BS x3 (fun k => decide ((k : Int) < S 0 3) && (decide (tu S (m + 1) k = m) && !(rtd S m k))) ∧ x4 = m * 8 ∧ (∃ n : Nat, x6 = n ∧ n ≤ 8 ∧ x5 = elc S m (mn8 n (S 0 3))) ∧ E = D) (fun _ _ _ _ _ x6 _ => (8 - x6).toNat)
    (fun _ _ _ => ⟨fun q => absurd q (by omega), fun _ => ⟨fun _ => ⟨by unfold c32; omega, by omega, by omega, ?_⟩, fun q => absurd q (by omega)⟩⟩) ?_
  · intro v3 hv
    rw [show ((m : Int) + 1).toNat = m + 1 by omega, show ((m : Int)).toNat = m by omega] at hv
    refine ⟨by unfold c32; omega, rfl, rfl, ?_, rfl, ⟨0, rfl, by omega, ?_⟩, rfl⟩
    · rw [hv]
      refine ((hT1.but hT0).but hb).eq fun k _ => ?_
      by_cases q : (k : Int) < S 0 3
      · have e := tu_new (S := S) (m := m) (k := k)
        by_cases z : tu S (m + 1) k = m
        · have e := e.2 z
          simp [q, z, e.2]
        · have e2 : ¬ (tu S (m + 1) k ≠ -1 ∧ tu S m k = -1) := fun y => z (e.1 y)
          by_cases y : tu S (m + 1) k = -1
          · simp [q, y]
          · have : ¬ tu S m k = -1 := fun w => e2 ⟨y, w⟩
            simp [q, z, this]
      · simp [q]
    · unfold mn8; rw [if_pos (by omega)]; rfl
  · rintro x1 x2 x3 x4 x5 x6 E ⟨rfl, rfl, hL, rfl, ⟨n, rfl, hn, rfl⟩, rfl⟩ _ _ _ _ _ _ _
    have ein := elc_in (S := S) (m := m) (mn8 n (S 0 3))
    have hmn : (mn8 n (S 0 3) : Int) ≤ S 0 3 := by unfold mn8; split <;> omega
    refine ⟨fun q => ⟨by omega, ?_⟩, fun q => ⟨⟨fun _ => trivial, fun _ => ⟨by unfold c32; omega, by omega, by unfold c32; omega, by omega⟩⟩, fun v29 hv => ⟨by unfold c32; omega, ⟨rfl, rfl, hL, rfl, ⟨n + 1, by omega, by omega, ?_⟩, rfl⟩, by omega⟩⟩⟩
    · intro E10 hE10
      rw [show ((m : Int)).toNat = m by omega] at *
      have e8 : elc S m (mn8 n (S 0 3)) = ele S m := by
        unfold ele mn8
        split
        · rw [show n = (S 0 3).toNat by omega]
        · rfl
      rw [e8] at *
      refine ⟨by omega, fun E12 hE12 => ⟨⟨fun _ => ⟨fun _ => trivial, fun _ => ⟨by unfold c32; omega, by omega⟩⟩, fun _ => trivial⟩, by omega, fun E15 hE15 => ⟨rfl, ?_⟩⟩⟩
      rw [hE15, hE12, hE10]
      congr 1
      by_cases z : ele S m = -1
      · rw [if_pos z]
        rcases m with _ | m
        · rw [if_pos (by omega)]; rfl
        · rw [if_neg (by omega), show (((m + 1 : Nat) : Int) - 1).toNat = m by omega, hu_k _ _ (by omega), hu_k _ _ (by omega)]
          have := hin (by omega)
          rw [show inn S (m + 1) = if ele S (m + 1) = -1 then inn S m else ele S (m + 1) from rfl, if_pos z]
          exact this
      · rw [if_neg z]
        rcases m with _ | m
        · rfl
        · rw [show inn S (m + 1) = if ele S (m + 1) = -1 then inn S m else ele S (m + 1) from rfl, if_neg z]
    · have hb := hL.hs (k := n) (by omega)
      by_cases c : (n : Int) < S 0 3
      · have e1 : mn8 n (S 0 3) = n := by unfold mn8; rw [if_pos (by omega)]
        have e2 : mn8 (n + 1) (S 0 3) = n + 1 := by unfold mn8; rw [if_pos (by omega)]
        rw [e1] at hv ein ⊢
        rw [e2, show elc S m (n + 1) = if tu S (m + 1) n = m ∧ rtd S m n = false ∧ (elc S m n = -1 ∨ rb S m n < rb S m (elc S m n).toNat) then (n : Int) else elc S m n from rfl]
        have hv0 : v29 = 0 ↔ ¬ (elc S m n = -1 ∨ rb S m n < rb S m (elc S m n).toNat) := by
          rw [hv]
          by_cases z : elc S m n = -1
          · rw [if_pos z]
            exact ⟨fun y => absurd y (by decide), fun y => absurd (Or.inl z) y⟩
          · rw [if_neg z, show (((m : Int) * 8) + elc S m n).toNat = 8 * m + (elc S m n).toNat by omega, show (((m : Int) * 8) + (n : Int)).toNat = 8 * m + n by omega, hr n c, hr _ (by omega)]
            by_cases y : rb S m (elc S m n).toNat ≤ rb S m n
            · rw [if_pos y]
              exact ⟨fun _ w => w.elim z (by omega), fun _ => rfl⟩
            · rw [if_neg y]
              exact ⟨fun w => absurd w (by decide), fun w => absurd (Or.inr (by omega)) w⟩
        by_cases z : tu S (m + 1) n = m ∧ rtd S m n = false
        · rw [if_pos (hb.2 (by simp [c, z.1, z.2]))]
          by_cases y : v29 = 0
          · rw [if_pos y, if_neg (fun w => hv0.1 y w.2.2)]
          · rw [if_neg y, if_pos ⟨z.1, z.2, Decidable.byContradiction fun w => y (hv0.2 w)⟩]
        · rw [if_neg (fun w => z ?_), if_neg (fun w => z ⟨w.1, w.2.1⟩)]
          have := hb.1 w
          simp at this
          exact this.2
      · rw [if_neg (fun w => c ?_)]
        · unfold mn8
          rw [if_neg (show ¬ ((n + 1 : Nat) : Int) ≤ S 0 3 by omega)]
          split
          · rw [show n = (S 0 3).toNat by omega]
          · rfl
        · have := hb.1 w
          simp at this
          exact this.1
