theorem TXM_of {D E : HP} (h : TXM D) (hE : ∀ a i, a = 57 ∨ a = 58 → E a i = D a i) : TXM E := by
  refine ⟨?_, ?_, ?_, fun i hi => ?_⟩
  · rw [hE 57 0 (by decide)]; exact h.1
  · rw [hE 57 1 (by decide)]; exact h.2.1
  · rw [hE 57 2 (by decide)]; exact h.2.2.1
  · rw [hE 58 i (by decide)]; exact h.2.2.2 i hi
theorem tN_of {D E : HP} (hE : ∀ a i, a = 57 ∨ a = 58 → E a i = D a i) (t : Nat) : tN E t = tN D t := by unfold tN; rw [hE 57 t (by decide)]
theorem tB_of {D E : HP} (hE : ∀ a i, a = 57 ∨ a = 58 → E a i = D a i) (t : Nat) : tB E t = tB D t := by unfold tB; funext k; rw [hE 58 _ (by decide)]
theorem tN_in {D : HP} (h : TXM D) {t : Nat} (ht : t < 3) : D 57 t = (tN D t : Int) := by
  obtain ⟨h1, h2, h3, -⟩ := h
  have : t = 0 ∨ t = 1 ∨ t = 2 := by omega
  unfold tN
  rcases this with rfl | rfl | rfl <;> omega
theorem wy_in (x : Int) : wy x = -1 ∨ (0 ≤ wy x ∧ wy x ≤ 3) := by unfold wy; repeat' split; all_goals omega
theorem hd_in (x : Int) : hd x = -1 ∨ (0 ≤ hd x ∧ hd x ≤ 2) := by unfold hd; repeat' split; all_goals omega
set_option maxHeartbeats 4000000 in
theorem C_readsGusts {D : HP} (hT : TXM D) : CT mX6_readsGusts [vR 56] D (fun v E => v = some (vI (gfl (tB D 1) (tN D 1))) ∧ E 56 5 = gmn (tB D 1) (tN D 1) ∧ (∀ m : Nat, (m : Int) < gmn (tB D 1) (tN D 1) → E 60 m = wy (tB D 1 (2 * m)) ∧ E 61 m = tB D 1 (2 * m + 1) - 48) ∧ (∀ a i, a ≠ 60 → a ≠ 61 → (a ≠ 56 ∨ i ≠ 5) → E a i = D a i)) := by
  have hn := hT.2.1
  have hnn := tN_in hT (t := 1) (by decide)
  generalize hb : tB D 1 = b
  generalize hne : tN D 1 = n at *
  refine V_X6_readsGusts (I7 := fun x1 E => ∃ k : Nat, x1 = k ∧ k ≤ n ∧ (∀ i, i < k → gbad b i = false) ∧ (∀ m : Nat, 2 * m < k → E 60 m = wy (b (2 * m))) ∧ (∀ m : Nat, 2 * m + 1 < k → E 61 m = b (2 * m + 1) - 48) ∧ (∀ a i, a ≠ 60 → a ≠ 61 → (a ≠ 56 ∨ i ≠ 5) → E a i = D a i) ∧ E 56 5 = 0) (u7 := fun x1 E => (E 57 1 - x1).toNat) ?_ ?_
  · intro _
    rintro E1 rfl
    refine ⟨0, rfl, Nat.zero_le _, fun i hi => absurd hi (Nat.not_lt_zero _), fun m hm => by omega, fun m hm => by omega, fun a i h1 h2 h3 => ?_, hu_s _ _ _ _⟩
    rcases h3 with h3 | h3
    · rw [hu_k _ _ h3]
    · rw [hu_i _ _ h3]
  rintro x1 E ⟨k, rfl, hk, hnb, h60, h61, hE, hE5⟩ hcD c1
  have hEt : ∀ a i, a = 57 ∨ a = 58 → E a i = D a i := fun a i h => hE a i (by omega) (by omega) (Or.inl (by omega))
  have e57 : E 57 1 = n := (hEt 57 1 (by decide)).trans hnn
  have hTE : TXM E := TXM_of hT hEt
  rw [e57]
  refine ⟨fun hc => ⟨by omega, fun h1 => ?_, fun h1 => ⟨by omega, ?_⟩⟩, fun hc => ?_⟩
  · have hkn : k = n := by omega
    subst hkn
    have hfs : fsN (gbad b) k = -1 := fsN_no hnb
    have e : gfl b k = k := by unfold gfl; rw [if_pos hfs, if_pos (by omega)]
    have e2 : gmn b k = 0 := by unfold gmn; rw [e, if_neg (by omega)]
    exact ⟨by rw [e], by rw [e2]; exact hE5, fun m hm => by rw [e2] at hm; omega, hE⟩
  · rintro F rfl
    have hkn : k = n := by omega
    subst hkn
    have hfs : fsN (gbad b) k = -1 := fsN_no hnb
    have e : gfl b k = -1 := by unfold gfl; rw [if_pos hfs, if_neg (by omega)]
    have e2 : gmn b k = ((k / 2 : Nat) : Int) := by unfold gmn; rw [if_pos e]
    refine ⟨by rw [e], by rw [hu_s, e2]; omega, fun m hm => ?_, fun a i h1 h2 h3 => ?_⟩
    · rw [e2] at hm
      rw [hu_k _ _ (by decide), hu_k _ _ (by decide)]
      exact ⟨h60 m (by omega), h61 m (by omega)⟩
    · rcases h3 with h3 | h3
      · rw [hu_k _ _ h3]; exact hE a i h1 h2 (Or.inl h3)
      · rw [hu_i _ _ h3]; exact hE a i h1 h2 (Or.inr h3)
  · have hkn : k < n := by omega
    have eb : fX6_byteAt E 1 (k : Int) = b k := by
      rw [← hb]
      exact (byM (D := E) (t := 1) (k := k) (by rw [e57]; omega)).trans (by rw [tB_of hEt])
    have fi : fX6_figureAt E 1 (k : Int) 0 9 = if 0 ≤ b k - 48 ∧ b k - 48 ≤ 9 then b k - 48 else -1 := by
      have := fiM (D := E) (t := 1) (k := k) 0 9
      rw [← eb]; exact this
    rw [fi, wyM, eb]
    have faultQ : gbad b k = true → (some (vI (k : Int)) = some (vI (gfl b n)) ∧ E 56 5 = gmn b n ∧ (∀ m : Nat, (m : Int) < gmn b n → E 60 m = wy (b (2 * m)) ∧ E 61 m = b (2 * m + 1) - 48) ∧ (∀ a i, a ≠ 60 → a ≠ 61 → (a ≠ 56 ∨ i ≠ 5) → E a i = D a i)) := fun hbad => by
      have e : gfl b n = k := by unfold gfl; rw [fsN_yes hnb hbad hkn, if_neg (by omega)]
      have e2 : gmn b n = 0 := by unfold gmn; rw [e, if_neg (by omega)]
      exact ⟨by rw [e], by rw [e2]; exact hE5, fun m hm => by rw [e2] at hm; omega, hE⟩
    have up : gbad b k = false → ∀ i, i < k + 1 → gbad b i = false := fun h i hi => by
      by_cases e : i = k
      · rw [e]; exact h
      · exact hnb i (by omega)
    refine ⟨byMo hTE (t := 1) (by decide) (by omega), fiMo hTE (t := 1) (by decide) (by omega) _ _, by omega, fun h2 => ⟨fun hw => faultQ ?_, fun hw => ⟨by omega, fun _ => ⟨by omega, by omega, ?_⟩, fun h3 => absurd h2 h3⟩⟩, fun h2 => ⟨fun hw => faultQ ?_, fun hw => ⟨by omega, fun h3 => absurd h3 h2, fun _ => ⟨by omega, by omega, ?_⟩⟩⟩⟩
    · unfold gbad
      rw [if_pos (by omega)]
      exact decide_eq_true hw
    · rintro F rfl
      have hg : gbad b k = false := by unfold gbad; rw [if_pos (by omega)]; exact decide_eq_false hw
      have ek : ((k : Int) / 2).toNat = k / 2 := by omega
      rw [ek]
      refine ⟨by unfold c32; omega, ⟨k + 1, by omega, by omega, up hg, fun m hm => ?_, fun m hm => ?_, fun a i h1 h2 h3 => ?_, ?_⟩, ?_⟩
      · by_cases z : m = k / 2
        · subst z
          rw [hu_s, show 2 * (k / 2) = k by omega]
        · rw [hu_i _ _ z]; exact h60 m (by omega)
      · rw [hu_k _ _ (by decide)]; exact h61 m (by omega)
      · rw [hu_k _ _ h1]; exact hE a i h1 h2 h3
      · rw [hu_k _ _ (by decide)]; exact hE5
      · rw [hu_k _ _ (by decide), e57]; omega
    · unfold gbad
      rw [if_neg (by omega)]
      refine decide_eq_true fun q => ?_
      rw [if_pos (by omega)] at hw
      omega
    · rintro F rfl
      have hq : 0 ≤ b k - 48 ∧ b k - 48 ≤ 9 := by
        by_cases q : 0 ≤ b k - 48 ∧ b k - 48 ≤ 9
        · exact q
        · rw [if_neg q] at hw; exact absurd rfl hw
      have hg : gbad b k = false := by unfold gbad; rw [if_neg (by omega)]; exact decide_eq_false (fun q => q (by omega))
      have ek : ((k : Int) / 2).toNat = k / 2 := by omega
      rw [ek, if_pos hq]
      refine ⟨by unfold c32; omega, ⟨k + 1, by omega, by omega, up hg, fun m hm => ?_, fun m hm => ?_, fun a i h1 h2 h3 => ?_, ?_⟩, ?_⟩
      · rw [hu_k _ _ (by decide)]; exact h60 m (by omega)
      · by_cases z : m = k / 2
        · subst z
          rw [hu_s, show 2 * (k / 2) + 1 = k by omega]
        · rw [hu_i _ _ z]; exact h61 m (by omega)
      · rw [hu_k _ _ h2]; exact hE a i h1 h2 h3
      · rw [hu_k _ _ (by decide)]; exact hE5
      · rw [hu_k _ _ (by decide), e57]; omega
/-- four bytes of a candidate: how many are good -/
def kgood (b : Nat → Int) (n at_ : Nat) : Int :=
  if ¬ (at_ < n) ∨ kbad b at_ = true then 0 else if ¬ (at_ + 1 < n) ∨ kbad b (at_ + 1) = true then 1 else if ¬ (at_ + 2 < n) ∨ kbad b (at_ + 2) = true then 2 else if ¬ (at_ + 3 < n) ∨ kbad b (at_ + 3) = true then 3 else 4
set_option maxHeartbeats 4000000 in
theorem C_readsCandidate {D : HP} (hT : TXM D) {j : Nat} (hj : j < 8) : CT mX6_readsCandidate [vR 56, vI j, vI ((5 * j : Nat) : Int)] D (fun v E => v = some (vI (kgood (tB D 2) (tN D 2) (5 * j))) ∧ (kgood (tB D 2) (tN D 2) (5 * j) = 4 → E 62 j = 10 * (tB D 2 (5 * j) - 48) + (tB D 2 (5 * j + 1) - 48) ∧ E 63 j = tB D 2 (5 * j + 2) - 48 ∧ E 64 j = hd (tB D 2 (5 * j + 3))) ∧ (∀ a i, (a ≠ 62 ∧ a ≠ 63 ∧ a ≠ 64) ∨ i ≠ j → E a i = D a i)) := by
  have hnn := tN_in hT (t := 2) (by decide)
  have hn := hT.2.2.1
  refine V_X6_readsCandidate j ((5 * j : Nat) : Int) (fun _ _ _ => ?_)
  have bt : ∀ i : Nat, fX6_byteAt D 2 ((5 * j : Nat) + (i : Int)) = if 5 * j + i < tN D 2 then tB D 2 (5 * j + i) else -1 := fun i => by
    by_cases q : 5 * j + i < tN D 2
    · rw [if_pos q]
      exact (byM (D := D) (t := 2) (k := 5 * j + i) (by omega))
    · rw [if_neg q]
      exact (byMe (D := D) (t := 2) (k := 5 * j + i) (by omega))
  have fg : ∀ (i : Nat) (lo hi : Int), fX6_figureAt D 2 ((5 * j : Nat) + (i : Int)) lo hi = if lo ≤ fX6_byteAt D 2 ((5 * j : Nat) + (i : Int)) - 48 ∧ fX6_byteAt D 2 ((5 * j : Nat) + (i : Int)) - 48 ≤ hi then fX6_byteAt D 2 ((5 * j : Nat) + (i : Int)) - 48 else -1 := fun i lo hi => fiM (D := D) (t := 2) (k := 5 * j + i) lo hi
  have b0 := bt 0
  have g0 := fg 0 0 2
  have b1 := bt 1
  have g1 := fg 1 0 9
  have b2 := bt 2
  have g2 := fg 2 1 9
  have b3 := bt 3
  rw [show (((5 * j : Nat) : Int) + ((0 : Nat) : Int)) = ((5 * j : Nat) : Int) by omega, Nat.add_zero] at b0
  rw [show (((5 * j : Nat) : Int) + ((0 : Nat) : Int)) = ((5 * j : Nat) : Int) by omega] at g0
  rw [b0] at g0
  rw [b1] at g1
  rw [b2] at g2
  have k0 : kbad (tB D 2) (5 * j) = decide (¬ (48 ≤ tB D 2 (5 * j) ∧ tB D 2 (5 * j) ≤ 50)) := by unfold kbad; rw [if_pos (by omega)]
  have k1 : kbad (tB D 2) (5 * j + 1) = decide (¬ (48 ≤ tB D 2 (5 * j + 1) ∧ tB D 2 (5 * j + 1) ≤ 57)) := by unfold kbad; rw [if_neg (by omega), if_pos (by omega)]
  have k2 : kbad (tB D 2) (5 * j + 2) = decide (¬ (49 ≤ tB D 2 (5 * j + 2) ∧ tB D 2 (5 * j + 2) ≤ 57)) := by unfold kbad; rw [if_neg (by omega), if_neg (by omega), if_pos (by omega)]
  have k3 : kbad (tB D 2) (5 * j + 3) = decide (hd (tB D 2 (5 * j + 3)) = -1) := by unfold kbad; rw [if_neg (by omega), if_neg (by omega), if_neg (by omega), if_pos (by omega)]
  have o1 : ∀ (i lo hi : Int), 0 ≤ i → oX6_figureAt D 2 (((5 * j : Nat) : Int) + i) lo hi := fun i lo hi h => fiMo hT (t := 2) (by decide) (by omega) lo hi
  have o2 : oX6_figureAt D 2 ((5 * j : Nat) : Int) 0 2 := fiMo hT (t := 2) (by decide) (by omega) _ _
  refine ⟨o2, by unfold c32; omega, o1 1 _ _ (by decide), by unfold c32; omega, o1 2 _ _ (by decide), by unfold c32; omega, byMo hT (t := 2) (by decide) (by omega), ?_⟩
  rintro v hv
  have hv' : v = if 5 * j + 3 < tN D 2 then hd (tB D 2 (5 * j + 3)) else -1 := by
    rw [hv]
    have b3' : fX6_byteAt D 2 (((5 * j : Nat) : Int) + 3) = _ := b3
    rw [b3']
    by_cases q : 5 * j + 3 < tN D 2
    · rw [if_pos q, if_pos q]; rfl
    · rw [if_neg q, if_neg q]; rfl
  have g1' : fX6_figureAt D 2 (((5 * j : Nat) : Int) + 1) 0 9 = _ := g1
  have g2' : fX6_figureAt D 2 (((5 * j : Nat) : Int) + 2) 1 9 = _ := g2
  rw [g0, g1', g2']
  clear hv b0 b1 b2 b3 g0 g1 g2 g1' g2' bt fg
  unfold kgood
  rw [k0, k1, k2, k3]
  have hd3 := hd_in (tB D 2 (5 * j + 3))
  generalize tB D 2 (5 * j) = y0 at *
  generalize tB D 2 (5 * j + 1) = y1 at *
  generalize tB D 2 (5 * j + 2) = y2 at *
  generalize hd (tB D 2 (5 * j + 3)) = y3 at *
  generalize tN D 2 = n at *
  simp only [decide_eq_true_eq]
  refine ⟨fun h0 => ⟨?_, fun h4 => ?_, fun _ _ _ => trivial⟩, fun h0 => ?_⟩
  · rw [if_pos]
    by_cases q : 5 * j < n
    · right; rw [if_pos q] at h0; intro z; rw [if_pos (by omega)] at h0; omega
    · exact Or.inl q
  · exfalso
    rw [if_pos] at h4
    · omega
    · by_cases q : 5 * j < n
      · right; rw [if_pos q] at h0; intro z; rw [if_pos (by omega)] at h0; omega
      · exact Or.inl q
  have q0 : 5 * j < n ∧ 48 ≤ y0 ∧ y0 ≤ 50 := by
    by_cases q : 5 * j < n
    · rw [if_pos q] at h0
      by_cases z : 0 ≤ y0 - 48 ∧ y0 - 48 ≤ 2
      · omega
      · rw [if_neg z] at h0; exact absurd rfl h0
    · rw [if_neg q] at h0; simp at h0
  have n0 : ¬ (¬ (5 * j < n) ∨ ¬ (48 ≤ y0 ∧ y0 ≤ 50)) := by omega
  rw [if_neg n0, if_pos q0.1, if_pos (show 0 ≤ y0 - 48 ∧ y0 - 48 ≤ 2 by omega)]
  refine ⟨fun h1 => ⟨?_, fun h4 => ?_, fun _ _ _ => trivial⟩, fun h1 => ?_⟩
  · rw [if_pos]
    by_cases q : 5 * j + 1 < n
    · right; rw [if_pos q] at h1; intro z; rw [if_pos (by omega)] at h1; omega
    · exact Or.inl q
  · exfalso
    rw [if_pos] at h4
    · omega
    · by_cases q : 5 * j + 1 < n
      · right; rw [if_pos q] at h1; intro z; rw [if_pos (by omega)] at h1; omega
      · exact Or.inl q
  have q1 : 5 * j + 1 < n ∧ 48 ≤ y1 ∧ y1 ≤ 57 := by
    by_cases q : 5 * j + 1 < n
    · rw [if_pos q] at h1
      by_cases z : 0 ≤ y1 - 48 ∧ y1 - 48 ≤ 9
      · omega
      · rw [if_neg z] at h1; exact absurd rfl h1
    · rw [if_neg q] at h1; simp at h1
  have n1 : ¬ (¬ (5 * j + 1 < n) ∨ ¬ (48 ≤ y1 ∧ y1 ≤ 57)) := by omega
  rw [if_neg n1, if_pos q1.1, if_pos (show 0 ≤ y1 - 48 ∧ y1 - 48 ≤ 9 by omega)]
  refine ⟨fun h2 => ⟨?_, fun h4 => ?_, fun _ _ _ => trivial⟩, fun h2 => ?_⟩
  · rw [if_pos]
    by_cases q : 5 * j + 2 < n
    · right; rw [if_pos q] at h2; intro z; rw [if_pos (by omega)] at h2; omega
    · exact Or.inl q
  · exfalso
    rw [if_pos] at h4
    · omega
    · by_cases q : 5 * j + 2 < n
      · right; rw [if_pos q] at h2; intro z; rw [if_pos (by omega)] at h2; omega
      · exact Or.inl q
  have q2 : 5 * j + 2 < n ∧ 49 ≤ y2 ∧ y2 ≤ 57 := by
    by_cases q : 5 * j + 2 < n
    · rw [if_pos q] at h2
      by_cases z : 1 ≤ y2 - 48 ∧ y2 - 48 ≤ 9
      · omega
      · rw [if_neg z] at h2; exact absurd rfl h2
    · rw [if_neg q] at h2; simp at h2
  have n2 : ¬ (¬ (5 * j + 2 < n) ∨ ¬ (49 ≤ y2 ∧ y2 ≤ 57)) := by omega
  rw [if_neg n2, if_pos q2.1, if_pos (show 1 ≤ y2 - 48 ∧ y2 - 48 ≤ 9 by omega)]
  refine ⟨fun h3 => ⟨?_, fun h4 => ?_, fun _ _ _ => trivial⟩, fun h3 => ?_⟩
  · rw [if_pos]
    by_cases q : 5 * j + 3 < n
    · right; rw [if_pos q] at hv'; omega
    · exact Or.inl q
  · exfalso
    rw [if_pos] at h4
    · omega
    · by_cases q : 5 * j + 3 < n
      · right; rw [if_pos q] at hv'; omega
      · exact Or.inl q
  have q3 : 5 * j + 3 < n ∧ v = y3 := by
    by_cases q : 5 * j + 3 < n
    · rw [if_pos q] at hv'; exact ⟨q, hv'⟩
    · rw [if_neg q] at hv'; exact absurd hv' h3
  have n3 : ¬ (¬ (5 * j + 3 < n) ∨ y3 = -1) := by omega
  rw [if_neg n3]
  refine ⟨by unfold c32; omega, by unfold c32; omega, by omega, ?_⟩
  rintro E7 rfl
  refine ⟨by omega, ?_⟩
  rintro E9 rfl
  refine ⟨by omega, ?_⟩
  rintro E11 rfl
  rw [Int.toNat_natCast]
  refine ⟨rfl, fun _ => ⟨?_, ?_, ?_⟩, fun a i h => ?_⟩
  · rw [hu_k _ _ (by decide), hu_k _ _ (by decide), hu_s]
  · rw [hu_k _ _ (by decide), hu_s]
  · rw [hu_s]; exact q3.2
  · rcases h with h | h
    · rw [hu_k _ _ h.2.2, hu_k _ _ h.2.1, hu_k _ _ h.1]
    · rw [hu_i _ _ h, hu_i _ _ h, hu_i _ _ h]
