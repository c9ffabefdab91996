/-- the turn of the end is as good as the turn ahead of a minute -/
theorem tu_late {S : SC} {m : Nat} : ∀ (d : Nat) (k : Nat), (tu S (m + d) k = -1 ∨ (m : Int) ≤ tu S (m + d) k) ↔ (tu S m k = -1 ∨ (m : Int) ≤ tu S m k)
  | 0, k => Iff.rfl
  | d + 1, k => by
    rw [← tu_late d k]
    by_cases q : tu S (m + d) k = -1
    · have : tu S (m + (d + 1)) k = -1 ∨ tu S (m + (d + 1)) k = ((m + d : Nat) : Int) := by
        show tu S (m + d + 1) k = -1 ∨ tu S (m + d + 1) k = ((m + d : Nat) : Int)
        unfold tu at *; simp only [rt]; split
        · exact Or.inr rfl
        · exact Or.inl q
      omega
    · rw [show m + (d + 1) = m + d + 1 by omega, tu_keep q]
theorem wnd_late {S : SC} {m M : Nat} (h : m ≤ M) (c : Int) : wnd S (tu S M) m c = wnd S (tu S m) m c := by
  refine wnd_congr fun k _ => ?_
  have := tu_late (S := S) (m := m) (M - m) k
  rwa [show m + (M - m) = M by omega] at this
theorem C_windOf {D : HP} (hT : TXM D) {m : Nat} {c : Int} (hm : (m : Int) < tS D 0 2) (h0 : 0 ≤ c) (h1 : c < tS D 0 1) : CT mX6_windOf [vR 56, vI m, vI c] D (fun v E => v = some (vI (wnd (tS D) (tu (tS D) m) m c)) ∧ MS E (tS D) ∧ FRw D E) := by
  have hok := tS_ok hT
  refine V_X6_windOf m c (fun _ _ _ => ⟨_, C_runsTold hT, ?_⟩)
  rintro E ⟨-, hR, hM, hF⟩ _
  refine ⟨windMo hM hok hm h0 h1, ?_, hM, hF⟩
  rw [windM hM hok hm h0 h1, ← wnd_late (M := (tS D 0 2).toNat) (by omega) c, wnd_congr (t' := tu (tS D) (tS D 0 2).toNat) (fun k hk => by rw [hR.1 k hk]; exact Iff.rfl)]
theorem M_wind {D : HP} (hT : TXM D) (a b : Int) : CT mX6_wind [vR 56, vI a, vI b] D (fun v E => v = some (vI (vWind (tS D) a b)) ∧ FRw D E) := by
  refine V_X6_wind a b (fun _ _ _ => ⟨_, C_isMinute hT a, ?_⟩)
  rintro r E ⟨hr, hM, hF⟩ _ _
  have hr := vIj hr
  subst hr
  unfold vWind
  by_cases q : 0 ≤ a ∧ a < tS D 0 2
  · rw [if_pos q]
    refine ⟨fun z => absurd z (by decide), fun _ => ⟨_, C_isCell (hF.TX hT) b, ?_⟩⟩
    rw [hF.S]
    rintro r G ⟨hr, hM2, hF2⟩ _ _
    have hr := vIj hr
    subst hr
    by_cases q2 : 0 ≤ b ∧ b < tS D 0 1
    · rw [if_pos q2]
      have hFG := hF.tr hF2
      have e := C_windOf (hFG.TX hT) (m := a.toNat) (c := b) (by rw [hFG.S]; omega) q2.1 (by rw [hFG.S]; exact q2.2)
      rw [hFG.S, show ((a.toNat : Nat) : Int) = a by omega] at e
      refine ⟨fun z => absurd z (by decide), fun _ => ⟨_, e, ?_⟩⟩
      rintro r K ⟨hr, -, hF3⟩ _ _
      rw [if_pos ⟨q, q2⟩]
      exact ⟨hr, hFG.tr hF3⟩
    · rw [if_neg q2]
      exact ⟨fun _ => ⟨by rw [if_neg (fun y => q2 y.2)], hF.tr hF2⟩, fun z => absurd rfl z⟩
  · rw [if_neg q]
    exact ⟨fun _ => ⟨by rw [if_neg (fun y => q y.1)], hF⟩, fun z => absurd rfl z⟩
theorem C_ribsOf {D : HP} (hT : TXM D) {m k : Nat} (hm : (m : Int) < tS D 0 2) (hk : (k : Int) < tS D 0 3) : CT mX6_ribsOf [vR 56, vI m, vI k] D (fun v E => v = some (vI (rb (tS D) m k)) ∧ MS E (tS D) ∧ FRw D E) := by
  have hok := tS_ok hT
  have h1 := hok.2.2.1
  have h2 := hok.2.2.2.1
  refine V_X6_ribsOf m k (fun _ _ _ => ⟨_, C_runsTold hT, ?_⟩)
  rintro E ⟨-, hR, hM, hF⟩ _
  refine ⟨by unfold c32; omega, by unfold c32; omega, by omega, ?_, hM, hF⟩
  rw [show (8 * (m : Int) + (k : Int)).toNat = 8 * m + k by omega, hR.2.1 m k (by omega) hk]
theorem M_ribs {D : HP} (hT : TXM D) (a b : Int) : CT mX6_ribs [vR 56, vI a, vI b] D (fun v E => v = some (vI (vRibs (tS D) a b)) ∧ FRw D E) := by
  refine V_X6_ribs a b (fun _ _ _ => ⟨_, C_isMinute hT a, ?_⟩)
  rintro r E ⟨hr, hM, hF⟩ _ _
  have hr := vIj hr
  subst hr
  unfold vRibs
  by_cases q : 0 ≤ a ∧ a < tS D 0 2
  · rw [if_pos q]
    refine ⟨fun z => absurd z (by decide), fun _ => ⟨_, C_isCandidate (hF.TX hT) b, ?_⟩⟩
    rw [hF.S]
    rintro r G ⟨hr, hM2, hF2⟩ _ _
    have hr := vIj hr
    subst hr
    by_cases q2 : 0 ≤ b ∧ b < tS D 0 3
    · rw [if_pos q2]
      have hFG := hF.tr hF2
      have e := C_ribsOf (hFG.TX hT) (m := a.toNat) (k := b.toNat) (by rw [hFG.S]; omega) (by rw [hFG.S]; omega)
      rw [hFG.S, show ((a.toNat : Nat) : Int) = a by omega, show ((b.toNat : Nat) : Int) = b by omega] at e
      refine ⟨fun z => absurd z (by decide), fun _ => ⟨_, e, ?_⟩⟩
      rintro r K ⟨hr, -, hF3⟩ _ _
      rw [if_pos ⟨q, q2⟩]
      exact ⟨hr, hFG.tr hF3⟩
    · rw [if_neg q2]
      exact ⟨fun _ => ⟨by rw [if_neg (fun y => q2 y.2)], hF.tr hF2⟩, fun z => absurd rfl z⟩
  · rw [if_neg q]
    exact ⟨fun _ => ⟨by rw [if_neg (fun y => q y.1)], hF⟩, fun z => absurd rfl z⟩
theorem eleS_b (S : SC) (k : Nat) : eleS S k = 0 ∨ eleS S k = 1 := by unfold eleS; split <;> simp
theorem retS_b (S : SC) (k : Nat) : retS S k = 0 ∨ retS S k = 1 := by unfold retS; repeat' split; all_goals simp
theorem C_turnsOf {D : HP} (hT : TXM D) {k : Nat} (hk : (k : Int) < tS D 0 3) (b : Int) : CT mX6_turnsOf [vR 56, vI k, vI b] D (fun v E => v = some (vI (vOverOf (tS D) k b)) ∧ MS E (tS D) ∧ FRw D E) := by
  have hok := tS_ok hT
  have h1 := hok.2.2.1
  have h2 := hok.2.2.2.1
  refine V_X6_turnsOf k b (I9 := fun x1 x2 x3 x4 E => x1 = k ∧ x2 = b ∧ (RM E (tS D) ∧ MS E (tS D) ∧ FRw D E) ∧ ∃ j : Nat, x4 = j ∧ (j : Int) ≤ tS D 0 2 ∧ x3 = cntB (fun i => decide (inn (tS D) i = k)) j ∧ 0 ≤ x3 ∧ x3 ≤ j) (u9 := fun _ _ _ x4 _ => (12 - x4).toNat) (fun _ _ _ => ⟨_, C_runsTold hT, ?_⟩) ?_
  · rintro E ⟨-, h⟩ _
    exact ⟨rfl, rfl, h, 0, rfl, by omega, rfl, by decide, by decide⟩
  rintro x1 x2 x3 x4 E ⟨rfl, rfl, ⟨hR, hM, hF⟩, j, rfl, hj, h3, h4, h5⟩ hcD c1 c2 c3 c4
  rw [hM.1.2.2.1]
  refine ⟨fun hc => ⟨⟨fun _ => by omega, fun _ => ⟨fun _ => by omega, fun _ => ⟨fun _ => by omega, fun _ => trivial⟩⟩⟩, ?_, hM, hF⟩, fun hc => ⟨by omega, ?_, ?_⟩⟩
  · have e : j = (tS D 0 2).toNat := by omega
    subst e
    have e3 : x3 = forS (tS D) k := h3
    unfold vOverOf
    rw [Int.toNat_natCast, hR.1 k hk, hR.2.2.2.1 k hk, hR.2.2.2.2 k (by omega), e3]
    congr 2
    by_cases z0 : x2 = 0
    · rw [if_pos z0, if_pos z0]
    rw [if_neg z0, if_neg z0]
    by_cases z1 : x2 = 1
    · rw [if_pos z1, if_pos z1]
      rcases retS_b (tS D) k with q | q <;> rw [q] <;> rfl
    rw [if_neg z1, if_neg z1]
    by_cases z2 : x2 = 2
    · rw [if_pos z2, if_pos z2]
      rcases eleS_b (tS D) k with q | q <;> rw [q] <;> rfl
    rw [if_neg z2, if_neg z2]
  · unfold c32 at *; split <;> omega
  · rintro v hv
    rw [Int.toNat_natCast, hR.2.2.1 j (by omega)] at hv
    refine ⟨by unfold c32; omega, ⟨rfl, rfl, ⟨hR, hM, hF⟩, j + 1, by omega, by omega, ?_, ?_, ?_⟩, by omega⟩
    · rw [hv, h3]
      simp only [cntB]
      grind
    · rw [hv]; split <;> omega
    · rw [hv]; split <;> omega
theorem M_overturns {D : HP} (hT : TXM D) (a b : Int) : CT mX6_overturns [vR 56, vI a, vI b] D (fun v E => v = some (vI (vOver (tS D) a b)) ∧ FRw D E) := by
  refine V_X6_overturns a b (fun _ _ _ => ⟨_, C_isCandidate hT a, ?_⟩)
  rintro r E ⟨hr, hM, hF⟩ _ _
  have hr := vIj hr
  subst hr
  unfold vOver
  by_cases q : 0 ≤ a ∧ a < tS D 0 3
  · rw [if_pos q]
    refine ⟨fun z => absurd z (by decide), fun _ => ⟨fun h => ?_, fun h => ?_⟩⟩
    · rw [wi1] at h
      exact ⟨by rw [if_neg (fun y => h y.2)], hF⟩
    · rw [wi1] at h
      have h := Decidable.of_not_not h
      have e := C_turnsOf (hF.TX hT) (k := a.toNat) (by rw [hF.S]; omega) b
      rw [hF.S, show ((a.toNat : Nat) : Int) = a by omega] at e
      refine ⟨_, e, ?_⟩
      rintro r K ⟨hr, -, hF3⟩ _ _
      rw [if_pos ⟨q, h⟩]
      exact ⟨hr, hF.tr hF3⟩
  · rw [if_neg q]
    exact ⟨fun _ => ⟨by rw [if_neg (fun y => q y.1)], hF⟩, fun z => absurd rfl z⟩
theorem C_inOf {D : HP} (hT : TXM D) {m : Nat} (hm : (m : Int) < tS D 0 2) : CT mX6_inOf [vR 56, vI m] D (fun v E => v = some (vI (inn (tS D) m)) ∧ MS E (tS D) ∧ FRw D E) := by
  have h1 := (tS_ok hT).2.2.1
  refine V_X6_inOf m (fun _ _ => ⟨_, C_runsTold hT, ?_⟩)
  rintro E ⟨-, hR, hM, hF⟩ _
  refine ⟨by omega, ?_, hM, hF⟩
  rw [Int.toNat_natCast, hR.2.2.1 m hm]
theorem M_in {D : HP} (hT : TXM D) (a : Int) : CT mX6_in [vR 56, vI a] D (fun v E => v = some (vI (vIn (tS D) a)) ∧ FRw D E) := by
  refine V_X6_in a (fun _ _ => ⟨_, C_isMinute hT a, ?_⟩)
  rintro r E ⟨hr, hM, hF⟩ _ _
  have hr := vIj hr
  subst hr
  unfold vIn
  by_cases q : 0 ≤ a ∧ a < tS D 0 2
  · rw [if_pos q]
    have e := C_inOf (hF.TX hT) (m := a.toNat) (by rw [hF.S]; omega)
    rw [hF.S, show ((a.toNat : Nat) : Int) = a by omega] at e
    refine ⟨fun z => absurd z (by decide), fun _ => ⟨_, e, ?_⟩⟩
    rintro r K ⟨hr, -, hF3⟩ _ _
    rw [if_pos q]
    exact ⟨hr, hF.tr hF3⟩
  · rw [if_neg q]
    exact ⟨fun _ => ⟨by rw [if_neg q], hF⟩, fun z => absurd rfl z⟩
theorem C_firstOf {D : HP} (hT : TXM D) (b : Int) : CT mX6_firstOf [vR 56, vI b] D (fun v E => v = some (vI (vFirstOf (tS D) b)) ∧ MS E (tS D) ∧ FRw D E) := by
  have h1 := (tS_ok hT).2.2.1
  refine V_X6_firstOf b (I6 := fun x1 x2 E => x1 = b ∧ (RM E (tS D) ∧ MS E (tS D) ∧ FRw D E) ∧ ∃ j : Nat, x2 = j ∧ (j : Int) ≤ tS D 0 2 ∧ ∀ i, i < j → (fun i => decide (inn (tS D) i ≠ -1)) i = false) (u6 := fun _ x2 _ => (12 - x2).toNat) (fun _ _ => ⟨_, C_runsTold hT, ?_⟩) ?_
  · rintro E ⟨-, h⟩ _
    exact ⟨rfl, h, 0, rfl, by omega, fun i hi => absurd hi (Nat.not_lt_zero _)⟩
  rintro x1 x2 E ⟨rfl, ⟨hR, hM, hF⟩, j, rfl, hj, hn⟩ hcD c1 c2
  rw [hM.1.2.2.1]
  refine ⟨fun hc => ⟨?_, hM, hF⟩, fun hc => ⟨by omega, fun h => ⟨?_, ⟨rfl, ⟨hR, hM, hF⟩, j + 1, by omega, by omega, fun i hi => ?_⟩, by omega⟩, fun h => ⟨⟨fun _ => trivial, fun _ => by omega⟩, ?_, hM, hF⟩⟩⟩
  · have e : j = (tS D 0 2).toNat := by omega
    subst e
    unfold vFirstOf fstS
    rw [fsN_no hn, if_pos rfl]
  · unfold c32; omega
  · rw [Int.toNat_natCast, hR.2.2.1 j (by omega)] at h
    by_cases e : i = j
    · rw [e]; simp [h]
    · exact hn i (by omega)
  · rw [Int.toNat_natCast, hR.2.2.1 j (by omega)] at h ⊢
    unfold vFirstOf
    have e : fstS (tS D) = j := by unfold fstS; exact fsN_yes hn (by simp [h]) (by omega)
    rw [e, if_neg (show ¬ ((j : Int) = -1) by omega), Int.toNat_natCast]
theorem M_first {D : HP} (hT : TXM D) (a : Int) : CT mX6_first [vR 56, vI a] D (fun v E => v = some (vI (vFirst (tS D) a)) ∧ FRw D E) := by
  refine V_X6_first a (fun _ _ => ⟨fun h => ?_, fun h => ⟨_, C_firstOf hT a, ?_⟩⟩)
  · rw [wi1] at h
    exact ⟨by unfold vFirst; rw [if_neg h], FRw.rf D⟩
  · rw [wi1] at h
    have h := Decidable.of_not_not h
    rintro r E ⟨hr, -, hF⟩ _ _
    unfold vFirst
    rw [if_pos h]
    exact ⟨hr, hF⟩
theorem C_lullsNow {D : HP} (hT : TXM D) : CT mX6_lullsNow [vR 56] D (fun v E => v = some (vI (vLulls (tS D))) ∧ MS E (tS D) ∧ FRw D E) := by
  have h1 := (tS_ok hT).2.2.1
  refine V_X6_lullsNow (I8 := fun x1 x2 E => (RM E (tS D) ∧ MS E (tS D) ∧ FRw D E) ∧ ∃ j : Nat, x2 = j ∧ (j : Int) ≤ tS D 0 2 ∧ x1 = cntB (fun i => decide (inn (tS D) i = -1)) j ∧ 0 ≤ x1 ∧ x1 ≤ j) (u8 := fun _ x2 _ => (12 - x2).toNat) (fun _ => ⟨_, C_runsTold hT, ?_⟩) ?_
  · rintro E ⟨-, h⟩ _
    exact ⟨h, 0, rfl, by omega, rfl, by decide, by decide⟩
  rintro x1 x2 E ⟨⟨hR, hM, hF⟩, j, rfl, hj, h3, h4, h5⟩ hcD c1 c2
  rw [hM.1.2.2.1]
  refine ⟨fun hc => ⟨?_, hM, hF⟩, fun hc => ⟨by omega, ?_, ?_⟩⟩
  · have e : j = (tS D 0 2).toNat := by omega
    subst e
    rw [h3]; rfl
  · unfold c32 at *; split <;> omega
  · rintro v hv
    rw [Int.toNat_natCast, hR.2.2.1 j (by omega)] at hv
    refine ⟨by unfold c32; omega, ⟨⟨hR, hM, hF⟩, j + 1, by omega, by omega, ?_, ?_, ?_⟩, by omega⟩
    · rw [hv, h3]
      simp only [cntB]
      grind
    · rw [hv]; split <;> omega
    · rw [hv]; split <;> omega
theorem M_lulls {D : HP} (hT : TXM D) : CT mX6_lulls [vR 56] D (fun v E => v = some (vI (vLulls (tS D))) ∧ FRw D E) := by
  refine V_X6_lulls (fun _ => ⟨_, C_lullsNow hT, ?_⟩)
  rintro r E ⟨hr, -, hF⟩ _ _
  exact ⟨hr, hF⟩
