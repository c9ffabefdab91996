/-! ===== the class: the corner, the gusts, the candidates are read ===== -/
theorem cfl0 (b : Nat → Int) : cfl b 0 = -1 := by
  unfold cfl cend
  rw [if_pos (show fsN (cbad b) 0 = -1 from rfl), if_neg (by rw [decide_eq_true_eq]; omega)]
set_option maxHeartbeats 4000000 in
theorem C_readCorner {o : Nat} (ho : o = 9 ∨ o = 25) {a : Nat} (ha : a = 2 ∨ a = 3 ∨ a = 4) {D : HP} {n n1 n2 : Nat} {b b1 b2 : Nat → Int} (hX : XT D a n b) (hn : n ≤ 29) (hn1 : n1 ≤ 24) (hn2 : n2 ≤ 39) (hb : CSb D o n1 b1) (hc : CSc D o n2 b2) :
    CT mX1_readCorner [vR (o + 1), vR a] D (fun v E => v = some (vI (cfl b n)) ∧ CS E o (scT n n1 n2 b b1 b2) ∧ SV E o (scT n n1 n2 b b1 b2) ∧ ∀ x i, (x ≠ o + 1 ∨ (i ≠ 0 ∧ i ≠ 1)) → x ≠ o + 2 → x ≠ o + 3 → x ≠ o + 4 → E x i = D x i) := by
  have hok : OKS (scT n n1 n2 b b1 b2) := scT_ok hn hn1 hn2
  have hdv : DV (scT n n1 n2 b b1 b2) := scT_dv
  have fin : ∀ E : HP, (∀ x i, (x ≠ o + 1 ∨ (i ≠ 0 ∧ i ≠ 1)) → x ≠ o + 2 → E x i = D x i) → CSa E o n b → ∃ Q7 : Option MV → HP → Prop, CT mX1_survey [vR (o + 1)] E Q7 ∧ ∀ (D10 : HP), Q7 none D10 → cD D10 → (some (vI (cfl b n)) = some (vI (cfl b n)) ∧ CS D10 o (scT n n1 n2 b b1 b2) ∧ SV D10 o (scT n n1 n2 b b1 b2) ∧ ∀ x i, (x ≠ o + 1 ∨ (i ≠ 0 ∧ i ≠ 1)) → x ≠ o + 2 → x ≠ o + 3 → x ≠ o + 4 → D10 x i = D x i) := by
    intro E hF hA
    have hM : CS E o (scT n n1 n2 b b1 b2) := CS_abc hA ⟨by rw [hF _ _ (Or.inr (by decide)) (by omega)]; exact hb.1, fun m hm => by rw [hF _ _ (by omega) (by omega), hF _ _ (by omega) (by omega)]; exact hb.2 m hm⟩ ⟨by rw [hF _ _ (Or.inr (by decide)) (by omega)]; exact hc.1, fun k hk => by rw [hF _ _ (by omega) (by omega), hF _ _ (by omega) (by omega), hF _ _ (by omega) (by omega)]; exact hc.2 k hk⟩
    refine ⟨_, C_survey ho hok hdv hM, ?_⟩
    rintro F ⟨-, hV, hFF⟩ _
    exact ⟨rfl, CS_of hM (fun x i q => hFF x i (by omega) (by omega)), hV, fun x i p1 p2 p3 p4 => by rw [hFF x i p3 p4, hF x i p1 p2]⟩
  have emp : ∀ E : HP, E (o + 1) 1 = 0 → ccl b n = 0 → CSa E o n b := fun E e z => ⟨fun y => by omega, by rw [e, z], fun j hj => by omega⟩
  refine V_X1_readCorner ho ha (fun _ E1 e1 E3 e3 => ?_)
  have f3 : ∀ x i, (x ≠ o + 1 ∨ (i ≠ 0 ∧ i ≠ 1)) → E3 x i = D x i := fun x i q => by
    rw [e3, e1]
    rcases q with q | q
    · rw [hu_k _ _ q, hu_k _ _ q]
    · rw [hu_i _ _ q.2, hu_i _ _ q.1]
  have hX3 : XT E3 a n b := XT_of hX fun x i q => f3 x i (by omega)
  unfold fX2_length
  rw [hX3.1]
  refine ⟨fun q => ?_, fun q => ⟨_, C_readRows ho ha hX3 (n := n) (by omega) (by rw [e3, hu_s]), ?_⟩⟩
  · obtain rfl : n = 0 := by omega
    have key := fin E3 (fun x i p1 p2 => f3 x i p1) (emp E3 (by rw [e3, hu_s]) (by unfold ccl; rw [if_pos (cfl0 b)]; rfl))
    rw [cfl0] at key ⊢
    exact key
  · rintro r E ⟨hr, hA, hF⟩ _ _
    have hr := vIj hr
    subst hr
    refine ⟨fun q2 => fin E (fun x i p1 p2 => by rw [hF x i p1 p2, f3 x i p1]) (hA q2), fun q2 => fun E29 e29 E31 e31 => ?_⟩
    refine fin E31 (fun x i p1 p2 => ?_) (emp E31 (by rw [e31, hu_s]) (by unfold ccl; rw [if_neg q2]))
    rw [e31, e29]
    rcases p1 with p1 | p1
    · rw [hu_k _ _ p1, hu_k _ _ p1, hF x i (Or.inl p1) p2, f3 x i (Or.inl p1)]
    · rw [hu_i _ _ p1.2, hu_i _ _ p1.1, hF x i (Or.inr p1) p2, f3 x i (Or.inr p1)]
theorem wy_C (D : HP) (x : Int) : fX1_wayOf D x = wy x := by
  unfold fX1_wayOf wy
  repeat' split
  all_goals omega
theorem hd_C (D : HP) (x : Int) : fX1_holdOf D x = hd x := rfl
theorem fig_C (D : HP) (x lo hi : Int) : fX1_figureOf D x lo hi = if lo ≤ x - 48 ∧ x - 48 ≤ hi then x - 48 else -1 := by
  unfold fX1_figureOf
  repeat' split
  all_goals omega
theorem fig_o (D : HP) {x : Int} (h : 0 ≤ x ∧ x ≤ 255) (lo hi : Int) : oX1_figureOf D x lo hi := ⟨by unfold c32; omega, trivial⟩
set_option maxHeartbeats 4000000 in
theorem C_readGusts {o : Nat} (ho : o = 9 ∨ o = 25) {a : Nat} (ha : a = 2 ∨ a = 3 ∨ a = 4) {D : HP} {n : Nat} {b : Nat → Int} (hX : XT D a n b) (hn : n ≤ 24) (hB : ∀ i, i < n → 0 ≤ b i ∧ b i ≤ 255) :
    CT mX1_readGusts [vR (o + 1), vR a] D (fun v E => v = some (vI (gfl b n)) ∧ CSb E o n b ∧ ∀ x i, (x ≠ o + 1 ∨ i ≠ 2) → x ≠ o + 5 → x ≠ o + 6 → E x i = D x i) := by
  refine V_X1_readGusts ho ha
    (fun x2 x3 E => x2 = n ∧ (∀ x i, (x ≠ o + 1 ∨ i ≠ 2) → x ≠ o + 5 → x ≠ o + 6 → E x i = D x i) ∧ E (o + 1) 2 = 0 ∧ ∃ k : Nat, x3 = k ∧ k ≤ n ∧ (∀ i, i < k → gbad b i = false) ∧ (∀ m : Nat, 2 * m < k → E (o + 5) m = wy (b (2 * m))) ∧ ∀ m : Nat, 2 * m + 1 < k → E (o + 6) m = b (2 * m + 1) - 48) (fun x2 x3 _ => (x2 - x3).toNat)
    (fun _ E1 e1 => ?_) ?_
  · have hX1 : XT E1 a n b := XT_of hX fun x i q => by rw [e1, hu_k _ _ (by omega)]
    refine ⟨hX1.1, fun x i p1 p2 p3 => ?_, by rw [e1, hu_s], 0, rfl, by omega, fun i hi => absurd hi (Nat.not_lt_zero _), fun m hm => absurd hm (by omega), fun m hm => absurd hm (by omega)⟩
    rw [e1]
    rcases p1 with p1 | p1
    · rw [hu_k _ _ p1]
    · rw [hu_i _ _ p1]
  · rintro x2 x3 E ⟨rfl, hF, h0, k, rfl, hk, hnb, h5, h6⟩ _ _ _
    have hXE : XT E a n b := XT_of hX fun x i q => hF x i (by omega) (by omega) (by omega)
    have bad : k < n → gbad b k = true → some (vI (k : Int)) = some (vI (gfl b n)) ∧ CSb E o n b ∧ ∀ x i, (x ≠ o + 1 ∨ i ≠ 2) → x ≠ o + 5 → x ≠ o + 6 → E x i = D x i := fun hkn hb => by
      have e : gfl b n = k := by
        unfold gfl
        rw [fsN_yes hnb hb hkn, if_neg (by omega)]
      have em : gmn b n = 0 := by unfold gmn; rw [if_neg (by omega)]
      rw [e]
      exact ⟨rfl, ⟨by rw [h0, em], fun m hm => by omega⟩, hF⟩
    refine ⟨fun q => ?_, fun q => ?_⟩
    · have ek : k = n := by omega
      subst ek
      have hfs := fsN_no hnb
      have eg : gfl b k = if k % 2 = 1 then (k : Int) else -1 := by unfold gfl; rw [if_pos hfs]
      refine ⟨by omega, fun z => ⟨by omega, fun E5 e5 => ?_⟩, fun z => ?_⟩
      · rw [if_neg (by omega)] at eg
        have em : gmn b k = ((k / 2 : Nat) : Int) := by unfold gmn; rw [if_pos eg]
        rw [eg]
        refine ⟨rfl, ⟨?_, fun m hm => ?_⟩, fun x i p1 p2 p3 => ?_⟩
        · rw [e5, hu_s, em]
          split <;> omega
        · rw [em] at hm
          rw [e5, hu_k _ _ (by omega), hu_k _ _ (by omega)]
          exact ⟨h5 m (by omega), h6 m (by omega)⟩
        · rw [e5]
          rcases p1 with p1 | p1
          · rw [hu_k _ _ p1]; exact hF x i (Or.inl p1) p2 p3
          · rw [hu_i _ _ p1]; exact hF x i (Or.inr p1) p2 p3
      · rw [if_pos (by omega)] at eg
        have em : gmn b k = 0 := by unfold gmn; rw [if_neg (by omega)]
        rw [eg]
        exact ⟨rfl, ⟨by rw [h0, em], fun m hm => by omega⟩, hF⟩
    · have hkn : k < n := by omega
      have hbk := hB k hkn
      rw [XT_at hXE hkn, wy_C, fig_C]
      refine ⟨by omega, XT_o hXE (by omega), by omega, ⟨fun _ => trivial, fun _ => fig_o E hbk 0 9⟩, fun v10 hv => ⟨fun z => bad hkn ?_, fun z => ⟨fun z2 => ⟨by omega, fun z3 => ⟨by omega, fun E15 e15 => ⟨by unfold c32; omega, ⟨rfl, fun x i p1 p2 p3 => by rw [e15, hu_k _ _ p2]; exact hF x i p1 p2 p3, by rw [e15, hu_k _ _ (by omega)]; exact h0, k + 1, by omega, by omega, fun i hi => ?_, fun m hm => ?_, fun m hm => ?_⟩, by omega⟩⟩, fun z3 => ⟨by omega, fun E19 e19 => ⟨by unfold c32; omega, ⟨rfl, fun x i p1 p2 p3 => by rw [e19, hu_k _ _ p3]; exact hF x i p1 p2 p3, by rw [e19, hu_k _ _ (by omega)]; exact h0, k + 1, by omega, by omega, fun i hi => ?_, fun m hm => ?_, fun m hm => ?_⟩, by omega⟩⟩⟩, fun z2 => absurd (show (k : Int) / 2 < 12 by omega) z2⟩⟩⟩
      · unfold gbad
        rw [hv] at z
        by_cases y : k % 2 = 0
        · rw [if_pos (by omega)] at z
          rw [if_pos y]; exact decide_eq_true z
        · rw [if_neg (by omega)] at z
          rw [if_neg y]
          refine decide_eq_true ?_
          intro w
          rw [if_pos (by omega)] at z
          omega
      · by_cases y : i = k
        · rw [y]
          unfold gbad
          rw [hv, if_pos z3] at z
          rw [if_pos (by omega)]
          exact decide_eq_false z
        · exact hnb i (by omega)
      · rw [e15]
        by_cases y : 2 * m = k
        · rw [show ((k : Int) / 2).toNat = m by omega, hu_s, hv, if_pos z3, y]
        · rw [hu_i _ _ (by omega)]; exact h5 m (by omega)
      · rw [e15, hu_k _ _ (by omega)]; exact h6 m (by omega)
      · by_cases y : i = k
        · rw [y]
          unfold gbad
          rw [hv, if_neg z3] at z
          rw [if_neg (by omega)]
          refine decide_eq_false ?_
          intro w
          rw [if_neg (by omega)] at z
          omega
        · exact hnb i (by omega)
      · rw [e19, hu_k _ _ (by omega)]; exact h5 m (by omega)
      · rw [e19]
        by_cases y : 2 * m + 1 = k
        · have hw : 0 ≤ b k - 48 ∧ b k - 48 ≤ 9 := by
            rw [hv, if_neg z3] at z
            by_cases w : 0 ≤ b k - 48 ∧ b k - 48 ≤ 9
            · exact w
            · rw [if_neg w] at z; omega
          rw [show ((k : Int) / 2).toNat = m by omega, hu_s, hv, if_neg z3, if_pos hw, y]
        · rw [hu_i _ _ (by omega)]; exact h6 m (by omega)
/-- a byte that cannot be part p of a candidate -/
def kbv (p : Nat) (c : Int) : Bool :=
  if p = 0 then decide (¬ (48 ≤ c ∧ c ≤ 50)) else if p = 1 then decide (¬ (48 ≤ c ∧ c ≤ 57)) else if p = 2 then decide (¬ (49 ≤ c ∧ c ≤ 57)) else if p = 3 then decide (hd c = -1) else decide (c ≠ 59)
theorem kb0 {c : Int} : kbv 0 c = true ↔ ¬ (48 ≤ c ∧ c ≤ 50) := by
  show decide (¬ (48 ≤ c ∧ c ≤ 50)) = true ↔ _
  rw [decide_eq_true_eq]
theorem kb1 {c : Int} : kbv 1 c = true ↔ ¬ (48 ≤ c ∧ c ≤ 57) := by
  show decide (¬ (48 ≤ c ∧ c ≤ 57)) = true ↔ _
  rw [decide_eq_true_eq]
theorem kb2 {c : Int} : kbv 2 c = true ↔ ¬ (49 ≤ c ∧ c ≤ 57) := by
  show decide (¬ (49 ≤ c ∧ c ≤ 57)) = true ↔ _
  rw [decide_eq_true_eq]
theorem kb3 {c : Int} : kbv 3 c = true ↔ hd c = -1 := by
  show decide (hd c = -1) = true ↔ _
  rw [decide_eq_true_eq]
theorem kb4 {c : Int} : kbv 4 c = true ↔ ¬ c = 59 := by
  show decide (c ≠ 59) = true ↔ _
  rw [decide_eq_true_eq]
theorem kbn {p : Nat} {c : Int} {P : Prop} [Decidable P] (e : kbv p c = true ↔ ¬ P) (z : kbv p c = false) : P := Decidable.of_not_not fun y => by
  rw [e.2 y] at z
  cases z
def roE (D : HP) (o a p : Nat) (c : Int) : HP :=
  if p = 0 then hu D (o + 7) a (10 * (c - 48)) else if p = 1 then hu D (o + 7) a (D (o + 7) a + (c - 48)) else if p = 2 then hu D (o + 8) a (c - 48) else if p = 3 then hu D (o + 9) a (hd c) else D
set_option maxHeartbeats 4000000 in
theorem C_readOf {o : Nat} (ho : o = 9 ∨ o = 25) {D : HP} {a p : Nat} (ha : a < 8) (hp : p < 5) {c : Int} (hc : 0 ≤ c ∧ c ≤ 255) (hD : p = 1 → 0 ≤ D (o + 7) a ∧ D (o + 7) a ≤ 20) :
    CT mX1_readOfCandidate [vR (o + 1), vI a, vI p, vI c] D (fun v E => v = some (vI (if kbv p c = true then 0 else 1)) ∧ (kbv p c = false → E = roE D o a p c) ∧ ∀ x i, x ≠ o + 7 → x ≠ o + 8 → x ≠ o + 9 → E x i = D x i) := by
  refine V_X1_readOfCandidate ho a p c (fun _ _ _ _ => ⟨fun q => absurd q (by omega), fun _ => ⟨fun _ => ⟨fun q => ?_, fun q => ⟨fun q1 => ?_, fun q1 => ⟨fun q2 => ?_, fun q2 => ⟨fun q3 => ?_, fun q3 => ?_⟩⟩⟩⟩, fun q => absurd (show (a : Int) < 8 by omega) q⟩⟩)
  · obtain rfl : p = 0 := by omega
    refine ⟨fig_o D hc 0 2, ?_, by omega, fun E4 e4 => ⟨fig_o E4 hc 0 2, ?_⟩⟩
    · rw [fig_C]; unfold c32; split <;> omega
    · rw [fig_C] at e4
      rw [fig_C]
      rw [show ((a : Int)).toNat = a by omega] at e4
      refine ⟨?_, fun z => ?_, fun x i p1 p2 p3 => by rw [e4, hu_k _ _ p1]⟩
      · by_cases w : 0 ≤ c - 48 ∧ c - 48 ≤ 2
        · rw [if_pos w, if_neg (show ¬ c - 48 = -1 by omega), if_neg (fun y => kb0.1 y (by omega))]
        · rw [if_neg w, if_pos rfl, if_pos (kb0.2 (by omega))]
      · have z := kbn kb0 z
        rw [if_pos (by omega)] at e4
        rw [e4]; rfl
  · obtain rfl : p = 1 := by omega
    have hD := hD rfl
    rw [show ((a : Int)).toNat = a by omega]
    refine ⟨by omega, fig_o D hc 0 9, ?_, by omega, fun E4 e4 => ⟨fig_o E4 hc 0 9, ?_⟩⟩
    · rw [fig_C]; unfold c32; split <;> omega
    · rw [fig_C] at e4
      rw [fig_C]
      refine ⟨?_, fun z => ?_, fun x i p1 p2 p3 => by rw [e4, hu_k _ _ p1]⟩
      · by_cases w : 0 ≤ c - 48 ∧ c - 48 ≤ 9
        · rw [if_pos w, if_neg (show ¬ c - 48 = -1 by omega), if_neg (fun y => kb1.1 y (by omega))]
        · rw [if_neg w, if_pos rfl, if_pos (kb1.2 (by omega))]
      · have z := kbn kb1 z
        rw [if_pos (by omega)] at e4
        rw [e4]; rfl
  · obtain rfl : p = 2 := by omega
    refine ⟨fig_o D hc 1 9, by omega, fun E4 e4 => ⟨by omega, ?_⟩⟩
    rw [fig_C] at e4
    rw [show ((a : Int)).toNat = a by omega] at e4 ⊢
    refine ⟨?_, fun z => ?_, fun x i p1 p2 p3 => by rw [e4, hu_k _ _ p2]⟩
    · rw [e4, hu_s]
      by_cases w : 1 ≤ c - 48 ∧ c - 48 ≤ 9
      · rw [if_pos w, if_neg (show ¬ c - 48 = -1 by omega), if_neg (fun y => kb2.1 y (by omega))]
      · rw [if_neg w, if_pos rfl, if_pos (kb2.2 (by omega))]
    · have z := kbn kb2 z
      rw [if_pos (by omega)] at e4
      rw [e4]; rfl
  · obtain rfl : p = 3 := by omega
    refine ⟨by omega, fun E4 e4 => ⟨by omega, ?_⟩⟩
    rw [hd_C] at e4
    rw [show ((a : Int)).toNat = a by omega] at e4 ⊢
    refine ⟨?_, fun z => ?_, fun x i p1 p2 p3 => by rw [e4, hu_k _ _ p3]⟩
    · rw [e4, hu_s]
      by_cases w : hd c = -1
      · rw [if_pos w, if_pos (kb3.2 w)]
      · rw [if_neg w, if_neg (fun y => w (kb3.1 y))]
    · rw [e4]; rfl
  · obtain rfl : p = 4 := by omega
    refine ⟨?_, fun z => rfl, fun x i p1 p2 p3 => rfl⟩
    by_cases w : c = 59
    · rw [if_pos w, if_neg (fun y => kb4.1 y w)]
    · rw [if_neg w, if_pos (kb4.2 w)]
theorem kbv_k (b : Nat → Int) (k : Nat) : kbad b k = kbv (k % 5) (b k) := rfl
