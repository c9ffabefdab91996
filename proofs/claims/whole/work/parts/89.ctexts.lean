/-! ===== the class: texts and what is read of them ===== -/
def XT (D : HP) (a n : Nat) (b : Nat → Int) : Prop := D a 2 = (n : Int) ∧ ∀ i : Nat, i < n → D (a + 3) i = b i
theorem XT_at {D : HP} {a n : Nat} {b : Nat → Int} (h : XT D a n b) {k : Nat} (hk : k < n) : fX2_at D a k = b k := by
  unfold fX2_at
  rw [h.1, if_neg (by omega), if_neg (by omega), show ((k : Int)).toNat = k by omega]
  exact h.2 k hk
theorem XT_o {D : HP} {a n : Nat} {b : Nat → Int} (h : XT D a n b) (hn : n ≤ 39) {k : Int} : oX2_at D a k := by
  unfold oX2_at
  rw [h.1]
  exact ⟨⟨fun _ => trivial, fun _ => ⟨fun _ => trivial, fun _ => by omega⟩⟩, trivial⟩
theorem XT_of {D E : HP} {a n : Nat} {b : Nat → Int} (h : XT D a n b) (e : ∀ x i, x = a ∨ x = a + 3 → E x i = D x i) : XT E a n b :=
  ⟨by rw [e _ _ (Or.inl rfl)]; exact h.1, fun i hi => by rw [e _ _ (Or.inr rfl)]; exact h.2 i hi⟩
def CSa (D : HP) (o n : Nat) (b : Nat → Int) : Prop := (0 < ccl b n → D (o + 1) 0 = cwd b n) ∧ D (o + 1) 1 = ccl b n ∧ ∀ j : Nat, (j : Int) < ccl b n → D (o + 2) j = cW b n j
def CSb (D : HP) (o n : Nat) (b : Nat → Int) : Prop := D (o + 1) 2 = gmn b n ∧ ∀ m : Nat, (m : Int) < gmn b n → D (o + 5) m = wy (b (2 * m)) ∧ D (o + 6) m = b (2 * m + 1) - 48
def CSc (D : HP) (o n : Nat) (b : Nat → Int) : Prop := D (o + 1) 3 = kcn b n ∧ ∀ k : Nat, (k : Int) < kcn b n → D (o + 7) k = 10 * (b (5 * k) - 48) + (b (5 * k + 1) - 48) ∧ D (o + 8) k = b (5 * k + 2) - 48 ∧ D (o + 9) k = hd (b (5 * k + 3))
theorem CS_abc {D : HP} {o n0 n1 n2 : Nat} {b0 b1 b2 : Nat → Int} (ha : CSa D o n0 b0) (hb : CSb D o n1 b1) (hc : CSc D o n2 b2) : CS D o (scT n0 n1 n2 b0 b1 b2) :=
  ⟨⟨ha.1, ha.2.1, hb.1, hc.1⟩, ha.2.2, hb.2, hc.2⟩
theorem CS_a {D : HP} {o n0 n1 n2 : Nat} {b0 b1 b2 : Nat → Int} (h : CS D o (scT n0 n1 n2 b0 b1 b2)) : CSa D o n0 b0 := ⟨h.1.1, h.1.2.1, h.2.1⟩
theorem CS_b {D : HP} {o n0 n1 n2 : Nat} {b0 b1 b2 : Nat → Int} (h : CS D o (scT n0 n1 n2 b0 b1 b2)) : CSb D o n1 b1 := ⟨h.1.2.2.1, h.2.2.1⟩
theorem CS_c {D : HP} {o n0 n1 n2 : Nat} {b0 b1 b2 : Nat → Int} (h : CS D o (scT n0 n1 n2 b0 b1 b2)) : CSc D o n2 b2 := ⟨h.1.2.2.2, h.2.2.2⟩
theorem C_addCell {o : Nat} (ho : o = 9 ∨ o = 25) {D : HP} {w : Int} (h : 0 ≤ D (o + 1) 1 ∧ D (o + 1) 1 < 25) : CT mX1_addCell [vR (o + 1), vI w] D (fun v E => v = none ∧ E = hu (hu D (o + 2) (D (o + 1) 1).toNat w) (o + 1) 1 (D (o + 1) 1 + 1)) := by
  refine V_X1_addCell ho w (fun _ _ => ⟨fun q => absurd q (by omega), fun _ => ⟨fun q => absurd q (by omega), fun _ => ⟨h, fun E3 e3 => ?_⟩⟩⟩)
  have e : E3 (o + 1) 1 = D (o + 1) 1 := by rw [e3, hu_k _ _ (by omega)]
  rw [e]
  exact ⟨by unfold c32; omega, fun E5 e5 => ⟨rfl, by rw [e5, e3]⟩⟩
set_option maxHeartbeats 8000000 in
theorem C_readRows {o : Nat} (ho : o = 9 ∨ o = 25) {a : Nat} (ha : a = 2 ∨ a = 3 ∨ a = 4) {D : HP} {n : Nat} {b : Nat → Int} (hX : XT D a n b) (hn : 0 < n ∧ n ≤ 39) (hN : D (o + 1) 1 = 0) : CT mX1_readRows [vR (o + 1), vR a] D (fun v E => v = some (vI (cfl b n)) ∧ (cfl b n = -1 → CSa E o n b) ∧ ∀ x i, (x ≠ o + 1 ∨ (i ≠ 0 ∧ i ≠ 1)) → x ≠ o + 2 → E x i = D x i) := by
  refine V_X1_readRows ho ha
    (fun x2 x3 x4 x5 E => x4 = n ∧ (∀ x i, (x ≠ o + 1 ∨ (i ≠ 0 ∧ i ≠ 1)) → x ≠ o + 2 → E x i = D x i) ∧ ∃ k : Nat, x5 = k ∧ k ≤ n ∧ (∀ i, i < k → cbad b i = false) ∧ x2 = cR b k ∧ x3 = cC b k ∧ E (o + 1) 1 = cN b k ∧ (cR b k ≠ 0 → E (o + 1) 0 = cM b k) ∧ ∀ j : Nat, (j : Int) < cN b k → E (o + 2) j = cW b k j) (fun _ _ x4 x5 _ => (x4 - x5).toNat)
    (fun _ => ⟨hX.1, fun _ _ _ _ => rfl, 0, rfl, by omega, fun i hi => absurd hi (Nat.not_lt_zero _), rfl, rfl, hN, fun q => absurd rfl q, fun j hj => absurd hj (by show ¬ (j : Int) < 0; omega)⟩) ?_
  rintro x2 x3 x4 x5 E ⟨rfl, hF, k, rfl, hk, hnb, rfl, rfl, h1, h0, hW⟩ _ _ _ _ _
  have hXE : XT E a n b := XT_of hX fun x i q => hF x i (by omega) (by omega)
  obtain ⟨c1, c2, c3, c4, c5, c6, c7⟩ := cinv b k hnb
  have hcn := cN_in hnb
  have bad : k < n → cbad b k = true → some (vI (k : Int)) = some (vI (cfl b n)) ∧ (cfl b n = -1 → CSa E o n b) ∧ ∀ x i, (x ≠ o + 1 ∨ (i ≠ 0 ∧ i ≠ 1)) → x ≠ o + 2 → E x i = D x i := fun hkn hb => by
    have e : cfl b n = k := by
      unfold cfl
      rw [fsN_yes hnb hb hkn, if_neg (by omega)]
    rw [e]
    exact ⟨rfl, fun z => absurd z (by omega), hF⟩
  refine ⟨fun q => ?_, fun q => ⟨XT_o hXE (by omega), fun v13 hv => ?_⟩⟩
  · have ek : k = n := by omega
    subst ek
    have hfs := fsN_no hnb
    have ecf : cfl b k = if cend b k = true then (k : Int) else -1 := by unfold cfl; rw [if_pos hfs]
    have ce : cend b k = true ↔ (cC b k = 0 ∨ (0 < cR b k ∧ cC b k < cM b k)) := by
      unfold cend
      rw [decide_eq_true_eq]
      exact ⟨fun z => z.2, fun z => ⟨by omega, z⟩⟩
    refine ⟨fun z => fun E3 e3 => ?_, fun z => ?_⟩
    · have e10 : E3 (o + 1) 0 = cC b k := by rw [e3, hu_s]
      rw [e10, ecf]
      by_cases y : cC b k = 0
      · rw [if_pos (by omega), if_pos (ce.2 (Or.inl y))]
        exact ⟨rfl, fun w => absurd w (by omega), fun x i p1 p2 => by
          rw [e3]
          rcases p1 with p1 | p1
          · rw [hu_k _ _ p1]; exact hF x i (Or.inl p1) p2
          · rw [hu_i _ _ p1.1]; exact hF x i (Or.inr p1) p2⟩
      · rw [if_neg (by omega), if_pos rfl, if_neg (fun w => by rcases ce.1 w with w | w <;> omega)]
        refine ⟨rfl, fun _ => ⟨fun _ => ?_, ?_, fun j hj => ?_⟩, fun x i p1 p2 => by
          rw [e3]
          rcases p1 with p1 | p1
          · rw [hu_k _ _ p1]; exact hF x i (Or.inl p1) p2
          · rw [hu_i _ _ p1.1]; exact hF x i (Or.inr p1) p2⟩
        · rw [e10]
          have : cfl b k = -1 := by rw [ecf, if_neg (fun w => by rcases ce.1 w with w | w <;> omega)]
          unfold cwd
          rw [if_pos this, if_pos z, if_pos (by omega)]
        · have : cfl b k = -1 := by rw [ecf, if_neg (fun w => by rcases ce.1 w with w | w <;> omega)]
          unfold ccl
          rw [if_pos this, e3, hu_i _ _ (by decide), h1]
        · have : cfl b k = -1 := by rw [ecf, if_neg (fun w => by rcases ce.1 w with w | w <;> omega)]
          unfold ccl at hj
          rw [if_pos this] at hj
          rw [e3, hu_k _ _ (by omega)]; exact hW j hj
    · rw [h0 z, ecf]
      by_cases y : cC b k = 0 ∨ (0 < cR b k ∧ cC b k < cM b k)
      · rw [if_pos (ce.2 y)]
        have : (if cC b k ≤ 0 then (k : Int) else (if cC b k = cM b k then -1 else k)) = k := by
          repeat' split
          all_goals omega
        rw [this]
        exact ⟨rfl, fun w => absurd w (by omega), hF⟩
      · rw [if_neg (fun w => y (ce.1 w)), if_neg (by omega), if_pos (by omega)]
        have : cfl b k = -1 := by rw [ecf, if_neg (fun w => y (ce.1 w))]
        refine ⟨rfl, fun _ => ⟨fun _ => ?_, ?_, fun j hj => ?_⟩, hF⟩
        · unfold cwd
          rw [if_pos this, if_neg z]; exact h0 z
        · unfold ccl
          rw [if_pos this]; exact h1
        · unfold ccl at hj
          rw [if_pos this] at hj
          exact hW j hj
  have hkn : k < n := by omega
  have ebk := XT_at hXE hkn
  rw [ebk]
  have lim : (if cR b k = 0 then (5 : Int) else E (o + 1) 0) = cM b k := by
    by_cases z : cR b k = 0
    · rw [if_pos z, c4 z]
    · rw [if_neg z, h0 z]
  rw [lim]
  have hv0 : v13 = 0 ↔ (cC b k = 0 ∨ (0 < cR b k ∧ cC b k < cM b k)) := by
    rw [hv]
    by_cases z : cR b k = 0
    · rw [if_pos z]
      repeat' split
      all_goals omega
    · rw [if_neg z, h0 z]
      repeat' split
      all_goals omega
  have add : cR b k ≠ 5 → b k ≠ 59 → (b k = 46 ∨ b k = 35) → ((cM b k ≤ cC b k → (some (vI (k : Int)) = some (vI (cfl b n)) ∧ (cfl b n = -1 → CSa E o n b) ∧ ∀ x i, (x ≠ o + 1 ∨ (i ≠ 0 ∧ i ≠ 1)) → x ≠ o + 2 → E x i = D x i)) ∧ (¬ (cM b k ≤ cC b k) → (∃ Q54 : Option MV → HP → Prop, CT mX1_addCell [vR (o + 1), vI (if b k = 35 then (1 : Int) else 0)] E Q54 ∧ ∀ (D57 : HP), Q54 none D57 → cD D57 → ((c32 (cC b k + 1)) ∧ ((c32 ((k : Int) + 1)) ∧ (((n : Int) = n ∧ (∀ x i, (x ≠ o + 1 ∨ (i ≠ 0 ∧ i ≠ 1)) → x ≠ o + 2 → D57 x i = D x i) ∧ ∃ k' : Nat, (k : Int) + 1 = k' ∧ k' ≤ n ∧ (∀ i, i < k' → cbad b i = false) ∧ cR b k = cR b k' ∧ cC b k + 1 = cC b k' ∧ D57 (o + 1) 1 = cN b k' ∧ (cR b k' ≠ 0 → D57 (o + 1) 0 = cM b k') ∧ ∀ j : Nat, (j : Int) < cN b k' → D57 (o + 2) j = cW b k' j) ∧ ((n : Int) - ((k : Int) + 1)).toNat < ((n : Int) - (k : Int)).toNat)))))) := by
    intro r5 r59 rb
    refine ⟨fun z => bad hkn ?_, fun z => ⟨_, C_addCell ho (D := E) (by rw [h1]; exact ⟨hcn.1, hcn.2.2 r5 (by omega)⟩), ?_⟩⟩
    · unfold cbad
      rw [decide_eq_true_eq]
      exact Or.inr (Or.inr ⟨r59, Or.inr (by omega)⟩)
    · rintro F ⟨-, e⟩ _
      rw [h1] at e
      have nbk : cbad b k = false := by
        unfold cbad
        rw [decide_eq_false_iff_not]
        rintro (w | w | w)
        · exact r5 w
        · exact r59 w.1
        · omega
      have es := cR_s b k
      have ec := cC_s b k
      have en := cN_s b k
      have em := cM_s b k
      rw [if_neg r59] at es ec en em
      have c25 := hcn.2.2 r5 (by omega)
      refine ⟨by unfold c32; omega, by unfold c32; omega, ⟨rfl, fun x i p1 p2 => ?_, k + 1, rfl, hkn, fun i hi => ?_, es.symm, ec.symm, ?_, fun w => ?_, fun j hj => ?_⟩, by omega⟩
      · rw [e]
        rcases p1 with p1 | p1
        · rw [hu_k _ _ p1, hu_k _ _ p2]; exact hF x i (Or.inl p1) p2
        · rw [hu_i _ _ p1.2, hu_k _ _ p2]; exact hF x i (Or.inr p1) p2
      · by_cases y : i = k
        · rw [y]; exact nbk
        · exact hnb i (by omega)
      · rw [e, hu_s, en]
      · rw [e, hu_i _ _ (by decide), hu_k _ _ (by omega), em]
        rw [es] at w
        exact h0 w
      · rw [e, hu_k _ _ (by omega), cW_s, if_neg r59]
        by_cases y : (j : Int) = cN b k
        · rw [if_pos y, show (cN b k).toNat = j by omega, hu_s]
        · rw [if_neg y, hu_i _ _ (by omega)]
          rw [en] at hj
          exact hW j (by omega)
  have oth : b k ≠ 59 → b k ≠ 46 → b k ≠ 35 → cbad b k = true := fun r1 r2 r3 => by
    unfold cbad
    rw [decide_eq_true_eq]
    exact Or.inr (Or.inr ⟨r1, Or.inl ⟨r2, r3⟩⟩)
  refine ⟨fun z => bad hkn ?_, fun z5 => ⟨fun z => ⟨fun y => ⟨fun w => absurd w (by omega), fun _ => ⟨fun w => absurd w (by omega), fun _ => bad hkn ?_⟩⟩, fun y => fun E48 e48 => ?_⟩, fun z => ⟨fun w => add z5 z (Or.inl w), fun w => ⟨fun w2 => add z5 z (Or.inr w2), fun w2 => bad hkn (oth z w w2)⟩⟩⟩⟩
  · unfold cbad
    rw [decide_eq_true_eq]
    exact Or.inl z
  · unfold cbad
    rw [decide_eq_true_eq]
    exact Or.inr (Or.inl ⟨z, hv0.1 y⟩)
  · have hy : ¬ (cC b k = 0 ∨ (0 < cR b k ∧ cC b k < cM b k)) := fun w => y (hv0.2 w)
    have nbk : cbad b k = false := by
      unfold cbad
      rw [decide_eq_false_iff_not]
      rintro (w | w | w)
      · exact z5 w
      · exact hy w.2
      · exact w.1 z
    have es := cR_s b k
    have ec := cC_s b k
    have en := cN_s b k
    have em := cM_s b k
    rw [if_pos z] at es ec en em
    refine ⟨by unfold c32; omega, by unfold c32; omega, ⟨rfl, fun x i p1 p2 => ?_, k + 1, rfl, hkn, fun i hi => ?_, es.symm, ec.symm, ?_, fun w => ?_, fun j hj => ?_⟩, by omega⟩
    · rw [e48]
      rcases p1 with p1 | p1
      · rw [hu_k _ _ p1]; exact hF x i (Or.inl p1) p2
      · rw [hu_i _ _ p1.1]; exact hF x i (Or.inr p1) p2
    · by_cases y : i = k
      · rw [y]; exact nbk
      · exact hnb i (by omega)
    · rw [e48, hu_i _ _ (by decide), en]; exact h1
    · rw [e48, hu_s, em]
      by_cases v : cR b k = 0
      · rw [if_pos v]
      · rw [if_neg v]; omega
    · rw [e48, hu_k _ _ (by omega), cW_s, if_pos z]
      rw [en] at hj
      exact hW j hj
