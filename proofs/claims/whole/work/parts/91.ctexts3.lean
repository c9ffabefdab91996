/-! ===== the class: candidates are read; type, wipe, undo ===== -/
set_option maxHeartbeats 8000000 in
theorem C_readCandidates {o : Nat} (ho : o = 9 ∨ o = 25) {a : Nat} (ha : a = 2 ∨ a = 3 ∨ a = 4) {D : HP} {n : Nat} {b : Nat → Int} (hX : XT D a n b) (hn : n ≤ 39) (hB : ∀ i, i < n → 0 ≤ b i ∧ b i ≤ 255) :
    CT mX1_readCandidates [vR (o + 1), vR a] D (fun v E => v = some (vI (kfl b n)) ∧ CSc E o n b ∧ ∀ x i, (x ≠ o + 1 ∨ i ≠ 3) → x ≠ o + 7 → x ≠ o + 8 → x ≠ o + 9 → E x i = D x i) := by
  refine V_X1_readCandidates ho ha
    (fun x2 x3 E => x2 = n ∧ (∀ x i, (x ≠ o + 1 ∨ i ≠ 3) → x ≠ o + 7 → x ≠ o + 8 → x ≠ o + 9 → E x i = D x i) ∧ E (o + 1) 3 = 0 ∧ ∃ k : Nat, x3 = k ∧ k ≤ n ∧ (∀ i, i < k → kbad b i = false) ∧ (∀ j : Nat, 5 * j + 1 = k → E (o + 7) j = 10 * (b (5 * j) - 48)) ∧ (∀ j : Nat, 5 * j + 1 < k → E (o + 7) j = 10 * (b (5 * j) - 48) + (b (5 * j + 1) - 48)) ∧ (∀ j : Nat, 5 * j + 2 < k → E (o + 8) j = b (5 * j + 2) - 48) ∧ ∀ j : Nat, 5 * j + 3 < k → E (o + 9) j = hd (b (5 * j + 3))) (fun x2 x3 _ => (x2 - x3).toNat)
    (fun _ E1 e1 => ?_) ?_
  · have hX1 : XT E1 a n b := XT_of hX fun x i q => by rw [e1, hu_k _ _ (by omega)]
    refine ⟨hX1.1, fun x i p1 p2 p3 p4 => ?_, by rw [e1, hu_s], 0, rfl, by omega, fun i hi => absurd hi (Nat.not_lt_zero _), fun m hm => absurd hm (by omega), fun m hm => absurd hm (by omega), fun m hm => absurd hm (by omega), fun m hm => absurd hm (by omega)⟩
    rw [e1]
    rcases p1 with p1 | p1
    · rw [hu_k _ _ p1]
    · rw [hu_i _ _ p1]
  · rintro x2 x3 E ⟨rfl, hF, h0, k, rfl, hk, hnb, h70, h71, h8, h9⟩ _ _ _
    have hXE : XT E a n b := XT_of hX fun x i q => hF x i (by omega) (by omega) (by omega) (by omega)
    refine ⟨fun q => ?_, fun q => ?_⟩
    · have ek : k = n := by omega
      subst ek
      have hfs := fsN_no hnb
      have eg : kfl b k = if 0 < k ∧ k % 5 ≠ 4 then (k : Int) else -1 := by unfold kfl; rw [if_pos hfs]
      have good : (k = 0 ∨ k % 5 = 4) → ∀ E5 : HP, E5 = hu E (o + 1) 3 (if 8 < ((k : Int) + 1) / 5 then 8 else ((k : Int) + 1) / 5) → some (vI (-1)) = some (vI (kfl b k)) ∧ CSc E5 o k b ∧ ∀ x i, (x ≠ o + 1 ∨ i ≠ 3) → x ≠ o + 7 → x ≠ o + 8 → x ≠ o + 9 → E5 x i = D x i := fun z E5 e5 => by
        rw [if_neg (by omega)] at eg
        have em : kcn b k = (((k + 1) / 5 : Nat) : Int) := by unfold kcn; rw [if_pos eg]
        rw [eg]
        refine ⟨rfl, ⟨?_, fun j hj => ?_⟩, fun x i p1 p2 p3 p4 => ?_⟩
        · rw [e5, hu_s, em]
          split <;> omega
        · rw [em] at hj
          rw [e5, hu_k _ _ (by omega), hu_k _ _ (by omega), hu_k _ _ (by omega)]
          exact ⟨h71 j (by omega), h8 j (by omega), h9 j (by omega)⟩
        · rw [e5]
          rcases p1 with p1 | p1
          · rw [hu_k _ _ p1]; exact hF x i (Or.inl p1) p2 p3 p4
          · rw [hu_i _ _ p1]; exact hF x i (Or.inr p1) p2 p3 p4
      refine ⟨fun z => ⟨by unfold c32; omega, by omega, fun E5 e5 => good (by omega) E5 e5⟩, fun z => ⟨by omega, fun z2 => ⟨by unfold c32; omega, by omega, fun E5 e5 => good (by omega) E5 e5⟩, fun z2 => ?_⟩⟩
      rw [if_pos (by omega)] at eg
      have em : kcn b k = 0 := by unfold kcn; rw [if_neg (by omega)]
      rw [eg]
      exact ⟨rfl, ⟨by rw [h0, em], fun m hm => by omega⟩, hF⟩
    · have hkn : k < n := by omega
      have hbk := hB k hkn
      rw [XT_at hXE hkn]
      have hro := C_readOf ho (D := E) (a := k / 5) (p := k % 5) (by omega) (by omega) hbk (fun z => by
        have g := h70 (k / 5) (by omega)
        have nb := hnb (k - 1) (by omega)
        rw [kbv_k, show (k - 1) % 5 = 0 by omega] at nb
        have w := kbn kb0 nb
        rw [show 5 * (k / 5) = k - 1 by omega] at g
        omega)
      rw [show ((k : Int) / 5) = ((k / 5 : Nat) : Int) by omega, show ((k : Int) % 5) = ((k % 5 : Nat) : Int) by omega]
      refine ⟨by omega, by omega, XT_o hXE (by omega), _, hro, ?_⟩
      rintro r F ⟨hr, hE, hFF⟩ _ _
      have hr := vIj hr
      have hFD : ∀ x i, (x ≠ o + 1 ∨ i ≠ 3) → x ≠ o + 7 → x ≠ o + 8 → x ≠ o + 9 → F x i = D x i := fun x i p1 p2 p3 p4 => by rw [hFF x i p2 p3 p4, hF x i p1 p2 p3 p4]
      have f0 : F (o + 1) 3 = 0 := by rw [hFF _ _ (by omega) (by omega) (by omega)]; exact h0
      refine ⟨fun z => ?_, fun z => ?_⟩
      · have kb : kbad b k = true := by
          rw [kbv_k]
          by_cases w : kbv (k % 5) (b k) = true
          · exact w
          · rw [if_neg w] at hr; omega
        have e : kfl b n = k := by
          unfold kfl
          rw [fsN_yes hnb kb hkn, if_neg (by omega)]
        have em : kcn b n = 0 := by unfold kcn; rw [if_neg (by omega)]
        rw [e]
        exact ⟨rfl, ⟨by rw [f0, em], fun m hm => by omega⟩, hFD⟩
      · have kb : kbv (k % 5) (b k) = false := by
          cases w : kbv (k % 5) (b k)
          · rfl
          · rw [w, if_pos rfl] at hr; exact absurd hr z
        have hE := hE kb
        refine ⟨by unfold c32; omega, ⟨rfl, hFD, f0, k + 1, by omega, by omega, fun i hi => ?_, fun j hj => ?_, fun j hj => ?_, fun j hj => ?_, fun j hj => ?_⟩, by omega⟩
        · by_cases y : i = k
          · rw [y, kbv_k]; exact kb
          · exact hnb i (by omega)
        · have hk5 : k % 5 = 0 := by omega
          rw [hE, hk5]
          show hu E (o + 7) (k / 5) (10 * (b k - 48)) (o + 7) j = _
          rw [show k / 5 = j by omega, hu_s, show 5 * j = k by omega]
        · rcases (show k % 5 = 0 ∨ k % 5 = 1 ∨ k % 5 = 2 ∨ k % 5 = 3 ∨ k % 5 = 4 by omega) with hk5 | hk5 | hk5 | hk5 | hk5
          · rw [hE, hk5]
            show hu E (o + 7) (k / 5) (10 * (b k - 48)) (o + 7) j = _
            rw [hu_i _ _ (by omega)]; exact h71 j (by omega)
          · rw [hE, hk5]
            show hu E (o + 7) (k / 5) (E (o + 7) (k / 5) + (b k - 48)) (o + 7) j = _
            by_cases y : 5 * j + 1 = k
            · rw [show k / 5 = j by omega, hu_s, h70 j y, y]
            · rw [hu_i _ _ (by omega)]; exact h71 j (by omega)
          · rw [hE, hk5]
            show hu E (o + 8) (k / 5) (b k - 48) (o + 7) j = _
            rw [hu_k _ _ (by omega)]; exact h71 j (by omega)
          · rw [hE, hk5]
            show hu E (o + 9) (k / 5) (hd (b k)) (o + 7) j = _
            rw [hu_k _ _ (by omega)]; exact h71 j (by omega)
          · rw [hE, hk5]
            exact h71 j (by omega)
        · rcases (show k % 5 = 0 ∨ k % 5 = 1 ∨ k % 5 = 2 ∨ k % 5 = 3 ∨ k % 5 = 4 by omega) with hk5 | hk5 | hk5 | hk5 | hk5
          · rw [hE, hk5]
            show hu E (o + 7) (k / 5) (10 * (b k - 48)) (o + 8) j = _
            rw [hu_k _ _ (by omega)]; exact h8 j (by omega)
          · rw [hE, hk5]
            show hu E (o + 7) (k / 5) (E (o + 7) (k / 5) + (b k - 48)) (o + 8) j = _
            rw [hu_k _ _ (by omega)]; exact h8 j (by omega)
          · rw [hE, hk5]
            show hu E (o + 8) (k / 5) (b k - 48) (o + 8) j = _
            by_cases y : 5 * j + 2 = k
            · rw [show k / 5 = j by omega, hu_s, y]
            · rw [hu_i _ _ (by omega)]; exact h8 j (by omega)
          · rw [hE, hk5]
            show hu E (o + 9) (k / 5) (hd (b k)) (o + 8) j = _
            rw [hu_k _ _ (by omega)]; exact h8 j (by omega)
          · rw [hE, hk5]
            exact h8 j (by omega)
        · rcases (show k % 5 = 0 ∨ k % 5 = 1 ∨ k % 5 = 2 ∨ k % 5 = 3 ∨ k % 5 = 4 by omega) with hk5 | hk5 | hk5 | hk5 | hk5
          · rw [hE, hk5]
            show hu E (o + 7) (k / 5) (10 * (b k - 48)) (o + 9) j = _
            rw [hu_k _ _ (by omega)]; exact h9 j (by omega)
          · rw [hE, hk5]
            show hu E (o + 7) (k / 5) (E (o + 7) (k / 5) + (b k - 48)) (o + 9) j = _
            rw [hu_k _ _ (by omega)]; exact h9 j (by omega)
          · rw [hE, hk5]
            show hu E (o + 8) (k / 5) (b k - 48) (o + 9) j = _
            rw [hu_k _ _ (by omega)]; exact h9 j (by omega)
          · rw [hE, hk5]
            show hu E (o + 9) (k / 5) (hd (b k)) (o + 9) j = _
            by_cases y : 5 * j + 3 = k
            · rw [show k / 5 = j by omega, hu_s, y]
            · rw [hu_i _ _ (by omega)]; exact h9 j (by omega)
          · rw [hE, hk5]
            exact h9 j (by omega)
/-- three texts, and what is told of them, in the class -/
def TEX3 (D : HP) (n0 n1 n2 : Nat) (b0 b1 b2 : Nat → Int) : Prop := (n0 ≤ 29 ∧ n1 ≤ 24 ∧ n2 ≤ 39) ∧ (XT D 2 n0 b0 ∧ XT D 3 n1 b1 ∧ XT D 4 n2 b2) ∧ (∀ i, i < n0 → 0 ≤ b0 i ∧ b0 i ≤ 255) ∧ (∀ i, i < n1 → 0 ≤ b1 i ∧ b1 i ≤ 255) ∧ ∀ i, i < n2 → 0 ≤ b2 i ∧ b2 i ≤ 255
/-- what a retelling may write over -/
def FT (D E : HP) : Prop := ∀ x i, (x < 8 ∨ 24 < x) → (x ≠ 0 ∨ (i ≠ 7 ∧ i ≠ 10)) → E x i = D x i
/-- told, but for the course -/
def TD3 (D : HP) (n0 n1 n2 : Nat) (b0 b1 b2 : Nat → Int) : Prop := CS D 9 (scT n0 n1 n2 b0 b1 b2) ∧ SV D 9 (scT n0 n1 n2 b0 b1 b2) ∧ D 8 0 = cfl b0 n0 ∧ D 8 1 = gfl b1 n1 ∧ D 8 2 = kfl b2 n2
def FLT (D : HP) (n0 n1 n2 : Nat) (b0 b1 b2 : Nat → Int) : Prop := D 8 0 = cfl b0 n0 ∧ D 8 1 = gfl b1 n1 ∧ D 8 2 = kfl b2 n2
set_option maxHeartbeats 4000000 in
theorem C_retell {D : HP} {n0 n1 n2 m0 m1 m2 : Nat} {b0 b1 b2 d0 d1 d2 : Nat → Int} (hX : TEX3 D n0 n1 n2 b0 b1 b2) (hT : TD3 D m0 m1 m2 d0 d1 d2) {a : Int} (ha : (a = 0 ∧ (m1 = n1 ∧ d1 = b1) ∧ (m2 = n2 ∧ d2 = b2)) ∨ (a = 1 ∧ (m0 = n0 ∧ d0 = b0) ∧ (m2 = n2 ∧ d2 = b2)) ∨ (a = 2 ∧ (m0 = n0 ∧ d0 = b0) ∧ (m1 = n1 ∧ d1 = b1))) :
    CT mX5_retell [vR 0, vI a] D (fun v E => v = none ∧ TC E 9 (scT n0 n1 n2 b0 b1 b2) ∧ FLT E n0 n1 n2 b0 b1 b2 ∧ (E 0 7 = -1 ∧ E 0 10 = -1) ∧ FT D E) := by
  obtain ⟨⟨l0, l1, l2⟩, ⟨x0, x1, x2⟩, y0, y1, y2⟩ := hX
  obtain ⟨hM, hV, f0, f1, f2⟩ := hT
  have hok : OKS (scT n0 n1 n2 b0 b1 b2) := scT_ok l0 l1 l2
  have fin : ∀ E : HP, TD3 E n0 n1 n2 b0 b1 b2 → FT D E → ∃ Q11 : Option MV → HP → Prop, CT mX0_run [vR 9] E Q11 ∧ ∀ (D14 : HP), Q11 none D14 → cD D14 → (∀ (E18 : HP), E18 = (hu D14 0 7 (-1)) → (∀ (E20 : HP), E20 = (hu E18 0 10 (-1)) → ((none : Option MV) = none ∧ TC E20 9 (scT n0 n1 n2 b0 b1 b2) ∧ FLT E20 n0 n1 n2 b0 b1 b2 ∧ (E20 0 7 = -1 ∧ E20 0 10 = -1) ∧ FT D E20))) := by
    rintro E ⟨gM, gV, g0, g1, g2⟩ hF
    refine ⟨_, C_run (Or.inl rfl) hok gM gV, ?_⟩
    rintro F ⟨-, hD, hFC⟩ _ E18 e18 E20 e20
    have k : ∀ x i, x ≠ 0 → E20 x i = F x i := fun x i q => by rw [e20, hu_k _ _ q, e18, hu_k _ _ q]
    have hT : TC F 9 (scT n0 n1 n2 b0 b1 b2) := ⟨hok, scT_dv, hFC.CS gM, hFC.SV gV, hD⟩
    refine ⟨rfl, TC_of hT (fun x i p1 p2 => k x i (by omega)), ⟨?_, ?_, ?_⟩, ⟨?_, ?_⟩, fun x i p1 p2 => ?_⟩
    · rw [k _ _ (by decide), hFC _ _ (by decide) (by decide)]; exact g0
    · rw [k _ _ (by decide), hFC _ _ (by decide) (by decide)]; exact g1
    · rw [k _ _ (by decide), hFC _ _ (by decide) (by decide)]; exact g2
    · rw [e20, hu_i _ _ (by decide), e18, hu_s]
    · rw [e20, hu_s]
    · by_cases q : x = 0
      · subst q
        rw [e20, hu_i _ _ (by omega), e18, hu_i _ _ (by omega), hFC _ _ (by omega) (by omega)]
        exact hF 0 i (by decide) p2
      · rw [k x i q, hFC x i (by omega) (by omega)]
        exact hF x i p1 p2
  refine V_X5_retell a (fun _ _ => ⟨fun q => ?_, fun q => ⟨fun q1 => ?_, fun q1 => ⟨fun q2 => ?_, fun q2 => absurd ha (by omega)⟩⟩⟩)
  · subst q
    obtain ⟨-, ⟨rfl, rfl⟩, rfl, rfl⟩ : (0 : Int) = 0 ∧ (m1 = n1 ∧ d1 = b1) ∧ m2 = n2 ∧ d2 = b2 := by
      rcases ha with h | h | h
      · exact h
      · exact absurd h.1 (by decide)
      · exact absurd h.1 (by decide)
    refine ⟨_, C_readCorner (o := 9) (Or.inl rfl) (a := 2) (Or.inl rfl) x0 l0 l1 l2 (CS_b hM) (CS_c hM), ?_⟩
    rintro r E ⟨hr, gM, gV, hF⟩ _ _ E9 e9
    have hr := vIj hr
    subst hr
    refine fin E9 ⟨CS_of gM (fun x i p => by rw [e9, hu_k _ _ (by omega)]), SV_of gV (fun x i p => by rw [e9, hu_k _ _ (by omega)]), ?_, ?_, ?_⟩ (fun x i p1 p2 => by rw [e9, hu_k _ _ (by omega), hF x i (by omega) (by omega) (by omega) (by omega)])
    · rw [e9, hu_s]
    · rw [e9, hu_i _ _ (by decide), hF _ _ (by decide) (by decide) (by decide) (by decide)]; exact f1
    · rw [e9, hu_i _ _ (by decide), hF _ _ (by decide) (by decide) (by decide) (by decide)]; exact f2
  · subst q1
    obtain ⟨-, ⟨rfl, rfl⟩, rfl, rfl⟩ : (1 : Int) = 1 ∧ (m0 = n0 ∧ d0 = b0) ∧ m2 = n2 ∧ d2 = b2 := by
      rcases ha with h | h | h
      · exact absurd h.1 (by decide)
      · exact h
      · exact absurd h.1 (by decide)
    refine ⟨_, C_readGusts (o := 9) (Or.inl rfl) (a := 3) (Or.inr (Or.inl rfl)) x1 l1 y1, ?_⟩
    rintro r E ⟨hr, gB, hF⟩ _ _ E9 e9
    have hr := vIj hr
    subst hr
    have k : ∀ x i, (x ≠ 8) → (x ≠ 10 ∨ i ≠ 2) → x ≠ 14 → x ≠ 15 → E9 x i = D x i := fun x i p1 p2 p3 p4 => by rw [e9, hu_k _ _ p1, hF x i p2 p3 p4]
    have gA : CSa E9 9 m0 d0 := by
      have := CS_a hM
      refine ⟨fun z => ?_, ?_, fun j hj => ?_⟩
      · rw [k _ _ (by decide) (by decide) (by decide) (by decide)]; exact this.1 z
      · rw [k _ _ (by decide) (by decide) (by decide) (by decide)]; exact this.2.1
      · rw [k _ _ (by decide) (Or.inl (by decide)) (by decide) (by decide)]; exact this.2.2 j hj
    have gC : CSc E9 9 m2 d2 := by
      have := CS_c hM
      refine ⟨?_, fun j hj => ?_⟩
      · rw [k _ _ (by decide) (by decide) (by decide) (by decide)]; exact this.1
      · rw [k _ _ (by decide) (Or.inl (by decide)) (by decide) (by decide), k _ _ (by decide) (Or.inl (by decide)) (by decide) (by decide), k _ _ (by decide) (Or.inl (by decide)) (by decide) (by decide)]; exact this.2 j hj
    have gB9 : CSb E9 9 n1 b1 := ⟨by rw [e9, hu_k _ _ (by decide)]; exact gB.1, fun m hm => by rw [e9, hu_k _ _ (by decide), hu_k _ _ (by decide)]; exact gB.2 m hm⟩
    have hV' : SV D 9 (scT m0 n1 m2 d0 b1 d2) := hV
    refine fin E9 ⟨CS_abc gA gB9 gC, SV_of hV' (fun x i p => k x i (by omega) (by omega) (by omega) (by omega)), ?_, ?_, ?_⟩ (fun x i p1 p2 => k x i (by omega) (by omega) (by omega) (by omega))
    · rw [e9, hu_i _ _ (by decide), hF _ _ (by decide) (by decide) (by decide)]; exact f0
    · rw [e9, hu_s]
    · rw [e9, hu_i _ _ (by decide), hF _ _ (by decide) (by decide) (by decide)]; exact f2
  · subst q2
    obtain ⟨-, ⟨rfl, rfl⟩, rfl, rfl⟩ : (2 : Int) = 2 ∧ (m0 = n0 ∧ d0 = b0) ∧ m1 = n1 ∧ d1 = b1 := by
      rcases ha with h | h | h
      · exact absurd h.1 (by decide)
      · exact absurd h.1 (by decide)
      · exact h
    refine ⟨_, C_readCandidates (o := 9) (Or.inl rfl) (a := 4) (Or.inr (Or.inr rfl)) x2 l2 y2, ?_⟩
    rintro r E ⟨hr, gB, hF⟩ _ _ E9 e9
    have hr := vIj hr
    subst hr
    have k : ∀ x i, (x ≠ 8) → (x ≠ 10 ∨ i ≠ 3) → x ≠ 16 → x ≠ 17 → x ≠ 18 → E9 x i = D x i := fun x i p1 p2 p3 p4 p5 => by rw [e9, hu_k _ _ p1, hF x i p2 p3 p4 p5]
    have gA : CSa E9 9 m0 d0 := by
      have := CS_a hM
      refine ⟨fun z => ?_, ?_, fun j hj => ?_⟩
      · rw [k _ _ (by decide) (by decide) (by decide) (by decide) (by decide)]; exact this.1 z
      · rw [k _ _ (by decide) (by decide) (by decide) (by decide) (by decide)]; exact this.2.1
      · rw [k _ _ (by decide) (Or.inl (by decide)) (by decide) (by decide) (by decide)]; exact this.2.2 j hj
    have gC : CSb E9 9 m1 d1 := by
      have := CS_b hM
      refine ⟨?_, fun j hj => ?_⟩
      · rw [k _ _ (by decide) (by decide) (by decide) (by decide) (by decide)]; exact this.1
      · rw [k _ _ (by decide) (Or.inl (by decide)) (by decide) (by decide) (by decide), k _ _ (by decide) (Or.inl (by decide)) (by decide) (by decide) (by decide)]; exact this.2 j hj
    have gB9 : CSc E9 9 n2 b2 := ⟨by rw [e9, hu_k _ _ (by decide)]; exact gB.1, fun m hm => by rw [e9, hu_k _ _ (by decide), hu_k _ _ (by decide), hu_k _ _ (by decide)]; exact gB.2 m hm⟩
    have hV' : SV D 9 (scT m0 m1 n2 d0 d1 b2) := hV
    refine fin E9 ⟨CS_abc gA gC gB9, SV_of hV' (fun x i p => k x i (by omega) (by omega) (by omega) (by omega) (by omega)), ?_, ?_, ?_⟩ (fun x i p1 p2 => k x i (by omega) (by omega) (by omega) (by omega) (by omega))
    · rw [e9, hu_i _ _ (by decide), hF _ _ (by decide) (by decide) (by decide) (by decide)]; exact f0
    · rw [e9, hu_i _ _ (by decide), hF _ _ (by decide) (by decide) (by decide) (by decide)]; exact f1
    · rw [e9, hu_s]
