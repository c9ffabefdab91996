/-! ===== a text changes in both ===== -/
theorem tN_e {F D : HP} {t : Nat} (e : F 57 t = D 57 t) : tN F t = tN D t := by unfold tN; rw [e]
/-- the model's texts F0 are D's but for text a -/
def TXA (D F0 : HP) (a : Nat) : Prop := (∀ t, t ≠ a → F0 57 t = D 57 t) ∧ ∀ t i : Nat, t < 3 → t ≠ a → i < 39 → F0 58 (39 * t + i) = D 58 (39 * t + i)
set_option maxHeartbeats 4000000 in
theorem C_retold {D D' F0 : HP} (h : RLB D) {a : Nat} (ha : a < 3) (hT0 : TXM F0) (hA : TXA D F0 a) (hD : ∀ x i, x ≠ 2 + a → x ≠ 5 + a → D' x i = D x i) (hl : D' (2 + a) 2 = F0 57 a) (hb : ∀ i : Nat, (i : Int) < F0 57 a → D' (5 + a) i = F0 58 (39 * a + i)) :
    CT mX5_retell [vR 0, vI (a : Int)] D' (fun v E => v = none ∧ TC E 9 (tS F0) ∧ FLT E (tN F0 0) (tN F0 1) (tN F0 2) (tB F0 0) (tB F0 1) (tB F0 2) ∧ (E 0 7 = -1 ∧ E 0 10 = -1) ∧ FT D' E) := by
  obtain ⟨⟨hT, hG, hS⟩, ht, ⟨hC, hf⟩, -⟩ := h
  have l0 := hT0.1
  have l1 := hT0.2.1
  have l2 := hT0.2.2.1
  have hB := hT0.2.2.2
  have xt : ∀ t : Nat, t < 3 → XT D' (2 + t) (tN F0 t) (tB F0 t) := fun t ht3 => by
    have hp : 0 ≤ F0 57 t ∧ F0 57 t ≤ 39 := by
      rcases (show t = 0 ∨ t = 1 ∨ t = 2 by omega) with rfl | rfl | rfl <;> omega
    have en : ((tN F0 t : Nat) : Int) = F0 57 t := by unfold tN; omega
    by_cases e : t = a
    · subst e
      refine ⟨by rw [hl, en], fun i hi => ?_⟩
      rw [show 2 + t + 3 = 5 + t by omega]
      exact hb i (by omega)
    · have g := ht.2 t ht3
      refine ⟨by rw [hD _ _ (by omega) (by omega), g.1, en, hA.1 t e], fun i hi => ?_⟩
      rw [show 2 + t + 3 = 5 + t by omega, hD _ _ (by omega) (by omega)]
      have : tB F0 t i = D 58 (39 * t + i) := hA.2 t i ht3 e (by omega)
      rw [this]
      refine g.2 i ?_
      rw [← hA.1 t e]
      omega
  have en0 : ((tN F0 0 : Nat) : Int) = F0 57 0 := by unfold tN; omega
  have en1 : ((tN F0 1 : Nat) : Int) = F0 57 1 := by unfold tN; omega
  have en2 : ((tN F0 2 : Nat) : Int) = F0 57 2 := by unfold tN; omega
  have hX : TEX3 D' (tN F0 0) (tN F0 1) (tN F0 2) (tB F0 0) (tB F0 1) (tB F0 2) := by
    refine ⟨⟨by omega, by omega, by omega⟩, ⟨xt 0 (by decide), xt 1 (by decide), xt 2 (by decide)⟩, fun i hi => hB _ (by omega), fun i hi => hB _ (by omega), fun i hi => hB _ (by omega)⟩
  have hTD : TD3 D' (tN D 0) (tN D 1) (tN D 2) (tB D 0) (tB D 1) (tB D 2) := by
    have f0 := hf 0 (by decide)
    have f1 := hf 1 (by decide)
    have f2 := hf 2 (by decide)
    refine ⟨CS_of hC.2.2.1 (fun x i q => hD x i (by omega) (by omega)), SV_of hC.2.2.2.1 (fun x i q => hD x i (by omega) (by omega)), ?_, ?_, ?_⟩
    · rw [hD _ _ (by omega) (by omega)]; exact f0
    · rw [hD _ _ (by omega) (by omega)]; exact f1
    · rw [hD _ _ (by omega) (by omega)]; exact f2
  have cg : ∀ t : Nat, t < 3 → t ≠ a → ∀ i, i < tN D t → tB D t i = tB F0 t i := fun t ht3 e i hi => by
    have hp : 0 ≤ D 57 t ∧ D 57 t ≤ 39 := by
      have := hT.1
      have := hT.2.1
      have := hT.2.2.1
      rcases (show t = 0 ∨ t = 1 ∨ t = 2 by omega) with rfl | rfl | rfl <;> omega
    have hi : i < (D 57 t).toNat := hi
    exact (hA.2 t i ht3 e (by omega)).symm
  rcases (show a = 0 ∨ a = 1 ∨ a = 2 by omega) with rfl | rfl | rfl
  · exact C_retell hX (TD3_cg (d0 := tB D 0) (d1 := tB F0 1) (d2 := tB F0 2) (fun _ _ => rfl) (cg 1 (by decide) (by decide)) (cg 2 (by decide) (by decide)) hTD) (Or.inl ⟨rfl, ⟨(tN_e (hA.1 1 (by decide))).symm, rfl⟩, (tN_e (hA.1 2 (by decide))).symm, rfl⟩)
  · exact C_retell hX (TD3_cg (d0 := tB F0 0) (d1 := tB D 1) (d2 := tB F0 2) (cg 0 (by decide) (by decide)) (fun _ _ => rfl) (cg 2 (by decide) (by decide)) hTD) (Or.inr (Or.inl ⟨rfl, ⟨(tN_e (hA.1 0 (by decide))).symm, rfl⟩, (tN_e (hA.1 2 (by decide))).symm, rfl⟩))
  · exact C_retell hX (TD3_cg (d0 := tB F0 0) (d1 := tB F0 1) (d2 := tB D 2) (cg 0 (by decide) (by decide)) (cg 1 (by decide) (by decide)) (fun _ _ => rfl) hTD) (Or.inr (Or.inr ⟨rfl, ⟨(tN_e (hA.1 0 (by decide))).symm, rfl⟩, (tN_e (hA.1 1 (by decide))).symm, rfl⟩))
def FL0 (F0 E : HP) : Prop := FLT E (tN F0 0) (tN F0 1) (tN F0 2) (tB F0 0) (tB F0 1) (tB F0 2)
theorem FLT_t {E F0 : HP} (h : FLT E (tN F0 0) (tN F0 1) (tN F0 2) (tB F0 0) (tB F0 1) (tB F0 2)) (t : Nat) (ht : t < 3) : E 8 t = tF F0 t := by
  obtain ⟨y0, y1, y2⟩ := h
  rcases (show t = 0 ∨ t = 1 ∨ t = 2 by omega) with rfl | rfl | rfl
  · exact y0
  · exact y1
  · exact y2
/-- behind a text's change in both -/
theorem RL_text {D D' E F F0 : HP} (h : RLB D) {a : Nat} (ha : a < 3) (hT0 : TXM F0) (hA : TXA D F0 a) (hD : ∀ x i, x ≠ 2 + a → x ≠ 5 + a → D' x i = D x i) (hm : D' (2 + a) 1 = D (2 + a) 1) (hl : D' (2 + a) 2 = F0 57 a) (hb : ∀ i : Nat, (i : Int) < F0 57 a → D' (5 + a) i = F0 58 (39 * a + i))
    (hE : TC E 9 (tS F0) ∧ FLT E (tN F0 0) (tN F0 1) (tN F0 2) (tB F0 0) (tB F0 1) (tB F0 2) ∧ (E 0 7 = -1 ∧ E 0 10 = -1) ∧ FT D' E) (hF : ∀ x i, x ≠ 57 → x ≠ 58 → F x i = E x i) (hF0 : ∀ x i, x = 57 ∨ x = 58 → F x i = F0 x i) : RLB F := by
  obtain ⟨⟨hT, hG, hS⟩, ht, ⟨hC, hf⟩, hs, hh, hn, hQ, hW⟩ := h
  obtain ⟨g1, g2, ⟨g3, g4⟩, g5⟩ := hE
  have hSF : tS F = tS F0 := tS_eq hF0
  have c : ∀ x i, (x < 8 ∨ 24 < x) → (x ≠ 0 ∨ (i ≠ 7 ∧ i ≠ 10)) → x ≠ 57 → x ≠ 58 → x ≠ 2 + a → x ≠ 5 + a → F x i = D x i := fun x i p1 p2 p3 p4 p5 p6 => by rw [hF x i p3 p4, g5 x i p1 p2, hD x i p5 p6]
  have d : ∀ x i, x < 8 → x ≠ 0 → F x i = D' x i := fun x i p1 p2 => by rw [hF x i (by omega) (by omega), g5 x i (by omega) (by omega)]
  refine ⟨⟨TXM_of hT0 hF0, ⟨?_, fun i hi => ?_⟩, SHM_of hS (fun x i q => c x i (by omega) (by omega) (by omega) (by omega) (by omega) (by omega))⟩, ⟨?_, fun t ht3 => ?_⟩, ⟨?_, fun t ht3 => ?_⟩, ⟨?_, fun i hi => ?_⟩, fun s hs4 => SHR_of hs4 (hh s hs4) (fun i => ⟨c _ _ (by omega) (by omega) (by omega) (by omega) (by omega) (by omega), c _ _ (by omega) (by omega) (by omega) (by omega) (by omega) (by omega), c _ _ (by omega) (by omega) (by omega) (by omega) (by omega) (by omega), c _ _ (by omega) (by omega) (by omega) (by omega) (by omega) (by omega)⟩) (fun x i p1 p2 => c x i (by omega) (by omega) (by omega) (by omega) (by omega) (by omega)), ?_, Or.inl ?_, Or.inl ?_⟩
  · rw [c 56 17 (by omega) (by omega) (by omega) (by omega) (by omega) (by omega)]; exact hG.1
  · rw [c 56 17 (by omega) (by omega) (by omega) (by omega) (by omega) (by omega)] at hi
    rw [c 70 i (by omega) (by omega) (by omega) (by omega) (by omega) (by omega), c 71 i (by omega) (by omega) (by omega) (by omega) (by omega) (by omega)]; exact hG.2 i hi
  · have e : ∀ x, 2 ≤ x → x ≤ 4 → F x 1 = D x 1 := fun x p1 p2 => by
      rw [d x 1 (by omega) (by omega)]
      by_cases q : x = 2 + a
      · rw [q]; exact hm
      · exact hD x 1 q (by omega)
    rw [e 2 (by decide) (by decide), e 3 (by decide) (by decide), e 4 (by decide) (by decide)]
    exact ht.1
  · rw [d (2 + t) 2 (by omega) (by omega), hF0 57 t (Or.inl rfl)]
    by_cases e : t = a
    · subst e
      refine ⟨hl, fun i hi => ?_⟩
      rw [d (5 + t) i (by omega) (by omega), hF0 58 _ (Or.inr rfl)]
      exact hb i hi
    · have g := ht.2 t ht3
      rw [hD _ _ (by omega) (by omega), hA.1 t e]
      refine ⟨g.1, fun i hi => ?_⟩
      have hp : D 57 t ≤ 39 := by
        have := hT.1
        have := hT.2.1
        have := hT.2.2.1
        rcases (show t = 0 ∨ t = 1 ∨ t = 2 by omega) with rfl | rfl | rfl <;> omega
      rw [d (5 + t) i (by omega) (by omega), hF0 58 _ (Or.inr rfl), hD _ _ (by omega) (by omega), hA.2 t i ht3 e (by omega)]
      exact g.2 i hi
  · rw [hSF]
    exact TC_fr g1 fun x i p1 p2 => hF x i (by omega) (by omega)
  · rw [hF 8 t (by decide) (by decide), tF_eq hF0]
    exact FLT_t g2 t ht3
  · rw [c 41 0 (by omega) (by omega) (by omega) (by omega) (by omega) (by omega), c 56 17 (by omega) (by omega) (by omega) (by omega) (by omega) (by omega)]; exact hs.1
  · rw [c 56 17 (by omega) (by omega) (by omega) (by omega) (by omega) (by omega)] at hi
    rw [c 42 i (by omega) (by omega) (by omega) (by omega) (by omega) (by omega), c 43 i (by omega) (by omega) (by omega) (by omega) (by omega) (by omega), c 70 i (by omega) (by omega) (by omega) (by omega) (by omega) (by omega), c 71 i (by omega) (by omega) (by omega) (by omega) (by omega) (by omega)]; exact hs.2 i hi
  · rw [c 0 6 (by omega) (by omega) (by omega) (by omega) (by omega) (by omega), c 56 28 (by omega) (by omega) (by omega) (by omega) (by omega) (by omega)]; exact hn
  · rw [hF 0 7 (by decide) (by decide)]; exact g3
  · rw [hF 0 10 (by decide) (by decide)]; exact g4
theorem RL_len {D : HP} (h : RLB D) {a : Nat} (ha : a < 3) : (0 ≤ D 57 a ∧ D 57 a ≤ mxT a ∧ mxT a ≤ 39) ∧ D (2 + a) 2 = D 57 a ∧ D (2 + a) 1 = mxT a := by
  have hT := h.1.1
  have ht := h.2.1
  have g := ht.2 a ha
  refine ⟨?_, g.1, ?_⟩
  · have h0 := hT.1
    have h1 := hT.2.1
    have h2 := hT.2.2.1
    unfold mxT
    rcases (show a = 0 ∨ a = 1 ∨ a = 2 by omega) with rfl | rfl | rfl <;> simp <;> omega
  · rcases (show a = 0 ∨ a = 1 ∨ a = 2 by omega) with rfl | rfl | rfl
    · exact ht.1.1
    · exact ht.1.2.1
    · exact ht.1.2.2
set_option maxHeartbeats 4000000 in
theorem st_type {D : HP} (h : RLB D) (z b : Int) : ST mX5_type mX6_type [vI z, vI b] D := by
  by_cases hq : (0 ≤ z ∧ z ≤ 2) ∧ 0 ≤ b ∧ b ≤ 255
  · obtain ⟨a, rfl⟩ : ∃ a : Nat, z = a := ⟨z.toNat, by omega⟩
    have ha : a < 3 := by omega
    have ea : ((a : Int)).toNat = a := by omega
    obtain ⟨hl, h2, h1⟩ := RL_len h ha
    have gd : ∀ {Q : Prop} {X : Prop}, True → True := fun _ => trivial
    by_cases hf : D 57 a = mxT a
    · refine ⟨fun v E => v = some (vI (-4)) ∧ E = D, V_X5_type a b (fun _ _ _ => ⟨fun q => absurd hq.1 (isTx.1 q), fun _ => ⟨fun q => absurd q (by omega), fun _ => ⟨fun _ => ⟨by omega, fun q => ?_, fun _ => ⟨rfl, rfl⟩⟩, fun q => absurd hq.2.2 q⟩⟩⟩), ?_⟩
      · unfold fX2_isFull at q
        rw [ea, h1, h2, if_neg (by omega)] at q
        omega
      · rintro v E ⟨e1, e2⟩
        subst e2
        refine ⟨_, M_type h.1.1 a b, fun v' E' hE => ?_⟩
        rw [if_pos hq, ea, if_pos hf] at hE
        exact ⟨hE.1.trans e1.symm, by rw [hE.2]; exact h⟩
    · -- it comes behind
      have hT0 : TXM (hu (hu D 58 (39 * a + (D 57 a).toNat) b) 57 a (D 57 a + 1)) := by
        have hT := h.1.1
        have k : ∀ t : Nat, t ≠ a → hu (hu D 58 (39 * a + (D 57 a).toNat) b) 57 a (D 57 a + 1) 57 t = D 57 t := fun t q => by rw [hu_i _ _ q, hu_k _ _ (by decide)]
        have k0 : hu (hu D 58 (39 * a + (D 57 a).toNat) b) 57 a (D 57 a + 1) 57 a = D 57 a + 1 := hu_s _ _ _ _
        have m0 : mxT 0 = 29 := rfl
        have m1 : mxT 1 = 24 := rfl
        have m2 : mxT 2 = 39 := rfl
        have t1 := hT.1
        have t2 := hT.2.1
        have t3 := hT.2.2.1
        refine ⟨?_, ?_, ?_, fun i hi => ?_⟩
        · by_cases q : a = 0
          · subst q; rw [k0]; have : mxT ((0 : Nat) : Int) = 29 := rfl; omega
          · rw [k 0 (by omega)]; exact t1
        · by_cases q : a = 1
          · subst q; rw [k0]; have : mxT ((1 : Nat) : Int) = 24 := rfl; omega
          · rw [k 1 (by omega)]; exact t2
        · by_cases q : a = 2
          · subst q; rw [k0]; have : mxT ((2 : Nat) : Int) = 39 := rfl; omega
          · rw [k 2 (by omega)]; exact t3
        · rw [hu_k _ _ (by decide)]
          by_cases q : i = 39 * a + (D 57 a).toNat
          · rw [q, hu_s]; exact hq.2
          · rw [hu_i _ _ q]; exact hT.2.2.2 i hi
      have hA : TXA D (hu (hu D 58 (39 * a + (D 57 a).toNat) b) 57 a (D 57 a + 1)) a := ⟨fun t q => by rw [hu_i _ _ q, hu_k _ _ (by decide)], fun t i p1 p2 p3 => by rw [hu_k _ _ (by decide), hu_i _ _ (by omega)]⟩
      have hD : ∀ x i, x ≠ 2 + a → x ≠ 5 + a → hu (hu D (2 + a + 3) (D (2 + a) 2).toNat b) (2 + a) 2 (D (2 + a) 2 + 1) x i = D x i := fun x i p1 p2 => by rw [hu_k _ _ p1, hu_k _ _ (by omega)]
      have hm : hu (hu D (2 + a + 3) (D (2 + a) 2).toNat b) (2 + a) 2 (D (2 + a) 2 + 1) (2 + a) 1 = D (2 + a) 1 := by rw [hu_i _ _ (by decide), hu_k _ _ (by omega)]
      have hl2 : hu (hu D (2 + a + 3) (D (2 + a) 2).toNat b) (2 + a) 2 (D (2 + a) 2 + 1) (2 + a) 2 = hu (hu D 58 (39 * a + (D 57 a).toNat) b) 57 a (D 57 a + 1) 57 a := by rw [hu_s, hu_s, h2]
      have hb2 : ∀ i : Nat, (i : Int) < hu (hu D 58 (39 * a + (D 57 a).toNat) b) 57 a (D 57 a + 1) 57 a → hu (hu D (2 + a + 3) (D (2 + a) 2).toNat b) (2 + a) 2 (D (2 + a) 2 + 1) (5 + a) i = hu (hu D 58 (39 * a + (D 57 a).toNat) b) 57 a (D 57 a + 1) 58 (39 * a + i) := fun i hi => by
        rw [hu_s] at hi
        rw [hu_k _ _ (show 5 + a ≠ 2 + a by omega), h2, hu_k _ _ (show (58 : Nat) ≠ 57 by decide), show 2 + a + 3 = 5 + a by omega]
        by_cases q : i = (D 57 a).toNat
        · rw [q, hu_s, hu_s]
        · rw [hu_i _ _ q, hu_i _ _ (show 39 * a + i ≠ 39 * a + (D 57 a).toNat by omega)]
          exact (h.2.1.2 a ha).2 i (by omega)
      refine ⟨fun v E => v = some (vI (D 57 a + 1)) ∧ (TC E 9 (tS (hu (hu D 58 (39 * a + (D 57 a).toNat) b) 57 a (D 57 a + 1))) ∧ FL0 (hu (hu D 58 (39 * a + (D 57 a).toNat) b) 57 a (D 57 a + 1)) E ∧ (E 0 7 = -1 ∧ E 0 10 = -1) ∧ FT (hu (hu D (2 + a + 3) (D (2 + a) 2).toNat b) (2 + a) 2 (D (2 + a) 2 + 1)) E), V_X5_type a b (fun _ _ _ => ⟨fun q => absurd hq.1 (isTx.1 q), fun _ => ⟨fun q => absurd q (by omega), fun _ => ⟨fun _ => ⟨by omega, fun q => ⟨by omega, ?_⟩, fun q => ?_⟩, fun q => absurd hq.2.2 q⟩⟩⟩), ?_⟩
      · rw [ea]
        refine ⟨_, C_appendT (D := D) (o := 2 + a) (by omega) (by omega), ?_⟩
        rintro E1 ⟨-, e1⟩ _
        subst e1
        refine ⟨_, C_retold h ha hT0 hA hD hl2 hb2, ?_⟩
        rintro E ⟨-, hE⟩ _
        refine ⟨by omega, ?_, hE⟩
        unfold fX2_length
        rw [hE.2.2.2 (2 + a) 2 (by omega) (by omega), hu_s, h2]
      · rw [ea] at q
        unfold fX2_isFull at q
        rw [h1, h2, if_pos (by omega)] at q
        exact absurd rfl q
      · rintro v E ⟨e1, hE⟩
        have fE : ∀ x i, x = 57 ∨ x = 58 → E x i = D x i := fun x i q => by rw [hE.2.2.2 x i (by omega) (by omega), hD x i (by omega) (by omega)]
        refine ⟨_, M_type (TXM_of h.1.1 fE) a b, fun v' F hF => ?_⟩
        rw [if_pos hq, ea, fE 57 _ (Or.inl rfl), if_neg hf] at hF
        refine ⟨hF.1.trans e1.symm, RL_text h ha hT0 hA hD hm hl2 hb2 hE (fun x i p1 p2 => by rw [hF.2, hu_k _ _ p1, hu_k _ _ p2]) (fun x i q => ?_)⟩
        rw [hF.2]
        unfold hu
        by_cases q1 : x = 57 ∧ i = a
        · rw [if_pos q1, if_pos q1]
        · rw [if_neg q1, if_neg q1]
          by_cases q2 : x = 58 ∧ i = 39 * a + (D 57 a).toNat
          · rw [if_pos q2, if_pos q2]
          · rw [if_neg q2, if_neg q2]; exact fE x i q
  · refine ⟨fun v E => v = some (vI (-2)) ∧ E = D, V_X5_type z b (fun _ _ _ => ⟨fun _ => ⟨rfl, rfl⟩, fun q => ⟨fun _ => ⟨rfl, rfl⟩, fun q2 => ⟨fun q3 => absurd hq ?_, fun _ => ⟨rfl, rfl⟩⟩⟩⟩), ?_⟩
    · rw [isTx] at q
      exact fun w => w ⟨Decidable.of_not_not q, by omega, q3⟩
    · rintro v E ⟨e1, e2⟩
      subst e2
      refine ⟨_, M_type h.1.1 z b, fun v' E' hE => ?_⟩
      rw [if_neg hq] at hE
      exact ⟨hE.1.trans e1.symm, by rw [hE.2]; exact h⟩
