set_option maxHeartbeats 4000000 in
theorem C_tellAs {D : HP} {S : SC} (h : OKS S) (hM : CS D 9 S) (hV : SV D 9 S) : CT mX1_tellAs [vR 26, vR 10] D (fun v E => v = none ∧ CS E 25 S ∧ SV E 25 S ∧ ∀ a i, (a < 26 ∨ 34 < a) → E a i = D a i) := by
  have h1 := h.2.1
  have h2 := h.2.2.1
  have h3 := h.2.2.2.1
  refine V_X1_tellAs (o := 25) (a := 9) (Or.inr rfl) (Or.inl rfl) (fun _ => ?_)
  intro E1 e1 E3 e3 E5 e5 E7 e7 E9 e9 E11 e11 E13 e13 E15 e15 E17 e17 E19 e19 E21 e21 E23 e23
  have f7 : ∀ a i, a ≠ 26 → E7 a i = D a i := fun a i q => by rw [e7, hu_k _ _ q, e5, hu_k _ _ q, e3, hu_k _ _ q, e1, hu_k _ _ q]
  have g0 : E7 26 0 = D 10 0 := by rw [e7, hu_i _ _ (by decide), e5, hu_i _ _ (by decide), e3, hu_i _ _ (by decide), e1, hu_s]
  have g1 : E7 26 1 = D 10 1 := by rw [e7, hu_i _ _ (by decide), e5, hu_i _ _ (by decide), e3, hu_s, e1, hu_k _ _ (by decide)]
  have g2 : E7 26 2 = D 10 2 := by rw [e7, hu_i _ _ (by decide), e5, hu_s, e3, hu_k _ _ (by decide), e1, hu_k _ _ (by decide)]
  have g3 : E7 26 3 = D 10 3 := by rw [e7, hu_s, e5, hu_k _ _ (by decide), e3, hu_k _ _ (by decide), e1, hu_k _ _ (by decide)]
  have f23 : ∀ a i, (a < 27 ∨ 34 < a) → E23 a i = E7 a i := fun a i q => by
    rw [e23, hc_ne (by omega), e21, hc_ne (by omega), e19, hc_ne (by omega), e17, hc_ne (by omega), e15, hc_ne (by omega), e13, hc_ne (by omega), e11, hc_ne (by omega), e9, hc_ne (by omega)]
  have k2 : ∀ i, i < 25 → E23 27 i = D 11 i := fun i q => by
    rw [e23, hc_ne (by decide), e21, hc_ne (by decide), e19, hc_ne (by decide), e17, hc_ne (by decide), e15, hc_ne (by decide), e13, hc_ne (by decide), e11, hc_ne (by decide), e9]
    show (if (27 : Nat) = 27 ∧ 0 ≤ i ∧ i < 0 + 25 then E7 11 (0 + (i - 0)) else E7 27 i) = _
    rw [if_pos (by omega), show 0 + (i - 0) = i by omega]; exact f7 _ _ (by decide)
  have p9 : ∀ a i, (a < 26) → E9 a i = D a i := fun a i q => by rw [e9, hc_ne (by omega)]; exact f7 _ _ (by omega)
  have k3 : ∀ i, i < 100 → E23 28 i = D 12 i := fun i q => by
    rw [e23, hc_ne (by decide), e21, hc_ne (by decide), e19, hc_ne (by decide), e17, hc_ne (by decide), e15, hc_ne (by decide), e13, hc_ne (by decide), e11]
    show (if (28 : Nat) = 28 ∧ 0 ≤ i ∧ i < 0 + 100 then E9 12 (0 + (i - 0)) else E9 28 i) = _
    rw [if_pos (by omega), show 0 + (i - 0) = i by omega]; exact p9 _ _ (by decide)
  have p11 : ∀ a i, (a < 26) → E11 a i = D a i := fun a i q => by rw [e11, hc_ne (by omega)]; exact p9 _ _ q
  have k4 : ∀ i, i < 100 → E23 29 i = D 13 i := fun i q => by
    rw [e23, hc_ne (by decide), e21, hc_ne (by decide), e19, hc_ne (by decide), e17, hc_ne (by decide), e15, hc_ne (by decide), e13]
    show (if (29 : Nat) = 29 ∧ 0 ≤ i ∧ i < 0 + 100 then E11 13 (0 + (i - 0)) else E11 29 i) = _
    rw [if_pos (by omega), show 0 + (i - 0) = i by omega]; exact p11 _ _ (by decide)
  have p13 : ∀ a i, (a < 26) → E13 a i = D a i := fun a i q => by rw [e13, hc_ne (by omega)]; exact p11 _ _ q
  have k5 : ∀ i, i < 12 → E23 30 i = D 14 i := fun i q => by
    rw [e23, hc_ne (by decide), e21, hc_ne (by decide), e19, hc_ne (by decide), e17, hc_ne (by decide), e15]
    show (if (30 : Nat) = 30 ∧ 0 ≤ i ∧ i < 0 + 12 then E13 14 (0 + (i - 0)) else E13 30 i) = _
    rw [if_pos (by omega), show 0 + (i - 0) = i by omega]; exact p13 _ _ (by decide)
  have p15 : ∀ a i, (a < 26) → E15 a i = D a i := fun a i q => by rw [e15, hc_ne (by omega)]; exact p13 _ _ q
  have k6 : ∀ i, i < 12 → E23 31 i = D 15 i := fun i q => by
    rw [e23, hc_ne (by decide), e21, hc_ne (by decide), e19, hc_ne (by decide), e17]
    show (if (31 : Nat) = 31 ∧ 0 ≤ i ∧ i < 0 + 12 then E15 15 (0 + (i - 0)) else E15 31 i) = _
    rw [if_pos (by omega), show 0 + (i - 0) = i by omega]; exact p15 _ _ (by decide)
  have p17 : ∀ a i, (a < 26) → E17 a i = D a i := fun a i q => by rw [e17, hc_ne (by omega)]; exact p15 _ _ q
  have k7 : ∀ i, i < 8 → E23 32 i = D 16 i := fun i q => by
    rw [e23, hc_ne (by decide), e21, hc_ne (by decide), e19]
    show (if (32 : Nat) = 32 ∧ 0 ≤ i ∧ i < 0 + 8 then E17 16 (0 + (i - 0)) else E17 32 i) = _
    rw [if_pos (by omega), show 0 + (i - 0) = i by omega]; exact p17 _ _ (by decide)
  have p19 : ∀ a i, (a < 26) → E19 a i = D a i := fun a i q => by rw [e19, hc_ne (by omega)]; exact p17 _ _ q
  have k8 : ∀ i, i < 8 → E23 33 i = D 17 i := fun i q => by
    rw [e23, hc_ne (by decide), e21]
    show (if (33 : Nat) = 33 ∧ 0 ≤ i ∧ i < 0 + 8 then E19 17 (0 + (i - 0)) else E19 33 i) = _
    rw [if_pos (by omega), show 0 + (i - 0) = i by omega]; exact p19 _ _ (by decide)
  have p21 : ∀ a i, (a < 26) → E21 a i = D a i := fun a i q => by rw [e21, hc_ne (by omega)]; exact p19 _ _ q
  have k9 : ∀ i, i < 8 → E23 34 i = D 18 i := fun i q => by
    rw [e23]
    show (if (34 : Nat) = 34 ∧ 0 ≤ i ∧ i < 0 + 8 then E21 18 (0 + (i - 0)) else E21 34 i) = _
    rw [if_pos (by omega), show 0 + (i - 0) = i by omega]; exact p21 _ _ (by decide)
  refine ⟨rfl, ⟨⟨fun q => ?_, ?_, ?_, ?_⟩, fun j hj => ?_, fun m hm => ?_, fun k hk => ?_⟩, fun w hw c hc => ?_, fun a i q => ?_⟩
  · exact ((f23 26 0 (by decide)).trans g0).trans (hM.1.1 q)
  · exact ((f23 26 1 (by decide)).trans g1).trans hM.1.2.1
  · exact ((f23 26 2 (by decide)).trans g2).trans hM.1.2.2.1
  · exact ((f23 26 3 (by decide)).trans g3).trans hM.1.2.2.2
  · exact (k2 j (by omega)).trans (hM.2.1 j hj)
  · exact ⟨(k5 m (by omega)).trans (hM.2.2.1 m hm).1, (k6 m (by omega)).trans (hM.2.2.1 m hm).2⟩
  · exact ⟨(k7 k (by omega)).trans (hM.2.2.2 k hk).1, (k8 k (by omega)).trans (hM.2.2.2 k hk).2.1, (k9 k (by omega)).trans (hM.2.2.2 k hk).2.2⟩
  · exact ⟨(k3 _ (by omega)).trans (hV w hw c hc).1, (k4 _ (by omega)).trans (hV w hw c hc).2⟩
  · rw [f23 a i (by omega), f7 a i (by omega)]
