set_option maxRecDepth 100000 in
set_option maxHeartbeats 4000000 in
theorem V_X1_tellAs {o : Nat} (ho : o = 9 ∨ o = 25) {a : Nat} (ha : a = 9 ∨ a = 25) {D : HP} {Q : Option MV → HP → Prop}
    (h0 : cD D → (∀ (E1 : HP), E1 = (hu D (o + 1) 0 (D (a + 1) 0)) → (∀ (E3 : HP), E3 = (hu E1 (o + 1) 1 (E1 (a + 1) 1)) → (∀ (E5 : HP), E5 = (hu E3 (o + 1) 2 (E3 (a + 1) 2)) → (∀ (E7 : HP), E7 = (hu E5 (o + 1) 3 (E5 (a + 1) 3)) → (∀ (E9 : HP), E9 = (hc E7 (a + 2) 0 (o + 2) 0 25) → (∀ (E11 : HP), E11 = (hc E9 (a + 3) 0 (o + 3) 0 100) → (∀ (E13 : HP), E13 = (hc E11 (a + 4) 0 (o + 4) 0 100) → (∀ (E15 : HP), E15 = (hc E13 (a + 5) 0 (o + 5) 0 12) → (∀ (E17 : HP), E17 = (hc E15 (a + 6) 0 (o + 6) 0 12) → (∀ (E19 : HP), E19 = (hc E17 (a + 7) 0 (o + 7) 0 8) → (∀ (E21 : HP), E21 = (hc E19 (a + 8) 0 (o + 8) 0 8) → (∀ (E23 : HP), E23 = (hc E21 (a + 9) 0 (o + 9) 0 8) → (Q none E23))))))))))))))
    : CT mX1_tellAs [vR (o + 1), vR (a + 1)] D Q := by
  refine CT.of 0 (by decide) (Nat.le_of_ble_eq_true rfl) ?_
  show WP mX1_tellAs Q 0 [vR (o + 1), vR (a + 1)] [] D
  refine WP_cD (fun hcD => ?_)
  have h := h0 hcD
  refine WP_aload_n (z := (o + 1)) dX1_tellAs_0 rfl ?_
  refine WP_aload_n (z := (a + 1)) dX1_tellAs_1 rfl ?_
  refine WP_getI dX1_tellAs_2 fl_RX1_9 (kcC_1 ha) rfl rfl ?_
  refine WP_putI dX1_tellAs_5 fp_RX1_9 (kcC_1 ho) rfl ?_
  obtain ⟨E1, hE2⟩ : ∃ E1 : HP, E1 = (hu D (o + 1) 0 (D (a + 1) 0)) := ⟨_, rfl⟩
  replace h := h E1 hE2
  show WP mX1_tellAs Q 8 [vR (o + 1), vR (a + 1)] [] (hu D (o + 1) 0 (D (a + 1) 0))
  rw [← hE2]
  refine WP_aload_n (z := (o + 1)) dX1_tellAs_8 rfl ?_
  refine WP_aload_n (z := (a + 1)) dX1_tellAs_9 rfl ?_
  refine WP_getI dX1_tellAs_10 fl_RX1_15 (kcC_1 ha) rfl rfl ?_
  refine WP_putI dX1_tellAs_13 fp_RX1_15 (kcC_1 ho) rfl ?_
  obtain ⟨E3, hE4⟩ : ∃ E3 : HP, E3 = (hu E1 (o + 1) 1 (E1 (a + 1) 1)) := ⟨_, rfl⟩
  replace h := h E3 hE4
  show WP mX1_tellAs Q 16 [vR (o + 1), vR (a + 1)] [] (hu E1 (o + 1) 1 (E1 (a + 1) 1))
  rw [← hE4]
  refine WP_aload_n (z := (o + 1)) dX1_tellAs_16 rfl ?_
  refine WP_aload_n (z := (a + 1)) dX1_tellAs_17 rfl ?_
  refine WP_getI dX1_tellAs_18 fl_RX1_18 (kcC_1 ha) rfl rfl ?_
  refine WP_putI dX1_tellAs_21 fp_RX1_18 (kcC_1 ho) rfl ?_
  obtain ⟨E5, hE6⟩ : ∃ E5 : HP, E5 = (hu E3 (o + 1) 2 (E3 (a + 1) 2)) := ⟨_, rfl⟩
  replace h := h E5 hE6
  show WP mX1_tellAs Q 24 [vR (o + 1), vR (a + 1)] [] (hu E3 (o + 1) 2 (E3 (a + 1) 2))
  rw [← hE6]
  refine WP_aload_n (z := (o + 1)) dX1_tellAs_24 rfl ?_
  refine WP_aload_n (z := (a + 1)) dX1_tellAs_25 rfl ?_
  refine WP_getI dX1_tellAs_26 fl_RX1_21 (kcC_1 ha) rfl rfl ?_
  refine WP_putI dX1_tellAs_29 fp_RX1_21 (kcC_1 ho) rfl ?_
  obtain ⟨E7, hE8⟩ : ∃ E7 : HP, E7 = (hu E5 (o + 1) 3 (E5 (a + 1) 3)) := ⟨_, rfl⟩
  replace h := h E7 hE8
  show WP mX1_tellAs Q 32 [vR (o + 1), vR (a + 1)] [] (hu E5 (o + 1) 3 (E5 (a + 1) 3))
  rw [← hE8]
  refine WP_aload_n (z := (a + 1)) dX1_tellAs_32 rfl ?_
  refine WP_getR (z := (a + 2)) dX1_tellAs_33 fl_RX1_24 (kcC_1 ha) rfl (srC_1_4 ha) ?_
  refine WP_iconst (z := 0) dX1_tellAs_36 rfl ⟨by decide, by decide⟩ ?_
  refine WP_aload_n (z := (o + 1)) dX1_tellAs_37 rfl ?_
  refine WP_getR (z := (o + 2)) dX1_tellAs_38 fl_RX1_24 (kcC_1 ho) rfl (srC_1_4 ho) ?_
  refine WP_iconst (z := 0) dX1_tellAs_41 rfl ⟨by decide, by decide⟩ ?_
  refine WP_bipush (z := 25) dX1_tellAs_42 rfl (by decide) ?_
  refine WP_copy dX1_tellAs_44 wm_542 w_copy ⟨Nat.le_of_ble_eq_true rfl, Nat.le_of_ble_eq_true rfl⟩ (Nat.le_of_ble_eq_true rfl) (kcC_2 ha) (kcC_2 ho) (by decide) (by decide) (by decide) (by decide) (by decide) ?_
  obtain ⟨E9, hE10⟩ : ∃ E9 : HP, E9 = (hc E7 (a + 2) 0 (o + 2) 0 25) := ⟨_, rfl⟩
  replace h := h E9 hE10
  show WP mX1_tellAs Q 47 [vR (o + 1), vR (a + 1)] [] (hc E7 (a + 2) 0 (o + 2) 0 25)
  rw [← hE10]
  refine WP_aload_n (z := (a + 1)) dX1_tellAs_47 rfl ?_
  refine WP_getR (z := (a + 3)) dX1_tellAs_48 fl_RX1_28 (kcC_1 ha) rfl (srC_1_5 ha) ?_
  refine WP_iconst (z := 0) dX1_tellAs_51 rfl ⟨by decide, by decide⟩ ?_
  refine WP_aload_n (z := (o + 1)) dX1_tellAs_52 rfl ?_
  refine WP_getR (z := (o + 3)) dX1_tellAs_53 fl_RX1_28 (kcC_1 ho) rfl (srC_1_5 ho) ?_
  refine WP_iconst (z := 0) dX1_tellAs_56 rfl ⟨by decide, by decide⟩ ?_
  refine WP_bipush (z := 100) dX1_tellAs_57 rfl (by decide) ?_
  refine WP_copy dX1_tellAs_59 wm_542 w_copy ⟨Nat.le_of_ble_eq_true rfl, Nat.le_of_ble_eq_true rfl⟩ (Nat.le_of_ble_eq_true rfl) (kcC_3 ha) (kcC_3 ho) (by decide) (by decide) (by decide) (by decide) (by decide) ?_
  obtain ⟨E11, hE12⟩ : ∃ E11 : HP, E11 = (hc E9 (a + 3) 0 (o + 3) 0 100) := ⟨_, rfl⟩
  replace h := h E11 hE12
  show WP mX1_tellAs Q 62 [vR (o + 1), vR (a + 1)] [] (hc E9 (a + 3) 0 (o + 3) 0 100)
  rw [← hE12]
  refine WP_aload_n (z := (a + 1)) dX1_tellAs_62 rfl ?_
  refine WP_getR (z := (a + 4)) dX1_tellAs_63 fl_RX1_31 (kcC_1 ha) rfl (srC_1_6 ha) ?_
  refine WP_iconst (z := 0) dX1_tellAs_66 rfl ⟨by decide, by decide⟩ ?_
  refine WP_aload_n (z := (o + 1)) dX1_tellAs_67 rfl ?_
  refine WP_getR (z := (o + 4)) dX1_tellAs_68 fl_RX1_31 (kcC_1 ho) rfl (srC_1_6 ho) ?_
  refine WP_iconst (z := 0) dX1_tellAs_71 rfl ⟨by decide, by decide⟩ ?_
  refine WP_bipush (z := 100) dX1_tellAs_72 rfl (by decide) ?_
  refine WP_copy dX1_tellAs_74 wm_542 w_copy ⟨Nat.le_of_ble_eq_true rfl, Nat.le_of_ble_eq_true rfl⟩ (Nat.le_of_ble_eq_true rfl) (kcC_4 ha) (kcC_4 ho) (by decide) (by decide) (by decide) (by decide) (by decide) ?_
  obtain ⟨E13, hE14⟩ : ∃ E13 : HP, E13 = (hc E11 (a + 4) 0 (o + 4) 0 100) := ⟨_, rfl⟩
  replace h := h E13 hE14
  show WP mX1_tellAs Q 77 [vR (o + 1), vR (a + 1)] [] (hc E11 (a + 4) 0 (o + 4) 0 100)
  rw [← hE14]
  refine WP_aload_n (z := (a + 1)) dX1_tellAs_77 rfl ?_
  refine WP_getR (z := (a + 5)) dX1_tellAs_78 fl_RX1_34 (kcC_1 ha) rfl (srC_1_7 ha) ?_
  refine WP_iconst (z := 0) dX1_tellAs_81 rfl ⟨by decide, by decide⟩ ?_
  refine WP_aload_n (z := (o + 1)) dX1_tellAs_82 rfl ?_
  refine WP_getR (z := (o + 5)) dX1_tellAs_83 fl_RX1_34 (kcC_1 ho) rfl (srC_1_7 ho) ?_
  refine WP_iconst (z := 0) dX1_tellAs_86 rfl ⟨by decide, by decide⟩ ?_
  refine WP_bipush (z := 12) dX1_tellAs_87 rfl (by decide) ?_
  refine WP_copy dX1_tellAs_89 wm_542 w_copy ⟨Nat.le_of_ble_eq_true rfl, Nat.le_of_ble_eq_true rfl⟩ (Nat.le_of_ble_eq_true rfl) (kcC_5 ha) (kcC_5 ho) (by decide) (by decide) (by decide) (by decide) (by decide) ?_
  obtain ⟨E15, hE16⟩ : ∃ E15 : HP, E15 = (hc E13 (a + 5) 0 (o + 5) 0 12) := ⟨_, rfl⟩
  replace h := h E15 hE16
  show WP mX1_tellAs Q 92 [vR (o + 1), vR (a + 1)] [] (hc E13 (a + 5) 0 (o + 5) 0 12)
  rw [← hE16]
  refine WP_aload_n (z := (a + 1)) dX1_tellAs_92 rfl ?_
  refine WP_getR (z := (a + 6)) dX1_tellAs_93 fl_RX1_37 (kcC_1 ha) rfl (srC_1_8 ha) ?_
  refine WP_iconst (z := 0) dX1_tellAs_96 rfl ⟨by decide, by decide⟩ ?_
  refine WP_aload_n (z := (o + 1)) dX1_tellAs_97 rfl ?_
  refine WP_getR (z := (o + 6)) dX1_tellAs_98 fl_RX1_37 (kcC_1 ho) rfl (srC_1_8 ho) ?_
  refine WP_iconst (z := 0) dX1_tellAs_101 rfl ⟨by decide, by decide⟩ ?_
  refine WP_bipush (z := 12) dX1_tellAs_102 rfl (by decide) ?_
  refine WP_copy dX1_tellAs_104 wm_542 w_copy ⟨Nat.le_of_ble_eq_true rfl, Nat.le_of_ble_eq_true rfl⟩ (Nat.le_of_ble_eq_true rfl) (kcC_6 ha) (kcC_6 ho) (by decide) (by decide) (by decide) (by decide) (by decide) ?_
  obtain ⟨E17, hE18⟩ : ∃ E17 : HP, E17 = (hc E15 (a + 6) 0 (o + 6) 0 12) := ⟨_, rfl⟩
  replace h := h E17 hE18
  show WP mX1_tellAs Q 107 [vR (o + 1), vR (a + 1)] [] (hc E15 (a + 6) 0 (o + 6) 0 12)
  rw [← hE18]
  refine WP_aload_n (z := (a + 1)) dX1_tellAs_107 rfl ?_
  refine WP_getR (z := (a + 7)) dX1_tellAs_108 fl_RX1_40 (kcC_1 ha) rfl (srC_1_9 ha) ?_
  refine WP_iconst (z := 0) dX1_tellAs_111 rfl ⟨by decide, by decide⟩ ?_
  refine WP_aload_n (z := (o + 1)) dX1_tellAs_112 rfl ?_
  refine WP_getR (z := (o + 7)) dX1_tellAs_113 fl_RX1_40 (kcC_1 ho) rfl (srC_1_9 ho) ?_
  refine WP_iconst (z := 0) dX1_tellAs_116 rfl ⟨by decide, by decide⟩ ?_
  refine WP_bipush (z := 8) dX1_tellAs_117 rfl (by decide) ?_
  refine WP_copy dX1_tellAs_119 wm_542 w_copy ⟨Nat.le_of_ble_eq_true rfl, Nat.le_of_ble_eq_true rfl⟩ (Nat.le_of_ble_eq_true rfl) (kcC_7 ha) (kcC_7 ho) (by decide) (by decide) (by decide) (by decide) (by decide) ?_
  obtain ⟨E19, hE20⟩ : ∃ E19 : HP, E19 = (hc E17 (a + 7) 0 (o + 7) 0 8) := ⟨_, rfl⟩
  replace h := h E19 hE20
  show WP mX1_tellAs Q 122 [vR (o + 1), vR (a + 1)] [] (hc E17 (a + 7) 0 (o + 7) 0 8)
  rw [← hE20]
  refine WP_aload_n (z := (a + 1)) dX1_tellAs_122 rfl ?_
  refine WP_getR (z := (a + 8)) dX1_tellAs_123 fl_RX1_43 (kcC_1 ha) rfl (srC_1_10 ha) ?_
  refine WP_iconst (z := 0) dX1_tellAs_126 rfl ⟨by decide, by decide⟩ ?_
  refine WP_aload_n (z := (o + 1)) dX1_tellAs_127 rfl ?_
  refine WP_getR (z := (o + 8)) dX1_tellAs_128 fl_RX1_43 (kcC_1 ho) rfl (srC_1_10 ho) ?_
  refine WP_iconst (z := 0) dX1_tellAs_131 rfl ⟨by decide, by decide⟩ ?_
  refine WP_bipush (z := 8) dX1_tellAs_132 rfl (by decide) ?_
  refine WP_copy dX1_tellAs_134 wm_542 w_copy ⟨Nat.le_of_ble_eq_true rfl, Nat.le_of_ble_eq_true rfl⟩ (Nat.le_of_ble_eq_true rfl) (kcC_8 ha) (kcC_8 ho) (by decide) (by decide) (by decide) (by decide) (by decide) ?_
  obtain ⟨E21, hE22⟩ : ∃ E21 : HP, E21 = (hc E19 (a + 8) 0 (o + 8) 0 8) := ⟨_, rfl⟩
  replace h := h E21 hE22
  show WP mX1_tellAs Q 137 [vR (o + 1), vR (a + 1)] [] (hc E19 (a + 8) 0 (o + 8) 0 8)
  rw [← hE22]
  refine WP_aload_n (z := (a + 1)) dX1_tellAs_137 rfl ?_
  refine WP_getR (z := (a + 9)) dX1_tellAs_138 fl_RX1_46 (kcC_1 ha) rfl (srC_1_11 ha) ?_
  refine WP_iconst (z := 0) dX1_tellAs_141 rfl ⟨by decide, by decide⟩ ?_
  refine WP_aload_n (z := (o + 1)) dX1_tellAs_142 rfl ?_
  refine WP_getR (z := (o + 9)) dX1_tellAs_143 fl_RX1_46 (kcC_1 ho) rfl (srC_1_11 ho) ?_
  refine WP_iconst (z := 0) dX1_tellAs_146 rfl ⟨by decide, by decide⟩ ?_
  refine WP_bipush (z := 8) dX1_tellAs_147 rfl (by decide) ?_
  refine WP_copy dX1_tellAs_149 wm_542 w_copy ⟨Nat.le_of_ble_eq_true rfl, Nat.le_of_ble_eq_true rfl⟩ (Nat.le_of_ble_eq_true rfl) (kcC_9 ha) (kcC_9 ho) (by decide) (by decide) (by decide) (by decide) (by decide) ?_
  obtain ⟨E23, hE24⟩ : ∃ E23 : HP, E23 = (hc E21 (a + 9) 0 (o + 9) 0 8) := ⟨_, rfl⟩
  replace h := h E23 hE24
  show WP mX1_tellAs Q 152 [vR (o + 1), vR (a + 1)] [] (hc E21 (a + 9) 0 (o + 9) 0 8)
  rw [← hE24]
  exact WP_return dX1_tellAs_152 rfl h
set_option maxRecDepth 100000 in
set_option maxHeartbeats 4000000 in
theorem V_X1_addCell {o : Nat} (ho : o = 9 ∨ o = 25) (a : Int) {D : HP} {Q : Option MV → HP → Prop}
    (h0 : cD D → c32 a → (((D (o + 1) 1) < 0 → (Q none D)) ∧ (¬ ((D (o + 1) 1) < 0) → ((25 ≤ (D (o + 1) 1) → (Q none D)) ∧ (¬ (25 ≤ (D (o + 1) 1)) → ((0 ≤ (D (o + 1) 1) ∧ (D (o + 1) 1) < 25) ∧ (∀ (E3 : HP), E3 = (hu D (o + 2) ((D (o + 1) 1)).toNat a) → ((c32 ((E3 (o + 1) 1) + 1)) ∧ (∀ (E5 : HP), E5 = (hu E3 (o + 1) 1 ((E3 (o + 1) 1) + 1)) → (Q none E5))))))))))
    : CT mX1_addCell [vR (o + 1), vI a] D Q := by
  refine CT.of 0 (by decide) (Nat.le_of_ble_eq_true rfl) ?_
  show WP mX1_addCell Q 0 [vR (o + 1), vI a] [] D
  refine WP_cD (fun hcD => ?_)
  refine WP_cl (fun hcl => ?_)
  have h := h0 hcD (cVs_g hcl (i := 1) (v := vI a) rfl)
  refine WP_aload_n (z := (o + 1)) dX1_addCell_0 rfl ?_
  refine WP_getI dX1_addCell_1 fl_RX1_15 (kcC_1 ho) rfl rfl ?_
  refine WP_if_lt (tgt := 36) dX1_addCell_4 (by decide) (fun c1 => ?_) (fun c1 => ?_)
  · replace h := h.1 c1
    exact WP_return dX1_addCell_36 rfl h
  · replace h := h.2 c1
    refine WP_aload_n (z := (o + 1)) dX1_addCell_7 rfl ?_
    refine WP_getI dX1_addCell_8 fl_RX1_15 (kcC_1 ho) rfl rfl ?_
    refine WP_bipush (z := 25) dX1_addCell_11 rfl (by decide) ?_
    refine WP_icmp_ge (tgt := 36) dX1_addCell_13 (by decide) (fun c2 => ?_) (fun c2 => ?_)
    · replace h := h.1 c2
      exact WP_return dX1_addCell_36 rfl h
    · replace h := h.2 c2
      refine WP_aload_n (z := (o + 1)) dX1_addCell_16 rfl ?_
      refine WP_getR (z := (o + 2)) dX1_addCell_17 fl_RX1_24 (kcC_1 ho) rfl (srC_1_4 ho) ?_
      refine WP_aload_n (z := (o + 1)) dX1_addCell_20 rfl ?_
      refine WP_getI dX1_addCell_21 fl_RX1_15 (kcC_1 ho) rfl rfl ?_
      refine WP_iload_n (z := a) dX1_addCell_24 rfl ?_
      obtain ⟨o8, h⟩ := h
      refine WP_iast dX1_addCell_25 (kcC_2 ho) o8.1 o8.2 ?_
      obtain ⟨E3, hE4⟩ : ∃ E3 : HP, E3 = (hu D (o + 2) ((D (o + 1) 1)).toNat a) := ⟨_, rfl⟩
      replace h := h E3 hE4
      show WP mX1_addCell Q 26 [vR (o + 1), vI a] [] (hu D (o + 2) ((D (o + 1) 1)).toNat a)
      rw [← hE4]
      refine WP_aload_n (z := (o + 1)) dX1_addCell_26 rfl ?_
      refine WP_dup dX1_addCell_27 (Nat.ne_of_beq_eq_false rfl) ?_
      refine WP_getI dX1_addCell_28 fl_RX1_15 (kcC_1 ho) rfl rfl ?_
      refine WP_iconst (z := 1) dX1_addCell_31 rfl ⟨by decide, by decide⟩ ?_
      obtain ⟨o7, h⟩ := h
      refine WP_iadd (z := ((E3 (o + 1) 1) + 1)) dX1_addCell_32 (w32_id o7) ?_
      refine WP_putI dX1_addCell_33 fp_RX1_15 (kcC_1 ho) rfl ?_
      obtain ⟨E5, hE6⟩ : ∃ E5 : HP, E5 = (hu E3 (o + 1) 1 ((E3 (o + 1) 1) + 1)) := ⟨_, rfl⟩
      replace h := h E5 hE6
      show WP mX1_addCell Q 36 [vR (o + 1), vI a] [] (hu E3 (o + 1) 1 ((E3 (o + 1) 1) + 1))
      rw [← hE6]
      exact WP_return dX1_addCell_36 rfl h
set_option maxRecDepth 100000 in
set_option maxHeartbeats 4000000 in
theorem V_X1_readRows {o : Nat} (ho : o = 9 ∨ o = 25) {a : Nat} (ha : a = 2 ∨ a = 3 ∨ a = 4) {D : HP} {Q : Option MV → HP → Prop} (I13 : Int → Int → Int → Int → HP → Prop) (u13 : Int → Int → Int → Int → HP → Nat)
    (h0 : cD D → (I13 0 0 (fX2_length D a) 0 D))
    (h13 : ∀ (x2 x3 x4 x5 : Int) (D : HP), I13 x2 x3 x4 x5 D → cD D → c32 x2 → c32 x3 → c32 x4 → c32 x5 → ((x4 ≤ x5 → ((x2 = 0 → (∀ (E3 : HP), E3 = (hu D (o + 1) 0 x3) → (Q (some (vI (if x3 ≤ 0 then (x4 : Int) else (if x3 = (E3 (o + 1) 0) then ((-1) : Int) else x4)))) E3))) ∧ (¬ (x2 = 0) → (Q (some (vI (if x3 ≤ 0 then (x4 : Int) else (if x3 = (D (o + 1) 0) then ((-1) : Int) else x4)))) D)))) ∧ (¬ (x4 ≤ x5) → ((oX2_at D a x5) ∧ (∀ (v13 : Int), v13 = (if x3 ≤ 0 then (0 : Int) else (if x2 = 0 then (1 : Int) else (if x3 = (D (o + 1) 0) then (1 : Int) else 0))) → ((x2 = 5 → (Q (some (vI x5)) D)) ∧ (¬ (x2 = 5) → (((fX2_at D a x5) = 59 → ((v13 = 0 → (((fX2_at D a x5) = 46 → (((if x2 = 0 then (5 : Int) else (D (o + 1) 0)) ≤ x3 → (Q (some (vI x5)) D)) ∧ (¬ ((if x2 = 0 then (5 : Int) else (D (o + 1) 0)) ≤ x3) → (∃ Q20 : Option MV → HP → Prop, CT mX1_addCell [vR (o + 1), vI (if (fX2_at D a x5) = 35 then (1 : Int) else 0)] D Q20 ∧ ∀ (D23 : HP), Q20 none D23 → cD D23 → ((c32 (x3 + 1)) ∧ ((c32 (x5 + 1)) ∧ (I13 x2 (x3 + 1) x4 (x5 + 1) D23 ∧ u13 x2 (x3 + 1) x4 (x5 + 1) D23 < u13 x2 x3 x4 x5 D))))))) ∧ (¬ ((fX2_at D a x5) = 46) → (((fX2_at D a x5) = 35 → (((if x2 = 0 then (5 : Int) else (D (o + 1) 0)) ≤ x3 → (Q (some (vI x5)) D)) ∧ (¬ ((if x2 = 0 then (5 : Int) else (D (o + 1) 0)) ≤ x3) → (∃ Q35 : Option MV → HP → Prop, CT mX1_addCell [vR (o + 1), vI (if (fX2_at D a x5) = 35 then (1 : Int) else 0)] D Q35 ∧ ∀ (D38 : HP), Q35 none D38 → cD D38 → ((c32 (x3 + 1)) ∧ ((c32 (x5 + 1)) ∧ (I13 x2 (x3 + 1) x4 (x5 + 1) D38 ∧ u13 x2 (x3 + 1) x4 (x5 + 1) D38 < u13 x2 x3 x4 x5 D))))))) ∧ (¬ ((fX2_at D a x5) = 35) → (Q (some (vI x5)) D)))))) ∧ (¬ (v13 = 0) → (∀ (E48 : HP), E48 = (hu D (o + 1) 0 x3) → ((c32 (x2 + 1)) ∧ ((c32 (x5 + 1)) ∧ (I13 (x2 + 1) 0 x4 (x5 + 1) E48 ∧ u13 (x2 + 1) 0 x4 (x5 + 1) E48 < u13 x2 x3 x4 x5 D))))))) ∧ (¬ ((fX2_at D a x5) = 59) → (((fX2_at D a x5) = 46 → (((if x2 = 0 then (5 : Int) else (D (o + 1) 0)) ≤ x3 → (Q (some (vI x5)) D)) ∧ (¬ ((if x2 = 0 then (5 : Int) else (D (o + 1) 0)) ≤ x3) → (∃ Q54 : Option MV → HP → Prop, CT mX1_addCell [vR (o + 1), vI (if (fX2_at D a x5) = 35 then (1 : Int) else 0)] D Q54 ∧ ∀ (D57 : HP), Q54 none D57 → cD D57 → ((c32 (x3 + 1)) ∧ ((c32 (x5 + 1)) ∧ (I13 x2 (x3 + 1) x4 (x5 + 1) D57 ∧ u13 x2 (x3 + 1) x4 (x5 + 1) D57 < u13 x2 x3 x4 x5 D))))))) ∧ (¬ ((fX2_at D a x5) = 46) → (((fX2_at D a x5) = 35 → (((if x2 = 0 then (5 : Int) else (D (o + 1) 0)) ≤ x3 → (Q (some (vI x5)) D)) ∧ (¬ ((if x2 = 0 then (5 : Int) else (D (o + 1) 0)) ≤ x3) → (∃ Q69 : Option MV → HP → Prop, CT mX1_addCell [vR (o + 1), vI (if (fX2_at D a x5) = 35 then (1 : Int) else 0)] D Q69 ∧ ∀ (D72 : HP), Q69 none D72 → cD D72 → ((c32 (x3 + 1)) ∧ ((c32 (x5 + 1)) ∧ (I13 x2 (x3 + 1) x4 (x5 + 1) D72 ∧ u13 x2 (x3 + 1) x4 (x5 + 1) D72 < u13 x2 x3 x4 x5 D))))))) ∧ (¬ ((fX2_at D a x5) = 35) → (Q (some (vI x5)) D))))))))))))))
    : CT mX1_readRows [vR (o + 1), vR a] D Q := by
  refine CT.of 6 (by decide) (Nat.le_of_ble_eq_true rfl) ?_
  show WP mX1_readRows Q 0 [vR (o + 1), vR a, vU, vU, vU, vU, vU, vU] [] D
  have IH : ∀ n : Nat, (∀ (x2 x3 x4 x5 : Int) (D : HP), I13 x2 x3 x4 x5 D → u13 x2 x3 x4 x5 D * 1 + 0 < n → WP mX1_readRows Q 13 [vR (o + 1), vR a, vI x2, vI x3, vI x4, vI x5, vU, vU] [] D) := by
    intro n
    induction n with
    | zero => exact fun _ _ _ _ _ _ h => absurd h (Nat.not_lt_zero _)
    | succ n ih =>
      have ih13_ := ih
      · intro x2 x3 x4 x5 D hI hn
        refine WP_cD (fun hcD => ?_)
        refine WP_cl (fun hcl => ?_)
        have h := h13 x2 x3 x4 x5 D hI hcD (cVs_g hcl (i := 2) (v := vI x2) rfl) (cVs_g hcl (i := 3) (v := vI x3) rfl) (cVs_g hcl (i := 4) (v := vI x4) rfl) (cVs_g hcl (i := 5) (v := vI x5) rfl)
        refine WP_iload (z := x5) dX1_readRows_13 rfl ?_
        refine WP_iload (z := x4) dX1_readRows_15 rfl ?_
        refine WP_icmp_ge (tgt := 145) dX1_readRows_17 (by decide) (fun c1 => ?_) (fun c1 => ?_)
        · replace h := h.1 c1
          refine WP_iload_n (z := x2) dX1_readRows_145 rfl ?_
          refine WP_if_ne (tgt := 154) dX1_readRows_146 (by decide) (fun c2 => ?_) (fun c2 => ?_)
          · replace h := h.2 c2
            refine WP_iload_n (z := x3) dX1_readRows_154 rfl ?_
            refine WP_via (pc1 := 172) (ls1 := [vR (o + 1), vR a, vI x2, vI x3, vI x4, vI x5, vU, vU]) (st1 := [vI (if x3 ≤ 0 then (x4 : Int) else (if x3 = (D (o + 1) 0) then ((-1) : Int) else x4))]) (D1 := D) (fun hJ9 => ?_) ?_
            · refine WP_if_le (tgt := 170) dX1_readRows_155 (by decide) (fun c10 => ?_) (fun c10 => ?_)
              · replace hJ9 := ite_t (P := fun v_ : Int => WP mX1_readRows Q 172 [vR (o + 1), vR a, vI x2, vI x3, vI x4, vI x5, vU, vU] [vI v_] D) hJ9 c10
                refine WP_iload (z := x4) dX1_readRows_170 rfl ?_
                exact hJ9
              · replace hJ9 := ite_f (P := fun v_ : Int => WP mX1_readRows Q 172 [vR (o + 1), vR a, vI x2, vI x3, vI x4, vI x5, vU, vU] [vI v_] D) hJ9 c10
                refine WP_iload_n (z := x3) dX1_readRows_158 rfl ?_
                refine WP_aload_n (z := (o + 1)) dX1_readRows_159 rfl ?_
                refine WP_getI dX1_readRows_160 fl_RX1_9 (kcC_1 ho) rfl rfl ?_
                refine WP_via (pc1 := 172) (ls1 := [vR (o + 1), vR a, vI x2, vI x3, vI x4, vI x5, vU, vU]) (st1 := [vI (if x3 = (D (o + 1) 0) then ((-1) : Int) else x4)]) (D1 := D) (fun hJ11 => ?_) ?_
                · refine WP_icmp_ne (tgt := 170) dX1_readRows_163 (by decide) (fun c12 => ?_) (fun c12 => ?_)
                  · replace hJ11 := ite_f (P := fun v_ : Int => WP mX1_readRows Q 172 [vR (o + 1), vR a, vI x2, vI x3, vI x4, vI x5, vU, vU] [vI v_] D) hJ11 c12
                    refine WP_iload (z := x4) dX1_readRows_170 rfl ?_
                    exact hJ11
                  · replace hJ11 := ite_t (P := fun v_ : Int => WP mX1_readRows Q 172 [vR (o + 1), vR a, vI x2, vI x3, vI x4, vI x5, vU, vU] [vI v_] D) hJ11 c12
                    refine WP_iconst (z := (-1)) dX1_readRows_166 rfl ⟨by decide, by decide⟩ ?_
                    refine WP_goto (tgt := 172) dX1_readRows_167 (by decide) ?_
                    exact hJ11
                exact hJ9
            · exact WP_ireturn dX1_readRows_172 rfl h
          · replace h := h.1 c2
            refine WP_aload_n (z := (o + 1)) dX1_readRows_149 rfl ?_
            refine WP_iload_n (z := x3) dX1_readRows_150 rfl ?_
            refine WP_putI dX1_readRows_151 fp_RX1_9 (kcC_1 ho) rfl ?_
            obtain ⟨E3, hE4⟩ : ∃ E3 : HP, E3 = (hu D (o + 1) 0 x3) := ⟨_, rfl⟩
            replace h := h E3 hE4
            show WP mX1_readRows Q 154 [vR (o + 1), vR a, vI x2, vI x3, vI x4, vI x5, vU, vU] [] (hu D (o + 1) 0 x3)
            rw [← hE4]
            refine WP_iload_n (z := x3) dX1_readRows_154 rfl ?_
            refine WP_via (pc1 := 172) (ls1 := [vR (o + 1), vR a, vI x2, vI x3, vI x4, vI x5, vU, vU]) (st1 := [vI (if x3 ≤ 0 then (x4 : Int) else (if x3 = (E3 (o + 1) 0) then ((-1) : Int) else x4))]) (D1 := E3) (fun hJ5 => ?_) ?_
            · refine WP_if_le (tgt := 170) dX1_readRows_155 (by decide) (fun c6 => ?_) (fun c6 => ?_)
              · replace hJ5 := ite_t (P := fun v_ : Int => WP mX1_readRows Q 172 [vR (o + 1), vR a, vI x2, vI x3, vI x4, vI x5, vU, vU] [vI v_] E3) hJ5 c6
                refine WP_iload (z := x4) dX1_readRows_170 rfl ?_
                exact hJ5
              · replace hJ5 := ite_f (P := fun v_ : Int => WP mX1_readRows Q 172 [vR (o + 1), vR a, vI x2, vI x3, vI x4, vI x5, vU, vU] [vI v_] E3) hJ5 c6
                refine WP_iload_n (z := x3) dX1_readRows_158 rfl ?_
                refine WP_aload_n (z := (o + 1)) dX1_readRows_159 rfl ?_
                refine WP_getI dX1_readRows_160 fl_RX1_9 (kcC_1 ho) rfl rfl ?_
                refine WP_via (pc1 := 172) (ls1 := [vR (o + 1), vR a, vI x2, vI x3, vI x4, vI x5, vU, vU]) (st1 := [vI (if x3 = (E3 (o + 1) 0) then ((-1) : Int) else x4)]) (D1 := E3) (fun hJ7 => ?_) ?_
                · refine WP_icmp_ne (tgt := 170) dX1_readRows_163 (by decide) (fun c8 => ?_) (fun c8 => ?_)
                  · replace hJ7 := ite_f (P := fun v_ : Int => WP mX1_readRows Q 172 [vR (o + 1), vR a, vI x2, vI x3, vI x4, vI x5, vU, vU] [vI v_] E3) hJ7 c8
                    refine WP_iload (z := x4) dX1_readRows_170 rfl ?_
                    exact hJ7
                  · replace hJ7 := ite_t (P := fun v_ : Int => WP mX1_readRows Q 172 [vR (o + 1), vR a, vI x2, vI x3, vI x4, vI x5, vU, vU] [vI v_] E3) hJ7 c8
                    refine WP_iconst (z := (-1)) dX1_readRows_166 rfl ⟨by decide, by decide⟩ ?_
                    refine WP_goto (tgt := 172) dX1_readRows_167 (by decide) ?_
                    exact hJ7
                exact hJ5
            · exact WP_ireturn dX1_readRows_172 rfl h
        · replace h := h.2 c1
          refine WP_aload_n (z := a) dX1_readRows_20 rfl ?_
          refine WP_iload (z := x5) dX1_readRows_21 rfl ?_
          obtain ⟨o88, h⟩ := h
          refine WP_pcallV (g := mX2_at) (as := [vI x5]) (rest := []) (n := 1) (r := vI (fX2_at D a x5)) dX1_readRows_23 wm_151 mo_X2_at (kcT_0 ha) rfl rfl rfl ⟨Nat.le_of_ble_eq_true rfl, Nat.le_of_ble_eq_true rfl⟩ (Nat.le_of_ble_eq_true rfl) (P_X2_at ha o88) ?_
          refine WP_istore (ls1 := [vR (o + 1), vR a, vI x2, vI x3, vI x4, vI x5, vI (fX2_at D a x5), vU]) dX1_readRows_26 (by decide) rfl ?_
          refine WP_iload_n (z := x3) dX1_readRows_28 rfl ?_
          refine WP_via (pc1 := 49) (ls1 := [vR (o + 1), vR a, vI x2, vI x3, vI x4, vI x5, vI (fX2_at D a x5), vU]) (st1 := [vI (if x3 ≤ 0 then (0 : Int) else (if x2 = 0 then (1 : Int) else (if x3 = (D (o + 1) 0) then (1 : Int) else 0)))]) (D1 := D) (fun hJ82 => ?_) ?_
          · refine WP_if_le (tgt := 48) dX1_readRows_29 (by decide) (fun c83 => ?_) (fun c83 => ?_)
            · replace hJ82 := ite_t (P := fun v_ : Int => WP mX1_readRows Q 49 [vR (o + 1), vR a, vI x2, vI x3, vI x4, vI x5, vI (fX2_at D a x5), vU] [vI v_] D) hJ82 c83
              refine WP_iconst (z := 0) dX1_readRows_48 rfl ⟨by decide, by decide⟩ ?_
              exact hJ82
            · replace hJ82 := ite_f (P := fun v_ : Int => WP mX1_readRows Q 49 [vR (o + 1), vR a, vI x2, vI x3, vI x4, vI x5, vI (fX2_at D a x5), vU] [vI v_] D) hJ82 c83
              refine WP_iload_n (z := x2) dX1_readRows_32 rfl ?_
              refine WP_via (pc1 := 49) (ls1 := [vR (o + 1), vR a, vI x2, vI x3, vI x4, vI x5, vI (fX2_at D a x5), vU]) (st1 := [vI (if x2 = 0 then (1 : Int) else (if x3 = (D (o + 1) 0) then (1 : Int) else 0))]) (D1 := D) (fun hJ84 => ?_) ?_
              · refine WP_if_eq (tgt := 44) dX1_readRows_33 (by decide) (fun c85 => ?_) (fun c85 => ?_)
                · replace hJ84 := ite_t (P := fun v_ : Int => WP mX1_readRows Q 49 [vR (o + 1), vR a, vI x2, vI x3, vI x4, vI x5, vI (fX2_at D a x5), vU] [vI v_] D) hJ84 c85
                  refine WP_iconst (z := 1) dX1_readRows_44 rfl ⟨by decide, by decide⟩ ?_
                  refine WP_goto (tgt := 49) dX1_readRows_45 (by decide) ?_
                  exact hJ84
                · replace hJ84 := ite_f (P := fun v_ : Int => WP mX1_readRows Q 49 [vR (o + 1), vR a, vI x2, vI x3, vI x4, vI x5, vI (fX2_at D a x5), vU] [vI v_] D) hJ84 c85
                  refine WP_iload_n (z := x3) dX1_readRows_36 rfl ?_
                  refine WP_aload_n (z := (o + 1)) dX1_readRows_37 rfl ?_
                  refine WP_getI dX1_readRows_38 fl_RX1_9 (kcC_1 ho) rfl rfl ?_
                  refine WP_via (pc1 := 49) (ls1 := [vR (o + 1), vR a, vI x2, vI x3, vI x4, vI x5, vI (fX2_at D a x5), vU]) (st1 := [vI (if x3 = (D (o + 1) 0) then (1 : Int) else 0)]) (D1 := D) (fun hJ86 => ?_) ?_
                  · refine WP_icmp_ne (tgt := 48) dX1_readRows_41 (by decide) (fun c87 => ?_) (fun c87 => ?_)
                    · replace hJ86 := ite_f (P := fun v_ : Int => WP mX1_readRows Q 49 [vR (o + 1), vR a, vI x2, vI x3, vI x4, vI x5, vI (fX2_at D a x5), vU] [vI v_] D) hJ86 c87
                      refine WP_iconst (z := 0) dX1_readRows_48 rfl ⟨by decide, by decide⟩ ?_
                      exact hJ86
                    · replace hJ86 := ite_t (P := fun v_ : Int => WP mX1_readRows Q 49 [vR (o + 1), vR a, vI x2, vI x3, vI x4, vI x5, vI (fX2_at D a x5), vU] [vI v_] D) hJ86 c87
                      refine WP_iconst (z := 1) dX1_readRows_44 rfl ⟨by decide, by decide⟩ ?_
                      refine WP_goto (tgt := 49) dX1_readRows_45 (by decide) ?_
                      exact hJ86
                  exact hJ84
              exact hJ82
          · refine WP_istore (ls1 := [vR (o + 1), vR a, vI x2, vI x3, vI x4, vI x5, vI (fX2_at D a x5), vI (if x3 ≤ 0 then (0 : Int) else (if x2 = 0 then (1 : Int) else (if x3 = (D (o + 1) 0) then (1 : Int) else 0)))]) dX1_readRows_49 (by decide) rfl ?_
            obtain ⟨v13, hv14⟩ : ∃ v13 : Int, v13 = (if x3 ≤ 0 then (0 : Int) else (if x2 = 0 then (1 : Int) else (if x3 = (D (o + 1) 0) then (1 : Int) else 0))) := ⟨_, rfl⟩
            replace h := h v13 hv14
            rw [← hv14]
            refine WP_iload_n (z := x2) dX1_readRows_51 rfl ?_
            refine WP_iconst (z := 5) dX1_readRows_52 rfl ⟨by decide, by decide⟩ ?_
            refine WP_icmp_ne (tgt := 59) dX1_readRows_53 (by decide) (fun c15 => ?_) (fun c15 => ?_)
            · replace h := h.2 c15
              refine WP_iload (z := (fX2_at D a x5)) dX1_readRows_59 rfl ?_
              refine WP_bipush (z := 59) dX1_readRows_61 rfl (by decide) ?_
              refine WP_icmp_ne (tgt := 84) dX1_readRows_63 (by decide) (fun c16 => ?_) (fun c16 => ?_)
              · replace h := h.2 c16
                refine WP_iload (z := (fX2_at D a x5)) dX1_readRows_84 rfl ?_
                refine WP_bipush (z := 46) dX1_readRows_86 rfl (by decide) ?_
                refine WP_icmp_eq (tgt := 98) dX1_readRows_88 (by decide) (fun c52 => ?_) (fun c52 => ?_)
                · replace h := h.1 c52
                  refine WP_iload_n (z := x3) dX1_readRows_98 rfl ?_
                  refine WP_iload_n (z := x2) dX1_readRows_99 rfl ?_
                  refine WP_via (pc1 := 111) (ls1 := [vR (o + 1), vR a, vI x2, vI x3, vI x4, vI x5, vI (fX2_at D a x5), vI v13]) (st1 := [vI (if x2 = 0 then (5 : Int) else (D (o + 1) 0)), vI x3]) (D1 := D) (fun hJ65 => ?_) ?_
                  · refine WP_if_ne (tgt := 107) dX1_readRows_100 (by decide) (fun c66 => ?_) (fun c66 => ?_)
                    · replace hJ65 := ite_f (P := fun v_ : Int => WP mX1_readRows Q 111 [vR (o + 1), vR a, vI x2, vI x3, vI x4, vI x5, vI (fX2_at D a x5), vI v13] [vI v_, vI x3] D) hJ65 c66
                      refine WP_aload_n (z := (o + 1)) dX1_readRows_107 rfl ?_
                      refine WP_getI dX1_readRows_108 fl_RX1_9 (kcC_1 ho) rfl rfl ?_
                      exact hJ65
                    · replace hJ65 := ite_t (P := fun v_ : Int => WP mX1_readRows Q 111 [vR (o + 1), vR a, vI x2, vI x3, vI x4, vI x5, vI (fX2_at D a x5), vI v13] [vI v_, vI x3] D) hJ65 c66
                      refine WP_iconst (z := 5) dX1_readRows_103 rfl ⟨by decide, by decide⟩ ?_
                      refine WP_goto (tgt := 111) dX1_readRows_104 (by decide) ?_
                      exact hJ65
                  · refine WP_icmp_ge (tgt := 136) dX1_readRows_111 (by decide) (fun c53 => ?_) (fun c53 => ?_)
                    · replace h := h.1 c53
                      refine WP_iload (z := x5) dX1_readRows_136 rfl ?_
                      exact WP_ireturn dX1_readRows_138 rfl h
                    · replace h := h.2 c53
                      refine WP_aload_n (z := (o + 1)) dX1_readRows_114 rfl ?_
                      refine WP_iload (z := (fX2_at D a x5)) dX1_readRows_115 rfl ?_
                      refine WP_bipush (z := 35) dX1_readRows_117 rfl (by decide) ?_
                      refine WP_via (pc1 := 127) (ls1 := [vR (o + 1), vR a, vI x2, vI x3, vI x4, vI x5, vI (fX2_at D a x5), vI v13]) (st1 := [vI (if (fX2_at D a x5) = 35 then (1 : Int) else 0), vR (o + 1)]) (D1 := D) (fun hJ63 => ?_) ?_
                      · refine WP_icmp_ne (tgt := 126) dX1_readRows_119 (by decide) (fun c64 => ?_) (fun c64 => ?_)
                        · replace hJ63 := ite_f (P := fun v_ : Int => WP mX1_readRows Q 127 [vR (o + 1), vR a, vI x2, vI x3, vI x4, vI x5, vI (fX2_at D a x5), vI v13] [vI v_, vR (o + 1)] D) hJ63 c64
                          refine WP_iconst (z := 0) dX1_readRows_126 rfl ⟨by decide, by decide⟩ ?_
                          exact hJ63
                        · replace hJ63 := ite_t (P := fun v_ : Int => WP mX1_readRows Q 127 [vR (o + 1), vR a, vI x2, vI x3, vI x4, vI x5, vI (fX2_at D a x5), vI v13] [vI v_, vR (o + 1)] D) hJ63 c64
                          refine WP_iconst (z := 1) dX1_readRows_122 rfl ⟨by decide, by decide⟩ ?_
                          refine WP_goto (tgt := 127) dX1_readRows_123 (by decide) ?_
                          exact hJ63
                      · obtain ⟨Q54, ct56, h⟩ := h
                        refine WP_callV (g := mX1_addCell) (as := [vI (if (fX2_at D a x5) = 35 then (1 : Int) else 0)]) (rest := []) (n := 1) dX1_readRows_127 wm_155 mo_X1_addCell (kcC_1 ho) rfl rfl rfl ⟨Nat.le_of_ble_eq_true rfl, Nat.le_of_ble_eq_true rfl⟩ (Nat.le_of_ble_eq_true rfl) ct56 (fun r_ D57 hq55 hok hD60 => ?_)
                        obtain rfl := hok
                        replace h := h D57 hq55 hD60
                        show WP mX1_readRows Q 130 [vR (o + 1), vR a, vI x2, vI x3, vI x4, vI x5, vI (fX2_at D a x5), vI v13] [] D57
                        obtain ⟨o62, h⟩ := h
                        refine WP_iinc (z := (x3 + 1)) (ls1 := [vR (o + 1), vR a, vI x2, vI (x3 + 1), vI x4, vI x5, vI (fX2_at D a x5), vI v13]) dX1_readRows_130 rfl (w32_id o62) (by decide) rfl ?_
                        refine WP_goto (tgt := 139) dX1_readRows_133 (by decide) ?_
                        obtain ⟨o61, h⟩ := h
                        refine WP_iinc (z := (x5 + 1)) (ls1 := [vR (o + 1), vR a, vI x2, vI (x3 + 1), vI x4, vI (x5 + 1), vI (fX2_at D a x5), vI v13]) dX1_readRows_139 rfl (w32_id o61) (by decide) rfl ?_
                        refine WP_goto (tgt := 13) dX1_readRows_142 (by decide) ?_
                        refine WP_fg 6 (ls1 := [vR (o + 1), vR a, vI x2, vI (x3 + 1), vI x4, vI (x5 + 1), vU, vI v13]) rfl ?_
                        refine WP_fg 7 (ls1 := [vR (o + 1), vR a, vI x2, vI (x3 + 1), vI x4, vI (x5 + 1), vU, vU]) rfl ?_
                        exact ih13_ _ _ _ _ _ h.1 (by have := h.2; omega)
                · replace h := h.2 c52
                  refine WP_iload (z := (fX2_at D a x5)) dX1_readRows_91 rfl ?_
                  refine WP_bipush (z := 35) dX1_readRows_93 rfl (by decide) ?_
                  refine WP_icmp_ne (tgt := 136) dX1_readRows_95 (by decide) (fun c67 => ?_) (fun c67 => ?_)
                  · replace h := h.2 c67
                    refine WP_iload (z := x5) dX1_readRows_136 rfl ?_
                    exact WP_ireturn dX1_readRows_138 rfl h
                  · replace h := h.1 c67
                    refine WP_iload_n (z := x3) dX1_readRows_98 rfl ?_
                    refine WP_iload_n (z := x2) dX1_readRows_99 rfl ?_
                    refine WP_via (pc1 := 111) (ls1 := [vR (o + 1), vR a, vI x2, vI x3, vI x4, vI x5, vI (fX2_at D a x5), vI v13]) (st1 := [vI (if x2 = 0 then (5 : Int) else (D (o + 1) 0)), vI x3]) (D1 := D) (fun hJ80 => ?_) ?_
                    · refine WP_if_ne (tgt := 107) dX1_readRows_100 (by decide) (fun c81 => ?_) (fun c81 => ?_)
                      · replace hJ80 := ite_f (P := fun v_ : Int => WP mX1_readRows Q 111 [vR (o + 1), vR a, vI x2, vI x3, vI x4, vI x5, vI (fX2_at D a x5), vI v13] [vI v_, vI x3] D) hJ80 c81
                        refine WP_aload_n (z := (o + 1)) dX1_readRows_107 rfl ?_
                        refine WP_getI dX1_readRows_108 fl_RX1_9 (kcC_1 ho) rfl rfl ?_
                        exact hJ80
                      · replace hJ80 := ite_t (P := fun v_ : Int => WP mX1_readRows Q 111 [vR (o + 1), vR a, vI x2, vI x3, vI x4, vI x5, vI (fX2_at D a x5), vI v13] [vI v_, vI x3] D) hJ80 c81
                        refine WP_iconst (z := 5) dX1_readRows_103 rfl ⟨by decide, by decide⟩ ?_
                        refine WP_goto (tgt := 111) dX1_readRows_104 (by decide) ?_
                        exact hJ80
                    · refine WP_icmp_ge (tgt := 136) dX1_readRows_111 (by decide) (fun c68 => ?_) (fun c68 => ?_)
                      · replace h := h.1 c68
                        refine WP_iload (z := x5) dX1_readRows_136 rfl ?_
                        exact WP_ireturn dX1_readRows_138 rfl h
                      · replace h := h.2 c68
                        refine WP_aload_n (z := (o + 1)) dX1_readRows_114 rfl ?_
                        refine WP_iload (z := (fX2_at D a x5)) dX1_readRows_115 rfl ?_
                        refine WP_bipush (z := 35) dX1_readRows_117 rfl (by decide) ?_
                        refine WP_via (pc1 := 127) (ls1 := [vR (o + 1), vR a, vI x2, vI x3, vI x4, vI x5, vI (fX2_at D a x5), vI v13]) (st1 := [vI (if (fX2_at D a x5) = 35 then (1 : Int) else 0), vR (o + 1)]) (D1 := D) (fun hJ78 => ?_) ?_
                        · refine WP_icmp_ne (tgt := 126) dX1_readRows_119 (by decide) (fun c79 => ?_) (fun c79 => ?_)
                          · replace hJ78 := ite_f (P := fun v_ : Int => WP mX1_readRows Q 127 [vR (o + 1), vR a, vI x2, vI x3, vI x4, vI x5, vI (fX2_at D a x5), vI v13] [vI v_, vR (o + 1)] D) hJ78 c79
                            refine WP_iconst (z := 0) dX1_readRows_126 rfl ⟨by decide, by decide⟩ ?_
                            exact hJ78
                          · replace hJ78 := ite_t (P := fun v_ : Int => WP mX1_readRows Q 127 [vR (o + 1), vR a, vI x2, vI x3, vI x4, vI x5, vI (fX2_at D a x5), vI v13] [vI v_, vR (o + 1)] D) hJ78 c79
                            refine WP_iconst (z := 1) dX1_readRows_122 rfl ⟨by decide, by decide⟩ ?_
                            refine WP_goto (tgt := 127) dX1_readRows_123 (by decide) ?_
                            exact hJ78
                        · obtain ⟨Q69, ct71, h⟩ := h
                          refine WP_callV (g := mX1_addCell) (as := [vI (if (fX2_at D a x5) = 35 then (1 : Int) else 0)]) (rest := []) (n := 1) dX1_readRows_127 wm_155 mo_X1_addCell (kcC_1 ho) rfl rfl rfl ⟨Nat.le_of_ble_eq_true rfl, Nat.le_of_ble_eq_true rfl⟩ (Nat.le_of_ble_eq_true rfl) ct71 (fun r_ D72 hq70 hok hD75 => ?_)
                          obtain rfl := hok
                          replace h := h D72 hq70 hD75
                          show WP mX1_readRows Q 130 [vR (o + 1), vR a, vI x2, vI x3, vI x4, vI x5, vI (fX2_at D a x5), vI v13] [] D72
                          obtain ⟨o77, h⟩ := h
                          refine WP_iinc (z := (x3 + 1)) (ls1 := [vR (o + 1), vR a, vI x2, vI (x3 + 1), vI x4, vI x5, vI (fX2_at D a x5), vI v13]) dX1_readRows_130 rfl (w32_id o77) (by decide) rfl ?_
                          refine WP_goto (tgt := 139) dX1_readRows_133 (by decide) ?_
                          obtain ⟨o76, h⟩ := h
                          refine WP_iinc (z := (x5 + 1)) (ls1 := [vR (o + 1), vR a, vI x2, vI (x3 + 1), vI x4, vI (x5 + 1), vI (fX2_at D a x5), vI v13]) dX1_readRows_139 rfl (w32_id o76) (by decide) rfl ?_
                          refine WP_goto (tgt := 13) dX1_readRows_142 (by decide) ?_
                          refine WP_fg 6 (ls1 := [vR (o + 1), vR a, vI x2, vI (x3 + 1), vI x4, vI (x5 + 1), vU, vI v13]) rfl ?_
                          refine WP_fg 7 (ls1 := [vR (o + 1), vR a, vI x2, vI (x3 + 1), vI x4, vI (x5 + 1), vU, vU]) rfl ?_
                          exact ih13_ _ _ _ _ _ h.1 (by have := h.2; omega)
              · replace h := h.1 c16
                refine WP_iload (z := v13) dX1_readRows_66 rfl ?_
                refine WP_if_eq (tgt := 84) dX1_readRows_68 (by decide) (fun c17 => ?_) (fun c17 => ?_)
                · replace h := h.1 c17
                  refine WP_iload (z := (fX2_at D a x5)) dX1_readRows_84 rfl ?_
                  refine WP_bipush (z := 46) dX1_readRows_86 rfl (by decide) ?_
                  refine WP_icmp_eq (tgt := 98) dX1_readRows_88 (by decide) (fun c18 => ?_) (fun c18 => ?_)
                  · replace h := h.1 c18
                    refine WP_iload_n (z := x3) dX1_readRows_98 rfl ?_
                    refine WP_iload_n (z := x2) dX1_readRows_99 rfl ?_
                    refine WP_via (pc1 := 111) (ls1 := [vR (o + 1), vR a, vI x2, vI x3, vI x4, vI x5, vI (fX2_at D a x5), vI v13]) (st1 := [vI (if x2 = 0 then (5 : Int) else (D (o + 1) 0)), vI x3]) (D1 := D) (fun hJ31 => ?_) ?_
                    · refine WP_if_ne (tgt := 107) dX1_readRows_100 (by decide) (fun c32 => ?_) (fun c32 => ?_)
                      · replace hJ31 := ite_f (P := fun v_ : Int => WP mX1_readRows Q 111 [vR (o + 1), vR a, vI x2, vI x3, vI x4, vI x5, vI (fX2_at D a x5), vI v13] [vI v_, vI x3] D) hJ31 c32
                        refine WP_aload_n (z := (o + 1)) dX1_readRows_107 rfl ?_
                        refine WP_getI dX1_readRows_108 fl_RX1_9 (kcC_1 ho) rfl rfl ?_
                        exact hJ31
                      · replace hJ31 := ite_t (P := fun v_ : Int => WP mX1_readRows Q 111 [vR (o + 1), vR a, vI x2, vI x3, vI x4, vI x5, vI (fX2_at D a x5), vI v13] [vI v_, vI x3] D) hJ31 c32
                        refine WP_iconst (z := 5) dX1_readRows_103 rfl ⟨by decide, by decide⟩ ?_
                        refine WP_goto (tgt := 111) dX1_readRows_104 (by decide) ?_
                        exact hJ31
                    · refine WP_icmp_ge (tgt := 136) dX1_readRows_111 (by decide) (fun c19 => ?_) (fun c19 => ?_)
                      · replace h := h.1 c19
                        refine WP_iload (z := x5) dX1_readRows_136 rfl ?_
                        exact WP_ireturn dX1_readRows_138 rfl h
                      · replace h := h.2 c19
                        refine WP_aload_n (z := (o + 1)) dX1_readRows_114 rfl ?_
                        refine WP_iload (z := (fX2_at D a x5)) dX1_readRows_115 rfl ?_
                        refine WP_bipush (z := 35) dX1_readRows_117 rfl (by decide) ?_
                        refine WP_via (pc1 := 127) (ls1 := [vR (o + 1), vR a, vI x2, vI x3, vI x4, vI x5, vI (fX2_at D a x5), vI v13]) (st1 := [vI (if (fX2_at D a x5) = 35 then (1 : Int) else 0), vR (o + 1)]) (D1 := D) (fun hJ29 => ?_) ?_
                        · refine WP_icmp_ne (tgt := 126) dX1_readRows_119 (by decide) (fun c30 => ?_) (fun c30 => ?_)
                          · replace hJ29 := ite_f (P := fun v_ : Int => WP mX1_readRows Q 127 [vR (o + 1), vR a, vI x2, vI x3, vI x4, vI x5, vI (fX2_at D a x5), vI v13] [vI v_, vR (o + 1)] D) hJ29 c30
                            refine WP_iconst (z := 0) dX1_readRows_126 rfl ⟨by decide, by decide⟩ ?_
                            exact hJ29
                          · replace hJ29 := ite_t (P := fun v_ : Int => WP mX1_readRows Q 127 [vR (o + 1), vR a, vI x2, vI x3, vI x4, vI x5, vI (fX2_at D a x5), vI v13] [vI v_, vR (o + 1)] D) hJ29 c30
                            refine WP_iconst (z := 1) dX1_readRows_122 rfl ⟨by decide, by decide⟩ ?_
                            refine WP_goto (tgt := 127) dX1_readRows_123 (by decide) ?_
                            exact hJ29
                        · obtain ⟨Q20, ct22, h⟩ := h
                          refine WP_callV (g := mX1_addCell) (as := [vI (if (fX2_at D a x5) = 35 then (1 : Int) else 0)]) (rest := []) (n := 1) dX1_readRows_127 wm_155 mo_X1_addCell (kcC_1 ho) rfl rfl rfl ⟨Nat.le_of_ble_eq_true rfl, Nat.le_of_ble_eq_true rfl⟩ (Nat.le_of_ble_eq_true rfl) ct22 (fun r_ D23 hq21 hok hD26 => ?_)
                          obtain rfl := hok
                          replace h := h D23 hq21 hD26
                          show WP mX1_readRows Q 130 [vR (o + 1), vR a, vI x2, vI x3, vI x4, vI x5, vI (fX2_at D a x5), vI v13] [] D23
                          obtain ⟨o28, h⟩ := h
                          refine WP_iinc (z := (x3 + 1)) (ls1 := [vR (o + 1), vR a, vI x2, vI (x3 + 1), vI x4, vI x5, vI (fX2_at D a x5), vI v13]) dX1_readRows_130 rfl (w32_id o28) (by decide) rfl ?_
                          refine WP_goto (tgt := 139) dX1_readRows_133 (by decide) ?_
                          obtain ⟨o27, h⟩ := h
                          refine WP_iinc (z := (x5 + 1)) (ls1 := [vR (o + 1), vR a, vI x2, vI (x3 + 1), vI x4, vI (x5 + 1), vI (fX2_at D a x5), vI v13]) dX1_readRows_139 rfl (w32_id o27) (by decide) rfl ?_
                          refine WP_goto (tgt := 13) dX1_readRows_142 (by decide) ?_
                          refine WP_fg 6 (ls1 := [vR (o + 1), vR a, vI x2, vI (x3 + 1), vI x4, vI (x5 + 1), vU, vI v13]) rfl ?_
                          refine WP_fg 7 (ls1 := [vR (o + 1), vR a, vI x2, vI (x3 + 1), vI x4, vI (x5 + 1), vU, vU]) rfl ?_
                          exact ih13_ _ _ _ _ _ h.1 (by have := h.2; omega)
                  · replace h := h.2 c18
                    refine WP_iload (z := (fX2_at D a x5)) dX1_readRows_91 rfl ?_
                    refine WP_bipush (z := 35) dX1_readRows_93 rfl (by decide) ?_
                    refine WP_icmp_ne (tgt := 136) dX1_readRows_95 (by decide) (fun c33 => ?_) (fun c33 => ?_)
                    · replace h := h.2 c33
                      refine WP_iload (z := x5) dX1_readRows_136 rfl ?_
                      exact WP_ireturn dX1_readRows_138 rfl h
                    · replace h := h.1 c33
                      refine WP_iload_n (z := x3) dX1_readRows_98 rfl ?_
                      refine WP_iload_n (z := x2) dX1_readRows_99 rfl ?_
                      refine WP_via (pc1 := 111) (ls1 := [vR (o + 1), vR a, vI x2, vI x3, vI x4, vI x5, vI (fX2_at D a x5), vI v13]) (st1 := [vI (if x2 = 0 then (5 : Int) else (D (o + 1) 0)), vI x3]) (D1 := D) (fun hJ46 => ?_) ?_
                      · refine WP_if_ne (tgt := 107) dX1_readRows_100 (by decide) (fun c47 => ?_) (fun c47 => ?_)
                        · replace hJ46 := ite_f (P := fun v_ : Int => WP mX1_readRows Q 111 [vR (o + 1), vR a, vI x2, vI x3, vI x4, vI x5, vI (fX2_at D a x5), vI v13] [vI v_, vI x3] D) hJ46 c47
                          refine WP_aload_n (z := (o + 1)) dX1_readRows_107 rfl ?_
                          refine WP_getI dX1_readRows_108 fl_RX1_9 (kcC_1 ho) rfl rfl ?_
                          exact hJ46
                        · replace hJ46 := ite_t (P := fun v_ : Int => WP mX1_readRows Q 111 [vR (o + 1), vR a, vI x2, vI x3, vI x4, vI x5, vI (fX2_at D a x5), vI v13] [vI v_, vI x3] D) hJ46 c47
                          refine WP_iconst (z := 5) dX1_readRows_103 rfl ⟨by decide, by decide⟩ ?_
                          refine WP_goto (tgt := 111) dX1_readRows_104 (by decide) ?_
                          exact hJ46
                      · refine WP_icmp_ge (tgt := 136) dX1_readRows_111 (by decide) (fun c34 => ?_) (fun c34 => ?_)
                        · replace h := h.1 c34
                          refine WP_iload (z := x5) dX1_readRows_136 rfl ?_
                          exact WP_ireturn dX1_readRows_138 rfl h
                        · replace h := h.2 c34
                          refine WP_aload_n (z := (o + 1)) dX1_readRows_114 rfl ?_
                          refine WP_iload (z := (fX2_at D a x5)) dX1_readRows_115 rfl ?_
                          refine WP_bipush (z := 35) dX1_readRows_117 rfl (by decide) ?_
                          refine WP_via (pc1 := 127) (ls1 := [vR (o + 1), vR a, vI x2, vI x3, vI x4, vI x5, vI (fX2_at D a x5), vI v13]) (st1 := [vI (if (fX2_at D a x5) = 35 then (1 : Int) else 0), vR (o + 1)]) (D1 := D) (fun hJ44 => ?_) ?_
                          · refine WP_icmp_ne (tgt := 126) dX1_readRows_119 (by decide) (fun c45 => ?_) (fun c45 => ?_)
                            · replace hJ44 := ite_f (P := fun v_ : Int => WP mX1_readRows Q 127 [vR (o + 1), vR a, vI x2, vI x3, vI x4, vI x5, vI (fX2_at D a x5), vI v13] [vI v_, vR (o + 1)] D) hJ44 c45
                              refine WP_iconst (z := 0) dX1_readRows_126 rfl ⟨by decide, by decide⟩ ?_
                              exact hJ44
                            · replace hJ44 := ite_t (P := fun v_ : Int => WP mX1_readRows Q 127 [vR (o + 1), vR a, vI x2, vI x3, vI x4, vI x5, vI (fX2_at D a x5), vI v13] [vI v_, vR (o + 1)] D) hJ44 c45
                              refine WP_iconst (z := 1) dX1_readRows_122 rfl ⟨by decide, by decide⟩ ?_
                              refine WP_goto (tgt := 127) dX1_readRows_123 (by decide) ?_
                              exact hJ44
                          · obtain ⟨Q35, ct37, h⟩ := h
                            refine WP_callV (g := mX1_addCell) (as := [vI (if (fX2_at D a x5) = 35 then (1 : Int) else 0)]) (rest := []) (n := 1) dX1_readRows_127 wm_155 mo_X1_addCell (kcC_1 ho) rfl rfl rfl ⟨Nat.le_of_ble_eq_true rfl, Nat.le_of_ble_eq_true rfl⟩ (Nat.le_of_ble_eq_true rfl) ct37 (fun r_ D38 hq36 hok hD41 => ?_)
                            obtain rfl := hok
                            replace h := h D38 hq36 hD41
                            show WP mX1_readRows Q 130 [vR (o + 1), vR a, vI x2, vI x3, vI x4, vI x5, vI (fX2_at D a x5), vI v13] [] D38
                            obtain ⟨o43, h⟩ := h
                            refine WP_iinc (z := (x3 + 1)) (ls1 := [vR (o + 1), vR a, vI x2, vI (x3 + 1), vI x4, vI x5, vI (fX2_at D a x5), vI v13]) dX1_readRows_130 rfl (w32_id o43) (by decide) rfl ?_
                            refine WP_goto (tgt := 139) dX1_readRows_133 (by decide) ?_
                            obtain ⟨o42, h⟩ := h
                            refine WP_iinc (z := (x5 + 1)) (ls1 := [vR (o + 1), vR a, vI x2, vI (x3 + 1), vI x4, vI (x5 + 1), vI (fX2_at D a x5), vI v13]) dX1_readRows_139 rfl (w32_id o42) (by decide) rfl ?_
                            refine WP_goto (tgt := 13) dX1_readRows_142 (by decide) ?_
                            refine WP_fg 6 (ls1 := [vR (o + 1), vR a, vI x2, vI (x3 + 1), vI x4, vI (x5 + 1), vU, vI v13]) rfl ?_
                            refine WP_fg 7 (ls1 := [vR (o + 1), vR a, vI x2, vI (x3 + 1), vI x4, vI (x5 + 1), vU, vU]) rfl ?_
                            exact ih13_ _ _ _ _ _ h.1 (by have := h.2; omega)
                · replace h := h.2 c17
                  refine WP_aload_n (z := (o + 1)) dX1_readRows_71 rfl ?_
                  refine WP_iload_n (z := x3) dX1_readRows_72 rfl ?_
                  refine WP_putI dX1_readRows_73 fp_RX1_9 (kcC_1 ho) rfl ?_
                  obtain ⟨E48, hE49⟩ : ∃ E48 : HP, E48 = (hu D (o + 1) 0 x3) := ⟨_, rfl⟩
                  replace h := h E48 hE49
                  show WP mX1_readRows Q 76 [vR (o + 1), vR a, vI x2, vI x3, vI x4, vI x5, vI (fX2_at D a x5), vI v13] [] (hu D (o + 1) 0 x3)
                  rw [← hE49]
                  obtain ⟨o51, h⟩ := h
                  refine WP_iinc (z := (x2 + 1)) (ls1 := [vR (o + 1), vR a, vI (x2 + 1), vI x3, vI x4, vI x5, vI (fX2_at D a x5), vI v13]) dX1_readRows_76 rfl (w32_id o51) (by decide) rfl ?_
                  refine WP_iconst (z := 0) dX1_readRows_79 rfl ⟨by decide, by decide⟩ ?_
                  refine WP_istore_n (ls1 := [vR (o + 1), vR a, vI (x2 + 1), vI 0, vI x4, vI x5, vI (fX2_at D a x5), vI v13]) dX1_readRows_80 (by decide) rfl ?_
                  refine WP_goto (tgt := 139) dX1_readRows_81 (by decide) ?_
                  obtain ⟨o50, h⟩ := h
                  refine WP_iinc (z := (x5 + 1)) (ls1 := [vR (o + 1), vR a, vI (x2 + 1), vI 0, vI x4, vI (x5 + 1), vI (fX2_at D a x5), vI v13]) dX1_readRows_139 rfl (w32_id o50) (by decide) rfl ?_
                  refine WP_goto (tgt := 13) dX1_readRows_142 (by decide) ?_
                  refine WP_fg 6 (ls1 := [vR (o + 1), vR a, vI (x2 + 1), vI 0, vI x4, vI (x5 + 1), vU, vI v13]) rfl ?_
                  refine WP_fg 7 (ls1 := [vR (o + 1), vR a, vI (x2 + 1), vI 0, vI x4, vI (x5 + 1), vU, vU]) rfl ?_
                  exact ih13_ _ _ _ _ _ h.1 (by have := h.2; omega)
            · replace h := h.1 c15
              refine WP_iload (z := x5) dX1_readRows_56 rfl ?_
              exact WP_ireturn dX1_readRows_58 rfl h
  have cut13_ : ∀ (x2 x3 x4 x5 : Int) (D : HP), I13 x2 x3 x4 x5 D → WP mX1_readRows Q 13 [vR (o + 1), vR a, vI x2, vI x3, vI x4, vI x5, vU, vU] [] D := fun x2 x3 x4 x5 D hI => (IH (u13 x2 x3 x4 x5 D * 1 + 0 + 1)) x2 x3 x4 x5 D hI (by omega)
  refine WP_cD (fun hcD => ?_)
  have h := h0 hcD
  refine WP_iconst (z := 0) dX1_readRows_0 rfl ⟨by decide, by decide⟩ ?_
  refine WP_istore_n (ls1 := [vR (o + 1), vR a, vI 0, vU, vU, vU, vU, vU]) dX1_readRows_1 (by decide) rfl ?_
  refine WP_iconst (z := 0) dX1_readRows_2 rfl ⟨by decide, by decide⟩ ?_
  refine WP_istore_n (ls1 := [vR (o + 1), vR a, vI 0, vI 0, vU, vU, vU, vU]) dX1_readRows_3 (by decide) rfl ?_
  refine WP_aload_n (z := a) dX1_readRows_4 rfl ?_
  refine WP_pcallV (g := mX2_length) (as := []) (rest := []) (n := 0) (r := vI (fX2_length D a)) dX1_readRows_5 wm_143 mo_X2_length (kcT_0 ha) rfl rfl rfl ⟨Nat.le_of_ble_eq_true rfl, Nat.le_of_ble_eq_true rfl⟩ (Nat.le_of_ble_eq_true rfl) (P_X2_length ha trivial) ?_
  refine WP_istore (ls1 := [vR (o + 1), vR a, vI 0, vI 0, vI (fX2_length D a), vU, vU, vU]) dX1_readRows_8 (by decide) rfl ?_
  refine WP_iconst (z := 0) dX1_readRows_10 rfl ⟨by decide, by decide⟩ ?_
  refine WP_istore (ls1 := [vR (o + 1), vR a, vI 0, vI 0, vI (fX2_length D a), vI 0, vU, vU]) dX1_readRows_11 (by decide) rfl ?_
  exact cut13_ _ _ _ _ _ h
def fX1_isCell (D : HP) (o : Nat) (a : Int) : Int := (if a < 0 then (0 : Int) else (if (D (o + 1) 1) ≤ a then (0 : Int) else (if 25 ≤ a then (0 : Int) else 1)))
theorem bfX1_isCell (D : HP) (o : Nat) (a : Int) : fX1_isCell D o a = 0 ∨ fX1_isCell D o a = 1 := by unfold fX1_isCell; exact (bool_ite (Or.inl rfl) (bool_ite (Or.inl rfl) (bool_ite (Or.inl rfl) (Or.inr rfl))))
def oX1_isCell (D : HP) (o : Nat) (a : Int) : Prop := True
set_option maxRecDepth 100000 in
set_option maxHeartbeats 4000000 in
theorem V_X1_isCell {o : Nat} (ho : o = 9 ∨ o = 25) (a : Int) {D : HP} {Q : Option MV → HP → Prop}
    (h0 : cD D → c32 a → (Q (some (vI (if a < 0 then (0 : Int) else (if (D (o + 1) 1) ≤ a then (0 : Int) else (if 25 ≤ a then (0 : Int) else 1))))) D))
    : CT mX1_isCell [vR (o + 1), vI a] D Q := by
  refine CT.of 0 (by decide) (Nat.le_of_ble_eq_true rfl) ?_
  show WP mX1_isCell Q 0 [vR (o + 1), vI a] [] D
  refine WP_cD (fun hcD => ?_)
  refine WP_cl (fun hcl => ?_)
  have h := h0 hcD (cVs_g hcl (i := 1) (v := vI a) rfl)
  refine WP_iload_n (z := a) dX1_isCell_0 rfl ?_
  refine WP_via (pc1 := 23) (ls1 := [vR (o + 1), vI a]) (st1 := [vI (if a < 0 then (0 : Int) else (if (D (o + 1) 1) ≤ a then (0 : Int) else (if 25 ≤ a then (0 : Int) else 1)))]) (D1 := D) (fun hJ1 => ?_) ?_
  · refine WP_if_lt (tgt := 22) dX1_isCell_1 (by decide) (fun c2 => ?_) (fun c2 => ?_)
    · replace hJ1 := ite_t (P := fun v_ : Int => WP mX1_isCell Q 23 [vR (o + 1), vI a] [vI v_] D) hJ1 c2
      refine WP_iconst (z := 0) dX1_isCell_22 rfl ⟨by decide, by decide⟩ ?_
      exact hJ1
    · replace hJ1 := ite_f (P := fun v_ : Int => WP mX1_isCell Q 23 [vR (o + 1), vI a] [vI v_] D) hJ1 c2
      refine WP_iload_n (z := a) dX1_isCell_4 rfl ?_
      refine WP_aload_n (z := (o + 1)) dX1_isCell_5 rfl ?_
      refine WP_getI dX1_isCell_6 fl_RX1_15 (kcC_1 ho) rfl rfl ?_
      refine WP_via (pc1 := 23) (ls1 := [vR (o + 1), vI a]) (st1 := [vI (if (D (o + 1) 1) ≤ a then (0 : Int) else (if 25 ≤ a then (0 : Int) else 1))]) (D1 := D) (fun hJ3 => ?_) ?_
      · refine WP_icmp_ge (tgt := 22) dX1_isCell_9 (by decide) (fun c4 => ?_) (fun c4 => ?_)
        · replace hJ3 := ite_t (P := fun v_ : Int => WP mX1_isCell Q 23 [vR (o + 1), vI a] [vI v_] D) hJ3 c4
          refine WP_iconst (z := 0) dX1_isCell_22 rfl ⟨by decide, by decide⟩ ?_
          exact hJ3
        · replace hJ3 := ite_f (P := fun v_ : Int => WP mX1_isCell Q 23 [vR (o + 1), vI a] [vI v_] D) hJ3 c4
          refine WP_iload_n (z := a) dX1_isCell_12 rfl ?_
          refine WP_bipush (z := 25) dX1_isCell_13 rfl (by decide) ?_
          refine WP_via (pc1 := 23) (ls1 := [vR (o + 1), vI a]) (st1 := [vI (if 25 ≤ a then (0 : Int) else 1)]) (D1 := D) (fun hJ5 => ?_) ?_
          · refine WP_icmp_ge (tgt := 22) dX1_isCell_15 (by decide) (fun c6 => ?_) (fun c6 => ?_)
            · replace hJ5 := ite_t (P := fun v_ : Int => WP mX1_isCell Q 23 [vR (o + 1), vI a] [vI v_] D) hJ5 c6
              refine WP_iconst (z := 0) dX1_isCell_22 rfl ⟨by decide, by decide⟩ ?_
              exact hJ5
            · replace hJ5 := ite_f (P := fun v_ : Int => WP mX1_isCell Q 23 [vR (o + 1), vI a] [vI v_] D) hJ5 c6
              refine WP_iconst (z := 1) dX1_isCell_18 rfl ⟨by decide, by decide⟩ ?_
              refine WP_goto (tgt := 23) dX1_isCell_19 (by decide) ?_
              exact hJ5
          exact hJ3
      exact hJ1
  · exact WP_zreturn dX1_isCell_23 rfl (bool_ite (Or.inl rfl) (bool_ite (Or.inl rfl) (bool_ite (Or.inl rfl) (Or.inr rfl)))) h
set_option maxRecDepth 100000 in
set_option maxHeartbeats 4000000 in
theorem P_X1_isCell {o : Nat} (ho : o = 9 ∨ o = 25) {a : Int} {D : HP} (hob : oX1_isCell D o a) : CT mX1_isCell [vR (o + 1), vI a] D (PF (vI (fX1_isCell D o a)) D) := by
  refine V_X1_isCell ho a (fun hcD hc_0 => ?_)
  obtain ⟨z, hz⟩ : ∃ z, z = fX1_isCell D o a := ⟨_, rfl⟩
  rw [← hz]
  unfold fX1_isCell at hz
  exact ⟨by rw [hz], rfl⟩
def fX1_beside (D : HP) (o : Nat) (a : Int) (b : Int) : Int := (if (fX1_isCell D o a) = 0 then ((-1) : Int) else (if 1 ≤ (D (o + 1) 0) then ((if b = 0 then ((if a < (D (o + 1) 0) then ((-1) : Int) else (a - (D (o + 1) 0))) : Int) else (if b = 1 then ((if (D (o + 1) 0) ≤ ((a % (D (o + 1) 0)) + 1) then ((-1) : Int) else (a + 1)) : Int) else (if b = 2 then ((if (D (o + 1) 1) ≤ (a + (D (o + 1) 0)) then ((-1) : Int) else (a + (D (o + 1) 0))) : Int) else (if b = 3 then ((if (a % (D (o + 1) 0)) ≤ 0 then ((-1) : Int) else (a - 1)) : Int) else (-1))))) : Int) else (-1)))
def oX1_beside (D : HP) (o : Nat) (a : Int) (b : Int) : Prop := (((fX1_isCell D o a) = 0 → True) ∧ (¬ ((fX1_isCell D o a) = 0) → ((1 ≤ (D (o + 1) 0) → ((0 ≤ a ∧ 0 < (D (o + 1) 0)) ∧ ((b = 0 → ((((a < (D (o + 1) 0)) → True) ∧ (¬ (a < (D (o + 1) 0)) → (c32 (a - (D (o + 1) 0))))) ∧ True)) ∧ (b = 1 → ((c32 ((a % (D (o + 1) 0)) + 1)) ∧ (((((D (o + 1) 0) ≤ ((a % (D (o + 1) 0)) + 1)) → True) ∧ (¬ ((D (o + 1) 0) ≤ ((a % (D (o + 1) 0)) + 1)) → (c32 (a + 1)))) ∧ True))) ∧ (b = 2 → ((c32 (a + (D (o + 1) 0))) ∧ (((((D (o + 1) 1) ≤ (a + (D (o + 1) 0))) → True) ∧ (¬ ((D (o + 1) 1) ≤ (a + (D (o + 1) 0))) → (c32 (a + (D (o + 1) 0))))) ∧ True))) ∧ (b = 3 → (((((a % (D (o + 1) 0)) ≤ 0) → True) ∧ (¬ ((a % (D (o + 1) 0)) ≤ 0) → (c32 (a - 1)))) ∧ True))))) ∧ (¬ (1 ≤ (D (o + 1) 0)) → True))))
set_option maxRecDepth 100000 in
set_option maxHeartbeats 4000000 in
theorem V_X1_beside {o : Nat} (ho : o = 9 ∨ o = 25) (a : Int) (b : Int) {D : HP} {Q : Option MV → HP → Prop}
    (h0 : cD D → c32 a → c32 b → (((fX1_isCell D o a) = 0 → (Q (some (vI (-1))) D)) ∧ (¬ ((fX1_isCell D o a) = 0) → ((1 ≤ (D (o + 1) 0) → ((0 ≤ a ∧ 0 < (D (o + 1) 0)) ∧ (((b < 0 ∨ 3 < b) → (Q (some (vI (-1))) D)) ∧ (b = 0 → ((((a < (D (o + 1) 0)) → True) ∧ (¬ (a < (D (o + 1) 0)) → (c32 (a - (D (o + 1) 0))))) ∧ (Q (some (vI (if a < (D (o + 1) 0) then ((-1) : Int) else (a - (D (o + 1) 0))))) D))) ∧ (b = 1 → ((c32 ((a % (D (o + 1) 0)) + 1)) ∧ (((((D (o + 1) 0) ≤ ((a % (D (o + 1) 0)) + 1)) → True) ∧ (¬ ((D (o + 1) 0) ≤ ((a % (D (o + 1) 0)) + 1)) → (c32 (a + 1)))) ∧ (Q (some (vI (if (D (o + 1) 0) ≤ ((a % (D (o + 1) 0)) + 1) then ((-1) : Int) else (a + 1)))) D)))) ∧ (b = 2 → ((c32 (a + (D (o + 1) 0))) ∧ (((((D (o + 1) 1) ≤ (a + (D (o + 1) 0))) → True) ∧ (¬ ((D (o + 1) 1) ≤ (a + (D (o + 1) 0))) → (c32 (a + (D (o + 1) 0))))) ∧ (Q (some (vI (if (D (o + 1) 1) ≤ (a + (D (o + 1) 0)) then ((-1) : Int) else (a + (D (o + 1) 0))))) D)))) ∧ (b = 3 → (((((a % (D (o + 1) 0)) ≤ 0) → True) ∧ (¬ ((a % (D (o + 1) 0)) ≤ 0) → (c32 (a - 1)))) ∧ (Q (some (vI (if (a % (D (o + 1) 0)) ≤ 0 then ((-1) : Int) else (a - 1)))) D)))))) ∧ (¬ (1 ≤ (D (o + 1) 0)) → (Q (some (vI (-1))) D))))))
    : CT mX1_beside [vR (o + 1), vI a, vI b] D Q := by
  refine CT.of 1 (by decide) (Nat.le_of_ble_eq_true rfl) ?_
  show WP mX1_beside Q 0 [vR (o + 1), vI a, vI b, vU] [] D
  refine WP_cD (fun hcD => ?_)
  refine WP_cl (fun hcl => ?_)
  have h := h0 hcD (cVs_g hcl (i := 1) (v := vI a) rfl) (cVs_g hcl (i := 2) (v := vI b) rfl)
  refine WP_aload_n (z := (o + 1)) dX1_beside_0 rfl ?_
  refine WP_iload_n (z := a) dX1_beside_1 rfl ?_
  refine WP_pcallV (g := mX1_isCell) (as := [vI a]) (rest := []) (n := 1) (r := vI (fX1_isCell D o a)) dX1_beside_2 wm_167 mo_X1_isCell (kcC_1 ho) rfl rfl rfl ⟨Nat.le_of_ble_eq_true rfl, Nat.le_of_ble_eq_true rfl⟩ (Nat.le_of_ble_eq_true rfl) (P_X1_isCell ho trivial) ?_
  refine WP_if_eq (tgt := 16) dX1_beside_5 (by decide) (fun c1 => ?_) (fun c1 => ?_)
  · replace h := h.1 c1
    refine WP_iconst (z := (-1)) dX1_beside_16 rfl ⟨by decide, by decide⟩ ?_
    exact WP_ireturn dX1_beside_17 rfl h
  · replace h := h.2 c1
    refine WP_aload_n (z := (o + 1)) dX1_beside_8 rfl ?_
    refine WP_getI dX1_beside_9 fl_RX1_9 (kcC_1 ho) rfl rfl ?_
    refine WP_iconst (z := 1) dX1_beside_12 rfl ⟨by decide, by decide⟩ ?_
    refine WP_icmp_ge (tgt := 18) dX1_beside_13 (by decide) (fun c2 => ?_) (fun c2 => ?_)
    · replace h := h.1 c2
      refine WP_iload_n (z := a) dX1_beside_18 rfl ?_
      refine WP_aload_n (z := (o + 1)) dX1_beside_19 rfl ?_
      refine WP_getI dX1_beside_20 fl_RX1_9 (kcC_1 ho) rfl rfl ?_
      obtain ⟨o26, h⟩ := h
      refine WP_irem dX1_beside_23 o26.1 o26.2 rfl ?_
      refine WP_istore_n (ls1 := [vR (o + 1), vI a, vI b, vI (a % (D (o + 1) 0))]) dX1_beside_24 (by decide) rfl ?_
      refine WP_iload_n (z := b) dX1_beside_25 rfl ?_
      rcases (show (b < 0 ∨ 3 < b) ∨ b = 0 ∨ b = 1 ∨ b = 2 ∨ b = 3 from by omega) with q3 | q3 | q3 | q3 | q3
      · replace h := h.1 q3
        refine WP_tabOut (tgt := 129) dX1_beside_26 q3 (by decide) ?_
        refine WP_iconst (z := (-1)) dX1_beside_129 rfl ⟨by decide, by decide⟩ ?_
        exact WP_ireturn dX1_beside_130 rfl h
      · replace h := h.2.1 q3
        refine WP_tabIn (off := 30) (tgt := 56) dX1_beside_26 (by omega) (by omega) (by rw [q3]; rfl) (by decide) ?_
        refine WP_iload_n (z := a) dX1_beside_56 rfl ?_
        refine WP_aload_n (z := (o + 1)) dX1_beside_57 rfl ?_
        refine WP_getI dX1_beside_58 fl_RX1_9 (kcC_1 ho) rfl rfl ?_
        obtain ⟨o4, h⟩ := h
        refine WP_via (pc1 := 74) (ls1 := [vR (o + 1), vI a, vI b, vI (a % (D (o + 1) 0))]) (st1 := [vI (if a < (D (o + 1) 0) then ((-1) : Int) else (a - (D (o + 1) 0)))]) (D1 := D) (fun hJ5 => ?_) ?_
        · refine WP_icmp_lt (tgt := 73) dX1_beside_61 (by decide) (fun c6 => ?_) (fun c6 => ?_)
          · replace hJ5 := ite_t (P := fun v_ : Int => WP mX1_beside Q 74 [vR (o + 1), vI a, vI b, vI (a % (D (o + 1) 0))] [vI v_] D) hJ5 c6
            have o7 := o4.1 c6
            refine WP_iconst (z := (-1)) dX1_beside_73 rfl ⟨by decide, by decide⟩ ?_
            exact hJ5
          · replace hJ5 := ite_f (P := fun v_ : Int => WP mX1_beside Q 74 [vR (o + 1), vI a, vI b, vI (a % (D (o + 1) 0))] [vI v_] D) hJ5 c6
            have o8 := o4.2 c6
            refine WP_iload_n (z := a) dX1_beside_64 rfl ?_
            refine WP_aload_n (z := (o + 1)) dX1_beside_65 rfl ?_
            refine WP_getI dX1_beside_66 fl_RX1_9 (kcC_1 ho) rfl rfl ?_
            refine WP_isub (z := (a - (D (o + 1) 0))) dX1_beside_69 (w32_id o8) ?_
            refine WP_goto (tgt := 74) dX1_beside_70 (by decide) ?_
            exact hJ5
        · exact WP_ireturn dX1_beside_74 rfl h
      · replace h := h.2.2.1 q3
        refine WP_tabIn (off := 49) (tgt := 75) dX1_beside_26 (by omega) (by omega) (by rw [q3]; rfl) (by decide) ?_
        refine WP_iload_n (z := (a % (D (o + 1) 0))) dX1_beside_75 rfl ?_
        refine WP_iconst (z := 1) dX1_beside_76 rfl ⟨by decide, by decide⟩ ?_
        obtain ⟨o14, h⟩ := h
        refine WP_iadd (z := ((a % (D (o + 1) 0)) + 1)) dX1_beside_77 (w32_id o14) ?_
        refine WP_aload_n (z := (o + 1)) dX1_beside_78 rfl ?_
        refine WP_getI dX1_beside_79 fl_RX1_9 (kcC_1 ho) rfl rfl ?_
        obtain ⟨o9, h⟩ := h
        refine WP_via (pc1 := 92) (ls1 := [vR (o + 1), vI a, vI b, vI (a % (D (o + 1) 0))]) (st1 := [vI (if (D (o + 1) 0) ≤ ((a % (D (o + 1) 0)) + 1) then ((-1) : Int) else (a + 1))]) (D1 := D) (fun hJ10 => ?_) ?_
        · refine WP_icmp_ge (tgt := 91) dX1_beside_82 (by decide) (fun c11 => ?_) (fun c11 => ?_)
          · replace hJ10 := ite_t (P := fun v_ : Int => WP mX1_beside Q 92 [vR (o + 1), vI a, vI b, vI (a % (D (o + 1) 0))] [vI v_] D) hJ10 c11
            have o12 := o9.1 c11
            refine WP_iconst (z := (-1)) dX1_beside_91 rfl ⟨by decide, by decide⟩ ?_
            exact hJ10
          · replace hJ10 := ite_f (P := fun v_ : Int => WP mX1_beside Q 92 [vR (o + 1), vI a, vI b, vI (a % (D (o + 1) 0))] [vI v_] D) hJ10 c11
            have o13 := o9.2 c11
            refine WP_iload_n (z := a) dX1_beside_85 rfl ?_
            refine WP_iconst (z := 1) dX1_beside_86 rfl ⟨by decide, by decide⟩ ?_
            refine WP_iadd (z := (a + 1)) dX1_beside_87 (w32_id o13) ?_
            refine WP_goto (tgt := 92) dX1_beside_88 (by decide) ?_
            exact hJ10
        · exact WP_ireturn dX1_beside_92 rfl h
      · replace h := h.2.2.2.1 q3
        refine WP_tabIn (off := 67) (tgt := 93) dX1_beside_26 (by omega) (by omega) (by rw [q3]; rfl) (by decide) ?_
        refine WP_iload_n (z := a) dX1_beside_93 rfl ?_
        refine WP_aload_n (z := (o + 1)) dX1_beside_94 rfl ?_
        refine WP_getI dX1_beside_95 fl_RX1_9 (kcC_1 ho) rfl rfl ?_
        obtain ⟨o20, h⟩ := h
        refine WP_iadd (z := (a + (D (o + 1) 0))) dX1_beside_98 (w32_id o20) ?_
        refine WP_aload_n (z := (o + 1)) dX1_beside_99 rfl ?_
        refine WP_getI dX1_beside_100 fl_RX1_15 (kcC_1 ho) rfl rfl ?_
        obtain ⟨o15, h⟩ := h
        refine WP_via (pc1 := 116) (ls1 := [vR (o + 1), vI a, vI b, vI (a % (D (o + 1) 0))]) (st1 := [vI (if (D (o + 1) 1) ≤ (a + (D (o + 1) 0)) then ((-1) : Int) else (a + (D (o + 1) 0)))]) (D1 := D) (fun hJ16 => ?_) ?_
        · refine WP_icmp_ge (tgt := 115) dX1_beside_103 (by decide) (fun c17 => ?_) (fun c17 => ?_)
          · replace hJ16 := ite_t (P := fun v_ : Int => WP mX1_beside Q 116 [vR (o + 1), vI a, vI b, vI (a % (D (o + 1) 0))] [vI v_] D) hJ16 c17
            have o18 := o15.1 c17
            refine WP_iconst (z := (-1)) dX1_beside_115 rfl ⟨by decide, by decide⟩ ?_
            exact hJ16
          · replace hJ16 := ite_f (P := fun v_ : Int => WP mX1_beside Q 116 [vR (o + 1), vI a, vI b, vI (a % (D (o + 1) 0))] [vI v_] D) hJ16 c17
            have o19 := o15.2 c17
            refine WP_iload_n (z := a) dX1_beside_106 rfl ?_
            refine WP_aload_n (z := (o + 1)) dX1_beside_107 rfl ?_
            refine WP_getI dX1_beside_108 fl_RX1_9 (kcC_1 ho) rfl rfl ?_
            refine WP_iadd (z := (a + (D (o + 1) 0))) dX1_beside_111 (w32_id o19) ?_
            refine WP_goto (tgt := 116) dX1_beside_112 (by decide) ?_
            exact hJ16
        · exact WP_ireturn dX1_beside_116 rfl h
      · replace h := h.2.2.2.2 q3
        refine WP_tabIn (off := 91) (tgt := 117) dX1_beside_26 (by omega) (by omega) (by rw [q3]; rfl) (by decide) ?_
        refine WP_iload_n (z := (a % (D (o + 1) 0))) dX1_beside_117 rfl ?_
        obtain ⟨o21, h⟩ := h
        refine WP_via (pc1 := 128) (ls1 := [vR (o + 1), vI a, vI b, vI (a % (D (o + 1) 0))]) (st1 := [vI (if (a % (D (o + 1) 0)) ≤ 0 then ((-1) : Int) else (a - 1))]) (D1 := D) (fun hJ22 => ?_) ?_
        · refine WP_if_le (tgt := 127) dX1_beside_118 (by decide) (fun c23 => ?_) (fun c23 => ?_)
          · replace hJ22 := ite_t (P := fun v_ : Int => WP mX1_beside Q 128 [vR (o + 1), vI a, vI b, vI (a % (D (o + 1) 0))] [vI v_] D) hJ22 c23
            have o24 := o21.1 c23
            refine WP_iconst (z := (-1)) dX1_beside_127 rfl ⟨by decide, by decide⟩ ?_
            exact hJ22
          · replace hJ22 := ite_f (P := fun v_ : Int => WP mX1_beside Q 128 [vR (o + 1), vI a, vI b, vI (a % (D (o + 1) 0))] [vI v_] D) hJ22 c23
            have o25 := o21.2 c23
            refine WP_iload_n (z := a) dX1_beside_121 rfl ?_
            refine WP_iconst (z := 1) dX1_beside_122 rfl ⟨by decide, by decide⟩ ?_
            refine WP_isub (z := (a - 1)) dX1_beside_123 (w32_id o25) ?_
            refine WP_goto (tgt := 128) dX1_beside_124 (by decide) ?_
            exact hJ22
        · exact WP_ireturn dX1_beside_128 rfl h
    · replace h := h.2 c2
      refine WP_iconst (z := (-1)) dX1_beside_16 rfl ⟨by decide, by decide⟩ ?_
      exact WP_ireturn dX1_beside_17 rfl h
set_option maxRecDepth 100000 in
set_option maxHeartbeats 4000000 in
theorem P_X1_beside {o : Nat} (ho : o = 9 ∨ o = 25) {a : Int} {b : Int} {D : HP} (hob : oX1_beside D o a b) : CT mX1_beside [vR (o + 1), vI a, vI b] D (PF (vI (fX1_beside D o a b)) D) := by
  refine V_X1_beside ho a b (fun hcD hc_0 hc_1 => ?_)
  obtain ⟨z, hz⟩ : ∃ z, z = fX1_beside D o a b := ⟨_, rfl⟩
  rw [← hz]
  unfold fX1_beside at hz
  unfold oX1_beside at hob
  refine ⟨fun k2 => ?_, fun k2 => ?_⟩
  · replace hob := hob.1 k2
    replace hz := hz.trans (if_pos k2)
    exact ⟨by rw [hz], rfl⟩
  · replace hob := hob.2 k2
    replace hz := hz.trans (if_neg k2)
    refine ⟨fun k1 => ?_, fun k1 => ?_⟩
    · replace hob := hob.1 k1
      replace hz := hz.trans (if_pos k1)
      refine ⟨hob.1, ?_⟩
      replace hob := hob.2
      refine ⟨fun q_ => ?_, fun q_ => ?_, fun q_ => ?_, fun q_ => ?_, fun q_ => ?_⟩
      · replace hz := hz.trans (if_neg (by omega))
        replace hz := hz.trans (if_neg (by omega))
        replace hz := hz.trans (if_neg (by omega))
        replace hz := hz.trans (if_neg (by omega))
        exact ⟨by rw [hz], rfl⟩
      · replace hz := hz.trans (if_pos q_)
        replace hob := hob.1 q_
        refine ⟨hob.1, ?_⟩
        replace hob := hob.2
        exact ⟨by rw [hz], rfl⟩
      · replace hz := hz.trans (if_neg (by omega))
        replace hz := hz.trans (if_pos q_)
        replace hob := hob.2.1 q_
        refine ⟨hob.1, ?_⟩
        replace hob := hob.2
        refine ⟨hob.1, ?_⟩
        replace hob := hob.2
        exact ⟨by rw [hz], rfl⟩
      · replace hz := hz.trans (if_neg (by omega))
        replace hz := hz.trans (if_neg (by omega))
        replace hz := hz.trans (if_pos q_)
        replace hob := hob.2.2.1 q_
        refine ⟨hob.1, ?_⟩
        replace hob := hob.2
        refine ⟨hob.1, ?_⟩
        replace hob := hob.2
        exact ⟨by rw [hz], rfl⟩
      · replace hz := hz.trans (if_neg (by omega))
        replace hz := hz.trans (if_neg (by omega))
        replace hz := hz.trans (if_neg (by omega))
        replace hz := hz.trans (if_pos q_)
        replace hob := hob.2.2.2 q_
        refine ⟨hob.1, ?_⟩
        replace hob := hob.2
        exact ⟨by rw [hz], rfl⟩
    · replace hob := hob.2 k1
      replace hz := hz.trans (if_neg k1)
      exact ⟨by rw [hz], rfl⟩
def fX1_isWall (D : HP) (o : Nat) (a : Int) : Int := (if a < 0 then (0 : Int) else (if (D (o + 1) 1) ≤ a then (0 : Int) else (if 25 ≤ a then (0 : Int) else (if (D (o + 2) a.toNat) = 1 then (1 : Int) else 0))))
theorem bfX1_isWall (D : HP) (o : Nat) (a : Int) : fX1_isWall D o a = 0 ∨ fX1_isWall D o a = 1 := by unfold fX1_isWall; exact (bool_ite (Or.inl rfl) (bool_ite (Or.inl rfl) (bool_ite (Or.inl rfl) (bool_ite (Or.inr rfl) (Or.inl rfl)))))
def oX1_isWall (D : HP) (o : Nat) (a : Int) : Prop := ((((a < 0) → True) ∧ (¬ (a < 0) → ((((D (o + 1) 1) ≤ a) → True) ∧ (¬ ((D (o + 1) 1) ≤ a) → (((25 ≤ a) → True) ∧ (¬ (25 ≤ a) → (0 ≤ a ∧ a < 25))))))) ∧ True)
set_option maxRecDepth 100000 in
set_option maxHeartbeats 4000000 in
theorem V_X1_isWall {o : Nat} (ho : o = 9 ∨ o = 25) (a : Int) {D : HP} {Q : Option MV → HP → Prop}
    (h0 : cD D → c32 a → ((((a < 0) → True) ∧ (¬ (a < 0) → ((((D (o + 1) 1) ≤ a) → True) ∧ (¬ ((D (o + 1) 1) ≤ a) → (((25 ≤ a) → True) ∧ (¬ (25 ≤ a) → (0 ≤ a ∧ a < 25))))))) ∧ (Q (some (vI (if a < 0 then (0 : Int) else (if (D (o + 1) 1) ≤ a then (0 : Int) else (if 25 ≤ a then (0 : Int) else (if (D (o + 2) a.toNat) = 1 then (1 : Int) else 0)))))) D)))
    : CT mX1_isWall [vR (o + 1), vI a] D Q := by
  refine CT.of 0 (by decide) (Nat.le_of_ble_eq_true rfl) ?_
  show WP mX1_isWall Q 0 [vR (o + 1), vI a] [] D
  refine WP_cD (fun hcD => ?_)
  refine WP_cl (fun hcl => ?_)
  have h := h0 hcD (cVs_g hcl (i := 1) (v := vI a) rfl)
  refine WP_iload_n (z := a) dX1_isWall_0 rfl ?_
  obtain ⟨o1, h⟩ := h
  refine WP_via (pc1 := 33) (ls1 := [vR (o + 1), vI a]) (st1 := [vI (if a < 0 then (0 : Int) else (if (D (o + 1) 1) ≤ a then (0 : Int) else (if 25 ≤ a then (0 : Int) else (if (D (o + 2) a.toNat) = 1 then (1 : Int) else 0))))]) (D1 := D) (fun hJ2 => ?_) ?_
  · refine WP_if_lt (tgt := 32) dX1_isWall_1 (by decide) (fun c3 => ?_) (fun c3 => ?_)
    · replace hJ2 := ite_t (P := fun v_ : Int => WP mX1_isWall Q 33 [vR (o + 1), vI a] [vI v_] D) hJ2 c3
      have o4 := o1.1 c3
      refine WP_iconst (z := 0) dX1_isWall_32 rfl ⟨by decide, by decide⟩ ?_
      exact hJ2
    · replace hJ2 := ite_f (P := fun v_ : Int => WP mX1_isWall Q 33 [vR (o + 1), vI a] [vI v_] D) hJ2 c3
      have o5 := o1.2 c3
      refine WP_iload_n (z := a) dX1_isWall_4 rfl ?_
      refine WP_aload_n (z := (o + 1)) dX1_isWall_5 rfl ?_
      refine WP_getI dX1_isWall_6 fl_RX1_15 (kcC_1 ho) rfl rfl ?_
      refine WP_via (pc1 := 33) (ls1 := [vR (o + 1), vI a]) (st1 := [vI (if (D (o + 1) 1) ≤ a then (0 : Int) else (if 25 ≤ a then (0 : Int) else (if (D (o + 2) a.toNat) = 1 then (1 : Int) else 0)))]) (D1 := D) (fun hJ6 => ?_) ?_
      · refine WP_icmp_ge (tgt := 32) dX1_isWall_9 (by decide) (fun c7 => ?_) (fun c7 => ?_)
        · replace hJ6 := ite_t (P := fun v_ : Int => WP mX1_isWall Q 33 [vR (o + 1), vI a] [vI v_] D) hJ6 c7
          have o8 := o5.1 c7
          refine WP_iconst (z := 0) dX1_isWall_32 rfl ⟨by decide, by decide⟩ ?_
          exact hJ6
        · replace hJ6 := ite_f (P := fun v_ : Int => WP mX1_isWall Q 33 [vR (o + 1), vI a] [vI v_] D) hJ6 c7
          have o9 := o5.2 c7
          refine WP_iload_n (z := a) dX1_isWall_12 rfl ?_
          refine WP_bipush (z := 25) dX1_isWall_13 rfl (by decide) ?_
          refine WP_via (pc1 := 33) (ls1 := [vR (o + 1), vI a]) (st1 := [vI (if 25 ≤ a then (0 : Int) else (if (D (o + 2) a.toNat) = 1 then (1 : Int) else 0))]) (D1 := D) (fun hJ10 => ?_) ?_
          · refine WP_icmp_ge (tgt := 32) dX1_isWall_15 (by decide) (fun c11 => ?_) (fun c11 => ?_)
            · replace hJ10 := ite_t (P := fun v_ : Int => WP mX1_isWall Q 33 [vR (o + 1), vI a] [vI v_] D) hJ10 c11
              have o12 := o9.1 c11
              refine WP_iconst (z := 0) dX1_isWall_32 rfl ⟨by decide, by decide⟩ ?_
              exact hJ10
            · replace hJ10 := ite_f (P := fun v_ : Int => WP mX1_isWall Q 33 [vR (o + 1), vI a] [vI v_] D) hJ10 c11
              have o13 := o9.2 c11
              refine WP_aload_n (z := (o + 1)) dX1_isWall_18 rfl ?_
              refine WP_getR (z := (o + 2)) dX1_isWall_19 fl_RX1_24 (kcC_1 ho) rfl (srC_1_4 ho) ?_
              refine WP_iload_n (z := a) dX1_isWall_22 rfl ?_
              refine WP_iald dX1_isWall_23 (kcC_2 ho) o13.1 o13.2 rfl ?_
              refine WP_iconst (z := 1) dX1_isWall_24 rfl ⟨by decide, by decide⟩ ?_
              refine WP_via (pc1 := 33) (ls1 := [vR (o + 1), vI a]) (st1 := [vI (if (D (o + 2) a.toNat) = 1 then (1 : Int) else 0)]) (D1 := D) (fun hJ14 => ?_) ?_
              · refine WP_icmp_ne (tgt := 32) dX1_isWall_25 (by decide) (fun c15 => ?_) (fun c15 => ?_)
                · replace hJ14 := ite_f (P := fun v_ : Int => WP mX1_isWall Q 33 [vR (o + 1), vI a] [vI v_] D) hJ14 c15
                  refine WP_iconst (z := 0) dX1_isWall_32 rfl ⟨by decide, by decide⟩ ?_
                  exact hJ14
                · replace hJ14 := ite_t (P := fun v_ : Int => WP mX1_isWall Q 33 [vR (o + 1), vI a] [vI v_] D) hJ14 c15
                  refine WP_iconst (z := 1) dX1_isWall_28 rfl ⟨by decide, by decide⟩ ?_
                  refine WP_goto (tgt := 33) dX1_isWall_29 (by decide) ?_
                  exact hJ14
              exact hJ10
          exact hJ6
      exact hJ2
  · exact WP_zreturn dX1_isWall_33 rfl (bool_ite (Or.inl rfl) (bool_ite (Or.inl rfl) (bool_ite (Or.inl rfl) (bool_ite (Or.inr rfl) (Or.inl rfl))))) h
set_option maxRecDepth 100000 in
set_option maxHeartbeats 4000000 in
theorem P_X1_isWall {o : Nat} (ho : o = 9 ∨ o = 25) {a : Int} {D : HP} (hob : oX1_isWall D o a) : CT mX1_isWall [vR (o + 1), vI a] D (PF (vI (fX1_isWall D o a)) D) := by
  refine V_X1_isWall ho a (fun hcD hc_0 => ?_)
  obtain ⟨z, hz⟩ : ∃ z, z = fX1_isWall D o a := ⟨_, rfl⟩
  rw [← hz]
  unfold fX1_isWall at hz
  unfold oX1_isWall at hob
  refine ⟨hob.1, ?_⟩
  replace hob := hob.2
  exact ⟨by rw [hz], rfl⟩
def fX1_layOf (D : HP) (o : Nat) (a : Int) (b : Int) : Int := (if (fX1_isWall D o a) = 0 then ((if (fX1_isWall D o (fX1_beside D o a b)) = 0 then ((if (if (fX1_isWall D o (fX1_beside D o a ((b + 1) % 4))) = 0 then (0 : Int) else (if (fX1_isWall D o (fX1_beside D o a ((b + 3) % 4))) = 0 then (0 : Int) else 1)) = 0 then ((if (fX1_isWall D o (fX1_beside D o (fX1_beside D o a b) b)) = 0 then (2 : Int) else 1) : Int) else ((if (fX1_isWall D o (fX1_beside D o (fX1_beside D o a b) b)) = 0 then (2 : Int) else 1) + 4)) : Int) else 0) : Int) else 0)
def oX1_layOf (D : HP) (o : Nat) (a : Int) (b : Int) : Prop := ((oX1_beside D o a b) ∧ ((oX1_isWall D o a) ∧ (((fX1_isWall D o a) = 0 → ((oX1_isWall D o (fX1_beside D o a b)) ∧ (((fX1_isWall D o (fX1_beside D o a b)) = 0 → ((oX1_beside D o (fX1_beside D o a b) b) ∧ ((oX1_isWall D o (fX1_beside D o (fX1_beside D o a b) b)) ∧ ((c32 (b + 1)) ∧ ((0 ≤ (b + 1)) ∧ ((oX1_beside D o a ((b + 1) % 4)) ∧ ((oX1_isWall D o (fX1_beside D o a ((b + 1) % 4))) ∧ (((((fX1_isWall D o (fX1_beside D o a ((b + 1) % 4))) = 0) → True) ∧ (¬ ((fX1_isWall D o (fX1_beside D o a ((b + 1) % 4))) = 0) → (c32 (b + 3)) ∧ (0 ≤ (b + 3)) ∧ (oX1_beside D o a ((b + 3) % 4)) ∧ (oX1_isWall D o (fX1_beside D o a ((b + 3) % 4))))) ∧ (((((if (fX1_isWall D o (fX1_beside D o a ((b + 1) % 4))) = 0 then (0 : Int) else (if (fX1_isWall D o (fX1_beside D o a ((b + 3) % 4))) = 0 then (0 : Int) else 1)) = 0) → True) ∧ (¬ ((if (fX1_isWall D o (fX1_beside D o a ((b + 1) % 4))) = 0 then (0 : Int) else (if (fX1_isWall D o (fX1_beside D o a ((b + 3) % 4))) = 0 then (0 : Int) else 1)) = 0) → (c32 ((if (fX1_isWall D o (fX1_beside D o (fX1_beside D o a b) b)) = 0 then (2 : Int) else 1) + 4)))) ∧ True))))))))) ∧ (¬ ((fX1_isWall D o (fX1_beside D o a b)) = 0) → True)))) ∧ (¬ ((fX1_isWall D o a) = 0) → True))))
set_option maxRecDepth 100000 in
set_option maxHeartbeats 4000000 in
theorem V_X1_layOf {o : Nat} (ho : o = 9 ∨ o = 25) (a : Int) (b : Int) {D : HP} {Q : Option MV → HP → Prop}
    (h0 : cD D → c32 a → c32 b → ((oX1_beside D o a b) ∧ ((oX1_isWall D o a) ∧ (((fX1_isWall D o a) = 0 → ((oX1_isWall D o (fX1_beside D o a b)) ∧ (((fX1_isWall D o (fX1_beside D o a b)) = 0 → ((oX1_beside D o (fX1_beside D o a b) b) ∧ ((oX1_isWall D o (fX1_beside D o (fX1_beside D o a b) b)) ∧ ((c32 (b + 1)) ∧ ((0 ≤ (b + 1)) ∧ ((oX1_beside D o a ((b + 1) % 4)) ∧ ((oX1_isWall D o (fX1_beside D o a ((b + 1) % 4))) ∧ (((((fX1_isWall D o (fX1_beside D o a ((b + 1) % 4))) = 0) → True) ∧ (¬ ((fX1_isWall D o (fX1_beside D o a ((b + 1) % 4))) = 0) → (c32 (b + 3)) ∧ (0 ≤ (b + 3)) ∧ (oX1_beside D o a ((b + 3) % 4)) ∧ (oX1_isWall D o (fX1_beside D o a ((b + 3) % 4))))) ∧ (((((if (fX1_isWall D o (fX1_beside D o a ((b + 1) % 4))) = 0 then (0 : Int) else (if (fX1_isWall D o (fX1_beside D o a ((b + 3) % 4))) = 0 then (0 : Int) else 1)) = 0) → True) ∧ (¬ ((if (fX1_isWall D o (fX1_beside D o a ((b + 1) % 4))) = 0 then (0 : Int) else (if (fX1_isWall D o (fX1_beside D o a ((b + 3) % 4))) = 0 then (0 : Int) else 1)) = 0) → (c32 ((if (fX1_isWall D o (fX1_beside D o (fX1_beside D o a b) b)) = 0 then (2 : Int) else 1) + 4)))) ∧ (Q (some (vI (if (if (fX1_isWall D o (fX1_beside D o a ((b + 1) % 4))) = 0 then (0 : Int) else (if (fX1_isWall D o (fX1_beside D o a ((b + 3) % 4))) = 0 then (0 : Int) else 1)) = 0 then ((if (fX1_isWall D o (fX1_beside D o (fX1_beside D o a b) b)) = 0 then (2 : Int) else 1) : Int) else ((if (fX1_isWall D o (fX1_beside D o (fX1_beside D o a b) b)) = 0 then (2 : Int) else 1) + 4)))) D)))))))))) ∧ (¬ ((fX1_isWall D o (fX1_beside D o a b)) = 0) → (Q (some (vI 0)) D))))) ∧ (¬ ((fX1_isWall D o a) = 0) → (Q (some (vI 0)) D))))))
    : CT mX1_layOf [vR (o + 1), vI a, vI b] D Q := by
  refine CT.of 3 (by decide) (Nat.le_of_ble_eq_true rfl) ?_
  show WP mX1_layOf Q 0 [vR (o + 1), vI a, vI b, vU, vU, vU] [] D
  refine WP_cD (fun hcD => ?_)
  refine WP_cl (fun hcl => ?_)
  have h := h0 hcD (cVs_g hcl (i := 1) (v := vI a) rfl) (cVs_g hcl (i := 2) (v := vI b) rfl)
  refine WP_aload_n (z := (o + 1)) dX1_layOf_0 rfl ?_
  refine WP_iload_n (z := a) dX1_layOf_1 rfl ?_
  refine WP_iload_n (z := b) dX1_layOf_2 rfl ?_
  obtain ⟨o25, h⟩ := h
  refine WP_pcallV (g := mX1_beside) (as := [vI a, vI b]) (rest := []) (n := 2) (r := vI (fX1_beside D o a b)) dX1_layOf_3 wm_163 mo_X1_beside (kcC_1 ho) rfl rfl rfl ⟨Nat.le_of_ble_eq_true rfl, Nat.le_of_ble_eq_true rfl⟩ (Nat.le_of_ble_eq_true rfl) (P_X1_beside ho o25) ?_
  refine WP_istore_n (ls1 := [vR (o + 1), vI a, vI b, vI (fX1_beside D o a b), vU, vU]) dX1_layOf_6 (by decide) rfl ?_
  refine WP_aload_n (z := (o + 1)) dX1_layOf_7 rfl ?_
  refine WP_iload_n (z := a) dX1_layOf_8 rfl ?_
  obtain ⟨o24, h⟩ := h
  refine WP_pcallV (g := mX1_isWall) (as := [vI a]) (rest := []) (n := 1) (r := vI (fX1_isWall D o a)) dX1_layOf_9 wm_175 mo_X1_isWall (kcC_1 ho) rfl rfl rfl ⟨Nat.le_of_ble_eq_true rfl, Nat.le_of_ble_eq_true rfl⟩ (Nat.le_of_ble_eq_true rfl) (P_X1_isWall ho o24) ?_
  refine WP_if_ne (tgt := 23) dX1_layOf_12 (by decide) (fun c1 => ?_) (fun c1 => ?_)
  · replace h := h.2 c1
    refine WP_iconst (z := 0) dX1_layOf_23 rfl ⟨by decide, by decide⟩ ?_
    exact WP_ireturn dX1_layOf_24 rfl h
  · replace h := h.1 c1
    refine WP_aload_n (z := (o + 1)) dX1_layOf_15 rfl ?_
    refine WP_iload_n (z := (fX1_beside D o a b)) dX1_layOf_16 rfl ?_
    obtain ⟨o23, h⟩ := h
    refine WP_pcallV (g := mX1_isWall) (as := [vI (fX1_beside D o a b)]) (rest := []) (n := 1) (r := vI (fX1_isWall D o (fX1_beside D o a b))) dX1_layOf_17 wm_175 mo_X1_isWall (kcC_1 ho) rfl rfl rfl ⟨Nat.le_of_ble_eq_true rfl, Nat.le_of_ble_eq_true rfl⟩ (Nat.le_of_ble_eq_true rfl) (P_X1_isWall ho o23) ?_
    refine WP_if_eq (tgt := 25) dX1_layOf_20 (by decide) (fun c2 => ?_) (fun c2 => ?_)
    · replace h := h.1 c2
      refine WP_aload_n (z := (o + 1)) dX1_layOf_25 rfl ?_
      refine WP_aload_n (z := (o + 1)) dX1_layOf_26 rfl ?_
      refine WP_iload_n (z := (fX1_beside D o a b)) dX1_layOf_27 rfl ?_
      refine WP_iload_n (z := b) dX1_layOf_28 rfl ?_
      obtain ⟨o22, h⟩ := h
      refine WP_pcallV (g := mX1_beside) (as := [vI (fX1_beside D o a b), vI b]) (rest := [vR (o + 1)]) (n := 2) (r := vI (fX1_beside D o (fX1_beside D o a b) b)) dX1_layOf_29 wm_163 mo_X1_beside (kcC_1 ho) rfl rfl rfl ⟨Nat.le_of_ble_eq_true rfl, Nat.le_of_ble_eq_true rfl⟩ (Nat.le_of_ble_eq_true rfl) (P_X1_beside ho o22) ?_
      obtain ⟨o21, h⟩ := h
      refine WP_pcallV (g := mX1_isWall) (as := [vI (fX1_beside D o (fX1_beside D o a b) b)]) (rest := []) (n := 1) (r := vI (fX1_isWall D o (fX1_beside D o (fX1_beside D o a b) b))) dX1_layOf_32 wm_175 mo_X1_isWall (kcC_1 ho) rfl rfl rfl ⟨Nat.le_of_ble_eq_true rfl, Nat.le_of_ble_eq_true rfl⟩ (Nat.le_of_ble_eq_true rfl) (P_X1_isWall ho o21) ?_
      refine WP_via (pc1 := 43) (ls1 := [vR (o + 1), vI a, vI b, vI (fX1_beside D o a b), vU, vU]) (st1 := [vI (if (fX1_isWall D o (fX1_beside D o (fX1_beside D o a b) b)) = 0 then (2 : Int) else 1)]) (D1 := D) (fun hJ19 => ?_) ?_
      · refine WP_if_eq (tgt := 42) dX1_layOf_35 (by decide) (fun c20 => ?_) (fun c20 => ?_)
        · replace hJ19 := ite_t (P := fun v_ : Int => WP mX1_layOf Q 43 [vR (o + 1), vI a, vI b, vI (fX1_beside D o a b), vU, vU] [vI v_] D) hJ19 c20
          refine WP_iconst (z := 2) dX1_layOf_42 rfl ⟨by decide, by decide⟩ ?_
          exact hJ19
        · replace hJ19 := ite_f (P := fun v_ : Int => WP mX1_layOf Q 43 [vR (o + 1), vI a, vI b, vI (fX1_beside D o a b), vU, vU] [vI v_] D) hJ19 c20
          refine WP_iconst (z := 1) dX1_layOf_38 rfl ⟨by decide, by decide⟩ ?_
          refine WP_goto (tgt := 43) dX1_layOf_39 (by decide) ?_
          exact hJ19
      · refine WP_istore (ls1 := [vR (o + 1), vI a, vI b, vI (fX1_beside D o a b), vI (if (fX1_isWall D o (fX1_beside D o (fX1_beside D o a b) b)) = 0 then (2 : Int) else 1), vU]) dX1_layOf_43 (by decide) rfl ?_
        refine WP_aload_n (z := (o + 1)) dX1_layOf_45 rfl ?_
        refine WP_aload_n (z := (o + 1)) dX1_layOf_46 rfl ?_
        refine WP_iload_n (z := a) dX1_layOf_47 rfl ?_
        refine WP_iload_n (z := b) dX1_layOf_48 rfl ?_
        refine WP_iconst (z := 1) dX1_layOf_49 rfl ⟨by decide, by decide⟩ ?_
        obtain ⟨o18, h⟩ := h
        refine WP_iadd (z := (b + 1)) dX1_layOf_50 (w32_id o18) ?_
        refine WP_iconst (z := 4) dX1_layOf_51 rfl ⟨by decide, by decide⟩ ?_
        obtain ⟨o17, h⟩ := h
        refine WP_irem dX1_layOf_52 o17 (by decide) rfl ?_
        obtain ⟨o16, h⟩ := h
        refine WP_pcallV (g := mX1_beside) (as := [vI a, vI ((b + 1) % 4)]) (rest := [vR (o + 1)]) (n := 2) (r := vI (fX1_beside D o a ((b + 1) % 4))) dX1_layOf_53 wm_163 mo_X1_beside (kcC_1 ho) rfl rfl rfl ⟨Nat.le_of_ble_eq_true rfl, Nat.le_of_ble_eq_true rfl⟩ (Nat.le_of_ble_eq_true rfl) (P_X1_beside ho o16) ?_
        obtain ⟨o15, h⟩ := h
        refine WP_pcallV (g := mX1_isWall) (as := [vI (fX1_beside D o a ((b + 1) % 4))]) (rest := []) (n := 1) (r := vI (fX1_isWall D o (fX1_beside D o a ((b + 1) % 4)))) dX1_layOf_56 wm_175 mo_X1_isWall (kcC_1 ho) rfl rfl rfl ⟨Nat.le_of_ble_eq_true rfl, Nat.le_of_ble_eq_true rfl⟩ (Nat.le_of_ble_eq_true rfl) (P_X1_isWall ho o15) ?_
        obtain ⟨o3, h⟩ := h
        refine WP_via (pc1 := 84) (ls1 := [vR (o + 1), vI a, vI b, vI (fX1_beside D o a b), vI (if (fX1_isWall D o (fX1_beside D o (fX1_beside D o a b) b)) = 0 then (2 : Int) else 1), vU]) (st1 := [vI (if (fX1_isWall D o (fX1_beside D o a ((b + 1) % 4))) = 0 then (0 : Int) else (if (fX1_isWall D o (fX1_beside D o a ((b + 3) % 4))) = 0 then (0 : Int) else 1))]) (D1 := D) (fun hJ9 => ?_) ?_
        · refine WP_if_eq (tgt := 83) dX1_layOf_59 (by decide) (fun c10 => ?_) (fun c10 => ?_)
          · replace hJ9 := ite_t (P := fun v_ : Int => WP mX1_layOf Q 84 [vR (o + 1), vI a, vI b, vI (fX1_beside D o a b), vI (if (fX1_isWall D o (fX1_beside D o (fX1_beside D o a b) b)) = 0 then (2 : Int) else 1), vU] [vI v_] D) hJ9 c10
            have o11 := o3.1 c10
            refine WP_iconst (z := 0) dX1_layOf_83 rfl ⟨by decide, by decide⟩ ?_
            exact hJ9
          · replace hJ9 := ite_f (P := fun v_ : Int => WP mX1_layOf Q 84 [vR (o + 1), vI a, vI b, vI (fX1_beside D o a b), vI (if (fX1_isWall D o (fX1_beside D o (fX1_beside D o a b) b)) = 0 then (2 : Int) else 1), vU] [vI v_] D) hJ9 c10
            have o12 := o3.2 c10
            refine WP_aload_n (z := (o + 1)) dX1_layOf_62 rfl ?_
            refine WP_aload_n (z := (o + 1)) dX1_layOf_63 rfl ?_
            refine WP_iload_n (z := a) dX1_layOf_64 rfl ?_
            refine WP_iload_n (z := b) dX1_layOf_65 rfl ?_
            refine WP_iconst (z := 3) dX1_layOf_66 rfl ⟨by decide, by decide⟩ ?_
            refine WP_iadd (z := (b + 3)) dX1_layOf_67 (w32_id o12.1) ?_
            refine WP_iconst (z := 4) dX1_layOf_68 rfl ⟨by decide, by decide⟩ ?_
            refine WP_irem dX1_layOf_69 o12.2.1 (by decide) rfl ?_
            refine WP_pcallV (g := mX1_beside) (as := [vI a, vI ((b + 3) % 4)]) (rest := [vR (o + 1)]) (n := 2) (r := vI (fX1_beside D o a ((b + 3) % 4))) dX1_layOf_70 wm_163 mo_X1_beside (kcC_1 ho) rfl rfl rfl ⟨Nat.le_of_ble_eq_true rfl, Nat.le_of_ble_eq_true rfl⟩ (Nat.le_of_ble_eq_true rfl) (P_X1_beside ho o12.2.2.1) ?_
            refine WP_pcallV (g := mX1_isWall) (as := [vI (fX1_beside D o a ((b + 3) % 4))]) (rest := []) (n := 1) (r := vI (fX1_isWall D o (fX1_beside D o a ((b + 3) % 4)))) dX1_layOf_73 wm_175 mo_X1_isWall (kcC_1 ho) rfl rfl rfl ⟨Nat.le_of_ble_eq_true rfl, Nat.le_of_ble_eq_true rfl⟩ (Nat.le_of_ble_eq_true rfl) (P_X1_isWall ho o12.2.2.2) ?_
            refine WP_via (pc1 := 84) (ls1 := [vR (o + 1), vI a, vI b, vI (fX1_beside D o a b), vI (if (fX1_isWall D o (fX1_beside D o (fX1_beside D o a b) b)) = 0 then (2 : Int) else 1), vU]) (st1 := [vI (if (fX1_isWall D o (fX1_beside D o a ((b + 3) % 4))) = 0 then (0 : Int) else 1)]) (D1 := D) (fun hJ13 => ?_) ?_
            · refine WP_if_eq (tgt := 83) dX1_layOf_76 (by decide) (fun c14 => ?_) (fun c14 => ?_)
              · replace hJ13 := ite_t (P := fun v_ : Int => WP mX1_layOf Q 84 [vR (o + 1), vI a, vI b, vI (fX1_beside D o a b), vI (if (fX1_isWall D o (fX1_beside D o (fX1_beside D o a b) b)) = 0 then (2 : Int) else 1), vU] [vI v_] D) hJ13 c14
                refine WP_iconst (z := 0) dX1_layOf_83 rfl ⟨by decide, by decide⟩ ?_
                exact hJ13
              · replace hJ13 := ite_f (P := fun v_ : Int => WP mX1_layOf Q 84 [vR (o + 1), vI a, vI b, vI (fX1_beside D o a b), vI (if (fX1_isWall D o (fX1_beside D o (fX1_beside D o a b) b)) = 0 then (2 : Int) else 1), vU] [vI v_] D) hJ13 c14
                refine WP_iconst (z := 1) dX1_layOf_79 rfl ⟨by decide, by decide⟩ ?_
                refine WP_goto (tgt := 84) dX1_layOf_80 (by decide) ?_
                exact hJ13
            exact hJ9
        · refine WP_istore (ls1 := [vR (o + 1), vI a, vI b, vI (fX1_beside D o a b), vI (if (fX1_isWall D o (fX1_beside D o (fX1_beside D o a b) b)) = 0 then (2 : Int) else 1), vI (if (fX1_isWall D o (fX1_beside D o a ((b + 1) % 4))) = 0 then (0 : Int) else (if (fX1_isWall D o (fX1_beside D o a ((b + 3) % 4))) = 0 then (0 : Int) else 1))]) dX1_layOf_84 (by decide) rfl ?_
          refine WP_iload (z := (if (fX1_isWall D o (fX1_beside D o a ((b + 1) % 4))) = 0 then (0 : Int) else (if (fX1_isWall D o (fX1_beside D o a ((b + 3) % 4))) = 0 then (0 : Int) else 1))) dX1_layOf_86 rfl ?_
          obtain ⟨o4, h⟩ := h
          refine WP_via (pc1 := 100) (ls1 := [vR (o + 1), vI a, vI b, vI (fX1_beside D o a b), vI (if (fX1_isWall D o (fX1_beside D o (fX1_beside D o a b) b)) = 0 then (2 : Int) else 1), vI (if (fX1_isWall D o (fX1_beside D o a ((b + 1) % 4))) = 0 then (0 : Int) else (if (fX1_isWall D o (fX1_beside D o a ((b + 3) % 4))) = 0 then (0 : Int) else 1))]) (st1 := [vI (if (if (fX1_isWall D o (fX1_beside D o a ((b + 1) % 4))) = 0 then (0 : Int) else (if (fX1_isWall D o (fX1_beside D o a ((b + 3) % 4))) = 0 then (0 : Int) else 1)) = 0 then ((if (fX1_isWall D o (fX1_beside D o (fX1_beside D o a b) b)) = 0 then (2 : Int) else 1) : Int) else ((if (fX1_isWall D o (fX1_beside D o (fX1_beside D o a b) b)) = 0 then (2 : Int) else 1) + 4))]) (D1 := D) (fun hJ5 => ?_) ?_
          · refine WP_if_eq (tgt := 98) dX1_layOf_88 (by decide) (fun c6 => ?_) (fun c6 => ?_)
            · replace hJ5 := ite_t (P := fun v_ : Int => WP mX1_layOf Q 100 [vR (o + 1), vI a, vI b, vI (fX1_beside D o a b), vI (if (fX1_isWall D o (fX1_beside D o (fX1_beside D o a b) b)) = 0 then (2 : Int) else 1), vI (if (fX1_isWall D o (fX1_beside D o a ((b + 1) % 4))) = 0 then (0 : Int) else (if (fX1_isWall D o (fX1_beside D o a ((b + 3) % 4))) = 0 then (0 : Int) else 1))] [vI v_] D) hJ5 c6
              have o7 := o4.1 c6
              refine WP_iload (z := (if (fX1_isWall D o (fX1_beside D o (fX1_beside D o a b) b)) = 0 then (2 : Int) else 1)) dX1_layOf_98 rfl ?_
              exact hJ5
            · replace hJ5 := ite_f (P := fun v_ : Int => WP mX1_layOf Q 100 [vR (o + 1), vI a, vI b, vI (fX1_beside D o a b), vI (if (fX1_isWall D o (fX1_beside D o (fX1_beside D o a b) b)) = 0 then (2 : Int) else 1), vI (if (fX1_isWall D o (fX1_beside D o a ((b + 1) % 4))) = 0 then (0 : Int) else (if (fX1_isWall D o (fX1_beside D o a ((b + 3) % 4))) = 0 then (0 : Int) else 1))] [vI v_] D) hJ5 c6
              have o8 := o4.2 c6
              refine WP_iload (z := (if (fX1_isWall D o (fX1_beside D o (fX1_beside D o a b) b)) = 0 then (2 : Int) else 1)) dX1_layOf_91 rfl ?_
              refine WP_iconst (z := 4) dX1_layOf_93 rfl ⟨by decide, by decide⟩ ?_
              refine WP_iadd (z := ((if (fX1_isWall D o (fX1_beside D o (fX1_beside D o a b) b)) = 0 then (2 : Int) else 1) + 4)) dX1_layOf_94 (w32_id o8) ?_
              refine WP_goto (tgt := 100) dX1_layOf_95 (by decide) ?_
              exact hJ5
          · exact WP_ireturn dX1_layOf_100 rfl h
    · replace h := h.2 c2
      refine WP_iconst (z := 0) dX1_layOf_23 rfl ⟨by decide, by decide⟩ ?_
      exact WP_ireturn dX1_layOf_24 rfl h
set_option maxRecDepth 100000 in
set_option maxHeartbeats 4000000 in
theorem P_X1_layOf {o : Nat} (ho : o = 9 ∨ o = 25) {a : Int} {b : Int} {D : HP} (hob : oX1_layOf D o a b) : CT mX1_layOf [vR (o + 1), vI a, vI b] D (PF (vI (fX1_layOf D o a b)) D) := by
  refine V_X1_layOf ho a b (fun hcD hc_0 hc_1 => ?_)
  obtain ⟨z, hz⟩ : ∃ z, z = fX1_layOf D o a b := ⟨_, rfl⟩
  rw [← hz]
  unfold fX1_layOf at hz
  unfold oX1_layOf at hob
  refine ⟨hob.1, ?_⟩
  replace hob := hob.2
  refine ⟨hob.1, ?_⟩
  replace hob := hob.2
  refine ⟨fun k2 => ?_, fun k2 => ?_⟩
  · replace hob := hob.1 k2
    replace hz := hz.trans (if_pos k2)
    refine ⟨hob.1, ?_⟩
    replace hob := hob.2
    refine ⟨fun k1 => ?_, fun k1 => ?_⟩
    · replace hob := hob.1 k1
      replace hz := hz.trans (if_pos k1)
      refine ⟨hob.1, ?_⟩
      replace hob := hob.2
      refine ⟨hob.1, ?_⟩
      replace hob := hob.2
      refine ⟨hob.1, ?_⟩
      replace hob := hob.2
      refine ⟨hob.1, ?_⟩
      replace hob := hob.2
      refine ⟨hob.1, ?_⟩
      replace hob := hob.2
      refine ⟨hob.1, ?_⟩
      replace hob := hob.2
      refine ⟨hob.1, ?_⟩
      replace hob := hob.2
      refine ⟨hob.1, ?_⟩
      replace hob := hob.2
      exact ⟨by rw [hz], rfl⟩
    · replace hob := hob.2 k1
      replace hz := hz.trans (if_neg k1)
      exact ⟨by rw [hz], rfl⟩
  · replace hob := hob.2 k2
    replace hz := hz.trans (if_neg k2)
    exact ⟨by rw [hz], rfl⟩
set_option maxRecDepth 100000 in
set_option maxHeartbeats 4000000 in
theorem V_X1_survey {o : Nat} (ho : o = 9 ∨ o = 25) {D : HP} {Q : Option MV → HP → Prop} (I2 : Int → HP → Prop) (u2 : Int → HP → Nat) (I9 : Int → Int → HP → Prop) (u9 : Int → Int → HP → Nat)
    (h0 : cD D → (I2 0 D))
    (h2 : ∀ (x1 : Int) (D : HP), I2 x1 D → cD D → c32 x1 → ((4 ≤ x1 → (Q none D)) ∧ (¬ (4 ≤ x1) → (I9 x1 0 D ∧ u9 x1 0 D ≤ u2 x1 D))))
    (h9 : ∀ (x1 x2 : Int) (D : HP), I9 x1 x2 D → cD D → c32 x1 → c32 x2 → (((D (o + 1) 1) ≤ x2 → ((c32 (x1 + 1)) ∧ (I2 (x1 + 1) D ∧ u2 (x1 + 1) D < u9 x1 x2 D))) ∧ (¬ ((D (o + 1) 1) ≤ x2) → ((25 ≤ x2 → ((c32 (x1 + 1)) ∧ (I2 (x1 + 1) D ∧ u2 (x1 + 1) D < u9 x1 x2 D))) ∧ (¬ (25 ≤ x2) → ((c32 (x1 * 25)) ∧ ((c32 ((x1 * 25) + x2)) ∧ ((oX1_beside D o x2 x1) ∧ ((0 ≤ ((x1 * 25) + x2) ∧ ((x1 * 25) + x2) < 100) ∧ (∀ (E6 : HP), E6 = (hu D (o + 3) (((x1 * 25) + x2)).toNat (fX1_beside D o x2 x1)) → ((c32 (x1 * 25)) ∧ ((c32 ((x1 * 25) + x2)) ∧ ((oX1_layOf E6 o x2 x1) ∧ ((0 ≤ ((x1 * 25) + x2) ∧ ((x1 * 25) + x2) < 100) ∧ (∀ (E8 : HP), E8 = (hu E6 (o + 4) (((x1 * 25) + x2)).toNat (fX1_layOf E6 o x2 x1)) → ((c32 (x2 + 1)) ∧ (I9 x1 (x2 + 1) E8 ∧ u9 x1 (x2 + 1) E8 < u9 x1 x2 D)))))))))))))))))
    : CT mX1_survey [vR (o + 1)] D Q := by
  refine CT.of 2 (by decide) (Nat.le_of_ble_eq_true rfl) ?_
  show WP mX1_survey Q 0 [vR (o + 1), vU, vU] [] D
  have IH : ∀ n : Nat, (∀ (x1 : Int) (D : HP), I2 x1 D → u2 x1 D * 2 + 1 < n → WP mX1_survey Q 2 [vR (o + 1), vI x1, vU] [] D) ∧ (∀ (x1 x2 : Int) (D : HP), I9 x1 x2 D → u9 x1 x2 D * 2 + 0 < n → WP mX1_survey Q 9 [vR (o + 1), vI x1, vI x2] [] D) := by
    intro n
    induction n with
    | zero => exact ⟨fun _ _ _ h => absurd h (Nat.not_lt_zero _), fun _ _ _ _ h => absurd h (Nat.not_lt_zero _)⟩
    | succ n ih =>
      have ih2_ := ih.1
      have ih9_ := ih.2
      refine ⟨?_, ?_⟩
      · intro x1 D hI hn
        refine WP_cD (fun hcD => ?_)
        refine WP_cl (fun hcl => ?_)
        have h := h2 x1 D hI hcD (cVs_g hcl (i := 1) (v := vI x1) rfl)
        refine WP_iload_n (z := x1) dX1_survey_2 rfl ?_
        refine WP_iconst (z := 4) dX1_survey_3 rfl ⟨by decide, by decide⟩ ?_
        refine WP_icmp_ge (tgt := 69) dX1_survey_4 (by decide) (fun c1 => ?_) (fun c1 => ?_)
        · replace h := h.1 c1
          exact WP_return dX1_survey_69 rfl h
        · replace h := h.2 c1
          refine WP_iconst (z := 0) dX1_survey_7 rfl ⟨by decide, by decide⟩ ?_
          refine WP_istore_n (ls1 := [vR (o + 1), vI x1, vI 0]) dX1_survey_8 (by decide) rfl ?_
          exact ih9_ _ _ _ h.1 (by have := h.2; omega)
      · intro x1 x2 D hI hn
        refine WP_cD (fun hcD => ?_)
        refine WP_cl (fun hcl => ?_)
        have h := h9 x1 x2 D hI hcD (cVs_g hcl (i := 1) (v := vI x1) rfl) (cVs_g hcl (i := 2) (v := vI x2) rfl)
        refine WP_iload_n (z := x2) dX1_survey_9 rfl ?_
        refine WP_aload_n (z := (o + 1)) dX1_survey_10 rfl ?_
        refine WP_getI dX1_survey_11 fl_RX1_15 (kcC_1 ho) rfl rfl ?_
        refine WP_icmp_ge (tgt := 63) dX1_survey_14 (by decide) (fun c2 => ?_) (fun c2 => ?_)
        · replace h := h.1 c2
          obtain ⟨o3, h⟩ := h
          refine WP_iinc (z := (x1 + 1)) (ls1 := [vR (o + 1), vI (x1 + 1), vI x2]) dX1_survey_63 rfl (w32_id o3) (by decide) rfl ?_
          refine WP_goto (tgt := 2) dX1_survey_66 (by decide) ?_
          refine WP_fg 2 (ls1 := [vR (o + 1), vI (x1 + 1), vU]) rfl ?_
          exact ih2_ _ _ h.1 (by have := h.2; omega)
        · replace h := h.2 c2
          refine WP_iload_n (z := x2) dX1_survey_17 rfl ?_
          refine WP_bipush (z := 25) dX1_survey_18 rfl (by decide) ?_
          refine WP_icmp_ge (tgt := 63) dX1_survey_20 (by decide) (fun c4 => ?_) (fun c4 => ?_)
          · replace h := h.1 c4
            obtain ⟨o5, h⟩ := h
            refine WP_iinc (z := (x1 + 1)) (ls1 := [vR (o + 1), vI (x1 + 1), vI x2]) dX1_survey_63 rfl (w32_id o5) (by decide) rfl ?_
            refine WP_goto (tgt := 2) dX1_survey_66 (by decide) ?_
            refine WP_fg 2 (ls1 := [vR (o + 1), vI (x1 + 1), vU]) rfl ?_
            exact ih2_ _ _ h.1 (by have := h.2; omega)
          · replace h := h.2 c4
            refine WP_aload_n (z := (o + 1)) dX1_survey_23 rfl ?_
            refine WP_getR (z := (o + 3)) dX1_survey_24 fl_RX1_28 (kcC_1 ho) rfl (srC_1_5 ho) ?_
            refine WP_iload_n (z := x1) dX1_survey_27 rfl ?_
            refine WP_bipush (z := 25) dX1_survey_28 rfl (by decide) ?_
            obtain ⟨o18, h⟩ := h
            refine WP_imul (z := (x1 * 25)) dX1_survey_30 (w32_id o18) ?_
            refine WP_iload_n (z := x2) dX1_survey_31 rfl ?_
            obtain ⟨o17, h⟩ := h
            refine WP_iadd (z := ((x1 * 25) + x2)) dX1_survey_32 (w32_id o17) ?_
            refine WP_aload_n (z := (o + 1)) dX1_survey_33 rfl ?_
            refine WP_iload_n (z := x2) dX1_survey_34 rfl ?_
            refine WP_iload_n (z := x1) dX1_survey_35 rfl ?_
            obtain ⟨o16, h⟩ := h
            refine WP_pcallV (g := mX1_beside) (as := [vI x2, vI x1]) (rest := [vI ((x1 * 25) + x2), vR (o + 3)]) (n := 2) (r := vI (fX1_beside D o x2 x1)) dX1_survey_36 wm_163 mo_X1_beside (kcC_1 ho) rfl rfl rfl ⟨Nat.le_of_ble_eq_true rfl, Nat.le_of_ble_eq_true rfl⟩ (Nat.le_of_ble_eq_true rfl) (P_X1_beside ho o16) ?_
            obtain ⟨o15, h⟩ := h
            refine WP_iast dX1_survey_39 (kcC_3 ho) o15.1 o15.2 ?_
            obtain ⟨E6, hE7⟩ : ∃ E6 : HP, E6 = (hu D (o + 3) (((x1 * 25) + x2)).toNat (fX1_beside D o x2 x1)) := ⟨_, rfl⟩
            replace h := h E6 hE7
            show WP mX1_survey Q 40 [vR (o + 1), vI x1, vI x2] [] (hu D (o + 3) (((x1 * 25) + x2)).toNat (fX1_beside D o x2 x1))
            rw [← hE7]
            refine WP_aload_n (z := (o + 1)) dX1_survey_40 rfl ?_
            refine WP_getR (z := (o + 4)) dX1_survey_41 fl_RX1_31 (kcC_1 ho) rfl (srC_1_6 ho) ?_
            refine WP_iload_n (z := x1) dX1_survey_44 rfl ?_
            refine WP_bipush (z := 25) dX1_survey_45 rfl (by decide) ?_
            obtain ⟨o14, h⟩ := h
            refine WP_imul (z := (x1 * 25)) dX1_survey_47 (w32_id o14) ?_
            refine WP_iload_n (z := x2) dX1_survey_48 rfl ?_
            obtain ⟨o13, h⟩ := h
            refine WP_iadd (z := ((x1 * 25) + x2)) dX1_survey_49 (w32_id o13) ?_
            refine WP_aload_n (z := (o + 1)) dX1_survey_50 rfl ?_
            refine WP_iload_n (z := x2) dX1_survey_51 rfl ?_
            refine WP_iload_n (z := x1) dX1_survey_52 rfl ?_
            obtain ⟨o12, h⟩ := h
            refine WP_pcallV (g := mX1_layOf) (as := [vI x2, vI x1]) (rest := [vI ((x1 * 25) + x2), vR (o + 4)]) (n := 2) (r := vI (fX1_layOf E6 o x2 x1)) dX1_survey_53 wm_171 mo_X1_layOf (kcC_1 ho) rfl rfl rfl ⟨Nat.le_of_ble_eq_true rfl, Nat.le_of_ble_eq_true rfl⟩ (Nat.le_of_ble_eq_true rfl) (P_X1_layOf ho o12) ?_
            obtain ⟨o11, h⟩ := h
            refine WP_iast dX1_survey_56 (kcC_4 ho) o11.1 o11.2 ?_
            obtain ⟨E8, hE9⟩ : ∃ E8 : HP, E8 = (hu E6 (o + 4) (((x1 * 25) + x2)).toNat (fX1_layOf E6 o x2 x1)) := ⟨_, rfl⟩
            replace h := h E8 hE9
            show WP mX1_survey Q 57 [vR (o + 1), vI x1, vI x2] [] (hu E6 (o + 4) (((x1 * 25) + x2)).toNat (fX1_layOf E6 o x2 x1))
            rw [← hE9]
            obtain ⟨o10, h⟩ := h
            refine WP_iinc (z := (x2 + 1)) (ls1 := [vR (o + 1), vI x1, vI (x2 + 1)]) dX1_survey_57 rfl (w32_id o10) (by decide) rfl ?_
            refine WP_goto (tgt := 9) dX1_survey_60 (by decide) ?_
            exact ih9_ _ _ _ h.1 (by have := h.2; omega)
  have cut2_ : ∀ (x1 : Int) (D : HP), I2 x1 D → WP mX1_survey Q 2 [vR (o + 1), vI x1, vU] [] D := fun x1 D hI => (IH (u2 x1 D * 2 + 1 + 1)).1 x1 D hI (by omega)
  have cut9_ : ∀ (x1 x2 : Int) (D : HP), I9 x1 x2 D → WP mX1_survey Q 9 [vR (o + 1), vI x1, vI x2] [] D := fun x1 x2 D hI => (IH (u9 x1 x2 D * 2 + 0 + 1)).2 x1 x2 D hI (by omega)
  refine WP_cD (fun hcD => ?_)
  have h := h0 hcD
  refine WP_iconst (z := 0) dX1_survey_0 rfl ⟨by decide, by decide⟩ ?_
  refine WP_istore_n (ls1 := [vR (o + 1), vI 0, vU]) dX1_survey_1 (by decide) rfl ?_
  exact cut2_ _ _ h
set_option maxRecDepth 100000 in
set_option maxHeartbeats 4000000 in
theorem V_X1_readCorner {o : Nat} (ho : o = 9 ∨ o = 25) {a : Nat} (ha : a = 2 ∨ a = 3 ∨ a = 4) {D : HP} {Q : Option MV → HP → Prop}
    (h0 : cD D → (∀ (E1 : HP), E1 = (hu D (o + 1) 0 0) → (∀ (E3 : HP), E3 = (hu E1 (o + 1) 1 0) → (((fX2_length E3 a) = 0 → (∃ Q7 : Option MV → HP → Prop, CT mX1_survey [vR (o + 1)] E3 Q7 ∧ ∀ (D10 : HP), Q7 none D10 → cD D10 → (Q (some (vI (-1))) D10))) ∧ (¬ ((fX2_length E3 a) = 0) → (∃ Q14 : Option MV → HP → Prop, CT mX1_readRows [vR (o + 1), vR a] E3 Q14 ∧ ∀ (r18 : Int) (D17 : HP), Q14 (some (vI r18)) D17 → c32 r18 → cD D17 → ((r18 = (-1) → (∃ Q22 : Option MV → HP → Prop, CT mX1_survey [vR (o + 1)] D17 Q22 ∧ ∀ (D25 : HP), Q22 none D25 → cD D25 → (Q (some (vI r18)) D25))) ∧ (¬ (r18 = (-1)) → (∀ (E29 : HP), E29 = (hu D17 (o + 1) 0 0) → (∀ (E31 : HP), E31 = (hu E29 (o + 1) 1 0) → (∃ Q33 : Option MV → HP → Prop, CT mX1_survey [vR (o + 1)] E31 Q33 ∧ ∀ (D36 : HP), Q33 none D36 → cD D36 → (Q (some (vI r18)) D36))))))))))))
    : CT mX1_readCorner [vR (o + 1), vR a] D Q := by
  refine CT.of 1 (by decide) (Nat.le_of_ble_eq_true rfl) ?_
  show WP mX1_readCorner Q 0 [vR (o + 1), vR a, vU] [] D
  refine WP_cD (fun hcD => ?_)
  have h := h0 hcD
  refine WP_aload_n (z := (o + 1)) dX1_readCorner_0 rfl ?_
  refine WP_iconst (z := 0) dX1_readCorner_1 rfl ⟨by decide, by decide⟩ ?_
  refine WP_putI dX1_readCorner_2 fp_RX1_9 (kcC_1 ho) rfl ?_
  obtain ⟨E1, hE2⟩ : ∃ E1 : HP, E1 = (hu D (o + 1) 0 0) := ⟨_, rfl⟩
  replace h := h E1 hE2
  show WP mX1_readCorner Q 5 [vR (o + 1), vR a, vU] [] (hu D (o + 1) 0 0)
  rw [← hE2]
  refine WP_aload_n (z := (o + 1)) dX1_readCorner_5 rfl ?_
  refine WP_iconst (z := 0) dX1_readCorner_6 rfl ⟨by decide, by decide⟩ ?_
  refine WP_putI dX1_readCorner_7 fp_RX1_15 (kcC_1 ho) rfl ?_
  obtain ⟨E3, hE4⟩ : ∃ E3 : HP, E3 = (hu E1 (o + 1) 1 0) := ⟨_, rfl⟩
  replace h := h E3 hE4
  show WP mX1_readCorner Q 10 [vR (o + 1), vR a, vU] [] (hu E1 (o + 1) 1 0)
  rw [← hE4]
  refine WP_aload_n (z := a) dX1_readCorner_10 rfl ?_
  refine WP_pcallV (g := mX2_length) (as := []) (rest := []) (n := 0) (r := vI (fX2_length E3 a)) dX1_readCorner_11 wm_143 mo_X2_length (kcT_0 ha) rfl rfl rfl ⟨Nat.le_of_ble_eq_true rfl, Nat.le_of_ble_eq_true rfl⟩ (Nat.le_of_ble_eq_true rfl) (P_X2_length ha trivial) ?_
  refine WP_if_ne (tgt := 21) dX1_readCorner_14 (by decide) (fun c5 => ?_) (fun c5 => ?_)
  · replace h := h.2 c5
    refine WP_aload_n (z := (o + 1)) dX1_readCorner_21 rfl ?_
    refine WP_aload_n (z := a) dX1_readCorner_22 rfl ?_
    obtain ⟨Q14, ct16, h⟩ := h
    refine WP_callV (g := mX1_readRows) (as := [vR a]) (rest := []) (n := 1) dX1_readCorner_23 wm_147 mo_X1_readRows (kcC_1 ho) rfl rfl rfl ⟨Nat.le_of_ble_eq_true rfl, Nat.le_of_ble_eq_true rfl⟩ (Nat.le_of_ble_eq_true rfl) ct16 (fun r_ D17 hq15 hok hD20 => ?_)
    obtain ⟨r18, rfl, hr19⟩ := hok
    replace h := h r18 D17 hq15 hr19 hD20
    show WP mX1_readCorner Q 26 [vR (o + 1), vR a, vU] [vI r18] D17
    refine WP_istore_n (ls1 := [vR (o + 1), vR a, vI r18]) dX1_readCorner_26 (by decide) rfl ?_
    refine WP_iload_n (z := r18) dX1_readCorner_27 rfl ?_
    refine WP_iconst (z := (-1)) dX1_readCorner_28 rfl ⟨by decide, by decide⟩ ?_
    refine WP_icmp_eq (tgt := 42) dX1_readCorner_29 (by decide) (fun c21 => ?_) (fun c21 => ?_)
    · replace h := h.1 c21
      refine WP_aload_n (z := (o + 1)) dX1_readCorner_42 rfl ?_
      obtain ⟨Q22, ct24, h⟩ := h
      refine WP_callV (g := mX1_survey) (as := []) (rest := []) (n := 0) dX1_readCorner_43 wm_159 mo_X1_survey (kcC_1 ho) rfl rfl rfl ⟨Nat.le_of_ble_eq_true rfl, Nat.le_of_ble_eq_true rfl⟩ (Nat.le_of_ble_eq_true rfl) ct24 (fun r_ D25 hq23 hok hD28 => ?_)
      obtain rfl := hok
      replace h := h D25 hq23 hD28
      show WP mX1_readCorner Q 46 [vR (o + 1), vR a, vI r18] [] D25
      refine WP_iload_n (z := r18) dX1_readCorner_46 rfl ?_
      exact WP_ireturn dX1_readCorner_47 rfl h
    · replace h := h.2 c21
      refine WP_aload_n (z := (o + 1)) dX1_readCorner_32 rfl ?_
      refine WP_iconst (z := 0) dX1_readCorner_33 rfl ⟨by decide, by decide⟩ ?_
      refine WP_putI dX1_readCorner_34 fp_RX1_9 (kcC_1 ho) rfl ?_
      obtain ⟨E29, hE30⟩ : ∃ E29 : HP, E29 = (hu D17 (o + 1) 0 0) := ⟨_, rfl⟩
      replace h := h E29 hE30
      show WP mX1_readCorner Q 37 [vR (o + 1), vR a, vI r18] [] (hu D17 (o + 1) 0 0)
      rw [← hE30]
      refine WP_aload_n (z := (o + 1)) dX1_readCorner_37 rfl ?_
      refine WP_iconst (z := 0) dX1_readCorner_38 rfl ⟨by decide, by decide⟩ ?_
      refine WP_putI dX1_readCorner_39 fp_RX1_15 (kcC_1 ho) rfl ?_
      obtain ⟨E31, hE32⟩ : ∃ E31 : HP, E31 = (hu E29 (o + 1) 1 0) := ⟨_, rfl⟩
      replace h := h E31 hE32
      show WP mX1_readCorner Q 42 [vR (o + 1), vR a, vI r18] [] (hu E29 (o + 1) 1 0)
      rw [← hE32]
      refine WP_aload_n (z := (o + 1)) dX1_readCorner_42 rfl ?_
      obtain ⟨Q33, ct35, h⟩ := h
      refine WP_callV (g := mX1_survey) (as := []) (rest := []) (n := 0) dX1_readCorner_43 wm_159 mo_X1_survey (kcC_1 ho) rfl rfl rfl ⟨Nat.le_of_ble_eq_true rfl, Nat.le_of_ble_eq_true rfl⟩ (Nat.le_of_ble_eq_true rfl) ct35 (fun r_ D36 hq34 hok hD39 => ?_)
      obtain rfl := hok
      replace h := h D36 hq34 hD39
      show WP mX1_readCorner Q 46 [vR (o + 1), vR a, vI r18] [] D36
      refine WP_iload_n (z := r18) dX1_readCorner_46 rfl ?_
      exact WP_ireturn dX1_readCorner_47 rfl h
  · replace h := h.1 c5
    refine WP_iconst (z := (-1)) dX1_readCorner_17 rfl ⟨by decide, by decide⟩ ?_
    refine WP_goto (tgt := 26) dX1_readCorner_18 (by decide) ?_
    refine WP_istore_n (ls1 := [vR (o + 1), vR a, vI (-1)]) dX1_readCorner_26 (by decide) rfl ?_
    refine WP_iload_n (z := (-1)) dX1_readCorner_27 rfl ?_
    refine WP_iconst (z := (-1)) dX1_readCorner_28 rfl ⟨by decide, by decide⟩ ?_
    refine WP_icmp_eq (tgt := 42) dX1_readCorner_29 (by decide) (fun _ => ?_) (fun c6 => absurd c6 (by decide))
    · refine WP_aload_n (z := (o + 1)) dX1_readCorner_42 rfl ?_
      obtain ⟨Q7, ct9, h⟩ := h
      refine WP_callV (g := mX1_survey) (as := []) (rest := []) (n := 0) dX1_readCorner_43 wm_159 mo_X1_survey (kcC_1 ho) rfl rfl rfl ⟨Nat.le_of_ble_eq_true rfl, Nat.le_of_ble_eq_true rfl⟩ (Nat.le_of_ble_eq_true rfl) ct9 (fun r_ D10 hq8 hok hD13 => ?_)
      obtain rfl := hok
      replace h := h D10 hq8 hD13
      show WP mX1_readCorner Q 46 [vR (o + 1), vR a, vI (-1)] [] D10
      refine WP_iload_n (z := (-1)) dX1_readCorner_46 rfl ?_
      exact WP_ireturn dX1_readCorner_47 rfl h
def fX1_wayOf (D : HP) (a : Int) : Int := (if a = 101 then (1 : Int) else (if a = 110 then (0 : Int) else (if a = 115 then (2 : Int) else (if a = 119 then (3 : Int) else (-1)))))
def oX1_wayOf (D : HP) (a : Int) : Prop := True
set_option maxRecDepth 100000 in
set_option maxHeartbeats 4000000 in
theorem V_X1_wayOf (a : Int) {D : HP} {Q : Option MV → HP → Prop}
    (h0 : cD D → c32 a → (((¬ a = 101 ∧ ¬ a = 110 ∧ ¬ a = 115 ∧ ¬ a = 119) → (Q (some (vI (-1))) D)) ∧ (a = 101 → (Q (some (vI 1)) D)) ∧ (a = 110 → (Q (some (vI 0)) D)) ∧ (a = 115 → (Q (some (vI 2)) D)) ∧ (a = 119 → (Q (some (vI 3)) D))))
    : CT mX1_wayOf [vI a] D Q := by
  refine CT.of 0 (by decide) (Nat.le_of_ble_eq_true rfl) ?_
  show WP mX1_wayOf Q 0 [vI a] [] D
  refine WP_cD (fun hcD => ?_)
  refine WP_cl (fun hcl => ?_)
  have h := h0 hcD (cVs_g hcl (i := 0) (v := vI a) rfl)
  refine WP_iload_n (z := a) dX1_wayOf_0 rfl ?_
  rcases (show (¬ a = 101 ∧ ¬ a = 110 ∧ ¬ a = 115 ∧ ¬ a = 119) ∨ a = 101 ∨ a = 110 ∨ a = 115 ∨ a = 119 from by omega) with q1 | q1 | q1 | q1 | q1
  · replace h := h.1 q1
    refine WP_look (off := 51) (tgt := 52) dX1_wayOf_1 (by decide) (lookO_4 q1) (by decide) ?_
    refine WP_iconst (z := (-1)) dX1_wayOf_52 rfl ⟨by decide, by decide⟩ ?_
    exact WP_ireturn dX1_wayOf_53 rfl h
  · replace h := h.2.1 q1
    refine WP_look (off := 45) (tgt := 46) dX1_wayOf_1 (by decide) (by rw [q1]; rfl) (by decide) ?_
    refine WP_iconst (z := 1) dX1_wayOf_46 rfl ⟨by decide, by decide⟩ ?_
    exact WP_ireturn dX1_wayOf_47 rfl h
  · replace h := h.2.2.1 q1
    refine WP_look (off := 43) (tgt := 44) dX1_wayOf_1 (by decide) (by rw [q1]; rfl) (by decide) ?_
    refine WP_iconst (z := 0) dX1_wayOf_44 rfl ⟨by decide, by decide⟩ ?_
    exact WP_ireturn dX1_wayOf_45 rfl h
  · replace h := h.2.2.2.1 q1
    refine WP_look (off := 47) (tgt := 48) dX1_wayOf_1 (by decide) (by rw [q1]; rfl) (by decide) ?_
    refine WP_iconst (z := 2) dX1_wayOf_48 rfl ⟨by decide, by decide⟩ ?_
    exact WP_ireturn dX1_wayOf_49 rfl h
  · replace h := h.2.2.2.2 q1
    refine WP_look (off := 49) (tgt := 50) dX1_wayOf_1 (by decide) (by rw [q1]; rfl) (by decide) ?_
    refine WP_iconst (z := 3) dX1_wayOf_50 rfl ⟨by decide, by decide⟩ ?_
    exact WP_ireturn dX1_wayOf_51 rfl h
set_option maxRecDepth 100000 in
set_option maxHeartbeats 4000000 in
theorem P_X1_wayOf {a : Int} {D : HP} (hob : oX1_wayOf D a) : CT mX1_wayOf [vI a] D (PF (vI (fX1_wayOf D a)) D) := by
  refine V_X1_wayOf a (fun hcD hc_0 => ?_)
  obtain ⟨z, hz⟩ : ∃ z, z = fX1_wayOf D a := ⟨_, rfl⟩
  rw [← hz]
  unfold fX1_wayOf at hz
  refine ⟨fun q_ => ?_, fun q_ => ?_, fun q_ => ?_, fun q_ => ?_, fun q_ => ?_⟩
  · replace hz := hz.trans (if_neg (by omega))
    replace hz := hz.trans (if_neg (by omega))
    replace hz := hz.trans (if_neg (by omega))
    replace hz := hz.trans (if_neg (by omega))
    exact ⟨by rw [hz], rfl⟩
  · replace hz := hz.trans (if_pos q_)
    exact ⟨by rw [hz], rfl⟩
  · replace hz := hz.trans (if_neg (by omega))
    replace hz := hz.trans (if_pos q_)
    exact ⟨by rw [hz], rfl⟩
  · replace hz := hz.trans (if_neg (by omega))
    replace hz := hz.trans (if_neg (by omega))
    replace hz := hz.trans (if_pos q_)
    exact ⟨by rw [hz], rfl⟩
  · replace hz := hz.trans (if_neg (by omega))
    replace hz := hz.trans (if_neg (by omega))
    replace hz := hz.trans (if_neg (by omega))
    replace hz := hz.trans (if_pos q_)
    exact ⟨by rw [hz], rfl⟩
def fX1_figureOf (D : HP) (a : Int) (b : Int) (c : Int) : Int := (if (a - 48) < b then ((-1) : Int) else (if c < (a - 48) then ((-1) : Int) else (a - 48)))
def oX1_figureOf (D : HP) (a : Int) (b : Int) (c : Int) : Prop := ((c32 (a - 48)) ∧ True)
set_option maxRecDepth 100000 in
set_option maxHeartbeats 4000000 in
theorem V_X1_figureOf (a : Int) (b : Int) (c : Int) {D : HP} {Q : Option MV → HP → Prop}
    (h0 : cD D → c32 a → c32 b → c32 c → ((c32 (a - 48)) ∧ (Q (some (vI (if (a - 48) < b then ((-1) : Int) else (if c < (a - 48) then ((-1) : Int) else (a - 48))))) D)))
    : CT mX1_figureOf [vI a, vI b, vI c] D Q := by
  refine CT.of 1 (by decide) (Nat.le_of_ble_eq_true rfl) ?_
  show WP mX1_figureOf Q 0 [vI a, vI b, vI c, vU] [] D
  refine WP_cD (fun hcD => ?_)
  refine WP_cl (fun hcl => ?_)
  have h := h0 hcD (cVs_g hcl (i := 0) (v := vI a) rfl) (cVs_g hcl (i := 1) (v := vI b) rfl) (cVs_g hcl (i := 2) (v := vI c) rfl)
  refine WP_iload_n (z := a) dX1_figureOf_0 rfl ?_
  refine WP_bipush (z := 48) dX1_figureOf_1 rfl (by decide) ?_
  obtain ⟨o5, h⟩ := h
  refine WP_isub (z := (a - 48)) dX1_figureOf_3 (w32_id o5) ?_
  refine WP_istore_n (ls1 := [vI a, vI b, vI c, vI (a - 48)]) dX1_figureOf_4 (by decide) rfl ?_
  refine WP_iload_n (z := (a - 48)) dX1_figureOf_5 rfl ?_
  refine WP_iload_n (z := b) dX1_figureOf_6 rfl ?_
  refine WP_via (pc1 := 20) (ls1 := [vI a, vI b, vI c, vI (a - 48)]) (st1 := [vI (if (a - 48) < b then ((-1) : Int) else (if c < (a - 48) then ((-1) : Int) else (a - 48)))]) (D1 := D) (fun hJ1 => ?_) ?_
  · refine WP_icmp_lt (tgt := 19) dX1_figureOf_7 (by decide) (fun c2 => ?_) (fun c2 => ?_)
    · replace hJ1 := ite_t (P := fun v_ : Int => WP mX1_figureOf Q 20 [vI a, vI b, vI c, vI (a - 48)] [vI v_] D) hJ1 c2
      refine WP_iconst (z := (-1)) dX1_figureOf_19 rfl ⟨by decide, by decide⟩ ?_
      exact hJ1
    · replace hJ1 := ite_f (P := fun v_ : Int => WP mX1_figureOf Q 20 [vI a, vI b, vI c, vI (a - 48)] [vI v_] D) hJ1 c2
      refine WP_iload_n (z := (a - 48)) dX1_figureOf_10 rfl ?_
      refine WP_iload_n (z := c) dX1_figureOf_11 rfl ?_
      refine WP_via (pc1 := 20) (ls1 := [vI a, vI b, vI c, vI (a - 48)]) (st1 := [vI (if c < (a - 48) then ((-1) : Int) else (a - 48))]) (D1 := D) (fun hJ3 => ?_) ?_
      · refine WP_icmp_gt (tgt := 19) dX1_figureOf_12 (by decide) (fun c4 => ?_) (fun c4 => ?_)
        · replace hJ3 := ite_t (P := fun v_ : Int => WP mX1_figureOf Q 20 [vI a, vI b, vI c, vI (a - 48)] [vI v_] D) hJ3 c4
          refine WP_iconst (z := (-1)) dX1_figureOf_19 rfl ⟨by decide, by decide⟩ ?_
          exact hJ3
        · replace hJ3 := ite_f (P := fun v_ : Int => WP mX1_figureOf Q 20 [vI a, vI b, vI c, vI (a - 48)] [vI v_] D) hJ3 c4
          refine WP_iload_n (z := (a - 48)) dX1_figureOf_15 rfl ?_
          refine WP_goto (tgt := 20) dX1_figureOf_16 (by decide) ?_
          exact hJ3
      exact hJ1
  · exact WP_ireturn dX1_figureOf_20 rfl h
set_option maxRecDepth 100000 in
set_option maxHeartbeats 4000000 in
theorem P_X1_figureOf {a : Int} {b : Int} {c : Int} {D : HP} (hob : oX1_figureOf D a b c) : CT mX1_figureOf [vI a, vI b, vI c] D (PF (vI (fX1_figureOf D a b c)) D) := by
  refine V_X1_figureOf a b c (fun hcD hc_0 hc_1 hc_2 => ?_)
  obtain ⟨z, hz⟩ : ∃ z, z = fX1_figureOf D a b c := ⟨_, rfl⟩
  rw [← hz]
  unfold fX1_figureOf at hz
  unfold oX1_figureOf at hob
  refine ⟨hob.1, ?_⟩
  replace hob := hob.2
  exact ⟨by rw [hz], rfl⟩
set_option maxRecDepth 100000 in
set_option maxHeartbeats 4000000 in
theorem V_X1_readGusts {o : Nat} (ho : o = 9 ∨ o = 25) {a : Nat} (ha : a = 2 ∨ a = 3 ∨ a = 4) {D : HP} {Q : Option MV → HP → Prop} (I12 : Int → Int → HP → Prop) (u12 : Int → Int → HP → Nat)
    (h0 : cD D → (∀ (E1 : HP), E1 = (hu D (o + 1) 2 0) → (I12 (fX2_length E1 a) 0 E1)))
    (h12 : ∀ (x2 x3 : Int) (D : HP), I12 x2 x3 D → cD D → c32 x2 → c32 x3 → ((x2 ≤ x3 → ((0 ≤ x2) ∧ (((x2 % 2) = 0 → ((0 ≤ x2) ∧ (∀ (E5 : HP), E5 = (hu D (o + 1) 2 (if 12 < (x2 / 2) then (12 : Int) else (x2 / 2))) → (Q (some (vI (-1))) E5)))) ∧ (¬ ((x2 % 2) = 0) → (Q (some (vI x2)) D))))) ∧ (¬ (x2 ≤ x3) → ((0 ≤ x3) ∧ ((oX2_at D a x3) ∧ ((0 ≤ x3) ∧ (((((x3 % 2) = 0) → True) ∧ (¬ ((x3 % 2) = 0) → (oX1_figureOf D (fX2_at D a x3) 0 9))) ∧ (∀ (v10 : Int), v10 = (if (x3 % 2) = 0 then ((fX1_wayOf D (fX2_at D a x3)) : Int) else (fX1_figureOf D (fX2_at D a x3) 0 9)) → ((v10 = (-1) → (Q (some (vI x3)) D)) ∧ (¬ (v10 = (-1)) → (((x3 / 2) < 12 → ((0 ≤ x3) ∧ (((x3 % 2) = 0 → ((0 ≤ (x3 / 2) ∧ (x3 / 2) < 12) ∧ (∀ (E15 : HP), E15 = (hu D (o + 5) ((x3 / 2)).toNat v10) → ((c32 (x3 + 1)) ∧ (I12 x2 (x3 + 1) E15 ∧ u12 x2 (x3 + 1) E15 < u12 x2 x3 D))))) ∧ (¬ ((x3 % 2) = 0) → ((0 ≤ (x3 / 2) ∧ (x3 / 2) < 12) ∧ (∀ (E19 : HP), E19 = (hu D (o + 6) ((x3 / 2)).toNat v10) → ((c32 (x3 + 1)) ∧ (I12 x2 (x3 + 1) E19 ∧ u12 x2 (x3 + 1) E19 < u12 x2 x3 D)))))))) ∧ (¬ ((x3 / 2) < 12) → (Q (some (vI x3)) D)))))))))))))
    : CT mX1_readGusts [vR (o + 1), vR a] D Q := by
  refine CT.of 5 (by decide) (Nat.le_of_ble_eq_true rfl) ?_
  show WP mX1_readGusts Q 0 [vR (o + 1), vR a, vU, vU, vU, vU, vU] [] D
  have IH : ∀ n : Nat, (∀ (x2 x3 : Int) (D : HP), I12 x2 x3 D → u12 x2 x3 D * 1 + 0 < n → WP mX1_readGusts Q 12 [vR (o + 1), vR a, vI x2, vI x3, vU, vU, vU] [] D) := by
    intro n
    induction n with
    | zero => exact fun _ _ _ _ h => absurd h (Nat.not_lt_zero _)
    | succ n ih =>
      have ih12_ := ih
      · intro x2 x3 D hI hn
        refine WP_cD (fun hcD => ?_)
        refine WP_cl (fun hcl => ?_)
        have h := h12 x2 x3 D hI hcD (cVs_g hcl (i := 2) (v := vI x2) rfl) (cVs_g hcl (i := 3) (v := vI x3) rfl)
        refine WP_iload_n (z := x3) dX1_readGusts_12 rfl ?_
        refine WP_iload_n (z := x2) dX1_readGusts_13 rfl ?_
        refine WP_icmp_ge (tgt := 101) dX1_readGusts_14 (by decide) (fun c3 => ?_) (fun c3 => ?_)
        · replace h := h.1 c3
          refine WP_iload_n (z := x2) dX1_readGusts_101 rfl ?_
          refine WP_iconst (z := 2) dX1_readGusts_102 rfl ⟨by decide, by decide⟩ ?_
          obtain ⟨o8, h⟩ := h
          refine WP_irem dX1_readGusts_103 o8 (by decide) rfl ?_
          refine WP_if_eq (tgt := 109) dX1_readGusts_104 (by decide) (fun c4 => ?_) (fun c4 => ?_)
          · replace h := h.1 c4
            refine WP_aload_n (z := (o + 1)) dX1_readGusts_109 rfl ?_
            refine WP_iload_n (z := x2) dX1_readGusts_110 rfl ?_
            refine WP_iconst (z := 2) dX1_readGusts_111 rfl ⟨by decide, by decide⟩ ?_
            obtain ⟨o7, h⟩ := h
            refine WP_idiv dX1_readGusts_112 o7 (by decide) rfl ?_
            refine WP_bipush (z := 12) dX1_readGusts_113 rfl (by decide) ?_
            refine WP_min dX1_readGusts_115 wm_183 w_min ⟨Nat.le_of_ble_eq_true rfl, Nat.le_of_ble_eq_true rfl⟩ (Nat.le_of_ble_eq_true rfl) rfl ?_
            refine WP_putI dX1_readGusts_118 fp_RX1_18 (kcC_1 ho) rfl ?_
            obtain ⟨E5, hE6⟩ : ∃ E5 : HP, E5 = (hu D (o + 1) 2 (if 12 < (x2 / 2) then (12 : Int) else (x2 / 2))) := ⟨_, rfl⟩
            replace h := h E5 hE6
            show WP mX1_readGusts Q 121 [vR (o + 1), vR a, vI x2, vI x3, vU, vU, vU] [] (hu D (o + 1) 2 (if 12 < (x2 / 2) then (12 : Int) else (x2 / 2)))
            rw [← hE6]
            refine WP_iconst (z := (-1)) dX1_readGusts_121 rfl ⟨by decide, by decide⟩ ?_
            exact WP_ireturn dX1_readGusts_122 rfl h
          · replace h := h.2 c4
            refine WP_iload_n (z := x2) dX1_readGusts_107 rfl ?_
            exact WP_ireturn dX1_readGusts_108 rfl h
        · replace h := h.2 c3
          refine WP_iload_n (z := x3) dX1_readGusts_17 rfl ?_
          refine WP_iconst (z := 2) dX1_readGusts_18 rfl ⟨by decide, by decide⟩ ?_
          obtain ⟨o30, h⟩ := h
          refine WP_idiv dX1_readGusts_19 o30 (by decide) rfl ?_
          refine WP_istore (ls1 := [vR (o + 1), vR a, vI x2, vI x3, vI (x3 / 2), vU, vU]) dX1_readGusts_20 (by decide) rfl ?_
          refine WP_aload_n (z := a) dX1_readGusts_22 rfl ?_
          refine WP_iload_n (z := x3) dX1_readGusts_23 rfl ?_
          obtain ⟨o29, h⟩ := h
          refine WP_pcallV (g := mX2_at) (as := [vI x3]) (rest := []) (n := 1) (r := vI (fX2_at D a x3)) dX1_readGusts_24 wm_151 mo_X2_at (kcT_0 ha) rfl rfl rfl ⟨Nat.le_of_ble_eq_true rfl, Nat.le_of_ble_eq_true rfl⟩ (Nat.le_of_ble_eq_true rfl) (P_X2_at ha o29) ?_
          refine WP_istore (ls1 := [vR (o + 1), vR a, vI x2, vI x3, vI (x3 / 2), vI (fX2_at D a x3), vU]) dX1_readGusts_27 (by decide) rfl ?_
          refine WP_iload_n (z := x3) dX1_readGusts_29 rfl ?_
          refine WP_iconst (z := 2) dX1_readGusts_30 rfl ⟨by decide, by decide⟩ ?_
          obtain ⟨o28, h⟩ := h
          refine WP_irem dX1_readGusts_31 o28 (by decide) rfl ?_
          obtain ⟨o9, h⟩ := h
          refine WP_via (pc1 := 51) (ls1 := [vR (o + 1), vR a, vI x2, vI x3, vI (x3 / 2), vI (fX2_at D a x3), vU]) (st1 := [vI (if (x3 % 2) = 0 then ((fX1_wayOf D (fX2_at D a x3)) : Int) else (fX1_figureOf D (fX2_at D a x3) 0 9))]) (D1 := D) (fun hJ24 => ?_) ?_
          · refine WP_if_ne (tgt := 43) dX1_readGusts_32 (by decide) (fun c25 => ?_) (fun c25 => ?_)
            · replace hJ24 := ite_f (P := fun v_ : Int => WP mX1_readGusts Q 51 [vR (o + 1), vR a, vI x2, vI x3, vI (x3 / 2), vI (fX2_at D a x3), vU] [vI v_] D) hJ24 c25
              have o27 := o9.2 c25
              refine WP_iload (z := (fX2_at D a x3)) dX1_readGusts_43 rfl ?_
              refine WP_iconst (z := 0) dX1_readGusts_45 rfl ⟨by decide, by decide⟩ ?_
              refine WP_bipush (z := 9) dX1_readGusts_46 rfl (by decide) ?_
              refine WP_pcallS (g := mX1_figureOf) (as := [vI (fX2_at D a x3), vI 0, vI 9]) (rest := []) (n := 3) (r := vI (fX1_figureOf D (fX2_at D a x3) 0 9)) dX1_readGusts_48 wm_187 mo_X1_figureOf rfl rfl ⟨Nat.le_of_ble_eq_true rfl, Nat.le_of_ble_eq_true rfl⟩ (Nat.le_of_ble_eq_true rfl) (P_X1_figureOf  o27) ?_
              exact hJ24
            · replace hJ24 := ite_t (P := fun v_ : Int => WP mX1_readGusts Q 51 [vR (o + 1), vR a, vI x2, vI x3, vI (x3 / 2), vI (fX2_at D a x3), vU] [vI v_] D) hJ24 c25
              have o26 := o9.1 c25
              refine WP_iload (z := (fX2_at D a x3)) dX1_readGusts_35 rfl ?_
              refine WP_pcallS (g := mX1_wayOf) (as := [vI (fX2_at D a x3)]) (rest := []) (n := 1) (r := vI (fX1_wayOf D (fX2_at D a x3))) dX1_readGusts_37 wm_184 mo_X1_wayOf rfl rfl ⟨Nat.le_of_ble_eq_true rfl, Nat.le_of_ble_eq_true rfl⟩ (Nat.le_of_ble_eq_true rfl) (P_X1_wayOf  trivial) ?_
              refine WP_goto (tgt := 51) dX1_readGusts_40 (by decide) ?_
              exact hJ24
          · refine WP_istore (ls1 := [vR (o + 1), vR a, vI x2, vI x3, vI (x3 / 2), vI (fX2_at D a x3), vI (if (x3 % 2) = 0 then ((fX1_wayOf D (fX2_at D a x3)) : Int) else (fX1_figureOf D (fX2_at D a x3) 0 9))]) dX1_readGusts_51 (by decide) rfl ?_
            obtain ⟨v10, hv11⟩ : ∃ v10 : Int, v10 = (if (x3 % 2) = 0 then ((fX1_wayOf D (fX2_at D a x3)) : Int) else (fX1_figureOf D (fX2_at D a x3) 0 9)) := ⟨_, rfl⟩
            replace h := h v10 hv11
            rw [← hv11]
            refine WP_iload (z := v10) dX1_readGusts_53 rfl ?_
            refine WP_iconst (z := (-1)) dX1_readGusts_55 rfl ⟨by decide, by decide⟩ ?_
            refine WP_icmp_eq (tgt := 66) dX1_readGusts_56 (by decide) (fun c12 => ?_) (fun c12 => ?_)
            · replace h := h.1 c12
              refine WP_iload_n (z := x3) dX1_readGusts_66 rfl ?_
              exact WP_ireturn dX1_readGusts_67 rfl h
            · replace h := h.2 c12
              refine WP_iload (z := (x3 / 2)) dX1_readGusts_59 rfl ?_
              refine WP_bipush (z := 12) dX1_readGusts_61 rfl (by decide) ?_
              refine WP_icmp_lt (tgt := 68) dX1_readGusts_63 (by decide) (fun c13 => ?_) (fun c13 => ?_)
              · replace h := h.1 c13
                refine WP_iload_n (z := x3) dX1_readGusts_68 rfl ?_
                refine WP_iconst (z := 2) dX1_readGusts_69 rfl ⟨by decide, by decide⟩ ?_
                obtain ⟨o23, h⟩ := h
                refine WP_irem dX1_readGusts_70 o23 (by decide) rfl ?_
                refine WP_if_ne (tgt := 86) dX1_readGusts_71 (by decide) (fun c14 => ?_) (fun c14 => ?_)
                · replace h := h.2 c14
                  refine WP_aload_n (z := (o + 1)) dX1_readGusts_86 rfl ?_
                  refine WP_getR (z := (o + 6)) dX1_readGusts_87 fl_RX1_37 (kcC_1 ho) rfl (srC_1_8 ho) ?_
                  refine WP_iload (z := (x3 / 2)) dX1_readGusts_90 rfl ?_
                  refine WP_iload (z := v10) dX1_readGusts_92 rfl ?_
                  obtain ⟨o22, h⟩ := h
                  refine WP_iast dX1_readGusts_94 (kcC_6 ho) o22.1 o22.2 ?_
                  obtain ⟨E19, hE20⟩ : ∃ E19 : HP, E19 = (hu D (o + 6) ((x3 / 2)).toNat v10) := ⟨_, rfl⟩
                  replace h := h E19 hE20
                  show WP mX1_readGusts Q 95 [vR (o + 1), vR a, vI x2, vI x3, vI (x3 / 2), vI (fX2_at D a x3), vI v10] [] (hu D (o + 6) ((x3 / 2)).toNat v10)
                  rw [← hE20]
                  obtain ⟨o21, h⟩ := h
                  refine WP_iinc (z := (x3 + 1)) (ls1 := [vR (o + 1), vR a, vI x2, vI (x3 + 1), vI (x3 / 2), vI (fX2_at D a x3), vI v10]) dX1_readGusts_95 rfl (w32_id o21) (by decide) rfl ?_
                  refine WP_goto (tgt := 12) dX1_readGusts_98 (by decide) ?_
                  refine WP_fg 4 (ls1 := [vR (o + 1), vR a, vI x2, vI (x3 + 1), vU, vI (fX2_at D a x3), vI v10]) rfl ?_
                  refine WP_fg 5 (ls1 := [vR (o + 1), vR a, vI x2, vI (x3 + 1), vU, vU, vI v10]) rfl ?_
                  refine WP_fg 6 (ls1 := [vR (o + 1), vR a, vI x2, vI (x3 + 1), vU, vU, vU]) rfl ?_
                  exact ih12_ _ _ _ h.1 (by have := h.2; omega)
                · replace h := h.1 c14
                  refine WP_aload_n (z := (o + 1)) dX1_readGusts_74 rfl ?_
                  refine WP_getR (z := (o + 5)) dX1_readGusts_75 fl_RX1_34 (kcC_1 ho) rfl (srC_1_7 ho) ?_
                  refine WP_iload (z := (x3 / 2)) dX1_readGusts_78 rfl ?_
                  refine WP_iload (z := v10) dX1_readGusts_80 rfl ?_
                  obtain ⟨o18, h⟩ := h
                  refine WP_iast dX1_readGusts_82 (kcC_5 ho) o18.1 o18.2 ?_
                  obtain ⟨E15, hE16⟩ : ∃ E15 : HP, E15 = (hu D (o + 5) ((x3 / 2)).toNat v10) := ⟨_, rfl⟩
                  replace h := h E15 hE16
                  show WP mX1_readGusts Q 83 [vR (o + 1), vR a, vI x2, vI x3, vI (x3 / 2), vI (fX2_at D a x3), vI v10] [] (hu D (o + 5) ((x3 / 2)).toNat v10)
                  rw [← hE16]
                  refine WP_goto (tgt := 95) dX1_readGusts_83 (by decide) ?_
                  obtain ⟨o17, h⟩ := h
                  refine WP_iinc (z := (x3 + 1)) (ls1 := [vR (o + 1), vR a, vI x2, vI (x3 + 1), vI (x3 / 2), vI (fX2_at D a x3), vI v10]) dX1_readGusts_95 rfl (w32_id o17) (by decide) rfl ?_
                  refine WP_goto (tgt := 12) dX1_readGusts_98 (by decide) ?_
                  refine WP_fg 4 (ls1 := [vR (o + 1), vR a, vI x2, vI (x3 + 1), vU, vI (fX2_at D a x3), vI v10]) rfl ?_
                  refine WP_fg 5 (ls1 := [vR (o + 1), vR a, vI x2, vI (x3 + 1), vU, vU, vI v10]) rfl ?_
                  refine WP_fg 6 (ls1 := [vR (o + 1), vR a, vI x2, vI (x3 + 1), vU, vU, vU]) rfl ?_
                  exact ih12_ _ _ _ h.1 (by have := h.2; omega)
              · replace h := h.2 c13
                refine WP_iload_n (z := x3) dX1_readGusts_66 rfl ?_
                exact WP_ireturn dX1_readGusts_67 rfl h
  have cut12_ : ∀ (x2 x3 : Int) (D : HP), I12 x2 x3 D → WP mX1_readGusts Q 12 [vR (o + 1), vR a, vI x2, vI x3, vU, vU, vU] [] D := fun x2 x3 D hI => (IH (u12 x2 x3 D * 1 + 0 + 1)) x2 x3 D hI (by omega)
  refine WP_cD (fun hcD => ?_)
  have h := h0 hcD
  refine WP_aload_n (z := (o + 1)) dX1_readGusts_0 rfl ?_
  refine WP_iconst (z := 0) dX1_readGusts_1 rfl ⟨by decide, by decide⟩ ?_
  refine WP_putI dX1_readGusts_2 fp_RX1_18 (kcC_1 ho) rfl ?_
  obtain ⟨E1, hE2⟩ : ∃ E1 : HP, E1 = (hu D (o + 1) 2 0) := ⟨_, rfl⟩
  replace h := h E1 hE2
  show WP mX1_readGusts Q 5 [vR (o + 1), vR a, vU, vU, vU, vU, vU] [] (hu D (o + 1) 2 0)
  rw [← hE2]
  refine WP_aload_n (z := a) dX1_readGusts_5 rfl ?_
  refine WP_pcallV (g := mX2_length) (as := []) (rest := []) (n := 0) (r := vI (fX2_length E1 a)) dX1_readGusts_6 wm_143 mo_X2_length (kcT_0 ha) rfl rfl rfl ⟨Nat.le_of_ble_eq_true rfl, Nat.le_of_ble_eq_true rfl⟩ (Nat.le_of_ble_eq_true rfl) (P_X2_length ha trivial) ?_
  refine WP_istore_n (ls1 := [vR (o + 1), vR a, vI (fX2_length E1 a), vU, vU, vU, vU]) dX1_readGusts_9 (by decide) rfl ?_
  refine WP_iconst (z := 0) dX1_readGusts_10 rfl ⟨by decide, by decide⟩ ?_
  refine WP_istore_n (ls1 := [vR (o + 1), vR a, vI (fX2_length E1 a), vI 0, vU, vU, vU]) dX1_readGusts_11 (by decide) rfl ?_
  exact cut12_ _ _ _ h
def fX1_holdOf (D : HP) (a : Int) : Int := (if a = 104 then (0 : Int) else (if a = 111 then (1 : Int) else (if a = 120 then (2 : Int) else (-1))))
def oX1_holdOf (D : HP) (a : Int) : Prop := True
set_option maxRecDepth 100000 in
set_option maxHeartbeats 4000000 in
theorem V_X1_holdOf (a : Int) {D : HP} {Q : Option MV → HP → Prop}
    (h0 : cD D → c32 a → (((¬ a = 104 ∧ ¬ a = 111 ∧ ¬ a = 120) → (Q (some (vI (-1))) D)) ∧ (a = 104 → (Q (some (vI 0)) D)) ∧ (a = 111 → (Q (some (vI 1)) D)) ∧ (a = 120 → (Q (some (vI 2)) D))))
    : CT mX1_holdOf [vI a] D Q := by
  refine CT.of 0 (by decide) (Nat.le_of_ble_eq_true rfl) ?_
  show WP mX1_holdOf Q 0 [vI a] [] D
  refine WP_cD (fun hcD => ?_)
  refine WP_cl (fun hcl => ?_)
  have h := h0 hcD (cVs_g hcl (i := 0) (v := vI a) rfl)
  refine WP_iload_n (z := a) dX1_holdOf_0 rfl ?_
  rcases (show (¬ a = 104 ∧ ¬ a = 111 ∧ ¬ a = 120) ∨ a = 104 ∨ a = 111 ∨ a = 120 from by omega) with q1 | q1 | q1 | q1
  · replace h := h.1 q1
    refine WP_look (off := 41) (tgt := 42) dX1_holdOf_1 (by decide) (lookO_3 q1) (by decide) ?_
    refine WP_iconst (z := (-1)) dX1_holdOf_42 rfl ⟨by decide, by decide⟩ ?_
    exact WP_ireturn dX1_holdOf_43 rfl h
  · replace h := h.2.1 q1
    refine WP_look (off := 35) (tgt := 36) dX1_holdOf_1 (by decide) (by rw [q1]; rfl) (by decide) ?_
    refine WP_iconst (z := 0) dX1_holdOf_36 rfl ⟨by decide, by decide⟩ ?_
    exact WP_ireturn dX1_holdOf_37 rfl h
  · replace h := h.2.2.1 q1
    refine WP_look (off := 37) (tgt := 38) dX1_holdOf_1 (by decide) (by rw [q1]; rfl) (by decide) ?_
    refine WP_iconst (z := 1) dX1_holdOf_38 rfl ⟨by decide, by decide⟩ ?_
    exact WP_ireturn dX1_holdOf_39 rfl h
  · replace h := h.2.2.2 q1
    refine WP_look (off := 39) (tgt := 40) dX1_holdOf_1 (by decide) (by rw [q1]; rfl) (by decide) ?_
    refine WP_iconst (z := 2) dX1_holdOf_40 rfl ⟨by decide, by decide⟩ ?_
    exact WP_ireturn dX1_holdOf_41 rfl h
set_option maxRecDepth 100000 in
set_option maxHeartbeats 4000000 in
theorem P_X1_holdOf {a : Int} {D : HP} (hob : oX1_holdOf D a) : CT mX1_holdOf [vI a] D (PF (vI (fX1_holdOf D a)) D) := by
  refine V_X1_holdOf a (fun hcD hc_0 => ?_)
  obtain ⟨z, hz⟩ : ∃ z, z = fX1_holdOf D a := ⟨_, rfl⟩
  rw [← hz]
  unfold fX1_holdOf at hz
  refine ⟨fun q_ => ?_, fun q_ => ?_, fun q_ => ?_, fun q_ => ?_⟩
  · replace hz := hz.trans (if_neg (by omega))
    replace hz := hz.trans (if_neg (by omega))
    replace hz := hz.trans (if_neg (by omega))
    exact ⟨by rw [hz], rfl⟩
  · replace hz := hz.trans (if_pos q_)
    exact ⟨by rw [hz], rfl⟩
  · replace hz := hz.trans (if_neg (by omega))
    replace hz := hz.trans (if_pos q_)
    exact ⟨by rw [hz], rfl⟩
  · replace hz := hz.trans (if_neg (by omega))
    replace hz := hz.trans (if_neg (by omega))
    replace hz := hz.trans (if_pos q_)
    exact ⟨by rw [hz], rfl⟩
set_option maxRecDepth 100000 in
set_option maxHeartbeats 4000000 in
theorem V_X1_readOfCandidate {o : Nat} (ho : o = 9 ∨ o = 25) (a : Int) (b : Int) (c : Int) {D : HP} {Q : Option MV → HP → Prop}
    (h0 : cD D → c32 a → c32 b → c32 c → ((a < 0 → (Q (some (vI 0)) D)) ∧ (¬ (a < 0) → ((a < 8 → ((b = 0 → ((oX1_figureOf D c 0 2) ∧ ((c32 (10 * (fX1_figureOf D c 0 2))) ∧ ((0 ≤ a ∧ a < 8) ∧ (∀ (E4 : HP), E4 = (hu D (o + 7) a.toNat (10 * (fX1_figureOf D c 0 2))) → ((oX1_figureOf E4 c 0 2) ∧ (Q (some (vI (if (fX1_figureOf E4 c 0 2) = (-1) then (0 : Int) else 1))) E4))))))) ∧ (¬ (b = 0) → ((b = 1 → ((0 ≤ a ∧ a < 8) ∧ ((oX1_figureOf D c 0 9) ∧ ((c32 ((D (o + 7) a.toNat) + (fX1_figureOf D c 0 9))) ∧ ((0 ≤ a ∧ a < 8) ∧ (∀ (E13 : HP), E13 = (hu D (o + 7) a.toNat ((D (o + 7) a.toNat) + (fX1_figureOf D c 0 9))) → ((oX1_figureOf E13 c 0 9) ∧ (Q (some (vI (if (fX1_figureOf E13 c 0 9) = (-1) then (0 : Int) else 1))) E13)))))))) ∧ (¬ (b = 1) → ((b = 2 → ((oX1_figureOf D c 1 9) ∧ ((0 ≤ a ∧ a < 8) ∧ (∀ (E23 : HP), E23 = (hu D (o + 8) a.toNat (fX1_figureOf D c 1 9)) → ((0 ≤ a ∧ a < 8) ∧ (Q (some (vI (if (E23 (o + 8) a.toNat) = (-1) then (0 : Int) else 1))) E23)))))) ∧ (¬ (b = 2) → ((b = 3 → ((0 ≤ a ∧ a < 8) ∧ (∀ (E31 : HP), E31 = (hu D (o + 9) a.toNat (fX1_holdOf D c)) → ((0 ≤ a ∧ a < 8) ∧ (Q (some (vI (if (E31 (o + 9) a.toNat) = (-1) then (0 : Int) else 1))) E31))))) ∧ (¬ (b = 3) → (Q (some (vI (if c = 59 then (1 : Int) else 0))) D)))))))))) ∧ (¬ (a < 8) → (Q (some (vI 0)) D))))))
    : CT mX1_readOfCandidate [vR (o + 1), vI a, vI b, vI c] D Q := by
  refine CT.of 0 (by decide) (Nat.le_of_ble_eq_true rfl) ?_
  show WP mX1_readOfCandidate Q 0 [vR (o + 1), vI a, vI b, vI c] [] D
  refine WP_cD (fun hcD => ?_)
  refine WP_cl (fun hcl => ?_)
  have h := h0 hcD (cVs_g hcl (i := 1) (v := vI a) rfl) (cVs_g hcl (i := 2) (v := vI b) rfl) (cVs_g hcl (i := 3) (v := vI c) rfl)
  refine WP_iload_n (z := a) dX1_readOfCandidate_0 rfl ?_
  refine WP_if_lt (tgt := 10) dX1_readOfCandidate_1 (by decide) (fun c1 => ?_) (fun c1 => ?_)
  · replace h := h.1 c1
    refine WP_iconst (z := 0) dX1_readOfCandidate_10 rfl ⟨by decide, by decide⟩ ?_
    exact WP_zreturn dX1_readOfCandidate_11 rfl (by decide) h
  · replace h := h.2 c1
    refine WP_iload_n (z := a) dX1_readOfCandidate_4 rfl ?_
    refine WP_bipush (z := 8) dX1_readOfCandidate_5 rfl (by decide) ?_
    refine WP_icmp_lt (tgt := 12) dX1_readOfCandidate_7 (by decide) (fun c2 => ?_) (fun c2 => ?_)
    · replace h := h.1 c2
      refine WP_iload_n (z := b) dX1_readOfCandidate_12 rfl ?_
      refine WP_if_ne (tgt := 47) dX1_readOfCandidate_13 (by decide) (fun c3 => ?_) (fun c3 => ?_)
      · replace h := h.2 c3
        refine WP_iload_n (z := b) dX1_readOfCandidate_47 rfl ?_
        refine WP_iconst (z := 1) dX1_readOfCandidate_48 rfl ⟨by decide, by decide⟩ ?_
        refine WP_icmp_ne (tgt := 85) dX1_readOfCandidate_49 (by decide) (fun c12 => ?_) (fun c12 => ?_)
        · replace h := h.2 c12
          refine WP_iload_n (z := b) dX1_readOfCandidate_85 rfl ?_
          refine WP_iconst (z := 2) dX1_readOfCandidate_86 rfl ⟨by decide, by decide⟩ ?_
          refine WP_icmp_ne (tgt := 119) dX1_readOfCandidate_87 (by decide) (fun c22 => ?_) (fun c22 => ?_)
          · replace h := h.2 c22
            refine WP_iload_n (z := b) dX1_readOfCandidate_119 rfl ?_
            refine WP_iconst (z := 3) dX1_readOfCandidate_120 rfl ⟨by decide, by decide⟩ ?_
            refine WP_icmp_ne (tgt := 150) dX1_readOfCandidate_121 (by decide) (fun c30 => ?_) (fun c30 => ?_)
            · replace h := h.2 c30
              refine WP_iload_n (z := c) dX1_readOfCandidate_150 rfl ?_
              refine WP_bipush (z := 59) dX1_readOfCandidate_151 rfl (by decide) ?_
              refine WP_via (pc1 := 161) (ls1 := [vR (o + 1), vI a, vI b, vI c]) (st1 := [vI (if c = 59 then (1 : Int) else 0)]) (D1 := D) (fun hJ37 => ?_) ?_
              · refine WP_icmp_ne (tgt := 160) dX1_readOfCandidate_153 (by decide) (fun c38 => ?_) (fun c38 => ?_)
                · replace hJ37 := ite_f (P := fun v_ : Int => WP mX1_readOfCandidate Q 161 [vR (o + 1), vI a, vI b, vI c] [vI v_] D) hJ37 c38
                  refine WP_iconst (z := 0) dX1_readOfCandidate_160 rfl ⟨by decide, by decide⟩ ?_
                  exact hJ37
                · replace hJ37 := ite_t (P := fun v_ : Int => WP mX1_readOfCandidate Q 161 [vR (o + 1), vI a, vI b, vI c] [vI v_] D) hJ37 c38
                  refine WP_iconst (z := 1) dX1_readOfCandidate_156 rfl ⟨by decide, by decide⟩ ?_
                  refine WP_goto (tgt := 161) dX1_readOfCandidate_157 (by decide) ?_
                  exact hJ37
              · exact WP_zreturn dX1_readOfCandidate_161 rfl (bool_ite (Or.inr rfl) (Or.inl rfl)) h
            · replace h := h.1 c30
              refine WP_aload_n (z := (o + 1)) dX1_readOfCandidate_124 rfl ?_
              refine WP_getR (z := (o + 9)) dX1_readOfCandidate_125 fl_RX1_46 (kcC_1 ho) rfl (srC_1_11 ho) ?_
              refine WP_iload_n (z := a) dX1_readOfCandidate_128 rfl ?_
              refine WP_iload_n (z := c) dX1_readOfCandidate_129 rfl ?_
              refine WP_pcallS (g := mX1_holdOf) (as := [vI c]) (rest := [vI a, vR (o + 9)]) (n := 1) (r := vI (fX1_holdOf D c)) dX1_readOfCandidate_130 wm_198 mo_X1_holdOf rfl rfl ⟨Nat.le_of_ble_eq_true rfl, Nat.le_of_ble_eq_true rfl⟩ (Nat.le_of_ble_eq_true rfl) (P_X1_holdOf  trivial) ?_
              obtain ⟨o36, h⟩ := h
              refine WP_iast dX1_readOfCandidate_133 (kcC_9 ho) o36.1 o36.2 ?_
              obtain ⟨E31, hE32⟩ : ∃ E31 : HP, E31 = (hu D (o + 9) a.toNat (fX1_holdOf D c)) := ⟨_, rfl⟩
              replace h := h E31 hE32
              show WP mX1_readOfCandidate Q 134 [vR (o + 1), vI a, vI b, vI c] [] (hu D (o + 9) a.toNat (fX1_holdOf D c))
              rw [← hE32]
              refine WP_aload_n (z := (o + 1)) dX1_readOfCandidate_134 rfl ?_
              refine WP_getR (z := (o + 9)) dX1_readOfCandidate_135 fl_RX1_46 (kcC_1 ho) rfl (srC_1_11 ho) ?_
              refine WP_iload_n (z := a) dX1_readOfCandidate_138 rfl ?_
              obtain ⟨o35, h⟩ := h
              refine WP_iald dX1_readOfCandidate_139 (kcC_9 ho) o35.1 o35.2 rfl ?_
              refine WP_iconst (z := (-1)) dX1_readOfCandidate_140 rfl ⟨by decide, by decide⟩ ?_
              refine WP_via (pc1 := 149) (ls1 := [vR (o + 1), vI a, vI b, vI c]) (st1 := [vI (if (E31 (o + 9) a.toNat) = (-1) then (0 : Int) else 1)]) (D1 := E31) (fun hJ33 => ?_) ?_
              · refine WP_icmp_eq (tgt := 148) dX1_readOfCandidate_141 (by decide) (fun c34 => ?_) (fun c34 => ?_)
                · replace hJ33 := ite_t (P := fun v_ : Int => WP mX1_readOfCandidate Q 149 [vR (o + 1), vI a, vI b, vI c] [vI v_] E31) hJ33 c34
                  refine WP_iconst (z := 0) dX1_readOfCandidate_148 rfl ⟨by decide, by decide⟩ ?_
                  exact hJ33
                · replace hJ33 := ite_f (P := fun v_ : Int => WP mX1_readOfCandidate Q 149 [vR (o + 1), vI a, vI b, vI c] [vI v_] E31) hJ33 c34
                  refine WP_iconst (z := 1) dX1_readOfCandidate_144 rfl ⟨by decide, by decide⟩ ?_
                  refine WP_goto (tgt := 149) dX1_readOfCandidate_145 (by decide) ?_
                  exact hJ33
              · exact WP_zreturn dX1_readOfCandidate_149 rfl (bool_ite (Or.inl rfl) (Or.inr rfl)) h
          · replace h := h.1 c22
            refine WP_aload_n (z := (o + 1)) dX1_readOfCandidate_90 rfl ?_
            refine WP_getR (z := (o + 8)) dX1_readOfCandidate_91 fl_RX1_43 (kcC_1 ho) rfl (srC_1_10 ho) ?_
            refine WP_iload_n (z := a) dX1_readOfCandidate_94 rfl ?_
            refine WP_iload_n (z := c) dX1_readOfCandidate_95 rfl ?_
            refine WP_iconst (z := 1) dX1_readOfCandidate_96 rfl ⟨by decide, by decide⟩ ?_
            refine WP_bipush (z := 9) dX1_readOfCandidate_97 rfl (by decide) ?_
            obtain ⟨o29, h⟩ := h
            refine WP_pcallS (g := mX1_figureOf) (as := [vI c, vI 1, vI 9]) (rest := [vI a, vR (o + 8)]) (n := 3) (r := vI (fX1_figureOf D c 1 9)) dX1_readOfCandidate_99 wm_187 mo_X1_figureOf rfl rfl ⟨Nat.le_of_ble_eq_true rfl, Nat.le_of_ble_eq_true rfl⟩ (Nat.le_of_ble_eq_true rfl) (P_X1_figureOf  o29) ?_
            obtain ⟨o28, h⟩ := h
            refine WP_iast dX1_readOfCandidate_102 (kcC_8 ho) o28.1 o28.2 ?_
            obtain ⟨E23, hE24⟩ : ∃ E23 : HP, E23 = (hu D (o + 8) a.toNat (fX1_figureOf D c 1 9)) := ⟨_, rfl⟩
            replace h := h E23 hE24
            show WP mX1_readOfCandidate Q 103 [vR (o + 1), vI a, vI b, vI c] [] (hu D (o + 8) a.toNat (fX1_figureOf D c 1 9))
            rw [← hE24]
            refine WP_aload_n (z := (o + 1)) dX1_readOfCandidate_103 rfl ?_
            refine WP_getR (z := (o + 8)) dX1_readOfCandidate_104 fl_RX1_43 (kcC_1 ho) rfl (srC_1_10 ho) ?_
            refine WP_iload_n (z := a) dX1_readOfCandidate_107 rfl ?_
            obtain ⟨o27, h⟩ := h
            refine WP_iald dX1_readOfCandidate_108 (kcC_8 ho) o27.1 o27.2 rfl ?_
            refine WP_iconst (z := (-1)) dX1_readOfCandidate_109 rfl ⟨by decide, by decide⟩ ?_
            refine WP_via (pc1 := 118) (ls1 := [vR (o + 1), vI a, vI b, vI c]) (st1 := [vI (if (E23 (o + 8) a.toNat) = (-1) then (0 : Int) else 1)]) (D1 := E23) (fun hJ25 => ?_) ?_
            · refine WP_icmp_eq (tgt := 117) dX1_readOfCandidate_110 (by decide) (fun c26 => ?_) (fun c26 => ?_)
              · replace hJ25 := ite_t (P := fun v_ : Int => WP mX1_readOfCandidate Q 118 [vR (o + 1), vI a, vI b, vI c] [vI v_] E23) hJ25 c26
                refine WP_iconst (z := 0) dX1_readOfCandidate_117 rfl ⟨by decide, by decide⟩ ?_
                exact hJ25
              · replace hJ25 := ite_f (P := fun v_ : Int => WP mX1_readOfCandidate Q 118 [vR (o + 1), vI a, vI b, vI c] [vI v_] E23) hJ25 c26
                refine WP_iconst (z := 1) dX1_readOfCandidate_113 rfl ⟨by decide, by decide⟩ ?_
                refine WP_goto (tgt := 118) dX1_readOfCandidate_114 (by decide) ?_
                exact hJ25
            · exact WP_zreturn dX1_readOfCandidate_118 rfl (bool_ite (Or.inl rfl) (Or.inr rfl)) h
        · replace h := h.1 c12
          refine WP_aload_n (z := (o + 1)) dX1_readOfCandidate_52 rfl ?_
          refine WP_getR (z := (o + 7)) dX1_readOfCandidate_53 fl_RX1_40 (kcC_1 ho) rfl (srC_1_9 ho) ?_
          refine WP_iload_n (z := a) dX1_readOfCandidate_56 rfl ?_
          refine WP_dup2 dX1_readOfCandidate_57 (Nat.ne_of_beq_eq_false rfl) (Nat.ne_of_beq_eq_false rfl) ?_
          obtain ⟨o21, h⟩ := h
          refine WP_iald dX1_readOfCandidate_58 (kcC_7 ho) o21.1 o21.2 rfl ?_
          refine WP_iload_n (z := c) dX1_readOfCandidate_59 rfl ?_
          refine WP_iconst (z := 0) dX1_readOfCandidate_60 rfl ⟨by decide, by decide⟩ ?_
          refine WP_bipush (z := 9) dX1_readOfCandidate_61 rfl (by decide) ?_
          obtain ⟨o20, h⟩ := h
          refine WP_pcallS (g := mX1_figureOf) (as := [vI c, vI 0, vI 9]) (rest := [vI (D (o + 7) a.toNat), vI a, vR (o + 7)]) (n := 3) (r := vI (fX1_figureOf D c 0 9)) dX1_readOfCandidate_63 wm_187 mo_X1_figureOf rfl rfl ⟨Nat.le_of_ble_eq_true rfl, Nat.le_of_ble_eq_true rfl⟩ (Nat.le_of_ble_eq_true rfl) (P_X1_figureOf  o20) ?_
          obtain ⟨o19, h⟩ := h
          refine WP_iadd (z := ((D (o + 7) a.toNat) + (fX1_figureOf D c 0 9))) dX1_readOfCandidate_66 (w32_id o19) ?_
          obtain ⟨o18, h⟩ := h
          refine WP_iast dX1_readOfCandidate_67 (kcC_7 ho) o18.1 o18.2 ?_
          obtain ⟨E13, hE14⟩ : ∃ E13 : HP, E13 = (hu D (o + 7) a.toNat ((D (o + 7) a.toNat) + (fX1_figureOf D c 0 9))) := ⟨_, rfl⟩
          replace h := h E13 hE14
          show WP mX1_readOfCandidate Q 68 [vR (o + 1), vI a, vI b, vI c] [] (hu D (o + 7) a.toNat ((D (o + 7) a.toNat) + (fX1_figureOf D c 0 9)))
          rw [← hE14]
          refine WP_iload_n (z := c) dX1_readOfCandidate_68 rfl ?_
          refine WP_iconst (z := 0) dX1_readOfCandidate_69 rfl ⟨by decide, by decide⟩ ?_
          refine WP_bipush (z := 9) dX1_readOfCandidate_70 rfl (by decide) ?_
          obtain ⟨o17, h⟩ := h
          refine WP_pcallS (g := mX1_figureOf) (as := [vI c, vI 0, vI 9]) (rest := []) (n := 3) (r := vI (fX1_figureOf E13 c 0 9)) dX1_readOfCandidate_72 wm_187 mo_X1_figureOf rfl rfl ⟨Nat.le_of_ble_eq_true rfl, Nat.le_of_ble_eq_true rfl⟩ (Nat.le_of_ble_eq_true rfl) (P_X1_figureOf  o17) ?_
          refine WP_iconst (z := (-1)) dX1_readOfCandidate_75 rfl ⟨by decide, by decide⟩ ?_
          refine WP_via (pc1 := 84) (ls1 := [vR (o + 1), vI a, vI b, vI c]) (st1 := [vI (if (fX1_figureOf E13 c 0 9) = (-1) then (0 : Int) else 1)]) (D1 := E13) (fun hJ15 => ?_) ?_
          · refine WP_icmp_eq (tgt := 83) dX1_readOfCandidate_76 (by decide) (fun c16 => ?_) (fun c16 => ?_)
            · replace hJ15 := ite_t (P := fun v_ : Int => WP mX1_readOfCandidate Q 84 [vR (o + 1), vI a, vI b, vI c] [vI v_] E13) hJ15 c16
              refine WP_iconst (z := 0) dX1_readOfCandidate_83 rfl ⟨by decide, by decide⟩ ?_
              exact hJ15
            · replace hJ15 := ite_f (P := fun v_ : Int => WP mX1_readOfCandidate Q 84 [vR (o + 1), vI a, vI b, vI c] [vI v_] E13) hJ15 c16
              refine WP_iconst (z := 1) dX1_readOfCandidate_79 rfl ⟨by decide, by decide⟩ ?_
              refine WP_goto (tgt := 84) dX1_readOfCandidate_80 (by decide) ?_
              exact hJ15
          · exact WP_zreturn dX1_readOfCandidate_84 rfl (bool_ite (Or.inl rfl) (Or.inr rfl)) h
      · replace h := h.1 c3
        refine WP_aload_n (z := (o + 1)) dX1_readOfCandidate_16 rfl ?_
        refine WP_getR (z := (o + 7)) dX1_readOfCandidate_17 fl_RX1_40 (kcC_1 ho) rfl (srC_1_9 ho) ?_
        refine WP_iload_n (z := a) dX1_readOfCandidate_20 rfl ?_
        refine WP_bipush (z := 10) dX1_readOfCandidate_21 rfl (by decide) ?_
        refine WP_iload_n (z := c) dX1_readOfCandidate_23 rfl ?_
        refine WP_iconst (z := 0) dX1_readOfCandidate_24 rfl ⟨by decide, by decide⟩ ?_
        refine WP_iconst (z := 2) dX1_readOfCandidate_25 rfl ⟨by decide, by decide⟩ ?_
        obtain ⟨o11, h⟩ := h
        refine WP_pcallS (g := mX1_figureOf) (as := [vI c, vI 0, vI 2]) (rest := [vI 10, vI a, vR (o + 7)]) (n := 3) (r := vI (fX1_figureOf D c 0 2)) dX1_readOfCandidate_26 wm_187 mo_X1_figureOf rfl rfl ⟨Nat.le_of_ble_eq_true rfl, Nat.le_of_ble_eq_true rfl⟩ (Nat.le_of_ble_eq_true rfl) (P_X1_figureOf  o11) ?_
        obtain ⟨o10, h⟩ := h
        refine WP_imul (z := (10 * (fX1_figureOf D c 0 2))) dX1_readOfCandidate_29 (w32_id o10) ?_
        obtain ⟨o9, h⟩ := h
        refine WP_iast dX1_readOfCandidate_30 (kcC_7 ho) o9.1 o9.2 ?_
        obtain ⟨E4, hE5⟩ : ∃ E4 : HP, E4 = (hu D (o + 7) a.toNat (10 * (fX1_figureOf D c 0 2))) := ⟨_, rfl⟩
        replace h := h E4 hE5
        show WP mX1_readOfCandidate Q 31 [vR (o + 1), vI a, vI b, vI c] [] (hu D (o + 7) a.toNat (10 * (fX1_figureOf D c 0 2)))
        rw [← hE5]
        refine WP_iload_n (z := c) dX1_readOfCandidate_31 rfl ?_
        refine WP_iconst (z := 0) dX1_readOfCandidate_32 rfl ⟨by decide, by decide⟩ ?_
        refine WP_iconst (z := 2) dX1_readOfCandidate_33 rfl ⟨by decide, by decide⟩ ?_
        obtain ⟨o8, h⟩ := h
        refine WP_pcallS (g := mX1_figureOf) (as := [vI c, vI 0, vI 2]) (rest := []) (n := 3) (r := vI (fX1_figureOf E4 c 0 2)) dX1_readOfCandidate_34 wm_187 mo_X1_figureOf rfl rfl ⟨Nat.le_of_ble_eq_true rfl, Nat.le_of_ble_eq_true rfl⟩ (Nat.le_of_ble_eq_true rfl) (P_X1_figureOf  o8) ?_
        refine WP_iconst (z := (-1)) dX1_readOfCandidate_37 rfl ⟨by decide, by decide⟩ ?_
        refine WP_via (pc1 := 46) (ls1 := [vR (o + 1), vI a, vI b, vI c]) (st1 := [vI (if (fX1_figureOf E4 c 0 2) = (-1) then (0 : Int) else 1)]) (D1 := E4) (fun hJ6 => ?_) ?_
        · refine WP_icmp_eq (tgt := 45) dX1_readOfCandidate_38 (by decide) (fun c7 => ?_) (fun c7 => ?_)
          · replace hJ6 := ite_t (P := fun v_ : Int => WP mX1_readOfCandidate Q 46 [vR (o + 1), vI a, vI b, vI c] [vI v_] E4) hJ6 c7
            refine WP_iconst (z := 0) dX1_readOfCandidate_45 rfl ⟨by decide, by decide⟩ ?_
            exact hJ6
          · replace hJ6 := ite_f (P := fun v_ : Int => WP mX1_readOfCandidate Q 46 [vR (o + 1), vI a, vI b, vI c] [vI v_] E4) hJ6 c7
            refine WP_iconst (z := 1) dX1_readOfCandidate_41 rfl ⟨by decide, by decide⟩ ?_
            refine WP_goto (tgt := 46) dX1_readOfCandidate_42 (by decide) ?_
            exact hJ6
        · exact WP_zreturn dX1_readOfCandidate_46 rfl (bool_ite (Or.inl rfl) (Or.inr rfl)) h
    · replace h := h.2 c2
      refine WP_iconst (z := 0) dX1_readOfCandidate_10 rfl ⟨by decide, by decide⟩ ?_
      exact WP_zreturn dX1_readOfCandidate_11 rfl (by decide) h
set_option maxRecDepth 100000 in
set_option maxHeartbeats 4000000 in
theorem V_X1_readCandidates {o : Nat} (ho : o = 9 ∨ o = 25) {a : Nat} (ha : a = 2 ∨ a = 3 ∨ a = 4) {D : HP} {Q : Option MV → HP → Prop} (I12 : Int → Int → HP → Prop) (u12 : Int → Int → HP → Nat)
    (h0 : cD D → (∀ (E1 : HP), E1 = (hu D (o + 1) 3 0) → (I12 (fX2_length E1 a) 0 E1)))
    (h12 : ∀ (x2 x3 : Int) (D : HP), I12 x2 x3 D → cD D → c32 x2 → c32 x3 → ((x2 ≤ x3 → ((x2 ≤ 0 → ((c32 (x2 + 1)) ∧ ((0 ≤ (x2 + 1)) ∧ (∀ (E5 : HP), E5 = (hu D (o + 1) 3 (if 8 < ((x2 + 1) / 5) then (8 : Int) else ((x2 + 1) / 5))) → (Q (some (vI (-1))) E5))))) ∧ (¬ (x2 ≤ 0) → ((0 ≤ x2) ∧ (((x2 % 5) = 4 → ((c32 (x2 + 1)) ∧ ((0 ≤ (x2 + 1)) ∧ (∀ (E10 : HP), E10 = (hu D (o + 1) 3 (if 8 < ((x2 + 1) / 5) then (8 : Int) else ((x2 + 1) / 5))) → (Q (some (vI (-1))) E10))))) ∧ (¬ ((x2 % 5) = 4) → (Q (some (vI x2)) D))))))) ∧ (¬ (x2 ≤ x3) → ((0 ≤ x3) ∧ ((0 ≤ x3) ∧ ((oX2_at D a x3) ∧ (∃ Q15 : Option MV → HP → Prop, CT mX1_readOfCandidate [vR (o + 1), vI (x3 / 5), vI (x3 % 5), vI (fX2_at D a x3)] D Q15 ∧ ∀ (r19 : Int) (D18 : HP), Q15 (some (vI r19)) D18 → c32 r19 → cD D18 → ((r19 = 0 → (Q (some (vI x3)) D18)) ∧ (¬ (r19 = 0) → ((c32 (x3 + 1)) ∧ (I12 x2 (x3 + 1) D18 ∧ u12 x2 (x3 + 1) D18 < u12 x2 x3 D)))))))))))
    : CT mX1_readCandidates [vR (o + 1), vR a] D Q := by
  refine CT.of 2 (by decide) (Nat.le_of_ble_eq_true rfl) ?_
  show WP mX1_readCandidates Q 0 [vR (o + 1), vR a, vU, vU] [] D
  have IH : ∀ n : Nat, (∀ (x2 x3 : Int) (D : HP), I12 x2 x3 D → u12 x2 x3 D * 1 + 0 < n → WP mX1_readCandidates Q 12 [vR (o + 1), vR a, vI x2, vI x3] [] D) := by
    intro n
    induction n with
    | zero => exact fun _ _ _ _ h => absurd h (Nat.not_lt_zero _)
    | succ n ih =>
      have ih12_ := ih
      · intro x2 x3 D hI hn
        refine WP_cD (fun hcD => ?_)
        refine WP_cl (fun hcl => ?_)
        have h := h12 x2 x3 D hI hcD (cVs_g hcl (i := 2) (v := vI x2) rfl) (cVs_g hcl (i := 3) (v := vI x3) rfl)
        refine WP_iload_n (z := x3) dX1_readCandidates_12 rfl ?_
        refine WP_iload_n (z := x2) dX1_readCandidates_13 rfl ?_
        refine WP_icmp_ge (tgt := 43) dX1_readCandidates_14 (by decide) (fun c3 => ?_) (fun c3 => ?_)
        · replace h := h.1 c3
          refine WP_iload_n (z := x2) dX1_readCandidates_43 rfl ?_
          refine WP_if_le (tgt := 56) dX1_readCandidates_44 (by decide) (fun c4 => ?_) (fun c4 => ?_)
          · replace h := h.1 c4
            refine WP_aload_n (z := (o + 1)) dX1_readCandidates_56 rfl ?_
            refine WP_iload_n (z := x2) dX1_readCandidates_57 rfl ?_
            refine WP_iconst (z := 1) dX1_readCandidates_58 rfl ⟨by decide, by decide⟩ ?_
            obtain ⟨o8, h⟩ := h
            refine WP_iadd (z := (x2 + 1)) dX1_readCandidates_59 (w32_id o8) ?_
            refine WP_iconst (z := 5) dX1_readCandidates_60 rfl ⟨by decide, by decide⟩ ?_
            obtain ⟨o7, h⟩ := h
            refine WP_idiv dX1_readCandidates_61 o7 (by decide) rfl ?_
            refine WP_bipush (z := 8) dX1_readCandidates_62 rfl (by decide) ?_
            refine WP_min dX1_readCandidates_64 wm_183 w_min ⟨Nat.le_of_ble_eq_true rfl, Nat.le_of_ble_eq_true rfl⟩ (Nat.le_of_ble_eq_true rfl) rfl ?_
            refine WP_putI dX1_readCandidates_67 fp_RX1_21 (kcC_1 ho) rfl ?_
            obtain ⟨E5, hE6⟩ : ∃ E5 : HP, E5 = (hu D (o + 1) 3 (if 8 < ((x2 + 1) / 5) then (8 : Int) else ((x2 + 1) / 5))) := ⟨_, rfl⟩
            replace h := h E5 hE6
            show WP mX1_readCandidates Q 70 [vR (o + 1), vR a, vI x2, vI x3] [] (hu D (o + 1) 3 (if 8 < ((x2 + 1) / 5) then (8 : Int) else ((x2 + 1) / 5)))
            rw [← hE6]
            refine WP_iconst (z := (-1)) dX1_readCandidates_70 rfl ⟨by decide, by decide⟩ ?_
            exact WP_ireturn dX1_readCandidates_71 rfl h
          · replace h := h.2 c4
            refine WP_iload_n (z := x2) dX1_readCandidates_47 rfl ?_
            refine WP_iconst (z := 5) dX1_readCandidates_48 rfl ⟨by decide, by decide⟩ ?_
            obtain ⟨o14, h⟩ := h
            refine WP_irem dX1_readCandidates_49 o14 (by decide) rfl ?_
            refine WP_iconst (z := 4) dX1_readCandidates_50 rfl ⟨by decide, by decide⟩ ?_
            refine WP_icmp_eq (tgt := 56) dX1_readCandidates_51 (by decide) (fun c9 => ?_) (fun c9 => ?_)
            · replace h := h.1 c9
              refine WP_aload_n (z := (o + 1)) dX1_readCandidates_56 rfl ?_
              refine WP_iload_n (z := x2) dX1_readCandidates_57 rfl ?_
              refine WP_iconst (z := 1) dX1_readCandidates_58 rfl ⟨by decide, by decide⟩ ?_
              obtain ⟨o13, h⟩ := h
              refine WP_iadd (z := (x2 + 1)) dX1_readCandidates_59 (w32_id o13) ?_
              refine WP_iconst (z := 5) dX1_readCandidates_60 rfl ⟨by decide, by decide⟩ ?_
              obtain ⟨o12, h⟩ := h
              refine WP_idiv dX1_readCandidates_61 o12 (by decide) rfl ?_
              refine WP_bipush (z := 8) dX1_readCandidates_62 rfl (by decide) ?_
              refine WP_min dX1_readCandidates_64 wm_183 w_min ⟨Nat.le_of_ble_eq_true rfl, Nat.le_of_ble_eq_true rfl⟩ (Nat.le_of_ble_eq_true rfl) rfl ?_
              refine WP_putI dX1_readCandidates_67 fp_RX1_21 (kcC_1 ho) rfl ?_
              obtain ⟨E10, hE11⟩ : ∃ E10 : HP, E10 = (hu D (o + 1) 3 (if 8 < ((x2 + 1) / 5) then (8 : Int) else ((x2 + 1) / 5))) := ⟨_, rfl⟩
              replace h := h E10 hE11
              show WP mX1_readCandidates Q 70 [vR (o + 1), vR a, vI x2, vI x3] [] (hu D (o + 1) 3 (if 8 < ((x2 + 1) / 5) then (8 : Int) else ((x2 + 1) / 5)))
              rw [← hE11]
              refine WP_iconst (z := (-1)) dX1_readCandidates_70 rfl ⟨by decide, by decide⟩ ?_
              exact WP_ireturn dX1_readCandidates_71 rfl h
            · replace h := h.2 c9
              refine WP_iload_n (z := x2) dX1_readCandidates_54 rfl ?_
              exact WP_ireturn dX1_readCandidates_55 rfl h
        · replace h := h.2 c3
          refine WP_aload_n (z := (o + 1)) dX1_readCandidates_17 rfl ?_
          refine WP_iload_n (z := x3) dX1_readCandidates_18 rfl ?_
          refine WP_iconst (z := 5) dX1_readCandidates_19 rfl ⟨by decide, by decide⟩ ?_
          obtain ⟨o26, h⟩ := h
          refine WP_idiv dX1_readCandidates_20 o26 (by decide) rfl ?_
          refine WP_iload_n (z := x3) dX1_readCandidates_21 rfl ?_
          refine WP_iconst (z := 5) dX1_readCandidates_22 rfl ⟨by decide, by decide⟩ ?_
          obtain ⟨o25, h⟩ := h
          refine WP_irem dX1_readCandidates_23 o25 (by decide) rfl ?_
          refine WP_aload_n (z := a) dX1_readCandidates_24 rfl ?_
          refine WP_iload_n (z := x3) dX1_readCandidates_25 rfl ?_
          obtain ⟨o24, h⟩ := h
          refine WP_pcallV (g := mX2_at) (as := [vI x3]) (rest := [vI (x3 % 5), vI (x3 / 5), vR (o + 1)]) (n := 1) (r := vI (fX2_at D a x3)) dX1_readCandidates_26 wm_151 mo_X2_at (kcT_0 ha) rfl rfl rfl ⟨Nat.le_of_ble_eq_true rfl, Nat.le_of_ble_eq_true rfl⟩ (Nat.le_of_ble_eq_true rfl) (P_X2_at ha o24) ?_
          obtain ⟨Q15, ct17, h⟩ := h
          refine WP_callV (g := mX1_readOfCandidate) (as := [vI (x3 / 5), vI (x3 % 5), vI (fX2_at D a x3)]) (rest := []) (n := 3) dX1_readCandidates_29 wm_194 mo_X1_readOfCandidate (kcC_1 ho) rfl rfl rfl ⟨Nat.le_of_ble_eq_true rfl, Nat.le_of_ble_eq_true rfl⟩ (Nat.le_of_ble_eq_true rfl) ct17 (fun r_ D18 hq16 hok hD21 => ?_)
          obtain ⟨r19, rfl, hr20⟩ := hok
          replace h := h r19 D18 hq16 hr20 hD21
          show WP mX1_readCandidates Q 32 [vR (o + 1), vR a, vI x2, vI x3] [vI r19] D18
          refine WP_if_ne (tgt := 37) dX1_readCandidates_32 (by decide) (fun c22 => ?_) (fun c22 => ?_)
          · replace h := h.2 c22
            obtain ⟨o23, h⟩ := h
            refine WP_iinc (z := (x3 + 1)) (ls1 := [vR (o + 1), vR a, vI x2, vI (x3 + 1)]) dX1_readCandidates_37 rfl (w32_id o23) (by decide) rfl ?_
            refine WP_goto (tgt := 12) dX1_readCandidates_40 (by decide) ?_
            exact ih12_ _ _ _ h.1 (by have := h.2; omega)
          · replace h := h.1 c22
            refine WP_iload_n (z := x3) dX1_readCandidates_35 rfl ?_
            exact WP_ireturn dX1_readCandidates_36 rfl h
  have cut12_ : ∀ (x2 x3 : Int) (D : HP), I12 x2 x3 D → WP mX1_readCandidates Q 12 [vR (o + 1), vR a, vI x2, vI x3] [] D := fun x2 x3 D hI => (IH (u12 x2 x3 D * 1 + 0 + 1)) x2 x3 D hI (by omega)
  refine WP_cD (fun hcD => ?_)
  have h := h0 hcD
  refine WP_aload_n (z := (o + 1)) dX1_readCandidates_0 rfl ?_
  refine WP_iconst (z := 0) dX1_readCandidates_1 rfl ⟨by decide, by decide⟩ ?_
  refine WP_putI dX1_readCandidates_2 fp_RX1_21 (kcC_1 ho) rfl ?_
  obtain ⟨E1, hE2⟩ : ∃ E1 : HP, E1 = (hu D (o + 1) 3 0) := ⟨_, rfl⟩
  replace h := h E1 hE2
  show WP mX1_readCandidates Q 5 [vR (o + 1), vR a, vU, vU] [] (hu D (o + 1) 3 0)
  rw [← hE2]
  refine WP_aload_n (z := a) dX1_readCandidates_5 rfl ?_
  refine WP_pcallV (g := mX2_length) (as := []) (rest := []) (n := 0) (r := vI (fX2_length E1 a)) dX1_readCandidates_6 wm_143 mo_X2_length (kcT_0 ha) rfl rfl rfl ⟨Nat.le_of_ble_eq_true rfl, Nat.le_of_ble_eq_true rfl⟩ (Nat.le_of_ble_eq_true rfl) (P_X2_length ha trivial) ?_
  refine WP_istore_n (ls1 := [vR (o + 1), vR a, vI (fX2_length E1 a), vU]) dX1_readCandidates_9 (by decide) rfl ?_
  refine WP_iconst (z := 0) dX1_readCandidates_10 rfl ⟨by decide, by decide⟩ ?_
  refine WP_istore_n (ls1 := [vR (o + 1), vR a, vI (fX2_length E1 a), vI 0]) dX1_readCandidates_11 (by decide) rfl ?_
  exact cut12_ _ _ _ h
