set_option maxRecDepth 100000 in
set_option maxHeartbeats 4000000 in
theorem V_X1_tellAs {o : Nat} (ho : o = 9 ∨ o = 25) {a : Nat} (ha : a = 9 ∨ a = 25) {D : HP} {Q : Option MV → HP → Prop}
    (h0 : cD D → (Q none (hc (hc (hc (hc (hc (hc (hc (hc (hu (hu (hu (hu D (o + 1) 0 (D (a + 1) 0)) (o + 1) 1 ((hu D (o + 1) 0 (D (a + 1) 0)) (a + 1) 1)) (o + 1) 2 ((hu (hu D (o + 1) 0 (D (a + 1) 0)) (o + 1) 1 ((hu D (o + 1) 0 (D (a + 1) 0)) (a + 1) 1)) (a + 1) 2)) (o + 1) 3 ((hu (hu (hu D (o + 1) 0 (D (a + 1) 0)) (o + 1) 1 ((hu D (o + 1) 0 (D (a + 1) 0)) (a + 1) 1)) (o + 1) 2 ((hu (hu D (o + 1) 0 (D (a + 1) 0)) (o + 1) 1 ((hu D (o + 1) 0 (D (a + 1) 0)) (a + 1) 1)) (a + 1) 2)) (a + 1) 3)) (a + 2) 0 (o + 2) 0 25) (a + 3) 0 (o + 3) 0 100) (a + 4) 0 (o + 4) 0 100) (a + 5) 0 (o + 5) 0 12) (a + 6) 0 (o + 6) 0 12) (a + 7) 0 (o + 7) 0 8) (a + 8) 0 (o + 8) 0 8) (a + 9) 0 (o + 9) 0 8)))
    : CT mX1_tellAs [vR (o + 1), vR (a + 1)] D Q := by
  refine CT.of 0 (by decide) (Nat.le_of_ble_eq_true rfl) ?_
  show WP mX1_tellAs Q 0 [vR (o + 1), vR (a + 1)] [] D
  refine WP_cD (fun hcD => ?_)
  have h := h0 hcD
  refine WP_aload_n (z := (o + 1)) dX1_tellAs_0 rfl ?_
  refine WP_aload_n (z := (a + 1)) dX1_tellAs_1 rfl ?_
  refine WP_getI dX1_tellAs_2 fl_RX1_9 (kcC_1 ha) rfl rfl ?_
  refine WP_putI dX1_tellAs_5 fp_RX1_9 (kcC_1 ho) rfl ?_
  refine WP_aload_n (z := (o + 1)) dX1_tellAs_8 rfl ?_
  refine WP_aload_n (z := (a + 1)) dX1_tellAs_9 rfl ?_
  refine WP_getI dX1_tellAs_10 fl_RX1_15 (kcC_1 ha) rfl rfl ?_
  refine WP_putI dX1_tellAs_13 fp_RX1_15 (kcC_1 ho) rfl ?_
  refine WP_aload_n (z := (o + 1)) dX1_tellAs_16 rfl ?_
  refine WP_aload_n (z := (a + 1)) dX1_tellAs_17 rfl ?_
  refine WP_getI dX1_tellAs_18 fl_RX1_18 (kcC_1 ha) rfl rfl ?_
  refine WP_putI dX1_tellAs_21 fp_RX1_18 (kcC_1 ho) rfl ?_
  refine WP_aload_n (z := (o + 1)) dX1_tellAs_24 rfl ?_
  refine WP_aload_n (z := (a + 1)) dX1_tellAs_25 rfl ?_
  refine WP_getI dX1_tellAs_26 fl_RX1_21 (kcC_1 ha) rfl rfl ?_
  refine WP_putI dX1_tellAs_29 fp_RX1_21 (kcC_1 ho) rfl ?_
  refine WP_aload_n (z := (a + 1)) dX1_tellAs_32 rfl ?_
  refine WP_getR (z := (a + 2)) dX1_tellAs_33 fl_RX1_24 (kcC_1 ha) rfl (srC_1_4 ha) ?_
  refine WP_iconst (z := 0) dX1_tellAs_36 rfl ⟨by decide, by decide⟩ ?_
  refine WP_aload_n (z := (o + 1)) dX1_tellAs_37 rfl ?_
  refine WP_getR (z := (o + 2)) dX1_tellAs_38 fl_RX1_24 (kcC_1 ho) rfl (srC_1_4 ho) ?_
  refine WP_iconst (z := 0) dX1_tellAs_41 rfl ⟨by decide, by decide⟩ ?_
  refine WP_bipush (z := 25) dX1_tellAs_42 rfl (by decide) ?_
  refine WP_copy dX1_tellAs_44 wm_542 w_copy ⟨Nat.le_of_ble_eq_true rfl, Nat.le_of_ble_eq_true rfl⟩ (Nat.le_of_ble_eq_true rfl) (kcC_2 ha) (kcC_2 ho) (by decide) (by decide) (by decide) (by decide) (by decide) ?_
  refine WP_aload_n (z := (a + 1)) dX1_tellAs_47 rfl ?_
  refine WP_getR (z := (a + 3)) dX1_tellAs_48 fl_RX1_28 (kcC_1 ha) rfl (srC_1_5 ha) ?_
  refine WP_iconst (z := 0) dX1_tellAs_51 rfl ⟨by decide, by decide⟩ ?_
  refine WP_aload_n (z := (o + 1)) dX1_tellAs_52 rfl ?_
  refine WP_getR (z := (o + 3)) dX1_tellAs_53 fl_RX1_28 (kcC_1 ho) rfl (srC_1_5 ho) ?_
  refine WP_iconst (z := 0) dX1_tellAs_56 rfl ⟨by decide, by decide⟩ ?_
  refine WP_bipush (z := 100) dX1_tellAs_57 rfl (by decide) ?_
  refine WP_copy dX1_tellAs_59 wm_542 w_copy ⟨Nat.le_of_ble_eq_true rfl, Nat.le_of_ble_eq_true rfl⟩ (Nat.le_of_ble_eq_true rfl) (kcC_3 ha) (kcC_3 ho) (by decide) (by decide) (by decide) (by decide) (by decide) ?_
  refine WP_aload_n (z := (a + 1)) dX1_tellAs_62 rfl ?_
  refine WP_getR (z := (a + 4)) dX1_tellAs_63 fl_RX1_31 (kcC_1 ha) rfl (srC_1_6 ha) ?_
  refine WP_iconst (z := 0) dX1_tellAs_66 rfl ⟨by decide, by decide⟩ ?_
  refine WP_aload_n (z := (o + 1)) dX1_tellAs_67 rfl ?_
  refine WP_getR (z := (o + 4)) dX1_tellAs_68 fl_RX1_31 (kcC_1 ho) rfl (srC_1_6 ho) ?_
  refine WP_iconst (z := 0) dX1_tellAs_71 rfl ⟨by decide, by decide⟩ ?_
  refine WP_bipush (z := 100) dX1_tellAs_72 rfl (by decide) ?_
  refine WP_copy dX1_tellAs_74 wm_542 w_copy ⟨Nat.le_of_ble_eq_true rfl, Nat.le_of_ble_eq_true rfl⟩ (Nat.le_of_ble_eq_true rfl) (kcC_4 ha) (kcC_4 ho) (by decide) (by decide) (by decide) (by decide) (by decide) ?_
  refine WP_aload_n (z := (a + 1)) dX1_tellAs_77 rfl ?_
  refine WP_getR (z := (a + 5)) dX1_tellAs_78 fl_RX1_34 (kcC_1 ha) rfl (srC_1_7 ha) ?_
  refine WP_iconst (z := 0) dX1_tellAs_81 rfl ⟨by decide, by decide⟩ ?_
  refine WP_aload_n (z := (o + 1)) dX1_tellAs_82 rfl ?_
  refine WP_getR (z := (o + 5)) dX1_tellAs_83 fl_RX1_34 (kcC_1 ho) rfl (srC_1_7 ho) ?_
  refine WP_iconst (z := 0) dX1_tellAs_86 rfl ⟨by decide, by decide⟩ ?_
  refine WP_bipush (z := 12) dX1_tellAs_87 rfl (by decide) ?_
  refine WP_copy dX1_tellAs_89 wm_542 w_copy ⟨Nat.le_of_ble_eq_true rfl, Nat.le_of_ble_eq_true rfl⟩ (Nat.le_of_ble_eq_true rfl) (kcC_5 ha) (kcC_5 ho) (by decide) (by decide) (by decide) (by decide) (by decide) ?_
  refine WP_aload_n (z := (a + 1)) dX1_tellAs_92 rfl ?_
  refine WP_getR (z := (a + 6)) dX1_tellAs_93 fl_RX1_37 (kcC_1 ha) rfl (srC_1_8 ha) ?_
  refine WP_iconst (z := 0) dX1_tellAs_96 rfl ⟨by decide, by decide⟩ ?_
  refine WP_aload_n (z := (o + 1)) dX1_tellAs_97 rfl ?_
  refine WP_getR (z := (o + 6)) dX1_tellAs_98 fl_RX1_37 (kcC_1 ho) rfl (srC_1_8 ho) ?_
  refine WP_iconst (z := 0) dX1_tellAs_101 rfl ⟨by decide, by decide⟩ ?_
  refine WP_bipush (z := 12) dX1_tellAs_102 rfl (by decide) ?_
  refine WP_copy dX1_tellAs_104 wm_542 w_copy ⟨Nat.le_of_ble_eq_true rfl, Nat.le_of_ble_eq_true rfl⟩ (Nat.le_of_ble_eq_true rfl) (kcC_6 ha) (kcC_6 ho) (by decide) (by decide) (by decide) (by decide) (by decide) ?_
  refine WP_aload_n (z := (a + 1)) dX1_tellAs_107 rfl ?_
  refine WP_getR (z := (a + 7)) dX1_tellAs_108 fl_RX1_40 (kcC_1 ha) rfl (srC_1_9 ha) ?_
  refine WP_iconst (z := 0) dX1_tellAs_111 rfl ⟨by decide, by decide⟩ ?_
  refine WP_aload_n (z := (o + 1)) dX1_tellAs_112 rfl ?_
  refine WP_getR (z := (o + 7)) dX1_tellAs_113 fl_RX1_40 (kcC_1 ho) rfl (srC_1_9 ho) ?_
  refine WP_iconst (z := 0) dX1_tellAs_116 rfl ⟨by decide, by decide⟩ ?_
  refine WP_bipush (z := 8) dX1_tellAs_117 rfl (by decide) ?_
  refine WP_copy dX1_tellAs_119 wm_542 w_copy ⟨Nat.le_of_ble_eq_true rfl, Nat.le_of_ble_eq_true rfl⟩ (Nat.le_of_ble_eq_true rfl) (kcC_7 ha) (kcC_7 ho) (by decide) (by decide) (by decide) (by decide) (by decide) ?_
  refine WP_aload_n (z := (a + 1)) dX1_tellAs_122 rfl ?_
  refine WP_getR (z := (a + 8)) dX1_tellAs_123 fl_RX1_43 (kcC_1 ha) rfl (srC_1_10 ha) ?_
  refine WP_iconst (z := 0) dX1_tellAs_126 rfl ⟨by decide, by decide⟩ ?_
  refine WP_aload_n (z := (o + 1)) dX1_tellAs_127 rfl ?_
  refine WP_getR (z := (o + 8)) dX1_tellAs_128 fl_RX1_43 (kcC_1 ho) rfl (srC_1_10 ho) ?_
  refine WP_iconst (z := 0) dX1_tellAs_131 rfl ⟨by decide, by decide⟩ ?_
  refine WP_bipush (z := 8) dX1_tellAs_132 rfl (by decide) ?_
  refine WP_copy dX1_tellAs_134 wm_542 w_copy ⟨Nat.le_of_ble_eq_true rfl, Nat.le_of_ble_eq_true rfl⟩ (Nat.le_of_ble_eq_true rfl) (kcC_8 ha) (kcC_8 ho) (by decide) (by decide) (by decide) (by decide) (by decide) ?_
  refine WP_aload_n (z := (a + 1)) dX1_tellAs_137 rfl ?_
  refine WP_getR (z := (a + 9)) dX1_tellAs_138 fl_RX1_46 (kcC_1 ha) rfl (srC_1_11 ha) ?_
  refine WP_iconst (z := 0) dX1_tellAs_141 rfl ⟨by decide, by decide⟩ ?_
  refine WP_aload_n (z := (o + 1)) dX1_tellAs_142 rfl ?_
  refine WP_getR (z := (o + 9)) dX1_tellAs_143 fl_RX1_46 (kcC_1 ho) rfl (srC_1_11 ho) ?_
  refine WP_iconst (z := 0) dX1_tellAs_146 rfl ⟨by decide, by decide⟩ ?_
  refine WP_bipush (z := 8) dX1_tellAs_147 rfl (by decide) ?_
  refine WP_copy dX1_tellAs_149 wm_542 w_copy ⟨Nat.le_of_ble_eq_true rfl, Nat.le_of_ble_eq_true rfl⟩ (Nat.le_of_ble_eq_true rfl) (kcC_9 ha) (kcC_9 ho) (by decide) (by decide) (by decide) (by decide) (by decide) ?_
  exact WP_return dX1_tellAs_152 rfl h
set_option maxRecDepth 100000 in
set_option maxHeartbeats 4000000 in
theorem V_X1_addCell {o : Nat} (ho : o = 9 ∨ o = 25) (a : Int) {D : HP} {Q : Option MV → HP → Prop}
    (h0 : cD D → c32 a → (((D (o + 1) 1) < 0 → (Q none D)) ∧ (¬ ((D (o + 1) 1) < 0) → ((25 ≤ (D (o + 1) 1) → (Q none D)) ∧ (¬ (25 ≤ (D (o + 1) 1)) → ((0 ≤ (D (o + 1) 1) ∧ (D (o + 1) 1) < 25) ∧ ((c32 (((hu D (o + 2) ((D (o + 1) 1)).toNat a) (o + 1) 1) + 1)) ∧ (Q none (hu (hu D (o + 2) ((D (o + 1) 1)).toNat a) (o + 1) 1 (((hu D (o + 2) ((D (o + 1) 1)).toNat a) (o + 1) 1) + 1))))))))))
    : CT mX1_addCell [vR (o + 1), vI a] D Q := by
  refine CT.of 0 (by decide) (Nat.le_of_ble_eq_true rfl) ?_
  show WP mX1_addCell Q 0 [vR (o + 1), vI a] [] D
  refine WP_cD (fun hcD => ?_)
  refine WP_cl (fun hcl => ?_)
  have h := h0 hcD (cVs_g hcl (i := 1) (v := vI a) rfl)
  refine WP_aload_n (z := (o + 1)) dX1_addCell_0 rfl ?_
  refine WP_getI dX1_addCell_1 fl_RX1_15 (kcC_1 ho) rfl rfl ?_
  refine WP_if_lt (tgt := 36) dX1_addCell_4 (by decide) (fun c1 => ?_) (fun c1 => ?_)
  · replace h := h.1 c1
    exact WP_return dX1_addCell_36 rfl h
  · replace h := h.2 c1
    refine WP_aload_n (z := (o + 1)) dX1_addCell_7 rfl ?_
    refine WP_getI dX1_addCell_8 fl_RX1_15 (kcC_1 ho) rfl rfl ?_
    refine WP_bipush (z := 25) dX1_addCell_11 rfl (by decide) ?_
    refine WP_icmp_ge (tgt := 36) dX1_addCell_13 (by decide) (fun c2 => ?_) (fun c2 => ?_)
    · replace h := h.1 c2
      exact WP_return dX1_addCell_36 rfl h
    · replace h := h.2 c2
      refine WP_aload_n (z := (o + 1)) dX1_addCell_16 rfl ?_
      refine WP_getR (z := (o + 2)) dX1_addCell_17 fl_RX1_24 (kcC_1 ho) rfl (srC_1_4 ho) ?_
      refine WP_aload_n (z := (o + 1)) dX1_addCell_20 rfl ?_
      refine WP_getI dX1_addCell_21 fl_RX1_15 (kcC_1 ho) rfl rfl ?_
      refine WP_iload_n (z := a) dX1_addCell_24 rfl ?_
      obtain ⟨o4, h⟩ := h
      refine WP_iast dX1_addCell_25 (kcC_2 ho) o4.1 o4.2 ?_
      refine WP_aload_n (z := (o + 1)) dX1_addCell_26 rfl ?_
      refine WP_dup dX1_addCell_27 (Nat.ne_of_beq_eq_false rfl) ?_
      refine WP_getI dX1_addCell_28 fl_RX1_15 (kcC_1 ho) rfl rfl ?_
      refine WP_iconst (z := 1) dX1_addCell_31 rfl ⟨by decide, by decide⟩ ?_
      obtain ⟨o3, h⟩ := h
      refine WP_iadd (z := (((hu D (o + 2) ((D (o + 1) 1)).toNat a) (o + 1) 1) + 1)) dX1_addCell_32 (w32_id o3) ?_
      refine WP_putI dX1_addCell_33 fp_RX1_15 (kcC_1 ho) rfl ?_
      exact WP_return dX1_addCell_36 rfl h
set_option maxRecDepth 100000 in
set_option maxHeartbeats 4000000 in
theorem V_X1_readRows {o : Nat} (ho : o = 9 ∨ o = 25) {a : Nat} (ha : a = 2 ∨ a = 3 ∨ a = 4) {D : HP} {Q : Option MV → HP → Prop} (I13 : Int → Int → Int → Int → HP → Prop) (u13 : Int → Int → Int → Int → HP → Nat)
    (h0 : cD D → (I13 0 0 (fX2_length D a) 0 D))
    (h13 : ∀ (x2 x3 x4 x5 : Int) (D : HP), I13 x2 x3 x4 x5 D → cD D → c32 x2 → c32 x3 → c32 x4 → c32 x5 → ((x4 ≤ x5 → ((x2 = 0 → (Q (some (vI (if x3 ≤ 0 then (x4 : Int) else (if x3 = ((hu D (o + 1) 0 x3) (o + 1) 0) then ((-1) : Int) else x4)))) (hu D (o + 1) 0 x3))) ∧ (¬ (x2 = 0) → (Q (some (vI (if x3 ≤ 0 then (x4 : Int) else (if x3 = (D (o + 1) 0) then ((-1) : Int) else x4)))) D)))) ∧ (¬ (x4 ≤ x5) → ((oX2_at D a x5) ∧ ((x2 = 5 → (Q (some (vI x5)) D)) ∧ (¬ (x2 = 5) → (((fX2_at D a x5) = 59 → (((if x3 ≤ 0 then (0 : Int) else (if x2 = 0 then (1 : Int) else (if x3 = (D (o + 1) 0) then (1 : Int) else 0))) = 0 → (((fX2_at D a x5) = 46 → (((if x2 = 0 then (5 : Int) else (D (o + 1) 0)) ≤ x3 → (Q (some (vI x5)) D)) ∧ (¬ ((if x2 = 0 then (5 : Int) else (D (o + 1) 0)) ≤ x3) → (∃ Q16 : Option MV → HP → Prop, CT mX1_addCell [vR (o + 1), vI (if (fX2_at D a x5) = 35 then (1 : Int) else 0)] D Q16 ∧ ∀ (D19 : HP), Q16 none D19 → cD D19 → ((c32 (x3 + 1)) ∧ ((c32 (x5 + 1)) ∧ (I13 x2 (x3 + 1) x4 (x5 + 1) D19 ∧ u13 x2 (x3 + 1) x4 (x5 + 1) D19 < u13 x2 x3 x4 x5 D))))))) ∧ (¬ ((fX2_at D a x5) = 46) → (((fX2_at D a x5) = 35 → (((if x2 = 0 then (5 : Int) else (D (o + 1) 0)) ≤ x3 → (Q (some (vI x5)) D)) ∧ (¬ ((if x2 = 0 then (5 : Int) else (D (o + 1) 0)) ≤ x3) → (∃ Q31 : Option MV → HP → Prop, CT mX1_addCell [vR (o + 1), vI (if (fX2_at D a x5) = 35 then (1 : Int) else 0)] D Q31 ∧ ∀ (D34 : HP), Q31 none D34 → cD D34 → ((c32 (x3 + 1)) ∧ ((c32 (x5 + 1)) ∧ (I13 x2 (x3 + 1) x4 (x5 + 1) D34 ∧ u13 x2 (x3 + 1) x4 (x5 + 1) D34 < u13 x2 x3 x4 x5 D))))))) ∧ (¬ ((fX2_at D a x5) = 35) → (Q (some (vI x5)) D)))))) ∧ (¬ ((if x3 ≤ 0 then (0 : Int) else (if x2 = 0 then (1 : Int) else (if x3 = (D (o + 1) 0) then (1 : Int) else 0))) = 0) → ((c32 (x2 + 1)) ∧ ((c32 (x5 + 1)) ∧ (I13 (x2 + 1) 0 x4 (x5 + 1) (hu D (o + 1) 0 x3) ∧ u13 (x2 + 1) 0 x4 (x5 + 1) (hu D (o + 1) 0 x3) < u13 x2 x3 x4 x5 D)))))) ∧ (¬ ((fX2_at D a x5) = 59) → (((fX2_at D a x5) = 46 → (((if x2 = 0 then (5 : Int) else (D (o + 1) 0)) ≤ x3 → (Q (some (vI x5)) D)) ∧ (¬ ((if x2 = 0 then (5 : Int) else (D (o + 1) 0)) ≤ x3) → (∃ Q48 : Option MV → HP → Prop, CT mX1_addCell [vR (o + 1), vI (if (fX2_at D a x5) = 35 then (1 : Int) else 0)] D Q48 ∧ ∀ (D51 : HP), Q48 none D51 → cD D51 → ((c32 (x3 + 1)) ∧ ((c32 (x5 + 1)) ∧ (I13 x2 (x3 + 1) x4 (x5 + 1) D51 ∧ u13 x2 (x3 + 1) x4 (x5 + 1) D51 < u13 x2 x3 x4 x5 D))))))) ∧ (¬ ((fX2_at D a x5) = 46) → (((fX2_at D a x5) = 35 → (((if x2 = 0 then (5 : Int) else (D (o + 1) 0)) ≤ x3 → (Q (some (vI x5)) D)) ∧ (¬ ((if x2 = 0 then (5 : Int) else (D (o + 1) 0)) ≤ x3) → (∃ Q63 : Option MV → HP → Prop, CT mX1_addCell [vR (o + 1), vI (if (fX2_at D a x5) = 35 then (1 : Int) else 0)] D Q63 ∧ ∀ (D66 : HP), Q63 none D66 → cD D66 → ((c32 (x3 + 1)) ∧ ((c32 (x5 + 1)) ∧ (I13 x2 (x3 + 1) x4 (x5 + 1) D66 ∧ u13 x2 (x3 + 1) x4 (x5 + 1) D66 < u13 x2 x3 x4 x5 D))))))) ∧ (¬ ((fX2_at D a x5) = 35) → (Q (some (vI x5)) D)))))))))))))
    : CT mX1_readRows [vR (o + 1), vR a] D Q := by
  refine CT.of 6 (by decide) (Nat.le_of_ble_eq_true rfl) ?_
  show WP mX1_readRows Q 0 [vR (o + 1), vR a, vU, vU, vU, vU, vU, vU] [] D
  have IH : ∀ n : Nat, (∀ (x2 x3 x4 x5 : Int) (D : HP), I13 x2 x3 x4 x5 D → u13 x2 x3 x4 x5 D * 1 + 0 < n → WP mX1_readRows Q 13 [vR (o + 1), vR a, vI x2, vI x3, vI x4, vI x5, vU, vU] [] D) := by
    intro n
    induction n with
    | zero => exact fun _ _ _ _ _ _ h => absurd h (Nat.not_lt_zero _)
    | succ n ih =>
      have ih13_ := ih
      · intro x2 x3 x4 x5 D hI hn
        refine WP_cD (fun hcD => ?_)
        refine WP_cl (fun hcl => ?_)
        have h := h13 x2 x3 x4 x5 D hI hcD (cVs_g hcl (i := 2) (v := vI x2) rfl) (cVs_g hcl (i := 3) (v := vI x3) rfl) (cVs_g hcl (i := 4) (v := vI x4) rfl) (cVs_g hcl (i := 5) (v := vI x5) rfl)
        refine WP_iload (z := x5) dX1_readRows_13 rfl ?_
        refine WP_iload (z := x4) dX1_readRows_15 rfl ?_
        refine WP_icmp_ge (tgt := 145) dX1_readRows_17 (by decide) (fun c1 => ?_) (fun c1 => ?_)
        · replace h := h.1 c1
          refine WP_iload_n (z := x2) dX1_readRows_145 rfl ?_
          refine WP_if_ne (tgt := 154) dX1_readRows_146 (by decide) (fun c2 => ?_) (fun c2 => ?_)
          · replace h := h.2 c2
            refine WP_iload_n (z := x3) dX1_readRows_154 rfl ?_
            refine WP_via (pc1 := 172) (ls1 := [vR (o + 1), vR a, vI x2, vI x3, vI x4, vI x5, vU, vU]) (st1 := [vI (if x3 ≤ 0 then (x4 : Int) else (if x3 = (D (o + 1) 0) then ((-1) : Int) else x4))]) (D1 := D) (fun hJ7 => ?_) ?_
            · refine WP_if_le (tgt := 170) dX1_readRows_155 (by decide) (fun c8 => ?_) (fun c8 => ?_)
              · replace hJ7 := ite_t (P := fun v_ : Int => WP mX1_readRows Q 172 [vR (o + 1), vR a, vI x2, vI x3, vI x4, vI x5, vU, vU] [vI v_] D) hJ7 c8
                refine WP_iload (z := x4) dX1_readRows_170 rfl ?_
                exact hJ7
              · replace hJ7 := ite_f (P := fun v_ : Int => WP mX1_readRows Q 172 [vR (o + 1), vR a, vI x2, vI x3, vI x4, vI x5, vU, vU] [vI v_] D) hJ7 c8
                refine WP_iload_n (z := x3) dX1_readRows_158 rfl ?_
                refine WP_aload_n (z := (o + 1)) dX1_readRows_159 rfl ?_
                refine WP_getI dX1_readRows_160 fl_RX1_9 (kcC_1 ho) rfl rfl ?_
                refine WP_via (pc1 := 172) (ls1 := [vR (o + 1), vR a, vI x2, vI x3, vI x4, vI x5, vU, vU]) (st1 := [vI (if x3 = (D (o + 1) 0) then ((-1) : Int) else x4)]) (D1 := D) (fun hJ9 => ?_) ?_
                · refine WP_icmp_ne (tgt := 170) dX1_readRows_163 (by decide) (fun c10 => ?_) (fun c10 => ?_)
                  · replace hJ9 := ite_f (P := fun v_ : Int => WP mX1_readRows Q 172 [vR (o + 1), vR a, vI x2, vI x3, vI x4, vI x5, vU, vU] [vI v_] D) hJ9 c10
                    refine WP_iload (z := x4) dX1_readRows_170 rfl ?_
                    exact hJ9
                  · replace hJ9 := ite_t (P := fun v_ : Int => WP mX1_readRows Q 172 [vR (o + 1), vR a, vI x2, vI x3, vI x4, vI x5, vU, vU] [vI v_] D) hJ9 c10
                    refine WP_iconst (z := (-1)) dX1_readRows_166 rfl ⟨by decide, by decide⟩ ?_
                    refine WP_goto (tgt := 172) dX1_readRows_167 (by decide) ?_
                    exact hJ9
                exact hJ7
            · exact WP_ireturn dX1_readRows_172 rfl h
          · replace h := h.1 c2
            refine WP_aload_n (z := (o + 1)) dX1_readRows_149 rfl ?_
            refine WP_iload_n (z := x3) dX1_readRows_150 rfl ?_
            refine WP_putI dX1_readRows_151 fp_RX1_9 (kcC_1 ho) rfl ?_
            refine WP_iload_n (z := x3) dX1_readRows_154 rfl ?_
            refine WP_via (pc1 := 172) (ls1 := [vR (o + 1), vR a, vI x2, vI x3, vI x4, vI x5, vU, vU]) (st1 := [vI (if x3 ≤ 0 then (x4 : Int) else (if x3 = ((hu D (o + 1) 0 x3) (o + 1) 0) then ((-1) : Int) else x4))]) (D1 := (hu D (o + 1) 0 x3)) (fun hJ3 => ?_) ?_
            · refine WP_if_le (tgt := 170) dX1_readRows_155 (by decide) (fun c4 => ?_) (fun c4 => ?_)
              · replace hJ3 := ite_t (P := fun v_ : Int => WP mX1_readRows Q 172 [vR (o + 1), vR a, vI x2, vI x3, vI x4, vI x5, vU, vU] [vI v_] (hu D (o + 1) 0 x3)) hJ3 c4
                refine WP_iload (z := x4) dX1_readRows_170 rfl ?_
                exact hJ3
              · replace hJ3 := ite_f (P := fun v_ : Int => WP mX1_readRows Q 172 [vR (o + 1), vR a, vI x2, vI x3, vI x4, vI x5, vU, vU] [vI v_] (hu D (o + 1) 0 x3)) hJ3 c4
                refine WP_iload_n (z := x3) dX1_readRows_158 rfl ?_
                refine WP_aload_n (z := (o + 1)) dX1_readRows_159 rfl ?_
                refine WP_getI dX1_readRows_160 fl_RX1_9 (kcC_1 ho) rfl rfl ?_
                refine WP_via (pc1 := 172) (ls1 := [vR (o + 1), vR a, vI x2, vI x3, vI x4, vI x5, vU, vU]) (st1 := [vI (if x3 = ((hu D (o + 1) 0 x3) (o + 1) 0) then ((-1) : Int) else x4)]) (D1 := (hu D (o + 1) 0 x3)) (fun hJ5 => ?_) ?_
                · refine WP_icmp_ne (tgt := 170) dX1_readRows_163 (by decide) (fun c6 => ?_) (fun c6 => ?_)
                  · replace hJ5 := ite_f (P := fun v_ : Int => WP mX1_readRows Q 172 [vR (o + 1), vR a, vI x2, vI x3, vI x4, vI x5, vU, vU] [vI v_] (hu D (o + 1) 0 x3)) hJ5 c6
                    refine WP_iload (z := x4) dX1_readRows_170 rfl ?_
                    exact hJ5
                  · replace hJ5 := ite_t (P := fun v_ : Int => WP mX1_readRows Q 172 [vR (o + 1), vR a, vI x2, vI x3, vI x4, vI x5, vU, vU] [vI v_] (hu D (o + 1) 0 x3)) hJ5 c6
                    refine WP_iconst (z := (-1)) dX1_readRows_166 rfl ⟨by decide, by decide⟩ ?_
                    refine WP_goto (tgt := 172) dX1_readRows_167 (by decide) ?_
                    exact hJ5
                exact hJ3
            · exact WP_ireturn dX1_readRows_172 rfl h
        · replace h := h.2 c1
          refine WP_aload_n (z := a) dX1_readRows_20 rfl ?_
          refine WP_iload (z := x5) dX1_readRows_21 rfl ?_
          obtain ⟨o82, h⟩ := h
          refine WP_pcallV (g := mX2_at) (as := [vI x5]) (rest := []) (n := 1) (r := vI (fX2_at D a x5)) dX1_readRows_23 wm_151 mo_X2_at (kcT_0 ha) rfl rfl rfl ⟨Nat.le_of_ble_eq_true rfl, Nat.le_of_ble_eq_true rfl⟩ (Nat.le_of_ble_eq_true rfl) (P_X2_at ha o82) ?_
          refine WP_istore (ls1 := [vR (o + 1), vR a, vI x2, vI x3, vI x4, vI x5, vI (fX2_at D a x5), vU]) dX1_readRows_26 (by decide) rfl ?_
          refine WP_iload_n (z := x3) dX1_readRows_28 rfl ?_
          refine WP_via (pc1 := 49) (ls1 := [vR (o + 1), vR a, vI x2, vI x3, vI x4, vI x5, vI (fX2_at D a x5), vU]) (st1 := [vI (if x3 ≤ 0 then (0 : Int) else (if x2 = 0 then (1 : Int) else (if x3 = (D (o + 1) 0) then (1 : Int) else 0)))]) (D1 := D) (fun hJ76 => ?_) ?_
          · refine WP_if_le (tgt := 48) dX1_readRows_29 (by decide) (fun c77 => ?_) (fun c77 => ?_)
            · replace hJ76 := ite_t (P := fun v_ : Int => WP mX1_readRows Q 49 [vR (o + 1), vR a, vI x2, vI x3, vI x4, vI x5, vI (fX2_at D a x5), vU] [vI v_] D) hJ76 c77
              refine WP_iconst (z := 0) dX1_readRows_48 rfl ⟨by decide, by decide⟩ ?_
              exact hJ76
            · replace hJ76 := ite_f (P := fun v_ : Int => WP mX1_readRows Q 49 [vR (o + 1), vR a, vI x2, vI x3, vI x4, vI x5, vI (fX2_at D a x5), vU] [vI v_] D) hJ76 c77
              refine WP_iload_n (z := x2) dX1_readRows_32 rfl ?_
              refine WP_via (pc1 := 49) (ls1 := [vR (o + 1), vR a, vI x2, vI x3, vI x4, vI x5, vI (fX2_at D a x5), vU]) (st1 := [vI (if x2 = 0 then (1 : Int) else (if x3 = (D (o + 1) 0) then (1 : Int) else 0))]) (D1 := D) (fun hJ78 => ?_) ?_
              · refine WP_if_eq (tgt := 44) dX1_readRows_33 (by decide) (fun c79 => ?_) (fun c79 => ?_)
                · replace hJ78 := ite_t (P := fun v_ : Int => WP mX1_readRows Q 49 [vR (o + 1), vR a, vI x2, vI x3, vI x4, vI x5, vI (fX2_at D a x5), vU] [vI v_] D) hJ78 c79
                  refine WP_iconst (z := 1) dX1_readRows_44 rfl ⟨by decide, by decide⟩ ?_
                  refine WP_goto (tgt := 49) dX1_readRows_45 (by decide) ?_
                  exact hJ78
                · replace hJ78 := ite_f (P := fun v_ : Int => WP mX1_readRows Q 49 [vR (o + 1), vR a, vI x2, vI x3, vI x4, vI x5, vI (fX2_at D a x5), vU] [vI v_] D) hJ78 c79
                  refine WP_iload_n (z := x3) dX1_readRows_36 rfl ?_
                  refine WP_aload_n (z := (o + 1)) dX1_readRows_37 rfl ?_
                  refine WP_getI dX1_readRows_38 fl_RX1_9 (kcC_1 ho) rfl rfl ?_
                  refine WP_via (pc1 := 49) (ls1 := [vR (o + 1), vR a, vI x2, vI x3, vI x4, vI x5, vI (fX2_at D a x5), vU]) (st1 := [vI (if x3 = (D (o + 1) 0) then (1 : Int) else 0)]) (D1 := D) (fun hJ80 => ?_) ?_
                  · refine WP_icmp_ne (tgt := 48) dX1_readRows_41 (by decide) (fun c81 => ?_) (fun c81 => ?_)
                    · replace hJ80 := ite_f (P := fun v_ : Int => WP mX1_readRows Q 49 [vR (o + 1), vR a, vI x2, vI x3, vI x4, vI x5, vI (fX2_at D a x5), vU] [vI v_] D) hJ80 c81
                      refine WP_iconst (z := 0) dX1_readRows_48 rfl ⟨by decide, by decide⟩ ?_
                      exact hJ80
                    · replace hJ80 := ite_t (P := fun v_ : Int => WP mX1_readRows Q 49 [vR (o + 1), vR a, vI x2, vI x3, vI x4, vI x5, vI (fX2_at D a x5), vU] [vI v_] D) hJ80 c81
                      refine WP_iconst (z := 1) dX1_readRows_44 rfl ⟨by decide, by decide⟩ ?_
                      refine WP_goto (tgt := 49) dX1_readRows_45 (by decide) ?_
                      exact hJ80
                  exact hJ78
              exact hJ76
          · refine WP_istore (ls1 := [vR (o + 1), vR a, vI x2, vI x3, vI x4, vI x5, vI (fX2_at D a x5), vI (if x3 ≤ 0 then (0 : Int) else (if x2 = 0 then (1 : Int) else (if x3 = (D (o + 1) 0) then (1 : Int) else 0)))]) dX1_readRows_49 (by decide) rfl ?_
            refine WP_iload_n (z := x2) dX1_readRows_51 rfl ?_
            refine WP_iconst (z := 5) dX1_readRows_52 rfl ⟨by decide, by decide⟩ ?_
            refine WP_icmp_ne (tgt := 59) dX1_readRows_53 (by decide) (fun c11 => ?_) (fun c11 => ?_)
            · replace h := h.2 c11
              refine WP_iload (z := (fX2_at D a x5)) dX1_readRows_59 rfl ?_
              refine WP_bipush (z := 59) dX1_readRows_61 rfl (by decide) ?_
              refine WP_icmp_ne (tgt := 84) dX1_readRows_63 (by decide) (fun c12 => ?_) (fun c12 => ?_)
              · replace h := h.2 c12
                refine WP_iload (z := (fX2_at D a x5)) dX1_readRows_84 rfl ?_
                refine WP_bipush (z := 46) dX1_readRows_86 rfl (by decide) ?_
                refine WP_icmp_eq (tgt := 98) dX1_readRows_88 (by decide) (fun c46 => ?_) (fun c46 => ?_)
                · replace h := h.1 c46
                  refine WP_iload_n (z := x3) dX1_readRows_98 rfl ?_
                  refine WP_iload_n (z := x2) dX1_readRows_99 rfl ?_
                  refine WP_via (pc1 := 111) (ls1 := [vR (o + 1), vR a, vI x2, vI x3, vI x4, vI x5, vI (fX2_at D a x5), vI (if x3 ≤ 0 then (0 : Int) else (if x2 = 0 then (1 : Int) else (if x3 = (D (o + 1) 0) then (1 : Int) else 0)))]) (st1 := [vI (if x2 = 0 then (5 : Int) else (D (o + 1) 0)), vI x3]) (D1 := D) (fun hJ59 => ?_) ?_
                  · refine WP_if_ne (tgt := 107) dX1_readRows_100 (by decide) (fun c60 => ?_) (fun c60 => ?_)
                    · replace hJ59 := ite_f (P := fun v_ : Int => WP mX1_readRows Q 111 [vR (o + 1), vR a, vI x2, vI x3, vI x4, vI x5, vI (fX2_at D a x5), vI (if x3 ≤ 0 then (0 : Int) else (if x2 = 0 then (1 : Int) else (if x3 = (D (o + 1) 0) then (1 : Int) else 0)))] [vI v_, vI x3] D) hJ59 c60
                      refine WP_aload_n (z := (o + 1)) dX1_readRows_107 rfl ?_
                      refine WP_getI dX1_readRows_108 fl_RX1_9 (kcC_1 ho) rfl rfl ?_
                      exact hJ59
                    · replace hJ59 := ite_t (P := fun v_ : Int => WP mX1_readRows Q 111 [vR (o + 1), vR a, vI x2, vI x3, vI x4, vI x5, vI (fX2_at D a x5), vI (if x3 ≤ 0 then (0 : Int) else (if x2 = 0 then (1 : Int) else (if x3 = (D (o + 1) 0) then (1 : Int) else 0)))] [vI v_, vI x3] D) hJ59 c60
                      refine WP_iconst (z := 5) dX1_readRows_103 rfl ⟨by decide, by decide⟩ ?_
                      refine WP_goto (tgt := 111) dX1_readRows_104 (by decide) ?_
                      exact hJ59
                  · refine WP_icmp_ge (tgt := 136) dX1_readRows_111 (by decide) (fun c47 => ?_) (fun c47 => ?_)
                    · replace h := h.1 c47
                      refine WP_iload (z := x5) dX1_readRows_136 rfl ?_
                      exact WP_ireturn dX1_readRows_138 rfl h
                    · replace h := h.2 c47
                      refine WP_aload_n (z := (o + 1)) dX1_readRows_114 rfl ?_
                      refine WP_iload (z := (fX2_at D a x5)) dX1_readRows_115 rfl ?_
                      refine WP_bipush (z := 35) dX1_readRows_117 rfl (by decide) ?_
                      refine WP_via (pc1 := 127) (ls1 := [vR (o + 1), vR a, vI x2, vI x3, vI x4, vI x5, vI (fX2_at D a x5), vI (if x3 ≤ 0 then (0 : Int) else (if x2 = 0 then (1 : Int) else (if x3 = (D (o + 1) 0) then (1 : Int) else 0)))]) (st1 := [vI (if (fX2_at D a x5) = 35 then (1 : Int) else 0), vR (o + 1)]) (D1 := D) (fun hJ57 => ?_) ?_
                      · refine WP_icmp_ne (tgt := 126) dX1_readRows_119 (by decide) (fun c58 => ?_) (fun c58 => ?_)
                        · replace hJ57 := ite_f (P := fun v_ : Int => WP mX1_readRows Q 127 [vR (o + 1), vR a, vI x2, vI x3, vI x4, vI x5, vI (fX2_at D a x5), vI (if x3 ≤ 0 then (0 : Int) else (if x2 = 0 then (1 : Int) else (if x3 = (D (o + 1) 0) then (1 : Int) else 0)))] [vI v_, vR (o + 1)] D) hJ57 c58
                          refine WP_iconst (z := 0) dX1_readRows_126 rfl ⟨by decide, by decide⟩ ?_
                          exact hJ57
                        · replace hJ57 := ite_t (P := fun v_ : Int => WP mX1_readRows Q 127 [vR (o + 1), vR a, vI x2, vI x3, vI x4, vI x5, vI (fX2_at D a x5), vI (if x3 ≤ 0 then (0 : Int) else (if x2 = 0 then (1 : Int) else (if x3 = (D (o + 1) 0) then (1 : Int) else 0)))] [vI v_, vR (o + 1)] D) hJ57 c58
                          refine WP_iconst (z := 1) dX1_readRows_122 rfl ⟨by decide, by decide⟩ ?_
                          refine WP_goto (tgt := 127) dX1_readRows_123 (by decide) ?_
                          exact hJ57
                      · obtain ⟨Q48, ct50, h⟩ := h
                        refine WP_callV (g := mX1_addCell) (as := [vI (if (fX2_at D a x5) = 35 then (1 : Int) else 0)]) (rest := []) (n := 1) dX1_readRows_127 wm_155 mo_X1_addCell (kcC_1 ho) rfl rfl rfl ⟨Nat.le_of_ble_eq_true rfl, Nat.le_of_ble_eq_true rfl⟩ (Nat.le_of_ble_eq_true rfl) ct50 (fun r_ D51 hq49 hok hD54 => ?_)
                        obtain rfl := hok
                        replace h := h D51 hq49 hD54
                        show WP mX1_readRows Q 130 [vR (o + 1), vR a, vI x2, vI x3, vI x4, vI x5, vI (fX2_at D a x5), vI (if x3 ≤ 0 then (0 : Int) else (if x2 = 0 then (1 : Int) else (if x3 = (D (o + 1) 0) then (1 : Int) else 0)))] [] D51
                        obtain ⟨o56, h⟩ := h
                        refine WP_iinc (z := (x3 + 1)) (ls1 := [vR (o + 1), vR a, vI x2, vI (x3 + 1), vI x4, vI x5, vI (fX2_at D a x5), vI (if x3 ≤ 0 then (0 : Int) else (if x2 = 0 then (1 : Int) else (if x3 = (D (o + 1) 0) then (1 : Int) else 0)))]) dX1_readRows_130 rfl (w32_id o56) (by decide) rfl ?_
                        refine WP_goto (tgt := 139) dX1_readRows_133 (by decide) ?_
                        obtain ⟨o55, h⟩ := h
                        refine WP_iinc (z := (x5 + 1)) (ls1 := [vR (o + 1), vR a, vI x2, vI (x3 + 1), vI x4, vI (x5 + 1), vI (fX2_at D a x5), vI (if x3 ≤ 0 then (0 : Int) else (if x2 = 0 then (1 : Int) else (if x3 = (D (o + 1) 0) then (1 : Int) else 0)))]) dX1_readRows_139 rfl (w32_id o55) (by decide) rfl ?_
                        refine WP_goto (tgt := 13) dX1_readRows_142 (by decide) ?_
                        refine WP_fg 6 (ls1 := [vR (o + 1), vR a, vI x2, vI (x3 + 1), vI x4, vI (x5 + 1), vU, vI (if x3 ≤ 0 then (0 : Int) else (if x2 = 0 then (1 : Int) else (if x3 = (D (o + 1) 0) then (1 : Int) else 0)))]) rfl ?_
                        refine WP_fg 7 (ls1 := [vR (o + 1), vR a, vI x2, vI (x3 + 1), vI x4, vI (x5 + 1), vU, vU]) rfl ?_
                        exact ih13_ _ _ _ _ _ h.1 (by have := h.2; omega)
                · replace h := h.2 c46
                  refine WP_iload (z := (fX2_at D a x5)) dX1_readRows_91 rfl ?_
                  refine WP_bipush (z := 35) dX1_readRows_93 rfl (by decide) ?_
                  refine WP_icmp_ne (tgt := 136) dX1_readRows_95 (by decide) (fun c61 => ?_) (fun c61 => ?_)
                  · replace h := h.2 c61
                    refine WP_iload (z := x5) dX1_readRows_136 rfl ?_
                    exact WP_ireturn dX1_readRows_138 rfl h
                  · replace h := h.1 c61
                    refine WP_iload_n (z := x3) dX1_readRows_98 rfl ?_
                    refine WP_iload_n (z := x2) dX1_readRows_99 rfl ?_
                    refine WP_via (pc1 := 111) (ls1 := [vR (o + 1), vR a, vI x2, vI x3, vI x4, vI x5, vI (fX2_at D a x5), vI (if x3 ≤ 0 then (0 : Int) else (if x2 = 0 then (1 : Int) else (if x3 = (D (o + 1) 0) then (1 : Int) else 0)))]) (st1 := [vI (if x2 = 0 then (5 : Int) else (D (o + 1) 0)), vI x3]) (D1 := D) (fun hJ74 => ?_) ?_
                    · refine WP_if_ne (tgt := 107) dX1_readRows_100 (by decide) (fun c75 => ?_) (fun c75 => ?_)
                      · replace hJ74 := ite_f (P := fun v_ : Int => WP mX1_readRows Q 111 [vR (o + 1), vR a, vI x2, vI x3, vI x4, vI x5, vI (fX2_at D a x5), vI (if x3 ≤ 0 then (0 : Int) else (if x2 = 0 then (1 : Int) else (if x3 = (D (o + 1) 0) then (1 : Int) else 0)))] [vI v_, vI x3] D) hJ74 c75
                        refine WP_aload_n (z := (o + 1)) dX1_readRows_107 rfl ?_
                        refine WP_getI dX1_readRows_108 fl_RX1_9 (kcC_1 ho) rfl rfl ?_
                        exact hJ74
                      · replace hJ74 := ite_t (P := fun v_ : Int => WP mX1_readRows Q 111 [vR (o + 1), vR a, vI x2, vI x3, vI x4, vI x5, vI (fX2_at D a x5), vI (if x3 ≤ 0 then (0 : Int) else (if x2 = 0 then (1 : Int) else (if x3 = (D (o + 1) 0) then (1 : Int) else 0)))] [vI v_, vI x3] D) hJ74 c75
                        refine WP_iconst (z := 5) dX1_readRows_103 rfl ⟨by decide, by decide⟩ ?_
                        refine WP_goto (tgt := 111) dX1_readRows_104 (by decide) ?_
                        exact hJ74
                    · refine WP_icmp_ge (tgt := 136) dX1_readRows_111 (by decide) (fun c62 => ?_) (fun c62 => ?_)
                      · replace h := h.1 c62
                        refine WP_iload (z := x5) dX1_readRows_136 rfl ?_
                        exact WP_ireturn dX1_readRows_138 rfl h
                      · replace h := h.2 c62
                        refine WP_aload_n (z := (o + 1)) dX1_readRows_114 rfl ?_
                        refine WP_iload (z := (fX2_at D a x5)) dX1_readRows_115 rfl ?_
                        refine WP_bipush (z := 35) dX1_readRows_117 rfl (by decide) ?_
                        refine WP_via (pc1 := 127) (ls1 := [vR (o + 1), vR a, vI x2, vI x3, vI x4, vI x5, vI (fX2_at D a x5), vI (if x3 ≤ 0 then (0 : Int) else (if x2 = 0 then (1 : Int) else (if x3 = (D (o + 1) 0) then (1 : Int) else 0)))]) (st1 := [vI (if (fX2_at D a x5) = 35 then (1 : Int) else 0), vR (o + 1)]) (D1 := D) (fun hJ72 => ?_) ?_
                        · refine WP_icmp_ne (tgt := 126) dX1_readRows_119 (by decide) (fun c73 => ?_) (fun c73 => ?_)
                          · replace hJ72 := ite_f (P := fun v_ : Int => WP mX1_readRows Q 127 [vR (o + 1), vR a, vI x2, vI x3, vI x4, vI x5, vI (fX2_at D a x5), vI (if x3 ≤ 0 then (0 : Int) else (if x2 = 0 then (1 : Int) else (if x3 = (D (o + 1) 0) then (1 : Int) else 0)))] [vI v_, vR (o + 1)] D) hJ72 c73
                            refine WP_iconst (z := 0) dX1_readRows_126 rfl ⟨by decide, by decide⟩ ?_
                            exact hJ72
                          · replace hJ72 := ite_t (P := fun v_ : Int => WP mX1_readRows Q 127 [vR (o + 1), vR a, vI x2, vI x3, vI x4, vI x5, vI (fX2_at D a x5), vI (if x3 ≤ 0 then (0 : Int) else (if x2 = 0 then (1 : Int) else (if x3 = (D (o + 1) 0) then (1 : Int) else 0)))] [vI v_, vR (o + 1)] D) hJ72 c73
                            refine WP_iconst (z := 1) dX1_readRows_122 rfl ⟨by decide, by decide⟩ ?_
                            refine WP_goto (tgt := 127) dX1_readRows_123 (by decide) ?_
                            exact hJ72
                        · obtain ⟨Q63, ct65, h⟩ := h
                          refine WP_callV (g := mX1_addCell) (as := [vI (if (fX2_at D a x5) = 35 then (1 : Int) else 0)]) (rest := []) (n := 1) dX1_readRows_127 wm_155 mo_X1_addCell (kcC_1 ho) rfl rfl rfl ⟨Nat.le_of_ble_eq_true rfl, Nat.le_of_ble_eq_true rfl⟩ (Nat.le_of_ble_eq_true rfl) ct65 (fun r_ D66 hq64 hok hD69 => ?_)
                          obtain rfl := hok
                          replace h := h D66 hq64 hD69
                          show WP mX1_readRows Q 130 [vR (o + 1), vR a, vI x2, vI x3, vI x4, vI x5, vI (fX2_at D a x5), vI (if x3 ≤ 0 then (0 : Int) else (if x2 = 0 then (1 : Int) else (if x3 = (D (o + 1) 0) then (1 : Int) else 0)))] [] D66
                          obtain ⟨o71, h⟩ := h
                          refine WP_iinc (z := (x3 + 1)) (ls1 := [vR (o + 1), vR a, vI x2, vI (x3 + 1), vI x4, vI x5, vI (fX2_at D a x5), vI (if x3 ≤ 0 then (0 : Int) else (if x2 = 0 then (1 : Int) else (if x3 = (D (o + 1) 0) then (1 : Int) else 0)))]) dX1_readRows_130 rfl (w32_id o71) (by decide) rfl ?_
                          refine WP_goto (tgt := 139) dX1_readRows_133 (by decide) ?_
                          obtain ⟨o70, h⟩ := h
                          refine WP_iinc (z := (x5 + 1)) (ls1 := [vR (o + 1), vR a, vI x2, vI (x3 + 1), vI x4, vI (x5 + 1), vI (fX2_at D a x5), vI (if x3 ≤ 0 then (0 : Int) else (if x2 = 0 then (1 : Int) else (if x3 = (D (o + 1) 0) then (1 : Int) else 0)))]) dX1_readRows_139 rfl (w32_id o70) (by decide) rfl ?_
                          refine WP_goto (tgt := 13) dX1_readRows_142 (by decide) ?_
                          refine WP_fg 6 (ls1 := [vR (o + 1), vR a, vI x2, vI (x3 + 1), vI x4, vI (x5 + 1), vU, vI (if x3 ≤ 0 then (0 : Int) else (if x2 = 0 then (1 : Int) else (if x3 = (D (o + 1) 0) then (1 : Int) else 0)))]) rfl ?_
                          refine WP_fg 7 (ls1 := [vR (o + 1), vR a, vI x2, vI (x3 + 1), vI x4, vI (x5 + 1), vU, vU]) rfl ?_
                          exact ih13_ _ _ _ _ _ h.1 (by have := h.2; omega)
              · replace h := h.1 c12
                refine WP_iload (z := (if x3 ≤ 0 then (0 : Int) else (if x2 = 0 then (1 : Int) else (if x3 = (D (o + 1) 0) then (1 : Int) else 0)))) dX1_readRows_66 rfl ?_
                refine WP_if_eq (tgt := 84) dX1_readRows_68 (by decide) (fun c13 => ?_) (fun c13 => ?_)
                · replace h := h.1 c13
                  refine WP_iload (z := (fX2_at D a x5)) dX1_readRows_84 rfl ?_
                  refine WP_bipush (z := 46) dX1_readRows_86 rfl (by decide) ?_
                  refine WP_icmp_eq (tgt := 98) dX1_readRows_88 (by decide) (fun c14 => ?_) (fun c14 => ?_)
                  · replace h := h.1 c14
                    refine WP_iload_n (z := x3) dX1_readRows_98 rfl ?_
                    refine WP_iload_n (z := x2) dX1_readRows_99 rfl ?_
                    refine WP_via (pc1 := 111) (ls1 := [vR (o + 1), vR a, vI x2, vI x3, vI x4, vI x5, vI (fX2_at D a x5), vI (if x3 ≤ 0 then (0 : Int) else (if x2 = 0 then (1 : Int) else (if x3 = (D (o + 1) 0) then (1 : Int) else 0)))]) (st1 := [vI (if x2 = 0 then (5 : Int) else (D (o + 1) 0)), vI x3]) (D1 := D) (fun hJ27 => ?_) ?_
                    · refine WP_if_ne (tgt := 107) dX1_readRows_100 (by decide) (fun c28 => ?_) (fun c28 => ?_)
                      · replace hJ27 := ite_f (P := fun v_ : Int => WP mX1_readRows Q 111 [vR (o + 1), vR a, vI x2, vI x3, vI x4, vI x5, vI (fX2_at D a x5), vI (if x3 ≤ 0 then (0 : Int) else (if x2 = 0 then (1 : Int) else (if x3 = (D (o + 1) 0) then (1 : Int) else 0)))] [vI v_, vI x3] D) hJ27 c28
                        refine WP_aload_n (z := (o + 1)) dX1_readRows_107 rfl ?_
                        refine WP_getI dX1_readRows_108 fl_RX1_9 (kcC_1 ho) rfl rfl ?_
                        exact hJ27
                      · replace hJ27 := ite_t (P := fun v_ : Int => WP mX1_readRows Q 111 [vR (o + 1), vR a, vI x2, vI x3, vI x4, vI x5, vI (fX2_at D a x5), vI (if x3 ≤ 0 then (0 : Int) else (if x2 = 0 then (1 : Int) else (if x3 = (D (o + 1) 0) then (1 : Int) else 0)))] [vI v_, vI x3] D) hJ27 c28
                        refine WP_iconst (z := 5) dX1_readRows_103 rfl ⟨by decide, by decide⟩ ?_
                        refine WP_goto (tgt := 111) dX1_readRows_104 (by decide) ?_
                        exact hJ27
                    · refine WP_icmp_ge (tgt := 136) dX1_readRows_111 (by decide) (fun c15 => ?_) (fun c15 => ?_)
                      · replace h := h.1 c15
                        refine WP_iload (z := x5) dX1_readRows_136 rfl ?_
                        exact WP_ireturn dX1_readRows_138 rfl h
                      · replace h := h.2 c15
                        refine WP_aload_n (z := (o + 1)) dX1_readRows_114 rfl ?_
                        refine WP_iload (z := (fX2_at D a x5)) dX1_readRows_115 rfl ?_
                        refine WP_bipush (z := 35) dX1_readRows_117 rfl (by decide) ?_
                        refine WP_via (pc1 := 127) (ls1 := [vR (o + 1), vR a, vI x2, vI x3, vI x4, vI x5, vI (fX2_at D a x5), vI (if x3 ≤ 0 then (0 : Int) else (if x2 = 0 then (1 : Int) else (if x3 = (D (o + 1) 0) then (1 : Int) else 0)))]) (st1 := [vI (if (fX2_at D a x5) = 35 then (1 : Int) else 0), vR (o + 1)]) (D1 := D) (fun hJ25 => ?_) ?_
                        · refine WP_icmp_ne (tgt := 126) dX1_readRows_119 (by decide) (fun c26 => ?_) (fun c26 => ?_)
                          · replace hJ25 := ite_f (P := fun v_ : Int => WP mX1_readRows Q 127 [vR (o + 1), vR a, vI x2, vI x3, vI x4, vI x5, vI (fX2_at D a x5), vI (if x3 ≤ 0 then (0 : Int) else (if x2 = 0 then (1 : Int) else (if x3 = (D (o + 1) 0) then (1 : Int) else 0)))] [vI v_, vR (o + 1)] D) hJ25 c26
                            refine WP_iconst (z := 0) dX1_readRows_126 rfl ⟨by decide, by decide⟩ ?_
                            exact hJ25
                          · replace hJ25 := ite_t (P := fun v_ : Int => WP mX1_readRows Q 127 [vR (o + 1), vR a, vI x2, vI x3, vI x4, vI x5, vI (fX2_at D a x5), vI (if x3 ≤ 0 then (0 : Int) else (if x2 = 0 then (1 : Int) else (if x3 = (D (o + 1) 0) then (1 : Int) else 0)))] [vI v_, vR (o + 1)] D) hJ25 c26
                            refine WP_iconst (z := 1) dX1_readRows_122 rfl ⟨by decide, by decide⟩ ?_
                            refine WP_goto (tgt := 127) dX1_readRows_123 (by decide) ?_
                            exact hJ25
                        · obtain ⟨Q16, ct18, h⟩ := h
                          refine WP_callV (g := mX1_addCell) (as := [vI (if (fX2_at D a x5) = 35 then (1 : Int) else 0)]) (rest := []) (n := 1) dX1_readRows_127 wm_155 mo_X1_addCell (kcC_1 ho) rfl rfl rfl ⟨Nat.le_of_ble_eq_true rfl, Nat.le_of_ble_eq_true rfl⟩ (Nat.le_of_ble_eq_true rfl) ct18 (fun r_ D19 hq17 hok hD22 => ?_)
                          obtain rfl := hok
                          replace h := h D19 hq17 hD22
                          show WP mX1_readRows Q 130 [vR (o + 1), vR a, vI x2, vI x3, vI x4, vI x5, vI (fX2_at D a x5), vI (if x3 ≤ 0 then (0 : Int) else (if x2 = 0 then (1 : Int) else (if x3 = (D (o + 1) 0) then (1 : Int) else 0)))] [] D19
                          obtain ⟨o24, h⟩ := h
                          refine WP_iinc (z := (x3 + 1)) (ls1 := [vR (o + 1), vR a, vI x2, vI (x3 + 1), vI x4, vI x5, vI (fX2_at D a x5), vI (if x3 ≤ 0 then (0 : Int) else (if x2 = 0 then (1 : Int) else (if x3 = (D (o + 1) 0) then (1 : Int) else 0)))]) dX1_readRows_130 rfl (w32_id o24) (by decide) rfl ?_
                          refine WP_goto (tgt := 139) dX1_readRows_133 (by decide) ?_
                          obtain ⟨o23, h⟩ := h
                          refine WP_iinc (z := (x5 + 1)) (ls1 := [vR (o + 1), vR a, vI x2, vI (x3 + 1), vI x4, vI (x5 + 1), vI (fX2_at D a x5), vI (if x3 ≤ 0 then (0 : Int) else (if x2 = 0 then (1 : Int) else (if x3 = (D (o + 1) 0) then (1 : Int) else 0)))]) dX1_readRows_139 rfl (w32_id o23) (by decide) rfl ?_
                          refine WP_goto (tgt := 13) dX1_readRows_142 (by decide) ?_
                          refine WP_fg 6 (ls1 := [vR (o + 1), vR a, vI x2, vI (x3 + 1), vI x4, vI (x5 + 1), vU, vI (if x3 ≤ 0 then (0 : Int) else (if x2 = 0 then (1 : Int) else (if x3 = (D (o + 1) 0) then (1 : Int) else 0)))]) rfl ?_
                          refine WP_fg 7 (ls1 := [vR (o + 1), vR a, vI x2, vI (x3 + 1), vI x4, vI (x5 + 1), vU, vU]) rfl ?_
                          exact ih13_ _ _ _ _ _ h.1 (by have := h.2; omega)
                  · replace h := h.2 c14
                    refine WP_iload (z := (fX2_at D a x5)) dX1_readRows_91 rfl ?_
                    refine WP_bipush (z := 35) dX1_readRows_93 rfl (by decide) ?_
                    refine WP_icmp_ne (tgt := 136) dX1_readRows_95 (by decide) (fun c29 => ?_) (fun c29 => ?_)
                    · replace h := h.2 c29
                      refine WP_iload (z := x5) dX1_readRows_136 rfl ?_
                      exact WP_ireturn dX1_readRows_138 rfl h
                    · replace h := h.1 c29
                      refine WP_iload_n (z := x3) dX1_readRows_98 rfl ?_
                      refine WP_iload_n (z := x2) dX1_readRows_99 rfl ?_
                      refine WP_via (pc1 := 111) (ls1 := [vR (o + 1), vR a, vI x2, vI x3, vI x4, vI x5, vI (fX2_at D a x5), vI (if x3 ≤ 0 then (0 : Int) else (if x2 = 0 then (1 : Int) else (if x3 = (D (o + 1) 0) then (1 : Int) else 0)))]) (st1 := [vI (if x2 = 0 then (5 : Int) else (D (o + 1) 0)), vI x3]) (D1 := D) (fun hJ42 => ?_) ?_
                      · refine WP_if_ne (tgt := 107) dX1_readRows_100 (by decide) (fun c43 => ?_) (fun c43 => ?_)
                        · replace hJ42 := ite_f (P := fun v_ : Int => WP mX1_readRows Q 111 [vR (o + 1), vR a, vI x2, vI x3, vI x4, vI x5, vI (fX2_at D a x5), vI (if x3 ≤ 0 then (0 : Int) else (if x2 = 0 then (1 : Int) else (if x3 = (D (o + 1) 0) then (1 : Int) else 0)))] [vI v_, vI x3] D) hJ42 c43
                          refine WP_aload_n (z := (o + 1)) dX1_readRows_107 rfl ?_
                          refine WP_getI dX1_readRows_108 fl_RX1_9 (kcC_1 ho) rfl rfl ?_
                          exact hJ42
                        · replace hJ42 := ite_t (P := fun v_ : Int => WP mX1_readRows Q 111 [vR (o + 1), vR a, vI x2, vI x3, vI x4, vI x5, vI (fX2_at D a x5), vI (if x3 ≤ 0 then (0 : Int) else (if x2 = 0 then (1 : Int) else (if x3 = (D (o + 1) 0) then (1 : Int) else 0)))] [vI v_, vI x3] D) hJ42 c43
                          refine WP_iconst (z := 5) dX1_readRows_103 rfl ⟨by decide, by decide⟩ ?_
                          refine WP_goto (tgt := 111) dX1_readRows_104 (by decide) ?_
                          exact hJ42
                      · refine WP_icmp_ge (tgt := 136) dX1_readRows_111 (by decide) (fun c30 => ?_) (fun c30 => ?_)
                        · replace h := h.1 c30
                          refine WP_iload (z := x5) dX1_readRows_136 rfl ?_
                          exact WP_ireturn dX1_readRows_138 rfl h
                        · replace h := h.2 c30
                          refine WP_aload_n (z := (o + 1)) dX1_readRows_114 rfl ?_
                          refine WP_iload (z := (fX2_at D a x5)) dX1_readRows_115 rfl ?_
                          refine WP_bipush (z := 35) dX1_readRows_117 rfl (by decide) ?_
                          refine WP_via (pc1 := 127) (ls1 := [vR (o + 1), vR a, vI x2, vI x3, vI x4, vI x5, vI (fX2_at D a x5), vI (if x3 ≤ 0 then (0 : Int) else (if x2 = 0 then (1 : Int) else (if x3 = (D (o + 1) 0) then (1 : Int) else 0)))]) (st1 := [vI (if (fX2_at D a x5) = 35 then (1 : Int) else 0), vR (o + 1)]) (D1 := D) (fun hJ40 => ?_) ?_
                          · refine WP_icmp_ne (tgt := 126) dX1_readRows_119 (by decide) (fun c41 => ?_) (fun c41 => ?_)
                            · replace hJ40 := ite_f (P := fun v_ : Int => WP mX1_readRows Q 127 [vR (o + 1), vR a, vI x2, vI x3, vI x4, vI x5, vI (fX2_at D a x5), vI (if x3 ≤ 0 then (0 : Int) else (if x2 = 0 then (1 : Int) else (if x3 = (D (o + 1) 0) then (1 : Int) else 0)))] [vI v_, vR (o + 1)] D) hJ40 c41
                              refine WP_iconst (z := 0) dX1_readRows_126 rfl ⟨by decide, by decide⟩ ?_
                              exact hJ40
                            · replace hJ40 := ite_t (P := fun v_ : Int => WP mX1_readRows Q 127 [vR (o + 1), vR a, vI x2, vI x3, vI x4, vI x5, vI (fX2_at D a x5), vI (if x3 ≤ 0 then (0 : Int) else (if x2 = 0 then (1 : Int) else (if x3 = (D (o + 1) 0) then (1 : Int) else 0)))] [vI v_, vR (o + 1)] D) hJ40 c41
                              refine WP_iconst (z := 1) dX1_readRows_122 rfl ⟨by decide, by decide⟩ ?_
                              refine WP_goto (tgt := 127) dX1_readRows_123 (by decide) ?_
                              exact hJ40
                          · obtain ⟨Q31, ct33, h⟩ := h
                            refine WP_callV (g := mX1_addCell) (as := [vI (if (fX2_at D a x5) = 35 then (1 : Int) else 0)]) (rest := []) (n := 1) dX1_readRows_127 wm_155 mo_X1_addCell (kcC_1 ho) rfl rfl rfl ⟨Nat.le_of_ble_eq_true rfl, Nat.le_of_ble_eq_true rfl⟩ (Nat.le_of_ble_eq_true rfl) ct33 (fun r_ D34 hq32 hok hD37 => ?_)
                            obtain rfl := hok
                            replace h := h D34 hq32 hD37
                            show WP mX1_readRows Q 130 [vR (o + 1), vR a, vI x2, vI x3, vI x4, vI x5, vI (fX2_at D a x5), vI (if x3 ≤ 0 then (0 : Int) else (if x2 = 0 then (1 : Int) else (if x3 = (D (o + 1) 0) then (1 : Int) else 0)))] [] D34
                            obtain ⟨o39, h⟩ := h
                            refine WP_iinc (z := (x3 + 1)) (ls1 := [vR (o + 1), vR a, vI x2, vI (x3 + 1), vI x4, vI x5, vI (fX2_at D a x5), vI (if x3 ≤ 0 then (0 : Int) else (if x2 = 0 then (1 : Int) else (if x3 = (D (o + 1) 0) then (1 : Int) else 0)))]) dX1_readRows_130 rfl (w32_id o39) (by decide) rfl ?_
                            refine WP_goto (tgt := 139) dX1_readRows_133 (by decide) ?_
                            obtain ⟨o38, h⟩ := h
                            refine WP_iinc (z := (x5 + 1)) (ls1 := [vR (o + 1), vR a, vI x2, vI (x3 + 1), vI x4, vI (x5 + 1), vI (fX2_at D a x5), vI (if x3 ≤ 0 then (0 : Int) else (if x2 = 0 then (1 : Int) else (if x3 = (D (o + 1) 0) then (1 : Int) else 0)))]) dX1_readRows_139 rfl (w32_id o38) (by decide) rfl ?_
                            refine WP_goto (tgt := 13) dX1_readRows_142 (by decide) ?_
                            refine WP_fg 6 (ls1 := [vR (o + 1), vR a, vI x2, vI (x3 + 1), vI x4, vI (x5 + 1), vU, vI (if x3 ≤ 0 then (0 : Int) else (if x2 = 0 then (1 : Int) else (if x3 = (D (o + 1) 0) then (1 : Int) else 0)))]) rfl ?_
                            refine WP_fg 7 (ls1 := [vR (o + 1), vR a, vI x2, vI (x3 + 1), vI x4, vI (x5 + 1), vU, vU]) rfl ?_
                            exact ih13_ _ _ _ _ _ h.1 (by have := h.2; omega)
                · replace h := h.2 c13
                  refine WP_aload_n (z := (o + 1)) dX1_readRows_71 rfl ?_
                  refine WP_iload_n (z := x3) dX1_readRows_72 rfl ?_
                  refine WP_putI dX1_readRows_73 fp_RX1_9 (kcC_1 ho) rfl ?_
                  obtain ⟨o45, h⟩ := h
                  refine WP_iinc (z := (x2 + 1)) (ls1 := [vR (o + 1), vR a, vI (x2 + 1), vI x3, vI x4, vI x5, vI (fX2_at D a x5), vI (if x3 ≤ 0 then (0 : Int) else (if x2 = 0 then (1 : Int) else (if x3 = (D (o + 1) 0) then (1 : Int) else 0)))]) dX1_readRows_76 rfl (w32_id o45) (by decide) rfl ?_
                  refine WP_iconst (z := 0) dX1_readRows_79 rfl ⟨by decide, by decide⟩ ?_
                  refine WP_istore_n (ls1 := [vR (o + 1), vR a, vI (x2 + 1), vI 0, vI x4, vI x5, vI (fX2_at D a x5), vI (if x3 ≤ 0 then (0 : Int) else (if x2 = 0 then (1 : Int) else (if x3 = (D (o + 1) 0) then (1 : Int) else 0)))]) dX1_readRows_80 (by decide) rfl ?_
                  refine WP_goto (tgt := 139) dX1_readRows_81 (by decide) ?_
                  obtain ⟨o44, h⟩ := h
                  refine WP_iinc (z := (x5 + 1)) (ls1 := [vR (o + 1), vR a, vI (x2 + 1), vI 0, vI x4, vI (x5 + 1), vI (fX2_at D a x5), vI (if x3 ≤ 0 then (0 : Int) else (if x2 = 0 then (1 : Int) else (if x3 = (D (o + 1) 0) then (1 : Int) else 0)))]) dX1_readRows_139 rfl (w32_id o44) (by decide) rfl ?_
                  refine WP_goto (tgt := 13) dX1_readRows_142 (by decide) ?_
                  refine WP_fg 6 (ls1 := [vR (o + 1), vR a, vI (x2 + 1), vI 0, vI x4, vI (x5 + 1), vU, vI (if x3 ≤ 0 then (0 : Int) else (if x2 = 0 then (1 : Int) else (if x3 = (D (o + 1) 0) then (1 : Int) else 0)))]) rfl ?_
                  refine WP_fg 7 (ls1 := [vR (o + 1), vR a, vI (x2 + 1), vI 0, vI x4, vI (x5 + 1), vU, vU]) rfl ?_
                  exact ih13_ _ _ _ _ _ h.1 (by have := h.2; omega)
            · replace h := h.1 c11
              refine WP_iload (z := x5) dX1_readRows_56 rfl ?_
              exact WP_ireturn dX1_readRows_58 rfl h
  have cut13_ : ∀ (x2 x3 x4 x5 : Int) (D : HP), I13 x2 x3 x4 x5 D → WP mX1_readRows Q 13 [vR (o + 1), vR a, vI x2, vI x3, vI x4, vI x5, vU, vU] [] D := fun x2 x3 x4 x5 D hI => (IH (u13 x2 x3 x4 x5 D * 1 + 0 + 1)) x2 x3 x4 x5 D hI (by omega)
  refine WP_cD (fun hcD => ?_)
  have h := h0 hcD
  refine WP_iconst (z := 0) dX1_readRows_0 rfl ⟨by decide, by decide⟩ ?_
  refine WP_istore_n (ls1 := [vR (o + 1), vR a, vI 0, vU, vU, vU, vU, vU]) dX1_readRows_1 (by decide) rfl ?_
  refine WP_iconst (z := 0) dX1_readRows_2 rfl ⟨by decide, by decide⟩ ?_
  refine WP_istore_n (ls1 := [vR (o + 1), vR a, vI 0, vI 0, vU, vU, vU, vU]) dX1_readRows_3 (by decide) rfl ?_
  refine WP_aload_n (z := a) dX1_readRows_4 rfl ?_
  refine WP_pcallV (g := mX2_length) (as := []) (rest := []) (n := 0) (r := vI (fX2_length D a)) dX1_readRows_5 wm_143 mo_X2_length (kcT_0 ha) rfl rfl rfl ⟨Nat.le_of_ble_eq_true rfl, Nat.le_of_ble_eq_true rfl⟩ (Nat.le_of_ble_eq_true rfl) (P_X2_length ha trivial) ?_
  refine WP_istore (ls1 := [vR (o + 1), vR a, vI 0, vI 0, vI (fX2_length D a), vU, vU, vU]) dX1_readRows_8 (by decide) rfl ?_
  refine WP_iconst (z := 0) dX1_readRows_10 rfl ⟨by decide, by decide⟩ ?_
  refine WP_istore (ls1 := [vR (o + 1), vR a, vI 0, vI 0, vI (fX2_length D a), vI 0, vU, vU]) dX1_readRows_11 (by decide) rfl ?_
  exact cut13_ _ _ _ _ _ h
def fX1_isCell (D : HP) (o : Nat) (a : Int) : Int := (if a < 0 then (0 : Int) else (if (D (o + 1) 1) ≤ a then (0 : Int) else (if 25 ≤ a then (0 : Int) else 1)))
theorem bfX1_isCell (D : HP) (o : Nat) (a : Int) : fX1_isCell D o a = 0 ∨ fX1_isCell D o a = 1 := by unfold fX1_isCell; exact (bool_ite (Or.inl rfl) (bool_ite (Or.inl rfl) (bool_ite (Or.inl rfl) (Or.inr rfl))))
def oX1_isCell (D : HP) (o : Nat) (a : Int) : Prop := True
set_option maxRecDepth 100000 in
set_option maxHeartbeats 4000000 in
theorem V_X1_isCell {o : Nat} (ho : o = 9 ∨ o = 25) (a : Int) {D : HP} {Q : Option MV → HP → Prop}
    (h0 : cD D → c32 a → (Q (some (vI (if a < 0 then (0 : Int) else (if (D (o + 1) 1) ≤ a then (0 : Int) else (if 25 ≤ a then (0 : Int) else 1))))) D))
    : CT mX1_isCell [vR (o + 1), vI a] D Q := by
  refine CT.of 0 (by decide) (Nat.le_of_ble_eq_true rfl) ?_
  show WP mX1_isCell Q 0 [vR (o + 1), vI a] [] D
  refine WP_cD (fun hcD => ?_)
  refine WP_cl (fun hcl => ?_)
  have h := h0 hcD (cVs_g hcl (i := 1) (v := vI a) rfl)
  refine WP_iload_n (z := a) dX1_isCell_0 rfl ?_
  refine WP_via (pc1 := 23) (ls1 := [vR (o + 1), vI a]) (st1 := [vI (if a < 0 then (0 : Int) else (if (D (o + 1) 1) ≤ a then (0 : Int) else (if 25 ≤ a then (0 : Int) else 1)))]) (D1 := D) (fun hJ1 => ?_) ?_
  · refine WP_if_lt (tgt := 22) dX1_isCell_1 (by decide) (fun c2 => ?_) (fun c2 => ?_)
    · replace hJ1 := ite_t (P := fun v_ : Int => WP mX1_isCell Q 23 [vR (o + 1), vI a] [vI v_] D) hJ1 c2
      refine WP_iconst (z := 0) dX1_isCell_22 rfl ⟨by decide, by decide⟩ ?_
      exact hJ1
    · replace hJ1 := ite_f (P := fun v_ : Int => WP mX1_isCell Q 23 [vR (o + 1), vI a] [vI v_] D) hJ1 c2
      refine WP_iload_n (z := a) dX1_isCell_4 rfl ?_
      refine WP_aload_n (z := (o + 1)) dX1_isCell_5 rfl ?_
      refine WP_getI dX1_isCell_6 fl_RX1_15 (kcC_1 ho) rfl rfl ?_
      refine WP_via (pc1 := 23) (ls1 := [vR (o + 1), vI a]) (st1 := [vI (if (D (o + 1) 1) ≤ a then (0 : Int) else (if 25 ≤ a then (0 : Int) else 1))]) (D1 := D) (fun hJ3 => ?_) ?_
      · refine WP_icmp_ge (tgt := 22) dX1_isCell_9 (by decide) (fun c4 => ?_) (fun c4 => ?_)
        · replace hJ3 := ite_t (P := fun v_ : Int => WP mX1_isCell Q 23 [vR (o + 1), vI a] [vI v_] D) hJ3 c4
          refine WP_iconst (z := 0) dX1_isCell_22 rfl ⟨by decide, by decide⟩ ?_
          exact hJ3
        · replace hJ3 := ite_f (P := fun v_ : Int => WP mX1_isCell Q 23 [vR (o + 1), vI a] [vI v_] D) hJ3 c4
          refine WP_iload_n (z := a) dX1_isCell_12 rfl ?_
          refine WP_bipush (z := 25) dX1_isCell_13 rfl (by decide) ?_
          refine WP_via (pc1 := 23) (ls1 := [vR (o + 1), vI a]) (st1 := [vI (if 25 ≤ a then (0 : Int) else 1)]) (D1 := D) (fun hJ5 => ?_) ?_
          · refine WP_icmp_ge (tgt := 22) dX1_isCell_15 (by decide) (fun c6 => ?_) (fun c6 => ?_)
            · replace hJ5 := ite_t (P := fun v_ : Int => WP mX1_isCell Q 23 [vR (o + 1), vI a] [vI v_] D) hJ5 c6
              refine WP_iconst (z := 0) dX1_isCell_22 rfl ⟨by decide, by decide⟩ ?_
              exact hJ5
            · replace hJ5 := ite_f (P := fun v_ : Int => WP mX1_isCell Q 23 [vR (o + 1), vI a] [vI v_] D) hJ5 c6
              refine WP_iconst (z := 1) dX1_isCell_18 rfl ⟨by decide, by decide⟩ ?_
              refine WP_goto (tgt := 23) dX1_isCell_19 (by decide) ?_
              exact hJ5
          exact hJ3
      exact hJ1
  · exact WP_zreturn dX1_isCell_23 rfl (bool_ite (Or.inl rfl) (bool_ite (Or.inl rfl) (bool_ite (Or.inl rfl) (Or.inr rfl)))) h
set_option maxRecDepth 100000 in
set_option maxHeartbeats 4000000 in
theorem P_X1_isCell {o : Nat} (ho : o = 9 ∨ o = 25) {a : Int} {D : HP} (hob : oX1_isCell D o a) : CT mX1_isCell [vR (o + 1), vI a] D (PF (vI (fX1_isCell D o a)) D) := by
  refine V_X1_isCell ho a (fun hcD hc_0 => ?_)
  obtain ⟨z, hz⟩ : ∃ z, z = fX1_isCell D o a := ⟨_, rfl⟩
  rw [← hz]
  unfold fX1_isCell at hz
  exact ⟨by rw [hz], rfl⟩
def fX1_beside (D : HP) (o : Nat) (a : Int) (b : Int) : Int := (if (fX1_isCell D o a) = 0 then ((-1) : Int) else (if 1 ≤ (D (o + 1) 0) then ((if b = 0 then ((if a < (D (o + 1) 0) then ((-1) : Int) else (a - (D (o + 1) 0))) : Int) else (if b = 1 then ((if (D (o + 1) 0) ≤ ((a % (D (o + 1) 0)) + 1) then ((-1) : Int) else (a + 1)) : Int) else (if b = 2 then ((if (D (o + 1) 1) ≤ (a + (D (o + 1) 0)) then ((-1) : Int) else (a + (D (o + 1) 0))) : Int) else (if b = 3 then ((if (a % (D (o + 1) 0)) ≤ 0 then ((-1) : Int) else (a - 1)) : Int) else (-1))))) : Int) else (-1)))
def oX1_beside (D : HP) (o : Nat) (a : Int) (b : Int) : Prop := (((fX1_isCell D o a) = 0 → True) ∧ (¬ ((fX1_isCell D o a) = 0) → ((1 ≤ (D (o + 1) 0) → ((0 ≤ a ∧ 0 < (D (o + 1) 0)) ∧ ((b = 0 → ((((a < (D (o + 1) 0)) → True) ∧ (¬ (a < (D (o + 1) 0)) → (c32 (a - (D (o + 1) 0))))) ∧ True)) ∧ (b = 1 → ((c32 ((a % (D (o + 1) 0)) + 1)) ∧ (((((D (o + 1) 0) ≤ ((a % (D (o + 1) 0)) + 1)) → True) ∧ (¬ ((D (o + 1) 0) ≤ ((a % (D (o + 1) 0)) + 1)) → (c32 (a + 1)))) ∧ True))) ∧ (b = 2 → ((c32 (a + (D (o + 1) 0))) ∧ (((((D (o + 1) 1) ≤ (a + (D (o + 1) 0))) → True) ∧ (¬ ((D (o + 1) 1) ≤ (a + (D (o + 1) 0))) → (c32 (a + (D (o + 1) 0))))) ∧ True))) ∧ (b = 3 → (((((a % (D (o + 1) 0)) ≤ 0) → True) ∧ (¬ ((a % (D (o + 1) 0)) ≤ 0) → (c32 (a - 1)))) ∧ True))))) ∧ (¬ (1 ≤ (D (o + 1) 0)) → True))))
set_option maxRecDepth 100000 in
set_option maxHeartbeats 4000000 in
theorem V_X1_beside {o : Nat} (ho : o = 9 ∨ o = 25) (a : Int) (b : Int) {D : HP} {Q : Option MV → HP → Prop}
    (h0 : cD D → c32 a → c32 b → (((fX1_isCell D o a) = 0 → (Q (some (vI (-1))) D)) ∧ (¬ ((fX1_isCell D o a) = 0) → ((1 ≤ (D (o + 1) 0) → ((0 ≤ a ∧ 0 < (D (o + 1) 0)) ∧ (((b < 0 ∨ 3 < b) → (Q (some (vI (-1))) D)) ∧ (b = 0 → ((((a < (D (o + 1) 0)) → True) ∧ (¬ (a < (D (o + 1) 0)) → (c32 (a - (D (o + 1) 0))))) ∧ (Q (some (vI (if a < (D (o + 1) 0) then ((-1) : Int) else (a - (D (o + 1) 0))))) D))) ∧ (b = 1 → ((c32 ((a % (D (o + 1) 0)) + 1)) ∧ (((((D (o + 1) 0) ≤ ((a % (D (o + 1) 0)) + 1)) → True) ∧ (¬ ((D (o + 1) 0) ≤ ((a % (D (o + 1) 0)) + 1)) → (c32 (a + 1)))) ∧ (Q (some (vI (if (D (o + 1) 0) ≤ ((a % (D (o + 1) 0)) + 1) then ((-1) : Int) else (a + 1)))) D)))) ∧ (b = 2 → ((c32 (a + (D (o + 1) 0))) ∧ (((((D (o + 1) 1) ≤ (a + (D (o + 1) 0))) → True) ∧ (¬ ((D (o + 1) 1) ≤ (a + (D (o + 1) 0))) → (c32 (a + (D (o + 1) 0))))) ∧ (Q (some (vI (if (D (o + 1) 1) ≤ (a + (D (o + 1) 0)) then ((-1) : Int) else (a + (D (o + 1) 0))))) D)))) ∧ (b = 3 → (((((a % (D (o + 1) 0)) ≤ 0) → True) ∧ (¬ ((a % (D (o + 1) 0)) ≤ 0) → (c32 (a - 1)))) ∧ (Q (some (vI (if (a % (D (o + 1) 0)) ≤ 0 then ((-1) : Int) else (a - 1)))) D)))))) ∧ (¬ (1 ≤ (D (o + 1) 0)) → (Q (some (vI (-1))) D))))))
    : CT mX1_beside [vR (o + 1), vI a, vI b] D Q := by
  refine CT.of 1 (by decide) (Nat.le_of_ble_eq_true rfl) ?_
  show WP mX1_beside Q 0 [vR (o + 1), vI a, vI b, vU] [] D
  refine WP_cD (fun hcD => ?_)
  refine WP_cl (fun hcl => ?_)
  have h := h0 hcD (cVs_g hcl (i := 1) (v := vI a) rfl) (cVs_g hcl (i := 2) (v := vI b) rfl)
  refine WP_aload_n (z := (o + 1)) dX1_beside_0 rfl ?_
  refine WP_iload_n (z := a) dX1_beside_1 rfl ?_
  refine WP_pcallV (g := mX1_isCell) (as := [vI a]) (rest := []) (n := 1) (r := vI (fX1_isCell D o a)) dX1_beside_2 wm_167 mo_X1_isCell (kcC_1 ho) rfl rfl rfl ⟨Nat.le_of_ble_eq_true rfl, Nat.le_of_ble_eq_true rfl⟩ (Nat.le_of_ble_eq_true rfl) (P_X1_isCell ho trivial) ?_
  refine WP_if_eq (tgt := 16) dX1_beside_5 (by decide) (fun c1 => ?_) (fun c1 => ?_)
  · replace h := h.1 c1
    refine WP_iconst (z := (-1)) dX1_beside_16 rfl ⟨by decide, by decide⟩ ?_
    exact WP_ireturn dX1_beside_17 rfl h
  · replace h := h.2 c1
    refine WP_aload_n (z := (o + 1)) dX1_beside_8 rfl ?_
    refine WP_getI dX1_beside_9 fl_RX1_9 (kcC_1 ho) rfl rfl ?_
    refine WP_iconst (z := 1) dX1_beside_12 rfl ⟨by decide, by decide⟩ ?_
    refine WP_icmp_ge (tgt := 18) dX1_beside_13 (by decide) (fun c2 => ?_) (fun c2 => ?_)
    · replace h := h.1 c2
      refine WP_iload_n (z := a) dX1_beside_18 rfl ?_
      refine WP_aload_n (z := (o + 1)) dX1_beside_19 rfl ?_
      refine WP_getI dX1_beside_20 fl_RX1_9 (kcC_1 ho) rfl rfl ?_
      obtain ⟨o26, h⟩ := h
      refine WP_irem dX1_beside_23 o26.1 o26.2 rfl ?_
      refine WP_istore_n (ls1 := [vR (o + 1), vI a, vI b, vI (a % (D (o + 1) 0))]) dX1_beside_24 (by decide) rfl ?_
      refine WP_iload_n (z := b) dX1_beside_25 rfl ?_
      rcases (show (b < 0 ∨ 3 < b) ∨ b = 0 ∨ b = 1 ∨ b = 2 ∨ b = 3 from by omega) with q3 | q3 | q3 | q3 | q3
      · replace h := h.1 q3
        refine WP_tabOut (tgt := 129) dX1_beside_26 q3 (by decide) ?_
        refine WP_iconst (z := (-1)) dX1_beside_129 rfl ⟨by decide, by decide⟩ ?_
        exact WP_ireturn dX1_beside_130 rfl h
      · replace h := h.2.1 q3
        refine WP_tabIn (off := 30) (tgt := 56) dX1_beside_26 (by omega) (by omega) (by rw [q3]; rfl) (by decide) ?_
        refine WP_iload_n (z := a) dX1_beside_56 rfl ?_
        refine WP_aload_n (z := (o + 1)) dX1_beside_57 rfl ?_
        refine WP_getI dX1_beside_58 fl_RX1_9 (kcC_1 ho) rfl rfl ?_
        obtain ⟨o4, h⟩ := h
        refine WP_via (pc1 := 74) (ls1 := [vR (o + 1), vI a, vI b, vI (a % (D (o + 1) 0))]) (st1 := [vI (if a < (D (o + 1) 0) then ((-1) : Int) else (a - (D (o + 1) 0)))]) (D1 := D) (fun hJ5 => ?_) ?_
        · refine WP_icmp_lt (tgt := 73) dX1_beside_61 (by decide) (fun c6 => ?_) (fun c6 => ?_)
          · replace hJ5 := ite_t (P := fun v_ : Int => WP mX1_beside Q 74 [vR (o + 1), vI a, vI b, vI (a % (D (o + 1) 0))] [vI v_] D) hJ5 c6
            have o7 := o4.1 c6
            refine WP_iconst (z := (-1)) dX1_beside_73 rfl ⟨by decide, by decide⟩ ?_
            exact hJ5
          · replace hJ5 := ite_f (P := fun v_ : Int => WP mX1_beside Q 74 [vR (o + 1), vI a, vI b, vI (a % (D (o + 1) 0))] [vI v_] D) hJ5 c6
            have o8 := o4.2 c6
            refine WP_iload_n (z := a) dX1_beside_64 rfl ?_
            refine WP_aload_n (z := (o + 1)) dX1_beside_65 rfl ?_
            refine WP_getI dX1_beside_66 fl_RX1_9 (kcC_1 ho) rfl rfl ?_
            refine WP_isub (z := (a - (D (o + 1) 0))) dX1_beside_69 (w32_id o8) ?_
            refine WP_goto (tgt := 74) dX1_beside_70 (by decide) ?_
            exact hJ5
        · exact WP_ireturn dX1_beside_74 rfl h
      · replace h := h.2.2.1 q3
        refine WP_tabIn (off := 49) (tgt := 75) dX1_beside_26 (by omega) (by omega) (by rw [q3]; rfl) (by decide) ?_
        refine WP_iload_n (z := (a % (D (o + 1) 0))) dX1_beside_75 rfl ?_
        refine WP_iconst (z := 1) dX1_beside_76 rfl ⟨by decide, by decide⟩ ?_
        obtain ⟨o14, h⟩ := h
        refine WP_iadd (z := ((a % (D (o + 1) 0)) + 1)) dX1_beside_77 (w32_id o14) ?_
        refine WP_aload_n (z := (o + 1)) dX1_beside_78 rfl ?_
        refine WP_getI dX1_beside_79 fl_RX1_9 (kcC_1 ho) rfl rfl ?_
        obtain ⟨o9, h⟩ := h
        refine WP_via (pc1 := 92) (ls1 := [vR (o + 1), vI a, vI b, vI (a % (D (o + 1) 0))]) (st1 := [vI (if (D (o + 1) 0) ≤ ((a % (D (o + 1) 0)) + 1) then ((-1) : Int) else (a + 1))]) (D1 := D) (fun hJ10 => ?_) ?_
        · refine WP_icmp_ge (tgt := 91) dX1_beside_82 (by decide) (fun c11 => ?_) (fun c11 => ?_)
          · replace hJ10 := ite_t (P := fun v_ : Int => WP mX1_beside Q 92 [vR (o + 1), vI a, vI b, vI (a % (D (o + 1) 0))] [vI v_] D) hJ10 c11
            have o12 := o9.1 c11
            refine WP_iconst (z := (-1)) dX1_beside_91 rfl ⟨by decide, by decide⟩ ?_
            exact hJ10
          · replace hJ10 := ite_f (P := fun v_ : Int => WP mX1_beside Q 92 [vR (o + 1), vI a, vI b, vI (a % (D (o + 1) 0))] [vI v_] D) hJ10 c11
            have o13 := o9.2 c11
            refine WP_iload_n (z := a) dX1_beside_85 rfl ?_
            refine WP_iconst (z := 1) dX1_beside_86 rfl ⟨by decide, by decide⟩ ?_
            refine WP_iadd (z := (a + 1)) dX1_beside_87 (w32_id o13) ?_
            refine WP_goto (tgt := 92) dX1_beside_88 (by decide) ?_
            exact hJ10
        · exact WP_ireturn dX1_beside_92 rfl h
      · replace h := h.2.2.2.1 q3
        refine WP_tabIn (off := 67) (tgt := 93) dX1_beside_26 (by omega) (by omega) (by rw [q3]; rfl) (by decide) ?_
        refine WP_iload_n (z := a) dX1_beside_93 rfl ?_
        refine WP_aload_n (z := (o + 1)) dX1_beside_94 rfl ?_
        refine WP_getI dX1_beside_95 fl_RX1_9 (kcC_1 ho) rfl rfl ?_
        obtain ⟨o20, h⟩ := h
        refine WP_iadd (z := (a + (D (o + 1) 0))) dX1_beside_98 (w32_id o20) ?_
        refine WP_aload_n (z := (o + 1)) dX1_beside_99 rfl ?_
        refine WP_getI dX1_beside_100 fl_RX1_15 (kcC_1 ho) rfl rfl ?_
        obtain ⟨o15, h⟩ := h
        refine WP_via (pc1 := 116) (ls1 := [vR (o + 1), vI a, vI b, vI (a % (D (o + 1) 0))]) (st1 := [vI (if (D (o + 1) 1) ≤ (a + (D (o + 1) 0)) then ((-1) : Int) else (a + (D (o + 1) 0)))]) (D1 := D) (fun hJ16 => ?_) ?_
        · refine WP_icmp_ge (tgt := 115) dX1_beside_103 (by decide) (fun c17 => ?_) (fun c17 => ?_)
          · replace hJ16 := ite_t (P := fun v_ : Int => WP mX1_beside Q 116 [vR (o + 1), vI a, vI b, vI (a % (D (o + 1) 0))] [vI v_] D) hJ16 c17
            have o18 := o15.1 c17
            refine WP_iconst (z := (-1)) dX1_beside_115 rfl ⟨by decide, by decide⟩ ?_
            exact hJ16
          · replace hJ16 := ite_f (P := fun v_ : Int => WP mX1_beside Q 116 [vR (o + 1), vI a, vI b, vI (a % (D (o + 1) 0))] [vI v_] D) hJ16 c17
            have o19 := o15.2 c17
            refine WP_iload_n (z := a) dX1_beside_106 rfl ?_
            refine WP_aload_n (z := (o + 1)) dX1_beside_107 rfl ?_
            refine WP_getI dX1_beside_108 fl_RX1_9 (kcC_1 ho) rfl rfl ?_
            refine WP_iadd (z := (a + (D (o + 1) 0))) dX1_beside_111 (w32_id o19) ?_
            refine WP_goto (tgt := 116) dX1_beside_112 (by decide) ?_
            exact hJ16
        · exact WP_ireturn dX1_beside_116 rfl h
      · replace h := h.2.2.2.2 q3
        refine WP_tabIn (off := 91) (tgt := 117) dX1_beside_26 (by omega) (by omega) (by rw [q3]; rfl) (by decide) ?_
        refine WP_iload_n (z := (a % (D (o + 1) 0))) dX1_beside_117 rfl ?_
        obtain ⟨o21, h⟩ := h
        refine WP_via (pc1 := 128) (ls1 := [vR (o + 1), vI a, vI b, vI (a % (D (o + 1) 0))]) (st1 := [vI (if (a % (D (o + 1) 0)) ≤ 0 then ((-1) : Int) else (a - 1))]) (D1 := D) (fun hJ22 => ?_) ?_
        · refine WP_if_le (tgt := 127) dX1_beside_118 (by decide) (fun c23 => ?_) (fun c23 => ?_)
          · replace hJ22 := ite_t (P := fun v_ : Int => WP mX1_beside Q 128 [vR (o + 1), vI a, vI b, vI (a % (D (o + 1) 0))] [vI v_] D) hJ22 c23
            have o24 := o21.1 c23
            refine WP_iconst (z := (-1)) dX1_beside_127 rfl ⟨by decide, by decide⟩ ?_
            exact hJ22
          · replace hJ22 := ite_f (P := fun v_ : Int => WP mX1_beside Q 128 [vR (o + 1), vI a, vI b, vI (a % (D (o + 1) 0))] [vI v_] D) hJ22 c23
            have o25 := o21.2 c23
            refine WP_iload_n (z := a) dX1_beside_121 rfl ?_
            refine WP_iconst (z := 1) dX1_beside_122 rfl ⟨by decide, by decide⟩ ?_
            refine WP_isub (z := (a - 1)) dX1_beside_123 (w32_id o25) ?_
            refine WP_goto (tgt := 128) dX1_beside_124 (by decide) ?_
            exact hJ22
        · exact WP_ireturn dX1_beside_128 rfl h
    · replace h := h.2 c2
      refine WP_iconst (z := (-1)) dX1_beside_16 rfl ⟨by decide, by decide⟩ ?_
      exact WP_ireturn dX1_beside_17 rfl h
set_option maxRecDepth 100000 in
set_option maxHeartbeats 4000000 in
theorem P_X1_beside {o : Nat} (ho : o = 9 ∨ o = 25) {a : Int} {b : Int} {D : HP} (hob : oX1_beside D o a b) : CT mX1_beside [vR (o + 1), vI a, vI b] D (PF (vI (fX1_beside D o a b)) D) := by
  refine V_X1_beside ho a b (fun hcD hc_0 hc_1 => ?_)
  obtain ⟨z, hz⟩ : ∃ z, z = fX1_beside D o a b := ⟨_, rfl⟩
  rw [← hz]
  unfold fX1_beside at hz
  unfold oX1_beside at hob
  refine ⟨fun k2 => ?_, fun k2 => ?_⟩
  · replace hob := hob.1 k2
    replace hz := hz.trans (if_pos k2)
    exact ⟨by rw [hz], rfl⟩
  · replace hob := hob.2 k2
    replace hz := hz.trans (if_neg k2)
    refine ⟨fun k1 => ?_, fun k1 => ?_⟩
    · replace hob := hob.1 k1
      replace hz := hz.trans (if_pos k1)
      refine ⟨hob.1, ?_⟩
      replace hob := hob.2
      refine ⟨fun q_ => ?_, fun q_ => ?_, fun q_ => ?_, fun q_ => ?_, fun q_ => ?_⟩
      · replace hz := hz.trans (if_neg (by omega))
        replace hz := hz.trans (if_neg (by omega))
        replace hz := hz.trans (if_neg (by omega))
        replace hz := hz.trans (if_neg (by omega))
        exact ⟨by rw [hz], rfl⟩
      · replace hz := hz.trans (if_pos q_)
        replace hob := hob.1 q_
        refine ⟨hob.1, ?_⟩
        replace hob := hob.2
        exact ⟨by rw [hz], rfl⟩
      · replace hz := hz.trans (if_neg (by omega))
        replace hz := hz.trans (if_pos q_)
        replace hob := hob.2.1 q_
        refine ⟨hob.1, ?_⟩
        replace hob := hob.2
        refine ⟨hob.1, ?_⟩
        replace hob := hob.2
        exact ⟨by rw [hz], rfl⟩
      · replace hz := hz.trans (if_neg (by omega))
        replace hz := hz.trans (if_neg (by omega))
        replace hz := hz.trans (if_pos q_)
        replace hob := hob.2.2.1 q_
        refine ⟨hob.1, ?_⟩
        replace hob := hob.2
        refine ⟨hob.1, ?_⟩
        replace hob := hob.2
        exact ⟨by rw [hz], rfl⟩
      · replace hz := hz.trans (if_neg (by omega))
        replace hz := hz.trans (if_neg (by omega))
        replace hz := hz.trans (if_neg (by omega))
        replace hz := hz.trans (if_pos q_)
        replace hob := hob.2.2.2 q_
        refine ⟨hob.1, ?_⟩
        replace hob := hob.2
        exact ⟨by rw [hz], rfl⟩
    · replace hob := hob.2 k1
      replace hz := hz.trans (if_neg k1)
      exact ⟨by rw [hz], rfl⟩
def fX1_isWall (D : HP) (o : Nat) (a : Int) : Int := (if a < 0 then (0 : Int) else (if (D (o + 1) 1) ≤ a then (0 : Int) else (if 25 ≤ a then (0 : Int) else (if (D (o + 2) a.toNat) = 1 then (1 : Int) else 0))))
theorem bfX1_isWall (D : HP) (o : Nat) (a : Int) : fX1_isWall D o a = 0 ∨ fX1_isWall D o a = 1 := by unfold fX1_isWall; exact (bool_ite (Or.inl rfl) (bool_ite (Or.inl rfl) (bool_ite (Or.inl rfl) (bool_ite (Or.inr rfl) (Or.inl rfl)))))
def oX1_isWall (D : HP) (o : Nat) (a : Int) : Prop := ((((a < 0) → True) ∧ (¬ (a < 0) → ((((D (o + 1) 1) ≤ a) → True) ∧ (¬ ((D (o + 1) 1) ≤ a) → (((25 ≤ a) → True) ∧ (¬ (25 ≤ a) → (0 ≤ a ∧ a < 25))))))) ∧ True)
set_option maxRecDepth 100000 in
set_option maxHeartbeats 4000000 in
theorem V_X1_isWall {o : Nat} (ho : o = 9 ∨ o = 25) (a : Int) {D : HP} {Q : Option MV → HP → Prop}
    (h0 : cD D → c32 a → ((((a < 0) → True) ∧ (¬ (a < 0) → ((((D (o + 1) 1) ≤ a) → True) ∧ (¬ ((D (o + 1) 1) ≤ a) → (((25 ≤ a) → True) ∧ (¬ (25 ≤ a) → (0 ≤ a ∧ a < 25))))))) ∧ (Q (some (vI (if a < 0 then (0 : Int) else (if (D (o + 1) 1) ≤ a then (0 : Int) else (if 25 ≤ a then (0 : Int) else (if (D (o + 2) a.toNat) = 1 then (1 : Int) else 0)))))) D)))
    : CT mX1_isWall [vR (o + 1), vI a] D Q := by
  refine CT.of 0 (by decide) (Nat.le_of_ble_eq_true rfl) ?_
  show WP mX1_isWall Q 0 [vR (o + 1), vI a] [] D
  refine WP_cD (fun hcD => ?_)
  refine WP_cl (fun hcl => ?_)
  have h := h0 hcD (cVs_g hcl (i := 1) (v := vI a) rfl)
  refine WP_iload_n (z := a) dX1_isWall_0 rfl ?_
  obtain ⟨o1, h⟩ := h
  refine WP_via (pc1 := 33) (ls1 := [vR (o + 1), vI a]) (st1 := [vI (if a < 0 then (0 : Int) else (if (D (o + 1) 1) ≤ a then (0 : Int) else (if 25 ≤ a then (0 : Int) else (if (D (o + 2) a.toNat) = 1 then (1 : Int) else 0))))]) (D1 := D) (fun hJ2 => ?_) ?_
  · refine WP_if_lt (tgt := 32) dX1_isWall_1 (by decide) (fun c3 => ?_) (fun c3 => ?_)
    · replace hJ2 := ite_t (P := fun v_ : Int => WP mX1_isWall Q 33 [vR (o + 1), vI a] [vI v_] D) hJ2 c3
      have o4 := o1.1 c3
      refine WP_iconst (z := 0) dX1_isWall_32 rfl ⟨by decide, by decide⟩ ?_
      exact hJ2
    · replace hJ2 := ite_f (P := fun v_ : Int => WP mX1_isWall Q 33 [vR (o + 1), vI a] [vI v_] D) hJ2 c3
      have o5 := o1.2 c3
      refine WP_iload_n (z := a) dX1_isWall_4 rfl ?_
      refine WP_aload_n (z := (o + 1)) dX1_isWall_5 rfl ?_
      refine WP_getI dX1_isWall_6 fl_RX1_15 (kcC_1 ho) rfl rfl ?_
      refine WP_via (pc1 := 33) (ls1 := [vR (o + 1), vI a]) (st1 := [vI (if (D (o + 1) 1) ≤ a then (0 : Int) else (if 25 ≤ a then (0 : Int) else (if (D (o + 2) a.toNat) = 1 then (1 : Int) else 0)))]) (D1 := D) (fun hJ6 => ?_) ?_
      · refine WP_icmp_ge (tgt := 32) dX1_isWall_9 (by decide) (fun c7 => ?_) (fun c7 => ?_)
        · replace hJ6 := ite_t (P := fun v_ : Int => WP mX1_isWall Q 33 [vR (o + 1), vI a] [vI v_] D) hJ6 c7
          have o8 := o5.1 c7
          refine WP_iconst (z := 0) dX1_isWall_32 rfl ⟨by decide, by decide⟩ ?_
          exact hJ6
        · replace hJ6 := ite_f (P := fun v_ : Int => WP mX1_isWall Q 33 [vR (o + 1), vI a] [vI v_] D) hJ6 c7
          have o9 := o5.2 c7
          refine WP_iload_n (z := a) dX1_isWall_12 rfl ?_
          refine WP_bipush (z := 25) dX1_isWall_13 rfl (by decide) ?_
          refine WP_via (pc1 := 33) (ls1 := [vR (o + 1), vI a]) (st1 := [vI (if 25 ≤ a then (0 : Int) else (if (D (o + 2) a.toNat) = 1 then (1 : Int) else 0))]) (D1 := D) (fun hJ10 => ?_) ?_
          · refine WP_icmp_ge (tgt := 32) dX1_isWall_15 (by decide) (fun c11 => ?_) (fun c11 => ?_)
            · replace hJ10 := ite_t (P := fun v_ : Int => WP mX1_isWall Q 33 [vR (o + 1), vI a] [vI v_] D) hJ10 c11
              have o12 := o9.1 c11
              refine WP_iconst (z := 0) dX1_isWall_32 rfl ⟨by decide, by decide⟩ ?_
              exact hJ10
            · replace hJ10 := ite_f (P := fun v_ : Int => WP mX1_isWall Q 33 [vR (o + 1), vI a] [vI v_] D) hJ10 c11
              have o13 := o9.2 c11
              refine WP_aload_n (z := (o + 1)) dX1_isWall_18 rfl ?_
              refine WP_getR (z := (o + 2)) dX1_isWall_19 fl_RX1_24 (kcC_1 ho) rfl (srC_1_4 ho) ?_
              refine WP_iload_n (z := a) dX1_isWall_22 rfl ?_
              refine WP_iald dX1_isWall_23 (kcC_2 ho) o13.1 o13.2 rfl ?_
              refine WP_iconst (z := 1) dX1_isWall_24 rfl ⟨by decide, by decide⟩ ?_
              refine WP_via (pc1 := 33) (ls1 := [vR (o + 1), vI a]) (st1 := [vI (if (D (o + 2) a.toNat) = 1 then (1 : Int) else 0)]) (D1 := D) (fun hJ14 => ?_) ?_
              · refine WP_icmp_ne (tgt := 32) dX1_isWall_25 (by decide) (fun c15 => ?_) (fun c15 => ?_)
                · replace hJ14 := ite_f (P := fun v_ : Int => WP mX1_isWall Q 33 [vR (o + 1), vI a] [vI v_] D) hJ14 c15
                  refine WP_iconst (z := 0) dX1_isWall_32 rfl ⟨by decide, by decide⟩ ?_
                  exact hJ14
                · replace hJ14 := ite_t (P := fun v_ : Int => WP mX1_isWall Q 33 [vR (o + 1), vI a] [vI v_] D) hJ14 c15
                  refine WP_iconst (z := 1) dX1_isWall_28 rfl ⟨by decide, by decide⟩ ?_
                  refine WP_goto (tgt := 33) dX1_isWall_29 (by decide) ?_
                  exact hJ14
              exact hJ10
          exact hJ6
      exact hJ2
  · exact WP_zreturn dX1_isWall_33 rfl (bool_ite (Or.inl rfl) (bool_ite (Or.inl rfl) (bool_ite (Or.inl rfl) (bool_ite (Or.inr rfl) (Or.inl rfl))))) h
set_option maxRecDepth 100000 in
set_option maxHeartbeats 4000000 in
theorem P_X1_isWall {o : Nat} (ho : o = 9 ∨ o = 25) {a : Int} {D : HP} (hob : oX1_isWall D o a) : CT mX1_isWall [vR (o + 1), vI a] D (PF (vI (fX1_isWall D o a)) D) := by
  refine V_X1_isWall ho a (fun hcD hc_0 => ?_)
  obtain ⟨z, hz⟩ : ∃ z, z = fX1_isWall D o a := ⟨_, rfl⟩
  rw [← hz]
  unfold fX1_isWall at hz
  unfold oX1_isWall at hob
  refine ⟨hob.1, ?_⟩
  replace hob := hob.2
  exact ⟨by rw [hz], rfl⟩
def fX1_layOf (D : HP) (o : Nat) (a : Int) (b : Int) : Int := (if (fX1_isWall D o a) = 0 then ((if (fX1_isWall D o (fX1_beside D o a b)) = 0 then ((if (if (fX1_isWall D o (fX1_beside D o a ((b + 1) % 4))) = 0 then (0 : Int) else (if (fX1_isWall D o (fX1_beside D o a ((b + 3) % 4))) = 0 then (0 : Int) else 1)) = 0 then ((if (fX1_isWall D o (fX1_beside D o (fX1_beside D o a b) b)) = 0 then (2 : Int) else 1) : Int) else ((if (fX1_isWall D o (fX1_beside D o (fX1_beside D o a b) b)) = 0 then (2 : Int) else 1) + 4)) : Int) else 0) : Int) else 0)
def oX1_layOf (D : HP) (o : Nat) (a : Int) (b : Int) : Prop := ((oX1_beside D o a b) ∧ ((oX1_isWall D o a) ∧ (((fX1_isWall D o a) = 0 → ((oX1_isWall D o (fX1_beside D o a b)) ∧ (((fX1_isWall D o (fX1_beside D o a b)) = 0 → ((oX1_beside D o (fX1_beside D o a b) b) ∧ ((oX1_isWall D o (fX1_beside D o (fX1_beside D o a b) b)) ∧ ((c32 (b + 1)) ∧ ((0 ≤ (b + 1)) ∧ ((oX1_beside D o a ((b + 1) % 4)) ∧ ((oX1_isWall D o (fX1_beside D o a ((b + 1) % 4))) ∧ (((((fX1_isWall D o (fX1_beside D o a ((b + 1) % 4))) = 0) → True) ∧ (¬ ((fX1_isWall D o (fX1_beside D o a ((b + 1) % 4))) = 0) → (c32 (b + 3)) ∧ (0 ≤ (b + 3)) ∧ (oX1_beside D o a ((b + 3) % 4)) ∧ (oX1_isWall D o (fX1_beside D o a ((b + 3) % 4))))) ∧ (((((if (fX1_isWall D o (fX1_beside D o a ((b + 1) % 4))) = 0 then (0 : Int) else (if (fX1_isWall D o (fX1_beside D o a ((b + 3) % 4))) = 0 then (0 : Int) else 1)) = 0) → True) ∧ (¬ ((if (fX1_isWall D o (fX1_beside D o a ((b + 1) % 4))) = 0 then (0 : Int) else (if (fX1_isWall D o (fX1_beside D o a ((b + 3) % 4))) = 0 then (0 : Int) else 1)) = 0) → (c32 ((if (fX1_isWall D o (fX1_beside D o (fX1_beside D o a b) b)) = 0 then (2 : Int) else 1) + 4)))) ∧ True))))))))) ∧ (¬ ((fX1_isWall D o (fX1_beside D o a b)) = 0) → True)))) ∧ (¬ ((fX1_isWall D o a) = 0) → True))))
set_option maxRecDepth 100000 in
set_option maxHeartbeats 4000000 in
theorem V_X1_layOf {o : Nat} (ho : o = 9 ∨ o = 25) (a : Int) (b : Int) {D : HP} {Q : Option MV → HP → Prop}
    (h0 : cD D → c32 a → c32 b → ((oX1_beside D o a b) ∧ ((oX1_isWall D o a) ∧ (((fX1_isWall D o a) = 0 → ((oX1_isWall D o (fX1_beside D o a b)) ∧ (((fX1_isWall D o (fX1_beside D o a b)) = 0 → ((oX1_beside D o (fX1_beside D o a b) b) ∧ ((oX1_isWall D o (fX1_beside D o (fX1_beside D o a b) b)) ∧ ((c32 (b + 1)) ∧ ((0 ≤ (b + 1)) ∧ ((oX1_beside D o a ((b + 1) % 4)) ∧ ((oX1_isWall D o (fX1_beside D o a ((b + 1) % 4))) ∧ (((((fX1_isWall D o (fX1_beside D o a ((b + 1) % 4))) = 0) → True) ∧ (¬ ((fX1_isWall D o (fX1_beside D o a ((b + 1) % 4))) = 0) → (c32 (b + 3)) ∧ (0 ≤ (b + 3)) ∧ (oX1_beside D o a ((b + 3) % 4)) ∧ (oX1_isWall D o (fX1_beside D o a ((b + 3) % 4))))) ∧ (((((if (fX1_isWall D o (fX1_beside D o a ((b + 1) % 4))) = 0 then (0 : Int) else (if (fX1_isWall D o (fX1_beside D o a ((b + 3) % 4))) = 0 then (0 : Int) else 1)) = 0) → True) ∧ (¬ ((if (fX1_isWall D o (fX1_beside D o a ((b + 1) % 4))) = 0 then (0 : Int) else (if (fX1_isWall D o (fX1_beside D o a ((b + 3) % 4))) = 0 then (0 : Int) else 1)) = 0) → (c32 ((if (fX1_isWall D o (fX1_beside D o (fX1_beside D o a b) b)) = 0 then (2 : Int) else 1) + 4)))) ∧ (Q (some (vI (if (if (fX1_isWall D o (fX1_beside D o a ((b + 1) % 4))) = 0 then (0 : Int) else (if (fX1_isWall D o (fX1_beside D o a ((b + 3) % 4))) = 0 then (0 : Int) else 1)) = 0 then ((if (fX1_isWall D o (fX1_beside D o (fX1_beside D o a b) b)) = 0 then (2 : Int) else 1) : Int) else ((if (fX1_isWall D o (fX1_beside D o (fX1_beside D o a b) b)) = 0 then (2 : Int) else 1) + 4)))) D)))))))))) ∧ (¬ ((fX1_isWall D o (fX1_beside D o a b)) = 0) → (Q (some (vI 0)) D))))) ∧ (¬ ((fX1_isWall D o a) = 0) → (Q (some (vI 0)) D))))))
    : CT mX1_layOf [vR (o + 1), vI a, vI b] D Q := by
  refine CT.of 3 (by decide) (Nat.le_of_ble_eq_true rfl) ?_
  show WP mX1_layOf Q 0 [vR (o + 1), vI a, vI b, vU, vU, vU] [] D
  refine WP_cD (fun hcD => ?_)
  refine WP_cl (fun hcl => ?_)
  have h := h0 hcD (cVs_g hcl (i := 1) (v := vI a) rfl) (cVs_g hcl (i := 2) (v := vI b) rfl)
  refine WP_aload_n (z := (o + 1)) dX1_layOf_0 rfl ?_
  refine WP_iload_n (z := a) dX1_layOf_1 rfl ?_
  refine WP_iload_n (z := b) dX1_layOf_2 rfl ?_
  obtain ⟨o25, h⟩ := h
  refine WP_pcallV (g := mX1_beside) (as := [vI a, vI b]) (rest := []) (n := 2) (r := vI (fX1_beside D o a b)) dX1_layOf_3 wm_163 mo_X1_beside (kcC_1 ho) rfl rfl rfl ⟨Nat.le_of_ble_eq_true rfl, Nat.le_of_ble_eq_true rfl⟩ (Nat.le_of_ble_eq_true rfl) (P_X1_beside ho o25) ?_
  refine WP_istore_n (ls1 := [vR (o + 1), vI a, vI b, vI (fX1_beside D o a b), vU, vU]) dX1_layOf_6 (by decide) rfl ?_
  refine WP_aload_n (z := (o + 1)) dX1_layOf_7 rfl ?_
  refine WP_iload_n (z := a) dX1_layOf_8 rfl ?_
  obtain ⟨o24, h⟩ := h
  refine WP_pcallV (g := mX1_isWall) (as := [vI a]) (rest := []) (n := 1) (r := vI (fX1_isWall D o a)) dX1_layOf_9 wm_175 mo_X1_isWall (kcC_1 ho) rfl rfl rfl ⟨Nat.le_of_ble_eq_true rfl, Nat.le_of_ble_eq_true rfl⟩ (Nat.le_of_ble_eq_true rfl) (P_X1_isWall ho o24) ?_
  refine WP_if_ne (tgt := 23) dX1_layOf_12 (by decide) (fun c1 => ?_) (fun c1 => ?_)
  · replace h := h.2 c1
    refine WP_iconst (z := 0) dX1_layOf_23 rfl ⟨by decide, by decide⟩ ?_
    exact WP_ireturn dX1_layOf_24 rfl h
  · replace h := h.1 c1
    refine WP_aload_n (z := (o + 1)) dX1_layOf_15 rfl ?_
    refine WP_iload_n (z := (fX1_beside D o a b)) dX1_layOf_16 rfl ?_
    obtain ⟨o23, h⟩ := h
    refine WP_pcallV (g := mX1_isWall) (as := [vI (fX1_beside D o a b)]) (rest := []) (n := 1) (r := vI (fX1_isWall D o (fX1_beside D o a b))) dX1_layOf_17 wm_175 mo_X1_isWall (kcC_1 ho) rfl rfl rfl ⟨Nat.le_of_ble_eq_true rfl, Nat.le_of_ble_eq_true rfl⟩ (Nat.le_of_ble_eq_true rfl) (P_X1_isWall ho o23) ?_
    refine WP_if_eq (tgt := 25) dX1_layOf_20 (by decide) (fun c2 => ?_) (fun c2 => ?_)
    · replace h := h.1 c2
      refine WP_aload_n (z := (o + 1)) dX1_layOf_25 rfl ?_
      refine WP_aload_n (z := (o + 1)) dX1_layOf_26 rfl ?_
      refine WP_iload_n (z := (fX1_beside D o a b)) dX1_layOf_27 rfl ?_
      refine WP_iload_n (z := b) dX1_layOf_28 rfl ?_
      obtain ⟨o22, h⟩ := h
      refine WP_pcallV (g := mX1_beside) (as := [vI (fX1_beside D o a b), vI b]) (rest := [vR (o + 1)]) (n := 2) (r := vI (fX1_beside D o (fX1_beside D o a b) b)) dX1_layOf_29 wm_163 mo_X1_beside (kcC_1 ho) rfl rfl rfl ⟨Nat.le_of_ble_eq_true rfl, Nat.le_of_ble_eq_true rfl⟩ (Nat.le_of_ble_eq_true rfl) (P_X1_beside ho o22) ?_
      obtain ⟨o21, h⟩ := h
      refine WP_pcallV (g := mX1_isWall) (as := [vI (fX1_beside D o (fX1_beside D o a b) b)]) (rest := []) (n := 1) (r := vI (fX1_isWall D o (fX1_beside D o (fX1_beside D o a b) b))) dX1_layOf_32 wm_175 mo_X1_isWall (kcC_1 ho) rfl rfl rfl ⟨Nat.le_of_ble_eq_true rfl, Nat.le_of_ble_eq_true rfl⟩ (Nat.le_of_ble_eq_true rfl) (P_X1_isWall ho o21) ?_
      refine WP_via (pc1 := 43) (ls1 := [vR (o + 1), vI a, vI b, vI (fX1_beside D o a b), vU, vU]) (st1 := [vI (if (fX1_isWall D o (fX1_beside D o (fX1_beside D o a b) b)) = 0 then (2 : Int) else 1)]) (D1 := D) (fun hJ19 => ?_) ?_
      · refine WP_if_eq (tgt := 42) dX1_layOf_35 (by decide) (fun c20 => ?_) (fun c20 => ?_)
        · replace hJ19 := ite_t (P := fun v_ : Int => WP mX1_layOf Q 43 [vR (o + 1), vI a, vI b, vI (fX1_beside D o a b), vU, vU] [vI v_] D) hJ19 c20
          refine WP_iconst (z := 2) dX1_layOf_42 rfl ⟨by decide, by decide⟩ ?_
          exact hJ19
        · replace hJ19 := ite_f (P := fun v_ : Int => WP mX1_layOf Q 43 [vR (o + 1), vI a, vI b, vI (fX1_beside D o a b), vU, vU] [vI v_] D) hJ19 c20
          refine WP_iconst (z := 1) dX1_layOf_38 rfl ⟨by decide, by decide⟩ ?_
          refine WP_goto (tgt := 43) dX1_layOf_39 (by decide) ?_
          exact hJ19
      · refine WP_istore (ls1 := [vR (o + 1), vI a, vI b, vI (fX1_beside D o a b), vI (if (fX1_isWall D o (fX1_beside D o (fX1_beside D o a b) b)) = 0 then (2 : Int) else 1), vU]) dX1_layOf_43 (by decide) rfl ?_
        refine WP_aload_n (z := (o + 1)) dX1_layOf_45 rfl ?_
        refine WP_aload_n (z := (o + 1)) dX1_layOf_46 rfl ?_
        refine WP_iload_n (z := a) dX1_layOf_47 rfl ?_
        refine WP_iload_n (z := b) dX1_layOf_48 rfl ?_
        refine WP_iconst (z := 1) dX1_layOf_49 rfl ⟨by decide, by decide⟩ ?_
        obtain ⟨o18, h⟩ := h
        refine WP_iadd (z := (b + 1)) dX1_layOf_50 (w32_id o18) ?_
        refine WP_iconst (z := 4) dX1_layOf_51 rfl ⟨by decide, by decide⟩ ?_
        obtain ⟨o17, h⟩ := h
        refine WP_irem dX1_layOf_52 o17 (by decide) rfl ?_
        obtain ⟨o16, h⟩ := h
        refine WP_pcallV (g := mX1_beside) (as := [vI a, vI ((b + 1) % 4)]) (rest := [vR (o + 1)]) (n := 2) (r := vI (fX1_beside D o a ((b + 1) % 4))) dX1_layOf_53 wm_163 mo_X1_beside (kcC_1 ho) rfl rfl rfl ⟨Nat.le_of_ble_eq_true rfl, Nat.le_of_ble_eq_true rfl⟩ (Nat.le_of_ble_eq_true rfl) (P_X1_beside ho o16) ?_
        obtain ⟨o15, h⟩ := h
        refine WP_pcallV (g := mX1_isWall) (as := [vI (fX1_beside D o a ((b + 1) % 4))]) (rest := []) (n := 1) (r := vI (fX1_isWall D o (fX1_beside D o a ((b + 1) % 4)))) dX1_layOf_56 wm_175 mo_X1_isWall (kcC_1 ho) rfl rfl rfl ⟨Nat.le_of_ble_eq_true rfl, Nat.le_of_ble_eq_true rfl⟩ (Nat.le_of_ble_eq_true rfl) (P_X1_isWall ho o15) ?_
        obtain ⟨o3, h⟩ := h
        refine WP_via (pc1 := 84) (ls1 := [vR (o + 1), vI a, vI b, vI (fX1_beside D o a b), vI (if (fX1_isWall D o (fX1_beside D o (fX1_beside D o a b) b)) = 0 then (2 : Int) else 1), vU]) (st1 := [vI (if (fX1_isWall D o (fX1_beside D o a ((b + 1) % 4))) = 0 then (0 : Int) else (if (fX1_isWall D o (fX1_beside D o a ((b + 3) % 4))) = 0 then (0 : Int) else 1))]) (D1 := D) (fun hJ9 => ?_) ?_
        · refine WP_if_eq (tgt := 83) dX1_layOf_59 (by decide) (fun c10 => ?_) (fun c10 => ?_)
          · replace hJ9 := ite_t (P := fun v_ : Int => WP mX1_layOf Q 84 [vR (o + 1), vI a, vI b, vI (fX1_beside D o a b), vI (if (fX1_isWall D o (fX1_beside D o (fX1_beside D o a b) b)) = 0 then (2 : Int) else 1), vU] [vI v_] D) hJ9 c10
            have o11 := o3.1 c10
            refine WP_iconst (z := 0) dX1_layOf_83 rfl ⟨by decide, by decide⟩ ?_
            exact hJ9
          · replace hJ9 := ite_f (P := fun v_ : Int => WP mX1_layOf Q 84 [vR (o + 1), vI a, vI b, vI (fX1_beside D o a b), vI (if (fX1_isWall D o (fX1_beside D o (fX1_beside D o a b) b)) = 0 then (2 : Int) else 1), vU] [vI v_] D) hJ9 c10
            have o12 := o3.2 c10
            refine WP_aload_n (z := (o + 1)) dX1_layOf_62 rfl ?_
            refine WP_aload_n (z := (o + 1)) dX1_layOf_63 rfl ?_
            refine WP_iload_n (z := a) dX1_layOf_64 rfl ?_
            refine WP_iload_n (z := b) dX1_layOf_65 rfl ?_
            refine WP_iconst (z := 3) dX1_layOf_66 rfl ⟨by decide, by decide⟩ ?_
            refine WP_iadd (z := (b + 3)) dX1_layOf_67 (w32_id o12.1) ?_
            refine WP_iconst (z := 4) dX1_layOf_68 rfl ⟨by decide, by decide⟩ ?_
            refine WP_irem dX1_layOf_69 o12.2.1 (by decide) rfl ?_
            refine WP_pcallV (g := mX1_beside) (as := [vI a, vI ((b + 3) % 4)]) (rest := [vR (o + 1)]) (n := 2) (r := vI (fX1_beside D o a ((b + 3) % 4))) dX1_layOf_70 wm_163 mo_X1_beside (kcC_1 ho) rfl rfl rfl ⟨Nat.le_of_ble_eq_true rfl, Nat.le_of_ble_eq_true rfl⟩ (Nat.le_of_ble_eq_true rfl) (P_X1_beside ho o12.2.2.1) ?_
            refine WP_pcallV (g := mX1_isWall) (as := [vI (fX1_beside D o a ((b + 3) % 4))]) (rest := []) (n := 1) (r := vI (fX1_isWall D o (fX1_beside D o a ((b + 3) % 4)))) dX1_layOf_73 wm_175 mo_X1_isWall (kcC_1 ho) rfl rfl rfl ⟨Nat.le_of_ble_eq_true rfl, Nat.le_of_ble_eq_true rfl⟩ (Nat.le_of_ble_eq_true rfl) (P_X1_isWall ho o12.2.2.2) ?_
            refine WP_via (pc1 := 84) (ls1 := [vR (o + 1), vI a, vI b, vI (fX1_beside D o a b), vI (if (fX1_isWall D o (fX1_beside D o (fX1_beside D o a b) b)) = 0 then (2 : Int) else 1), vU]) (st1 := [vI (if (fX1_isWall D o (fX1_beside D o a ((b + 3) % 4))) = 0 then (0 : Int) else 1)]) (D1 := D) (fun hJ13 => ?_) ?_
            · refine WP_if_eq (tgt := 83) dX1_layOf_76 (by decide) (fun c14 => ?_) (fun c14 => ?_)
              · replace hJ13 := ite_t (P := fun v_ : Int => WP mX1_layOf Q 84 [vR (o + 1), vI a, vI b, vI (fX1_beside D o a b), vI (if (fX1_isWall D o (fX1_beside D o (fX1_beside D o a b) b)) = 0 then (2 : Int) else 1), vU] [vI v_] D) hJ13 c14
                refine WP_iconst (z := 0) dX1_layOf_83 rfl ⟨by decide, by decide⟩ ?_
                exact hJ13
              · replace hJ13 := ite_f (P := fun v_ : Int => WP mX1_layOf Q 84 [vR (o + 1), vI a, vI b, vI (fX1_beside D o a b), vI (if (fX1_isWall D o (fX1_beside D o (fX1_beside D o a b) b)) = 0 then (2 : Int) else 1), vU] [vI v_] D) hJ13 c14
                refine WP_iconst (z := 1) dX1_layOf_79 rfl ⟨by decide, by decide⟩ ?_
                refine WP_goto (tgt := 84) dX1_layOf_80 (by decide) ?_
                exact hJ13
            exact hJ9
        · refine WP_istore (ls1 := [vR (o + 1), vI a, vI b, vI (fX1_beside D o a b), vI (if (fX1_isWall D o (fX1_beside D o (fX1_beside D o a b) b)) = 0 then (2 : Int) else 1), vI (if (fX1_isWall D o (fX1_beside D o a ((b + 1) % 4))) = 0 then (0 : Int) else (if (fX1_isWall D o (fX1_beside D o a ((b + 3) % 4))) = 0 then (0 : Int) else 1))]) dX1_layOf_84 (by decide) rfl ?_
          refine WP_iload (z := (if (fX1_isWall D o (fX1_beside D o a ((b + 1) % 4))) = 0 then (0 : Int) else (if (fX1_isWall D o (fX1_beside D o a ((b + 3) % 4))) = 0 then (0 : Int) else 1))) dX1_layOf_86 rfl ?_
          obtain ⟨o4, h⟩ := h
          refine WP_via (pc1 := 100) (ls1 := [vR (o + 1), vI a, vI b, vI (fX1_beside D o a b), vI (if (fX1_isWall D o (fX1_beside D o (fX1_beside D o a b) b)) = 0 then (2 : Int) else 1), vI (if (fX1_isWall D o (fX1_beside D o a ((b + 1) % 4))) = 0 then (0 : Int) else (if (fX1_isWall D o (fX1_beside D o a ((b + 3) % 4))) = 0 then (0 : Int) else 1))]) (st1 := [vI (if (if (fX1_isWall D o (fX1_beside D o a ((b + 1) % 4))) = 0 then (0 : Int) else (if (fX1_isWall D o (fX1_beside D o a ((b + 3) % 4))) = 0 then (0 : Int) else 1)) = 0 then ((if (fX1_isWall D o (fX1_beside D o (fX1_beside D o a b) b)) = 0 then (2 : Int) else 1) : Int) else ((if (fX1_isWall D o (fX1_beside D o (fX1_beside D o a b) b)) = 0 then (2 : Int) else 1) + 4))]) (D1 := D) (fun hJ5 => ?_) ?_
          · refine WP_if_eq (tgt := 98) dX1_layOf_88 (by decide) (fun c6 => ?_) (fun c6 => ?_)
            · replace hJ5 := ite_t (P := fun v_ : Int => WP mX1_layOf Q 100 [vR (o + 1), vI a, vI b, vI (fX1_beside D o a b), vI (if (fX1_isWall D o (fX1_beside D o (fX1_beside D o a b) b)) = 0 then (2 : Int) else 1), vI (if (fX1_isWall D o (fX1_beside D o a ((b + 1) % 4))) = 0 then (0 : Int) else (if (fX1_isWall D o (fX1_beside D o a ((b + 3) % 4))) = 0 then (0 : Int) else 1))] [vI v_] D) hJ5 c6
              have o7 := o4.1 c6
              refine WP_iload (z := (if (fX1_isWall D o (fX1_beside D o (fX1_beside D o a b) b)) = 0 then (2 : Int) else 1)) dX1_layOf_98 rfl ?_
              exact hJ5
            · replace hJ5 := ite_f (P := fun v_ : Int => WP mX1_layOf Q 100 [vR (o + 1), vI a, vI b, vI (fX1_beside D o a b), vI (if (fX1_isWall D o (fX1_beside D o (fX1_beside D o a b) b)) = 0 then (2 : Int) else 1), vI (if (fX1_isWall D o (fX1_beside D o a ((b + 1) % 4))) = 0 then (0 : Int) else (if (fX1_isWall D o (fX1_beside D o a ((b + 3) % 4))) = 0 then (0 : Int) else 1))] [vI v_] D) hJ5 c6
              have o8 := o4.2 c6
              refine WP_iload (z := (if (fX1_isWall D o (fX1_beside D o (fX1_beside D o a b) b)) = 0 then (2 : Int) else 1)) dX1_layOf_91 rfl ?_
              refine WP_iconst (z := 4) dX1_layOf_93 rfl ⟨by decide, by decide⟩ ?_
              refine WP_iadd (z := ((if (fX1_isWall D o (fX1_beside D o (fX1_beside D o a b) b)) = 0 then (2 : Int) else 1) + 4)) dX1_layOf_94 (w32_id o8) ?_
              refine WP_goto (tgt := 100) dX1_layOf_95 (by decide) ?_
              exact hJ5
          · exact WP_ireturn dX1_layOf_100 rfl h
    · replace h := h.2 c2
      refine WP_iconst (z := 0) dX1_layOf_23 rfl ⟨by decide, by decide⟩ ?_
      exact WP_ireturn dX1_layOf_24 rfl h
set_option maxRecDepth 100000 in
set_option maxHeartbeats 4000000 in
theorem P_X1_layOf {o : Nat} (ho : o = 9 ∨ o = 25) {a : Int} {b : Int} {D : HP} (hob : oX1_layOf D o a b) : CT mX1_layOf [vR (o + 1), vI a, vI b] D (PF (vI (fX1_layOf D o a b)) D) := by
  refine V_X1_layOf ho a b (fun hcD hc_0 hc_1 => ?_)
  obtain ⟨z, hz⟩ : ∃ z, z = fX1_layOf D o a b := ⟨_, rfl⟩
  rw [← hz]
  unfold fX1_layOf at hz
  unfold oX1_layOf at hob
  refine ⟨hob.1, ?_⟩
  replace hob := hob.2
  refine ⟨hob.1, ?_⟩
  replace hob := hob.2
  refine ⟨fun k2 => ?_, fun k2 => ?_⟩
  · replace hob := hob.1 k2
    replace hz := hz.trans (if_pos k2)
    refine ⟨hob.1, ?_⟩
    replace hob := hob.2
    refine ⟨fun k1 => ?_, fun k1 => ?_⟩
    · replace hob := hob.1 k1
      replace hz := hz.trans (if_pos k1)
      refine ⟨hob.1, ?_⟩
      replace hob := hob.2
      refine ⟨hob.1, ?_⟩
      replace hob := hob.2
      refine ⟨hob.1, ?_⟩
      replace hob := hob.2
      refine ⟨hob.1, ?_⟩
      replace hob := hob.2
      refine ⟨hob.1, ?_⟩
      replace hob := hob.2
      refine ⟨hob.1, ?_⟩
      replace hob := hob.2
      refine ⟨hob.1, ?_⟩
      replace hob := hob.2
      refine ⟨hob.1, ?_⟩
      replace hob := hob.2
      exact ⟨by rw [hz], rfl⟩
    · replace hob := hob.2 k1
      replace hz := hz.trans (if_neg k1)
      exact ⟨by rw [hz], rfl⟩
  · replace hob := hob.2 k2
    replace hz := hz.trans (if_neg k2)
    exact ⟨by rw [hz], rfl⟩
set_option maxRecDepth 100000 in
set_option maxHeartbeats 4000000 in
theorem V_X1_survey {o : Nat} (ho : o = 9 ∨ o = 25) {D : HP} {Q : Option MV → HP → Prop} (I2 : Int → HP → Prop) (u2 : Int → HP → Nat) (I9 : Int → Int → HP → Prop) (u9 : Int → Int → HP → Nat)
    (h0 : cD D → (I2 0 D))
    (h2 : ∀ (x1 : Int) (D : HP), I2 x1 D → cD D → c32 x1 → ((4 ≤ x1 → (Q none D)) ∧ (¬ (4 ≤ x1) → (I9 x1 0 D ∧ u9 x1 0 D ≤ u2 x1 D))))
    (h9 : ∀ (x1 x2 : Int) (D : HP), I9 x1 x2 D → cD D → c32 x1 → c32 x2 → (((D (o + 1) 1) ≤ x2 → ((c32 (x1 + 1)) ∧ (I2 (x1 + 1) D ∧ u2 (x1 + 1) D < u9 x1 x2 D))) ∧ (¬ ((D (o + 1) 1) ≤ x2) → ((25 ≤ x2 → ((c32 (x1 + 1)) ∧ (I2 (x1 + 1) D ∧ u2 (x1 + 1) D < u9 x1 x2 D))) ∧ (¬ (25 ≤ x2) → ((c32 (x1 * 25)) ∧ ((c32 ((x1 * 25) + x2)) ∧ ((oX1_beside D o x2 x1) ∧ ((0 ≤ ((x1 * 25) + x2) ∧ ((x1 * 25) + x2) < 100) ∧ ((c32 (x1 * 25)) ∧ ((c32 ((x1 * 25) + x2)) ∧ ((oX1_layOf (hu D (o + 3) (((x1 * 25) + x2)).toNat (fX1_beside D o x2 x1)) o x2 x1) ∧ ((0 ≤ ((x1 * 25) + x2) ∧ ((x1 * 25) + x2) < 100) ∧ ((c32 (x2 + 1)) ∧ (I9 x1 (x2 + 1) (hu (hu D (o + 3) (((x1 * 25) + x2)).toNat (fX1_beside D o x2 x1)) (o + 4) (((x1 * 25) + x2)).toNat (fX1_layOf (hu D (o + 3) (((x1 * 25) + x2)).toNat (fX1_beside D o x2 x1)) o x2 x1)) ∧ u9 x1 (x2 + 1) (hu (hu D (o + 3) (((x1 * 25) + x2)).toNat (fX1_beside D o x2 x1)) (o + 4) (((x1 * 25) + x2)).toNat (fX1_layOf (hu D (o + 3) (((x1 * 25) + x2)).toNat (fX1_beside D o x2 x1)) o x2 x1)) < u9 x1 x2 D)))))))))))))))
    : CT mX1_survey [vR (o + 1)] D Q := by
  refine CT.of 2 (by decide) (Nat.le_of_ble_eq_true rfl) ?_
  show WP mX1_survey Q 0 [vR (o + 1), vU, vU] [] D
  have IH : ∀ n : Nat, (∀ (x1 : Int) (D : HP), I2 x1 D → u2 x1 D * 2 + 1 < n → WP mX1_survey Q 2 [vR (o + 1), vI x1, vU] [] D) ∧ (∀ (x1 x2 : Int) (D : HP), I9 x1 x2 D → u9 x1 x2 D * 2 + 0 < n → WP mX1_survey Q 9 [vR (o + 1), vI x1, vI x2] [] D) := by
    intro n
    induction n with
    | zero => exact ⟨fun _ _ _ h => absurd h (Nat.not_lt_zero _), fun _ _ _ _ h => absurd h (Nat.not_lt_zero _)⟩
    | succ n ih =>
      have ih2_ := ih.1
      have ih9_ := ih.2
      refine ⟨?_, ?_⟩
      · intro x1 D hI hn
        refine WP_cD (fun hcD => ?_)
        refine WP_cl (fun hcl => ?_)
        have h := h2 x1 D hI hcD (cVs_g hcl (i := 1) (v := vI x1) rfl)
        refine WP_iload_n (z := x1) dX1_survey_2 rfl ?_
        refine WP_iconst (z := 4) dX1_survey_3 rfl ⟨by decide, by decide⟩ ?_
        refine WP_icmp_ge (tgt := 69) dX1_survey_4 (by decide) (fun c1 => ?_) (fun c1 => ?_)
        · replace h := h.1 c1
          exact WP_return dX1_survey_69 rfl h
        · replace h := h.2 c1
          refine WP_iconst (z := 0) dX1_survey_7 rfl ⟨by decide, by decide⟩ ?_
          refine WP_istore_n (ls1 := [vR (o + 1), vI x1, vI 0]) dX1_survey_8 (by decide) rfl ?_
          exact ih9_ _ _ _ h.1 (by have := h.2; omega)
      · intro x1 x2 D hI hn
        refine WP_cD (fun hcD => ?_)
        refine WP_cl (fun hcl => ?_)
        have h := h9 x1 x2 D hI hcD (cVs_g hcl (i := 1) (v := vI x1) rfl) (cVs_g hcl (i := 2) (v := vI x2) rfl)
        refine WP_iload_n (z := x2) dX1_survey_9 rfl ?_
        refine WP_aload_n (z := (o + 1)) dX1_survey_10 rfl ?_
        refine WP_getI dX1_survey_11 fl_RX1_15 (kcC_1 ho) rfl rfl ?_
        refine WP_icmp_ge (tgt := 63) dX1_survey_14 (by decide) (fun c2 => ?_) (fun c2 => ?_)
        · replace h := h.1 c2
          obtain ⟨o3, h⟩ := h
          refine WP_iinc (z := (x1 + 1)) (ls1 := [vR (o + 1), vI (x1 + 1), vI x2]) dX1_survey_63 rfl (w32_id o3) (by decide) rfl ?_
          refine WP_goto (tgt := 2) dX1_survey_66 (by decide) ?_
          refine WP_fg 2 (ls1 := [vR (o + 1), vI (x1 + 1), vU]) rfl ?_
          exact ih2_ _ _ h.1 (by have := h.2; omega)
        · replace h := h.2 c2
          refine WP_iload_n (z := x2) dX1_survey_17 rfl ?_
          refine WP_bipush (z := 25) dX1_survey_18 rfl (by decide) ?_
          refine WP_icmp_ge (tgt := 63) dX1_survey_20 (by decide) (fun c4 => ?_) (fun c4 => ?_)
          · replace h := h.1 c4
            obtain ⟨o5, h⟩ := h
            refine WP_iinc (z := (x1 + 1)) (ls1 := [vR (o + 1), vI (x1 + 1), vI x2]) dX1_survey_63 rfl (w32_id o5) (by decide) rfl ?_
            refine WP_goto (tgt := 2) dX1_survey_66 (by decide) ?_
            refine WP_fg 2 (ls1 := [vR (o + 1), vI (x1 + 1), vU]) rfl ?_
            exact ih2_ _ _ h.1 (by have := h.2; omega)
          · replace h := h.2 c4
            refine WP_aload_n (z := (o + 1)) dX1_survey_23 rfl ?_
            refine WP_getR (z := (o + 3)) dX1_survey_24 fl_RX1_28 (kcC_1 ho) rfl (srC_1_5 ho) ?_
            refine WP_iload_n (z := x1) dX1_survey_27 rfl ?_
            refine WP_bipush (z := 25) dX1_survey_28 rfl (by decide) ?_
            obtain ⟨o14, h⟩ := h
            refine WP_imul (z := (x1 * 25)) dX1_survey_30 (w32_id o14) ?_
            refine WP_iload_n (z := x2) dX1_survey_31 rfl ?_
            obtain ⟨o13, h⟩ := h
            refine WP_iadd (z := ((x1 * 25) + x2)) dX1_survey_32 (w32_id o13) ?_
            refine WP_aload_n (z := (o + 1)) dX1_survey_33 rfl ?_
            refine WP_iload_n (z := x2) dX1_survey_34 rfl ?_
            refine WP_iload_n (z := x1) dX1_survey_35 rfl ?_
            obtain ⟨o12, h⟩ := h
            refine WP_pcallV (g := mX1_beside) (as := [vI x2, vI x1]) (rest := [vI ((x1 * 25) + x2), vR (o + 3)]) (n := 2) (r := vI (fX1_beside D o x2 x1)) dX1_survey_36 wm_163 mo_X1_beside (kcC_1 ho) rfl rfl rfl ⟨Nat.le_of_ble_eq_true rfl, Nat.le_of_ble_eq_true rfl⟩ (Nat.le_of_ble_eq_true rfl) (P_X1_beside ho o12) ?_
            obtain ⟨o11, h⟩ := h
            refine WP_iast dX1_survey_39 (kcC_3 ho) o11.1 o11.2 ?_
            refine WP_aload_n (z := (o + 1)) dX1_survey_40 rfl ?_
            refine WP_getR (z := (o + 4)) dX1_survey_41 fl_RX1_31 (kcC_1 ho) rfl (srC_1_6 ho) ?_
            refine WP_iload_n (z := x1) dX1_survey_44 rfl ?_
            refine WP_bipush (z := 25) dX1_survey_45 rfl (by decide) ?_
            obtain ⟨o10, h⟩ := h
            refine WP_imul (z := (x1 * 25)) dX1_survey_47 (w32_id o10) ?_
            refine WP_iload_n (z := x2) dX1_survey_48 rfl ?_
            obtain ⟨o9, h⟩ := h
            refine WP_iadd (z := ((x1 * 25) + x2)) dX1_survey_49 (w32_id o9) ?_
            refine WP_aload_n (z := (o + 1)) dX1_survey_50 rfl ?_
            refine WP_iload_n (z := x2) dX1_survey_51 rfl ?_
            refine WP_iload_n (z := x1) dX1_survey_52 rfl ?_
            obtain ⟨o8, h⟩ := h
            refine WP_pcallV (g := mX1_layOf) (as := [vI x2, vI x1]) (rest := [vI ((x1 * 25) + x2), vR (o + 4)]) (n := 2) (r := vI (fX1_layOf (hu D (o + 3) (((x1 * 25) + x2)).toNat (fX1_beside D o x2 x1)) o x2 x1)) dX1_survey_53 wm_171 mo_X1_layOf (kcC_1 ho) rfl rfl rfl ⟨Nat.le_of_ble_eq_true rfl, Nat.le_of_ble_eq_true rfl⟩ (Nat.le_of_ble_eq_true rfl) (P_X1_layOf ho o8) ?_
            obtain ⟨o7, h⟩ := h
            refine WP_iast dX1_survey_56 (kcC_4 ho) o7.1 o7.2 ?_
            obtain ⟨o6, h⟩ := h
            refine WP_iinc (z := (x2 + 1)) (ls1 := [vR (o + 1), vI x1, vI (x2 + 1)]) dX1_survey_57 rfl (w32_id o6) (by decide) rfl ?_
            refine WP_goto (tgt := 9) dX1_survey_60 (by decide) ?_
            exact ih9_ _ _ _ h.1 (by have := h.2; omega)
  have cut2_ : ∀ (x1 : Int) (D : HP), I2 x1 D → WP mX1_survey Q 2 [vR (o + 1), vI x1, vU] [] D := fun x1 D hI => (IH (u2 x1 D * 2 + 1 + 1)).1 x1 D hI (by omega)
  have cut9_ : ∀ (x1 x2 : Int) (D : HP), I9 x1 x2 D → WP mX1_survey Q 9 [vR (o + 1), vI x1, vI x2] [] D := fun x1 x2 D hI => (IH (u9 x1 x2 D * 2 + 0 + 1)).2 x1 x2 D hI (by omega)
  refine WP_cD (fun hcD => ?_)
  have h := h0 hcD
  refine WP_iconst (z := 0) dX1_survey_0 rfl ⟨by decide, by decide⟩ ?_
  refine WP_istore_n (ls1 := [vR (o + 1), vI 0, vU]) dX1_survey_1 (by decide) rfl ?_
  exact cut2_ _ _ h
set_option maxRecDepth 100000 in
set_option maxHeartbeats 4000000 in
theorem V_X1_readCorner {o : Nat} (ho : o = 9 ∨ o = 25) {a : Nat} (ha : a = 2 ∨ a = 3 ∨ a = 4) {D : HP} {Q : Option MV → HP → Prop}
    (h0 : cD D → (((fX2_length (hu (hu D (o + 1) 0 0) (o + 1) 1 0) a) = 0 → (∃ Q3 : Option MV → HP → Prop, CT mX1_survey [vR (o + 1)] (hu (hu D (o + 1) 0 0) (o + 1) 1 0) Q3 ∧ ∀ (D6 : HP), Q3 none D6 → cD D6 → (Q (some (vI (-1))) D6))) ∧ (¬ ((fX2_length (hu (hu D (o + 1) 0 0) (o + 1) 1 0) a) = 0) → (∃ Q10 : Option MV → HP → Prop, CT mX1_readRows [vR (o + 1), vR a] (hu (hu D (o + 1) 0 0) (o + 1) 1 0) Q10 ∧ ∀ (r14 : Int) (D13 : HP), Q10 (some (vI r14)) D13 → c32 r14 → cD D13 → ((r14 = (-1) → (∃ Q18 : Option MV → HP → Prop, CT mX1_survey [vR (o + 1)] D13 Q18 ∧ ∀ (D21 : HP), Q18 none D21 → cD D21 → (Q (some (vI r14)) D21))) ∧ (¬ (r14 = (-1)) → (∃ Q25 : Option MV → HP → Prop, CT mX1_survey [vR (o + 1)] (hu (hu D13 (o + 1) 0 0) (o + 1) 1 0) Q25 ∧ ∀ (D28 : HP), Q25 none D28 → cD D28 → (Q (some (vI r14)) D28))))))))
    : CT mX1_readCorner [vR (o + 1), vR a] D Q := by
  refine CT.of 1 (by decide) (Nat.le_of_ble_eq_true rfl) ?_
  show WP mX1_readCorner Q 0 [vR (o + 1), vR a, vU] [] D
  refine WP_cD (fun hcD => ?_)
  have h := h0 hcD
  refine WP_aload_n (z := (o + 1)) dX1_readCorner_0 rfl ?_
  refine WP_iconst (z := 0) dX1_readCorner_1 rfl ⟨by decide, by decide⟩ ?_
  refine WP_putI dX1_readCorner_2 fp_RX1_9 (kcC_1 ho) rfl ?_
  refine WP_aload_n (z := (o + 1)) dX1_readCorner_5 rfl ?_
  refine WP_iconst (z := 0) dX1_readCorner_6 rfl ⟨by decide, by decide⟩ ?_
  refine WP_putI dX1_readCorner_7 fp_RX1_15 (kcC_1 ho) rfl ?_
  refine WP_aload_n (z := a) dX1_readCorner_10 rfl ?_
  refine WP_pcallV (g := mX2_length) (as := []) (rest := []) (n := 0) (r := vI (fX2_length (hu (hu D (o + 1) 0 0) (o + 1) 1 0) a)) dX1_readCorner_11 wm_143 mo_X2_length (kcT_0 ha) rfl rfl rfl ⟨Nat.le_of_ble_eq_true rfl, Nat.le_of_ble_eq_true rfl⟩ (Nat.le_of_ble_eq_true rfl) (P_X2_length ha trivial) ?_
  refine WP_if_ne (tgt := 21) dX1_readCorner_14 (by decide) (fun c1 => ?_) (fun c1 => ?_)
  · replace h := h.2 c1
    refine WP_aload_n (z := (o + 1)) dX1_readCorner_21 rfl ?_
    refine WP_aload_n (z := a) dX1_readCorner_22 rfl ?_
    obtain ⟨Q10, ct12, h⟩ := h
    refine WP_callV (g := mX1_readRows) (as := [vR a]) (rest := []) (n := 1) dX1_readCorner_23 wm_147 mo_X1_readRows (kcC_1 ho) rfl rfl rfl ⟨Nat.le_of_ble_eq_true rfl, Nat.le_of_ble_eq_true rfl⟩ (Nat.le_of_ble_eq_true rfl) ct12 (fun r_ D13 hq11 hok hD16 => ?_)
    obtain ⟨r14, rfl, hr15⟩ := hok
    replace h := h r14 D13 hq11 hr15 hD16
    show WP mX1_readCorner Q 26 [vR (o + 1), vR a, vU] [vI r14] D13
    refine WP_istore_n (ls1 := [vR (o + 1), vR a, vI r14]) dX1_readCorner_26 (by decide) rfl ?_
    refine WP_iload_n (z := r14) dX1_readCorner_27 rfl ?_
    refine WP_iconst (z := (-1)) dX1_readCorner_28 rfl ⟨by decide, by decide⟩ ?_
    refine WP_icmp_eq (tgt := 42) dX1_readCorner_29 (by decide) (fun c17 => ?_) (fun c17 => ?_)
    · replace h := h.1 c17
      refine WP_aload_n (z := (o + 1)) dX1_readCorner_42 rfl ?_
      obtain ⟨Q18, ct20, h⟩ := h
      refine WP_callV (g := mX1_survey) (as := []) (rest := []) (n := 0) dX1_readCorner_43 wm_159 mo_X1_survey (kcC_1 ho) rfl rfl rfl ⟨Nat.le_of_ble_eq_true rfl, Nat.le_of_ble_eq_true rfl⟩ (Nat.le_of_ble_eq_true rfl) ct20 (fun r_ D21 hq19 hok hD24 => ?_)
      obtain rfl := hok
      replace h := h D21 hq19 hD24
      show WP mX1_readCorner Q 46 [vR (o + 1), vR a, vI r14] [] D21
      refine WP_iload_n (z := r14) dX1_readCorner_46 rfl ?_
      exact WP_ireturn dX1_readCorner_47 rfl h
    · replace h := h.2 c17
      refine WP_aload_n (z := (o + 1)) dX1_readCorner_32 rfl ?_
      refine WP_iconst (z := 0) dX1_readCorner_33 rfl ⟨by decide, by decide⟩ ?_
      refine WP_putI dX1_readCorner_34 fp_RX1_9 (kcC_1 ho) rfl ?_
      refine WP_aload_n (z := (o + 1)) dX1_readCorner_37 rfl ?_
      refine WP_iconst (z := 0) dX1_readCorner_38 rfl ⟨by decide, by decide⟩ ?_
      refine WP_putI dX1_readCorner_39 fp_RX1_15 (kcC_1 ho) rfl ?_
      refine WP_aload_n (z := (o + 1)) dX1_readCorner_42 rfl ?_
      obtain ⟨Q25, ct27, h⟩ := h
      refine WP_callV (g := mX1_survey) (as := []) (rest := []) (n := 0) dX1_readCorner_43 wm_159 mo_X1_survey (kcC_1 ho) rfl rfl rfl ⟨Nat.le_of_ble_eq_true rfl, Nat.le_of_ble_eq_true rfl⟩ (Nat.le_of_ble_eq_true rfl) ct27 (fun r_ D28 hq26 hok hD31 => ?_)
      obtain rfl := hok
      replace h := h D28 hq26 hD31
      show WP mX1_readCorner Q 46 [vR (o + 1), vR a, vI r14] [] D28
      refine WP_iload_n (z := r14) dX1_readCorner_46 rfl ?_
      exact WP_ireturn dX1_readCorner_47 rfl h
  · replace h := h.1 c1
    refine WP_iconst (z := (-1)) dX1_readCorner_17 rfl ⟨by decide, by decide⟩ ?_
    refine WP_goto (tgt := 26) dX1_readCorner_18 (by decide) ?_
    refine WP_istore_n (ls1 := [vR (o + 1), vR a, vI (-1)]) dX1_readCorner_26 (by decide) rfl ?_
    refine WP_iload_n (z := (-1)) dX1_readCorner_27 rfl ?_
    refine WP_iconst (z := (-1)) dX1_readCorner_28 rfl ⟨by decide, by decide⟩ ?_
    refine WP_icmp_eq (tgt := 42) dX1_readCorner_29 (by decide) (fun _ => ?_) (fun c2 => absurd c2 (by decide))
    · refine WP_aload_n (z := (o + 1)) dX1_readCorner_42 rfl ?_
      obtain ⟨Q3, ct5, h⟩ := h
      refine WP_callV (g := mX1_survey) (as := []) (rest := []) (n := 0) dX1_readCorner_43 wm_159 mo_X1_survey (kcC_1 ho) rfl rfl rfl ⟨Nat.le_of_ble_eq_true rfl, Nat.le_of_ble_eq_true rfl⟩ (Nat.le_of_ble_eq_true rfl) ct5 (fun r_ D6 hq4 hok hD9 => ?_)
      obtain rfl := hok
      replace h := h D6 hq4 hD9
      show WP mX1_readCorner Q 46 [vR (o + 1), vR a, vI (-1)] [] D6
      refine WP_iload_n (z := (-1)) dX1_readCorner_46 rfl ?_
      exact WP_ireturn dX1_readCorner_47 rfl h
def fX1_wayOf (D : HP) (a : Int) : Int := (if a = 101 then (1 : Int) else (if a = 110 then (0 : Int) else (if a = 115 then (2 : Int) else (if a = 119 then (3 : Int) else (-1)))))
def oX1_wayOf (D : HP) (a : Int) : Prop := True
set_option maxRecDepth 100000 in
set_option maxHeartbeats 4000000 in
theorem V_X1_wayOf (a : Int) {D : HP} {Q : Option MV → HP → Prop}
    (h0 : cD D → c32 a → (((¬ a = 101 ∧ ¬ a = 110 ∧ ¬ a = 115 ∧ ¬ a = 119) → (Q (some (vI (-1))) D)) ∧ (a = 101 → (Q (some (vI 1)) D)) ∧ (a = 110 → (Q (some (vI 0)) D)) ∧ (a = 115 → (Q (some (vI 2)) D)) ∧ (a = 119 → (Q (some (vI 3)) D))))
    : CT mX1_wayOf [vI a] D Q := by
  refine CT.of 0 (by decide) (Nat.le_of_ble_eq_true rfl) ?_
  show WP mX1_wayOf Q 0 [vI a] [] D
  refine WP_cD (fun hcD => ?_)
  refine WP_cl (fun hcl => ?_)
  have h := h0 hcD (cVs_g hcl (i := 0) (v := vI a) rfl)
  refine WP_iload_n (z := a) dX1_wayOf_0 rfl ?_
  rcases (show (¬ a = 101 ∧ ¬ a = 110 ∧ ¬ a = 115 ∧ ¬ a = 119) ∨ a = 101 ∨ a = 110 ∨ a = 115 ∨ a = 119 from by omega) with q1 | q1 | q1 | q1 | q1
  · replace h := h.1 q1
    refine WP_look (off := 51) (tgt := 52) dX1_wayOf_1 (by decide) (lookO_4 q1) (by decide) ?_
    refine WP_iconst (z := (-1)) dX1_wayOf_52 rfl ⟨by decide, by decide⟩ ?_
    exact WP_ireturn dX1_wayOf_53 rfl h
  · replace h := h.2.1 q1
    refine WP_look (off := 45) (tgt := 46) dX1_wayOf_1 (by decide) (by rw [q1]; rfl) (by decide) ?_
    refine WP_iconst (z := 1) dX1_wayOf_46 rfl ⟨by decide, by decide⟩ ?_
    exact WP_ireturn dX1_wayOf_47 rfl h
  · replace h := h.2.2.1 q1
    refine WP_look (off := 43) (tgt := 44) dX1_wayOf_1 (by decide) (by rw [q1]; rfl) (by decide) ?_
    refine WP_iconst (z := 0) dX1_wayOf_44 rfl ⟨by decide, by decide⟩ ?_
    exact WP_ireturn dX1_wayOf_45 rfl h
  · replace h := h.2.2.2.1 q1
    refine WP_look (off := 47) (tgt := 48) dX1_wayOf_1 (by decide) (by rw [q1]; rfl) (by decide) ?_
    refine WP_iconst (z := 2) dX1_wayOf_48 rfl ⟨by decide, by decide⟩ ?_
    exact WP_ireturn dX1_wayOf_49 rfl h
  · replace h := h.2.2.2.2 q1
    refine WP_look (off := 49) (tgt := 50) dX1_wayOf_1 (by decide) (by rw [q1]; rfl) (by decide) ?_
    refine WP_iconst (z := 3) dX1_wayOf_50 rfl ⟨by decide, by decide⟩ ?_
    exact WP_ireturn dX1_wayOf_51 rfl h
set_option maxRecDepth 100000 in
set_option maxHeartbeats 4000000 in
theorem P_X1_wayOf {a : Int} {D : HP} (hob : oX1_wayOf D a) : CT mX1_wayOf [vI a] D (PF (vI (fX1_wayOf D a)) D) := by
  refine V_X1_wayOf a (fun hcD hc_0 => ?_)
  obtain ⟨z, hz⟩ : ∃ z, z = fX1_wayOf D a := ⟨_, rfl⟩
  rw [← hz]
  unfold fX1_wayOf at hz
  refine ⟨fun q_ => ?_, fun q_ => ?_, fun q_ => ?_, fun q_ => ?_, fun q_ => ?_⟩
  · replace hz := hz.trans (if_neg (by omega))
    replace hz := hz.trans (if_neg (by omega))
    replace hz := hz.trans (if_neg (by omega))
    replace hz := hz.trans (if_neg (by omega))
    exact ⟨by rw [hz], rfl⟩
  · replace hz := hz.trans (if_pos q_)
    exact ⟨by rw [hz], rfl⟩
  · replace hz := hz.trans (if_neg (by omega))
    replace hz := hz.trans (if_pos q_)
    exact ⟨by rw [hz], rfl⟩
  · replace hz := hz.trans (if_neg (by omega))
    replace hz := hz.trans (if_neg (by omega))
    replace hz := hz.trans (if_pos q_)
    exact ⟨by rw [hz], rfl⟩
  · replace hz := hz.trans (if_neg (by omega))
    replace hz := hz.trans (if_neg (by omega))
    replace hz := hz.trans (if_neg (by omega))
    replace hz := hz.trans (if_pos q_)
    exact ⟨by rw [hz], rfl⟩
def fX1_figureOf (D : HP) (a : Int) (b : Int) (c : Int) : Int := (if (a - 48) < b then ((-1) : Int) else (if c < (a - 48) then ((-1) : Int) else (a - 48)))
def oX1_figureOf (D : HP) (a : Int) (b : Int) (c : Int) : Prop := ((c32 (a - 48)) ∧ True)
set_option maxRecDepth 100000 in
set_option maxHeartbeats 4000000 in
theorem V_X1_figureOf (a : Int) (b : Int) (c : Int) {D : HP} {Q : Option MV → HP → Prop}
    (h0 : cD D → c32 a → c32 b → c32 c → ((c32 (a - 48)) ∧ (Q (some (vI (if (a - 48) < b then ((-1) : Int) else (if c < (a - 48) then ((-1) : Int) else (a - 48))))) D)))
    : CT mX1_figureOf [vI a, vI b, vI c] D Q := by
  refine CT.of 1 (by decide) (Nat.le_of_ble_eq_true rfl) ?_
  show WP mX1_figureOf Q 0 [vI a, vI b, vI c, vU] [] D
  refine WP_cD (fun hcD => ?_)
  refine WP_cl (fun hcl => ?_)
  have h := h0 hcD (cVs_g hcl (i := 0) (v := vI a) rfl) (cVs_g hcl (i := 1) (v := vI b) rfl) (cVs_g hcl (i := 2) (v := vI c) rfl)
  refine WP_iload_n (z := a) dX1_figureOf_0 rfl ?_
  refine WP_bipush (z := 48) dX1_figureOf_1 rfl (by decide) ?_
  obtain ⟨o5, h⟩ := h
  refine WP_isub (z := (a - 48)) dX1_figureOf_3 (w32_id o5) ?_
  refine WP_istore_n (ls1 := [vI a, vI b, vI c, vI (a - 48)]) dX1_figureOf_4 (by decide) rfl ?_
  refine WP_iload_n (z := (a - 48)) dX1_figureOf_5 rfl ?_
  refine WP_iload_n (z := b) dX1_figureOf_6 rfl ?_
  refine WP_via (pc1 := 20) (ls1 := [vI a, vI b, vI c, vI (a - 48)]) (st1 := [vI (if (a - 48) < b then ((-1) : Int) else (if c < (a - 48) then ((-1) : Int) else (a - 48)))]) (D1 := D) (fun hJ1 => ?_) ?_
  · refine WP_icmp_lt (tgt := 19) dX1_figureOf_7 (by decide) (fun c2 => ?_) (fun c2 => ?_)
    · replace hJ1 := ite_t (P := fun v_ : Int => WP mX1_figureOf Q 20 [vI a, vI b, vI c, vI (a - 48)] [vI v_] D) hJ1 c2
      refine WP_iconst (z := (-1)) dX1_figureOf_19 rfl ⟨by decide, by decide⟩ ?_
      exact hJ1
    · replace hJ1 := ite_f (P := fun v_ : Int => WP mX1_figureOf Q 20 [vI a, vI b, vI c, vI (a - 48)] [vI v_] D) hJ1 c2
      refine WP_iload_n (z := (a - 48)) dX1_figureOf_10 rfl ?_
      refine WP_iload_n (z := c) dX1_figureOf_11 rfl ?_
      refine WP_via (pc1 := 20) (ls1 := [vI a, vI b, vI c, vI (a - 48)]) (st1 := [vI (if c < (a - 48) then ((-1) : Int) else (a - 48))]) (D1 := D) (fun hJ3 => ?_) ?_
      · refine WP_icmp_gt (tgt := 19) dX1_figureOf_12 (by decide) (fun c4 => ?_) (fun c4 => ?_)
        · replace hJ3 := ite_t (P := fun v_ : Int => WP mX1_figureOf Q 20 [vI a, vI b, vI c, vI (a - 48)] [vI v_] D) hJ3 c4
          refine WP_iconst (z := (-1)) dX1_figureOf_19 rfl ⟨by decide, by decide⟩ ?_
          exact hJ3
        · replace hJ3 := ite_f (P := fun v_ : Int => WP mX1_figureOf Q 20 [vI a, vI b, vI c, vI (a - 48)] [vI v_] D) hJ3 c4
          refine WP_iload_n (z := (a - 48)) dX1_figureOf_15 rfl ?_
          refine WP_goto (tgt := 20) dX1_figureOf_16 (by decide) ?_
          exact hJ3
      exact hJ1
  · exact WP_ireturn dX1_figureOf_20 rfl h
set_option maxRecDepth 100000 in
set_option maxHeartbeats 4000000 in
theorem P_X1_figureOf {a : Int} {b : Int} {c : Int} {D : HP} (hob : oX1_figureOf D a b c) : CT mX1_figureOf [vI a, vI b, vI c] D (PF (vI (fX1_figureOf D a b c)) D) := by
  refine V_X1_figureOf a b c (fun hcD hc_0 hc_1 hc_2 => ?_)
  obtain ⟨z, hz⟩ : ∃ z, z = fX1_figureOf D a b c := ⟨_, rfl⟩
  rw [← hz]
  unfold fX1_figureOf at hz
  unfold oX1_figureOf at hob
  refine ⟨hob.1, ?_⟩
  replace hob := hob.2
  exact ⟨by rw [hz], rfl⟩
set_option maxRecDepth 100000 in
set_option maxHeartbeats 4000000 in
theorem V_X1_readGusts {o : Nat} (ho : o = 9 ∨ o = 25) {a : Nat} (ha : a = 2 ∨ a = 3 ∨ a = 4) {D : HP} {Q : Option MV → HP → Prop} (I12 : Int → Int → HP → Prop) (u12 : Int → Int → HP → Nat)
    (h0 : cD D → (I12 (fX2_length (hu D (o + 1) 2 0) a) 0 (hu D (o + 1) 2 0)))
    (h12 : ∀ (x2 x3 : Int) (D : HP), I12 x2 x3 D → cD D → c32 x2 → c32 x3 → ((x2 ≤ x3 → ((0 ≤ x2) ∧ (((x2 % 2) = 0 → ((0 ≤ x2) ∧ (Q (some (vI (-1))) (hu D (o + 1) 2 (if 12 < (x2 / 2) then (12 : Int) else (x2 / 2)))))) ∧ (¬ ((x2 % 2) = 0) → (Q (some (vI x2)) D))))) ∧ (¬ (x2 ≤ x3) → ((0 ≤ x3) ∧ ((oX2_at D a x3) ∧ ((0 ≤ x3) ∧ (((((x3 % 2) = 0) → True) ∧ (¬ ((x3 % 2) = 0) → (oX1_figureOf D (fX2_at D a x3) 0 9))) ∧ (((if (x3 % 2) = 0 then ((fX1_wayOf D (fX2_at D a x3)) : Int) else (fX1_figureOf D (fX2_at D a x3) 0 9)) = (-1) → (Q (some (vI x3)) D)) ∧ (¬ ((if (x3 % 2) = 0 then ((fX1_wayOf D (fX2_at D a x3)) : Int) else (fX1_figureOf D (fX2_at D a x3) 0 9)) = (-1)) → (((x3 / 2) < 12 → ((0 ≤ x3) ∧ (((x3 % 2) = 0 → ((0 ≤ (x3 / 2) ∧ (x3 / 2) < 12) ∧ ((c32 (x3 + 1)) ∧ (I12 x2 (x3 + 1) (hu D (o + 5) ((x3 / 2)).toNat (if (x3 % 2) = 0 then ((fX1_wayOf D (fX2_at D a x3)) : Int) else (fX1_figureOf D (fX2_at D a x3) 0 9))) ∧ u12 x2 (x3 + 1) (hu D (o + 5) ((x3 / 2)).toNat (if (x3 % 2) = 0 then ((fX1_wayOf D (fX2_at D a x3)) : Int) else (fX1_figureOf D (fX2_at D a x3) 0 9))) < u12 x2 x3 D)))) ∧ (¬ ((x3 % 2) = 0) → ((0 ≤ (x3 / 2) ∧ (x3 / 2) < 12) ∧ ((c32 (x3 + 1)) ∧ (I12 x2 (x3 + 1) (hu D (o + 6) ((x3 / 2)).toNat (if (x3 % 2) = 0 then ((fX1_wayOf D (fX2_at D a x3)) : Int) else (fX1_figureOf D (fX2_at D a x3) 0 9))) ∧ u12 x2 (x3 + 1) (hu D (o + 6) ((x3 / 2)).toNat (if (x3 % 2) = 0 then ((fX1_wayOf D (fX2_at D a x3)) : Int) else (fX1_figureOf D (fX2_at D a x3) 0 9))) < u12 x2 x3 D))))))) ∧ (¬ ((x3 / 2) < 12) → (Q (some (vI x3)) D))))))))))))
    : CT mX1_readGusts [vR (o + 1), vR a] D Q := by
  refine CT.of 5 (by decide) (Nat.le_of_ble_eq_true rfl) ?_
  show WP mX1_readGusts Q 0 [vR (o + 1), vR a, vU, vU, vU, vU, vU] [] D
  have IH : ∀ n : Nat, (∀ (x2 x3 : Int) (D : HP), I12 x2 x3 D → u12 x2 x3 D * 1 + 0 < n → WP mX1_readGusts Q 12 [vR (o + 1), vR a, vI x2, vI x3, vU, vU, vU] [] D) := by
    intro n
    induction n with
    | zero => exact fun _ _ _ _ h => absurd h (Nat.not_lt_zero _)
    | succ n ih =>
      have ih12_ := ih
      · intro x2 x3 D hI hn
        refine WP_cD (fun hcD => ?_)
        refine WP_cl (fun hcl => ?_)
        have h := h12 x2 x3 D hI hcD (cVs_g hcl (i := 2) (v := vI x2) rfl) (cVs_g hcl (i := 3) (v := vI x3) rfl)
        refine WP_iload_n (z := x3) dX1_readGusts_12 rfl ?_
        refine WP_iload_n (z := x2) dX1_readGusts_13 rfl ?_
        refine WP_icmp_ge (tgt := 101) dX1_readGusts_14 (by decide) (fun c1 => ?_) (fun c1 => ?_)
        · replace h := h.1 c1
          refine WP_iload_n (z := x2) dX1_readGusts_101 rfl ?_
          refine WP_iconst (z := 2) dX1_readGusts_102 rfl ⟨by decide, by decide⟩ ?_
          obtain ⟨o4, h⟩ := h
          refine WP_irem dX1_readGusts_103 o4 (by decide) rfl ?_
          refine WP_if_eq (tgt := 109) dX1_readGusts_104 (by decide) (fun c2 => ?_) (fun c2 => ?_)
          · replace h := h.1 c2
            refine WP_aload_n (z := (o + 1)) dX1_readGusts_109 rfl ?_
            refine WP_iload_n (z := x2) dX1_readGusts_110 rfl ?_
            refine WP_iconst (z := 2) dX1_readGusts_111 rfl ⟨by decide, by decide⟩ ?_
            obtain ⟨o3, h⟩ := h
            refine WP_idiv dX1_readGusts_112 o3 (by decide) rfl ?_
            refine WP_bipush (z := 12) dX1_readGusts_113 rfl (by decide) ?_
            refine WP_min dX1_readGusts_115 wm_183 w_min ⟨Nat.le_of_ble_eq_true rfl, Nat.le_of_ble_eq_true rfl⟩ (Nat.le_of_ble_eq_true rfl) rfl ?_
            refine WP_putI dX1_readGusts_118 fp_RX1_18 (kcC_1 ho) rfl ?_
            refine WP_iconst (z := (-1)) dX1_readGusts_121 rfl ⟨by decide, by decide⟩ ?_
            exact WP_ireturn dX1_readGusts_122 rfl h
          · replace h := h.2 c2
            refine WP_iload_n (z := x2) dX1_readGusts_107 rfl ?_
            exact WP_ireturn dX1_readGusts_108 rfl h
        · replace h := h.2 c1
          refine WP_iload_n (z := x3) dX1_readGusts_17 rfl ?_
          refine WP_iconst (z := 2) dX1_readGusts_18 rfl ⟨by decide, by decide⟩ ?_
          obtain ⟨o20, h⟩ := h
          refine WP_idiv dX1_readGusts_19 o20 (by decide) rfl ?_
          refine WP_istore (ls1 := [vR (o + 1), vR a, vI x2, vI x3, vI (x3 / 2), vU, vU]) dX1_readGusts_20 (by decide) rfl ?_
          refine WP_aload_n (z := a) dX1_readGusts_22 rfl ?_
          refine WP_iload_n (z := x3) dX1_readGusts_23 rfl ?_
          obtain ⟨o19, h⟩ := h
          refine WP_pcallV (g := mX2_at) (as := [vI x3]) (rest := []) (n := 1) (r := vI (fX2_at D a x3)) dX1_readGusts_24 wm_151 mo_X2_at (kcT_0 ha) rfl rfl rfl ⟨Nat.le_of_ble_eq_true rfl, Nat.le_of_ble_eq_true rfl⟩ (Nat.le_of_ble_eq_true rfl) (P_X2_at ha o19) ?_
          refine WP_istore (ls1 := [vR (o + 1), vR a, vI x2, vI x3, vI (x3 / 2), vI (fX2_at D a x3), vU]) dX1_readGusts_27 (by decide) rfl ?_
          refine WP_iload_n (z := x3) dX1_readGusts_29 rfl ?_
          refine WP_iconst (z := 2) dX1_readGusts_30 rfl ⟨by decide, by decide⟩ ?_
          obtain ⟨o18, h⟩ := h
          refine WP_irem dX1_readGusts_31 o18 (by decide) rfl ?_
          obtain ⟨o5, h⟩ := h
          refine WP_via (pc1 := 51) (ls1 := [vR (o + 1), vR a, vI x2, vI x3, vI (x3 / 2), vI (fX2_at D a x3), vU]) (st1 := [vI (if (x3 % 2) = 0 then ((fX1_wayOf D (fX2_at D a x3)) : Int) else (fX1_figureOf D (fX2_at D a x3) 0 9))]) (D1 := D) (fun hJ14 => ?_) ?_
          · refine WP_if_ne (tgt := 43) dX1_readGusts_32 (by decide) (fun c15 => ?_) (fun c15 => ?_)
            · replace hJ14 := ite_f (P := fun v_ : Int => WP mX1_readGusts Q 51 [vR (o + 1), vR a, vI x2, vI x3, vI (x3 / 2), vI (fX2_at D a x3), vU] [vI v_] D) hJ14 c15
              have o17 := o5.2 c15
              refine WP_iload (z := (fX2_at D a x3)) dX1_readGusts_43 rfl ?_
              refine WP_iconst (z := 0) dX1_readGusts_45 rfl ⟨by decide, by decide⟩ ?_
              refine WP_bipush (z := 9) dX1_readGusts_46 rfl (by decide) ?_
              refine WP_pcallS (g := mX1_figureOf) (as := [vI (fX2_at D a x3), vI 0, vI 9]) (rest := []) (n := 3) (r := vI (fX1_figureOf D (fX2_at D a x3) 0 9)) dX1_readGusts_48 wm_187 mo_X1_figureOf rfl rfl ⟨Nat.le_of_ble_eq_true rfl, Nat.le_of_ble_eq_true rfl⟩ (Nat.le_of_ble_eq_true rfl) (P_X1_figureOf  o17) ?_
              exact hJ14
            · replace hJ14 := ite_t (P := fun v_ : Int => WP mX1_readGusts Q 51 [vR (o + 1), vR a, vI x2, vI x3, vI (x3 / 2), vI (fX2_at D a x3), vU] [vI v_] D) hJ14 c15
              have o16 := o5.1 c15
              refine WP_iload (z := (fX2_at D a x3)) dX1_readGusts_35 rfl ?_
              refine WP_pcallS (g := mX1_wayOf) (as := [vI (fX2_at D a x3)]) (rest := []) (n := 1) (r := vI (fX1_wayOf D (fX2_at D a x3))) dX1_readGusts_37 wm_184 mo_X1_wayOf rfl rfl ⟨Nat.le_of_ble_eq_true rfl, Nat.le_of_ble_eq_true rfl⟩ (Nat.le_of_ble_eq_true rfl) (P_X1_wayOf  trivial) ?_
              refine WP_goto (tgt := 51) dX1_readGusts_40 (by decide) ?_
              exact hJ14
          · refine WP_istore (ls1 := [vR (o + 1), vR a, vI x2, vI x3, vI (x3 / 2), vI (fX2_at D a x3), vI (if (x3 % 2) = 0 then ((fX1_wayOf D (fX2_at D a x3)) : Int) else (fX1_figureOf D (fX2_at D a x3) 0 9))]) dX1_readGusts_51 (by decide) rfl ?_
            refine WP_iload (z := (if (x3 % 2) = 0 then ((fX1_wayOf D (fX2_at D a x3)) : Int) else (fX1_figureOf D (fX2_at D a x3) 0 9))) dX1_readGusts_53 rfl ?_
            refine WP_iconst (z := (-1)) dX1_readGusts_55 rfl ⟨by decide, by decide⟩ ?_
            refine WP_icmp_eq (tgt := 66) dX1_readGusts_56 (by decide) (fun c6 => ?_) (fun c6 => ?_)
            · replace h := h.1 c6
              refine WP_iload_n (z := x3) dX1_readGusts_66 rfl ?_
              exact WP_ireturn dX1_readGusts_67 rfl h
            · replace h := h.2 c6
              refine WP_iload (z := (x3 / 2)) dX1_readGusts_59 rfl ?_
              refine WP_bipush (z := 12) dX1_readGusts_61 rfl (by decide) ?_
              refine WP_icmp_lt (tgt := 68) dX1_readGusts_63 (by decide) (fun c7 => ?_) (fun c7 => ?_)
              · replace h := h.1 c7
                refine WP_iload_n (z := x3) dX1_readGusts_68 rfl ?_
                refine WP_iconst (z := 2) dX1_readGusts_69 rfl ⟨by decide, by decide⟩ ?_
                obtain ⟨o13, h⟩ := h
                refine WP_irem dX1_readGusts_70 o13 (by decide) rfl ?_
                refine WP_if_ne (tgt := 86) dX1_readGusts_71 (by decide) (fun c8 => ?_) (fun c8 => ?_)
                · replace h := h.2 c8
                  refine WP_aload_n (z := (o + 1)) dX1_readGusts_86 rfl ?_
                  refine WP_getR (z := (o + 6)) dX1_readGusts_87 fl_RX1_37 (kcC_1 ho) rfl (srC_1_8 ho) ?_
                  refine WP_iload (z := (x3 / 2)) dX1_readGusts_90 rfl ?_
                  refine WP_iload (z := (if (x3 % 2) = 0 then ((fX1_wayOf D (fX2_at D a x3)) : Int) else (fX1_figureOf D (fX2_at D a x3) 0 9))) dX1_readGusts_92 rfl ?_
                  obtain ⟨o12, h⟩ := h
                  refine WP_iast dX1_readGusts_94 (kcC_6 ho) o12.1 o12.2 ?_
                  obtain ⟨o11, h⟩ := h
                  refine WP_iinc (z := (x3 + 1)) (ls1 := [vR (o + 1), vR a, vI x2, vI (x3 + 1), vI (x3 / 2), vI (fX2_at D a x3), vI (if (x3 % 2) = 0 then ((fX1_wayOf D (fX2_at D a x3)) : Int) else (fX1_figureOf D (fX2_at D a x3) 0 9))]) dX1_readGusts_95 rfl (w32_id o11) (by decide) rfl ?_
                  refine WP_goto (tgt := 12) dX1_readGusts_98 (by decide) ?_
                  refine WP_fg 4 (ls1 := [vR (o + 1), vR a, vI x2, vI (x3 + 1), vU, vI (fX2_at D a x3), vI (if (x3 % 2) = 0 then ((fX1_wayOf D (fX2_at D a x3)) : Int) else (fX1_figureOf D (fX2_at D a x3) 0 9))]) rfl ?_
                  refine WP_fg 5 (ls1 := [vR (o + 1), vR a, vI x2, vI (x3 + 1), vU, vU, vI (if (x3 % 2) = 0 then ((fX1_wayOf D (fX2_at D a x3)) : Int) else (fX1_figureOf D (fX2_at D a x3) 0 9))]) rfl ?_
                  refine WP_fg 6 (ls1 := [vR (o + 1), vR a, vI x2, vI (x3 + 1), vU, vU, vU]) rfl ?_
                  exact ih12_ _ _ _ h.1 (by have := h.2; omega)
                · replace h := h.1 c8
                  refine WP_aload_n (z := (o + 1)) dX1_readGusts_74 rfl ?_
                  refine WP_getR (z := (o + 5)) dX1_readGusts_75 fl_RX1_34 (kcC_1 ho) rfl (srC_1_7 ho) ?_
                  refine WP_iload (z := (x3 / 2)) dX1_readGusts_78 rfl ?_
                  refine WP_iload (z := (if (x3 % 2) = 0 then ((fX1_wayOf D (fX2_at D a x3)) : Int) else (fX1_figureOf D (fX2_at D a x3) 0 9))) dX1_readGusts_80 rfl ?_
                  obtain ⟨o10, h⟩ := h
                  refine WP_iast dX1_readGusts_82 (kcC_5 ho) o10.1 o10.2 ?_
                  refine WP_goto (tgt := 95) dX1_readGusts_83 (by decide) ?_
                  obtain ⟨o9, h⟩ := h
                  refine WP_iinc (z := (x3 + 1)) (ls1 := [vR (o + 1), vR a, vI x2, vI (x3 + 1), vI (x3 / 2), vI (fX2_at D a x3), vI (if (x3 % 2) = 0 then ((fX1_wayOf D (fX2_at D a x3)) : Int) else (fX1_figureOf D (fX2_at D a x3) 0 9))]) dX1_readGusts_95 rfl (w32_id o9) (by decide) rfl ?_
                  refine WP_goto (tgt := 12) dX1_readGusts_98 (by decide) ?_
                  refine WP_fg 4 (ls1 := [vR (o + 1), vR a, vI x2, vI (x3 + 1), vU, vI (fX2_at D a x3), vI (if (x3 % 2) = 0 then ((fX1_wayOf D (fX2_at D a x3)) : Int) else (fX1_figureOf D (fX2_at D a x3) 0 9))]) rfl ?_
                  refine WP_fg 5 (ls1 := [vR (o + 1), vR a, vI x2, vI (x3 + 1), vU, vU, vI (if (x3 % 2) = 0 then ((fX1_wayOf D (fX2_at D a x3)) : Int) else (fX1_figureOf D (fX2_at D a x3) 0 9))]) rfl ?_
                  refine WP_fg 6 (ls1 := [vR (o + 1), vR a, vI x2, vI (x3 + 1), vU, vU, vU]) rfl ?_
                  exact ih12_ _ _ _ h.1 (by have := h.2; omega)
              · replace h := h.2 c7
                refine WP_iload_n (z := x3) dX1_readGusts_66 rfl ?_
                exact WP_ireturn dX1_readGusts_67 rfl h
  have cut12_ : ∀ (x2 x3 : Int) (D : HP), I12 x2 x3 D → WP mX1_readGusts Q 12 [vR (o + 1), vR a, vI x2, vI x3, vU, vU, vU] [] D := fun x2 x3 D hI => (IH (u12 x2 x3 D * 1 + 0 + 1)) x2 x3 D hI (by omega)
  refine WP_cD (fun hcD => ?_)
  have h := h0 hcD
  refine WP_aload_n (z := (o + 1)) dX1_readGusts_0 rfl ?_
  refine WP_iconst (z := 0) dX1_readGusts_1 rfl ⟨by decide, by decide⟩ ?_
  refine WP_putI dX1_readGusts_2 fp_RX1_18 (kcC_1 ho) rfl ?_
  refine WP_aload_n (z := a) dX1_readGusts_5 rfl ?_
  refine WP_pcallV (g := mX2_length) (as := []) (rest := []) (n := 0) (r := vI (fX2_length (hu D (o + 1) 2 0) a)) dX1_readGusts_6 wm_143 mo_X2_length (kcT_0 ha) rfl rfl rfl ⟨Nat.le_of_ble_eq_true rfl, Nat.le_of_ble_eq_true rfl⟩ (Nat.le_of_ble_eq_true rfl) (P_X2_length ha trivial) ?_
  refine WP_istore_n (ls1 := [vR (o + 1), vR a, vI (fX2_length (hu D (o + 1) 2 0) a), vU, vU, vU, vU]) dX1_readGusts_9 (by decide) rfl ?_
  refine WP_iconst (z := 0) dX1_readGusts_10 rfl ⟨by decide, by decide⟩ ?_
  refine WP_istore_n (ls1 := [vR (o + 1), vR a, vI (fX2_length (hu D (o + 1) 2 0) a), vI 0, vU, vU, vU]) dX1_readGusts_11 (by decide) rfl ?_
  exact cut12_ _ _ _ h
def fX1_holdOf (D : HP) (a : Int) : Int := (if a = 104 then (0 : Int) else (if a = 111 then (1 : Int) else (if a = 120 then (2 : Int) else (-1))))
def oX1_holdOf (D : HP) (a : Int) : Prop := True
set_option maxRecDepth 100000 in
set_option maxHeartbeats 4000000 in
theorem V_X1_holdOf (a : Int) {D : HP} {Q : Option MV → HP → Prop}
    (h0 : cD D → c32 a → (((¬ a = 104 ∧ ¬ a = 111 ∧ ¬ a = 120) → (Q (some (vI (-1))) D)) ∧ (a = 104 → (Q (some (vI 0)) D)) ∧ (a = 111 → (Q (some (vI 1)) D)) ∧ (a = 120 → (Q (some (vI 2)) D))))
    : CT mX1_holdOf [vI a] D Q := by
  refine CT.of 0 (by decide) (Nat.le_of_ble_eq_true rfl) ?_
  show WP mX1_holdOf Q 0 [vI a] [] D
  refine WP_cD (fun hcD => ?_)
  refine WP_cl (fun hcl => ?_)
  have h := h0 hcD (cVs_g hcl (i := 0) (v := vI a) rfl)
  refine WP_iload_n (z := a) dX1_holdOf_0 rfl ?_
  rcases (show (¬ a = 104 ∧ ¬ a = 111 ∧ ¬ a = 120) ∨ a = 104 ∨ a = 111 ∨ a = 120 from by omega) with q1 | q1 | q1 | q1
  · replace h := h.1 q1
    refine WP_look (off := 41) (tgt := 42) dX1_holdOf_1 (by decide) (lookO_3 q1) (by decide) ?_
    refine WP_iconst (z := (-1)) dX1_holdOf_42 rfl ⟨by decide, by decide⟩ ?_
    exact WP_ireturn dX1_holdOf_43 rfl h
  · replace h := h.2.1 q1
    refine WP_look (off := 35) (tgt := 36) dX1_holdOf_1 (by decide) (by rw [q1]; rfl) (by decide) ?_
    refine WP_iconst (z := 0) dX1_holdOf_36 rfl ⟨by decide, by decide⟩ ?_
    exact WP_ireturn dX1_holdOf_37 rfl h
  · replace h := h.2.2.1 q1
    refine WP_look (off := 37) (tgt := 38) dX1_holdOf_1 (by decide) (by rw [q1]; rfl) (by decide) ?_
    refine WP_iconst (z := 1) dX1_holdOf_38 rfl ⟨by decide, by decide⟩ ?_
    exact WP_ireturn dX1_holdOf_39 rfl h
  · replace h := h.2.2.2 q1
    refine WP_look (off := 39) (tgt := 40) dX1_holdOf_1 (by decide) (by rw [q1]; rfl) (by decide) ?_
    refine WP_iconst (z := 2) dX1_holdOf_40 rfl ⟨by decide, by decide⟩ ?_
    exact WP_ireturn dX1_holdOf_41 rfl h
set_option maxRecDepth 100000 in
set_option maxHeartbeats 4000000 in
theorem P_X1_holdOf {a : Int} {D : HP} (hob : oX1_holdOf D a) : CT mX1_holdOf [vI a] D (PF (vI (fX1_holdOf D a)) D) := by
  refine V_X1_holdOf a (fun hcD hc_0 => ?_)
  obtain ⟨z, hz⟩ : ∃ z, z = fX1_holdOf D a := ⟨_, rfl⟩
  rw [← hz]
  unfold fX1_holdOf at hz
  refine ⟨fun q_ => ?_, fun q_ => ?_, fun q_ => ?_, fun q_ => ?_⟩
  · replace hz := hz.trans (if_neg (by omega))
    replace hz := hz.trans (if_neg (by omega))
    replace hz := hz.trans (if_neg (by omega))
    exact ⟨by rw [hz], rfl⟩
  · replace hz := hz.trans (if_pos q_)
    exact ⟨by rw [hz], rfl⟩
  · replace hz := hz.trans (if_neg (by omega))
    replace hz := hz.trans (if_pos q_)
    exact ⟨by rw [hz], rfl⟩
  · replace hz := hz.trans (if_neg (by omega))
    replace hz := hz.trans (if_neg (by omega))
    replace hz := hz.trans (if_pos q_)
    exact ⟨by rw [hz], rfl⟩
set_option maxRecDepth 100000 in
set_option maxHeartbeats 4000000 in
theorem V_X1_readOfCandidate {o : Nat} (ho : o = 9 ∨ o = 25) (a : Int) (b : Int) (c : Int) {D : HP} {Q : Option MV → HP → Prop}
    (h0 : cD D → c32 a → c32 b → c32 c → ((a < 0 → (Q (some (vI 0)) D)) ∧ (¬ (a < 0) → ((a < 8 → ((b = 0 → ((oX1_figureOf D c 0 2) ∧ ((c32 (10 * (fX1_figureOf D c 0 2))) ∧ ((0 ≤ a ∧ a < 8) ∧ ((oX1_figureOf (hu D (o + 7) a.toNat (10 * (fX1_figureOf D c 0 2))) c 0 2) ∧ (Q (some (vI (if (fX1_figureOf (hu D (o + 7) a.toNat (10 * (fX1_figureOf D c 0 2))) c 0 2) = (-1) then (0 : Int) else 1))) (hu D (o + 7) a.toNat (10 * (fX1_figureOf D c 0 2))))))))) ∧ (¬ (b = 0) → ((b = 1 → ((0 ≤ a ∧ a < 8) ∧ ((oX1_figureOf D c 0 9) ∧ ((c32 ((D (o + 7) a.toNat) + (fX1_figureOf D c 0 9))) ∧ ((0 ≤ a ∧ a < 8) ∧ ((oX1_figureOf (hu D (o + 7) a.toNat ((D (o + 7) a.toNat) + (fX1_figureOf D c 0 9))) c 0 9) ∧ (Q (some (vI (if (fX1_figureOf (hu D (o + 7) a.toNat ((D (o + 7) a.toNat) + (fX1_figureOf D c 0 9))) c 0 9) = (-1) then (0 : Int) else 1))) (hu D (o + 7) a.toNat ((D (o + 7) a.toNat) + (fX1_figureOf D c 0 9)))))))))) ∧ (¬ (b = 1) → ((b = 2 → ((oX1_figureOf D c 1 9) ∧ ((0 ≤ a ∧ a < 8) ∧ ((0 ≤ a ∧ a < 8) ∧ (Q (some (vI (if ((hu D (o + 8) a.toNat (fX1_figureOf D c 1 9)) (o + 8) a.toNat) = (-1) then (0 : Int) else 1))) (hu D (o + 8) a.toNat (fX1_figureOf D c 1 9))))))) ∧ (¬ (b = 2) → ((b = 3 → ((0 ≤ a ∧ a < 8) ∧ ((0 ≤ a ∧ a < 8) ∧ (Q (some (vI (if ((hu D (o + 9) a.toNat (fX1_holdOf D c)) (o + 9) a.toNat) = (-1) then (0 : Int) else 1))) (hu D (o + 9) a.toNat (fX1_holdOf D c)))))) ∧ (¬ (b = 3) → (Q (some (vI (if c = 59 then (1 : Int) else 0))) D)))))))))) ∧ (¬ (a < 8) → (Q (some (vI 0)) D))))))
    : CT mX1_readOfCandidate [vR (o + 1), vI a, vI b, vI c] D Q := by
  refine CT.of 0 (by decide) (Nat.le_of_ble_eq_true rfl) ?_
  show WP mX1_readOfCandidate Q 0 [vR (o + 1), vI a, vI b, vI c] [] D
  refine WP_cD (fun hcD => ?_)
  refine WP_cl (fun hcl => ?_)
  have h := h0 hcD (cVs_g hcl (i := 1) (v := vI a) rfl) (cVs_g hcl (i := 2) (v := vI b) rfl) (cVs_g hcl (i := 3) (v := vI c) rfl)
  refine WP_iload_n (z := a) dX1_readOfCandidate_0 rfl ?_
  refine WP_if_lt (tgt := 10) dX1_readOfCandidate_1 (by decide) (fun c1 => ?_) (fun c1 => ?_)
  · replace h := h.1 c1
    refine WP_iconst (z := 0) dX1_readOfCandidate_10 rfl ⟨by decide, by decide⟩ ?_
    exact WP_zreturn dX1_readOfCandidate_11 rfl (by decide) h
  · replace h := h.2 c1
    refine WP_iload_n (z := a) dX1_readOfCandidate_4 rfl ?_
    refine WP_bipush (z := 8) dX1_readOfCandidate_5 rfl (by decide) ?_
    refine WP_icmp_lt (tgt := 12) dX1_readOfCandidate_7 (by decide) (fun c2 => ?_) (fun c2 => ?_)
    · replace h := h.1 c2
      refine WP_iload_n (z := b) dX1_readOfCandidate_12 rfl ?_
      refine WP_if_ne (tgt := 47) dX1_readOfCandidate_13 (by decide) (fun c3 => ?_) (fun c3 => ?_)
      · replace h := h.2 c3
        refine WP_iload_n (z := b) dX1_readOfCandidate_47 rfl ?_
        refine WP_iconst (z := 1) dX1_readOfCandidate_48 rfl ⟨by decide, by decide⟩ ?_
        refine WP_icmp_ne (tgt := 85) dX1_readOfCandidate_49 (by decide) (fun c10 => ?_) (fun c10 => ?_)
        · replace h := h.2 c10
          refine WP_iload_n (z := b) dX1_readOfCandidate_85 rfl ?_
          refine WP_iconst (z := 2) dX1_readOfCandidate_86 rfl ⟨by decide, by decide⟩ ?_
          refine WP_icmp_ne (tgt := 119) dX1_readOfCandidate_87 (by decide) (fun c18 => ?_) (fun c18 => ?_)
          · replace h := h.2 c18
            refine WP_iload_n (z := b) dX1_readOfCandidate_119 rfl ?_
            refine WP_iconst (z := 3) dX1_readOfCandidate_120 rfl ⟨by decide, by decide⟩ ?_
            refine WP_icmp_ne (tgt := 150) dX1_readOfCandidate_121 (by decide) (fun c24 => ?_) (fun c24 => ?_)
            · replace h := h.2 c24
              refine WP_iload_n (z := c) dX1_readOfCandidate_150 rfl ?_
              refine WP_bipush (z := 59) dX1_readOfCandidate_151 rfl (by decide) ?_
              refine WP_via (pc1 := 161) (ls1 := [vR (o + 1), vI a, vI b, vI c]) (st1 := [vI (if c = 59 then (1 : Int) else 0)]) (D1 := D) (fun hJ29 => ?_) ?_
              · refine WP_icmp_ne (tgt := 160) dX1_readOfCandidate_153 (by decide) (fun c30 => ?_) (fun c30 => ?_)
                · replace hJ29 := ite_f (P := fun v_ : Int => WP mX1_readOfCandidate Q 161 [vR (o + 1), vI a, vI b, vI c] [vI v_] D) hJ29 c30
                  refine WP_iconst (z := 0) dX1_readOfCandidate_160 rfl ⟨by decide, by decide⟩ ?_
                  exact hJ29
                · replace hJ29 := ite_t (P := fun v_ : Int => WP mX1_readOfCandidate Q 161 [vR (o + 1), vI a, vI b, vI c] [vI v_] D) hJ29 c30
                  refine WP_iconst (z := 1) dX1_readOfCandidate_156 rfl ⟨by decide, by decide⟩ ?_
                  refine WP_goto (tgt := 161) dX1_readOfCandidate_157 (by decide) ?_
                  exact hJ29
              · exact WP_zreturn dX1_readOfCandidate_161 rfl (bool_ite (Or.inr rfl) (Or.inl rfl)) h
            · replace h := h.1 c24
              refine WP_aload_n (z := (o + 1)) dX1_readOfCandidate_124 rfl ?_
              refine WP_getR (z := (o + 9)) dX1_readOfCandidate_125 fl_RX1_46 (kcC_1 ho) rfl (srC_1_11 ho) ?_
              refine WP_iload_n (z := a) dX1_readOfCandidate_128 rfl ?_
              refine WP_iload_n (z := c) dX1_readOfCandidate_129 rfl ?_
              refine WP_pcallS (g := mX1_holdOf) (as := [vI c]) (rest := [vI a, vR (o + 9)]) (n := 1) (r := vI (fX1_holdOf D c)) dX1_readOfCandidate_130 wm_198 mo_X1_holdOf rfl rfl ⟨Nat.le_of_ble_eq_true rfl, Nat.le_of_ble_eq_true rfl⟩ (Nat.le_of_ble_eq_true rfl) (P_X1_holdOf  trivial) ?_
              obtain ⟨o28, h⟩ := h
              refine WP_iast dX1_readOfCandidate_133 (kcC_9 ho) o28.1 o28.2 ?_
              refine WP_aload_n (z := (o + 1)) dX1_readOfCandidate_134 rfl ?_
              refine WP_getR (z := (o + 9)) dX1_readOfCandidate_135 fl_RX1_46 (kcC_1 ho) rfl (srC_1_11 ho) ?_
              refine WP_iload_n (z := a) dX1_readOfCandidate_138 rfl ?_
              obtain ⟨o27, h⟩ := h
              refine WP_iald dX1_readOfCandidate_139 (kcC_9 ho) o27.1 o27.2 rfl ?_
              refine WP_iconst (z := (-1)) dX1_readOfCandidate_140 rfl ⟨by decide, by decide⟩ ?_
              refine WP_via (pc1 := 149) (ls1 := [vR (o + 1), vI a, vI b, vI c]) (st1 := [vI (if ((hu D (o + 9) a.toNat (fX1_holdOf D c)) (o + 9) a.toNat) = (-1) then (0 : Int) else 1)]) (D1 := (hu D (o + 9) a.toNat (fX1_holdOf D c))) (fun hJ25 => ?_) ?_
              · refine WP_icmp_eq (tgt := 148) dX1_readOfCandidate_141 (by decide) (fun c26 => ?_) (fun c26 => ?_)
                · replace hJ25 := ite_t (P := fun v_ : Int => WP mX1_readOfCandidate Q 149 [vR (o + 1), vI a, vI b, vI c] [vI v_] (hu D (o + 9) a.toNat (fX1_holdOf D c))) hJ25 c26
                  refine WP_iconst (z := 0) dX1_readOfCandidate_148 rfl ⟨by decide, by decide⟩ ?_
                  exact hJ25
                · replace hJ25 := ite_f (P := fun v_ : Int => WP mX1_readOfCandidate Q 149 [vR (o + 1), vI a, vI b, vI c] [vI v_] (hu D (o + 9) a.toNat (fX1_holdOf D c))) hJ25 c26
                  refine WP_iconst (z := 1) dX1_readOfCandidate_144 rfl ⟨by decide, by decide⟩ ?_
                  refine WP_goto (tgt := 149) dX1_readOfCandidate_145 (by decide) ?_
                  exact hJ25
              · exact WP_zreturn dX1_readOfCandidate_149 rfl (bool_ite (Or.inl rfl) (Or.inr rfl)) h
          · replace h := h.1 c18
            refine WP_aload_n (z := (o + 1)) dX1_readOfCandidate_90 rfl ?_
            refine WP_getR (z := (o + 8)) dX1_readOfCandidate_91 fl_RX1_43 (kcC_1 ho) rfl (srC_1_10 ho) ?_
            refine WP_iload_n (z := a) dX1_readOfCandidate_94 rfl ?_
            refine WP_iload_n (z := c) dX1_readOfCandidate_95 rfl ?_
            refine WP_iconst (z := 1) dX1_readOfCandidate_96 rfl ⟨by decide, by decide⟩ ?_
            refine WP_bipush (z := 9) dX1_readOfCandidate_97 rfl (by decide) ?_
            obtain ⟨o23, h⟩ := h
            refine WP_pcallS (g := mX1_figureOf) (as := [vI c, vI 1, vI 9]) (rest := [vI a, vR (o + 8)]) (n := 3) (r := vI (fX1_figureOf D c 1 9)) dX1_readOfCandidate_99 wm_187 mo_X1_figureOf rfl rfl ⟨Nat.le_of_ble_eq_true rfl, Nat.le_of_ble_eq_true rfl⟩ (Nat.le_of_ble_eq_true rfl) (P_X1_figureOf  o23) ?_
            obtain ⟨o22, h⟩ := h
            refine WP_iast dX1_readOfCandidate_102 (kcC_8 ho) o22.1 o22.2 ?_
            refine WP_aload_n (z := (o + 1)) dX1_readOfCandidate_103 rfl ?_
            refine WP_getR (z := (o + 8)) dX1_readOfCandidate_104 fl_RX1_43 (kcC_1 ho) rfl (srC_1_10 ho) ?_
            refine WP_iload_n (z := a) dX1_readOfCandidate_107 rfl ?_
            obtain ⟨o21, h⟩ := h
            refine WP_iald dX1_readOfCandidate_108 (kcC_8 ho) o21.1 o21.2 rfl ?_
            refine WP_iconst (z := (-1)) dX1_readOfCandidate_109 rfl ⟨by decide, by decide⟩ ?_
            refine WP_via (pc1 := 118) (ls1 := [vR (o + 1), vI a, vI b, vI c]) (st1 := [vI (if ((hu D (o + 8) a.toNat (fX1_figureOf D c 1 9)) (o + 8) a.toNat) = (-1) then (0 : Int) else 1)]) (D1 := (hu D (o + 8) a.toNat (fX1_figureOf D c 1 9))) (fun hJ19 => ?_) ?_
            · refine WP_icmp_eq (tgt := 117) dX1_readOfCandidate_110 (by decide) (fun c20 => ?_) (fun c20 => ?_)
              · replace hJ19 := ite_t (P := fun v_ : Int => WP mX1_readOfCandidate Q 118 [vR (o + 1), vI a, vI b, vI c] [vI v_] (hu D (o + 8) a.toNat (fX1_figureOf D c 1 9))) hJ19 c20
                refine WP_iconst (z := 0) dX1_readOfCandidate_117 rfl ⟨by decide, by decide⟩ ?_
                exact hJ19
              · replace hJ19 := ite_f (P := fun v_ : Int => WP mX1_readOfCandidate Q 118 [vR (o + 1), vI a, vI b, vI c] [vI v_] (hu D (o + 8) a.toNat (fX1_figureOf D c 1 9))) hJ19 c20
                refine WP_iconst (z := 1) dX1_readOfCandidate_113 rfl ⟨by decide, by decide⟩ ?_
                refine WP_goto (tgt := 118) dX1_readOfCandidate_114 (by decide) ?_
                exact hJ19
            · exact WP_zreturn dX1_readOfCandidate_118 rfl (bool_ite (Or.inl rfl) (Or.inr rfl)) h
        · replace h := h.1 c10
          refine WP_aload_n (z := (o + 1)) dX1_readOfCandidate_52 rfl ?_
          refine WP_getR (z := (o + 7)) dX1_readOfCandidate_53 fl_RX1_40 (kcC_1 ho) rfl (srC_1_9 ho) ?_
          refine WP_iload_n (z := a) dX1_readOfCandidate_56 rfl ?_
          refine WP_dup2 dX1_readOfCandidate_57 (Nat.ne_of_beq_eq_false rfl) (Nat.ne_of_beq_eq_false rfl) ?_
          obtain ⟨o17, h⟩ := h
          refine WP_iald dX1_readOfCandidate_58 (kcC_7 ho) o17.1 o17.2 rfl ?_
          refine WP_iload_n (z := c) dX1_readOfCandidate_59 rfl ?_
          refine WP_iconst (z := 0) dX1_readOfCandidate_60 rfl ⟨by decide, by decide⟩ ?_
          refine WP_bipush (z := 9) dX1_readOfCandidate_61 rfl (by decide) ?_
          obtain ⟨o16, h⟩ := h
          refine WP_pcallS (g := mX1_figureOf) (as := [vI c, vI 0, vI 9]) (rest := [vI (D (o + 7) a.toNat), vI a, vR (o + 7)]) (n := 3) (r := vI (fX1_figureOf D c 0 9)) dX1_readOfCandidate_63 wm_187 mo_X1_figureOf rfl rfl ⟨Nat.le_of_ble_eq_true rfl, Nat.le_of_ble_eq_true rfl⟩ (Nat.le_of_ble_eq_true rfl) (P_X1_figureOf  o16) ?_
          obtain ⟨o15, h⟩ := h
          refine WP_iadd (z := ((D (o + 7) a.toNat) + (fX1_figureOf D c 0 9))) dX1_readOfCandidate_66 (w32_id o15) ?_
          obtain ⟨o14, h⟩ := h
          refine WP_iast dX1_readOfCandidate_67 (kcC_7 ho) o14.1 o14.2 ?_
          refine WP_iload_n (z := c) dX1_readOfCandidate_68 rfl ?_
          refine WP_iconst (z := 0) dX1_readOfCandidate_69 rfl ⟨by decide, by decide⟩ ?_
          refine WP_bipush (z := 9) dX1_readOfCandidate_70 rfl (by decide) ?_
          obtain ⟨o13, h⟩ := h
          refine WP_pcallS (g := mX1_figureOf) (as := [vI c, vI 0, vI 9]) (rest := []) (n := 3) (r := vI (fX1_figureOf (hu D (o + 7) a.toNat ((D (o + 7) a.toNat) + (fX1_figureOf D c 0 9))) c 0 9)) dX1_readOfCandidate_72 wm_187 mo_X1_figureOf rfl rfl ⟨Nat.le_of_ble_eq_true rfl, Nat.le_of_ble_eq_true rfl⟩ (Nat.le_of_ble_eq_true rfl) (P_X1_figureOf  o13) ?_
          refine WP_iconst (z := (-1)) dX1_readOfCandidate_75 rfl ⟨by decide, by decide⟩ ?_
          refine WP_via (pc1 := 84) (ls1 := [vR (o + 1), vI a, vI b, vI c]) (st1 := [vI (if (fX1_figureOf (hu D (o + 7) a.toNat ((D (o + 7) a.toNat) + (fX1_figureOf D c 0 9))) c 0 9) = (-1) then (0 : Int) else 1)]) (D1 := (hu D (o + 7) a.toNat ((D (o + 7) a.toNat) + (fX1_figureOf D c 0 9)))) (fun hJ11 => ?_) ?_
          · refine WP_icmp_eq (tgt := 83) dX1_readOfCandidate_76 (by decide) (fun c12 => ?_) (fun c12 => ?_)
            · replace hJ11 := ite_t (P := fun v_ : Int => WP mX1_readOfCandidate Q 84 [vR (o + 1), vI a, vI b, vI c] [vI v_] (hu D (o + 7) a.toNat ((D (o + 7) a.toNat) + (fX1_figureOf D c 0 9)))) hJ11 c12
              refine WP_iconst (z := 0) dX1_readOfCandidate_83 rfl ⟨by decide, by decide⟩ ?_
              exact hJ11
            · replace hJ11 := ite_f (P := fun v_ : Int => WP mX1_readOfCandidate Q 84 [vR (o + 1), vI a, vI b, vI c] [vI v_] (hu D (o + 7) a.toNat ((D (o + 7) a.toNat) + (fX1_figureOf D c 0 9)))) hJ11 c12
              refine WP_iconst (z := 1) dX1_readOfCandidate_79 rfl ⟨by decide, by decide⟩ ?_
              refine WP_goto (tgt := 84) dX1_readOfCandidate_80 (by decide) ?_
              exact hJ11
          · exact WP_zreturn dX1_readOfCandidate_84 rfl (bool_ite (Or.inl rfl) (Or.inr rfl)) h
      · replace h := h.1 c3
        refine WP_aload_n (z := (o + 1)) dX1_readOfCandidate_16 rfl ?_
        refine WP_getR (z := (o + 7)) dX1_readOfCandidate_17 fl_RX1_40 (kcC_1 ho) rfl (srC_1_9 ho) ?_
        refine WP_iload_n (z := a) dX1_readOfCandidate_20 rfl ?_
        refine WP_bipush (z := 10) dX1_readOfCandidate_21 rfl (by decide) ?_
        refine WP_iload_n (z := c) dX1_readOfCandidate_23 rfl ?_
        refine WP_iconst (z := 0) dX1_readOfCandidate_24 rfl ⟨by decide, by decide⟩ ?_
        refine WP_iconst (z := 2) dX1_readOfCandidate_25 rfl ⟨by decide, by decide⟩ ?_
        obtain ⟨o9, h⟩ := h
        refine WP_pcallS (g := mX1_figureOf) (as := [vI c, vI 0, vI 2]) (rest := [vI 10, vI a, vR (o + 7)]) (n := 3) (r := vI (fX1_figureOf D c 0 2)) dX1_readOfCandidate_26 wm_187 mo_X1_figureOf rfl rfl ⟨Nat.le_of_ble_eq_true rfl, Nat.le_of_ble_eq_true rfl⟩ (Nat.le_of_ble_eq_true rfl) (P_X1_figureOf  o9) ?_
        obtain ⟨o8, h⟩ := h
        refine WP_imul (z := (10 * (fX1_figureOf D c 0 2))) dX1_readOfCandidate_29 (w32_id o8) ?_
        obtain ⟨o7, h⟩ := h
        refine WP_iast dX1_readOfCandidate_30 (kcC_7 ho) o7.1 o7.2 ?_
        refine WP_iload_n (z := c) dX1_readOfCandidate_31 rfl ?_
        refine WP_iconst (z := 0) dX1_readOfCandidate_32 rfl ⟨by decide, by decide⟩ ?_
        refine WP_iconst (z := 2) dX1_readOfCandidate_33 rfl ⟨by decide, by decide⟩ ?_
        obtain ⟨o6, h⟩ := h
        refine WP_pcallS (g := mX1_figureOf) (as := [vI c, vI 0, vI 2]) (rest := []) (n := 3) (r := vI (fX1_figureOf (hu D (o + 7) a.toNat (10 * (fX1_figureOf D c 0 2))) c 0 2)) dX1_readOfCandidate_34 wm_187 mo_X1_figureOf rfl rfl ⟨Nat.le_of_ble_eq_true rfl, Nat.le_of_ble_eq_true rfl⟩ (Nat.le_of_ble_eq_true rfl) (P_X1_figureOf  o6) ?_
        refine WP_iconst (z := (-1)) dX1_readOfCandidate_37 rfl ⟨by decide, by decide⟩ ?_
        refine WP_via (pc1 := 46) (ls1 := [vR (o + 1), vI a, vI b, vI c]) (st1 := [vI (if (fX1_figureOf (hu D (o + 7) a.toNat (10 * (fX1_figureOf D c 0 2))) c 0 2) = (-1) then (0 : Int) else 1)]) (D1 := (hu D (o + 7) a.toNat (10 * (fX1_figureOf D c 0 2)))) (fun hJ4 => ?_) ?_
        · refine WP_icmp_eq (tgt := 45) dX1_readOfCandidate_38 (by decide) (fun c5 => ?_) (fun c5 => ?_)
          · replace hJ4 := ite_t (P := fun v_ : Int => WP mX1_readOfCandidate Q 46 [vR (o + 1), vI a, vI b, vI c] [vI v_] (hu D (o + 7) a.toNat (10 * (fX1_figureOf D c 0 2)))) hJ4 c5
            refine WP_iconst (z := 0) dX1_readOfCandidate_45 rfl ⟨by decide, by decide⟩ ?_
            exact hJ4
          · replace hJ4 := ite_f (P := fun v_ : Int => WP mX1_readOfCandidate Q 46 [vR (o + 1), vI a, vI b, vI c] [vI v_] (hu D (o + 7) a.toNat (10 * (fX1_figureOf D c 0 2)))) hJ4 c5
            refine WP_iconst (z := 1) dX1_readOfCandidate_41 rfl ⟨by decide, by decide⟩ ?_
            refine WP_goto (tgt := 46) dX1_readOfCandidate_42 (by decide) ?_
            exact hJ4
        · exact WP_zreturn dX1_readOfCandidate_46 rfl (bool_ite (Or.inl rfl) (Or.inr rfl)) h
    · replace h := h.2 c2
      refine WP_iconst (z := 0) dX1_readOfCandidate_10 rfl ⟨by decide, by decide⟩ ?_
      exact WP_zreturn dX1_readOfCandidate_11 rfl (by decide) h
set_option maxRecDepth 100000 in
set_option maxHeartbeats 4000000 in
theorem V_X1_readCandidates {o : Nat} (ho : o = 9 ∨ o = 25) {a : Nat} (ha : a = 2 ∨ a = 3 ∨ a = 4) {D : HP} {Q : Option MV → HP → Prop} (I12 : Int → Int → HP → Prop) (u12 : Int → Int → HP → Nat)
    (h0 : cD D → (I12 (fX2_length (hu D (o + 1) 3 0) a) 0 (hu D (o + 1) 3 0)))
    (h12 : ∀ (x2 x3 : Int) (D : HP), I12 x2 x3 D → cD D → c32 x2 → c32 x3 → ((x2 ≤ x3 → ((x2 ≤ 0 → ((c32 (x2 + 1)) ∧ ((0 ≤ (x2 + 1)) ∧ (Q (some (vI (-1))) (hu D (o + 1) 3 (if 8 < ((x2 + 1) / 5) then (8 : Int) else ((x2 + 1) / 5))))))) ∧ (¬ (x2 ≤ 0) → ((0 ≤ x2) ∧ (((x2 % 5) = 4 → ((c32 (x2 + 1)) ∧ ((0 ≤ (x2 + 1)) ∧ (Q (some (vI (-1))) (hu D (o + 1) 3 (if 8 < ((x2 + 1) / 5) then (8 : Int) else ((x2 + 1) / 5))))))) ∧ (¬ ((x2 % 5) = 4) → (Q (some (vI x2)) D))))))) ∧ (¬ (x2 ≤ x3) → ((0 ≤ x3) ∧ ((0 ≤ x3) ∧ ((oX2_at D a x3) ∧ (∃ Q9 : Option MV → HP → Prop, CT mX1_readOfCandidate [vR (o + 1), vI (x3 / 5), vI (x3 % 5), vI (fX2_at D a x3)] D Q9 ∧ ∀ (r13 : Int) (D12 : HP), Q9 (some (vI r13)) D12 → c32 r13 → cD D12 → ((r13 = 0 → (Q (some (vI x3)) D12)) ∧ (¬ (r13 = 0) → ((c32 (x3 + 1)) ∧ (I12 x2 (x3 + 1) D12 ∧ u12 x2 (x3 + 1) D12 < u12 x2 x3 D)))))))))))
    : CT mX1_readCandidates [vR (o + 1), vR a] D Q := by
  refine CT.of 2 (by decide) (Nat.le_of_ble_eq_true rfl) ?_
  show WP mX1_readCandidates Q 0 [vR (o + 1), vR a, vU, vU] [] D
  have IH : ∀ n : Nat, (∀ (x2 x3 : Int) (D : HP), I12 x2 x3 D → u12 x2 x3 D * 1 + 0 < n → WP mX1_readCandidates Q 12 [vR (o + 1), vR a, vI x2, vI x3] [] D) := by
    intro n
    induction n with
    | zero => exact fun _ _ _ _ h => absurd h (Nat.not_lt_zero _)
    | succ n ih =>
      have ih12_ := ih
      · intro x2 x3 D hI hn
        refine WP_cD (fun hcD => ?_)
        refine WP_cl (fun hcl => ?_)
        have h := h12 x2 x3 D hI hcD (cVs_g hcl (i := 2) (v := vI x2) rfl) (cVs_g hcl (i := 3) (v := vI x3) rfl)
        refine WP_iload_n (z := x3) dX1_readCandidates_12 rfl ?_
        refine WP_iload_n (z := x2) dX1_readCandidates_13 rfl ?_
        refine WP_icmp_ge (tgt := 43) dX1_readCandidates_14 (by decide) (fun c1 => ?_) (fun c1 => ?_)
        · replace h := h.1 c1
          refine WP_iload_n (z := x2) dX1_readCandidates_43 rfl ?_
          refine WP_if_le (tgt := 56) dX1_readCandidates_44 (by decide) (fun c2 => ?_) (fun c2 => ?_)
          · replace h := h.1 c2
            refine WP_aload_n (z := (o + 1)) dX1_readCandidates_56 rfl ?_
            refine WP_iload_n (z := x2) dX1_readCandidates_57 rfl ?_
            refine WP_iconst (z := 1) dX1_readCandidates_58 rfl ⟨by decide, by decide⟩ ?_
            obtain ⟨o4, h⟩ := h
            refine WP_iadd (z := (x2 + 1)) dX1_readCandidates_59 (w32_id o4) ?_
            refine WP_iconst (z := 5) dX1_readCandidates_60 rfl ⟨by decide, by decide⟩ ?_
            obtain ⟨o3, h⟩ := h
            refine WP_idiv dX1_readCandidates_61 o3 (by decide) rfl ?_
            refine WP_bipush (z := 8) dX1_readCandidates_62 rfl (by decide) ?_
            refine WP_min dX1_readCandidates_64 wm_183 w_min ⟨Nat.le_of_ble_eq_true rfl, Nat.le_of_ble_eq_true rfl⟩ (Nat.le_of_ble_eq_true rfl) rfl ?_
            refine WP_putI dX1_readCandidates_67 fp_RX1_21 (kcC_1 ho) rfl ?_
            refine WP_iconst (z := (-1)) dX1_readCandidates_70 rfl ⟨by decide, by decide⟩ ?_
            exact WP_ireturn dX1_readCandidates_71 rfl h
          · replace h := h.2 c2
            refine WP_iload_n (z := x2) dX1_readCandidates_47 rfl ?_
            refine WP_iconst (z := 5) dX1_readCandidates_48 rfl ⟨by decide, by decide⟩ ?_
            obtain ⟨o8, h⟩ := h
            refine WP_irem dX1_readCandidates_49 o8 (by decide) rfl ?_
            refine WP_iconst (z := 4) dX1_readCandidates_50 rfl ⟨by decide, by decide⟩ ?_
            refine WP_icmp_eq (tgt := 56) dX1_readCandidates_51 (by decide) (fun c5 => ?_) (fun c5 => ?_)
            · replace h := h.1 c5
              refine WP_aload_n (z := (o + 1)) dX1_readCandidates_56 rfl ?_
              refine WP_iload_n (z := x2) dX1_readCandidates_57 rfl ?_
              refine WP_iconst (z := 1) dX1_readCandidates_58 rfl ⟨by decide, by decide⟩ ?_
              obtain ⟨o7, h⟩ := h
              refine WP_iadd (z := (x2 + 1)) dX1_readCandidates_59 (w32_id o7) ?_
              refine WP_iconst (z := 5) dX1_readCandidates_60 rfl ⟨by decide, by decide⟩ ?_
              obtain ⟨o6, h⟩ := h
              refine WP_idiv dX1_readCandidates_61 o6 (by decide) rfl ?_
              refine WP_bipush (z := 8) dX1_readCandidates_62 rfl (by decide) ?_
              refine WP_min dX1_readCandidates_64 wm_183 w_min ⟨Nat.le_of_ble_eq_true rfl, Nat.le_of_ble_eq_true rfl⟩ (Nat.le_of_ble_eq_true rfl) rfl ?_
              refine WP_putI dX1_readCandidates_67 fp_RX1_21 (kcC_1 ho) rfl ?_
              refine WP_iconst (z := (-1)) dX1_readCandidates_70 rfl ⟨by decide, by decide⟩ ?_
              exact WP_ireturn dX1_readCandidates_71 rfl h
            · replace h := h.2 c5
              refine WP_iload_n (z := x2) dX1_readCandidates_54 rfl ?_
              exact WP_ireturn dX1_readCandidates_55 rfl h
        · replace h := h.2 c1
          refine WP_aload_n (z := (o + 1)) dX1_readCandidates_17 rfl ?_
          refine WP_iload_n (z := x3) dX1_readCandidates_18 rfl ?_
          refine WP_iconst (z := 5) dX1_readCandidates_19 rfl ⟨by decide, by decide⟩ ?_
          obtain ⟨o20, h⟩ := h
          refine WP_idiv dX1_readCandidates_20 o20 (by decide) rfl ?_
          refine WP_iload_n (z := x3) dX1_readCandidates_21 rfl ?_
          refine WP_iconst (z := 5) dX1_readCandidates_22 rfl ⟨by decide, by decide⟩ ?_
          obtain ⟨o19, h⟩ := h
          refine WP_irem dX1_readCandidates_23 o19 (by decide) rfl ?_
          refine WP_aload_n (z := a) dX1_readCandidates_24 rfl ?_
          refine WP_iload_n (z := x3) dX1_readCandidates_25 rfl ?_
          obtain ⟨o18, h⟩ := h
          refine WP_pcallV (g := mX2_at) (as := [vI x3]) (rest := [vI (x3 % 5), vI (x3 / 5), vR (o + 1)]) (n := 1) (r := vI (fX2_at D a x3)) dX1_readCandidates_26 wm_151 mo_X2_at (kcT_0 ha) rfl rfl rfl ⟨Nat.le_of_ble_eq_true rfl, Nat.le_of_ble_eq_true rfl⟩ (Nat.le_of_ble_eq_true rfl) (P_X2_at ha o18) ?_
          obtain ⟨Q9, ct11, h⟩ := h
          refine WP_callV (g := mX1_readOfCandidate) (as := [vI (x3 / 5), vI (x3 % 5), vI (fX2_at D a x3)]) (rest := []) (n := 3) dX1_readCandidates_29 wm_194 mo_X1_readOfCandidate (kcC_1 ho) rfl rfl rfl ⟨Nat.le_of_ble_eq_true rfl, Nat.le_of_ble_eq_true rfl⟩ (Nat.le_of_ble_eq_true rfl) ct11 (fun r_ D12 hq10 hok hD15 => ?_)
          obtain ⟨r13, rfl, hr14⟩ := hok
          replace h := h r13 D12 hq10 hr14 hD15
          show WP mX1_readCandidates Q 32 [vR (o + 1), vR a, vI x2, vI x3] [vI r13] D12
          refine WP_if_ne (tgt := 37) dX1_readCandidates_32 (by decide) (fun c16 => ?_) (fun c16 => ?_)
          · replace h := h.2 c16
            obtain ⟨o17, h⟩ := h
            refine WP_iinc (z := (x3 + 1)) (ls1 := [vR (o + 1), vR a, vI x2, vI (x3 + 1)]) dX1_readCandidates_37 rfl (w32_id o17) (by decide) rfl ?_
            refine WP_goto (tgt := 12) dX1_readCandidates_40 (by decide) ?_
            exact ih12_ _ _ _ h.1 (by have := h.2; omega)
          · replace h := h.1 c16
            refine WP_iload_n (z := x3) dX1_readCandidates_35 rfl ?_
            exact WP_ireturn dX1_readCandidates_36 rfl h
  have cut12_ : ∀ (x2 x3 : Int) (D : HP), I12 x2 x3 D → WP mX1_readCandidates Q 12 [vR (o + 1), vR a, vI x2, vI x3] [] D := fun x2 x3 D hI => (IH (u12 x2 x3 D * 1 + 0 + 1)) x2 x3 D hI (by omega)
  refine WP_cD (fun hcD => ?_)
  have h := h0 hcD
  refine WP_aload_n (z := (o + 1)) dX1_readCandidates_0 rfl ?_
  refine WP_iconst (z := 0) dX1_readCandidates_1 rfl ⟨by decide, by decide⟩ ?_
  refine WP_putI dX1_readCandidates_2 fp_RX1_21 (kcC_1 ho) rfl ?_
  refine WP_aload_n (z := a) dX1_readCandidates_5 rfl ?_
  refine WP_pcallV (g := mX2_length) (as := []) (rest := []) (n := 0) (r := vI (fX2_length (hu D (o + 1) 3 0) a)) dX1_readCandidates_6 wm_143 mo_X2_length (kcT_0 ha) rfl rfl rfl ⟨Nat.le_of_ble_eq_true rfl, Nat.le_of_ble_eq_true rfl⟩ (Nat.le_of_ble_eq_true rfl) (P_X2_length ha trivial) ?_
  refine WP_istore_n (ls1 := [vR (o + 1), vR a, vI (fX2_length (hu D (o + 1) 3 0) a), vU]) dX1_readCandidates_9 (by decide) rfl ?_
  refine WP_iconst (z := 0) dX1_readCandidates_10 rfl ⟨by decide, by decide⟩ ?_
  refine WP_istore_n (ls1 := [vR (o + 1), vR a, vI (fX2_length (hu D (o + 1) 3 0) a), vI 0]) dX1_readCandidates_11 (by decide) rfl ?_
  exact cut12_ _ _ _ h
