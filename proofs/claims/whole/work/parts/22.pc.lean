set_option maxRecDepth 100000 in
set_option maxHeartbeats 4000000 in
theorem V_X0_start {o : Nat} (ho : o = 9 ∨ o = 25) {D : HP} {Q : Option MV → HP → Prop} (I22 : Int → HP → Prop) (u22 : Int → HP → Nat)
    (h0 : cD D → (∃ Q1 : Option MV → HP → Prop, CT mJ7_fill_53178 [vR (o + 10), vI 0] D Q1 ∧ ∀ (D4 : HP), Q1 none D4 → cD D4 → (∀ (E8 : HP), E8 = (hu D4 o 1 0) → (∀ (E10 : HP), E10 = (hu E8 (o + 11) 0 0) → (I22 0 E10)))))
    (h22 : ∀ (x1 : Int) (D : HP), I22 x1 D → cD D → c32 x1 → (((D (o + 1) 3) ≤ x1 → (Q none D)) ∧ (¬ ((D (o + 1) 3) ≤ x1) → ((8 ≤ x1 → (Q none D)) ∧ (¬ (8 ≤ x1) → ((0 ≤ x1 ∧ x1 < 8) ∧ ((0 ≤ x1 ∧ x1 < 8) ∧ ((0 ≤ x1 ∧ x1 < 104) ∧ (∀ (E14 : HP), E14 = (hu D (o + 12) x1.toNat (D (o + 8) x1.toNat)) → (((fX1_isCell E14 o (D (o + 7) x1.toNat)) = 0 → ((c32 (x1 + 1)) ∧ (I22 (x1 + 1) E14 ∧ u22 (x1 + 1) E14 < u22 x1 D))) ∧ (¬ ((fX1_isCell E14 o (D (o + 7) x1.toNat)) = 0) → ((oX1_isWall E14 o (D (o + 7) x1.toNat)) ∧ (((fX1_isWall E14 o (D (o + 7) x1.toNat)) = 0 → (∀ (E19 : HP), E19 = (hu E14 o 1 (b_ior (E14 o 1) (b_ishl 1 x1))) → ((0 ≤ (D (o + 7) x1.toNat) ∧ (D (o + 7) x1.toNat) < 25) ∧ ((0 ≤ (D (o + 7) x1.toNat) ∧ (D (o + 7) x1.toNat) < 25) ∧ (∀ (E21 : HP), E21 = (hu E19 (o + 10) ((D (o + 7) x1.toNat)).toNat (b_ior (E19 (o + 10) ((D (o + 7) x1.toNat)).toNat) (b_ishl 1 x1))) → ((c32 (x1 + 1)) ∧ (I22 (x1 + 1) E21 ∧ u22 (x1 + 1) E21 < u22 x1 D))))))) ∧ (¬ ((fX1_isWall E14 o (D (o + 7) x1.toNat)) = 0) → ((c32 (x1 + 1)) ∧ (I22 (x1 + 1) E14 ∧ u22 (x1 + 1) E14 < u22 x1 D))))))))))))))))
    : CT mX0_start [vR o] D Q := by
  refine CT.of 2 (by decide) (Nat.le_of_ble_eq_true rfl) ?_
  show WP mX0_start Q 0 [vR o, vU, vU] [] D
  have IH : ∀ n : Nat, (∀ (x1 : Int) (D : HP), I22 x1 D → u22 x1 D * 1 + 0 < n → WP mX0_start Q 22 [vR o, vI x1, vU] [] D) := by
    intro n
    induction n with
    | zero => exact fun _ _ _ h => absurd h (Nat.not_lt_zero _)
    | succ n ih =>
      have ih22_ := ih
      · intro x1 D hI hn
        refine WP_cD (fun hcD => ?_)
        refine WP_cl (fun hcl => ?_)
        have h := h22 x1 D hI hcD (cVs_g hcl (i := 1) (v := vI x1) rfl)
        refine WP_iload_n (z := x1) dX0_start_22 rfl ?_
        refine WP_aload_n (z := o) dX0_start_23 rfl ?_
        refine WP_getR (z := (o + 1)) dX0_start_24 fl_RX0_12 (kcC_0 ho) rfl (srC_0_0 ho) ?_
        refine WP_getI dX0_start_27 fl_RX0_73 (kcC_1 ho) rfl rfl ?_
        refine WP_icmp_ge (tgt := 116) dX0_start_30 (by decide) (fun c12 => ?_) (fun c12 => ?_)
        · replace h := h.1 c12
          exact WP_return dX0_start_116 rfl h
        · replace h := h.2 c12
          refine WP_iload_n (z := x1) dX0_start_33 rfl ?_
          refine WP_bipush (z := 8) dX0_start_34 rfl (by decide) ?_
          refine WP_icmp_ge (tgt := 116) dX0_start_36 (by decide) (fun c13 => ?_) (fun c13 => ?_)
          · replace h := h.1 c13
            exact WP_return dX0_start_116 rfl h
          · replace h := h.2 c13
            refine WP_aload_n (z := o) dX0_start_39 rfl ?_
            refine WP_getR (z := (o + 1)) dX0_start_40 fl_RX0_12 (kcC_0 ho) rfl (srC_0_0 ho) ?_
            refine WP_getR (z := (o + 7)) dX0_start_43 fl_RX0_76 (kcC_1 ho) rfl (srC_1_9 ho) ?_
            refine WP_iload_n (z := x1) dX0_start_46 rfl ?_
            obtain ⟨o30, h⟩ := h
            refine WP_iald dX0_start_47 (kcC_7 ho) o30.1 o30.2 rfl ?_
            refine WP_istore_n (ls1 := [vR o, vI x1, vI (D (o + 7) x1.toNat)]) dX0_start_48 (by decide) rfl ?_
            refine WP_aload_n (z := o) dX0_start_49 rfl ?_
            refine WP_getR (z := (o + 12)) dX0_start_50 fl_RX0_29 (kcC_0 ho) rfl (srC_0_4 ho) ?_
            refine WP_iload_n (z := x1) dX0_start_53 rfl ?_
            refine WP_aload_n (z := o) dX0_start_54 rfl ?_
            refine WP_getR (z := (o + 1)) dX0_start_55 fl_RX0_12 (kcC_0 ho) rfl (srC_0_0 ho) ?_
            refine WP_getR (z := (o + 8)) dX0_start_58 fl_RX0_79 (kcC_1 ho) rfl (srC_1_10 ho) ?_
            refine WP_iload_n (z := x1) dX0_start_61 rfl ?_
            obtain ⟨o29, h⟩ := h
            refine WP_iald dX0_start_62 (kcC_8 ho) o29.1 o29.2 rfl ?_
            obtain ⟨o28, h⟩ := h
            refine WP_iast dX0_start_63 (kcC_12 ho) o28.1 o28.2 ?_
            obtain ⟨E14, hE15⟩ : ∃ E14 : HP, E14 = (hu D (o + 12) x1.toNat (D (o + 8) x1.toNat)) := ⟨_, rfl⟩
            replace h := h E14 hE15
            show WP mX0_start Q 64 [vR o, vI x1, vI (D (o + 7) x1.toNat)] [] (hu D (o + 12) x1.toNat (D (o + 8) x1.toNat))
            rw [← hE15]
            refine WP_aload_n (z := o) dX0_start_64 rfl ?_
            refine WP_getR (z := (o + 1)) dX0_start_65 fl_RX0_12 (kcC_0 ho) rfl (srC_0_0 ho) ?_
            refine WP_iload_n (z := (D (o + 7) x1.toNat)) dX0_start_68 rfl ?_
            refine WP_pcallV (g := mX1_isCell) (as := [vI (D (o + 7) x1.toNat)]) (rest := []) (n := 1) (r := vI (fX1_isCell E14 o (D (o + 7) x1.toNat))) dX0_start_69 wm_216 mo_X1_isCell (kcC_1 ho) rfl rfl rfl ⟨Nat.le_of_ble_eq_true rfl, Nat.le_of_ble_eq_true rfl⟩ (Nat.le_of_ble_eq_true rfl) (P_X1_isCell ho trivial) ?_
            refine WP_if_eq (tgt := 110) dX0_start_72 (by decide) (fun c16 => ?_) (fun c16 => ?_)
            · replace h := h.1 c16
              obtain ⟨o17, h⟩ := h
              refine WP_iinc (z := (x1 + 1)) (ls1 := [vR o, vI (x1 + 1), vI (D (o + 7) x1.toNat)]) dX0_start_110 rfl (w32_id o17) (by decide) rfl ?_
              refine WP_goto (tgt := 22) dX0_start_113 (by decide) ?_
              refine WP_fg 2 (ls1 := [vR o, vI (x1 + 1), vU]) rfl ?_
              exact ih22_ _ _ h.1 (by have := h.2; omega)
            · replace h := h.2 c16
              refine WP_aload_n (z := o) dX0_start_75 rfl ?_
              refine WP_getR (z := (o + 1)) dX0_start_76 fl_RX0_12 (kcC_0 ho) rfl (srC_0_0 ho) ?_
              refine WP_iload_n (z := (D (o + 7) x1.toNat)) dX0_start_79 rfl ?_
              obtain ⟨o27, h⟩ := h
              refine WP_pcallV (g := mX1_isWall) (as := [vI (D (o + 7) x1.toNat)]) (rest := []) (n := 1) (r := vI (fX1_isWall E14 o (D (o + 7) x1.toNat))) dX0_start_80 wm_217 mo_X1_isWall (kcC_1 ho) rfl rfl rfl ⟨Nat.le_of_ble_eq_true rfl, Nat.le_of_ble_eq_true rfl⟩ (Nat.le_of_ble_eq_true rfl) (P_X1_isWall ho o27) ?_
              refine WP_if_ne (tgt := 110) dX0_start_83 (by decide) (fun c18 => ?_) (fun c18 => ?_)
              · replace h := h.2 c18
                obtain ⟨o26, h⟩ := h
                refine WP_iinc (z := (x1 + 1)) (ls1 := [vR o, vI (x1 + 1), vI (D (o + 7) x1.toNat)]) dX0_start_110 rfl (w32_id o26) (by decide) rfl ?_
                refine WP_goto (tgt := 22) dX0_start_113 (by decide) ?_
                refine WP_fg 2 (ls1 := [vR o, vI (x1 + 1), vU]) rfl ?_
                exact ih22_ _ _ h.1 (by have := h.2; omega)
              · replace h := h.1 c18
                refine WP_aload_n (z := o) dX0_start_86 rfl ?_
                refine WP_dup dX0_start_87 (Nat.ne_of_beq_eq_false rfl) ?_
                refine WP_getI dX0_start_88 fl_RX0_18 (kcC_0 ho) rfl rfl ?_
                refine WP_iconst (z := 1) dX0_start_91 rfl ⟨by decide, by decide⟩ ?_
                refine WP_iload_n (z := x1) dX0_start_92 rfl ?_
                refine WP_ishl dX0_start_93 rfl ?_
                refine WP_ior dX0_start_94 rfl ?_
                refine WP_putI dX0_start_95 fp_RX0_18 (kcC_0 ho) rfl ?_
                obtain ⟨E19, hE20⟩ : ∃ E19 : HP, E19 = (hu E14 o 1 (b_ior (E14 o 1) (b_ishl 1 x1))) := ⟨_, rfl⟩
                replace h := h E19 hE20
                show WP mX0_start Q 98 [vR o, vI x1, vI (D (o + 7) x1.toNat)] [] (hu E14 o 1 (b_ior (E14 o 1) (b_ishl 1 x1)))
                rw [← hE20]
                refine WP_aload_n (z := o) dX0_start_98 rfl ?_
                refine WP_getR (z := (o + 10)) dX0_start_99 fl_RX0_22 (kcC_0 ho) rfl (srC_0_2 ho) ?_
                refine WP_iload_n (z := (D (o + 7) x1.toNat)) dX0_start_102 rfl ?_
                refine WP_dup2 dX0_start_103 (Nat.ne_of_beq_eq_false rfl) (Nat.ne_of_beq_eq_false rfl) ?_
                obtain ⟨o25, h⟩ := h
                refine WP_iald dX0_start_104 (kcC_10 ho) o25.1 o25.2 rfl ?_
                refine WP_iconst (z := 1) dX0_start_105 rfl ⟨by decide, by decide⟩ ?_
                refine WP_iload_n (z := x1) dX0_start_106 rfl ?_
                refine WP_ishl dX0_start_107 rfl ?_
                refine WP_ior dX0_start_108 rfl ?_
                obtain ⟨o24, h⟩ := h
                refine WP_iast dX0_start_109 (kcC_10 ho) o24.1 o24.2 ?_
                obtain ⟨E21, hE22⟩ : ∃ E21 : HP, E21 = (hu E19 (o + 10) ((D (o + 7) x1.toNat)).toNat (b_ior (E19 (o + 10) ((D (o + 7) x1.toNat)).toNat) (b_ishl 1 x1))) := ⟨_, rfl⟩
                replace h := h E21 hE22
                show WP mX0_start Q 110 [vR o, vI x1, vI (D (o + 7) x1.toNat)] [] (hu E19 (o + 10) ((D (o + 7) x1.toNat)).toNat (b_ior (E19 (o + 10) ((D (o + 7) x1.toNat)).toNat) (b_ishl 1 x1)))
                rw [← hE22]
                obtain ⟨o23, h⟩ := h
                refine WP_iinc (z := (x1 + 1)) (ls1 := [vR o, vI (x1 + 1), vI (D (o + 7) x1.toNat)]) dX0_start_110 rfl (w32_id o23) (by decide) rfl ?_
                refine WP_goto (tgt := 22) dX0_start_113 (by decide) ?_
                refine WP_fg 2 (ls1 := [vR o, vI (x1 + 1), vU]) rfl ?_
                exact ih22_ _ _ h.1 (by have := h.2; omega)
  have cut22_ : ∀ (x1 : Int) (D : HP), I22 x1 D → WP mX0_start Q 22 [vR o, vI x1, vU] [] D := fun x1 D hI => (IH (u22 x1 D * 1 + 0 + 1)) x1 D hI (by omega)
  refine WP_cD (fun hcD => ?_)
  have h := h0 hcD
  refine WP_aload_n (z := o) dX0_start_0 rfl ?_
  refine WP_getR (z := (o + 10)) dX0_start_1 fl_RX0_22 (kcC_0 ho) rfl (srC_0_2 ho) ?_
  refine WP_iconst (z := 0) dX0_start_4 rfl ⟨by decide, by decide⟩ ?_
  obtain ⟨Q1, ct3, h⟩ := h
  refine WP_callS (g := mJ7_fill_53178) (as := [vR (o + 10), vI 0]) (rest := []) (n := 2) dX0_start_5 wm_212 mo_J7_fill_53178 rfl rfl ⟨Nat.le_of_ble_eq_true rfl, Nat.le_of_ble_eq_true rfl⟩ (Nat.le_of_ble_eq_true rfl) ct3 (fun r_ D4 hq2 hok hD7 => ?_)
  obtain rfl := hok
  replace h := h D4 hq2 hD7
  show WP mX0_start Q 8 [vR o, vU, vU] [] D4
  refine WP_aload_n (z := o) dX0_start_8 rfl ?_
  refine WP_iconst (z := 0) dX0_start_9 rfl ⟨by decide, by decide⟩ ?_
  refine WP_putI dX0_start_10 fp_RX0_18 (kcC_0 ho) rfl ?_
  obtain ⟨E8, hE9⟩ : ∃ E8 : HP, E8 = (hu D4 o 1 0) := ⟨_, rfl⟩
  replace h := h E8 hE9
  show WP mX0_start Q 13 [vR o, vU, vU] [] (hu D4 o 1 0)
  rw [← hE9]
  refine WP_aload_n (z := o) dX0_start_13 rfl ?_
  refine WP_getR (z := (o + 11)) dX0_start_14 fl_RX0_26 (kcC_0 ho) rfl (srC_0_3 ho) ?_
  refine WP_iconst (z := 0) dX0_start_17 rfl ⟨by decide, by decide⟩ ?_
  refine WP_iconst (z := 0) dX0_start_18 rfl ⟨by decide, by decide⟩ ?_
  refine WP_iast dX0_start_19 (kcC_11 ho) (by decide) (by decide) ?_
  obtain ⟨E10, hE11⟩ : ∃ E10 : HP, E10 = (hu E8 (o + 11) 0 0) := ⟨_, rfl⟩
  replace h := h E10 hE11
  show WP mX0_start Q 20 [vR o, vU, vU] [] (hu E8 (o + 11) 0 0)
  rw [← hE11]
  refine WP_iconst (z := 0) dX0_start_20 rfl ⟨by decide, by decide⟩ ?_
  refine WP_istore_n (ls1 := [vR o, vI 0, vU]) dX0_start_21 (by decide) rfl ?_
  exact cut22_ _ _ h
def fX0_windOn (D : HP) (o : Nat) (a : Int) (b : Int) : Int := (if a < 0 then (0 : Int) else (if 12 ≤ a then (0 : Int) else (if b < 0 then (0 : Int) else (if b < (D (o + 1) 1) then ((if (((D (o + 5) a.toNat) * 25) + b) < 0 then (0 : Int) else (if 100 ≤ (((D (o + 5) a.toNat) * 25) + b) then (0 : Int) else (if (D (o + 4) ((((D (o + 5) a.toNat) * 25) + b)).toNat) = 0 then (0 : Int) else (if (if (D (o + 3) ((((D (o + 5) a.toNat) * 25) + b)).toNat) < 0 then (0 : Int) else (if 25 ≤ (D (o + 3) ((((D (o + 5) a.toNat) * 25) + b)).toNat) then (0 : Int) else (if (b_iand (D (o + 10) ((D (o + 3) ((((D (o + 5) a.toNat) * 25) + b)).toNat)).toNat) (b_ixor (D (o + 11) a.toNat) (-1))) = 0 then (0 : Int) else 1))) = 0 then ((if (if ((D (o + 4) ((((D (o + 5) a.toNat) * 25) + b)).toNat) % 4) = 1 then (((D (o + 6) a.toNat) / 2) : Int) else (D (o + 6) a.toNat)) = 0 then ((if ((D (o + 4) ((((D (o + 5) a.toNat) * 25) + b)).toNat) % 4) = 1 then (((D (o + 6) a.toNat) / 2) : Int) else (D (o + 6) a.toNat)) : Int) else (if (D (o + 4) ((((D (o + 5) a.toNat) * 25) + b)).toNat) < 4 then ((if ((D (o + 4) ((((D (o + 5) a.toNat) * 25) + b)).toNat) % 4) = 1 then (((D (o + 6) a.toNat) / 2) : Int) else (D (o + 6) a.toNat)) : Int) else ((if ((D (o + 4) ((((D (o + 5) a.toNat) * 25) + b)).toNat) % 4) = 1 then (((D (o + 6) a.toNat) / 2) : Int) else (D (o + 6) a.toNat)) + 3))) : Int) else ((if (if ((D (o + 4) ((((D (o + 5) a.toNat) * 25) + b)).toNat) % 4) = 1 then (((D (o + 6) a.toNat) / 2) : Int) else (D (o + 6) a.toNat)) = 0 then ((if ((D (o + 4) ((((D (o + 5) a.toNat) * 25) + b)).toNat) % 4) = 1 then (((D (o + 6) a.toNat) / 2) : Int) else (D (o + 6) a.toNat)) : Int) else (if (D (o + 4) ((((D (o + 5) a.toNat) * 25) + b)).toNat) < 4 then ((if ((D (o + 4) ((((D (o + 5) a.toNat) * 25) + b)).toNat) % 4) = 1 then (((D (o + 6) a.toNat) / 2) : Int) else (D (o + 6) a.toNat)) : Int) else ((if ((D (o + 4) ((((D (o + 5) a.toNat) * 25) + b)).toNat) % 4) = 1 then (((D (o + 6) a.toNat) / 2) : Int) else (D (o + 6) a.toNat)) + 3))) / 2))))) : Int) else 0))))
def oX0_windOn (D : HP) (o : Nat) (a : Int) (b : Int) : Prop := ((a < 0 → True) ∧ (¬ (a < 0) → ((12 ≤ a → True) ∧ (¬ (12 ≤ a) → ((b < 0 → True) ∧ (¬ (b < 0) → ((b < (D (o + 1) 1) → ((0 ≤ a ∧ a < 12) ∧ ((c32 ((D (o + 5) a.toNat) * 25)) ∧ ((c32 (((D (o + 5) a.toNat) * 25) + b)) ∧ (((((D (o + 5) a.toNat) * 25) + b) < 0 → True) ∧ (¬ ((((D (o + 5) a.toNat) * 25) + b) < 0) → ((100 ≤ (((D (o + 5) a.toNat) * 25) + b) → True) ∧ (¬ (100 ≤ (((D (o + 5) a.toNat) * 25) + b)) → ((0 ≤ (((D (o + 5) a.toNat) * 25) + b) ∧ (((D (o + 5) a.toNat) * 25) + b) < 100) ∧ (((D (o + 4) ((((D (o + 5) a.toNat) * 25) + b)).toNat) = 0 → True) ∧ (¬ ((D (o + 4) ((((D (o + 5) a.toNat) * 25) + b)).toNat) = 0) → ((0 ≤ (((D (o + 5) a.toNat) * 25) + b) ∧ (((D (o + 5) a.toNat) * 25) + b) < 100) ∧ ((0 ≤ (D (o + 4) ((((D (o + 5) a.toNat) * 25) + b)).toNat)) ∧ ((((((D (o + 4) ((((D (o + 5) a.toNat) * 25) + b)).toNat) % 4) = 1) → (0 ≤ a ∧ a < 12) ∧ (0 ≤ (D (o + 6) a.toNat))) ∧ (¬ (((D (o + 4) ((((D (o + 5) a.toNat) * 25) + b)).toNat) % 4) = 1) → (0 ≤ a ∧ a < 12))) ∧ (((((if ((D (o + 4) ((((D (o + 5) a.toNat) * 25) + b)).toNat) % 4) = 1 then (((D (o + 6) a.toNat) / 2) : Int) else (D (o + 6) a.toNat)) = 0) → True) ∧ (¬ ((if ((D (o + 4) ((((D (o + 5) a.toNat) * 25) + b)).toNat) % 4) = 1 then (((D (o + 6) a.toNat) / 2) : Int) else (D (o + 6) a.toNat)) = 0) → ((((D (o + 4) ((((D (o + 5) a.toNat) * 25) + b)).toNat) < 4) → True) ∧ (¬ ((D (o + 4) ((((D (o + 5) a.toNat) * 25) + b)).toNat) < 4) → (c32 ((if ((D (o + 4) ((((D (o + 5) a.toNat) * 25) + b)).toNat) % 4) = 1 then (((D (o + 6) a.toNat) / 2) : Int) else (D (o + 6) a.toNat)) + 3)))))) ∧ ((0 ≤ (((D (o + 5) a.toNat) * 25) + b) ∧ (((D (o + 5) a.toNat) * 25) + b) < 100) ∧ (((((D (o + 3) ((((D (o + 5) a.toNat) * 25) + b)).toNat) < 0) → True) ∧ (¬ ((D (o + 3) ((((D (o + 5) a.toNat) * 25) + b)).toNat) < 0) → (((25 ≤ (D (o + 3) ((((D (o + 5) a.toNat) * 25) + b)).toNat)) → True) ∧ (¬ (25 ≤ (D (o + 3) ((((D (o + 5) a.toNat) * 25) + b)).toNat)) → (0 ≤ (D (o + 3) ((((D (o + 5) a.toNat) * 25) + b)).toNat) ∧ (D (o + 3) ((((D (o + 5) a.toNat) * 25) + b)).toNat) < 25) ∧ (0 ≤ a ∧ a < 13))))) ∧ (((if (D (o + 3) ((((D (o + 5) a.toNat) * 25) + b)).toNat) < 0 then (0 : Int) else (if 25 ≤ (D (o + 3) ((((D (o + 5) a.toNat) * 25) + b)).toNat) then (0 : Int) else (if (b_iand (D (o + 10) ((D (o + 3) ((((D (o + 5) a.toNat) * 25) + b)).toNat)).toNat) (b_ixor (D (o + 11) a.toNat) (-1))) = 0 then (0 : Int) else 1))) = 0 → True) ∧ (¬ ((if (D (o + 3) ((((D (o + 5) a.toNat) * 25) + b)).toNat) < 0 then (0 : Int) else (if 25 ≤ (D (o + 3) ((((D (o + 5) a.toNat) * 25) + b)).toNat) then (0 : Int) else (if (b_iand (D (o + 10) ((D (o + 3) ((((D (o + 5) a.toNat) * 25) + b)).toNat)).toNat) (b_ixor (D (o + 11) a.toNat) (-1))) = 0 then (0 : Int) else 1))) = 0) → ((0 ≤ (if (if ((D (o + 4) ((((D (o + 5) a.toNat) * 25) + b)).toNat) % 4) = 1 then (((D (o + 6) a.toNat) / 2) : Int) else (D (o + 6) a.toNat)) = 0 then ((if ((D (o + 4) ((((D (o + 5) a.toNat) * 25) + b)).toNat) % 4) = 1 then (((D (o + 6) a.toNat) / 2) : Int) else (D (o + 6) a.toNat)) : Int) else (if (D (o + 4) ((((D (o + 5) a.toNat) * 25) + b)).toNat) < 4 then ((if ((D (o + 4) ((((D (o + 5) a.toNat) * 25) + b)).toNat) % 4) = 1 then (((D (o + 6) a.toNat) / 2) : Int) else (D (o + 6) a.toNat)) : Int) else ((if ((D (o + 4) ((((D (o + 5) a.toNat) * 25) + b)).toNat) % 4) = 1 then (((D (o + 6) a.toNat) / 2) : Int) else (D (o + 6) a.toNat)) + 3)))) ∧ True)))))))))))))))))))) ∧ (¬ (b < (D (o + 1) 1)) → True))))))))
set_option maxRecDepth 100000 in
set_option maxHeartbeats 4000000 in
theorem V_X0_windOn {o : Nat} (ho : o = 9 ∨ o = 25) (a : Int) (b : Int) {D : HP} {Q : Option MV → HP → Prop}
    (h0 : cD D → c32 a → c32 b → ((a < 0 → (Q (some (vI 0)) D)) ∧ (¬ (a < 0) → ((12 ≤ a → (Q (some (vI 0)) D)) ∧ (¬ (12 ≤ a) → ((b < 0 → (Q (some (vI 0)) D)) ∧ (¬ (b < 0) → ((b < (D (o + 1) 1) → ((0 ≤ a ∧ a < 12) ∧ ((c32 ((D (o + 5) a.toNat) * 25)) ∧ ((c32 (((D (o + 5) a.toNat) * 25) + b)) ∧ (((((D (o + 5) a.toNat) * 25) + b) < 0 → (Q (some (vI 0)) D)) ∧ (¬ ((((D (o + 5) a.toNat) * 25) + b) < 0) → ((100 ≤ (((D (o + 5) a.toNat) * 25) + b) → (Q (some (vI 0)) D)) ∧ (¬ (100 ≤ (((D (o + 5) a.toNat) * 25) + b)) → ((0 ≤ (((D (o + 5) a.toNat) * 25) + b) ∧ (((D (o + 5) a.toNat) * 25) + b) < 100) ∧ (((D (o + 4) ((((D (o + 5) a.toNat) * 25) + b)).toNat) = 0 → (Q (some (vI 0)) D)) ∧ (¬ ((D (o + 4) ((((D (o + 5) a.toNat) * 25) + b)).toNat) = 0) → ((0 ≤ (((D (o + 5) a.toNat) * 25) + b) ∧ (((D (o + 5) a.toNat) * 25) + b) < 100) ∧ ((0 ≤ (D (o + 4) ((((D (o + 5) a.toNat) * 25) + b)).toNat)) ∧ ((((((D (o + 4) ((((D (o + 5) a.toNat) * 25) + b)).toNat) % 4) = 1) → (0 ≤ a ∧ a < 12) ∧ (0 ≤ (D (o + 6) a.toNat))) ∧ (¬ (((D (o + 4) ((((D (o + 5) a.toNat) * 25) + b)).toNat) % 4) = 1) → (0 ≤ a ∧ a < 12))) ∧ (((((if ((D (o + 4) ((((D (o + 5) a.toNat) * 25) + b)).toNat) % 4) = 1 then (((D (o + 6) a.toNat) / 2) : Int) else (D (o + 6) a.toNat)) = 0) → True) ∧ (¬ ((if ((D (o + 4) ((((D (o + 5) a.toNat) * 25) + b)).toNat) % 4) = 1 then (((D (o + 6) a.toNat) / 2) : Int) else (D (o + 6) a.toNat)) = 0) → ((((D (o + 4) ((((D (o + 5) a.toNat) * 25) + b)).toNat) < 4) → True) ∧ (¬ ((D (o + 4) ((((D (o + 5) a.toNat) * 25) + b)).toNat) < 4) → (c32 ((if ((D (o + 4) ((((D (o + 5) a.toNat) * 25) + b)).toNat) % 4) = 1 then (((D (o + 6) a.toNat) / 2) : Int) else (D (o + 6) a.toNat)) + 3)))))) ∧ ((0 ≤ (((D (o + 5) a.toNat) * 25) + b) ∧ (((D (o + 5) a.toNat) * 25) + b) < 100) ∧ (((((D (o + 3) ((((D (o + 5) a.toNat) * 25) + b)).toNat) < 0) → True) ∧ (¬ ((D (o + 3) ((((D (o + 5) a.toNat) * 25) + b)).toNat) < 0) → (((25 ≤ (D (o + 3) ((((D (o + 5) a.toNat) * 25) + b)).toNat)) → True) ∧ (¬ (25 ≤ (D (o + 3) ((((D (o + 5) a.toNat) * 25) + b)).toNat)) → (0 ≤ (D (o + 3) ((((D (o + 5) a.toNat) * 25) + b)).toNat) ∧ (D (o + 3) ((((D (o + 5) a.toNat) * 25) + b)).toNat) < 25) ∧ (0 ≤ a ∧ a < 13))))) ∧ (((if (D (o + 3) ((((D (o + 5) a.toNat) * 25) + b)).toNat) < 0 then (0 : Int) else (if 25 ≤ (D (o + 3) ((((D (o + 5) a.toNat) * 25) + b)).toNat) then (0 : Int) else (if (b_iand (D (o + 10) ((D (o + 3) ((((D (o + 5) a.toNat) * 25) + b)).toNat)).toNat) (b_ixor (D (o + 11) a.toNat) (-1))) = 0 then (0 : Int) else 1))) = 0 → (Q (some (vI (if (if ((D (o + 4) ((((D (o + 5) a.toNat) * 25) + b)).toNat) % 4) = 1 then (((D (o + 6) a.toNat) / 2) : Int) else (D (o + 6) a.toNat)) = 0 then ((if ((D (o + 4) ((((D (o + 5) a.toNat) * 25) + b)).toNat) % 4) = 1 then (((D (o + 6) a.toNat) / 2) : Int) else (D (o + 6) a.toNat)) : Int) else (if (D (o + 4) ((((D (o + 5) a.toNat) * 25) + b)).toNat) < 4 then ((if ((D (o + 4) ((((D (o + 5) a.toNat) * 25) + b)).toNat) % 4) = 1 then (((D (o + 6) a.toNat) / 2) : Int) else (D (o + 6) a.toNat)) : Int) else ((if ((D (o + 4) ((((D (o + 5) a.toNat) * 25) + b)).toNat) % 4) = 1 then (((D (o + 6) a.toNat) / 2) : Int) else (D (o + 6) a.toNat)) + 3))))) D)) ∧ (¬ ((if (D (o + 3) ((((D (o + 5) a.toNat) * 25) + b)).toNat) < 0 then (0 : Int) else (if 25 ≤ (D (o + 3) ((((D (o + 5) a.toNat) * 25) + b)).toNat) then (0 : Int) else (if (b_iand (D (o + 10) ((D (o + 3) ((((D (o + 5) a.toNat) * 25) + b)).toNat)).toNat) (b_ixor (D (o + 11) a.toNat) (-1))) = 0 then (0 : Int) else 1))) = 0) → ((0 ≤ (if (if ((D (o + 4) ((((D (o + 5) a.toNat) * 25) + b)).toNat) % 4) = 1 then (((D (o + 6) a.toNat) / 2) : Int) else (D (o + 6) a.toNat)) = 0 then ((if ((D (o + 4) ((((D (o + 5) a.toNat) * 25) + b)).toNat) % 4) = 1 then (((D (o + 6) a.toNat) / 2) : Int) else (D (o + 6) a.toNat)) : Int) else (if (D (o + 4) ((((D (o + 5) a.toNat) * 25) + b)).toNat) < 4 then ((if ((D (o + 4) ((((D (o + 5) a.toNat) * 25) + b)).toNat) % 4) = 1 then (((D (o + 6) a.toNat) / 2) : Int) else (D (o + 6) a.toNat)) : Int) else ((if ((D (o + 4) ((((D (o + 5) a.toNat) * 25) + b)).toNat) % 4) = 1 then (((D (o + 6) a.toNat) / 2) : Int) else (D (o + 6) a.toNat)) + 3)))) ∧ (Q (some (vI ((if (if ((D (o + 4) ((((D (o + 5) a.toNat) * 25) + b)).toNat) % 4) = 1 then (((D (o + 6) a.toNat) / 2) : Int) else (D (o + 6) a.toNat)) = 0 then ((if ((D (o + 4) ((((D (o + 5) a.toNat) * 25) + b)).toNat) % 4) = 1 then (((D (o + 6) a.toNat) / 2) : Int) else (D (o + 6) a.toNat)) : Int) else (if (D (o + 4) ((((D (o + 5) a.toNat) * 25) + b)).toNat) < 4 then ((if ((D (o + 4) ((((D (o + 5) a.toNat) * 25) + b)).toNat) % 4) = 1 then (((D (o + 6) a.toNat) / 2) : Int) else (D (o + 6) a.toNat)) : Int) else ((if ((D (o + 4) ((((D (o + 5) a.toNat) * 25) + b)).toNat) % 4) = 1 then (((D (o + 6) a.toNat) / 2) : Int) else (D (o + 6) a.toNat)) + 3))) / 2))) D))))))))))))))))))))) ∧ (¬ (b < (D (o + 1) 1)) → (Q (some (vI 0)) D))))))))))
    : CT mX0_windOn [vR o, vI a, vI b] D Q := by
  refine CT.of 5 (by decide) (Nat.le_of_ble_eq_true rfl) ?_
  show WP mX0_windOn Q 0 [vR o, vI a, vI b, vU, vU, vU, vU, vU] [] D
  refine WP_cD (fun hcD => ?_)
  refine WP_cl (fun hcl => ?_)
  have h := h0 hcD (cVs_g hcl (i := 1) (v := vI a) rfl) (cVs_g hcl (i := 2) (v := vI b) rfl)
  refine WP_iload_n (z := a) dX0_windOn_0 rfl ?_
  refine WP_if_lt (tgt := 25) dX0_windOn_1 (by decide) (fun c1 => ?_) (fun c1 => ?_)
  · replace h := h.1 c1
    refine WP_iconst (z := 0) dX0_windOn_25 rfl ⟨by decide, by decide⟩ ?_
    exact WP_ireturn dX0_windOn_26 rfl h
  · replace h := h.2 c1
    refine WP_iload_n (z := a) dX0_windOn_4 rfl ?_
    refine WP_bipush (z := 12) dX0_windOn_5 rfl (by decide) ?_
    refine WP_icmp_ge (tgt := 25) dX0_windOn_7 (by decide) (fun c2 => ?_) (fun c2 => ?_)
    · replace h := h.1 c2
      refine WP_iconst (z := 0) dX0_windOn_25 rfl ⟨by decide, by decide⟩ ?_
      exact WP_ireturn dX0_windOn_26 rfl h
    · replace h := h.2 c2
      refine WP_iload_n (z := b) dX0_windOn_10 rfl ?_
      refine WP_if_lt (tgt := 25) dX0_windOn_11 (by decide) (fun c3 => ?_) (fun c3 => ?_)
      · replace h := h.1 c3
        refine WP_iconst (z := 0) dX0_windOn_25 rfl ⟨by decide, by decide⟩ ?_
        exact WP_ireturn dX0_windOn_26 rfl h
      · replace h := h.2 c3
        refine WP_iload_n (z := b) dX0_windOn_14 rfl ?_
        refine WP_aload_n (z := o) dX0_windOn_15 rfl ?_
        refine WP_getR (z := (o + 1)) dX0_windOn_16 fl_RX0_12 (kcC_0 ho) rfl (srC_0_0 ho) ?_
        refine WP_getI dX0_windOn_19 fl_RX0_100 (kcC_1 ho) rfl rfl ?_
        refine WP_icmp_lt (tgt := 27) dX0_windOn_22 (by decide) (fun c4 => ?_) (fun c4 => ?_)
        · replace h := h.1 c4
          refine WP_aload_n (z := o) dX0_windOn_27 rfl ?_
          refine WP_getR (z := (o + 1)) dX0_windOn_28 fl_RX0_12 (kcC_0 ho) rfl (srC_0_0 ho) ?_
          refine WP_getR (z := (o + 5)) dX0_windOn_31 fl_RX0_103 (kcC_1 ho) rfl (srC_1_7 ho) ?_
          refine WP_iload_n (z := a) dX0_windOn_34 rfl ?_
          obtain ⟨o41, h⟩ := h
          refine WP_iald dX0_windOn_35 (kcC_5 ho) o41.1 o41.2 rfl ?_
          refine WP_bipush (z := 25) dX0_windOn_36 rfl (by decide) ?_
          obtain ⟨o40, h⟩ := h
          refine WP_imul (z := ((D (o + 5) a.toNat) * 25)) dX0_windOn_38 (w32_id o40) ?_
          refine WP_iload_n (z := b) dX0_windOn_39 rfl ?_
          obtain ⟨o39, h⟩ := h
          refine WP_iadd (z := (((D (o + 5) a.toNat) * 25) + b)) dX0_windOn_40 (w32_id o39) ?_
          refine WP_istore_n (ls1 := [vR o, vI a, vI b, vI (((D (o + 5) a.toNat) * 25) + b), vU, vU, vU, vU]) dX0_windOn_41 (by decide) rfl ?_
          refine WP_iload_n (z := (((D (o + 5) a.toNat) * 25) + b)) dX0_windOn_42 rfl ?_
          refine WP_if_lt (tgt := 64) dX0_windOn_43 (by decide) (fun c5 => ?_) (fun c5 => ?_)
          · replace h := h.1 c5
            refine WP_iconst (z := 0) dX0_windOn_64 rfl ⟨by decide, by decide⟩ ?_
            exact WP_ireturn dX0_windOn_65 rfl h
          · replace h := h.2 c5
            refine WP_iload_n (z := (((D (o + 5) a.toNat) * 25) + b)) dX0_windOn_46 rfl ?_
            refine WP_bipush (z := 100) dX0_windOn_47 rfl (by decide) ?_
            refine WP_icmp_ge (tgt := 64) dX0_windOn_49 (by decide) (fun c6 => ?_) (fun c6 => ?_)
            · replace h := h.1 c6
              refine WP_iconst (z := 0) dX0_windOn_64 rfl ⟨by decide, by decide⟩ ?_
              exact WP_ireturn dX0_windOn_65 rfl h
            · replace h := h.2 c6
              refine WP_aload_n (z := o) dX0_windOn_52 rfl ?_
              refine WP_getR (z := (o + 1)) dX0_windOn_53 fl_RX0_12 (kcC_0 ho) rfl (srC_0_0 ho) ?_
              refine WP_getR (z := (o + 4)) dX0_windOn_56 fl_RX0_106 (kcC_1 ho) rfl (srC_1_6 ho) ?_
              refine WP_iload_n (z := (((D (o + 5) a.toNat) * 25) + b)) dX0_windOn_59 rfl ?_
              obtain ⟨o38, h⟩ := h
              refine WP_iald dX0_windOn_60 (kcC_4 ho) o38.1 o38.2 rfl ?_
              refine WP_if_ne (tgt := 66) dX0_windOn_61 (by decide) (fun c7 => ?_) (fun c7 => ?_)
              · replace h := h.2 c7
                refine WP_aload_n (z := o) dX0_windOn_66 rfl ?_
                refine WP_getR (z := (o + 1)) dX0_windOn_67 fl_RX0_12 (kcC_0 ho) rfl (srC_0_0 ho) ?_
                refine WP_getR (z := (o + 4)) dX0_windOn_70 fl_RX0_106 (kcC_1 ho) rfl (srC_1_6 ho) ?_
                refine WP_iload_n (z := (((D (o + 5) a.toNat) * 25) + b)) dX0_windOn_73 rfl ?_
                obtain ⟨o37, h⟩ := h
                refine WP_iald dX0_windOn_74 (kcC_4 ho) o37.1 o37.2 rfl ?_
                refine WP_istore (ls1 := [vR o, vI a, vI b, vI (((D (o + 5) a.toNat) * 25) + b), vI (D (o + 4) ((((D (o + 5) a.toNat) * 25) + b)).toNat), vU, vU, vU]) dX0_windOn_75 (by decide) rfl ?_
                refine WP_iload (z := (D (o + 4) ((((D (o + 5) a.toNat) * 25) + b)).toNat)) dX0_windOn_77 rfl ?_
                refine WP_iconst (z := 4) dX0_windOn_79 rfl ⟨by decide, by decide⟩ ?_
                obtain ⟨o36, h⟩ := h
                refine WP_irem dX0_windOn_80 o36 (by decide) rfl ?_
                refine WP_iconst (z := 1) dX0_windOn_81 rfl ⟨by decide, by decide⟩ ?_
                obtain ⟨o8, h⟩ := h
                refine WP_via (pc1 := 108) (ls1 := [vR o, vI a, vI b, vI (((D (o + 5) a.toNat) * 25) + b), vI (D (o + 4) ((((D (o + 5) a.toNat) * 25) + b)).toNat), vU, vU, vU]) (st1 := [vI (if ((D (o + 4) ((((D (o + 5) a.toNat) * 25) + b)).toNat) % 4) = 1 then (((D (o + 6) a.toNat) / 2) : Int) else (D (o + 6) a.toNat))]) (D1 := D) (fun hJ32 => ?_) ?_
                · refine WP_icmp_ne (tgt := 99) dX0_windOn_82 (by decide) (fun c33 => ?_) (fun c33 => ?_)
                  · replace hJ32 := ite_f (P := fun v_ : Int => WP mX0_windOn Q 108 [vR o, vI a, vI b, vI (((D (o + 5) a.toNat) * 25) + b), vI (D (o + 4) ((((D (o + 5) a.toNat) * 25) + b)).toNat), vU, vU, vU] [vI v_] D) hJ32 c33
                    have o35 := o8.2 c33
                    refine WP_aload_n (z := o) dX0_windOn_99 rfl ?_
                    refine WP_getR (z := (o + 1)) dX0_windOn_100 fl_RX0_12 (kcC_0 ho) rfl (srC_0_0 ho) ?_
                    refine WP_getR (z := (o + 6)) dX0_windOn_103 fl_RX0_109 (kcC_1 ho) rfl (srC_1_8 ho) ?_
                    refine WP_iload_n (z := a) dX0_windOn_106 rfl ?_
                    refine WP_iald dX0_windOn_107 (kcC_6 ho) o35.1 o35.2 rfl ?_
                    exact hJ32
                  · replace hJ32 := ite_t (P := fun v_ : Int => WP mX0_windOn Q 108 [vR o, vI a, vI b, vI (((D (o + 5) a.toNat) * 25) + b), vI (D (o + 4) ((((D (o + 5) a.toNat) * 25) + b)).toNat), vU, vU, vU] [vI v_] D) hJ32 c33
                    have o34 := o8.1 c33
                    refine WP_aload_n (z := o) dX0_windOn_85 rfl ?_
                    refine WP_getR (z := (o + 1)) dX0_windOn_86 fl_RX0_12 (kcC_0 ho) rfl (srC_0_0 ho) ?_
                    refine WP_getR (z := (o + 6)) dX0_windOn_89 fl_RX0_109 (kcC_1 ho) rfl (srC_1_8 ho) ?_
                    refine WP_iload_n (z := a) dX0_windOn_92 rfl ?_
                    refine WP_iald dX0_windOn_93 (kcC_6 ho) o34.1.1 o34.1.2 rfl ?_
                    refine WP_iconst (z := 2) dX0_windOn_94 rfl ⟨by decide, by decide⟩ ?_
                    refine WP_idiv dX0_windOn_95 o34.2 (by decide) rfl ?_
                    refine WP_goto (tgt := 108) dX0_windOn_96 (by decide) ?_
                    exact hJ32
                · refine WP_istore (ls1 := [vR o, vI a, vI b, vI (((D (o + 5) a.toNat) * 25) + b), vI (D (o + 4) ((((D (o + 5) a.toNat) * 25) + b)).toNat), vI (if ((D (o + 4) ((((D (o + 5) a.toNat) * 25) + b)).toNat) % 4) = 1 then (((D (o + 6) a.toNat) / 2) : Int) else (D (o + 6) a.toNat)), vU, vU]) dX0_windOn_108 (by decide) rfl ?_
                  refine WP_iload (z := (if ((D (o + 4) ((((D (o + 5) a.toNat) * 25) + b)).toNat) % 4) = 1 then (((D (o + 6) a.toNat) / 2) : Int) else (D (o + 6) a.toNat))) dX0_windOn_110 rfl ?_
                  obtain ⟨o9, h⟩ := h
                  refine WP_via (pc1 := 124) (ls1 := [vR o, vI a, vI b, vI (((D (o + 5) a.toNat) * 25) + b), vI (D (o + 4) ((((D (o + 5) a.toNat) * 25) + b)).toNat), vI (if (if ((D (o + 4) ((((D (o + 5) a.toNat) * 25) + b)).toNat) % 4) = 1 then (((D (o + 6) a.toNat) / 2) : Int) else (D (o + 6) a.toNat)) = 0 then ((if ((D (o + 4) ((((D (o + 5) a.toNat) * 25) + b)).toNat) % 4) = 1 then (((D (o + 6) a.toNat) / 2) : Int) else (D (o + 6) a.toNat)) : Int) else (if (D (o + 4) ((((D (o + 5) a.toNat) * 25) + b)).toNat) < 4 then ((if ((D (o + 4) ((((D (o + 5) a.toNat) * 25) + b)).toNat) % 4) = 1 then (((D (o + 6) a.toNat) / 2) : Int) else (D (o + 6) a.toNat)) : Int) else ((if ((D (o + 4) ((((D (o + 5) a.toNat) * 25) + b)).toNat) % 4) = 1 then (((D (o + 6) a.toNat) / 2) : Int) else (D (o + 6) a.toNat)) + 3))), vU, vU]) (st1 := []) (D1 := D) (fun hJ24 => ?_) ?_
                  · refine WP_if_eq (tgt := 124) dX0_windOn_112 (by decide) (fun c25 => ?_) (fun c25 => ?_)
                    · replace hJ24 := ite_t (P := fun v_ : Int => WP mX0_windOn Q 124 [vR o, vI a, vI b, vI (((D (o + 5) a.toNat) * 25) + b), vI (D (o + 4) ((((D (o + 5) a.toNat) * 25) + b)).toNat), vI v_, vU, vU] [] D) hJ24 c25
                      have o26 := o9.1 c25
                      exact hJ24
                    · replace hJ24 := ite_f (P := fun v_ : Int => WP mX0_windOn Q 124 [vR o, vI a, vI b, vI (((D (o + 5) a.toNat) * 25) + b), vI (D (o + 4) ((((D (o + 5) a.toNat) * 25) + b)).toNat), vI v_, vU, vU] [] D) hJ24 c25
                      have o27 := o9.2 c25
                      refine WP_iload (z := (D (o + 4) ((((D (o + 5) a.toNat) * 25) + b)).toNat)) dX0_windOn_115 rfl ?_
                      refine WP_iconst (z := 4) dX0_windOn_117 rfl ⟨by decide, by decide⟩ ?_
                      refine WP_via (pc1 := 124) (ls1 := [vR o, vI a, vI b, vI (((D (o + 5) a.toNat) * 25) + b), vI (D (o + 4) ((((D (o + 5) a.toNat) * 25) + b)).toNat), vI (if (D (o + 4) ((((D (o + 5) a.toNat) * 25) + b)).toNat) < 4 then ((if ((D (o + 4) ((((D (o + 5) a.toNat) * 25) + b)).toNat) % 4) = 1 then (((D (o + 6) a.toNat) / 2) : Int) else (D (o + 6) a.toNat)) : Int) else ((if ((D (o + 4) ((((D (o + 5) a.toNat) * 25) + b)).toNat) % 4) = 1 then (((D (o + 6) a.toNat) / 2) : Int) else (D (o + 6) a.toNat)) + 3)), vU, vU]) (st1 := []) (D1 := D) (fun hJ28 => ?_) ?_
                      · refine WP_icmp_lt (tgt := 124) dX0_windOn_118 (by decide) (fun c29 => ?_) (fun c29 => ?_)
                        · replace hJ28 := ite_t (P := fun v_ : Int => WP mX0_windOn Q 124 [vR o, vI a, vI b, vI (((D (o + 5) a.toNat) * 25) + b), vI (D (o + 4) ((((D (o + 5) a.toNat) * 25) + b)).toNat), vI v_, vU, vU] [] D) hJ28 c29
                          have o30 := o27.1 c29
                          exact hJ28
                        · replace hJ28 := ite_f (P := fun v_ : Int => WP mX0_windOn Q 124 [vR o, vI a, vI b, vI (((D (o + 5) a.toNat) * 25) + b), vI (D (o + 4) ((((D (o + 5) a.toNat) * 25) + b)).toNat), vI v_, vU, vU] [] D) hJ28 c29
                          have o31 := o27.2 c29
                          refine WP_iinc (z := ((if ((D (o + 4) ((((D (o + 5) a.toNat) * 25) + b)).toNat) % 4) = 1 then (((D (o + 6) a.toNat) / 2) : Int) else (D (o + 6) a.toNat)) + 3)) (ls1 := [vR o, vI a, vI b, vI (((D (o + 5) a.toNat) * 25) + b), vI (D (o + 4) ((((D (o + 5) a.toNat) * 25) + b)).toNat), vI ((if ((D (o + 4) ((((D (o + 5) a.toNat) * 25) + b)).toNat) % 4) = 1 then (((D (o + 6) a.toNat) / 2) : Int) else (D (o + 6) a.toNat)) + 3), vU, vU]) dX0_windOn_121 rfl (w32_id o31) (by decide) rfl ?_
                          exact hJ28
                      exact hJ24
                  · refine WP_aload_n (z := o) dX0_windOn_124 rfl ?_
                    refine WP_getR (z := (o + 1)) dX0_windOn_125 fl_RX0_12 (kcC_0 ho) rfl (srC_0_0 ho) ?_
                    refine WP_getR (z := (o + 3)) dX0_windOn_128 fl_RX0_112 (kcC_1 ho) rfl (srC_1_5 ho) ?_
                    refine WP_iload_n (z := (((D (o + 5) a.toNat) * 25) + b)) dX0_windOn_131 rfl ?_
                    obtain ⟨o23, h⟩ := h
                    refine WP_iald dX0_windOn_132 (kcC_3 ho) o23.1 o23.2 rfl ?_
                    refine WP_istore (ls1 := [vR o, vI a, vI b, vI (((D (o + 5) a.toNat) * 25) + b), vI (D (o + 4) ((((D (o + 5) a.toNat) * 25) + b)).toNat), vI (if (if ((D (o + 4) ((((D (o + 5) a.toNat) * 25) + b)).toNat) % 4) = 1 then (((D (o + 6) a.toNat) / 2) : Int) else (D (o + 6) a.toNat)) = 0 then ((if ((D (o + 4) ((((D (o + 5) a.toNat) * 25) + b)).toNat) % 4) = 1 then (((D (o + 6) a.toNat) / 2) : Int) else (D (o + 6) a.toNat)) : Int) else (if (D (o + 4) ((((D (o + 5) a.toNat) * 25) + b)).toNat) < 4 then ((if ((D (o + 4) ((((D (o + 5) a.toNat) * 25) + b)).toNat) % 4) = 1 then (((D (o + 6) a.toNat) / 2) : Int) else (D (o + 6) a.toNat)) : Int) else ((if ((D (o + 4) ((((D (o + 5) a.toNat) * 25) + b)).toNat) % 4) = 1 then (((D (o + 6) a.toNat) / 2) : Int) else (D (o + 6) a.toNat)) + 3))), vI (D (o + 3) ((((D (o + 5) a.toNat) * 25) + b)).toNat), vU]) dX0_windOn_133 (by decide) rfl ?_
                    refine WP_iload (z := (D (o + 3) ((((D (o + 5) a.toNat) * 25) + b)).toNat)) dX0_windOn_135 rfl ?_
                    obtain ⟨o10, h⟩ := h
                    refine WP_via (pc1 := 171) (ls1 := [vR o, vI a, vI b, vI (((D (o + 5) a.toNat) * 25) + b), vI (D (o + 4) ((((D (o + 5) a.toNat) * 25) + b)).toNat), vI (if (if ((D (o + 4) ((((D (o + 5) a.toNat) * 25) + b)).toNat) % 4) = 1 then (((D (o + 6) a.toNat) / 2) : Int) else (D (o + 6) a.toNat)) = 0 then ((if ((D (o + 4) ((((D (o + 5) a.toNat) * 25) + b)).toNat) % 4) = 1 then (((D (o + 6) a.toNat) / 2) : Int) else (D (o + 6) a.toNat)) : Int) else (if (D (o + 4) ((((D (o + 5) a.toNat) * 25) + b)).toNat) < 4 then ((if ((D (o + 4) ((((D (o + 5) a.toNat) * 25) + b)).toNat) % 4) = 1 then (((D (o + 6) a.toNat) / 2) : Int) else (D (o + 6) a.toNat)) : Int) else ((if ((D (o + 4) ((((D (o + 5) a.toNat) * 25) + b)).toNat) % 4) = 1 then (((D (o + 6) a.toNat) / 2) : Int) else (D (o + 6) a.toNat)) + 3))), vI (D (o + 3) ((((D (o + 5) a.toNat) * 25) + b)).toNat), vU]) (st1 := [vI (if (D (o + 3) ((((D (o + 5) a.toNat) * 25) + b)).toNat) < 0 then (0 : Int) else (if 25 ≤ (D (o + 3) ((((D (o + 5) a.toNat) * 25) + b)).toNat) then (0 : Int) else (if (b_iand (D (o + 10) ((D (o + 3) ((((D (o + 5) a.toNat) * 25) + b)).toNat)).toNat) (b_ixor (D (o + 11) a.toNat) (-1))) = 0 then (0 : Int) else 1)))]) (D1 := D) (fun hJ13 => ?_) ?_
                    · refine WP_if_lt (tgt := 170) dX0_windOn_137 (by decide) (fun c14 => ?_) (fun c14 => ?_)
                      · replace hJ13 := ite_t (P := fun v_ : Int => WP mX0_windOn Q 171 [vR o, vI a, vI b, vI (((D (o + 5) a.toNat) * 25) + b), vI (D (o + 4) ((((D (o + 5) a.toNat) * 25) + b)).toNat), vI (if (if ((D (o + 4) ((((D (o + 5) a.toNat) * 25) + b)).toNat) % 4) = 1 then (((D (o + 6) a.toNat) / 2) : Int) else (D (o + 6) a.toNat)) = 0 then ((if ((D (o + 4) ((((D (o + 5) a.toNat) * 25) + b)).toNat) % 4) = 1 then (((D (o + 6) a.toNat) / 2) : Int) else (D (o + 6) a.toNat)) : Int) else (if (D (o + 4) ((((D (o + 5) a.toNat) * 25) + b)).toNat) < 4 then ((if ((D (o + 4) ((((D (o + 5) a.toNat) * 25) + b)).toNat) % 4) = 1 then (((D (o + 6) a.toNat) / 2) : Int) else (D (o + 6) a.toNat)) : Int) else ((if ((D (o + 4) ((((D (o + 5) a.toNat) * 25) + b)).toNat) % 4) = 1 then (((D (o + 6) a.toNat) / 2) : Int) else (D (o + 6) a.toNat)) + 3))), vI (D (o + 3) ((((D (o + 5) a.toNat) * 25) + b)).toNat), vU] [vI v_] D) hJ13 c14
                        have o15 := o10.1 c14
                        refine WP_iconst (z := 0) dX0_windOn_170 rfl ⟨by decide, by decide⟩ ?_
                        exact hJ13
                      · replace hJ13 := ite_f (P := fun v_ : Int => WP mX0_windOn Q 171 [vR o, vI a, vI b, vI (((D (o + 5) a.toNat) * 25) + b), vI (D (o + 4) ((((D (o + 5) a.toNat) * 25) + b)).toNat), vI (if (if ((D (o + 4) ((((D (o + 5) a.toNat) * 25) + b)).toNat) % 4) = 1 then (((D (o + 6) a.toNat) / 2) : Int) else (D (o + 6) a.toNat)) = 0 then ((if ((D (o + 4) ((((D (o + 5) a.toNat) * 25) + b)).toNat) % 4) = 1 then (((D (o + 6) a.toNat) / 2) : Int) else (D (o + 6) a.toNat)) : Int) else (if (D (o + 4) ((((D (o + 5) a.toNat) * 25) + b)).toNat) < 4 then ((if ((D (o + 4) ((((D (o + 5) a.toNat) * 25) + b)).toNat) % 4) = 1 then (((D (o + 6) a.toNat) / 2) : Int) else (D (o + 6) a.toNat)) : Int) else ((if ((D (o + 4) ((((D (o + 5) a.toNat) * 25) + b)).toNat) % 4) = 1 then (((D (o + 6) a.toNat) / 2) : Int) else (D (o + 6) a.toNat)) + 3))), vI (D (o + 3) ((((D (o + 5) a.toNat) * 25) + b)).toNat), vU] [vI v_] D) hJ13 c14
                        have o16 := o10.2 c14
                        refine WP_iload (z := (D (o + 3) ((((D (o + 5) a.toNat) * 25) + b)).toNat)) dX0_windOn_140 rfl ?_
                        refine WP_bipush (z := 25) dX0_windOn_142 rfl (by decide) ?_
                        refine WP_via (pc1 := 171) (ls1 := [vR o, vI a, vI b, vI (((D (o + 5) a.toNat) * 25) + b), vI (D (o + 4) ((((D (o + 5) a.toNat) * 25) + b)).toNat), vI (if (if ((D (o + 4) ((((D (o + 5) a.toNat) * 25) + b)).toNat) % 4) = 1 then (((D (o + 6) a.toNat) / 2) : Int) else (D (o + 6) a.toNat)) = 0 then ((if ((D (o + 4) ((((D (o + 5) a.toNat) * 25) + b)).toNat) % 4) = 1 then (((D (o + 6) a.toNat) / 2) : Int) else (D (o + 6) a.toNat)) : Int) else (if (D (o + 4) ((((D (o + 5) a.toNat) * 25) + b)).toNat) < 4 then ((if ((D (o + 4) ((((D (o + 5) a.toNat) * 25) + b)).toNat) % 4) = 1 then (((D (o + 6) a.toNat) / 2) : Int) else (D (o + 6) a.toNat)) : Int) else ((if ((D (o + 4) ((((D (o + 5) a.toNat) * 25) + b)).toNat) % 4) = 1 then (((D (o + 6) a.toNat) / 2) : Int) else (D (o + 6) a.toNat)) + 3))), vI (D (o + 3) ((((D (o + 5) a.toNat) * 25) + b)).toNat), vU]) (st1 := [vI (if 25 ≤ (D (o + 3) ((((D (o + 5) a.toNat) * 25) + b)).toNat) then (0 : Int) else (if (b_iand (D (o + 10) ((D (o + 3) ((((D (o + 5) a.toNat) * 25) + b)).toNat)).toNat) (b_ixor (D (o + 11) a.toNat) (-1))) = 0 then (0 : Int) else 1))]) (D1 := D) (fun hJ17 => ?_) ?_
                        · refine WP_icmp_ge (tgt := 170) dX0_windOn_144 (by decide) (fun c18 => ?_) (fun c18 => ?_)
                          · replace hJ17 := ite_t (P := fun v_ : Int => WP mX0_windOn Q 171 [vR o, vI a, vI b, vI (((D (o + 5) a.toNat) * 25) + b), vI (D (o + 4) ((((D (o + 5) a.toNat) * 25) + b)).toNat), vI (if (if ((D (o + 4) ((((D (o + 5) a.toNat) * 25) + b)).toNat) % 4) = 1 then (((D (o + 6) a.toNat) / 2) : Int) else (D (o + 6) a.toNat)) = 0 then ((if ((D (o + 4) ((((D (o + 5) a.toNat) * 25) + b)).toNat) % 4) = 1 then (((D (o + 6) a.toNat) / 2) : Int) else (D (o + 6) a.toNat)) : Int) else (if (D (o + 4) ((((D (o + 5) a.toNat) * 25) + b)).toNat) < 4 then ((if ((D (o + 4) ((((D (o + 5) a.toNat) * 25) + b)).toNat) % 4) = 1 then (((D (o + 6) a.toNat) / 2) : Int) else (D (o + 6) a.toNat)) : Int) else ((if ((D (o + 4) ((((D (o + 5) a.toNat) * 25) + b)).toNat) % 4) = 1 then (((D (o + 6) a.toNat) / 2) : Int) else (D (o + 6) a.toNat)) + 3))), vI (D (o + 3) ((((D (o + 5) a.toNat) * 25) + b)).toNat), vU] [vI v_] D) hJ17 c18
                            have o19 := o16.1 c18
                            refine WP_iconst (z := 0) dX0_windOn_170 rfl ⟨by decide, by decide⟩ ?_
                            exact hJ17
                          · replace hJ17 := ite_f (P := fun v_ : Int => WP mX0_windOn Q 171 [vR o, vI a, vI b, vI (((D (o + 5) a.toNat) * 25) + b), vI (D (o + 4) ((((D (o + 5) a.toNat) * 25) + b)).toNat), vI (if (if ((D (o + 4) ((((D (o + 5) a.toNat) * 25) + b)).toNat) % 4) = 1 then (((D (o + 6) a.toNat) / 2) : Int) else (D (o + 6) a.toNat)) = 0 then ((if ((D (o + 4) ((((D (o + 5) a.toNat) * 25) + b)).toNat) % 4) = 1 then (((D (o + 6) a.toNat) / 2) : Int) else (D (o + 6) a.toNat)) : Int) else (if (D (o + 4) ((((D (o + 5) a.toNat) * 25) + b)).toNat) < 4 then ((if ((D (o + 4) ((((D (o + 5) a.toNat) * 25) + b)).toNat) % 4) = 1 then (((D (o + 6) a.toNat) / 2) : Int) else (D (o + 6) a.toNat)) : Int) else ((if ((D (o + 4) ((((D (o + 5) a.toNat) * 25) + b)).toNat) % 4) = 1 then (((D (o + 6) a.toNat) / 2) : Int) else (D (o + 6) a.toNat)) + 3))), vI (D (o + 3) ((((D (o + 5) a.toNat) * 25) + b)).toNat), vU] [vI v_] D) hJ17 c18
                            have o20 := o16.2 c18
                            refine WP_aload_n (z := o) dX0_windOn_147 rfl ?_
                            refine WP_getR (z := (o + 10)) dX0_windOn_148 fl_RX0_22 (kcC_0 ho) rfl (srC_0_2 ho) ?_
                            refine WP_iload (z := (D (o + 3) ((((D (o + 5) a.toNat) * 25) + b)).toNat)) dX0_windOn_151 rfl ?_
                            refine WP_iald dX0_windOn_153 (kcC_10 ho) o20.1.1 o20.1.2 rfl ?_
                            refine WP_aload_n (z := o) dX0_windOn_154 rfl ?_
                            refine WP_getR (z := (o + 11)) dX0_windOn_155 fl_RX0_26 (kcC_0 ho) rfl (srC_0_3 ho) ?_
                            refine WP_iload_n (z := a) dX0_windOn_158 rfl ?_
                            refine WP_iald dX0_windOn_159 (kcC_11 ho) o20.2.1 o20.2.2 rfl ?_
                            refine WP_iconst (z := (-1)) dX0_windOn_160 rfl ⟨by decide, by decide⟩ ?_
                            refine WP_ixor dX0_windOn_161 rfl ?_
                            refine WP_iand dX0_windOn_162 rfl ?_
                            refine WP_via (pc1 := 171) (ls1 := [vR o, vI a, vI b, vI (((D (o + 5) a.toNat) * 25) + b), vI (D (o + 4) ((((D (o + 5) a.toNat) * 25) + b)).toNat), vI (if (if ((D (o + 4) ((((D (o + 5) a.toNat) * 25) + b)).toNat) % 4) = 1 then (((D (o + 6) a.toNat) / 2) : Int) else (D (o + 6) a.toNat)) = 0 then ((if ((D (o + 4) ((((D (o + 5) a.toNat) * 25) + b)).toNat) % 4) = 1 then (((D (o + 6) a.toNat) / 2) : Int) else (D (o + 6) a.toNat)) : Int) else (if (D (o + 4) ((((D (o + 5) a.toNat) * 25) + b)).toNat) < 4 then ((if ((D (o + 4) ((((D (o + 5) a.toNat) * 25) + b)).toNat) % 4) = 1 then (((D (o + 6) a.toNat) / 2) : Int) else (D (o + 6) a.toNat)) : Int) else ((if ((D (o + 4) ((((D (o + 5) a.toNat) * 25) + b)).toNat) % 4) = 1 then (((D (o + 6) a.toNat) / 2) : Int) else (D (o + 6) a.toNat)) + 3))), vI (D (o + 3) ((((D (o + 5) a.toNat) * 25) + b)).toNat), vU]) (st1 := [vI (if (b_iand (D (o + 10) ((D (o + 3) ((((D (o + 5) a.toNat) * 25) + b)).toNat)).toNat) (b_ixor (D (o + 11) a.toNat) (-1))) = 0 then (0 : Int) else 1)]) (D1 := D) (fun hJ21 => ?_) ?_
                            · refine WP_if_eq (tgt := 170) dX0_windOn_163 (by decide) (fun c22 => ?_) (fun c22 => ?_)
                              · replace hJ21 := ite_t (P := fun v_ : Int => WP mX0_windOn Q 171 [vR o, vI a, vI b, vI (((D (o + 5) a.toNat) * 25) + b), vI (D (o + 4) ((((D (o + 5) a.toNat) * 25) + b)).toNat), vI (if (if ((D (o + 4) ((((D (o + 5) a.toNat) * 25) + b)).toNat) % 4) = 1 then (((D (o + 6) a.toNat) / 2) : Int) else (D (o + 6) a.toNat)) = 0 then ((if ((D (o + 4) ((((D (o + 5) a.toNat) * 25) + b)).toNat) % 4) = 1 then (((D (o + 6) a.toNat) / 2) : Int) else (D (o + 6) a.toNat)) : Int) else (if (D (o + 4) ((((D (o + 5) a.toNat) * 25) + b)).toNat) < 4 then ((if ((D (o + 4) ((((D (o + 5) a.toNat) * 25) + b)).toNat) % 4) = 1 then (((D (o + 6) a.toNat) / 2) : Int) else (D (o + 6) a.toNat)) : Int) else ((if ((D (o + 4) ((((D (o + 5) a.toNat) * 25) + b)).toNat) % 4) = 1 then (((D (o + 6) a.toNat) / 2) : Int) else (D (o + 6) a.toNat)) + 3))), vI (D (o + 3) ((((D (o + 5) a.toNat) * 25) + b)).toNat), vU] [vI v_] D) hJ21 c22
                                refine WP_iconst (z := 0) dX0_windOn_170 rfl ⟨by decide, by decide⟩ ?_
                                exact hJ21
                              · replace hJ21 := ite_f (P := fun v_ : Int => WP mX0_windOn Q 171 [vR o, vI a, vI b, vI (((D (o + 5) a.toNat) * 25) + b), vI (D (o + 4) ((((D (o + 5) a.toNat) * 25) + b)).toNat), vI (if (if ((D (o + 4) ((((D (o + 5) a.toNat) * 25) + b)).toNat) % 4) = 1 then (((D (o + 6) a.toNat) / 2) : Int) else (D (o + 6) a.toNat)) = 0 then ((if ((D (o + 4) ((((D (o + 5) a.toNat) * 25) + b)).toNat) % 4) = 1 then (((D (o + 6) a.toNat) / 2) : Int) else (D (o + 6) a.toNat)) : Int) else (if (D (o + 4) ((((D (o + 5) a.toNat) * 25) + b)).toNat) < 4 then ((if ((D (o + 4) ((((D (o + 5) a.toNat) * 25) + b)).toNat) % 4) = 1 then (((D (o + 6) a.toNat) / 2) : Int) else (D (o + 6) a.toNat)) : Int) else ((if ((D (o + 4) ((((D (o + 5) a.toNat) * 25) + b)).toNat) % 4) = 1 then (((D (o + 6) a.toNat) / 2) : Int) else (D (o + 6) a.toNat)) + 3))), vI (D (o + 3) ((((D (o + 5) a.toNat) * 25) + b)).toNat), vU] [vI v_] D) hJ21 c22
                                refine WP_iconst (z := 1) dX0_windOn_166 rfl ⟨by decide, by decide⟩ ?_
                                refine WP_goto (tgt := 171) dX0_windOn_167 (by decide) ?_
                                exact hJ21
                            exact hJ17
                        exact hJ13
                    · refine WP_istore (ls1 := [vR o, vI a, vI b, vI (((D (o + 5) a.toNat) * 25) + b), vI (D (o + 4) ((((D (o + 5) a.toNat) * 25) + b)).toNat), vI (if (if ((D (o + 4) ((((D (o + 5) a.toNat) * 25) + b)).toNat) % 4) = 1 then (((D (o + 6) a.toNat) / 2) : Int) else (D (o + 6) a.toNat)) = 0 then ((if ((D (o + 4) ((((D (o + 5) a.toNat) * 25) + b)).toNat) % 4) = 1 then (((D (o + 6) a.toNat) / 2) : Int) else (D (o + 6) a.toNat)) : Int) else (if (D (o + 4) ((((D (o + 5) a.toNat) * 25) + b)).toNat) < 4 then ((if ((D (o + 4) ((((D (o + 5) a.toNat) * 25) + b)).toNat) % 4) = 1 then (((D (o + 6) a.toNat) / 2) : Int) else (D (o + 6) a.toNat)) : Int) else ((if ((D (o + 4) ((((D (o + 5) a.toNat) * 25) + b)).toNat) % 4) = 1 then (((D (o + 6) a.toNat) / 2) : Int) else (D (o + 6) a.toNat)) + 3))), vI (D (o + 3) ((((D (o + 5) a.toNat) * 25) + b)).toNat), vI (if (D (o + 3) ((((D (o + 5) a.toNat) * 25) + b)).toNat) < 0 then (0 : Int) else (if 25 ≤ (D (o + 3) ((((D (o + 5) a.toNat) * 25) + b)).toNat) then (0 : Int) else (if (b_iand (D (o + 10) ((D (o + 3) ((((D (o + 5) a.toNat) * 25) + b)).toNat)).toNat) (b_ixor (D (o + 11) a.toNat) (-1))) = 0 then (0 : Int) else 1)))]) dX0_windOn_171 (by decide) rfl ?_
                      refine WP_iload (z := (if (D (o + 3) ((((D (o + 5) a.toNat) * 25) + b)).toNat) < 0 then (0 : Int) else (if 25 ≤ (D (o + 3) ((((D (o + 5) a.toNat) * 25) + b)).toNat) then (0 : Int) else (if (b_iand (D (o + 10) ((D (o + 3) ((((D (o + 5) a.toNat) * 25) + b)).toNat)).toNat) (b_ixor (D (o + 11) a.toNat) (-1))) = 0 then (0 : Int) else 1)))) dX0_windOn_173 rfl ?_
                      refine WP_if_eq (tgt := 185) dX0_windOn_175 (by decide) (fun c11 => ?_) (fun c11 => ?_)
                      · replace h := h.1 c11
                        refine WP_iload (z := (if (if ((D (o + 4) ((((D (o + 5) a.toNat) * 25) + b)).toNat) % 4) = 1 then (((D (o + 6) a.toNat) / 2) : Int) else (D (o + 6) a.toNat)) = 0 then ((if ((D (o + 4) ((((D (o + 5) a.toNat) * 25) + b)).toNat) % 4) = 1 then (((D (o + 6) a.toNat) / 2) : Int) else (D (o + 6) a.toNat)) : Int) else (if (D (o + 4) ((((D (o + 5) a.toNat) * 25) + b)).toNat) < 4 then ((if ((D (o + 4) ((((D (o + 5) a.toNat) * 25) + b)).toNat) % 4) = 1 then (((D (o + 6) a.toNat) / 2) : Int) else (D (o + 6) a.toNat)) : Int) else ((if ((D (o + 4) ((((D (o + 5) a.toNat) * 25) + b)).toNat) % 4) = 1 then (((D (o + 6) a.toNat) / 2) : Int) else (D (o + 6) a.toNat)) + 3)))) dX0_windOn_185 rfl ?_
                        exact WP_ireturn dX0_windOn_187 rfl h
                      · replace h := h.2 c11
                        refine WP_iload (z := (if (if ((D (o + 4) ((((D (o + 5) a.toNat) * 25) + b)).toNat) % 4) = 1 then (((D (o + 6) a.toNat) / 2) : Int) else (D (o + 6) a.toNat)) = 0 then ((if ((D (o + 4) ((((D (o + 5) a.toNat) * 25) + b)).toNat) % 4) = 1 then (((D (o + 6) a.toNat) / 2) : Int) else (D (o + 6) a.toNat)) : Int) else (if (D (o + 4) ((((D (o + 5) a.toNat) * 25) + b)).toNat) < 4 then ((if ((D (o + 4) ((((D (o + 5) a.toNat) * 25) + b)).toNat) % 4) = 1 then (((D (o + 6) a.toNat) / 2) : Int) else (D (o + 6) a.toNat)) : Int) else ((if ((D (o + 4) ((((D (o + 5) a.toNat) * 25) + b)).toNat) % 4) = 1 then (((D (o + 6) a.toNat) / 2) : Int) else (D (o + 6) a.toNat)) + 3)))) dX0_windOn_178 rfl ?_
                        refine WP_iconst (z := 2) dX0_windOn_180 rfl ⟨by decide, by decide⟩ ?_
                        obtain ⟨o12, h⟩ := h
                        refine WP_idiv dX0_windOn_181 o12 (by decide) rfl ?_
                        refine WP_goto (tgt := 187) dX0_windOn_182 (by decide) ?_
                        exact WP_ireturn dX0_windOn_187 rfl h
              · replace h := h.1 c7
                refine WP_iconst (z := 0) dX0_windOn_64 rfl ⟨by decide, by decide⟩ ?_
                exact WP_ireturn dX0_windOn_65 rfl h
        · replace h := h.2 c4
          refine WP_iconst (z := 0) dX0_windOn_25 rfl ⟨by decide, by decide⟩ ?_
          exact WP_ireturn dX0_windOn_26 rfl h
set_option maxRecDepth 100000 in
set_option maxHeartbeats 4000000 in
theorem P_X0_windOn {o : Nat} (ho : o = 9 ∨ o = 25) {a : Int} {b : Int} {D : HP} (hob : oX0_windOn D o a b) : CT mX0_windOn [vR o, vI a, vI b] D (PF (vI (fX0_windOn D o a b)) D) := by
  refine V_X0_windOn ho a b (fun hcD hc_0 hc_1 => ?_)
  obtain ⟨z, hz⟩ : ∃ z, z = fX0_windOn D o a b := ⟨_, rfl⟩
  rw [← hz]
  unfold fX0_windOn at hz
  unfold oX0_windOn at hob
  refine ⟨fun k8 => ?_, fun k8 => ?_⟩
  · replace hob := hob.1 k8
    replace hz := hz.trans (if_pos k8)
    exact ⟨by rw [hz], rfl⟩
  · replace hob := hob.2 k8
    replace hz := hz.trans (if_neg k8)
    refine ⟨fun k7 => ?_, fun k7 => ?_⟩
    · replace hob := hob.1 k7
      replace hz := hz.trans (if_pos k7)
      exact ⟨by rw [hz], rfl⟩
    · replace hob := hob.2 k7
      replace hz := hz.trans (if_neg k7)
      refine ⟨fun k6 => ?_, fun k6 => ?_⟩
      · replace hob := hob.1 k6
        replace hz := hz.trans (if_pos k6)
        exact ⟨by rw [hz], rfl⟩
      · replace hob := hob.2 k6
        replace hz := hz.trans (if_neg k6)
        refine ⟨fun k5 => ?_, fun k5 => ?_⟩
        · replace hob := hob.1 k5
          replace hz := hz.trans (if_pos k5)
          refine ⟨hob.1, ?_⟩
          replace hob := hob.2
          refine ⟨hob.1, ?_⟩
          replace hob := hob.2
          refine ⟨hob.1, ?_⟩
          replace hob := hob.2
          refine ⟨fun k4 => ?_, fun k4 => ?_⟩
          · replace hob := hob.1 k4
            replace hz := hz.trans (if_pos k4)
            exact ⟨by rw [hz], rfl⟩
          · replace hob := hob.2 k4
            replace hz := hz.trans (if_neg k4)
            refine ⟨fun k3 => ?_, fun k3 => ?_⟩
            · replace hob := hob.1 k3
              replace hz := hz.trans (if_pos k3)
              exact ⟨by rw [hz], rfl⟩
            · replace hob := hob.2 k3
              replace hz := hz.trans (if_neg k3)
              refine ⟨hob.1, ?_⟩
              replace hob := hob.2
              refine ⟨fun k2 => ?_, fun k2 => ?_⟩
              · replace hob := hob.1 k2
                replace hz := hz.trans (if_pos k2)
                exact ⟨by rw [hz], rfl⟩
              · replace hob := hob.2 k2
                replace hz := hz.trans (if_neg k2)
                refine ⟨hob.1, ?_⟩
                replace hob := hob.2
                refine ⟨hob.1, ?_⟩
                replace hob := hob.2
                refine ⟨hob.1, ?_⟩
                replace hob := hob.2
                refine ⟨hob.1, ?_⟩
                replace hob := hob.2
                refine ⟨hob.1, ?_⟩
                replace hob := hob.2
                refine ⟨hob.1, ?_⟩
                replace hob := hob.2
                refine ⟨fun k1 => ?_, fun k1 => ?_⟩
                · replace hob := hob.1 k1
                  replace hz := hz.trans (if_pos k1)
                  exact ⟨by rw [hz], rfl⟩
                · replace hob := hob.2 k1
                  replace hz := hz.trans (if_neg k1)
                  refine ⟨hob.1, ?_⟩
                  replace hob := hob.2
                  exact ⟨by rw [hz], rfl⟩
        · replace hob := hob.2 k5
          replace hz := hz.trans (if_neg k5)
          exact ⟨by rw [hz], rfl⟩
def fX0_strainOf (D : HP) (a : Int) (b : Int) : Int := (if b = 0 then ((a / 2) : Int) else (if b = 2 then ((2 * a) : Int) else a))
def oX0_strainOf (D : HP) (a : Int) (b : Int) : Prop := ((b = 0 → ((0 ≤ a) ∧ True)) ∧ (¬ (b = 0) → ((((b = 2) → (c32 (2 * a))) ∧ (¬ (b = 2) → True)) ∧ True)))
set_option maxRecDepth 100000 in
set_option maxHeartbeats 4000000 in
theorem V_X0_strainOf (a : Int) (b : Int) {D : HP} {Q : Option MV → HP → Prop}
    (h0 : cD D → c32 a → c32 b → ((b = 0 → ((0 ≤ a) ∧ (Q (some (vI (a / 2))) D))) ∧ (¬ (b = 0) → ((((b = 2) → (c32 (2 * a))) ∧ (¬ (b = 2) → True)) ∧ (Q (some (vI (if b = 2 then ((2 * a) : Int) else a))) D)))))
    : CT mX0_strainOf [vI a, vI b] D Q := by
  refine CT.of 0 (by decide) (Nat.le_of_ble_eq_true rfl) ?_
  show WP mX0_strainOf Q 0 [vI a, vI b] [] D
  refine WP_cD (fun hcD => ?_)
  refine WP_cl (fun hcl => ?_)
  have h := h0 hcD (cVs_g hcl (i := 0) (v := vI a) rfl) (cVs_g hcl (i := 1) (v := vI b) rfl)
  refine WP_iload_n (z := b) dX0_strainOf_0 rfl ?_
  refine WP_if_ne (tgt := 8) dX0_strainOf_1 (by decide) (fun c1 => ?_) (fun c1 => ?_)
  · replace h := h.2 c1
    refine WP_iload_n (z := b) dX0_strainOf_8 rfl ?_
    refine WP_iconst (z := 2) dX0_strainOf_9 rfl ⟨by decide, by decide⟩ ?_
    obtain ⟨o3, h⟩ := h
    refine WP_via (pc1 := 20) (ls1 := [vI a, vI b]) (st1 := [vI (if b = 2 then ((2 * a) : Int) else a)]) (D1 := D) (fun hJ4 => ?_) ?_
    · refine WP_icmp_ne (tgt := 19) dX0_strainOf_10 (by decide) (fun c5 => ?_) (fun c5 => ?_)
      · replace hJ4 := ite_f (P := fun v_ : Int => WP mX0_strainOf Q 20 [vI a, vI b] [vI v_] D) hJ4 c5
        have o7 := o3.2 c5
        refine WP_iload_n (z := a) dX0_strainOf_19 rfl ?_
        exact hJ4
      · replace hJ4 := ite_t (P := fun v_ : Int => WP mX0_strainOf Q 20 [vI a, vI b] [vI v_] D) hJ4 c5
        have o6 := o3.1 c5
        refine WP_iconst (z := 2) dX0_strainOf_13 rfl ⟨by decide, by decide⟩ ?_
        refine WP_iload_n (z := a) dX0_strainOf_14 rfl ?_
        refine WP_imul (z := (2 * a)) dX0_strainOf_15 (w32_id o6) ?_
        refine WP_goto (tgt := 20) dX0_strainOf_16 (by decide) ?_
        exact hJ4
    · exact WP_ireturn dX0_strainOf_20 rfl h
  · replace h := h.1 c1
    refine WP_iload_n (z := a) dX0_strainOf_4 rfl ?_
    refine WP_iconst (z := 2) dX0_strainOf_5 rfl ⟨by decide, by decide⟩ ?_
    obtain ⟨o2, h⟩ := h
    refine WP_idiv dX0_strainOf_6 o2 (by decide) rfl ?_
    exact WP_ireturn dX0_strainOf_7 rfl h
set_option maxRecDepth 100000 in
set_option maxHeartbeats 4000000 in
theorem P_X0_strainOf {a : Int} {b : Int} {D : HP} (hob : oX0_strainOf D a b) : CT mX0_strainOf [vI a, vI b] D (PF (vI (fX0_strainOf D a b)) D) := by
  refine V_X0_strainOf a b (fun hcD hc_0 hc_1 => ?_)
  obtain ⟨z, hz⟩ : ∃ z, z = fX0_strainOf D a b := ⟨_, rfl⟩
  rw [← hz]
  unfold fX0_strainOf at hz
  unfold oX0_strainOf at hob
  refine ⟨fun k1 => ?_, fun k1 => ?_⟩
  · replace hob := hob.1 k1
    replace hz := hz.trans (if_pos k1)
    refine ⟨hob.1, ?_⟩
    replace hob := hob.2
    exact ⟨by rw [hz], rfl⟩
  · replace hob := hob.2 k1
    replace hz := hz.trans (if_neg k1)
    refine ⟨hob.1, ?_⟩
    replace hob := hob.2
    exact ⟨by rw [hz], rfl⟩
def fX0_has (D : HP) (a : Int) (b : Int) : Int := (if (b_iand (b_ishr a b) 1) = 1 then (1 : Int) else 0)
theorem bfX0_has (D : HP) (a : Int) (b : Int) : fX0_has D a b = 0 ∨ fX0_has D a b = 1 := by unfold fX0_has; exact (bool_ite (Or.inr rfl) (Or.inl rfl))
def oX0_has (D : HP) (a : Int) (b : Int) : Prop := True
set_option maxRecDepth 100000 in
set_option maxHeartbeats 4000000 in
theorem V_X0_has (a : Int) (b : Int) {D : HP} {Q : Option MV → HP → Prop}
    (h0 : cD D → c32 a → c32 b → (Q (some (vI (if (b_iand (b_ishr a b) 1) = 1 then (1 : Int) else 0))) D))
    : CT mX0_has [vI a, vI b] D Q := by
  refine CT.of 0 (by decide) (Nat.le_of_ble_eq_true rfl) ?_
  show WP mX0_has Q 0 [vI a, vI b] [] D
  refine WP_cD (fun hcD => ?_)
  refine WP_cl (fun hcl => ?_)
  have h := h0 hcD (cVs_g hcl (i := 0) (v := vI a) rfl) (cVs_g hcl (i := 1) (v := vI b) rfl)
  refine WP_iload_n (z := a) dX0_has_0 rfl ?_
  refine WP_iload_n (z := b) dX0_has_1 rfl ?_
  refine WP_ishr dX0_has_2 rfl ?_
  refine WP_iconst (z := 1) dX0_has_3 rfl ⟨by decide, by decide⟩ ?_
  refine WP_iand dX0_has_4 rfl ?_
  refine WP_iconst (z := 1) dX0_has_5 rfl ⟨by decide, by decide⟩ ?_
  refine WP_via (pc1 := 14) (ls1 := [vI a, vI b]) (st1 := [vI (if (b_iand (b_ishr a b) 1) = 1 then (1 : Int) else 0)]) (D1 := D) (fun hJ1 => ?_) ?_
  · refine WP_icmp_ne (tgt := 13) dX0_has_6 (by decide) (fun c2 => ?_) (fun c2 => ?_)
    · replace hJ1 := ite_f (P := fun v_ : Int => WP mX0_has Q 14 [vI a, vI b] [vI v_] D) hJ1 c2
      refine WP_iconst (z := 0) dX0_has_13 rfl ⟨by decide, by decide⟩ ?_
      exact hJ1
    · replace hJ1 := ite_t (P := fun v_ : Int => WP mX0_has Q 14 [vI a, vI b] [vI v_] D) hJ1 c2
      refine WP_iconst (z := 1) dX0_has_9 rfl ⟨by decide, by decide⟩ ?_
      refine WP_goto (tgt := 14) dX0_has_10 (by decide) ?_
      exact hJ1
  · exact WP_zreturn dX0_has_14 rfl (bool_ite (Or.inr rfl) (Or.inl rfl)) h
set_option maxRecDepth 100000 in
set_option maxHeartbeats 4000000 in
theorem P_X0_has {a : Int} {b : Int} {D : HP} (hob : oX0_has D a b) : CT mX0_has [vI a, vI b] D (PF (vI (fX0_has D a b)) D) := by
  refine V_X0_has a b (fun hcD hc_0 hc_1 => ?_)
  obtain ⟨z, hz⟩ : ∃ z, z = fX0_has D a b := ⟨_, rfl⟩
  rw [← hz]
  unfold fX0_has at hz
  exact ⟨by rw [hz], rfl⟩
set_option maxRecDepth 100000 in
set_option maxHeartbeats 4000000 in
theorem V_X0_elect {o : Nat} (ho : o = 9 ∨ o = 25) (a : Int) (b : Int) {D : HP} {Q : Option MV → HP → Prop} (I45 : Int → Int → Int → Int → Int → Int → HP → Prop) (u45 : Int → Int → Int → Int → Int → Int → HP → Nat)
    (h0 : cD D → c32 a → c32 b → ((a < 0 → (Q none D)) ∧ (¬ (a < 0) → ((a < 12 → ((c32 (a + 1)) ∧ ((0 ≤ (a + 1) ∧ (a + 1) < 13) ∧ ((0 ≤ a ∧ a < 13) ∧ (∀ (v3 : Int), v3 = (b_iand (b_iand (D (o + 11) ((a + 1)).toNat) (b_ixor (D (o + 11) a.toNat) (-1))) (b_ixor b (-1))) → ((c32 (a * 8)) ∧ (I45 a b v3 (a * 8) (-1) 0 D))))))) ∧ (¬ (a < 12) → (Q none D))))))
    (h45 : ∀ (x1 x2 x3 x4 x5 x6 : Int) (D : HP), I45 x1 x2 x3 x4 x5 x6 D → cD D → c32 x1 → c32 x2 → c32 x3 → c32 x4 → c32 x5 → c32 x6 → ((8 ≤ x6 → ((0 ≤ x1 ∧ x1 < 12) ∧ (∀ (E10 : HP), E10 = (hu D (o + 13) x1.toNat x2) → ((0 ≤ x1 ∧ x1 < 12) ∧ (∀ (E12 : HP), E12 = (hu E10 (o + 14) x1.toNat x5) → ((((x5 = (-1)) → (((x1 ≤ 0) → True) ∧ (¬ (x1 ≤ 0) → (c32 (x1 - 1)) ∧ (0 ≤ (x1 - 1) ∧ (x1 - 1) < 12)))) ∧ (¬ (x5 = (-1)) → True)) ∧ ((0 ≤ x1 ∧ x1 < 12) ∧ (∀ (E15 : HP), E15 = (hu E12 (o + 15) x1.toNat (if x5 = (-1) then ((if x1 ≤ 0 then (x5 : Int) else (E12 (o + 15) ((x1 - 1)).toNat)) : Int) else x5)) → (Q none E15))))))))) ∧ (¬ (8 ≤ x6) → ((((x5 = (-1)) → True) ∧ (¬ (x5 = (-1)) → (c32 (x4 + x6)) ∧ (0 ≤ (x4 + x6) ∧ (x4 + x6) < 104) ∧ (c32 (x4 + x5)) ∧ (0 ≤ (x4 + x5) ∧ (x4 + x5) < 104))) ∧ (∀ (v29 : Int), v29 = (if x5 = (-1) then (1 : Int) else (if (D (o + 12) ((x4 + x5)).toNat) ≤ (D (o + 12) ((x4 + x6)).toNat) then (0 : Int) else 1)) → ((c32 (x6 + 1)) ∧ (I45 x1 x2 x3 x4 (if (b_iand (b_ishr x3 x6) 1) = 1 then ((if v29 = 0 then (x5 : Int) else x6) : Int) else x5) (x6 + 1) D ∧ u45 x1 x2 x3 x4 (if (b_iand (b_ishr x3 x6) 1) = 1 then ((if v29 = 0 then (x5 : Int) else x6) : Int) else x5) (x6 + 1) D < u45 x1 x2 x3 x4 x5 x6 D)))))))
    : CT mX0_elect [vR o, vI a, vI b] D Q := by
  refine CT.of 5 (by decide) (Nat.le_of_ble_eq_true rfl) ?_
  show WP mX0_elect Q 0 [vR o, vI a, vI b, vU, vU, vU, vU, vU] [] D
  have IH : ∀ n : Nat, (∀ (x1 x2 x3 x4 x5 x6 : Int) (D : HP), I45 x1 x2 x3 x4 x5 x6 D → u45 x1 x2 x3 x4 x5 x6 D * 1 + 0 < n → WP mX0_elect Q 45 [vR o, vI x1, vI x2, vI x3, vI x4, vI x5, vI x6, vU] [] D) := by
    intro n
    induction n with
    | zero => exact fun _ _ _ _ _ _ _ _ h => absurd h (Nat.not_lt_zero _)
    | succ n ih =>
      have ih45_ := ih
      · intro x1 x2 x3 x4 x5 x6 D hI hn
        refine WP_cD (fun hcD => ?_)
        refine WP_cl (fun hcl => ?_)
        have h := h45 x1 x2 x3 x4 x5 x6 D hI hcD (cVs_g hcl (i := 1) (v := vI x1) rfl) (cVs_g hcl (i := 2) (v := vI x2) rfl) (cVs_g hcl (i := 3) (v := vI x3) rfl) (cVs_g hcl (i := 4) (v := vI x4) rfl) (cVs_g hcl (i := 5) (v := vI x5) rfl) (cVs_g hcl (i := 6) (v := vI x6) rfl)
        refine WP_iload (z := x6) dX0_elect_45 rfl ?_
        refine WP_bipush (z := 8) dX0_elect_47 rfl (by decide) ?_
        refine WP_icmp_ge (tgt := 113) dX0_elect_49 (by decide) (fun c9 => ?_) (fun c9 => ?_)
        · replace h := h.1 c9
          refine WP_aload_n (z := o) dX0_elect_113 rfl ?_
          refine WP_getR (z := (o + 13)) dX0_elect_114 fl_RX0_32 (kcC_0 ho) rfl (srC_0_5 ho) ?_
          refine WP_iload_n (z := x1) dX0_elect_117 rfl ?_
          refine WP_iload_n (z := x2) dX0_elect_118 rfl ?_
          obtain ⟨o27, h⟩ := h
          refine WP_iast dX0_elect_119 (kcC_13 ho) o27.1 o27.2 ?_
          obtain ⟨E10, hE11⟩ : ∃ E10 : HP, E10 = (hu D (o + 13) x1.toNat x2) := ⟨_, rfl⟩
          replace h := h E10 hE11
          show WP mX0_elect Q 120 [vR o, vI x1, vI x2, vI x3, vI x4, vI x5, vI x6, vU] [] (hu D (o + 13) x1.toNat x2)
          rw [← hE11]
          refine WP_aload_n (z := o) dX0_elect_120 rfl ?_
          refine WP_getR (z := (o + 14)) dX0_elect_121 fl_RX0_35 (kcC_0 ho) rfl (srC_0_6 ho) ?_
          refine WP_iload_n (z := x1) dX0_elect_124 rfl ?_
          refine WP_iload (z := x5) dX0_elect_125 rfl ?_
          obtain ⟨o26, h⟩ := h
          refine WP_iast dX0_elect_127 (kcC_14 ho) o26.1 o26.2 ?_
          obtain ⟨E12, hE13⟩ : ∃ E12 : HP, E12 = (hu E10 (o + 14) x1.toNat x5) := ⟨_, rfl⟩
          replace h := h E12 hE13
          show WP mX0_elect Q 128 [vR o, vI x1, vI x2, vI x3, vI x4, vI x5, vI x6, vU] [] (hu E10 (o + 14) x1.toNat x5)
          rw [← hE13]
          refine WP_iload (z := x5) dX0_elect_128 rfl ?_
          refine WP_iconst (z := (-1)) dX0_elect_130 rfl ⟨by decide, by decide⟩ ?_
          obtain ⟨o14, h⟩ := h
          refine WP_via (pc1 := 148) (ls1 := [vR o, vI x1, vI x2, vI x3, vI x4, vI (if x5 = (-1) then ((if x1 ≤ 0 then (x5 : Int) else (E12 (o + 15) ((x1 - 1)).toNat)) : Int) else x5), vI x6, vU]) (st1 := []) (D1 := E12) (fun hJ18 => ?_) ?_
          · refine WP_icmp_ne (tgt := 148) dX0_elect_131 (by decide) (fun c19 => ?_) (fun c19 => ?_)
            · replace hJ18 := ite_f (P := fun v_ : Int => WP mX0_elect Q 148 [vR o, vI x1, vI x2, vI x3, vI x4, vI v_, vI x6, vU] [] E12) hJ18 c19
              have o25 := o14.2 c19
              exact hJ18
            · replace hJ18 := ite_t (P := fun v_ : Int => WP mX0_elect Q 148 [vR o, vI x1, vI x2, vI x3, vI x4, vI v_, vI x6, vU] [] E12) hJ18 c19
              have o20 := o14.1 c19
              refine WP_iload_n (z := x1) dX0_elect_134 rfl ?_
              refine WP_via (pc1 := 148) (ls1 := [vR o, vI x1, vI x2, vI x3, vI x4, vI (if x1 ≤ 0 then (x5 : Int) else (E12 (o + 15) ((x1 - 1)).toNat)), vI x6, vU]) (st1 := []) (D1 := E12) (fun hJ21 => ?_) ?_
              · refine WP_if_le (tgt := 148) dX0_elect_135 (by decide) (fun c22 => ?_) (fun c22 => ?_)
                · replace hJ21 := ite_t (P := fun v_ : Int => WP mX0_elect Q 148 [vR o, vI x1, vI x2, vI x3, vI x4, vI v_, vI x6, vU] [] E12) hJ21 c22
                  have o23 := o20.1 c22
                  exact hJ21
                · replace hJ21 := ite_f (P := fun v_ : Int => WP mX0_elect Q 148 [vR o, vI x1, vI x2, vI x3, vI x4, vI v_, vI x6, vU] [] E12) hJ21 c22
                  have o24 := o20.2 c22
                  refine WP_aload_n (z := o) dX0_elect_138 rfl ?_
                  refine WP_getR (z := (o + 15)) dX0_elect_139 fl_RX0_38 (kcC_0 ho) rfl (srC_0_7 ho) ?_
                  refine WP_iload_n (z := x1) dX0_elect_142 rfl ?_
                  refine WP_iconst (z := 1) dX0_elect_143 rfl ⟨by decide, by decide⟩ ?_
                  refine WP_isub (z := (x1 - 1)) dX0_elect_144 (w32_id o24.1) ?_
                  refine WP_iald dX0_elect_145 (kcC_15 ho) o24.2.1 o24.2.2 rfl ?_
                  refine WP_istore (ls1 := [vR o, vI x1, vI x2, vI x3, vI x4, vI (E12 (o + 15) ((x1 - 1)).toNat), vI x6, vU]) dX0_elect_146 (by decide) rfl ?_
                  exact hJ21
              exact hJ18
          · refine WP_aload_n (z := o) dX0_elect_148 rfl ?_
            refine WP_getR (z := (o + 15)) dX0_elect_149 fl_RX0_38 (kcC_0 ho) rfl (srC_0_7 ho) ?_
            refine WP_iload_n (z := x1) dX0_elect_152 rfl ?_
            refine WP_iload (z := (if x5 = (-1) then ((if x1 ≤ 0 then (x5 : Int) else (E12 (o + 15) ((x1 - 1)).toNat)) : Int) else x5)) dX0_elect_153 rfl ?_
            obtain ⟨o17, h⟩ := h
            refine WP_iast dX0_elect_155 (kcC_15 ho) o17.1 o17.2 ?_
            obtain ⟨E15, hE16⟩ : ∃ E15 : HP, E15 = (hu E12 (o + 15) x1.toNat (if x5 = (-1) then ((if x1 ≤ 0 then (x5 : Int) else (E12 (o + 15) ((x1 - 1)).toNat)) : Int) else x5)) := ⟨_, rfl⟩
            replace h := h E15 hE16
            show WP mX0_elect Q 156 [vR o, vI x1, vI x2, vI x3, vI x4, vI (if x5 = (-1) then ((if x1 ≤ 0 then (x5 : Int) else (E12 (o + 15) ((x1 - 1)).toNat)) : Int) else x5), vI x6, vU] [] (hu E12 (o + 15) x1.toNat (if x5 = (-1) then ((if x1 ≤ 0 then (x5 : Int) else (E12 (o + 15) ((x1 - 1)).toNat)) : Int) else x5))
            rw [← hE16]
            exact WP_return dX0_elect_156 rfl h
        · replace h := h.2 c9
          refine WP_iload (z := x5) dX0_elect_52 rfl ?_
          refine WP_iconst (z := (-1)) dX0_elect_54 rfl ⟨by decide, by decide⟩ ?_
          obtain ⟨o28, h⟩ := h
          refine WP_via (pc1 := 86) (ls1 := [vR o, vI x1, vI x2, vI x3, vI x4, vI x5, vI x6, vU]) (st1 := [vI (if x5 = (-1) then (1 : Int) else (if (D (o + 12) ((x4 + x5)).toNat) ≤ (D (o + 12) ((x4 + x6)).toNat) then (0 : Int) else 1))]) (D1 := D) (fun hJ36 => ?_) ?_
          · refine WP_icmp_eq (tgt := 81) dX0_elect_55 (by decide) (fun c37 => ?_) (fun c37 => ?_)
            · replace hJ36 := ite_t (P := fun v_ : Int => WP mX0_elect Q 86 [vR o, vI x1, vI x2, vI x3, vI x4, vI x5, vI x6, vU] [vI v_] D) hJ36 c37
              have o38 := o28.1 c37
              refine WP_iconst (z := 1) dX0_elect_81 rfl ⟨by decide, by decide⟩ ?_
              refine WP_goto (tgt := 86) dX0_elect_82 (by decide) ?_
              exact hJ36
            · replace hJ36 := ite_f (P := fun v_ : Int => WP mX0_elect Q 86 [vR o, vI x1, vI x2, vI x3, vI x4, vI x5, vI x6, vU] [vI v_] D) hJ36 c37
              have o39 := o28.2 c37
              refine WP_aload_n (z := o) dX0_elect_58 rfl ?_
              refine WP_getR (z := (o + 12)) dX0_elect_59 fl_RX0_29 (kcC_0 ho) rfl (srC_0_4 ho) ?_
              refine WP_iload (z := x4) dX0_elect_62 rfl ?_
              refine WP_iload (z := x6) dX0_elect_64 rfl ?_
              refine WP_iadd (z := (x4 + x6)) dX0_elect_66 (w32_id o39.1) ?_
              refine WP_iald dX0_elect_67 (kcC_12 ho) o39.2.1.1 o39.2.1.2 rfl ?_
              refine WP_aload_n (z := o) dX0_elect_68 rfl ?_
              refine WP_getR (z := (o + 12)) dX0_elect_69 fl_RX0_29 (kcC_0 ho) rfl (srC_0_4 ho) ?_
              refine WP_iload (z := x4) dX0_elect_72 rfl ?_
              refine WP_iload (z := x5) dX0_elect_74 rfl ?_
              refine WP_iadd (z := (x4 + x5)) dX0_elect_76 (w32_id o39.2.2.1) ?_
              refine WP_iald dX0_elect_77 (kcC_12 ho) o39.2.2.2.1 o39.2.2.2.2 rfl ?_
              refine WP_via (pc1 := 86) (ls1 := [vR o, vI x1, vI x2, vI x3, vI x4, vI x5, vI x6, vU]) (st1 := [vI (if (D (o + 12) ((x4 + x5)).toNat) ≤ (D (o + 12) ((x4 + x6)).toNat) then (0 : Int) else 1)]) (D1 := D) (fun hJ40 => ?_) ?_
              · refine WP_icmp_ge (tgt := 85) dX0_elect_78 (by decide) (fun c41 => ?_) (fun c41 => ?_)
                · replace hJ40 := ite_t (P := fun v_ : Int => WP mX0_elect Q 86 [vR o, vI x1, vI x2, vI x3, vI x4, vI x5, vI x6, vU] [vI v_] D) hJ40 c41
                  refine WP_iconst (z := 0) dX0_elect_85 rfl ⟨by decide, by decide⟩ ?_
                  exact hJ40
                · replace hJ40 := ite_f (P := fun v_ : Int => WP mX0_elect Q 86 [vR o, vI x1, vI x2, vI x3, vI x4, vI x5, vI x6, vU] [vI v_] D) hJ40 c41
                  refine WP_iconst (z := 1) dX0_elect_81 rfl ⟨by decide, by decide⟩ ?_
                  refine WP_goto (tgt := 86) dX0_elect_82 (by decide) ?_
                  exact hJ40
              exact hJ36
          · refine WP_istore (ls1 := [vR o, vI x1, vI x2, vI x3, vI x4, vI x5, vI x6, vI (if x5 = (-1) then (1 : Int) else (if (D (o + 12) ((x4 + x5)).toNat) ≤ (D (o + 12) ((x4 + x6)).toNat) then (0 : Int) else 1))]) dX0_elect_86 (by decide) rfl ?_
            obtain ⟨v29, hv30⟩ : ∃ v29 : Int, v29 = (if x5 = (-1) then (1 : Int) else (if (D (o + 12) ((x4 + x5)).toNat) ≤ (D (o + 12) ((x4 + x6)).toNat) then (0 : Int) else 1)) := ⟨_, rfl⟩
            replace h := h v29 hv30
            rw [← hv30]
            refine WP_iload_n (z := x3) dX0_elect_88 rfl ?_
            refine WP_iload (z := x6) dX0_elect_89 rfl ?_
            refine WP_ishr dX0_elect_91 rfl ?_
            refine WP_iconst (z := 1) dX0_elect_92 rfl ⟨by decide, by decide⟩ ?_
            refine WP_iand dX0_elect_93 rfl ?_
            refine WP_iconst (z := 1) dX0_elect_94 rfl ⟨by decide, by decide⟩ ?_
            refine WP_via (pc1 := 107) (ls1 := [vR o, vI x1, vI x2, vI x3, vI x4, vI (if (b_iand (b_ishr x3 x6) 1) = 1 then ((if v29 = 0 then (x5 : Int) else x6) : Int) else x5), vI x6, vI v29]) (st1 := []) (D1 := D) (fun hJ32 => ?_) ?_
            · refine WP_icmp_ne (tgt := 107) dX0_elect_95 (by decide) (fun c33 => ?_) (fun c33 => ?_)
              · replace hJ32 := ite_f (P := fun v_ : Int => WP mX0_elect Q 107 [vR o, vI x1, vI x2, vI x3, vI x4, vI v_, vI x6, vI v29] [] D) hJ32 c33
                exact hJ32
              · replace hJ32 := ite_t (P := fun v_ : Int => WP mX0_elect Q 107 [vR o, vI x1, vI x2, vI x3, vI x4, vI v_, vI x6, vI v29] [] D) hJ32 c33
                refine WP_iload (z := v29) dX0_elect_98 rfl ?_
                refine WP_via (pc1 := 107) (ls1 := [vR o, vI x1, vI x2, vI x3, vI x4, vI (if v29 = 0 then (x5 : Int) else x6), vI x6, vI v29]) (st1 := []) (D1 := D) (fun hJ34 => ?_) ?_
                · refine WP_if_eq (tgt := 107) dX0_elect_100 (by decide) (fun c35 => ?_) (fun c35 => ?_)
                  · replace hJ34 := ite_t (P := fun v_ : Int => WP mX0_elect Q 107 [vR o, vI x1, vI x2, vI x3, vI x4, vI v_, vI x6, vI v29] [] D) hJ34 c35
                    exact hJ34
                  · replace hJ34 := ite_f (P := fun v_ : Int => WP mX0_elect Q 107 [vR o, vI x1, vI x2, vI x3, vI x4, vI v_, vI x6, vI v29] [] D) hJ34 c35
                    refine WP_iload (z := x6) dX0_elect_103 rfl ?_
                    refine WP_istore (ls1 := [vR o, vI x1, vI x2, vI x3, vI x4, vI x6, vI x6, vI v29]) dX0_elect_105 (by decide) rfl ?_
                    exact hJ34
                exact hJ32
            · obtain ⟨o31, h⟩ := h
              refine WP_iinc (z := (x6 + 1)) (ls1 := [vR o, vI x1, vI x2, vI x3, vI x4, vI (if (b_iand (b_ishr x3 x6) 1) = 1 then ((if v29 = 0 then (x5 : Int) else x6) : Int) else x5), vI (x6 + 1), vI v29]) dX0_elect_107 rfl (w32_id o31) (by decide) rfl ?_
              refine WP_goto (tgt := 45) dX0_elect_110 (by decide) ?_
              refine WP_fg 7 (ls1 := [vR o, vI x1, vI x2, vI x3, vI x4, vI (if (b_iand (b_ishr x3 x6) 1) = 1 then ((if v29 = 0 then (x5 : Int) else x6) : Int) else x5), vI (x6 + 1), vU]) rfl ?_
              exact ih45_ _ _ _ _ _ _ _ h.1 (by have := h.2; omega)
  have cut45_ : ∀ (x1 x2 x3 x4 x5 x6 : Int) (D : HP), I45 x1 x2 x3 x4 x5 x6 D → WP mX0_elect Q 45 [vR o, vI x1, vI x2, vI x3, vI x4, vI x5, vI x6, vU] [] D := fun x1 x2 x3 x4 x5 x6 D hI => (IH (u45 x1 x2 x3 x4 x5 x6 D * 1 + 0 + 1)) x1 x2 x3 x4 x5 x6 D hI (by omega)
  refine WP_cD (fun hcD => ?_)
  refine WP_cl (fun hcl => ?_)
  have h := h0 hcD (cVs_g hcl (i := 1) (v := vI a) rfl) (cVs_g hcl (i := 2) (v := vI b) rfl)
  refine WP_iload_n (z := a) dX0_elect_0 rfl ?_
  refine WP_if_lt (tgt := 10) dX0_elect_1 (by decide) (fun c1 => ?_) (fun c1 => ?_)
  · replace h := h.1 c1
    exact WP_return dX0_elect_10 rfl h
  · replace h := h.2 c1
    refine WP_iload_n (z := a) dX0_elect_4 rfl ?_
    refine WP_bipush (z := 12) dX0_elect_5 rfl (by decide) ?_
    refine WP_icmp_lt (tgt := 11) dX0_elect_7 (by decide) (fun c2 => ?_) (fun c2 => ?_)
    · replace h := h.1 c2
      refine WP_aload_n (z := o) dX0_elect_11 rfl ?_
      refine WP_getR (z := (o + 11)) dX0_elect_12 fl_RX0_26 (kcC_0 ho) rfl (srC_0_3 ho) ?_
      refine WP_iload_n (z := a) dX0_elect_15 rfl ?_
      refine WP_iconst (z := 1) dX0_elect_16 rfl ⟨by decide, by decide⟩ ?_
      obtain ⟨o8, h⟩ := h
      refine WP_iadd (z := (a + 1)) dX0_elect_17 (w32_id o8) ?_
      obtain ⟨o7, h⟩ := h
      refine WP_iald dX0_elect_18 (kcC_11 ho) o7.1 o7.2 rfl ?_
      refine WP_aload_n (z := o) dX0_elect_19 rfl ?_
      refine WP_getR (z := (o + 11)) dX0_elect_20 fl_RX0_26 (kcC_0 ho) rfl (srC_0_3 ho) ?_
      refine WP_iload_n (z := a) dX0_elect_23 rfl ?_
      obtain ⟨o6, h⟩ := h
      refine WP_iald dX0_elect_24 (kcC_11 ho) o6.1 o6.2 rfl ?_
      refine WP_iconst (z := (-1)) dX0_elect_25 rfl ⟨by decide, by decide⟩ ?_
      refine WP_ixor dX0_elect_26 rfl ?_
      refine WP_iand dX0_elect_27 rfl ?_
      refine WP_iload_n (z := b) dX0_elect_28 rfl ?_
      refine WP_iconst (z := (-1)) dX0_elect_29 rfl ⟨by decide, by decide⟩ ?_
      refine WP_ixor dX0_elect_30 rfl ?_
      refine WP_iand dX0_elect_31 rfl ?_
      refine WP_istore_n (ls1 := [vR o, vI a, vI b, vI (b_iand (b_iand (D (o + 11) ((a + 1)).toNat) (b_ixor (D (o + 11) a.toNat) (-1))) (b_ixor b (-1))), vU, vU, vU, vU]) dX0_elect_32 (by decide) rfl ?_
      obtain ⟨v3, hv4⟩ : ∃ v3 : Int, v3 = (b_iand (b_iand (D (o + 11) ((a + 1)).toNat) (b_ixor (D (o + 11) a.toNat) (-1))) (b_ixor b (-1))) := ⟨_, rfl⟩
      replace h := h v3 hv4
      rw [← hv4]
      refine WP_iload_n (z := a) dX0_elect_33 rfl ?_
      refine WP_bipush (z := 8) dX0_elect_34 rfl (by decide) ?_
      obtain ⟨o5, h⟩ := h
      refine WP_imul (z := (a * 8)) dX0_elect_36 (w32_id o5) ?_
      refine WP_istore (ls1 := [vR o, vI a, vI b, vI v3, vI (a * 8), vU, vU, vU]) dX0_elect_37 (by decide) rfl ?_
      refine WP_iconst (z := (-1)) dX0_elect_39 rfl ⟨by decide, by decide⟩ ?_
      refine WP_istore (ls1 := [vR o, vI a, vI b, vI v3, vI (a * 8), vI (-1), vU, vU]) dX0_elect_40 (by decide) rfl ?_
      refine WP_iconst (z := 0) dX0_elect_42 rfl ⟨by decide, by decide⟩ ?_
      refine WP_istore (ls1 := [vR o, vI a, vI b, vI v3, vI (a * 8), vI (-1), vI 0, vU]) dX0_elect_43 (by decide) rfl ?_
      exact cut45_ _ _ _ _ _ _ _ h
    · replace h := h.2 c2
      exact WP_return dX0_elect_10 rfl h
set_option maxRecDepth 100000 in
set_option maxHeartbeats 4000000 in
theorem V_X0_pass {o : Nat} (ho : o = 9 ∨ o = 25) (a : Int) {D : HP} {Q : Option MV → HP → Prop} (I59 : Int → Int → Int → Int → Int → Int → HP → Prop) (u59 : Int → Int → Int → Int → Int → Int → HP → Nat)
    (h0 : cD D → c32 a → ((a < 0 → (Q none D)) ∧ (¬ (a < 0) → (((D (o + 1) 2) ≤ a → (Q none D)) ∧ (¬ ((D (o + 1) 2) ≤ a) → ((a < 12 → ((0 ≤ a ∧ a < 13) ∧ ((((a = 0) → True) ∧ (¬ (a = 0) → (c32 (a - 1)) ∧ (0 ≤ (a - 1) ∧ (a - 1) < 13))) ∧ (∀ (v5 : Int), v5 = (if a = 0 then (0 : Int) else (b_iand (D (o + 11) a.toNat) (b_ixor (D (o + 11) ((a - 1)).toNat) (-1)))) → (I59 a (D (o + 11) a.toNat) v5 0 0 0 D))))) ∧ (¬ (a < 12) → (Q none D))))))))
    (h59 : ∀ (x1 x2 x3 x4 x5 x6 : Int) (D : HP), I59 x1 x2 x3 x4 x5 x6 D → cD D → c32 x1 → c32 x2 → c32 x3 → c32 x4 → c32 x5 → c32 x6 → (((D (o + 1) 3) ≤ x6 → ((c32 (x1 + 1)) ∧ ((0 ≤ (x1 + 1) ∧ (x1 + 1) < 13) ∧ (∀ (E13 : HP), E13 = (hu D (o + 11) ((x1 + 1)).toNat (b_ior x2 x5)) → ((x1 ≤ 0 → (Q none E13)) ∧ (¬ (x1 ≤ 0) → ((c32 (x1 - 1)) ∧ (∃ Q16 : Option MV → HP → Prop, CT mX0_elect [vR o, vI (x1 - 1), vI x4] E13 Q16 ∧ ∀ (D19 : HP), Q16 none D19 → cD D19 → (Q none D19))))))))) ∧ (¬ ((D (o + 1) 3) ≤ x6) → ((8 ≤ x6 → ((c32 (x1 + 1)) ∧ ((0 ≤ (x1 + 1) ∧ (x1 + 1) < 13) ∧ (∀ (E27 : HP), E27 = (hu D (o + 11) ((x1 + 1)).toNat (b_ior x2 x5)) → ((x1 ≤ 0 → (Q none E27)) ∧ (¬ (x1 ≤ 0) → ((c32 (x1 - 1)) ∧ (∃ Q30 : Option MV → HP → Prop, CT mX0_elect [vR o, vI (x1 - 1), vI x4] E27 Q30 ∧ ∀ (D33 : HP), Q30 none D33 → cD D33 → (Q none D33))))))))) ∧ (¬ (8 ≤ x6) → ((c32 (x1 * 8)) ∧ ((c32 ((x1 * 8) + x6)) ∧ ((0 ≤ ((x1 * 8) + x6) ∧ ((x1 * 8) + x6) < 104) ∧ ((0 ≤ x6 ∧ x6 < 8) ∧ ((oX0_windOn D o x1 (D (o + 7) x6.toNat)) ∧ ((0 ≤ x6 ∧ x6 < 8) ∧ ((oX0_strainOf D (fX0_windOn D o x1 (D (o + 7) x6.toNat)) (D (o + 9) x6.toNat)) ∧ (∀ (v40 : Int), v40 = (fX0_strainOf D (fX0_windOn D o x1 (D (o + 7) x6.toNat)) (D (o + 9) x6.toNat)) → (∀ (v42 : Int), v42 = (fX0_has D (b_iand (D o 1) (b_ixor x2 (-1))) x6) → ((((v42 = 0) → True) ∧ (¬ (v42 = 0) → (((v40 = (D (o + 12) (((x1 * 8) + x6)).toNat)) → ((((D (o + 12) (((x1 * 8) + x6)).toNat) ≤ 1) → True) ∧ (¬ ((D (o + 12) (((x1 * 8) + x6)).toNat) ≤ 1) → (c32 ((D (o + 12) (((x1 * 8) + x6)).toNat) - 1))))) ∧ (¬ (v40 = (D (o + 12) (((x1 * 8) + x6)).toNat)) → True)))) ∧ ((c32 (x1 + 1)) ∧ ((c32 ((x1 + 1) * 8)) ∧ ((c32 (((x1 + 1) * 8) + x6)) ∧ ((0 ≤ (((x1 + 1) * 8) + x6) ∧ (((x1 + 1) * 8) + x6) < 104) ∧ (∀ (E45 : HP), E45 = (hu D (o + 12) ((((x1 + 1) * 8) + x6)).toNat (if v42 = 0 then ((D (o + 12) (((x1 * 8) + x6)).toNat) : Int) else (if v40 = (D (o + 12) (((x1 * 8) + x6)).toNat) then ((if (D (o + 12) (((x1 * 8) + x6)).toNat) ≤ 1 then ((D (o + 12) (((x1 * 8) + x6)).toNat) : Int) else ((D (o + 12) (((x1 * 8) + x6)).toNat) - 1)) : Int) else (D (o + 12) (((x1 * 8) + x6)).toNat)))) → ((c32 (x6 + 1)) ∧ (I59 x1 x2 x3 (if (fX0_has D x3 x6) = 0 then (x4 : Int) else (if (fX0_windOn D o x1 (D (o + 7) x6.toNat)) = 0 then ((b_ior x4 (b_ishl 1 x6)) : Int) else x4)) (if v42 = 0 then (x5 : Int) else (if v40 ≤ (D (o + 12) (((x1 * 8) + x6)).toNat) then (x5 : Int) else (b_ior x5 (b_ishl 1 x6)))) (x6 + 1) E45 ∧ u59 x1 x2 x3 (if (fX0_has D x3 x6) = 0 then (x4 : Int) else (if (fX0_windOn D o x1 (D (o + 7) x6.toNat)) = 0 then ((b_ior x4 (b_ishl 1 x6)) : Int) else x4)) (if v42 = 0 then (x5 : Int) else (if v40 ≤ (D (o + 12) (((x1 * 8) + x6)).toNat) then (x5 : Int) else (b_ior x5 (b_ishl 1 x6)))) (x6 + 1) E45 < u59 x1 x2 x3 x4 x5 x6 D))))))))))))))))))))))
    : CT mX0_pass [vR o, vI a] D Q := by
  refine CT.of 9 (by decide) (Nat.le_of_ble_eq_true rfl) ?_
  show WP mX0_pass Q 0 [vR o, vI a, vU, vU, vU, vU, vU, vU, vU, vU, vU] [] D
  have IH : ∀ n : Nat, (∀ (x1 x2 x3 x4 x5 x6 : Int) (D : HP), I59 x1 x2 x3 x4 x5 x6 D → u59 x1 x2 x3 x4 x5 x6 D * 1 + 0 < n → WP mX0_pass Q 59 [vR o, vI x1, vI x2, vI x3, vI x4, vI x5, vI x6, vU, vU, vU, vU] [] D) := by
    intro n
    induction n with
    | zero => exact fun _ _ _ _ _ _ _ _ h => absurd h (Nat.not_lt_zero _)
    | succ n ih =>
      have ih59_ := ih
      · intro x1 x2 x3 x4 x5 x6 D hI hn
        refine WP_cD (fun hcD => ?_)
        refine WP_cl (fun hcl => ?_)
        have h := h59 x1 x2 x3 x4 x5 x6 D hI hcD (cVs_g hcl (i := 1) (v := vI x1) rfl) (cVs_g hcl (i := 2) (v := vI x2) rfl) (cVs_g hcl (i := 3) (v := vI x3) rfl) (cVs_g hcl (i := 4) (v := vI x4) rfl) (cVs_g hcl (i := 5) (v := vI x5) rfl) (cVs_g hcl (i := 6) (v := vI x6) rfl)
        refine WP_iload (z := x6) dX0_pass_59 rfl ?_
        refine WP_aload_n (z := o) dX0_pass_61 rfl ?_
        refine WP_getR (z := (o + 1)) dX0_pass_62 fl_RX0_12 (kcC_0 ho) rfl (srC_0_0 ho) ?_
        refine WP_getI dX0_pass_65 fl_RX0_73 (kcC_1 ho) rfl rfl ?_
        refine WP_icmp_ge (tgt := 228) dX0_pass_68 (by decide) (fun c12 => ?_) (fun c12 => ?_)
        · replace h := h.1 c12
          refine WP_aload_n (z := o) dX0_pass_228 rfl ?_
          refine WP_getR (z := (o + 11)) dX0_pass_229 fl_RX0_26 (kcC_0 ho) rfl (srC_0_3 ho) ?_
          refine WP_iload_n (z := x1) dX0_pass_232 rfl ?_
          refine WP_iconst (z := 1) dX0_pass_233 rfl ⟨by decide, by decide⟩ ?_
          obtain ⟨o25, h⟩ := h
          refine WP_iadd (z := (x1 + 1)) dX0_pass_234 (w32_id o25) ?_
          refine WP_iload_n (z := x2) dX0_pass_235 rfl ?_
          refine WP_iload (z := x5) dX0_pass_236 rfl ?_
          refine WP_ior dX0_pass_238 rfl ?_
          obtain ⟨o24, h⟩ := h
          refine WP_iast dX0_pass_239 (kcC_11 ho) o24.1 o24.2 ?_
          obtain ⟨E13, hE14⟩ : ∃ E13 : HP, E13 = (hu D (o + 11) ((x1 + 1)).toNat (b_ior x2 x5)) := ⟨_, rfl⟩
          replace h := h E13 hE14
          show WP mX0_pass Q 240 [vR o, vI x1, vI x2, vI x3, vI x4, vI x5, vI x6, vU, vU, vU, vU] [] (hu D (o + 11) ((x1 + 1)).toNat (b_ior x2 x5))
          rw [← hE14]
          refine WP_iload_n (z := x1) dX0_pass_240 rfl ?_
          refine WP_if_le (tgt := 253) dX0_pass_241 (by decide) (fun c15 => ?_) (fun c15 => ?_)
          · replace h := h.1 c15
            exact WP_return dX0_pass_253 rfl h
          · replace h := h.2 c15
            refine WP_aload_n (z := o) dX0_pass_244 rfl ?_
            refine WP_iload_n (z := x1) dX0_pass_245 rfl ?_
            refine WP_iconst (z := 1) dX0_pass_246 rfl ⟨by decide, by decide⟩ ?_
            obtain ⟨o23, h⟩ := h
            refine WP_isub (z := (x1 - 1)) dX0_pass_247 (w32_id o23) ?_
            refine WP_iload (z := x4) dX0_pass_248 rfl ?_
            obtain ⟨Q16, ct18, h⟩ := h
            refine WP_callV (g := mX0_elect) (as := [vI (x1 - 1), vI x4]) (rest := []) (n := 2) dX0_pass_250 wm_246 mo_X0_elect (kcC_0 ho) rfl rfl rfl ⟨Nat.le_of_ble_eq_true rfl, Nat.le_of_ble_eq_true rfl⟩ (Nat.le_of_ble_eq_true rfl) ct18 (fun r_ D19 hq17 hok hD22 => ?_)
            obtain rfl := hok
            replace h := h D19 hq17 hD22
            show WP mX0_pass Q 253 [vR o, vI x1, vI x2, vI x3, vI x4, vI x5, vI x6, vU, vU, vU, vU] [] D19
            exact WP_return dX0_pass_253 rfl h
        · replace h := h.2 c12
          refine WP_iload (z := x6) dX0_pass_71 rfl ?_
          refine WP_bipush (z := 8) dX0_pass_73 rfl (by decide) ?_
          refine WP_icmp_ge (tgt := 228) dX0_pass_75 (by decide) (fun c26 => ?_) (fun c26 => ?_)
          · replace h := h.1 c26
            refine WP_aload_n (z := o) dX0_pass_228 rfl ?_
            refine WP_getR (z := (o + 11)) dX0_pass_229 fl_RX0_26 (kcC_0 ho) rfl (srC_0_3 ho) ?_
            refine WP_iload_n (z := x1) dX0_pass_232 rfl ?_
            refine WP_iconst (z := 1) dX0_pass_233 rfl ⟨by decide, by decide⟩ ?_
            obtain ⟨o39, h⟩ := h
            refine WP_iadd (z := (x1 + 1)) dX0_pass_234 (w32_id o39) ?_
            refine WP_iload_n (z := x2) dX0_pass_235 rfl ?_
            refine WP_iload (z := x5) dX0_pass_236 rfl ?_
            refine WP_ior dX0_pass_238 rfl ?_
            obtain ⟨o38, h⟩ := h
            refine WP_iast dX0_pass_239 (kcC_11 ho) o38.1 o38.2 ?_
            obtain ⟨E27, hE28⟩ : ∃ E27 : HP, E27 = (hu D (o + 11) ((x1 + 1)).toNat (b_ior x2 x5)) := ⟨_, rfl⟩
            replace h := h E27 hE28
            show WP mX0_pass Q 240 [vR o, vI x1, vI x2, vI x3, vI x4, vI x5, vI x6, vU, vU, vU, vU] [] (hu D (o + 11) ((x1 + 1)).toNat (b_ior x2 x5))
            rw [← hE28]
            refine WP_iload_n (z := x1) dX0_pass_240 rfl ?_
            refine WP_if_le (tgt := 253) dX0_pass_241 (by decide) (fun c29 => ?_) (fun c29 => ?_)
            · replace h := h.1 c29
              exact WP_return dX0_pass_253 rfl h
            · replace h := h.2 c29
              refine WP_aload_n (z := o) dX0_pass_244 rfl ?_
              refine WP_iload_n (z := x1) dX0_pass_245 rfl ?_
              refine WP_iconst (z := 1) dX0_pass_246 rfl ⟨by decide, by decide⟩ ?_
              obtain ⟨o37, h⟩ := h
              refine WP_isub (z := (x1 - 1)) dX0_pass_247 (w32_id o37) ?_
              refine WP_iload (z := x4) dX0_pass_248 rfl ?_
              obtain ⟨Q30, ct32, h⟩ := h
              refine WP_callV (g := mX0_elect) (as := [vI (x1 - 1), vI x4]) (rest := []) (n := 2) dX0_pass_250 wm_246 mo_X0_elect (kcC_0 ho) rfl rfl rfl ⟨Nat.le_of_ble_eq_true rfl, Nat.le_of_ble_eq_true rfl⟩ (Nat.le_of_ble_eq_true rfl) ct32 (fun r_ D33 hq31 hok hD36 => ?_)
              obtain rfl := hok
              replace h := h D33 hq31 hD36
              show WP mX0_pass Q 253 [vR o, vI x1, vI x2, vI x3, vI x4, vI x5, vI x6, vU, vU, vU, vU] [] D33
              exact WP_return dX0_pass_253 rfl h
          · replace h := h.2 c26
            refine WP_aload_n (z := o) dX0_pass_78 rfl ?_
            refine WP_getR (z := (o + 12)) dX0_pass_79 fl_RX0_29 (kcC_0 ho) rfl (srC_0_4 ho) ?_
            refine WP_iload_n (z := x1) dX0_pass_82 rfl ?_
            refine WP_bipush (z := 8) dX0_pass_83 rfl (by decide) ?_
            obtain ⟨o78, h⟩ := h
            refine WP_imul (z := (x1 * 8)) dX0_pass_85 (w32_id o78) ?_
            refine WP_iload (z := x6) dX0_pass_86 rfl ?_
            obtain ⟨o77, h⟩ := h
            refine WP_iadd (z := ((x1 * 8) + x6)) dX0_pass_88 (w32_id o77) ?_
            obtain ⟨o76, h⟩ := h
            refine WP_iald dX0_pass_89 (kcC_12 ho) o76.1 o76.2 rfl ?_
            refine WP_istore (ls1 := [vR o, vI x1, vI x2, vI x3, vI x4, vI x5, vI x6, vI (D (o + 12) (((x1 * 8) + x6)).toNat), vU, vU, vU]) dX0_pass_90 (by decide) rfl ?_
            refine WP_aload_n (z := o) dX0_pass_92 rfl ?_
            refine WP_iload_n (z := x1) dX0_pass_93 rfl ?_
            refine WP_aload_n (z := o) dX0_pass_94 rfl ?_
            refine WP_getR (z := (o + 1)) dX0_pass_95 fl_RX0_12 (kcC_0 ho) rfl (srC_0_0 ho) ?_
            refine WP_getR (z := (o + 7)) dX0_pass_98 fl_RX0_76 (kcC_1 ho) rfl (srC_1_9 ho) ?_
            refine WP_iload (z := x6) dX0_pass_101 rfl ?_
            obtain ⟨o75, h⟩ := h
            refine WP_iald dX0_pass_103 (kcC_7 ho) o75.1 o75.2 rfl ?_
            obtain ⟨o74, h⟩ := h
            refine WP_pcallV (g := mX0_windOn) (as := [vI x1, vI (D (o + 7) x6.toNat)]) (rest := []) (n := 2) (r := vI (fX0_windOn D o x1 (D (o + 7) x6.toNat))) dX0_pass_104 wm_231 mo_X0_windOn (kcC_0 ho) rfl rfl rfl ⟨Nat.le_of_ble_eq_true rfl, Nat.le_of_ble_eq_true rfl⟩ (Nat.le_of_ble_eq_true rfl) (P_X0_windOn ho o74) ?_
            refine WP_istore (ls1 := [vR o, vI x1, vI x2, vI x3, vI x4, vI x5, vI x6, vI (D (o + 12) (((x1 * 8) + x6)).toNat), vI (fX0_windOn D o x1 (D (o + 7) x6.toNat)), vU, vU]) dX0_pass_107 (by decide) rfl ?_
            refine WP_iload (z := (fX0_windOn D o x1 (D (o + 7) x6.toNat))) dX0_pass_109 rfl ?_
            refine WP_aload_n (z := o) dX0_pass_111 rfl ?_
            refine WP_getR (z := (o + 1)) dX0_pass_112 fl_RX0_12 (kcC_0 ho) rfl (srC_0_0 ho) ?_
            refine WP_getR (z := (o + 9)) dX0_pass_115 fl_RX0_90 (kcC_1 ho) rfl (srC_1_11 ho) ?_
            refine WP_iload (z := x6) dX0_pass_118 rfl ?_
            obtain ⟨o73, h⟩ := h
            refine WP_iald dX0_pass_120 (kcC_9 ho) o73.1 o73.2 rfl ?_
            obtain ⟨o72, h⟩ := h
            refine WP_pcallS (g := mX0_strainOf) (as := [vI (fX0_windOn D o x1 (D (o + 7) x6.toNat)), vI (D (o + 9) x6.toNat)]) (rest := []) (n := 2) (r := vI (fX0_strainOf D (fX0_windOn D o x1 (D (o + 7) x6.toNat)) (D (o + 9) x6.toNat))) dX0_pass_121 wm_240 mo_X0_strainOf rfl rfl ⟨Nat.le_of_ble_eq_true rfl, Nat.le_of_ble_eq_true rfl⟩ (Nat.le_of_ble_eq_true rfl) (P_X0_strainOf  o72) ?_
            refine WP_istore (ls1 := [vR o, vI x1, vI x2, vI x3, vI x4, vI x5, vI x6, vI (D (o + 12) (((x1 * 8) + x6)).toNat), vI (fX0_windOn D o x1 (D (o + 7) x6.toNat)), vI (fX0_strainOf D (fX0_windOn D o x1 (D (o + 7) x6.toNat)) (D (o + 9) x6.toNat)), vU]) dX0_pass_124 (by decide) rfl ?_
            obtain ⟨v40, hv41⟩ : ∃ v40 : Int, v40 = (fX0_strainOf D (fX0_windOn D o x1 (D (o + 7) x6.toNat)) (D (o + 9) x6.toNat)) := ⟨_, rfl⟩
            replace h := h v40 hv41
            rw [← hv41]
            refine WP_aload_n (z := o) dX0_pass_126 rfl ?_
            refine WP_getI dX0_pass_127 fl_RX0_18 (kcC_0 ho) rfl rfl ?_
            refine WP_iload_n (z := x2) dX0_pass_130 rfl ?_
            refine WP_iconst (z := (-1)) dX0_pass_131 rfl ⟨by decide, by decide⟩ ?_
            refine WP_ixor dX0_pass_132 rfl ?_
            refine WP_iand dX0_pass_133 rfl ?_
            refine WP_iload (z := x6) dX0_pass_134 rfl ?_
            refine WP_pcallS (g := mX0_has) (as := [vI (b_iand (D o 1) (b_ixor x2 (-1))), vI x6]) (rest := []) (n := 2) (r := vI (fX0_has D (b_iand (D o 1) (b_ixor x2 (-1))) x6)) dX0_pass_136 wm_243 mo_X0_has rfl rfl ⟨Nat.le_of_ble_eq_true rfl, Nat.le_of_ble_eq_true rfl⟩ (Nat.le_of_ble_eq_true rfl) (P_X0_has  trivial) ?_
            refine WP_istore (ls1 := [vR o, vI x1, vI x2, vI x3, vI x4, vI x5, vI x6, vI (D (o + 12) (((x1 * 8) + x6)).toNat), vI (fX0_windOn D o x1 (D (o + 7) x6.toNat)), vI v40, vI (fX0_has D (b_iand (D o 1) (b_ixor x2 (-1))) x6)]) dX0_pass_139 (by decide) rfl ?_
            obtain ⟨v42, hv43⟩ : ∃ v42 : Int, v42 = (fX0_has D (b_iand (D o 1) (b_ixor x2 (-1))) x6) := ⟨_, rfl⟩
            replace h := h v42 hv43
            rw [← hv43]
            refine WP_iload_n (z := x3) dX0_pass_141 rfl ?_
            refine WP_iload (z := x6) dX0_pass_142 rfl ?_
            refine WP_pcallS (g := mX0_has) (as := [vI x3, vI x6]) (rest := []) (n := 2) (r := vI (fX0_has D x3 x6)) dX0_pass_144 wm_243 mo_X0_has rfl rfl ⟨Nat.le_of_ble_eq_true rfl, Nat.le_of_ble_eq_true rfl⟩ (Nat.le_of_ble_eq_true rfl) (P_X0_has  trivial) ?_
            refine WP_via (pc1 := 164) (ls1 := [vR o, vI x1, vI x2, vI x3, vI (if (fX0_has D x3 x6) = 0 then (x4 : Int) else (if (fX0_windOn D o x1 (D (o + 7) x6.toNat)) = 0 then ((b_ior x4 (b_ishl 1 x6)) : Int) else x4)), vI x5, vI x6, vI (D (o + 12) (((x1 * 8) + x6)).toNat), vI (fX0_windOn D o x1 (D (o + 7) x6.toNat)), vI v40, vI v42]) (st1 := []) (D1 := D) (fun hJ68 => ?_) ?_
            · refine WP_if_eq (tgt := 164) dX0_pass_147 (by decide) (fun c69 => ?_) (fun c69 => ?_)
              · replace hJ68 := ite_t (P := fun v_ : Int => WP mX0_pass Q 164 [vR o, vI x1, vI x2, vI x3, vI v_, vI x5, vI x6, vI (D (o + 12) (((x1 * 8) + x6)).toNat), vI (fX0_windOn D o x1 (D (o + 7) x6.toNat)), vI v40, vI v42] [] D) hJ68 c69
                exact hJ68
              · replace hJ68 := ite_f (P := fun v_ : Int => WP mX0_pass Q 164 [vR o, vI x1, vI x2, vI x3, vI v_, vI x5, vI x6, vI (D (o + 12) (((x1 * 8) + x6)).toNat), vI (fX0_windOn D o x1 (D (o + 7) x6.toNat)), vI v40, vI v42] [] D) hJ68 c69
                refine WP_iload (z := (fX0_windOn D o x1 (D (o + 7) x6.toNat))) dX0_pass_150 rfl ?_
                refine WP_via (pc1 := 164) (ls1 := [vR o, vI x1, vI x2, vI x3, vI (if (fX0_windOn D o x1 (D (o + 7) x6.toNat)) = 0 then ((b_ior x4 (b_ishl 1 x6)) : Int) else x4), vI x5, vI x6, vI (D (o + 12) (((x1 * 8) + x6)).toNat), vI (fX0_windOn D o x1 (D (o + 7) x6.toNat)), vI v40, vI v42]) (st1 := []) (D1 := D) (fun hJ70 => ?_) ?_
                · refine WP_if_ne (tgt := 164) dX0_pass_152 (by decide) (fun c71 => ?_) (fun c71 => ?_)
                  · replace hJ70 := ite_f (P := fun v_ : Int => WP mX0_pass Q 164 [vR o, vI x1, vI x2, vI x3, vI v_, vI x5, vI x6, vI (D (o + 12) (((x1 * 8) + x6)).toNat), vI (fX0_windOn D o x1 (D (o + 7) x6.toNat)), vI v40, vI v42] [] D) hJ70 c71
                    exact hJ70
                  · replace hJ70 := ite_t (P := fun v_ : Int => WP mX0_pass Q 164 [vR o, vI x1, vI x2, vI x3, vI v_, vI x5, vI x6, vI (D (o + 12) (((x1 * 8) + x6)).toNat), vI (fX0_windOn D o x1 (D (o + 7) x6.toNat)), vI v40, vI v42] [] D) hJ70 c71
                    refine WP_iload (z := x4) dX0_pass_155 rfl ?_
                    refine WP_iconst (z := 1) dX0_pass_157 rfl ⟨by decide, by decide⟩ ?_
                    refine WP_iload (z := x6) dX0_pass_158 rfl ?_
                    refine WP_ishl dX0_pass_160 rfl ?_
                    refine WP_ior dX0_pass_161 rfl ?_
                    refine WP_istore (ls1 := [vR o, vI x1, vI x2, vI x3, vI (b_ior x4 (b_ishl 1 x6)), vI x5, vI x6, vI (D (o + 12) (((x1 * 8) + x6)).toNat), vI (fX0_windOn D o x1 (D (o + 7) x6.toNat)), vI v40, vI v42]) dX0_pass_162 (by decide) rfl ?_
                    exact hJ70
                exact hJ68
            · refine WP_iload (z := v42) dX0_pass_164 rfl ?_
              refine WP_via (pc1 := 185) (ls1 := [vR o, vI x1, vI x2, vI x3, vI (if (fX0_has D x3 x6) = 0 then (x4 : Int) else (if (fX0_windOn D o x1 (D (o + 7) x6.toNat)) = 0 then ((b_ior x4 (b_ishl 1 x6)) : Int) else x4)), vI (if v42 = 0 then (x5 : Int) else (if v40 ≤ (D (o + 12) (((x1 * 8) + x6)).toNat) then (x5 : Int) else (b_ior x5 (b_ishl 1 x6)))), vI x6, vI (D (o + 12) (((x1 * 8) + x6)).toNat), vI (fX0_windOn D o x1 (D (o + 7) x6.toNat)), vI v40, vI v42]) (st1 := []) (D1 := D) (fun hJ64 => ?_) ?_
              · refine WP_if_eq (tgt := 185) dX0_pass_166 (by decide) (fun c65 => ?_) (fun c65 => ?_)
                · replace hJ64 := ite_t (P := fun v_ : Int => WP mX0_pass Q 185 [vR o, vI x1, vI x2, vI x3, vI (if (fX0_has D x3 x6) = 0 then (x4 : Int) else (if (fX0_windOn D o x1 (D (o + 7) x6.toNat)) = 0 then ((b_ior x4 (b_ishl 1 x6)) : Int) else x4)), vI v_, vI x6, vI (D (o + 12) (((x1 * 8) + x6)).toNat), vI (fX0_windOn D o x1 (D (o + 7) x6.toNat)), vI v40, vI v42] [] D) hJ64 c65
                  exact hJ64
                · replace hJ64 := ite_f (P := fun v_ : Int => WP mX0_pass Q 185 [vR o, vI x1, vI x2, vI x3, vI (if (fX0_has D x3 x6) = 0 then (x4 : Int) else (if (fX0_windOn D o x1 (D (o + 7) x6.toNat)) = 0 then ((b_ior x4 (b_ishl 1 x6)) : Int) else x4)), vI v_, vI x6, vI (D (o + 12) (((x1 * 8) + x6)).toNat), vI (fX0_windOn D o x1 (D (o + 7) x6.toNat)), vI v40, vI v42] [] D) hJ64 c65
                  refine WP_iload (z := v40) dX0_pass_169 rfl ?_
                  refine WP_iload (z := (D (o + 12) (((x1 * 8) + x6)).toNat)) dX0_pass_171 rfl ?_
                  refine WP_via (pc1 := 185) (ls1 := [vR o, vI x1, vI x2, vI x3, vI (if (fX0_has D x3 x6) = 0 then (x4 : Int) else (if (fX0_windOn D o x1 (D (o + 7) x6.toNat)) = 0 then ((b_ior x4 (b_ishl 1 x6)) : Int) else x4)), vI (if v40 ≤ (D (o + 12) (((x1 * 8) + x6)).toNat) then (x5 : Int) else (b_ior x5 (b_ishl 1 x6))), vI x6, vI (D (o + 12) (((x1 * 8) + x6)).toNat), vI (fX0_windOn D o x1 (D (o + 7) x6.toNat)), vI v40, vI v42]) (st1 := []) (D1 := D) (fun hJ66 => ?_) ?_
                  · refine WP_icmp_le (tgt := 185) dX0_pass_173 (by decide) (fun c67 => ?_) (fun c67 => ?_)
                    · replace hJ66 := ite_t (P := fun v_ : Int => WP mX0_pass Q 185 [vR o, vI x1, vI x2, vI x3, vI (if (fX0_has D x3 x6) = 0 then (x4 : Int) else (if (fX0_windOn D o x1 (D (o + 7) x6.toNat)) = 0 then ((b_ior x4 (b_ishl 1 x6)) : Int) else x4)), vI v_, vI x6, vI (D (o + 12) (((x1 * 8) + x6)).toNat), vI (fX0_windOn D o x1 (D (o + 7) x6.toNat)), vI v40, vI v42] [] D) hJ66 c67
                      exact hJ66
                    · replace hJ66 := ite_f (P := fun v_ : Int => WP mX0_pass Q 185 [vR o, vI x1, vI x2, vI x3, vI (if (fX0_has D x3 x6) = 0 then (x4 : Int) else (if (fX0_windOn D o x1 (D (o + 7) x6.toNat)) = 0 then ((b_ior x4 (b_ishl 1 x6)) : Int) else x4)), vI v_, vI x6, vI (D (o + 12) (((x1 * 8) + x6)).toNat), vI (fX0_windOn D o x1 (D (o + 7) x6.toNat)), vI v40, vI v42] [] D) hJ66 c67
                      refine WP_iload (z := x5) dX0_pass_176 rfl ?_
                      refine WP_iconst (z := 1) dX0_pass_178 rfl ⟨by decide, by decide⟩ ?_
                      refine WP_iload (z := x6) dX0_pass_179 rfl ?_
                      refine WP_ishl dX0_pass_181 rfl ?_
                      refine WP_ior dX0_pass_182 rfl ?_
                      refine WP_istore (ls1 := [vR o, vI x1, vI x2, vI x3, vI (if (fX0_has D x3 x6) = 0 then (x4 : Int) else (if (fX0_windOn D o x1 (D (o + 7) x6.toNat)) = 0 then ((b_ior x4 (b_ishl 1 x6)) : Int) else x4)), vI (b_ior x5 (b_ishl 1 x6)), vI x6, vI (D (o + 12) (((x1 * 8) + x6)).toNat), vI (fX0_windOn D o x1 (D (o + 7) x6.toNat)), vI v40, vI v42]) dX0_pass_183 (by decide) rfl ?_
                      exact hJ66
                  exact hJ64
              · refine WP_iload (z := v42) dX0_pass_185 rfl ?_
                obtain ⟨o44, h⟩ := h
                refine WP_via (pc1 := 206) (ls1 := [vR o, vI x1, vI x2, vI x3, vI (if (fX0_has D x3 x6) = 0 then (x4 : Int) else (if (fX0_windOn D o x1 (D (o + 7) x6.toNat)) = 0 then ((b_ior x4 (b_ishl 1 x6)) : Int) else x4)), vI (if v42 = 0 then (x5 : Int) else (if v40 ≤ (D (o + 12) (((x1 * 8) + x6)).toNat) then (x5 : Int) else (b_ior x5 (b_ishl 1 x6)))), vI x6, vI (if v42 = 0 then ((D (o + 12) (((x1 * 8) + x6)).toNat) : Int) else (if v40 = (D (o + 12) (((x1 * 8) + x6)).toNat) then ((if (D (o + 12) (((x1 * 8) + x6)).toNat) ≤ 1 then ((D (o + 12) (((x1 * 8) + x6)).toNat) : Int) else ((D (o + 12) (((x1 * 8) + x6)).toNat) - 1)) : Int) else (D (o + 12) (((x1 * 8) + x6)).toNat))), vI (fX0_windOn D o x1 (D (o + 7) x6.toNat)), vI v40, vI v42]) (st1 := []) (D1 := D) (fun hJ52 => ?_) ?_
                · refine WP_if_eq (tgt := 206) dX0_pass_187 (by decide) (fun c53 => ?_) (fun c53 => ?_)
                  · replace hJ52 := ite_t (P := fun v_ : Int => WP mX0_pass Q 206 [vR o, vI x1, vI x2, vI x3, vI (if (fX0_has D x3 x6) = 0 then (x4 : Int) else (if (fX0_windOn D o x1 (D (o + 7) x6.toNat)) = 0 then ((b_ior x4 (b_ishl 1 x6)) : Int) else x4)), vI (if v42 = 0 then (x5 : Int) else (if v40 ≤ (D (o + 12) (((x1 * 8) + x6)).toNat) then (x5 : Int) else (b_ior x5 (b_ishl 1 x6)))), vI x6, vI v_, vI (fX0_windOn D o x1 (D (o + 7) x6.toNat)), vI v40, vI v42] [] D) hJ52 c53
                    have o54 := o44.1 c53
                    exact hJ52
                  · replace hJ52 := ite_f (P := fun v_ : Int => WP mX0_pass Q 206 [vR o, vI x1, vI x2, vI x3, vI (if (fX0_has D x3 x6) = 0 then (x4 : Int) else (if (fX0_windOn D o x1 (D (o + 7) x6.toNat)) = 0 then ((b_ior x4 (b_ishl 1 x6)) : Int) else x4)), vI (if v42 = 0 then (x5 : Int) else (if v40 ≤ (D (o + 12) (((x1 * 8) + x6)).toNat) then (x5 : Int) else (b_ior x5 (b_ishl 1 x6)))), vI x6, vI v_, vI (fX0_windOn D o x1 (D (o + 7) x6.toNat)), vI v40, vI v42] [] D) hJ52 c53
                    have o55 := o44.2 c53
                    refine WP_iload (z := v40) dX0_pass_190 rfl ?_
                    refine WP_iload (z := (D (o + 12) (((x1 * 8) + x6)).toNat)) dX0_pass_192 rfl ?_
                    refine WP_via (pc1 := 206) (ls1 := [vR o, vI x1, vI x2, vI x3, vI (if (fX0_has D x3 x6) = 0 then (x4 : Int) else (if (fX0_windOn D o x1 (D (o + 7) x6.toNat)) = 0 then ((b_ior x4 (b_ishl 1 x6)) : Int) else x4)), vI (if v42 = 0 then (x5 : Int) else (if v40 ≤ (D (o + 12) (((x1 * 8) + x6)).toNat) then (x5 : Int) else (b_ior x5 (b_ishl 1 x6)))), vI x6, vI (if v40 = (D (o + 12) (((x1 * 8) + x6)).toNat) then ((if (D (o + 12) (((x1 * 8) + x6)).toNat) ≤ 1 then ((D (o + 12) (((x1 * 8) + x6)).toNat) : Int) else ((D (o + 12) (((x1 * 8) + x6)).toNat) - 1)) : Int) else (D (o + 12) (((x1 * 8) + x6)).toNat)), vI (fX0_windOn D o x1 (D (o + 7) x6.toNat)), vI v40, vI v42]) (st1 := []) (D1 := D) (fun hJ56 => ?_) ?_
                    · refine WP_icmp_ne (tgt := 206) dX0_pass_194 (by decide) (fun c57 => ?_) (fun c57 => ?_)
                      · replace hJ56 := ite_f (P := fun v_ : Int => WP mX0_pass Q 206 [vR o, vI x1, vI x2, vI x3, vI (if (fX0_has D x3 x6) = 0 then (x4 : Int) else (if (fX0_windOn D o x1 (D (o + 7) x6.toNat)) = 0 then ((b_ior x4 (b_ishl 1 x6)) : Int) else x4)), vI (if v42 = 0 then (x5 : Int) else (if v40 ≤ (D (o + 12) (((x1 * 8) + x6)).toNat) then (x5 : Int) else (b_ior x5 (b_ishl 1 x6)))), vI x6, vI v_, vI (fX0_windOn D o x1 (D (o + 7) x6.toNat)), vI v40, vI v42] [] D) hJ56 c57
                        have o63 := o55.2 c57
                        exact hJ56
                      · replace hJ56 := ite_t (P := fun v_ : Int => WP mX0_pass Q 206 [vR o, vI x1, vI x2, vI x3, vI (if (fX0_has D x3 x6) = 0 then (x4 : Int) else (if (fX0_windOn D o x1 (D (o + 7) x6.toNat)) = 0 then ((b_ior x4 (b_ishl 1 x6)) : Int) else x4)), vI (if v42 = 0 then (x5 : Int) else (if v40 ≤ (D (o + 12) (((x1 * 8) + x6)).toNat) then (x5 : Int) else (b_ior x5 (b_ishl 1 x6)))), vI x6, vI v_, vI (fX0_windOn D o x1 (D (o + 7) x6.toNat)), vI v40, vI v42] [] D) hJ56 c57
                        have o58 := o55.1 c57
                        refine WP_iload (z := (D (o + 12) (((x1 * 8) + x6)).toNat)) dX0_pass_197 rfl ?_
                        refine WP_iconst (z := 1) dX0_pass_199 rfl ⟨by decide, by decide⟩ ?_
                        refine WP_via (pc1 := 206) (ls1 := [vR o, vI x1, vI x2, vI x3, vI (if (fX0_has D x3 x6) = 0 then (x4 : Int) else (if (fX0_windOn D o x1 (D (o + 7) x6.toNat)) = 0 then ((b_ior x4 (b_ishl 1 x6)) : Int) else x4)), vI (if v42 = 0 then (x5 : Int) else (if v40 ≤ (D (o + 12) (((x1 * 8) + x6)).toNat) then (x5 : Int) else (b_ior x5 (b_ishl 1 x6)))), vI x6, vI (if (D (o + 12) (((x1 * 8) + x6)).toNat) ≤ 1 then ((D (o + 12) (((x1 * 8) + x6)).toNat) : Int) else ((D (o + 12) (((x1 * 8) + x6)).toNat) - 1)), vI (fX0_windOn D o x1 (D (o + 7) x6.toNat)), vI v40, vI v42]) (st1 := []) (D1 := D) (fun hJ59 => ?_) ?_
                        · refine WP_icmp_le (tgt := 206) dX0_pass_200 (by decide) (fun c60 => ?_) (fun c60 => ?_)
                          · replace hJ59 := ite_t (P := fun v_ : Int => WP mX0_pass Q 206 [vR o, vI x1, vI x2, vI x3, vI (if (fX0_has D x3 x6) = 0 then (x4 : Int) else (if (fX0_windOn D o x1 (D (o + 7) x6.toNat)) = 0 then ((b_ior x4 (b_ishl 1 x6)) : Int) else x4)), vI (if v42 = 0 then (x5 : Int) else (if v40 ≤ (D (o + 12) (((x1 * 8) + x6)).toNat) then (x5 : Int) else (b_ior x5 (b_ishl 1 x6)))), vI x6, vI v_, vI (fX0_windOn D o x1 (D (o + 7) x6.toNat)), vI v40, vI v42] [] D) hJ59 c60
                            have o61 := o58.1 c60
                            exact hJ59
                          · replace hJ59 := ite_f (P := fun v_ : Int => WP mX0_pass Q 206 [vR o, vI x1, vI x2, vI x3, vI (if (fX0_has D x3 x6) = 0 then (x4 : Int) else (if (fX0_windOn D o x1 (D (o + 7) x6.toNat)) = 0 then ((b_ior x4 (b_ishl 1 x6)) : Int) else x4)), vI (if v42 = 0 then (x5 : Int) else (if v40 ≤ (D (o + 12) (((x1 * 8) + x6)).toNat) then (x5 : Int) else (b_ior x5 (b_ishl 1 x6)))), vI x6, vI v_, vI (fX0_windOn D o x1 (D (o + 7) x6.toNat)), vI v40, vI v42] [] D) hJ59 c60
                            have o62 := o58.2 c60
                            refine WP_iinc (z := ((D (o + 12) (((x1 * 8) + x6)).toNat) - 1)) (ls1 := [vR o, vI x1, vI x2, vI x3, vI (if (fX0_has D x3 x6) = 0 then (x4 : Int) else (if (fX0_windOn D o x1 (D (o + 7) x6.toNat)) = 0 then ((b_ior x4 (b_ishl 1 x6)) : Int) else x4)), vI (if v42 = 0 then (x5 : Int) else (if v40 ≤ (D (o + 12) (((x1 * 8) + x6)).toNat) then (x5 : Int) else (b_ior x5 (b_ishl 1 x6)))), vI x6, vI ((D (o + 12) (((x1 * 8) + x6)).toNat) - 1), vI (fX0_windOn D o x1 (D (o + 7) x6.toNat)), vI v40, vI v42]) dX0_pass_203 rfl (w32_id o62) (by decide) rfl ?_
                            exact hJ59
                        exact hJ56
                    exact hJ52
                · refine WP_aload_n (z := o) dX0_pass_206 rfl ?_
                  refine WP_getR (z := (o + 12)) dX0_pass_207 fl_RX0_29 (kcC_0 ho) rfl (srC_0_4 ho) ?_
                  refine WP_iload_n (z := x1) dX0_pass_210 rfl ?_
                  refine WP_iconst (z := 1) dX0_pass_211 rfl ⟨by decide, by decide⟩ ?_
                  obtain ⟨o51, h⟩ := h
                  refine WP_iadd (z := (x1 + 1)) dX0_pass_212 (w32_id o51) ?_
                  refine WP_bipush (z := 8) dX0_pass_213 rfl (by decide) ?_
                  obtain ⟨o50, h⟩ := h
                  refine WP_imul (z := ((x1 + 1) * 8)) dX0_pass_215 (w32_id o50) ?_
                  refine WP_iload (z := x6) dX0_pass_216 rfl ?_
                  obtain ⟨o49, h⟩ := h
                  refine WP_iadd (z := (((x1 + 1) * 8) + x6)) dX0_pass_218 (w32_id o49) ?_
                  refine WP_iload (z := (if v42 = 0 then ((D (o + 12) (((x1 * 8) + x6)).toNat) : Int) else (if v40 = (D (o + 12) (((x1 * 8) + x6)).toNat) then ((if (D (o + 12) (((x1 * 8) + x6)).toNat) ≤ 1 then ((D (o + 12) (((x1 * 8) + x6)).toNat) : Int) else ((D (o + 12) (((x1 * 8) + x6)).toNat) - 1)) : Int) else (D (o + 12) (((x1 * 8) + x6)).toNat)))) dX0_pass_219 rfl ?_
                  obtain ⟨o48, h⟩ := h
                  refine WP_iast dX0_pass_221 (kcC_12 ho) o48.1 o48.2 ?_
                  obtain ⟨E45, hE46⟩ : ∃ E45 : HP, E45 = (hu D (o + 12) ((((x1 + 1) * 8) + x6)).toNat (if v42 = 0 then ((D (o + 12) (((x1 * 8) + x6)).toNat) : Int) else (if v40 = (D (o + 12) (((x1 * 8) + x6)).toNat) then ((if (D (o + 12) (((x1 * 8) + x6)).toNat) ≤ 1 then ((D (o + 12) (((x1 * 8) + x6)).toNat) : Int) else ((D (o + 12) (((x1 * 8) + x6)).toNat) - 1)) : Int) else (D (o + 12) (((x1 * 8) + x6)).toNat)))) := ⟨_, rfl⟩
                  replace h := h E45 hE46
                  show WP mX0_pass Q 222 [vR o, vI x1, vI x2, vI x3, vI (if (fX0_has D x3 x6) = 0 then (x4 : Int) else (if (fX0_windOn D o x1 (D (o + 7) x6.toNat)) = 0 then ((b_ior x4 (b_ishl 1 x6)) : Int) else x4)), vI (if v42 = 0 then (x5 : Int) else (if v40 ≤ (D (o + 12) (((x1 * 8) + x6)).toNat) then (x5 : Int) else (b_ior x5 (b_ishl 1 x6)))), vI x6, vI (if v42 = 0 then ((D (o + 12) (((x1 * 8) + x6)).toNat) : Int) else (if v40 = (D (o + 12) (((x1 * 8) + x6)).toNat) then ((if (D (o + 12) (((x1 * 8) + x6)).toNat) ≤ 1 then ((D (o + 12) (((x1 * 8) + x6)).toNat) : Int) else ((D (o + 12) (((x1 * 8) + x6)).toNat) - 1)) : Int) else (D (o + 12) (((x1 * 8) + x6)).toNat))), vI (fX0_windOn D o x1 (D (o + 7) x6.toNat)), vI v40, vI v42] [] (hu D (o + 12) ((((x1 + 1) * 8) + x6)).toNat (if v42 = 0 then ((D (o + 12) (((x1 * 8) + x6)).toNat) : Int) else (if v40 = (D (o + 12) (((x1 * 8) + x6)).toNat) then ((if (D (o + 12) (((x1 * 8) + x6)).toNat) ≤ 1 then ((D (o + 12) (((x1 * 8) + x6)).toNat) : Int) else ((D (o + 12) (((x1 * 8) + x6)).toNat) - 1)) : Int) else (D (o + 12) (((x1 * 8) + x6)).toNat))))
                  rw [← hE46]
                  obtain ⟨o47, h⟩ := h
                  refine WP_iinc (z := (x6 + 1)) (ls1 := [vR o, vI x1, vI x2, vI x3, vI (if (fX0_has D x3 x6) = 0 then (x4 : Int) else (if (fX0_windOn D o x1 (D (o + 7) x6.toNat)) = 0 then ((b_ior x4 (b_ishl 1 x6)) : Int) else x4)), vI (if v42 = 0 then (x5 : Int) else (if v40 ≤ (D (o + 12) (((x1 * 8) + x6)).toNat) then (x5 : Int) else (b_ior x5 (b_ishl 1 x6)))), vI (x6 + 1), vI (if v42 = 0 then ((D (o + 12) (((x1 * 8) + x6)).toNat) : Int) else (if v40 = (D (o + 12) (((x1 * 8) + x6)).toNat) then ((if (D (o + 12) (((x1 * 8) + x6)).toNat) ≤ 1 then ((D (o + 12) (((x1 * 8) + x6)).toNat) : Int) else ((D (o + 12) (((x1 * 8) + x6)).toNat) - 1)) : Int) else (D (o + 12) (((x1 * 8) + x6)).toNat))), vI (fX0_windOn D o x1 (D (o + 7) x6.toNat)), vI v40, vI v42]) dX0_pass_222 rfl (w32_id o47) (by decide) rfl ?_
                  refine WP_goto (tgt := 59) dX0_pass_225 (by decide) ?_
                  refine WP_fg 7 (ls1 := [vR o, vI x1, vI x2, vI x3, vI (if (fX0_has D x3 x6) = 0 then (x4 : Int) else (if (fX0_windOn D o x1 (D (o + 7) x6.toNat)) = 0 then ((b_ior x4 (b_ishl 1 x6)) : Int) else x4)), vI (if v42 = 0 then (x5 : Int) else (if v40 ≤ (D (o + 12) (((x1 * 8) + x6)).toNat) then (x5 : Int) else (b_ior x5 (b_ishl 1 x6)))), vI (x6 + 1), vU, vI (fX0_windOn D o x1 (D (o + 7) x6.toNat)), vI v40, vI v42]) rfl ?_
                  refine WP_fg 8 (ls1 := [vR o, vI x1, vI x2, vI x3, vI (if (fX0_has D x3 x6) = 0 then (x4 : Int) else (if (fX0_windOn D o x1 (D (o + 7) x6.toNat)) = 0 then ((b_ior x4 (b_ishl 1 x6)) : Int) else x4)), vI (if v42 = 0 then (x5 : Int) else (if v40 ≤ (D (o + 12) (((x1 * 8) + x6)).toNat) then (x5 : Int) else (b_ior x5 (b_ishl 1 x6)))), vI (x6 + 1), vU, vU, vI v40, vI v42]) rfl ?_
                  refine WP_fg 9 (ls1 := [vR o, vI x1, vI x2, vI x3, vI (if (fX0_has D x3 x6) = 0 then (x4 : Int) else (if (fX0_windOn D o x1 (D (o + 7) x6.toNat)) = 0 then ((b_ior x4 (b_ishl 1 x6)) : Int) else x4)), vI (if v42 = 0 then (x5 : Int) else (if v40 ≤ (D (o + 12) (((x1 * 8) + x6)).toNat) then (x5 : Int) else (b_ior x5 (b_ishl 1 x6)))), vI (x6 + 1), vU, vU, vU, vI v42]) rfl ?_
                  refine WP_fg 10 (ls1 := [vR o, vI x1, vI x2, vI x3, vI (if (fX0_has D x3 x6) = 0 then (x4 : Int) else (if (fX0_windOn D o x1 (D (o + 7) x6.toNat)) = 0 then ((b_ior x4 (b_ishl 1 x6)) : Int) else x4)), vI (if v42 = 0 then (x5 : Int) else (if v40 ≤ (D (o + 12) (((x1 * 8) + x6)).toNat) then (x5 : Int) else (b_ior x5 (b_ishl 1 x6)))), vI (x6 + 1), vU, vU, vU, vU]) rfl ?_
                  exact ih59_ _ _ _ _ _ _ _ h.1 (by have := h.2; omega)
  have cut59_ : ∀ (x1 x2 x3 x4 x5 x6 : Int) (D : HP), I59 x1 x2 x3 x4 x5 x6 D → WP mX0_pass Q 59 [vR o, vI x1, vI x2, vI x3, vI x4, vI x5, vI x6, vU, vU, vU, vU] [] D := fun x1 x2 x3 x4 x5 x6 D hI => (IH (u59 x1 x2 x3 x4 x5 x6 D * 1 + 0 + 1)) x1 x2 x3 x4 x5 x6 D hI (by omega)
  refine WP_cD (fun hcD => ?_)
  refine WP_cl (fun hcl => ?_)
  have h := h0 hcD (cVs_g hcl (i := 1) (v := vI a) rfl)
  refine WP_iload_n (z := a) dX0_pass_0 rfl ?_
  refine WP_if_lt (tgt := 21) dX0_pass_1 (by decide) (fun c1 => ?_) (fun c1 => ?_)
  · replace h := h.1 c1
    exact WP_return dX0_pass_21 rfl h
  · replace h := h.2 c1
    refine WP_iload_n (z := a) dX0_pass_4 rfl ?_
    refine WP_aload_n (z := o) dX0_pass_5 rfl ?_
    refine WP_getR (z := (o + 1)) dX0_pass_6 fl_RX0_12 (kcC_0 ho) rfl (srC_0_0 ho) ?_
    refine WP_getI dX0_pass_9 fl_RX0_54 (kcC_1 ho) rfl rfl ?_
    refine WP_icmp_ge (tgt := 21) dX0_pass_12 (by decide) (fun c2 => ?_) (fun c2 => ?_)
    · replace h := h.1 c2
      exact WP_return dX0_pass_21 rfl h
    · replace h := h.2 c2
      refine WP_iload_n (z := a) dX0_pass_15 rfl ?_
      refine WP_bipush (z := 12) dX0_pass_16 rfl (by decide) ?_
      refine WP_icmp_lt (tgt := 22) dX0_pass_18 (by decide) (fun c3 => ?_) (fun c3 => ?_)
      · replace h := h.1 c3
        refine WP_aload_n (z := o) dX0_pass_22 rfl ?_
        refine WP_getR (z := (o + 11)) dX0_pass_23 fl_RX0_26 (kcC_0 ho) rfl (srC_0_3 ho) ?_
        refine WP_iload_n (z := a) dX0_pass_26 rfl ?_
        obtain ⟨o11, h⟩ := h
        refine WP_iald dX0_pass_27 (kcC_11 ho) o11.1 o11.2 rfl ?_
        refine WP_istore_n (ls1 := [vR o, vI a, vI (D (o + 11) a.toNat), vU, vU, vU, vU, vU, vU, vU, vU]) dX0_pass_28 (by decide) rfl ?_
        refine WP_iload_n (z := a) dX0_pass_29 rfl ?_
        obtain ⟨o4, h⟩ := h
        refine WP_via (pc1 := 49) (ls1 := [vR o, vI a, vI (D (o + 11) a.toNat), vU, vU, vU, vU, vU, vU, vU, vU]) (st1 := [vI (if a = 0 then (0 : Int) else (b_iand (D (o + 11) a.toNat) (b_ixor (D (o + 11) ((a - 1)).toNat) (-1))))]) (D1 := D) (fun hJ7 => ?_) ?_
        · refine WP_if_ne (tgt := 37) dX0_pass_30 (by decide) (fun c8 => ?_) (fun c8 => ?_)
          · replace hJ7 := ite_f (P := fun v_ : Int => WP mX0_pass Q 49 [vR o, vI a, vI (D (o + 11) a.toNat), vU, vU, vU, vU, vU, vU, vU, vU] [vI v_] D) hJ7 c8
            have o10 := o4.2 c8
            refine WP_iload_n (z := (D (o + 11) a.toNat)) dX0_pass_37 rfl ?_
            refine WP_aload_n (z := o) dX0_pass_38 rfl ?_
            refine WP_getR (z := (o + 11)) dX0_pass_39 fl_RX0_26 (kcC_0 ho) rfl (srC_0_3 ho) ?_
            refine WP_iload_n (z := a) dX0_pass_42 rfl ?_
            refine WP_iconst (z := 1) dX0_pass_43 rfl ⟨by decide, by decide⟩ ?_
            refine WP_isub (z := (a - 1)) dX0_pass_44 (w32_id o10.1) ?_
            refine WP_iald dX0_pass_45 (kcC_11 ho) o10.2.1 o10.2.2 rfl ?_
            refine WP_iconst (z := (-1)) dX0_pass_46 rfl ⟨by decide, by decide⟩ ?_
            refine WP_ixor dX0_pass_47 rfl ?_
            refine WP_iand dX0_pass_48 rfl ?_
            exact hJ7
          · replace hJ7 := ite_t (P := fun v_ : Int => WP mX0_pass Q 49 [vR o, vI a, vI (D (o + 11) a.toNat), vU, vU, vU, vU, vU, vU, vU, vU] [vI v_] D) hJ7 c8
            have o9 := o4.1 c8
            refine WP_iconst (z := 0) dX0_pass_33 rfl ⟨by decide, by decide⟩ ?_
            refine WP_goto (tgt := 49) dX0_pass_34 (by decide) ?_
            exact hJ7
        · refine WP_istore_n (ls1 := [vR o, vI a, vI (D (o + 11) a.toNat), vI (if a = 0 then (0 : Int) else (b_iand (D (o + 11) a.toNat) (b_ixor (D (o + 11) ((a - 1)).toNat) (-1)))), vU, vU, vU, vU, vU, vU, vU]) dX0_pass_49 (by decide) rfl ?_
          obtain ⟨v5, hv6⟩ : ∃ v5 : Int, v5 = (if a = 0 then (0 : Int) else (b_iand (D (o + 11) a.toNat) (b_ixor (D (o + 11) ((a - 1)).toNat) (-1)))) := ⟨_, rfl⟩
          replace h := h v5 hv6
          rw [← hv6]
          refine WP_iconst (z := 0) dX0_pass_50 rfl ⟨by decide, by decide⟩ ?_
          refine WP_istore (ls1 := [vR o, vI a, vI (D (o + 11) a.toNat), vI v5, vI 0, vU, vU, vU, vU, vU, vU]) dX0_pass_51 (by decide) rfl ?_
          refine WP_iconst (z := 0) dX0_pass_53 rfl ⟨by decide, by decide⟩ ?_
          refine WP_istore (ls1 := [vR o, vI a, vI (D (o + 11) a.toNat), vI v5, vI 0, vI 0, vU, vU, vU, vU, vU]) dX0_pass_54 (by decide) rfl ?_
          refine WP_iconst (z := 0) dX0_pass_56 rfl ⟨by decide, by decide⟩ ?_
          refine WP_istore (ls1 := [vR o, vI a, vI (D (o + 11) a.toNat), vI v5, vI 0, vI 0, vI 0, vU, vU, vU, vU]) dX0_pass_57 (by decide) rfl ?_
          exact cut59_ _ _ _ _ _ _ _ h
      · replace h := h.2 c3
        exact WP_return dX0_pass_21 rfl h
set_option maxRecDepth 100000 in
set_option maxHeartbeats 4000000 in
theorem V_X0_end {o : Nat} (ho : o = 9 ∨ o = 25) {D : HP} {Q : Option MV → HP → Prop}
    (h0 : cD D → ((c32 ((D (o + 1) 2) - 1)) ∧ (∃ Q1 : Option MV → HP → Prop, CT mX0_elect [vR o, vI ((D (o + 1) 2) - 1), vI 0] D Q1 ∧ ∀ (D4 : HP), Q1 none D4 → cD D4 → (Q none D4))))
    : CT mX0_end [vR o] D Q := by
  refine CT.of 0 (by decide) (Nat.le_of_ble_eq_true rfl) ?_
  show WP mX0_end Q 0 [vR o] [] D
  refine WP_cD (fun hcD => ?_)
  have h := h0 hcD
  refine WP_aload_n (z := o) dX0_end_0 rfl ?_
  refine WP_aload_n (z := o) dX0_end_1 rfl ?_
  refine WP_getR (z := (o + 1)) dX0_end_2 fl_RX0_12 (kcC_0 ho) rfl (srC_0_0 ho) ?_
  refine WP_getI dX0_end_5 fl_RX0_54 (kcC_1 ho) rfl rfl ?_
  refine WP_iconst (z := 1) dX0_end_8 rfl ⟨by decide, by decide⟩ ?_
  obtain ⟨o8, h⟩ := h
  refine WP_isub (z := ((D (o + 1) 2) - 1)) dX0_end_9 (w32_id o8) ?_
  refine WP_iconst (z := 0) dX0_end_10 rfl ⟨by decide, by decide⟩ ?_
  obtain ⟨Q1, ct3, h⟩ := h
  refine WP_callV (g := mX0_elect) (as := [vI ((D (o + 1) 2) - 1), vI 0]) (rest := []) (n := 2) dX0_end_11 wm_246 mo_X0_elect (kcC_0 ho) rfl rfl rfl ⟨Nat.le_of_ble_eq_true rfl, Nat.le_of_ble_eq_true rfl⟩ (Nat.le_of_ble_eq_true rfl) ct3 (fun r_ D4 hq2 hok hD7 => ?_)
  obtain rfl := hok
  replace h := h D4 hq2 hD7
  show WP mX0_end Q 14 [vR o] [] D4
  exact WP_return dX0_end_14 rfl h
set_option maxRecDepth 100000 in
set_option maxHeartbeats 4000000 in
theorem V_X0_runOnFrom {o : Nat} (ho : o = 9 ∨ o = 25) (a : Int) {D : HP} {Q : Option MV → HP → Prop} (I6 : Int → Int → HP → Prop) (u6 : Int → Int → HP → Nat)
    (h0 : cD D → c32 a → (I6 a (if 0 < a then (a : Int) else 0) D))
    (h6 : ∀ (x1 x2 : Int) (D : HP), I6 x1 x2 D → cD D → c32 x1 → c32 x2 → (((D (o + 1) 2) ≤ x2 → (∃ Q2 : Option MV → HP → Prop, CT mX0_end [vR o] D Q2 ∧ ∀ (D5 : HP), Q2 none D5 → cD D5 → (Q none D5))) ∧ (¬ ((D (o + 1) 2) ≤ x2) → (∃ Q9 : Option MV → HP → Prop, CT mX0_pass [vR o, vI x2] D Q9 ∧ ∀ (D12 : HP), Q9 none D12 → cD D12 → ((c32 (x2 + 1)) ∧ (I6 x1 (x2 + 1) D12 ∧ u6 x1 (x2 + 1) D12 < u6 x1 x2 D))))))
    : CT mX0_runOnFrom [vR o, vI a] D Q := by
  refine CT.of 1 (by decide) (Nat.le_of_ble_eq_true rfl) ?_
  show WP mX0_runOnFrom Q 0 [vR o, vI a, vU] [] D
  have IH : ∀ n : Nat, (∀ (x1 x2 : Int) (D : HP), I6 x1 x2 D → u6 x1 x2 D * 1 + 0 < n → WP mX0_runOnFrom Q 6 [vR o, vI x1, vI x2] [] D) := by
    intro n
    induction n with
    | zero => exact fun _ _ _ _ h => absurd h (Nat.not_lt_zero _)
    | succ n ih =>
      have ih6_ := ih
      · intro x1 x2 D hI hn
        refine WP_cD (fun hcD => ?_)
        refine WP_cl (fun hcl => ?_)
        have h := h6 x1 x2 D hI hcD (cVs_g hcl (i := 1) (v := vI x1) rfl) (cVs_g hcl (i := 2) (v := vI x2) rfl)
        refine WP_iload_n (z := x2) dX0_runOnFrom_6 rfl ?_
        refine WP_aload_n (z := o) dX0_runOnFrom_7 rfl ?_
        refine WP_getR (z := (o + 1)) dX0_runOnFrom_8 fl_RX0_12 (kcC_0 ho) rfl (srC_0_0 ho) ?_
        refine WP_getI dX0_runOnFrom_11 fl_RX0_54 (kcC_1 ho) rfl rfl ?_
        refine WP_icmp_ge (tgt := 28) dX0_runOnFrom_14 (by decide) (fun c1 => ?_) (fun c1 => ?_)
        · replace h := h.1 c1
          refine WP_aload_n (z := o) dX0_runOnFrom_28 rfl ?_
          obtain ⟨Q2, ct4, h⟩ := h
          refine WP_callV (g := mX0_end) (as := []) (rest := []) (n := 0) dX0_runOnFrom_29 wm_250 mo_X0_end (kcC_0 ho) rfl rfl rfl ⟨Nat.le_of_ble_eq_true rfl, Nat.le_of_ble_eq_true rfl⟩ (Nat.le_of_ble_eq_true rfl) ct4 (fun r_ D5 hq3 hok hD8 => ?_)
          obtain rfl := hok
          replace h := h D5 hq3 hD8
          show WP mX0_runOnFrom Q 32 [vR o, vI x1, vI x2] [] D5
          exact WP_return dX0_runOnFrom_32 rfl h
        · replace h := h.2 c1
          refine WP_aload_n (z := o) dX0_runOnFrom_17 rfl ?_
          refine WP_iload_n (z := x2) dX0_runOnFrom_18 rfl ?_
          obtain ⟨Q9, ct11, h⟩ := h
          refine WP_callV (g := mX0_pass) (as := [vI x2]) (rest := []) (n := 1) dX0_runOnFrom_19 wm_226 mo_X0_pass (kcC_0 ho) rfl rfl rfl ⟨Nat.le_of_ble_eq_true rfl, Nat.le_of_ble_eq_true rfl⟩ (Nat.le_of_ble_eq_true rfl) ct11 (fun r_ D12 hq10 hok hD15 => ?_)
          obtain rfl := hok
          replace h := h D12 hq10 hD15
          show WP mX0_runOnFrom Q 22 [vR o, vI x1, vI x2] [] D12
          obtain ⟨o16, h⟩ := h
          refine WP_iinc (z := (x2 + 1)) (ls1 := [vR o, vI x1, vI (x2 + 1)]) dX0_runOnFrom_22 rfl (w32_id o16) (by decide) rfl ?_
          refine WP_goto (tgt := 6) dX0_runOnFrom_25 (by decide) ?_
          exact ih6_ _ _ _ h.1 (by have := h.2; omega)
  have cut6_ : ∀ (x1 x2 : Int) (D : HP), I6 x1 x2 D → WP mX0_runOnFrom Q 6 [vR o, vI x1, vI x2] [] D := fun x1 x2 D hI => (IH (u6 x1 x2 D * 1 + 0 + 1)) x1 x2 D hI (by omega)
  refine WP_cD (fun hcD => ?_)
  refine WP_cl (fun hcl => ?_)
  have h := h0 hcD (cVs_g hcl (i := 1) (v := vI a) rfl)
  refine WP_iconst (z := 0) dX0_runOnFrom_0 rfl ⟨by decide, by decide⟩ ?_
  refine WP_iload_n (z := a) dX0_runOnFrom_1 rfl ?_
  refine WP_max dX0_runOnFrom_2 wm_222 w_max ⟨Nat.le_of_ble_eq_true rfl, Nat.le_of_ble_eq_true rfl⟩ (Nat.le_of_ble_eq_true rfl) rfl ?_
  refine WP_istore_n (ls1 := [vR o, vI a, vI (if 0 < a then (a : Int) else 0)]) dX0_runOnFrom_5 (by decide) rfl ?_
  exact cut6_ _ _ _ h
set_option maxRecDepth 100000 in
set_option maxHeartbeats 4000000 in
theorem V_X0_run {o : Nat} (ho : o = 9 ∨ o = 25) {D : HP} {Q : Option MV → HP → Prop}
    (h0 : cD D → (∃ Q1 : Option MV → HP → Prop, CT mX0_start [vR o] D Q1 ∧ ∀ (D4 : HP), Q1 none D4 → cD D4 → (∃ Q8 : Option MV → HP → Prop, CT mX0_runOnFrom [vR o, vI 0] D4 Q8 ∧ ∀ (D11 : HP), Q8 none D11 → cD D11 → (Q none D11))))
    : CT mX0_run [vR o] D Q := by
  refine CT.of 0 (by decide) (Nat.le_of_ble_eq_true rfl) ?_
  show WP mX0_run Q 0 [vR o] [] D
  refine WP_cD (fun hcD => ?_)
  have h := h0 hcD
  refine WP_aload_n (z := o) dX0_run_0 rfl ?_
  obtain ⟨Q1, ct3, h⟩ := h
  refine WP_callV (g := mX0_start) (as := []) (rest := []) (n := 0) dX0_run_1 wm_205 mo_X0_start (kcC_0 ho) rfl rfl rfl ⟨Nat.le_of_ble_eq_true rfl, Nat.le_of_ble_eq_true rfl⟩ (Nat.le_of_ble_eq_true rfl) ct3 (fun r_ D4 hq2 hok hD7 => ?_)
  obtain rfl := hok
  replace h := h D4 hq2 hD7
  show WP mX0_run Q 4 [vR o] [] D4
  refine WP_aload_n (z := o) dX0_run_4 rfl ?_
  refine WP_iconst (z := 0) dX0_run_5 rfl ⟨by decide, by decide⟩ ?_
  obtain ⟨Q8, ct10, h⟩ := h
  refine WP_callV (g := mX0_runOnFrom) (as := [vI 0]) (rest := []) (n := 1) dX0_run_6 wm_218 mo_X0_runOnFrom (kcC_0 ho) rfl rfl rfl ⟨Nat.le_of_ble_eq_true rfl, Nat.le_of_ble_eq_true rfl⟩ (Nat.le_of_ble_eq_true rfl) ct10 (fun r_ D11 hq9 hok hD14 => ?_)
  obtain rfl := hok
  replace h := h D11 hq9 hD14
  show WP mX0_run Q 9 [vR o] [] D11
  exact WP_return dX0_run_9 rfl h
set_option maxRecDepth 100000 in
set_option maxHeartbeats 4000000 in
theorem V_X0_runUntilTurned {o : Nat} (ho : o = 9 ∨ o = 25) (a : Int) {D : HP} {Q : Option MV → HP → Prop} (I6 : Int → Int → HP → Prop) (u6 : Int → Int → HP → Nat)
    (h0 : cD D → c32 a → (∃ Q1 : Option MV → HP → Prop, CT mX0_start [vR o] D Q1 ∧ ∀ (D4 : HP), Q1 none D4 → cD D4 → (I6 a 0 D4)))
    (h6 : ∀ (x1 x2 : Int) (D : HP), I6 x1 x2 D → cD D → c32 x1 → c32 x2 → (((D (o + 1) 2) ≤ x2 → (Q (some (vI (-1))) D)) ∧ (¬ ((D (o + 1) 2) ≤ x2) → ((12 ≤ x2 → (Q (some (vI (-1))) D)) ∧ (¬ (12 ≤ x2) → (∃ Q10 : Option MV → HP → Prop, CT mX0_pass [vR o, vI x2] D Q10 ∧ ∀ (D13 : HP), Q10 none D13 → cD D13 → ((c32 (x2 + 1)) ∧ ((0 ≤ (x2 + 1) ∧ (x2 + 1) < 13) ∧ (((fX0_has D13 (D13 (o + 11) ((x2 + 1)).toNat) x1) = 0 → ((c32 (x2 + 1)) ∧ (I6 x1 (x2 + 1) D13 ∧ u6 x1 (x2 + 1) D13 < u6 x1 x2 D))) ∧ (¬ ((fX0_has D13 (D13 (o + 11) ((x2 + 1)).toNat) x1) = 0) → (Q (some (vI x2)) D13)))))))))))
    : CT mX0_runUntilTurned [vR o, vI a] D Q := by
  refine CT.of 1 (by decide) (Nat.le_of_ble_eq_true rfl) ?_
  show WP mX0_runUntilTurned Q 0 [vR o, vI a, vU] [] D
  have IH : ∀ n : Nat, (∀ (x1 x2 : Int) (D : HP), I6 x1 x2 D → u6 x1 x2 D * 1 + 0 < n → WP mX0_runUntilTurned Q 6 [vR o, vI x1, vI x2] [] D) := by
    intro n
    induction n with
    | zero => exact fun _ _ _ _ h => absurd h (Nat.not_lt_zero _)
    | succ n ih =>
      have ih6_ := ih
      · intro x1 x2 D hI hn
        refine WP_cD (fun hcD => ?_)
        refine WP_cl (fun hcl => ?_)
        have h := h6 x1 x2 D hI hcD (cVs_g hcl (i := 1) (v := vI x1) rfl) (cVs_g hcl (i := 2) (v := vI x2) rfl)
        refine WP_iload_n (z := x2) dX0_runUntilTurned_6 rfl ?_
        refine WP_aload_n (z := o) dX0_runUntilTurned_7 rfl ?_
        refine WP_getR (z := (o + 1)) dX0_runUntilTurned_8 fl_RX0_12 (kcC_0 ho) rfl (srC_0_0 ho) ?_
        refine WP_getI dX0_runUntilTurned_11 fl_RX0_54 (kcC_1 ho) rfl rfl ?_
        refine WP_icmp_ge (tgt := 51) dX0_runUntilTurned_14 (by decide) (fun c8 => ?_) (fun c8 => ?_)
        · replace h := h.1 c8
          refine WP_iconst (z := (-1)) dX0_runUntilTurned_51 rfl ⟨by decide, by decide⟩ ?_
          exact WP_ireturn dX0_runUntilTurned_52 rfl h
        · replace h := h.2 c8
          refine WP_iload_n (z := x2) dX0_runUntilTurned_17 rfl ?_
          refine WP_bipush (z := 12) dX0_runUntilTurned_18 rfl (by decide) ?_
          refine WP_icmp_ge (tgt := 51) dX0_runUntilTurned_20 (by decide) (fun c9 => ?_) (fun c9 => ?_)
          · replace h := h.1 c9
            refine WP_iconst (z := (-1)) dX0_runUntilTurned_51 rfl ⟨by decide, by decide⟩ ?_
            exact WP_ireturn dX0_runUntilTurned_52 rfl h
          · replace h := h.2 c9
            refine WP_aload_n (z := o) dX0_runUntilTurned_23 rfl ?_
            refine WP_iload_n (z := x2) dX0_runUntilTurned_24 rfl ?_
            obtain ⟨Q10, ct12, h⟩ := h
            refine WP_callV (g := mX0_pass) (as := [vI x2]) (rest := []) (n := 1) dX0_runUntilTurned_25 wm_226 mo_X0_pass (kcC_0 ho) rfl rfl rfl ⟨Nat.le_of_ble_eq_true rfl, Nat.le_of_ble_eq_true rfl⟩ (Nat.le_of_ble_eq_true rfl) ct12 (fun r_ D13 hq11 hok hD16 => ?_)
            obtain rfl := hok
            replace h := h D13 hq11 hD16
            show WP mX0_runUntilTurned Q 28 [vR o, vI x1, vI x2] [] D13
            refine WP_aload_n (z := o) dX0_runUntilTurned_28 rfl ?_
            refine WP_getR (z := (o + 11)) dX0_runUntilTurned_29 fl_RX0_26 (kcC_0 ho) rfl (srC_0_3 ho) ?_
            refine WP_iload_n (z := x2) dX0_runUntilTurned_32 rfl ?_
            refine WP_iconst (z := 1) dX0_runUntilTurned_33 rfl ⟨by decide, by decide⟩ ?_
            obtain ⟨o20, h⟩ := h
            refine WP_iadd (z := (x2 + 1)) dX0_runUntilTurned_34 (w32_id o20) ?_
            obtain ⟨o19, h⟩ := h
            refine WP_iald dX0_runUntilTurned_35 (kcC_11 ho) o19.1 o19.2 rfl ?_
            refine WP_iload_n (z := x1) dX0_runUntilTurned_36 rfl ?_
            refine WP_pcallS (g := mX0_has) (as := [vI (D13 (o + 11) ((x2 + 1)).toNat), vI x1]) (rest := []) (n := 2) (r := vI (fX0_has D13 (D13 (o + 11) ((x2 + 1)).toNat) x1)) dX0_runUntilTurned_37 wm_243 mo_X0_has rfl rfl ⟨Nat.le_of_ble_eq_true rfl, Nat.le_of_ble_eq_true rfl⟩ (Nat.le_of_ble_eq_true rfl) (P_X0_has  trivial) ?_
            refine WP_if_eq (tgt := 45) dX0_runUntilTurned_40 (by decide) (fun c17 => ?_) (fun c17 => ?_)
            · replace h := h.1 c17
              obtain ⟨o18, h⟩ := h
              refine WP_iinc (z := (x2 + 1)) (ls1 := [vR o, vI x1, vI (x2 + 1)]) dX0_runUntilTurned_45 rfl (w32_id o18) (by decide) rfl ?_
              refine WP_goto (tgt := 6) dX0_runUntilTurned_48 (by decide) ?_
              exact ih6_ _ _ _ h.1 (by have := h.2; omega)
            · replace h := h.2 c17
              refine WP_iload_n (z := x2) dX0_runUntilTurned_43 rfl ?_
              exact WP_ireturn dX0_runUntilTurned_44 rfl h
  have cut6_ : ∀ (x1 x2 : Int) (D : HP), I6 x1 x2 D → WP mX0_runUntilTurned Q 6 [vR o, vI x1, vI x2] [] D := fun x1 x2 D hI => (IH (u6 x1 x2 D * 1 + 0 + 1)) x1 x2 D hI (by omega)
  refine WP_cD (fun hcD => ?_)
  refine WP_cl (fun hcl => ?_)
  have h := h0 hcD (cVs_g hcl (i := 1) (v := vI a) rfl)
  refine WP_aload_n (z := o) dX0_runUntilTurned_0 rfl ?_
  obtain ⟨Q1, ct3, h⟩ := h
  refine WP_callV (g := mX0_start) (as := []) (rest := []) (n := 0) dX0_runUntilTurned_1 wm_205 mo_X0_start (kcC_0 ho) rfl rfl rfl ⟨Nat.le_of_ble_eq_true rfl, Nat.le_of_ble_eq_true rfl⟩ (Nat.le_of_ble_eq_true rfl) ct3 (fun r_ D4 hq2 hok hD7 => ?_)
  obtain rfl := hok
  replace h := h D4 hq2 hD7
  show WP mX0_runUntilTurned Q 4 [vR o, vI a, vU] [] D4
  refine WP_iconst (z := 0) dX0_runUntilTurned_4 rfl ⟨by decide, by decide⟩ ?_
  refine WP_istore_n (ls1 := [vR o, vI a, vI 0]) dX0_runUntilTurned_5 (by decide) rfl ?_
  exact cut6_ _ _ _ h
def fX0_isSomewhere (D : HP) (o : Nat) (a : Int) : Int := (fX0_has D (D o 1) a)
theorem bfX0_isSomewhere (D : HP) (o : Nat) (a : Int) : fX0_isSomewhere D o a = 0 ∨ fX0_isSomewhere D o a = 1 := by unfold fX0_isSomewhere; exact (bfX0_has _ _ _)
def oX0_isSomewhere (D : HP) (o : Nat) (a : Int) : Prop := True
set_option maxRecDepth 100000 in
set_option maxHeartbeats 4000000 in
theorem V_X0_isSomewhere {o : Nat} (ho : o = 9 ∨ o = 25) (a : Int) {D : HP} {Q : Option MV → HP → Prop}
    (h0 : cD D → c32 a → (Q (some (vI (fX0_has D (D o 1) a))) D))
    : CT mX0_isSomewhere [vR o, vI a] D Q := by
  refine CT.of 0 (by decide) (Nat.le_of_ble_eq_true rfl) ?_
  show WP mX0_isSomewhere Q 0 [vR o, vI a] [] D
  refine WP_cD (fun hcD => ?_)
  refine WP_cl (fun hcl => ?_)
  have h := h0 hcD (cVs_g hcl (i := 1) (v := vI a) rfl)
  refine WP_aload_n (z := o) dX0_isSomewhere_0 rfl ?_
  refine WP_getI dX0_isSomewhere_1 fl_RX0_18 (kcC_0 ho) rfl rfl ?_
  refine WP_iload_n (z := a) dX0_isSomewhere_4 rfl ?_
  refine WP_pcallS (g := mX0_has) (as := [vI (D o 1), vI a]) (rest := []) (n := 2) (r := vI (fX0_has D (D o 1) a)) dX0_isSomewhere_5 wm_243 mo_X0_has rfl rfl ⟨Nat.le_of_ble_eq_true rfl, Nat.le_of_ble_eq_true rfl⟩ (Nat.le_of_ble_eq_true rfl) (P_X0_has  trivial) ?_
  exact WP_zreturn dX0_isSomewhere_8 rfl (bfX0_has _ _ _) h
set_option maxRecDepth 100000 in
set_option maxHeartbeats 4000000 in
theorem P_X0_isSomewhere {o : Nat} (ho : o = 9 ∨ o = 25) {a : Int} {D : HP} (hob : oX0_isSomewhere D o a) : CT mX0_isSomewhere [vR o, vI a] D (PF (vI (fX0_isSomewhere D o a)) D) := by
  refine V_X0_isSomewhere ho a (fun hcD hc_0 => ?_)
  obtain ⟨z, hz⟩ : ∃ z, z = fX0_isSomewhere D o a := ⟨_, rfl⟩
  rw [← hz]
  unfold fX0_isSomewhere at hz
  exact ⟨by rw [hz], rfl⟩
def fX0_isFree (D : HP) (o : Nat) (a : Int) : Int := (if (fX1_isCell D o a) = 0 then (0 : Int) else (if (fX1_isWall D o a) = 0 then ((if (D (o + 10) a.toNat) = 0 then (1 : Int) else 0) : Int) else 0))
theorem bfX0_isFree (D : HP) (o : Nat) (a : Int) : fX0_isFree D o a = 0 ∨ fX0_isFree D o a = 1 := by unfold fX0_isFree; exact (bool_ite (Or.inl rfl) (bool_ite (bool_ite (Or.inr rfl) (Or.inl rfl)) (Or.inl rfl)))
def oX0_isFree (D : HP) (o : Nat) (a : Int) : Prop := (((((fX1_isCell D o a) = 0) → True) ∧ (¬ ((fX1_isCell D o a) = 0) → (oX1_isWall D o a) ∧ ((((fX1_isWall D o a) = 0) → (0 ≤ a ∧ a < 25)) ∧ (¬ ((fX1_isWall D o a) = 0) → True)))) ∧ True)
set_option maxRecDepth 100000 in
set_option maxHeartbeats 4000000 in
theorem V_X0_isFree {o : Nat} (ho : o = 9 ∨ o = 25) (a : Int) {D : HP} {Q : Option MV → HP → Prop}
    (h0 : cD D → c32 a → (((((fX1_isCell D o a) = 0) → True) ∧ (¬ ((fX1_isCell D o a) = 0) → (oX1_isWall D o a) ∧ ((((fX1_isWall D o a) = 0) → (0 ≤ a ∧ a < 25)) ∧ (¬ ((fX1_isWall D o a) = 0) → True)))) ∧ (Q (some (vI (if (fX1_isCell D o a) = 0 then (0 : Int) else (if (fX1_isWall D o a) = 0 then ((if (D (o + 10) a.toNat) = 0 then (1 : Int) else 0) : Int) else 0)))) D)))
    : CT mX0_isFree [vR o, vI a] D Q := by
  refine CT.of 0 (by decide) (Nat.le_of_ble_eq_true rfl) ?_
  show WP mX0_isFree Q 0 [vR o, vI a] [] D
  refine WP_cD (fun hcD => ?_)
  refine WP_cl (fun hcl => ?_)
  have h := h0 hcD (cVs_g hcl (i := 1) (v := vI a) rfl)
  refine WP_aload_n (z := o) dX0_isFree_0 rfl ?_
  refine WP_getR (z := (o + 1)) dX0_isFree_1 fl_RX0_12 (kcC_0 ho) rfl (srC_0_0 ho) ?_
  refine WP_iload_n (z := a) dX0_isFree_4 rfl ?_
  refine WP_pcallV (g := mX1_isCell) (as := [vI a]) (rest := []) (n := 1) (r := vI (fX1_isCell D o a)) dX0_isFree_5 wm_216 mo_X1_isCell (kcC_1 ho) rfl rfl rfl ⟨Nat.le_of_ble_eq_true rfl, Nat.le_of_ble_eq_true rfl⟩ (Nat.le_of_ble_eq_true rfl) (P_X1_isCell ho trivial) ?_
  obtain ⟨o1, h⟩ := h
  refine WP_via (pc1 := 36) (ls1 := [vR o, vI a]) (st1 := [vI (if (fX1_isCell D o a) = 0 then (0 : Int) else (if (fX1_isWall D o a) = 0 then ((if (D (o + 10) a.toNat) = 0 then (1 : Int) else 0) : Int) else 0))]) (D1 := D) (fun hJ2 => ?_) ?_
  · refine WP_if_eq (tgt := 35) dX0_isFree_8 (by decide) (fun c3 => ?_) (fun c3 => ?_)
    · replace hJ2 := ite_t (P := fun v_ : Int => WP mX0_isFree Q 36 [vR o, vI a] [vI v_] D) hJ2 c3
      have o4 := o1.1 c3
      refine WP_iconst (z := 0) dX0_isFree_35 rfl ⟨by decide, by decide⟩ ?_
      exact hJ2
    · replace hJ2 := ite_f (P := fun v_ : Int => WP mX0_isFree Q 36 [vR o, vI a] [vI v_] D) hJ2 c3
      have o5 := o1.2 c3
      refine WP_aload_n (z := o) dX0_isFree_11 rfl ?_
      refine WP_getR (z := (o + 1)) dX0_isFree_12 fl_RX0_12 (kcC_0 ho) rfl (srC_0_0 ho) ?_
      refine WP_iload_n (z := a) dX0_isFree_15 rfl ?_
      refine WP_pcallV (g := mX1_isWall) (as := [vI a]) (rest := []) (n := 1) (r := vI (fX1_isWall D o a)) dX0_isFree_16 wm_217 mo_X1_isWall (kcC_1 ho) rfl rfl rfl ⟨Nat.le_of_ble_eq_true rfl, Nat.le_of_ble_eq_true rfl⟩ (Nat.le_of_ble_eq_true rfl) (P_X1_isWall ho o5.1) ?_
      refine WP_via (pc1 := 36) (ls1 := [vR o, vI a]) (st1 := [vI (if (fX1_isWall D o a) = 0 then ((if (D (o + 10) a.toNat) = 0 then (1 : Int) else 0) : Int) else 0)]) (D1 := D) (fun hJ6 => ?_) ?_
      · refine WP_if_ne (tgt := 35) dX0_isFree_19 (by decide) (fun c7 => ?_) (fun c7 => ?_)
        · replace hJ6 := ite_f (P := fun v_ : Int => WP mX0_isFree Q 36 [vR o, vI a] [vI v_] D) hJ6 c7
          have o11 := o5.2.2 c7
          refine WP_iconst (z := 0) dX0_isFree_35 rfl ⟨by decide, by decide⟩ ?_
          exact hJ6
        · replace hJ6 := ite_t (P := fun v_ : Int => WP mX0_isFree Q 36 [vR o, vI a] [vI v_] D) hJ6 c7
          have o8 := o5.2.1 c7
          refine WP_aload_n (z := o) dX0_isFree_22 rfl ?_
          refine WP_getR (z := (o + 10)) dX0_isFree_23 fl_RX0_22 (kcC_0 ho) rfl (srC_0_2 ho) ?_
          refine WP_iload_n (z := a) dX0_isFree_26 rfl ?_
          refine WP_iald dX0_isFree_27 (kcC_10 ho) o8.1 o8.2 rfl ?_
          refine WP_via (pc1 := 36) (ls1 := [vR o, vI a]) (st1 := [vI (if (D (o + 10) a.toNat) = 0 then (1 : Int) else 0)]) (D1 := D) (fun hJ9 => ?_) ?_
          · refine WP_if_ne (tgt := 35) dX0_isFree_28 (by decide) (fun c10 => ?_) (fun c10 => ?_)
            · replace hJ9 := ite_f (P := fun v_ : Int => WP mX0_isFree Q 36 [vR o, vI a] [vI v_] D) hJ9 c10
              refine WP_iconst (z := 0) dX0_isFree_35 rfl ⟨by decide, by decide⟩ ?_
              exact hJ9
            · replace hJ9 := ite_t (P := fun v_ : Int => WP mX0_isFree Q 36 [vR o, vI a] [vI v_] D) hJ9 c10
              refine WP_iconst (z := 1) dX0_isFree_31 rfl ⟨by decide, by decide⟩ ?_
              refine WP_goto (tgt := 36) dX0_isFree_32 (by decide) ?_
              exact hJ9
          exact hJ6
      exact hJ2
  · exact WP_zreturn dX0_isFree_36 rfl (bool_ite (Or.inl rfl) (bool_ite (bool_ite (Or.inr rfl) (Or.inl rfl)) (Or.inl rfl))) h
set_option maxRecDepth 100000 in
set_option maxHeartbeats 4000000 in
theorem P_X0_isFree {o : Nat} (ho : o = 9 ∨ o = 25) {a : Int} {D : HP} (hob : oX0_isFree D o a) : CT mX0_isFree [vR o, vI a] D (PF (vI (fX0_isFree D o a)) D) := by
  refine V_X0_isFree ho a (fun hcD hc_0 => ?_)
  obtain ⟨z, hz⟩ : ∃ z, z = fX0_isFree D o a := ⟨_, rfl⟩
  rw [← hz]
  unfold fX0_isFree at hz
  unfold oX0_isFree at hob
  refine ⟨hob.1, ?_⟩
  replace hob := hob.2
  exact ⟨by rw [hz], rfl⟩
def fX0_isFreeFor (D : HP) (o : Nat) (a : Int) (b : Int) : Int := (if (fX1_isCell D o b) = 0 then (0 : Int) else (if (fX1_isWall D o b) = 0 then ((if (b_iand (D (o + 10) b.toNat) (b_ixor (b_ishl 1 a) (-1))) = 0 then (1 : Int) else 0) : Int) else 0))
theorem bfX0_isFreeFor (D : HP) (o : Nat) (a : Int) (b : Int) : fX0_isFreeFor D o a b = 0 ∨ fX0_isFreeFor D o a b = 1 := by unfold fX0_isFreeFor; exact (bool_ite (Or.inl rfl) (bool_ite (bool_ite (Or.inr rfl) (Or.inl rfl)) (Or.inl rfl)))
def oX0_isFreeFor (D : HP) (o : Nat) (a : Int) (b : Int) : Prop := (((((fX1_isCell D o b) = 0) → True) ∧ (¬ ((fX1_isCell D o b) = 0) → (oX1_isWall D o b) ∧ ((((fX1_isWall D o b) = 0) → (0 ≤ b ∧ b < 25)) ∧ (¬ ((fX1_isWall D o b) = 0) → True)))) ∧ True)
set_option maxRecDepth 100000 in
set_option maxHeartbeats 4000000 in
theorem V_X0_isFreeFor {o : Nat} (ho : o = 9 ∨ o = 25) (a : Int) (b : Int) {D : HP} {Q : Option MV → HP → Prop}
    (h0 : cD D → c32 a → c32 b → (((((fX1_isCell D o b) = 0) → True) ∧ (¬ ((fX1_isCell D o b) = 0) → (oX1_isWall D o b) ∧ ((((fX1_isWall D o b) = 0) → (0 ≤ b ∧ b < 25)) ∧ (¬ ((fX1_isWall D o b) = 0) → True)))) ∧ (Q (some (vI (if (fX1_isCell D o b) = 0 then (0 : Int) else (if (fX1_isWall D o b) = 0 then ((if (b_iand (D (o + 10) b.toNat) (b_ixor (b_ishl 1 a) (-1))) = 0 then (1 : Int) else 0) : Int) else 0)))) D)))
    : CT mX0_isFreeFor [vR o, vI a, vI b] D Q := by
  refine CT.of 0 (by decide) (Nat.le_of_ble_eq_true rfl) ?_
  show WP mX0_isFreeFor Q 0 [vR o, vI a, vI b] [] D
  refine WP_cD (fun hcD => ?_)
  refine WP_cl (fun hcl => ?_)
  have h := h0 hcD (cVs_g hcl (i := 1) (v := vI a) rfl) (cVs_g hcl (i := 2) (v := vI b) rfl)
  refine WP_aload_n (z := o) dX0_isFreeFor_0 rfl ?_
  refine WP_getR (z := (o + 1)) dX0_isFreeFor_1 fl_RX0_12 (kcC_0 ho) rfl (srC_0_0 ho) ?_
  refine WP_iload_n (z := b) dX0_isFreeFor_4 rfl ?_
  refine WP_pcallV (g := mX1_isCell) (as := [vI b]) (rest := []) (n := 1) (r := vI (fX1_isCell D o b)) dX0_isFreeFor_5 wm_216 mo_X1_isCell (kcC_1 ho) rfl rfl rfl ⟨Nat.le_of_ble_eq_true rfl, Nat.le_of_ble_eq_true rfl⟩ (Nat.le_of_ble_eq_true rfl) (P_X1_isCell ho trivial) ?_
  obtain ⟨o1, h⟩ := h
  refine WP_via (pc1 := 42) (ls1 := [vR o, vI a, vI b]) (st1 := [vI (if (fX1_isCell D o b) = 0 then (0 : Int) else (if (fX1_isWall D o b) = 0 then ((if (b_iand (D (o + 10) b.toNat) (b_ixor (b_ishl 1 a) (-1))) = 0 then (1 : Int) else 0) : Int) else 0))]) (D1 := D) (fun hJ2 => ?_) ?_
  · refine WP_if_eq (tgt := 41) dX0_isFreeFor_8 (by decide) (fun c3 => ?_) (fun c3 => ?_)
    · replace hJ2 := ite_t (P := fun v_ : Int => WP mX0_isFreeFor Q 42 [vR o, vI a, vI b] [vI v_] D) hJ2 c3
      have o4 := o1.1 c3
      refine WP_iconst (z := 0) dX0_isFreeFor_41 rfl ⟨by decide, by decide⟩ ?_
      exact hJ2
    · replace hJ2 := ite_f (P := fun v_ : Int => WP mX0_isFreeFor Q 42 [vR o, vI a, vI b] [vI v_] D) hJ2 c3
      have o5 := o1.2 c3
      refine WP_aload_n (z := o) dX0_isFreeFor_11 rfl ?_
      refine WP_getR (z := (o + 1)) dX0_isFreeFor_12 fl_RX0_12 (kcC_0 ho) rfl (srC_0_0 ho) ?_
      refine WP_iload_n (z := b) dX0_isFreeFor_15 rfl ?_
      refine WP_pcallV (g := mX1_isWall) (as := [vI b]) (rest := []) (n := 1) (r := vI (fX1_isWall D o b)) dX0_isFreeFor_16 wm_217 mo_X1_isWall (kcC_1 ho) rfl rfl rfl ⟨Nat.le_of_ble_eq_true rfl, Nat.le_of_ble_eq_true rfl⟩ (Nat.le_of_ble_eq_true rfl) (P_X1_isWall ho o5.1) ?_
      refine WP_via (pc1 := 42) (ls1 := [vR o, vI a, vI b]) (st1 := [vI (if (fX1_isWall D o b) = 0 then ((if (b_iand (D (o + 10) b.toNat) (b_ixor (b_ishl 1 a) (-1))) = 0 then (1 : Int) else 0) : Int) else 0)]) (D1 := D) (fun hJ6 => ?_) ?_
      · refine WP_if_ne (tgt := 41) dX0_isFreeFor_19 (by decide) (fun c7 => ?_) (fun c7 => ?_)
        · replace hJ6 := ite_f (P := fun v_ : Int => WP mX0_isFreeFor Q 42 [vR o, vI a, vI b] [vI v_] D) hJ6 c7
          have o11 := o5.2.2 c7
          refine WP_iconst (z := 0) dX0_isFreeFor_41 rfl ⟨by decide, by decide⟩ ?_
          exact hJ6
        · replace hJ6 := ite_t (P := fun v_ : Int => WP mX0_isFreeFor Q 42 [vR o, vI a, vI b] [vI v_] D) hJ6 c7
          have o8 := o5.2.1 c7
          refine WP_aload_n (z := o) dX0_isFreeFor_22 rfl ?_
          refine WP_getR (z := (o + 10)) dX0_isFreeFor_23 fl_RX0_22 (kcC_0 ho) rfl (srC_0_2 ho) ?_
          refine WP_iload_n (z := b) dX0_isFreeFor_26 rfl ?_
          refine WP_iald dX0_isFreeFor_27 (kcC_10 ho) o8.1 o8.2 rfl ?_
          refine WP_iconst (z := 1) dX0_isFreeFor_28 rfl ⟨by decide, by decide⟩ ?_
          refine WP_iload_n (z := a) dX0_isFreeFor_29 rfl ?_
          refine WP_ishl dX0_isFreeFor_30 rfl ?_
          refine WP_iconst (z := (-1)) dX0_isFreeFor_31 rfl ⟨by decide, by decide⟩ ?_
          refine WP_ixor dX0_isFreeFor_32 rfl ?_
          refine WP_iand dX0_isFreeFor_33 rfl ?_
          refine WP_via (pc1 := 42) (ls1 := [vR o, vI a, vI b]) (st1 := [vI (if (b_iand (D (o + 10) b.toNat) (b_ixor (b_ishl 1 a) (-1))) = 0 then (1 : Int) else 0)]) (D1 := D) (fun hJ9 => ?_) ?_
          · refine WP_if_ne (tgt := 41) dX0_isFreeFor_34 (by decide) (fun c10 => ?_) (fun c10 => ?_)
            · replace hJ9 := ite_f (P := fun v_ : Int => WP mX0_isFreeFor Q 42 [vR o, vI a, vI b] [vI v_] D) hJ9 c10
              refine WP_iconst (z := 0) dX0_isFreeFor_41 rfl ⟨by decide, by decide⟩ ?_
              exact hJ9
            · replace hJ9 := ite_t (P := fun v_ : Int => WP mX0_isFreeFor Q 42 [vR o, vI a, vI b] [vI v_] D) hJ9 c10
              refine WP_iconst (z := 1) dX0_isFreeFor_37 rfl ⟨by decide, by decide⟩ ?_
              refine WP_goto (tgt := 42) dX0_isFreeFor_38 (by decide) ?_
              exact hJ9
          exact hJ6
      exact hJ2
  · exact WP_zreturn dX0_isFreeFor_42 rfl (bool_ite (Or.inl rfl) (bool_ite (bool_ite (Or.inr rfl) (Or.inl rfl)) (Or.inl rfl))) h
set_option maxRecDepth 100000 in
set_option maxHeartbeats 4000000 in
theorem P_X0_isFreeFor {o : Nat} (ho : o = 9 ∨ o = 25) {a : Int} {b : Int} {D : HP} (hob : oX0_isFreeFor D o a b) : CT mX0_isFreeFor [vR o, vI a, vI b] D (PF (vI (fX0_isFreeFor D o a b)) D) := by
  refine V_X0_isFreeFor ho a b (fun hcD hc_0 hc_1 => ?_)
  obtain ⟨z, hz⟩ : ∃ z, z = fX0_isFreeFor D o a b := ⟨_, rfl⟩
  rw [← hz]
  unfold fX0_isFreeFor at hz
  unfold oX0_isFreeFor at hob
  refine ⟨hob.1, ?_⟩
  replace hob := hob.2
  exact ⟨by rw [hz], rfl⟩
def fX0_ribsAhead (D : HP) (o : Nat) (a : Int) (b : Int) : Int := (if ((a * 8) + b) < 0 then (0 : Int) else (if 104 ≤ ((a * 8) + b) then (0 : Int) else (D (o + 12) (((a * 8) + b)).toNat)))
def oX0_ribsAhead (D : HP) (o : Nat) (a : Int) (b : Int) : Prop := ((c32 (a * 8)) ∧ ((c32 ((a * 8) + b)) ∧ ((((((a * 8) + b) < 0) → True) ∧ (¬ (((a * 8) + b) < 0) → (((104 ≤ ((a * 8) + b)) → True) ∧ (¬ (104 ≤ ((a * 8) + b)) → (0 ≤ ((a * 8) + b) ∧ ((a * 8) + b) < 104))))) ∧ True)))
set_option maxRecDepth 100000 in
set_option maxHeartbeats 4000000 in
theorem V_X0_ribsAhead {o : Nat} (ho : o = 9 ∨ o = 25) (a : Int) (b : Int) {D : HP} {Q : Option MV → HP → Prop}
    (h0 : cD D → c32 a → c32 b → ((c32 (a * 8)) ∧ ((c32 ((a * 8) + b)) ∧ ((((((a * 8) + b) < 0) → True) ∧ (¬ (((a * 8) + b) < 0) → (((104 ≤ ((a * 8) + b)) → True) ∧ (¬ (104 ≤ ((a * 8) + b)) → (0 ≤ ((a * 8) + b) ∧ ((a * 8) + b) < 104))))) ∧ (Q (some (vI (if ((a * 8) + b) < 0 then (0 : Int) else (if 104 ≤ ((a * 8) + b) then (0 : Int) else (D (o + 12) (((a * 8) + b)).toNat))))) D)))))
    : CT mX0_ribsAhead [vR o, vI a, vI b] D Q := by
  refine CT.of 1 (by decide) (Nat.le_of_ble_eq_true rfl) ?_
  show WP mX0_ribsAhead Q 0 [vR o, vI a, vI b, vU] [] D
  refine WP_cD (fun hcD => ?_)
  refine WP_cl (fun hcl => ?_)
  have h := h0 hcD (cVs_g hcl (i := 1) (v := vI a) rfl) (cVs_g hcl (i := 2) (v := vI b) rfl)
  refine WP_iload_n (z := a) dX0_ribsAhead_0 rfl ?_
  refine WP_bipush (z := 8) dX0_ribsAhead_1 rfl (by decide) ?_
  obtain ⟨o11, h⟩ := h
  refine WP_imul (z := (a * 8)) dX0_ribsAhead_3 (w32_id o11) ?_
  refine WP_iload_n (z := b) dX0_ribsAhead_4 rfl ?_
  obtain ⟨o10, h⟩ := h
  refine WP_iadd (z := ((a * 8) + b)) dX0_ribsAhead_5 (w32_id o10) ?_
  refine WP_istore_n (ls1 := [vR o, vI a, vI b, vI ((a * 8) + b)]) dX0_ribsAhead_6 (by decide) rfl ?_
  refine WP_iload_n (z := ((a * 8) + b)) dX0_ribsAhead_7 rfl ?_
  obtain ⟨o1, h⟩ := h
  refine WP_via (pc1 := 30) (ls1 := [vR o, vI a, vI b, vI ((a * 8) + b)]) (st1 := [vI (if ((a * 8) + b) < 0 then (0 : Int) else (if 104 ≤ ((a * 8) + b) then (0 : Int) else (D (o + 12) (((a * 8) + b)).toNat)))]) (D1 := D) (fun hJ2 => ?_) ?_
  · refine WP_if_lt (tgt := 29) dX0_ribsAhead_8 (by decide) (fun c3 => ?_) (fun c3 => ?_)
    · replace hJ2 := ite_t (P := fun v_ : Int => WP mX0_ribsAhead Q 30 [vR o, vI a, vI b, vI ((a * 8) + b)] [vI v_] D) hJ2 c3
      have o4 := o1.1 c3
      refine WP_iconst (z := 0) dX0_ribsAhead_29 rfl ⟨by decide, by decide⟩ ?_
      exact hJ2
    · replace hJ2 := ite_f (P := fun v_ : Int => WP mX0_ribsAhead Q 30 [vR o, vI a, vI b, vI ((a * 8) + b)] [vI v_] D) hJ2 c3
      have o5 := o1.2 c3
      refine WP_iload_n (z := ((a * 8) + b)) dX0_ribsAhead_11 rfl ?_
      refine WP_aload_n (z := o) dX0_ribsAhead_12 rfl ?_
      refine WP_getR (z := (o + 12)) dX0_ribsAhead_13 fl_RX0_29 (kcC_0 ho) rfl (srC_0_4 ho) ?_
      refine WP_alen dX0_ribsAhead_16 (kcC_12 ho) (by decide) (z := 104) rfl ⟨by decide, by decide⟩ ?_
      refine WP_via (pc1 := 30) (ls1 := [vR o, vI a, vI b, vI ((a * 8) + b)]) (st1 := [vI (if 104 ≤ ((a * 8) + b) then (0 : Int) else (D (o + 12) (((a * 8) + b)).toNat))]) (D1 := D) (fun hJ6 => ?_) ?_
      · refine WP_icmp_ge (tgt := 29) dX0_ribsAhead_17 (by decide) (fun c7 => ?_) (fun c7 => ?_)
        · replace hJ6 := ite_t (P := fun v_ : Int => WP mX0_ribsAhead Q 30 [vR o, vI a, vI b, vI ((a * 8) + b)] [vI v_] D) hJ6 c7
          have o8 := o5.1 c7
          refine WP_iconst (z := 0) dX0_ribsAhead_29 rfl ⟨by decide, by decide⟩ ?_
          exact hJ6
        · replace hJ6 := ite_f (P := fun v_ : Int => WP mX0_ribsAhead Q 30 [vR o, vI a, vI b, vI ((a * 8) + b)] [vI v_] D) hJ6 c7
          have o9 := o5.2 c7
          refine WP_aload_n (z := o) dX0_ribsAhead_20 rfl ?_
          refine WP_getR (z := (o + 12)) dX0_ribsAhead_21 fl_RX0_29 (kcC_0 ho) rfl (srC_0_4 ho) ?_
          refine WP_iload_n (z := ((a * 8) + b)) dX0_ribsAhead_24 rfl ?_
          refine WP_iald dX0_ribsAhead_25 (kcC_12 ho) o9.1 o9.2 rfl ?_
          refine WP_goto (tgt := 30) dX0_ribsAhead_26 (by decide) ?_
          exact hJ6
      exact hJ2
  · exact WP_ireturn dX0_ribsAhead_30 rfl h
set_option maxRecDepth 100000 in
set_option maxHeartbeats 4000000 in
theorem P_X0_ribsAhead {o : Nat} (ho : o = 9 ∨ o = 25) {a : Int} {b : Int} {D : HP} (hob : oX0_ribsAhead D o a b) : CT mX0_ribsAhead [vR o, vI a, vI b] D (PF (vI (fX0_ribsAhead D o a b)) D) := by
  refine V_X0_ribsAhead ho a b (fun hcD hc_0 hc_1 => ?_)
  obtain ⟨z, hz⟩ : ∃ z, z = fX0_ribsAhead D o a b := ⟨_, rfl⟩
  rw [← hz]
  unfold fX0_ribsAhead at hz
  unfold oX0_ribsAhead at hob
  refine ⟨hob.1, ?_⟩
  replace hob := hob.2
  refine ⟨hob.1, ?_⟩
  replace hob := hob.2
  refine ⟨hob.1, ?_⟩
  replace hob := hob.2
  exact ⟨by rw [hz], rfl⟩
theorem fX0_has_b (D : HP) (s k : Int) : fX0_has D s k = 0 ∨ fX0_has D s k = 1 := by unfold fX0_has; split <;> simp
def fX0_turnsWhen (D : HP) (o : Nat) (a : Int) : Int := fsN (fun m => decide (fX0_has D (D (o + 11) (m + 1)) a = 1)) (if D (o + 1) 2 < 12 then D (o + 1) 2 else 12).toNat
def oX0_turnsWhen (D : HP) (o : Nat) (a : Int) : Prop := True
set_option maxRecDepth 100000 in
set_option maxHeartbeats 4000000 in
theorem V_X0_turnsWhen {o : Nat} (ho : o = 9 ∨ o = 25) (a : Int) {D : HP} {Q : Option MV → HP → Prop} (I2 : Int → Int → HP → Prop) (u2 : Int → Int → HP → Nat)
    (h0 : cD D → c32 a → (I2 a 0 D))
    (h2 : ∀ (x1 x2 : Int) (D : HP), I2 x1 x2 D → cD D → c32 x1 → c32 x2 → (((D (o + 1) 2) ≤ x2 → (Q (some (vI (-1))) D)) ∧ (¬ ((D (o + 1) 2) ≤ x2) → ((12 ≤ x2 → (Q (some (vI (-1))) D)) ∧ (¬ (12 ≤ x2) → ((c32 (x2 + 1)) ∧ ((0 ≤ (x2 + 1) ∧ (x2 + 1) < 13) ∧ (((fX0_has D (D (o + 11) ((x2 + 1)).toNat) x1) = 0 → ((c32 (x2 + 1)) ∧ (I2 x1 (x2 + 1) D ∧ u2 x1 (x2 + 1) D < u2 x1 x2 D))) ∧ (¬ ((fX0_has D (D (o + 11) ((x2 + 1)).toNat) x1) = 0) → (Q (some (vI x2)) D))))))))))
    : CT mX0_turnsWhen [vR o, vI a] D Q := by
  refine CT.of 1 (by decide) (Nat.le_of_ble_eq_true rfl) ?_
  show WP mX0_turnsWhen Q 0 [vR o, vI a, vU] [] D
  have IH : ∀ n : Nat, (∀ (x1 x2 : Int) (D : HP), I2 x1 x2 D → u2 x1 x2 D * 1 + 0 < n → WP mX0_turnsWhen Q 2 [vR o, vI x1, vI x2] [] D) := by
    intro n
    induction n with
    | zero => exact fun _ _ _ _ h => absurd h (Nat.not_lt_zero _)
    | succ n ih =>
      have ih2_ := ih
      · intro x1 x2 D hI hn
        refine WP_cD (fun hcD => ?_)
        refine WP_cl (fun hcl => ?_)
        have h := h2 x1 x2 D hI hcD (cVs_g hcl (i := 1) (v := vI x1) rfl) (cVs_g hcl (i := 2) (v := vI x2) rfl)
        refine WP_iload_n (z := x2) dX0_turnsWhen_2 rfl ?_
        refine WP_aload_n (z := o) dX0_turnsWhen_3 rfl ?_
        refine WP_getR (z := (o + 1)) dX0_turnsWhen_4 fl_RX0_12 (kcC_0 ho) rfl (srC_0_0 ho) ?_
        refine WP_getI dX0_turnsWhen_7 fl_RX0_54 (kcC_1 ho) rfl rfl ?_
        refine WP_icmp_ge (tgt := 42) dX0_turnsWhen_10 (by decide) (fun c1 => ?_) (fun c1 => ?_)
        · replace h := h.1 c1
          refine WP_iconst (z := (-1)) dX0_turnsWhen_42 rfl ⟨by decide, by decide⟩ ?_
          exact WP_ireturn dX0_turnsWhen_43 rfl h
        · replace h := h.2 c1
          refine WP_iload_n (z := x2) dX0_turnsWhen_13 rfl ?_
          refine WP_bipush (z := 12) dX0_turnsWhen_14 rfl (by decide) ?_
          refine WP_icmp_ge (tgt := 42) dX0_turnsWhen_16 (by decide) (fun c2 => ?_) (fun c2 => ?_)
          · replace h := h.1 c2
            refine WP_iconst (z := (-1)) dX0_turnsWhen_42 rfl ⟨by decide, by decide⟩ ?_
            exact WP_ireturn dX0_turnsWhen_43 rfl h
          · replace h := h.2 c2
            refine WP_aload_n (z := o) dX0_turnsWhen_19 rfl ?_
            refine WP_getR (z := (o + 11)) dX0_turnsWhen_20 fl_RX0_26 (kcC_0 ho) rfl (srC_0_3 ho) ?_
            refine WP_iload_n (z := x2) dX0_turnsWhen_23 rfl ?_
            refine WP_iconst (z := 1) dX0_turnsWhen_24 rfl ⟨by decide, by decide⟩ ?_
            obtain ⟨o6, h⟩ := h
            refine WP_iadd (z := (x2 + 1)) dX0_turnsWhen_25 (w32_id o6) ?_
            obtain ⟨o5, h⟩ := h
            refine WP_iald dX0_turnsWhen_26 (kcC_11 ho) o5.1 o5.2 rfl ?_
            refine WP_iload_n (z := x1) dX0_turnsWhen_27 rfl ?_
            refine WP_pcallS (g := mX0_has) (as := [vI (D (o + 11) ((x2 + 1)).toNat), vI x1]) (rest := []) (n := 2) (r := vI (fX0_has D (D (o + 11) ((x2 + 1)).toNat) x1)) dX0_turnsWhen_28 wm_243 mo_X0_has rfl rfl ⟨Nat.le_of_ble_eq_true rfl, Nat.le_of_ble_eq_true rfl⟩ (Nat.le_of_ble_eq_true rfl) (P_X0_has  trivial) ?_
            refine WP_if_eq (tgt := 36) dX0_turnsWhen_31 (by decide) (fun c3 => ?_) (fun c3 => ?_)
            · replace h := h.1 c3
              obtain ⟨o4, h⟩ := h
              refine WP_iinc (z := (x2 + 1)) (ls1 := [vR o, vI x1, vI (x2 + 1)]) dX0_turnsWhen_36 rfl (w32_id o4) (by decide) rfl ?_
              refine WP_goto (tgt := 2) dX0_turnsWhen_39 (by decide) ?_
              exact ih2_ _ _ _ h.1 (by have := h.2; omega)
            · replace h := h.2 c3
              refine WP_iload_n (z := x2) dX0_turnsWhen_34 rfl ?_
              exact WP_ireturn dX0_turnsWhen_35 rfl h
  have cut2_ : ∀ (x1 x2 : Int) (D : HP), I2 x1 x2 D → WP mX0_turnsWhen Q 2 [vR o, vI x1, vI x2] [] D := fun x1 x2 D hI => (IH (u2 x1 x2 D * 1 + 0 + 1)) x1 x2 D hI (by omega)
  refine WP_cD (fun hcD => ?_)
  refine WP_cl (fun hcl => ?_)
  have h := h0 hcD (cVs_g hcl (i := 1) (v := vI a) rfl)
  refine WP_iconst (z := 0) dX0_turnsWhen_0 rfl ⟨by decide, by decide⟩ ?_
  refine WP_istore_n (ls1 := [vR o, vI a, vI 0]) dX0_turnsWhen_1 (by decide) rfl ?_
  exact cut2_ _ _ _ h
set_option maxRecDepth 100000 in
set_option maxHeartbeats 4000000 in
theorem P_X0_turnsWhen {o : Nat} (ho : o = 9 ∨ o = 25) {a : Int} {D : HP} (hob : oX0_turnsWhen D o a) : CT mX0_turnsWhen [vR o, vI a] D (PF (vI (fX0_turnsWhen D o a)) D) := by
  refine V_X0_turnsWhen ho a (I2 := fun x1 x2 D' => D' = D ∧ x1 = a ∧ ∃ j : Nat, x2 = j ∧ j ≤ (if D (o + 1) 2 < 12 then D (o + 1) 2 else 12).toNat ∧ ∀ k, k < j → (fun m => decide (fX0_has D (D (o + 11) (m + 1)) a = 1)) k = false) (u2 := fun _ x2 D' => (D' (o + 1) 2 - x2).toNat) (fun _ _ => ⟨rfl, rfl, 0, rfl, Nat.zero_le _, fun k hk => absurd hk (Nat.not_lt_zero _)⟩) ?_
  rintro x1 x2 D' ⟨rfl, rfl, j, rfl, hj, hn⟩ hcD c1 c2
  have e1 : ((j : Int) + 1).toNat = j + 1 := by omega
  refine ⟨fun hc => ⟨?_, rfl⟩, fun hc => ⟨fun h12 => ⟨?_, rfl⟩, fun h12 => ⟨?_, by omega, fun hh => ⟨?_, ⟨rfl, rfl, j + 1, by omega, ?_, ?_⟩, by omega⟩, fun hh => ⟨?_, rfl⟩⟩⟩⟩
  · have : j = (if D' (o + 1) 2 < 12 then D' (o + 1) 2 else 12).toNat := by split at hj <;> split <;> omega
    subst this
    unfold fX0_turnsWhen
    rw [fsN_no hn]
  · have : j = (if D' (o + 1) 2 < 12 then D' (o + 1) 2 else 12).toNat := by split at hj <;> split <;> omega
    subst this
    unfold fX0_turnsWhen
    rw [fsN_no hn]
  · unfold c32 at *; omega
  · unfold c32 at *; omega
  · split <;> omega
  · intro k hk
    by_cases e : k = j
    · subst e
      rw [e1] at hh
      simp only [hh]
      decide
    · exact hn k (by omega)
  · unfold fX0_turnsWhen
    rw [fsN_yes (j := j) hn]
    · rw [e1] at hh
      simp only [decide_eq_true_eq]
      rcases fX0_has_b D' (D' (o + 11) (j + 1)) x1 with q | q
      · exact absurd q hh
      · exact q
    · split <;> omega

def fX0_isReturned (D : HP) (o : Nat) (a : Int) : Int := (if (fX0_turnsWhen D o a) < 0 then (0 : Int) else (if 12 ≤ (fX0_turnsWhen D o a) then (0 : Int) else (if (fX0_has D (D (o + 13) ((fX0_turnsWhen D o a)).toNat) a) = 0 then (0 : Int) else 1)))
theorem bfX0_isReturned (D : HP) (o : Nat) (a : Int) : fX0_isReturned D o a = 0 ∨ fX0_isReturned D o a = 1 := by unfold fX0_isReturned; exact (bool_ite (Or.inl rfl) (bool_ite (Or.inl rfl) (bool_ite (Or.inl rfl) (Or.inr rfl))))
def oX0_isReturned (D : HP) (o : Nat) (a : Int) : Prop := (((((fX0_turnsWhen D o a) < 0) → True) ∧ (¬ ((fX0_turnsWhen D o a) < 0) → (((12 ≤ (fX0_turnsWhen D o a)) → True) ∧ (¬ (12 ≤ (fX0_turnsWhen D o a)) → (0 ≤ (fX0_turnsWhen D o a) ∧ (fX0_turnsWhen D o a) < 12))))) ∧ True)
set_option maxRecDepth 100000 in
set_option maxHeartbeats 4000000 in
theorem V_X0_isReturned {o : Nat} (ho : o = 9 ∨ o = 25) (a : Int) {D : HP} {Q : Option MV → HP → Prop}
    (h0 : cD D → c32 a → (((((fX0_turnsWhen D o a) < 0) → True) ∧ (¬ ((fX0_turnsWhen D o a) < 0) → (((12 ≤ (fX0_turnsWhen D o a)) → True) ∧ (¬ (12 ≤ (fX0_turnsWhen D o a)) → (0 ≤ (fX0_turnsWhen D o a) ∧ (fX0_turnsWhen D o a) < 12))))) ∧ (Q (some (vI (if (fX0_turnsWhen D o a) < 0 then (0 : Int) else (if 12 ≤ (fX0_turnsWhen D o a) then (0 : Int) else (if (fX0_has D (D (o + 13) ((fX0_turnsWhen D o a)).toNat) a) = 0 then (0 : Int) else 1))))) D)))
    : CT mX0_isReturned [vR o, vI a] D Q := by
  refine CT.of 1 (by decide) (Nat.le_of_ble_eq_true rfl) ?_
  show WP mX0_isReturned Q 0 [vR o, vI a, vU] [] D
  refine WP_cD (fun hcD => ?_)
  refine WP_cl (fun hcl => ?_)
  have h := h0 hcD (cVs_g hcl (i := 1) (v := vI a) rfl)
  refine WP_aload_n (z := o) dX0_isReturned_0 rfl ?_
  refine WP_iload_n (z := a) dX0_isReturned_1 rfl ?_
  refine WP_pcallV (g := mX0_turnsWhen) (as := [vI a]) (rest := []) (n := 1) (r := vI (fX0_turnsWhen D o a)) dX0_isReturned_2 wm_475 mo_X0_turnsWhen (kcC_0 ho) rfl rfl rfl ⟨Nat.le_of_ble_eq_true rfl, Nat.le_of_ble_eq_true rfl⟩ (Nat.le_of_ble_eq_true rfl) (P_X0_turnsWhen ho trivial) ?_
  refine WP_istore_n (ls1 := [vR o, vI a, vI (fX0_turnsWhen D o a)]) dX0_isReturned_5 (by decide) rfl ?_
  refine WP_iload_n (z := (fX0_turnsWhen D o a)) dX0_isReturned_6 rfl ?_
  obtain ⟨o1, h⟩ := h
  refine WP_via (pc1 := 34) (ls1 := [vR o, vI a, vI (fX0_turnsWhen D o a)]) (st1 := [vI (if (fX0_turnsWhen D o a) < 0 then (0 : Int) else (if 12 ≤ (fX0_turnsWhen D o a) then (0 : Int) else (if (fX0_has D (D (o + 13) ((fX0_turnsWhen D o a)).toNat) a) = 0 then (0 : Int) else 1)))]) (D1 := D) (fun hJ2 => ?_) ?_
  · refine WP_if_lt (tgt := 33) dX0_isReturned_7 (by decide) (fun c3 => ?_) (fun c3 => ?_)
    · replace hJ2 := ite_t (P := fun v_ : Int => WP mX0_isReturned Q 34 [vR o, vI a, vI (fX0_turnsWhen D o a)] [vI v_] D) hJ2 c3
      have o4 := o1.1 c3
      refine WP_iconst (z := 0) dX0_isReturned_33 rfl ⟨by decide, by decide⟩ ?_
      exact hJ2
    · replace hJ2 := ite_f (P := fun v_ : Int => WP mX0_isReturned Q 34 [vR o, vI a, vI (fX0_turnsWhen D o a)] [vI v_] D) hJ2 c3
      have o5 := o1.2 c3
      refine WP_iload_n (z := (fX0_turnsWhen D o a)) dX0_isReturned_10 rfl ?_
      refine WP_bipush (z := 12) dX0_isReturned_11 rfl (by decide) ?_
      refine WP_via (pc1 := 34) (ls1 := [vR o, vI a, vI (fX0_turnsWhen D o a)]) (st1 := [vI (if 12 ≤ (fX0_turnsWhen D o a) then (0 : Int) else (if (fX0_has D (D (o + 13) ((fX0_turnsWhen D o a)).toNat) a) = 0 then (0 : Int) else 1))]) (D1 := D) (fun hJ6 => ?_) ?_
      · refine WP_icmp_ge (tgt := 33) dX0_isReturned_13 (by decide) (fun c7 => ?_) (fun c7 => ?_)
        · replace hJ6 := ite_t (P := fun v_ : Int => WP mX0_isReturned Q 34 [vR o, vI a, vI (fX0_turnsWhen D o a)] [vI v_] D) hJ6 c7
          have o8 := o5.1 c7
          refine WP_iconst (z := 0) dX0_isReturned_33 rfl ⟨by decide, by decide⟩ ?_
          exact hJ6
        · replace hJ6 := ite_f (P := fun v_ : Int => WP mX0_isReturned Q 34 [vR o, vI a, vI (fX0_turnsWhen D o a)] [vI v_] D) hJ6 c7
          have o9 := o5.2 c7
          refine WP_aload_n (z := o) dX0_isReturned_16 rfl ?_
          refine WP_getR (z := (o + 13)) dX0_isReturned_17 fl_RX0_32 (kcC_0 ho) rfl (srC_0_5 ho) ?_
          refine WP_iload_n (z := (fX0_turnsWhen D o a)) dX0_isReturned_20 rfl ?_
          refine WP_iald dX0_isReturned_21 (kcC_13 ho) o9.1 o9.2 rfl ?_
          refine WP_iload_n (z := a) dX0_isReturned_22 rfl ?_
          refine WP_pcallS (g := mX0_has) (as := [vI (D (o + 13) ((fX0_turnsWhen D o a)).toNat), vI a]) (rest := []) (n := 2) (r := vI (fX0_has D (D (o + 13) ((fX0_turnsWhen D o a)).toNat) a)) dX0_isReturned_23 wm_243 mo_X0_has rfl rfl ⟨Nat.le_of_ble_eq_true rfl, Nat.le_of_ble_eq_true rfl⟩ (Nat.le_of_ble_eq_true rfl) (P_X0_has  trivial) ?_
          refine WP_via (pc1 := 34) (ls1 := [vR o, vI a, vI (fX0_turnsWhen D o a)]) (st1 := [vI (if (fX0_has D (D (o + 13) ((fX0_turnsWhen D o a)).toNat) a) = 0 then (0 : Int) else 1)]) (D1 := D) (fun hJ10 => ?_) ?_
          · refine WP_if_eq (tgt := 33) dX0_isReturned_26 (by decide) (fun c11 => ?_) (fun c11 => ?_)
            · replace hJ10 := ite_t (P := fun v_ : Int => WP mX0_isReturned Q 34 [vR o, vI a, vI (fX0_turnsWhen D o a)] [vI v_] D) hJ10 c11
              refine WP_iconst (z := 0) dX0_isReturned_33 rfl ⟨by decide, by decide⟩ ?_
              exact hJ10
            · replace hJ10 := ite_f (P := fun v_ : Int => WP mX0_isReturned Q 34 [vR o, vI a, vI (fX0_turnsWhen D o a)] [vI v_] D) hJ10 c11
              refine WP_iconst (z := 1) dX0_isReturned_29 rfl ⟨by decide, by decide⟩ ?_
              refine WP_goto (tgt := 34) dX0_isReturned_30 (by decide) ?_
              exact hJ10
          exact hJ6
      exact hJ2
  · exact WP_zreturn dX0_isReturned_34 rfl (bool_ite (Or.inl rfl) (bool_ite (Or.inl rfl) (bool_ite (Or.inl rfl) (Or.inr rfl)))) h
set_option maxRecDepth 100000 in
set_option maxHeartbeats 4000000 in
theorem P_X0_isReturned {o : Nat} (ho : o = 9 ∨ o = 25) {a : Int} {D : HP} (hob : oX0_isReturned D o a) : CT mX0_isReturned [vR o, vI a] D (PF (vI (fX0_isReturned D o a)) D) := by
  refine V_X0_isReturned ho a (fun hcD hc_0 => ?_)
  obtain ⟨z, hz⟩ : ∃ z, z = fX0_isReturned D o a := ⟨_, rfl⟩
  rw [← hz]
  unfold fX0_isReturned at hz
  unfold oX0_isReturned at hob
  refine ⟨hob.1, ?_⟩
  replace hob := hob.2
  exact ⟨by rw [hz], rfl⟩
def fX0_isElected (D : HP) (o : Nat) (a : Int) : Int := (if (fX0_turnsWhen D o a) < 0 then (0 : Int) else (if 12 ≤ (fX0_turnsWhen D o a) then (0 : Int) else (if (D (o + 14) ((fX0_turnsWhen D o a)).toNat) = a then (1 : Int) else 0)))
theorem bfX0_isElected (D : HP) (o : Nat) (a : Int) : fX0_isElected D o a = 0 ∨ fX0_isElected D o a = 1 := by unfold fX0_isElected; exact (bool_ite (Or.inl rfl) (bool_ite (Or.inl rfl) (bool_ite (Or.inr rfl) (Or.inl rfl))))
def oX0_isElected (D : HP) (o : Nat) (a : Int) : Prop := (((((fX0_turnsWhen D o a) < 0) → True) ∧ (¬ ((fX0_turnsWhen D o a) < 0) → (((12 ≤ (fX0_turnsWhen D o a)) → True) ∧ (¬ (12 ≤ (fX0_turnsWhen D o a)) → (0 ≤ (fX0_turnsWhen D o a) ∧ (fX0_turnsWhen D o a) < 12))))) ∧ True)
set_option maxRecDepth 100000 in
set_option maxHeartbeats 4000000 in
theorem V_X0_isElected {o : Nat} (ho : o = 9 ∨ o = 25) (a : Int) {D : HP} {Q : Option MV → HP → Prop}
    (h0 : cD D → c32 a → (((((fX0_turnsWhen D o a) < 0) → True) ∧ (¬ ((fX0_turnsWhen D o a) < 0) → (((12 ≤ (fX0_turnsWhen D o a)) → True) ∧ (¬ (12 ≤ (fX0_turnsWhen D o a)) → (0 ≤ (fX0_turnsWhen D o a) ∧ (fX0_turnsWhen D o a) < 12))))) ∧ (Q (some (vI (if (fX0_turnsWhen D o a) < 0 then (0 : Int) else (if 12 ≤ (fX0_turnsWhen D o a) then (0 : Int) else (if (D (o + 14) ((fX0_turnsWhen D o a)).toNat) = a then (1 : Int) else 0))))) D)))
    : CT mX0_isElected [vR o, vI a] D Q := by
  refine CT.of 1 (by decide) (Nat.le_of_ble_eq_true rfl) ?_
  show WP mX0_isElected Q 0 [vR o, vI a, vU] [] D
  refine WP_cD (fun hcD => ?_)
  refine WP_cl (fun hcl => ?_)
  have h := h0 hcD (cVs_g hcl (i := 1) (v := vI a) rfl)
  refine WP_aload_n (z := o) dX0_isElected_0 rfl ?_
  refine WP_iload_n (z := a) dX0_isElected_1 rfl ?_
  refine WP_pcallV (g := mX0_turnsWhen) (as := [vI a]) (rest := []) (n := 1) (r := vI (fX0_turnsWhen D o a)) dX0_isElected_2 wm_475 mo_X0_turnsWhen (kcC_0 ho) rfl rfl rfl ⟨Nat.le_of_ble_eq_true rfl, Nat.le_of_ble_eq_true rfl⟩ (Nat.le_of_ble_eq_true rfl) (P_X0_turnsWhen ho trivial) ?_
  refine WP_istore_n (ls1 := [vR o, vI a, vI (fX0_turnsWhen D o a)]) dX0_isElected_5 (by decide) rfl ?_
  refine WP_iload_n (z := (fX0_turnsWhen D o a)) dX0_isElected_6 rfl ?_
  obtain ⟨o1, h⟩ := h
  refine WP_via (pc1 := 31) (ls1 := [vR o, vI a, vI (fX0_turnsWhen D o a)]) (st1 := [vI (if (fX0_turnsWhen D o a) < 0 then (0 : Int) else (if 12 ≤ (fX0_turnsWhen D o a) then (0 : Int) else (if (D (o + 14) ((fX0_turnsWhen D o a)).toNat) = a then (1 : Int) else 0)))]) (D1 := D) (fun hJ2 => ?_) ?_
  · refine WP_if_lt (tgt := 30) dX0_isElected_7 (by decide) (fun c3 => ?_) (fun c3 => ?_)
    · replace hJ2 := ite_t (P := fun v_ : Int => WP mX0_isElected Q 31 [vR o, vI a, vI (fX0_turnsWhen D o a)] [vI v_] D) hJ2 c3
      have o4 := o1.1 c3
      refine WP_iconst (z := 0) dX0_isElected_30 rfl ⟨by decide, by decide⟩ ?_
      exact hJ2
    · replace hJ2 := ite_f (P := fun v_ : Int => WP mX0_isElected Q 31 [vR o, vI a, vI (fX0_turnsWhen D o a)] [vI v_] D) hJ2 c3
      have o5 := o1.2 c3
      refine WP_iload_n (z := (fX0_turnsWhen D o a)) dX0_isElected_10 rfl ?_
      refine WP_bipush (z := 12) dX0_isElected_11 rfl (by decide) ?_
      refine WP_via (pc1 := 31) (ls1 := [vR o, vI a, vI (fX0_turnsWhen D o a)]) (st1 := [vI (if 12 ≤ (fX0_turnsWhen D o a) then (0 : Int) else (if (D (o + 14) ((fX0_turnsWhen D o a)).toNat) = a then (1 : Int) else 0))]) (D1 := D) (fun hJ6 => ?_) ?_
      · refine WP_icmp_ge (tgt := 30) dX0_isElected_13 (by decide) (fun c7 => ?_) (fun c7 => ?_)
        · replace hJ6 := ite_t (P := fun v_ : Int => WP mX0_isElected Q 31 [vR o, vI a, vI (fX0_turnsWhen D o a)] [vI v_] D) hJ6 c7
          have o8 := o5.1 c7
          refine WP_iconst (z := 0) dX0_isElected_30 rfl ⟨by decide, by decide⟩ ?_
          exact hJ6
        · replace hJ6 := ite_f (P := fun v_ : Int => WP mX0_isElected Q 31 [vR o, vI a, vI (fX0_turnsWhen D o a)] [vI v_] D) hJ6 c7
          have o9 := o5.2 c7
          refine WP_aload_n (z := o) dX0_isElected_16 rfl ?_
          refine WP_getR (z := (o + 14)) dX0_isElected_17 fl_RX0_35 (kcC_0 ho) rfl (srC_0_6 ho) ?_
          refine WP_iload_n (z := (fX0_turnsWhen D o a)) dX0_isElected_20 rfl ?_
          refine WP_iald dX0_isElected_21 (kcC_14 ho) o9.1 o9.2 rfl ?_
          refine WP_iload_n (z := a) dX0_isElected_22 rfl ?_
          refine WP_via (pc1 := 31) (ls1 := [vR o, vI a, vI (fX0_turnsWhen D o a)]) (st1 := [vI (if (D (o + 14) ((fX0_turnsWhen D o a)).toNat) = a then (1 : Int) else 0)]) (D1 := D) (fun hJ10 => ?_) ?_
          · refine WP_icmp_ne (tgt := 30) dX0_isElected_23 (by decide) (fun c11 => ?_) (fun c11 => ?_)
            · replace hJ10 := ite_f (P := fun v_ : Int => WP mX0_isElected Q 31 [vR o, vI a, vI (fX0_turnsWhen D o a)] [vI v_] D) hJ10 c11
              refine WP_iconst (z := 0) dX0_isElected_30 rfl ⟨by decide, by decide⟩ ?_
              exact hJ10
            · replace hJ10 := ite_t (P := fun v_ : Int => WP mX0_isElected Q 31 [vR o, vI a, vI (fX0_turnsWhen D o a)] [vI v_] D) hJ10 c11
              refine WP_iconst (z := 1) dX0_isElected_26 rfl ⟨by decide, by decide⟩ ?_
              refine WP_goto (tgt := 31) dX0_isElected_27 (by decide) ?_
              exact hJ10
          exact hJ6
      exact hJ2
  · exact WP_zreturn dX0_isElected_31 rfl (bool_ite (Or.inl rfl) (bool_ite (Or.inl rfl) (bool_ite (Or.inr rfl) (Or.inl rfl)))) h
set_option maxRecDepth 100000 in
set_option maxHeartbeats 4000000 in
theorem P_X0_isElected {o : Nat} (ho : o = 9 ∨ o = 25) {a : Int} {D : HP} (hob : oX0_isElected D o a) : CT mX0_isElected [vR o, vI a] D (PF (vI (fX0_isElected D o a)) D) := by
  refine V_X0_isElected ho a (fun hcD hc_0 => ?_)
  obtain ⟨z, hz⟩ : ∃ z, z = fX0_isElected D o a := ⟨_, rfl⟩
  rw [← hz]
  unfold fX0_isElected at hz
  unfold oX0_isElected at hob
  refine ⟨hob.1, ?_⟩
  replace hob := hob.2
  exact ⟨by rw [hz], rfl⟩
def fX0_whoIsIn (D : HP) (o : Nat) (a : Int) : Int := (if a < 0 then ((-1) : Int) else (if (D (o + 1) 2) ≤ a then ((-1) : Int) else (if 12 ≤ a then ((-1) : Int) else (D (o + 15) a.toNat))))
def oX0_whoIsIn (D : HP) (o : Nat) (a : Int) : Prop := ((((a < 0) → True) ∧ (¬ (a < 0) → ((((D (o + 1) 2) ≤ a) → True) ∧ (¬ ((D (o + 1) 2) ≤ a) → (((12 ≤ a) → True) ∧ (¬ (12 ≤ a) → (0 ≤ a ∧ a < 12))))))) ∧ True)
set_option maxRecDepth 100000 in
set_option maxHeartbeats 4000000 in
theorem V_X0_whoIsIn {o : Nat} (ho : o = 9 ∨ o = 25) (a : Int) {D : HP} {Q : Option MV → HP → Prop}
    (h0 : cD D → c32 a → ((((a < 0) → True) ∧ (¬ (a < 0) → ((((D (o + 1) 2) ≤ a) → True) ∧ (¬ ((D (o + 1) 2) ≤ a) → (((12 ≤ a) → True) ∧ (¬ (12 ≤ a) → (0 ≤ a ∧ a < 12))))))) ∧ (Q (some (vI (if a < 0 then ((-1) : Int) else (if (D (o + 1) 2) ≤ a then ((-1) : Int) else (if 12 ≤ a then ((-1) : Int) else (D (o + 15) a.toNat)))))) D)))
    : CT mX0_whoIsIn [vR o, vI a] D Q := by
  refine CT.of 0 (by decide) (Nat.le_of_ble_eq_true rfl) ?_
  show WP mX0_whoIsIn Q 0 [vR o, vI a] [] D
  refine WP_cD (fun hcD => ?_)
  refine WP_cl (fun hcl => ?_)
  have h := h0 hcD (cVs_g hcl (i := 1) (v := vI a) rfl)
  refine WP_iload_n (z := a) dX0_whoIsIn_0 rfl ?_
  obtain ⟨o1, h⟩ := h
  refine WP_via (pc1 := 31) (ls1 := [vR o, vI a]) (st1 := [vI (if a < 0 then ((-1) : Int) else (if (D (o + 1) 2) ≤ a then ((-1) : Int) else (if 12 ≤ a then ((-1) : Int) else (D (o + 15) a.toNat))))]) (D1 := D) (fun hJ2 => ?_) ?_
  · refine WP_if_lt (tgt := 30) dX0_whoIsIn_1 (by decide) (fun c3 => ?_) (fun c3 => ?_)
    · replace hJ2 := ite_t (P := fun v_ : Int => WP mX0_whoIsIn Q 31 [vR o, vI a] [vI v_] D) hJ2 c3
      have o4 := o1.1 c3
      refine WP_iconst (z := (-1)) dX0_whoIsIn_30 rfl ⟨by decide, by decide⟩ ?_
      exact hJ2
    · replace hJ2 := ite_f (P := fun v_ : Int => WP mX0_whoIsIn Q 31 [vR o, vI a] [vI v_] D) hJ2 c3
      have o5 := o1.2 c3
      refine WP_iload_n (z := a) dX0_whoIsIn_4 rfl ?_
      refine WP_aload_n (z := o) dX0_whoIsIn_5 rfl ?_
      refine WP_getR (z := (o + 1)) dX0_whoIsIn_6 fl_RX0_12 (kcC_0 ho) rfl (srC_0_0 ho) ?_
      refine WP_getI dX0_whoIsIn_9 fl_RX0_54 (kcC_1 ho) rfl rfl ?_
      refine WP_via (pc1 := 31) (ls1 := [vR o, vI a]) (st1 := [vI (if (D (o + 1) 2) ≤ a then ((-1) : Int) else (if 12 ≤ a then ((-1) : Int) else (D (o + 15) a.toNat)))]) (D1 := D) (fun hJ6 => ?_) ?_
      · refine WP_icmp_ge (tgt := 30) dX0_whoIsIn_12 (by decide) (fun c7 => ?_) (fun c7 => ?_)
        · replace hJ6 := ite_t (P := fun v_ : Int => WP mX0_whoIsIn Q 31 [vR o, vI a] [vI v_] D) hJ6 c7
          have o8 := o5.1 c7
          refine WP_iconst (z := (-1)) dX0_whoIsIn_30 rfl ⟨by decide, by decide⟩ ?_
          exact hJ6
        · replace hJ6 := ite_f (P := fun v_ : Int => WP mX0_whoIsIn Q 31 [vR o, vI a] [vI v_] D) hJ6 c7
          have o9 := o5.2 c7
          refine WP_iload_n (z := a) dX0_whoIsIn_15 rfl ?_
          refine WP_bipush (z := 12) dX0_whoIsIn_16 rfl (by decide) ?_
          refine WP_via (pc1 := 31) (ls1 := [vR o, vI a]) (st1 := [vI (if 12 ≤ a then ((-1) : Int) else (D (o + 15) a.toNat))]) (D1 := D) (fun hJ10 => ?_) ?_
          · refine WP_icmp_ge (tgt := 30) dX0_whoIsIn_18 (by decide) (fun c11 => ?_) (fun c11 => ?_)
            · replace hJ10 := ite_t (P := fun v_ : Int => WP mX0_whoIsIn Q 31 [vR o, vI a] [vI v_] D) hJ10 c11
              have o12 := o9.1 c11
              refine WP_iconst (z := (-1)) dX0_whoIsIn_30 rfl ⟨by decide, by decide⟩ ?_
              exact hJ10
            · replace hJ10 := ite_f (P := fun v_ : Int => WP mX0_whoIsIn Q 31 [vR o, vI a] [vI v_] D) hJ10 c11
              have o13 := o9.2 c11
              refine WP_aload_n (z := o) dX0_whoIsIn_21 rfl ?_
              refine WP_getR (z := (o + 15)) dX0_whoIsIn_22 fl_RX0_38 (kcC_0 ho) rfl (srC_0_7 ho) ?_
              refine WP_iload_n (z := a) dX0_whoIsIn_25 rfl ?_
              refine WP_iald dX0_whoIsIn_26 (kcC_15 ho) o13.1 o13.2 rfl ?_
              refine WP_goto (tgt := 31) dX0_whoIsIn_27 (by decide) ?_
              exact hJ10
          exact hJ6
      exact hJ2
  · exact WP_ireturn dX0_whoIsIn_31 rfl h
set_option maxRecDepth 100000 in
set_option maxHeartbeats 4000000 in
theorem P_X0_whoIsIn {o : Nat} (ho : o = 9 ∨ o = 25) {a : Int} {D : HP} (hob : oX0_whoIsIn D o a) : CT mX0_whoIsIn [vR o, vI a] D (PF (vI (fX0_whoIsIn D o a)) D) := by
  refine V_X0_whoIsIn ho a (fun hcD hc_0 => ?_)
  obtain ⟨z, hz⟩ : ∃ z, z = fX0_whoIsIn D o a := ⟨_, rfl⟩
  rw [← hz]
  unfold fX0_whoIsIn at hz
  unfold oX0_whoIsIn at hob
  refine ⟨hob.1, ?_⟩
  replace hob := hob.2
  exact ⟨by rw [hz], rfl⟩
theorem oT_X0_whoIsIn (D : HP) (o : Nat) (a : Int) : oX0_whoIsIn D o a := by
  unfold oX0_whoIsIn
  refine ⟨⟨fun _ => trivial, fun h => ⟨fun _ => trivial, fun _ => ⟨fun _ => trivial, fun h2 => ?_⟩⟩⟩, trivial⟩
  omega
def fX0_minutesBehindWhichIn (D : HP) (o : Nat) (a : Int) : Int := cntB (fun m => decide (fX0_whoIsIn D o m = a)) (D (o + 1) 2).toNat
def oX0_minutesBehindWhichIn (D : HP) (o : Nat) (a : Int) : Prop := True
set_option maxRecDepth 100000 in
set_option maxHeartbeats 4000000 in
theorem V_X0_minutesBehindWhichIn {o : Nat} (ho : o = 9 ∨ o = 25) (a : Int) {D : HP} {Q : Option MV → HP → Prop} (I4 : Int → Int → Int → HP → Prop) (u4 : Int → Int → Int → HP → Nat)
    (h0 : cD D → c32 a → (I4 a 0 0 D))
    (h4 : ∀ (x1 x2 x3 : Int) (D : HP), I4 x1 x2 x3 D → cD D → c32 x1 → c32 x2 → c32 x3 → (((D (o + 1) 2) ≤ x3 → (Q (some (vI x2)) D)) ∧ (¬ ((D (o + 1) 2) ≤ x3) → ((oX0_whoIsIn D o x3) ∧ ((c32 (x2 + (if (fX0_whoIsIn D o x3) = x1 then (1 : Int) else 0))) ∧ ((c32 (x3 + 1)) ∧ (I4 x1 (x2 + (if (fX0_whoIsIn D o x3) = x1 then (1 : Int) else 0)) (x3 + 1) D ∧ u4 x1 (x2 + (if (fX0_whoIsIn D o x3) = x1 then (1 : Int) else 0)) (x3 + 1) D < u4 x1 x2 x3 D)))))))
    : CT mX0_minutesBehindWhichIn [vR o, vI a] D Q := by
  refine CT.of 2 (by decide) (Nat.le_of_ble_eq_true rfl) ?_
  show WP mX0_minutesBehindWhichIn Q 0 [vR o, vI a, vU, vU] [] D
  have IH : ∀ n : Nat, (∀ (x1 x2 x3 : Int) (D : HP), I4 x1 x2 x3 D → u4 x1 x2 x3 D * 1 + 0 < n → WP mX0_minutesBehindWhichIn Q 4 [vR o, vI x1, vI x2, vI x3] [] D) := by
    intro n
    induction n with
    | zero => exact fun _ _ _ _ _ h => absurd h (Nat.not_lt_zero _)
    | succ n ih =>
      have ih4_ := ih
      · intro x1 x2 x3 D hI hn
        refine WP_cD (fun hcD => ?_)
        refine WP_cl (fun hcl => ?_)
        have h := h4 x1 x2 x3 D hI hcD (cVs_g hcl (i := 1) (v := vI x1) rfl) (cVs_g hcl (i := 2) (v := vI x2) rfl) (cVs_g hcl (i := 3) (v := vI x3) rfl)
        refine WP_iload_n (z := x3) dX0_minutesBehindWhichIn_4 rfl ?_
        refine WP_aload_n (z := o) dX0_minutesBehindWhichIn_5 rfl ?_
        refine WP_getR (z := (o + 1)) dX0_minutesBehindWhichIn_6 fl_RX0_12 (kcC_0 ho) rfl (srC_0_0 ho) ?_
        refine WP_getI dX0_minutesBehindWhichIn_9 fl_RX0_54 (kcC_1 ho) rfl rfl ?_
        refine WP_icmp_ge (tgt := 38) dX0_minutesBehindWhichIn_12 (by decide) (fun c1 => ?_) (fun c1 => ?_)
        · replace h := h.1 c1
          refine WP_iload_n (z := x2) dX0_minutesBehindWhichIn_38 rfl ?_
          exact WP_ireturn dX0_minutesBehindWhichIn_39 rfl h
        · replace h := h.2 c1
          refine WP_iload_n (z := x2) dX0_minutesBehindWhichIn_15 rfl ?_
          refine WP_aload_n (z := o) dX0_minutesBehindWhichIn_16 rfl ?_
          refine WP_iload_n (z := x3) dX0_minutesBehindWhichIn_17 rfl ?_
          obtain ⟨o6, h⟩ := h
          refine WP_pcallV (g := mX0_whoIsIn) (as := [vI x3]) (rest := [vI x2]) (n := 1) (r := vI (fX0_whoIsIn D o x3)) dX0_minutesBehindWhichIn_18 wm_484 mo_X0_whoIsIn (kcC_0 ho) rfl rfl rfl ⟨Nat.le_of_ble_eq_true rfl, Nat.le_of_ble_eq_true rfl⟩ (Nat.le_of_ble_eq_true rfl) (P_X0_whoIsIn ho o6) ?_
          refine WP_iload_n (z := x1) dX0_minutesBehindWhichIn_21 rfl ?_
          refine WP_via (pc1 := 30) (ls1 := [vR o, vI x1, vI x2, vI x3]) (st1 := [vI (if (fX0_whoIsIn D o x3) = x1 then (1 : Int) else 0), vI x2]) (D1 := D) (fun hJ4 => ?_) ?_
          · refine WP_icmp_ne (tgt := 29) dX0_minutesBehindWhichIn_22 (by decide) (fun c5 => ?_) (fun c5 => ?_)
            · replace hJ4 := ite_f (P := fun v_ : Int => WP mX0_minutesBehindWhichIn Q 30 [vR o, vI x1, vI x2, vI x3] [vI v_, vI x2] D) hJ4 c5
              refine WP_iconst (z := 0) dX0_minutesBehindWhichIn_29 rfl ⟨by decide, by decide⟩ ?_
              exact hJ4
            · replace hJ4 := ite_t (P := fun v_ : Int => WP mX0_minutesBehindWhichIn Q 30 [vR o, vI x1, vI x2, vI x3] [vI v_, vI x2] D) hJ4 c5
              refine WP_iconst (z := 1) dX0_minutesBehindWhichIn_25 rfl ⟨by decide, by decide⟩ ?_
              refine WP_goto (tgt := 30) dX0_minutesBehindWhichIn_26 (by decide) ?_
              exact hJ4
          · obtain ⟨o3, h⟩ := h
            refine WP_iadd (z := (x2 + (if (fX0_whoIsIn D o x3) = x1 then (1 : Int) else 0))) dX0_minutesBehindWhichIn_30 (w32_id o3) ?_
            refine WP_istore_n (ls1 := [vR o, vI x1, vI (x2 + (if (fX0_whoIsIn D o x3) = x1 then (1 : Int) else 0)), vI x3]) dX0_minutesBehindWhichIn_31 (by decide) rfl ?_
            obtain ⟨o2, h⟩ := h
            refine WP_iinc (z := (x3 + 1)) (ls1 := [vR o, vI x1, vI (x2 + (if (fX0_whoIsIn D o x3) = x1 then (1 : Int) else 0)), vI (x3 + 1)]) dX0_minutesBehindWhichIn_32 rfl (w32_id o2) (by decide) rfl ?_
            refine WP_goto (tgt := 4) dX0_minutesBehindWhichIn_35 (by decide) ?_
            exact ih4_ _ _ _ _ h.1 (by have := h.2; omega)
  have cut4_ : ∀ (x1 x2 x3 : Int) (D : HP), I4 x1 x2 x3 D → WP mX0_minutesBehindWhichIn Q 4 [vR o, vI x1, vI x2, vI x3] [] D := fun x1 x2 x3 D hI => (IH (u4 x1 x2 x3 D * 1 + 0 + 1)) x1 x2 x3 D hI (by omega)
  refine WP_cD (fun hcD => ?_)
  refine WP_cl (fun hcl => ?_)
  have h := h0 hcD (cVs_g hcl (i := 1) (v := vI a) rfl)
  refine WP_iconst (z := 0) dX0_minutesBehindWhichIn_0 rfl ⟨by decide, by decide⟩ ?_
  refine WP_istore_n (ls1 := [vR o, vI a, vI 0, vU]) dX0_minutesBehindWhichIn_1 (by decide) rfl ?_
  refine WP_iconst (z := 0) dX0_minutesBehindWhichIn_2 rfl ⟨by decide, by decide⟩ ?_
  refine WP_istore_n (ls1 := [vR o, vI a, vI 0, vI 0]) dX0_minutesBehindWhichIn_3 (by decide) rfl ?_
  exact cut4_ _ _ _ _ h
set_option maxRecDepth 100000 in
set_option maxHeartbeats 4000000 in
theorem P_X0_minutesBehindWhichIn {o : Nat} (ho : o = 9 ∨ o = 25) {a : Int} {D : HP} (hob : oX0_minutesBehindWhichIn D o a) : CT mX0_minutesBehindWhichIn [vR o, vI a] D (PF (vI (fX0_minutesBehindWhichIn D o a)) D) := by
  refine V_X0_minutesBehindWhichIn ho a (I4 := fun x1 x2 x3 D' => D' = D ∧ x1 = a ∧ ∃ j : Nat, x3 = j ∧ j ≤ (D (o + 1) 2).toNat ∧ x2 = cntB (fun m => decide (fX0_whoIsIn D o m = a)) j ∧ 0 ≤ x2 ∧ x2 ≤ j) (u4 := fun _ _ x3 D' => (D' (o + 1) 2 - x3).toNat) (fun _ _ => ⟨rfl, rfl, 0, rfl, Nat.zero_le _, rfl, by decide, by decide⟩) ?_
  rintro x1 x2 x3 D' ⟨rfl, rfl, j, rfl, hj, h1, h2, h3⟩ hcD c1 c2 c3
  have hm := cD_i hcD (k := o + 1) (i := 2) (by rcases ho with rfl | rfl <;> rfl)
  refine ⟨fun hc => ⟨?_, rfl⟩, fun hc => ⟨oT_X0_whoIsIn _ _ _, ?_, ?_, ⟨rfl, rfl, j + 1, by omega, by omega, ?_, ?_, ?_⟩, by omega⟩⟩
  · have : j = (D' (o + 1) 2).toNat := by omega
    subst this
    rw [h1]
    rfl
  · unfold c32 at *; split <;> omega
  · unfold c32 at *; omega
  · rw [h1]
    simp only [cntB]
    grind
  · split <;> omega
  · split <;> omega

def fX0_whoIsInLast (D : HP) (o : Nat) : Int := (fX0_whoIsIn D o ((D (o + 1) 2) - 1))
def oX0_whoIsInLast (D : HP) (o : Nat) : Prop := ((c32 ((D (o + 1) 2) - 1)) ∧ ((oX0_whoIsIn D o ((D (o + 1) 2) - 1)) ∧ True))
set_option maxRecDepth 100000 in
set_option maxHeartbeats 4000000 in
theorem V_X0_whoIsInLast {o : Nat} (ho : o = 9 ∨ o = 25) {D : HP} {Q : Option MV → HP → Prop}
    (h0 : cD D → ((c32 ((D (o + 1) 2) - 1)) ∧ ((oX0_whoIsIn D o ((D (o + 1) 2) - 1)) ∧ (Q (some (vI (fX0_whoIsIn D o ((D (o + 1) 2) - 1)))) D))))
    : CT mX0_whoIsInLast [vR o] D Q := by
  refine CT.of 0 (by decide) (Nat.le_of_ble_eq_true rfl) ?_
  show WP mX0_whoIsInLast Q 0 [vR o] [] D
  refine WP_cD (fun hcD => ?_)
  have h := h0 hcD
  refine WP_aload_n (z := o) dX0_whoIsInLast_0 rfl ?_
  refine WP_aload_n (z := o) dX0_whoIsInLast_1 rfl ?_
  refine WP_getR (z := (o + 1)) dX0_whoIsInLast_2 fl_RX0_12 (kcC_0 ho) rfl (srC_0_0 ho) ?_
  refine WP_getI dX0_whoIsInLast_5 fl_RX0_54 (kcC_1 ho) rfl rfl ?_
  refine WP_iconst (z := 1) dX0_whoIsInLast_8 rfl ⟨by decide, by decide⟩ ?_
  obtain ⟨o2, h⟩ := h
  refine WP_isub (z := ((D (o + 1) 2) - 1)) dX0_whoIsInLast_9 (w32_id o2) ?_
  obtain ⟨o1, h⟩ := h
  refine WP_pcallV (g := mX0_whoIsIn) (as := [vI ((D (o + 1) 2) - 1)]) (rest := []) (n := 1) (r := vI (fX0_whoIsIn D o ((D (o + 1) 2) - 1))) dX0_whoIsInLast_10 wm_484 mo_X0_whoIsIn (kcC_0 ho) rfl rfl rfl ⟨Nat.le_of_ble_eq_true rfl, Nat.le_of_ble_eq_true rfl⟩ (Nat.le_of_ble_eq_true rfl) (P_X0_whoIsIn ho o1) ?_
  exact WP_ireturn dX0_whoIsInLast_13 rfl h
set_option maxRecDepth 100000 in
set_option maxHeartbeats 4000000 in
theorem P_X0_whoIsInLast {o : Nat} (ho : o = 9 ∨ o = 25) {D : HP} (hob : oX0_whoIsInLast D o) : CT mX0_whoIsInLast [vR o] D (PF (vI (fX0_whoIsInLast D o)) D) := by
  refine V_X0_whoIsInLast ho (fun hcD => ?_)
  obtain ⟨z, hz⟩ : ∃ z, z = fX0_whoIsInLast D o := ⟨_, rfl⟩
  rw [← hz]
  unfold fX0_whoIsInLast at hz
  unfold oX0_whoIsInLast at hob
  refine ⟨hob.1, ?_⟩
  replace hob := hob.2
  refine ⟨hob.1, ?_⟩
  replace hob := hob.2
  exact ⟨by rw [hz], rfl⟩
def fX0_manyTurned (D : HP) (o : Nat) : Int := (if (D (o + 1) 2) < 0 then (0 : Int) else (if 12 < (D (o + 1) 2) then (0 : Int) else (fJ6_bitCount_0f7a4 D (D (o + 11) ((D (o + 1) 2)).toNat))))
def oX0_manyTurned (D : HP) (o : Nat) : Prop := (((((D (o + 1) 2) < 0) → True) ∧ (¬ ((D (o + 1) 2) < 0) → (((12 < (D (o + 1) 2)) → True) ∧ (¬ (12 < (D (o + 1) 2)) → (0 ≤ (D (o + 1) 2) ∧ (D (o + 1) 2) < 13))))) ∧ True)
set_option maxRecDepth 100000 in
set_option maxHeartbeats 4000000 in
theorem V_X0_manyTurned {o : Nat} (ho : o = 9 ∨ o = 25) {D : HP} {Q : Option MV → HP → Prop}
    (h0 : cD D → (((((D (o + 1) 2) < 0) → True) ∧ (¬ ((D (o + 1) 2) < 0) → (((12 < (D (o + 1) 2)) → True) ∧ (¬ (12 < (D (o + 1) 2)) → (0 ≤ (D (o + 1) 2) ∧ (D (o + 1) 2) < 13))))) ∧ (Q (some (vI (if (D (o + 1) 2) < 0 then (0 : Int) else (if 12 < (D (o + 1) 2) then (0 : Int) else (fJ6_bitCount_0f7a4 D (D (o + 11) ((D (o + 1) 2)).toNat)))))) D)))
    : CT mX0_manyTurned [vR o] D Q := by
  refine CT.of 1 (by decide) (Nat.le_of_ble_eq_true rfl) ?_
  show WP mX0_manyTurned Q 0 [vR o, vU] [] D
  refine WP_cD (fun hcD => ?_)
  have h := h0 hcD
  refine WP_aload_n (z := o) dX0_manyTurned_0 rfl ?_
  refine WP_getR (z := (o + 1)) dX0_manyTurned_1 fl_RX0_12 (kcC_0 ho) rfl (srC_0_0 ho) ?_
  refine WP_getI dX0_manyTurned_4 fl_RX0_54 (kcC_1 ho) rfl rfl ?_
  refine WP_istore_n (ls1 := [vR o, vI (D (o + 1) 2)]) dX0_manyTurned_7 (by decide) rfl ?_
  refine WP_iload_n (z := (D (o + 1) 2)) dX0_manyTurned_8 rfl ?_
  obtain ⟨o1, h⟩ := h
  refine WP_via (pc1 := 31) (ls1 := [vR o, vI (D (o + 1) 2)]) (st1 := [vI (if (D (o + 1) 2) < 0 then (0 : Int) else (if 12 < (D (o + 1) 2) then (0 : Int) else (fJ6_bitCount_0f7a4 D (D (o + 11) ((D (o + 1) 2)).toNat))))]) (D1 := D) (fun hJ2 => ?_) ?_
  · refine WP_if_lt (tgt := 30) dX0_manyTurned_9 (by decide) (fun c3 => ?_) (fun c3 => ?_)
    · replace hJ2 := ite_t (P := fun v_ : Int => WP mX0_manyTurned Q 31 [vR o, vI (D (o + 1) 2)] [vI v_] D) hJ2 c3
      have o4 := o1.1 c3
      refine WP_iconst (z := 0) dX0_manyTurned_30 rfl ⟨by decide, by decide⟩ ?_
      exact hJ2
    · replace hJ2 := ite_f (P := fun v_ : Int => WP mX0_manyTurned Q 31 [vR o, vI (D (o + 1) 2)] [vI v_] D) hJ2 c3
      have o5 := o1.2 c3
      refine WP_iload_n (z := (D (o + 1) 2)) dX0_manyTurned_12 rfl ?_
      refine WP_bipush (z := 12) dX0_manyTurned_13 rfl (by decide) ?_
      refine WP_via (pc1 := 31) (ls1 := [vR o, vI (D (o + 1) 2)]) (st1 := [vI (if 12 < (D (o + 1) 2) then (0 : Int) else (fJ6_bitCount_0f7a4 D (D (o + 11) ((D (o + 1) 2)).toNat)))]) (D1 := D) (fun hJ6 => ?_) ?_
      · refine WP_icmp_gt (tgt := 30) dX0_manyTurned_15 (by decide) (fun c7 => ?_) (fun c7 => ?_)
        · replace hJ6 := ite_t (P := fun v_ : Int => WP mX0_manyTurned Q 31 [vR o, vI (D (o + 1) 2)] [vI v_] D) hJ6 c7
          have o8 := o5.1 c7
          refine WP_iconst (z := 0) dX0_manyTurned_30 rfl ⟨by decide, by decide⟩ ?_
          exact hJ6
        · replace hJ6 := ite_f (P := fun v_ : Int => WP mX0_manyTurned Q 31 [vR o, vI (D (o + 1) 2)] [vI v_] D) hJ6 c7
          have o9 := o5.2 c7
          refine WP_aload_n (z := o) dX0_manyTurned_18 rfl ?_
          refine WP_getR (z := (o + 11)) dX0_manyTurned_19 fl_RX0_26 (kcC_0 ho) rfl (srC_0_3 ho) ?_
          refine WP_iload_n (z := (D (o + 1) 2)) dX0_manyTurned_22 rfl ?_
          refine WP_iald dX0_manyTurned_23 (kcC_11 ho) o9.1 o9.2 rfl ?_
          refine WP_pcallS (g := mJ6_bitCount_0f7a4) (as := [vI (D (o + 11) ((D (o + 1) 2)).toNat)]) (rest := []) (n := 1) (r := vI (fJ6_bitCount_0f7a4 D (D (o + 11) ((D (o + 1) 2)).toNat))) dX0_manyTurned_24 wm_815 mo_J6_bitCount_0f7a4 rfl rfl ⟨Nat.le_of_ble_eq_true rfl, Nat.le_of_ble_eq_true rfl⟩ (Nat.le_of_ble_eq_true rfl) (P_J6_bitCount_0f7a4  trivial) ?_
          refine WP_goto (tgt := 31) dX0_manyTurned_27 (by decide) ?_
          exact hJ6
      exact hJ2
  · exact WP_ireturn dX0_manyTurned_31 rfl h
set_option maxRecDepth 100000 in
set_option maxHeartbeats 4000000 in
theorem P_X0_manyTurned {o : Nat} (ho : o = 9 ∨ o = 25) {D : HP} (hob : oX0_manyTurned D o) : CT mX0_manyTurned [vR o] D (PF (vI (fX0_manyTurned D o)) D) := by
  refine V_X0_manyTurned ho (fun hcD => ?_)
  obtain ⟨z, hz⟩ : ∃ z, z = fX0_manyTurned D o := ⟨_, rfl⟩
  rw [← hz]
  unfold fX0_manyTurned at hz
  unfold oX0_manyTurned at hob
  refine ⟨hob.1, ?_⟩
  replace hob := hob.2
  exact ⟨by rw [hz], rfl⟩
def fX4_isSighting (D : HP) (a : Int) (b : Int) : Int := (if a < 0 then (0 : Int) else (if 12 ≤ a then (0 : Int) else (if b < 0 then (0 : Int) else (if 8 < b then (0 : Int) else 1))))
theorem bfX4_isSighting (D : HP) (a : Int) (b : Int) : fX4_isSighting D a b = 0 ∨ fX4_isSighting D a b = 1 := by unfold fX4_isSighting; exact (bool_ite (Or.inl rfl) (bool_ite (Or.inl rfl) (bool_ite (Or.inl rfl) (bool_ite (Or.inl rfl) (Or.inr rfl)))))
def oX4_isSighting (D : HP) (a : Int) (b : Int) : Prop := True
set_option maxRecDepth 100000 in
set_option maxHeartbeats 4000000 in
theorem V_X4_isSighting (a : Int) (b : Int) {D : HP} {Q : Option MV → HP → Prop}
    (h0 : cD D → c32 a → c32 b → (Q (some (vI (if a < 0 then (0 : Int) else (if 12 ≤ a then (0 : Int) else (if b < 0 then (0 : Int) else (if 8 < b then (0 : Int) else 1)))))) D))
    : CT mX4_isSighting [vR 41, vI a, vI b] D Q := by
  refine CT.of 0 (by decide) (Nat.le_of_ble_eq_true rfl) ?_
  show WP mX4_isSighting Q 0 [vR 41, vI a, vI b] [] D
  refine WP_cD (fun hcD => ?_)
  refine WP_cl (fun hcl => ?_)
  have h := h0 hcD (cVs_g hcl (i := 1) (v := vI a) rfl) (cVs_g hcl (i := 2) (v := vI b) rfl)
  refine WP_iload_n (z := a) dX4_isSighting_0 rfl ?_
  refine WP_via (pc1 := 25) (ls1 := [vR 41, vI a, vI b]) (st1 := [vI (if a < 0 then (0 : Int) else (if 12 ≤ a then (0 : Int) else (if b < 0 then (0 : Int) else (if 8 < b then (0 : Int) else 1))))]) (D1 := D) (fun hJ1 => ?_) ?_
  · refine WP_if_lt (tgt := 24) dX4_isSighting_1 (by decide) (fun c2 => ?_) (fun c2 => ?_)
    · replace hJ1 := ite_t (P := fun v_ : Int => WP mX4_isSighting Q 25 [vR 41, vI a, vI b] [vI v_] D) hJ1 c2
      refine WP_iconst (z := 0) dX4_isSighting_24 rfl ⟨by decide, by decide⟩ ?_
      exact hJ1
    · replace hJ1 := ite_f (P := fun v_ : Int => WP mX4_isSighting Q 25 [vR 41, vI a, vI b] [vI v_] D) hJ1 c2
      refine WP_iload_n (z := a) dX4_isSighting_4 rfl ?_
      refine WP_bipush (z := 12) dX4_isSighting_5 rfl (by decide) ?_
      refine WP_via (pc1 := 25) (ls1 := [vR 41, vI a, vI b]) (st1 := [vI (if 12 ≤ a then (0 : Int) else (if b < 0 then (0 : Int) else (if 8 < b then (0 : Int) else 1)))]) (D1 := D) (fun hJ3 => ?_) ?_
      · refine WP_icmp_ge (tgt := 24) dX4_isSighting_7 (by decide) (fun c4 => ?_) (fun c4 => ?_)
        · replace hJ3 := ite_t (P := fun v_ : Int => WP mX4_isSighting Q 25 [vR 41, vI a, vI b] [vI v_] D) hJ3 c4
          refine WP_iconst (z := 0) dX4_isSighting_24 rfl ⟨by decide, by decide⟩ ?_
          exact hJ3
        · replace hJ3 := ite_f (P := fun v_ : Int => WP mX4_isSighting Q 25 [vR 41, vI a, vI b] [vI v_] D) hJ3 c4
          refine WP_iload_n (z := b) dX4_isSighting_10 rfl ?_
          refine WP_via (pc1 := 25) (ls1 := [vR 41, vI a, vI b]) (st1 := [vI (if b < 0 then (0 : Int) else (if 8 < b then (0 : Int) else 1))]) (D1 := D) (fun hJ5 => ?_) ?_
          · refine WP_if_lt (tgt := 24) dX4_isSighting_11 (by decide) (fun c6 => ?_) (fun c6 => ?_)
            · replace hJ5 := ite_t (P := fun v_ : Int => WP mX4_isSighting Q 25 [vR 41, vI a, vI b] [vI v_] D) hJ5 c6
              refine WP_iconst (z := 0) dX4_isSighting_24 rfl ⟨by decide, by decide⟩ ?_
              exact hJ5
            · replace hJ5 := ite_f (P := fun v_ : Int => WP mX4_isSighting Q 25 [vR 41, vI a, vI b] [vI v_] D) hJ5 c6
              refine WP_iload_n (z := b) dX4_isSighting_14 rfl ?_
              refine WP_bipush (z := 8) dX4_isSighting_15 rfl (by decide) ?_
              refine WP_via (pc1 := 25) (ls1 := [vR 41, vI a, vI b]) (st1 := [vI (if 8 < b then (0 : Int) else 1)]) (D1 := D) (fun hJ7 => ?_) ?_
              · refine WP_icmp_gt (tgt := 24) dX4_isSighting_17 (by decide) (fun c8 => ?_) (fun c8 => ?_)
                · replace hJ7 := ite_t (P := fun v_ : Int => WP mX4_isSighting Q 25 [vR 41, vI a, vI b] [vI v_] D) hJ7 c8
                  refine WP_iconst (z := 0) dX4_isSighting_24 rfl ⟨by decide, by decide⟩ ?_
                  exact hJ7
                · replace hJ7 := ite_f (P := fun v_ : Int => WP mX4_isSighting Q 25 [vR 41, vI a, vI b] [vI v_] D) hJ7 c8
                  refine WP_iconst (z := 1) dX4_isSighting_20 rfl ⟨by decide, by decide⟩ ?_
                  refine WP_goto (tgt := 25) dX4_isSighting_21 (by decide) ?_
                  exact hJ7
              exact hJ5
          exact hJ3
      exact hJ1
  · exact WP_zreturn dX4_isSighting_25 rfl (bool_ite (Or.inl rfl) (bool_ite (Or.inl rfl) (bool_ite (Or.inl rfl) (bool_ite (Or.inl rfl) (Or.inr rfl))))) h
set_option maxRecDepth 100000 in
set_option maxHeartbeats 4000000 in
theorem P_X4_isSighting {a : Int} {b : Int} {D : HP} (hob : oX4_isSighting D a b) : CT mX4_isSighting [vR 41, vI a, vI b] D (PF (vI (fX4_isSighting D a b)) D) := by
  refine V_X4_isSighting a b (fun hcD hc_0 hc_1 => ?_)
  obtain ⟨z, hz⟩ : ∃ z, z = fX4_isSighting D a b := ⟨_, rfl⟩
  rw [← hz]
  unfold fX4_isSighting at hz
  exact ⟨by rw [hz], rfl⟩
def fX4_isFull (D : HP)  : Int := (if (D 41 0) < 8 then (0 : Int) else 1)
theorem bfX4_isFull (D : HP)  : fX4_isFull D = 0 ∨ fX4_isFull D = 1 := by unfold fX4_isFull; exact (bool_ite (Or.inl rfl) (Or.inr rfl))
def oX4_isFull (D : HP)  : Prop := True
set_option maxRecDepth 100000 in
set_option maxHeartbeats 4000000 in
theorem V_X4_isFull  {D : HP} {Q : Option MV → HP → Prop}
    (h0 : cD D → (Q (some (vI (if (D 41 0) < 8 then (0 : Int) else 1))) D))
    : CT mX4_isFull [vR 41] D Q := by
  refine CT.of 0 (by decide) (Nat.le_of_ble_eq_true rfl) ?_
  show WP mX4_isFull Q 0 [vR 41] [] D
  refine WP_cD (fun hcD => ?_)
  have h := h0 hcD
  refine WP_aload_n (z := 41) dX4_isFull_0 rfl ?_
  refine WP_getI dX4_isFull_1 fl_RX4_9 rfl rfl rfl ?_
  refine WP_bipush (z := 8) dX4_isFull_4 rfl (by decide) ?_
  refine WP_via (pc1 := 14) (ls1 := [vR 41]) (st1 := [vI (if (D 41 0) < 8 then (0 : Int) else 1)]) (D1 := D) (fun hJ1 => ?_) ?_
  · refine WP_icmp_lt (tgt := 13) dX4_isFull_6 (by decide) (fun c2 => ?_) (fun c2 => ?_)
    · replace hJ1 := ite_t (P := fun v_ : Int => WP mX4_isFull Q 14 [vR 41] [vI v_] D) hJ1 c2
      refine WP_iconst (z := 0) dX4_isFull_13 rfl ⟨by decide, by decide⟩ ?_
      exact hJ1
    · replace hJ1 := ite_f (P := fun v_ : Int => WP mX4_isFull Q 14 [vR 41] [vI v_] D) hJ1 c2
      refine WP_iconst (z := 1) dX4_isFull_9 rfl ⟨by decide, by decide⟩ ?_
      refine WP_goto (tgt := 14) dX4_isFull_10 (by decide) ?_
      exact hJ1
  · exact WP_zreturn dX4_isFull_14 rfl (bool_ite (Or.inl rfl) (Or.inr rfl)) h
set_option maxRecDepth 100000 in
set_option maxHeartbeats 4000000 in
theorem P_X4_isFull  {D : HP} (hob : oX4_isFull D) : CT mX4_isFull [vR 41] D (PF (vI (fX4_isFull D)) D) := by
  refine V_X4_isFull  (fun hcD => ?_)
  obtain ⟨z, hz⟩ : ∃ z, z = fX4_isFull D := ⟨_, rfl⟩
  rw [← hz]
  unfold fX4_isFull at hz
  exact ⟨by rw [hz], rfl⟩
set_option maxRecDepth 100000 in
set_option maxHeartbeats 4000000 in
theorem V_X4_append (a : Int) (b : Int) {D : HP} {Q : Option MV → HP → Prop}
    (h0 : cD D → c32 a → c32 b → (((D 41 0) < 0 → (Q none D)) ∧ (¬ ((D 41 0) < 0) → ((8 ≤ (D 41 0) → (Q none D)) ∧ (¬ (8 ≤ (D 41 0)) → ((0 ≤ (D 41 0) ∧ (D 41 0) < 8) ∧ (∀ (E3 : HP), E3 = (hu D 42 ((D 41 0)).toNat a) → ((0 ≤ (E3 41 0) ∧ (E3 41 0) < 8) ∧ (∀ (E5 : HP), E5 = (hu E3 43 ((E3 41 0)).toNat b) → ((c32 ((E5 41 0) + 1)) ∧ (∀ (E7 : HP), E7 = (hu E5 41 0 ((E5 41 0) + 1)) → (Q none E7))))))))))))
    : CT mX4_append [vR 41, vI a, vI b] D Q := by
  refine CT.of 0 (by decide) (Nat.le_of_ble_eq_true rfl) ?_
  show WP mX4_append Q 0 [vR 41, vI a, vI b] [] D
  refine WP_cD (fun hcD => ?_)
  refine WP_cl (fun hcl => ?_)
  have h := h0 hcD (cVs_g hcl (i := 1) (v := vI a) rfl) (cVs_g hcl (i := 2) (v := vI b) rfl)
  refine WP_aload_n (z := 41) dX4_append_0 rfl ?_
  refine WP_getI dX4_append_1 fl_RX4_9 rfl rfl rfl ?_
  refine WP_if_lt (tgt := 46) dX4_append_4 (by decide) (fun c1 => ?_) (fun c1 => ?_)
  · replace h := h.1 c1
    exact WP_return dX4_append_46 rfl h
  · replace h := h.2 c1
    refine WP_aload_n (z := 41) dX4_append_7 rfl ?_
    refine WP_getI dX4_append_8 fl_RX4_9 rfl rfl rfl ?_
    refine WP_bipush (z := 8) dX4_append_11 rfl (by decide) ?_
    refine WP_icmp_ge (tgt := 46) dX4_append_13 (by decide) (fun c2 => ?_) (fun c2 => ?_)
    · replace h := h.1 c2
      exact WP_return dX4_append_46 rfl h
    · replace h := h.2 c2
      refine WP_aload_n (z := 41) dX4_append_16 rfl ?_
      refine WP_getR (z := 42) dX4_append_17 fl_RX4_15 rfl rfl rfl ?_
      refine WP_aload_n (z := 41) dX4_append_20 rfl ?_
      refine WP_getI dX4_append_21 fl_RX4_9 rfl rfl rfl ?_
      refine WP_iload_n (z := a) dX4_append_24 rfl ?_
      obtain ⟨o11, h⟩ := h
      refine WP_iast dX4_append_25 rfl o11.1 o11.2 ?_
      obtain ⟨E3, hE4⟩ : ∃ E3 : HP, E3 = (hu D 42 ((D 41 0)).toNat a) := ⟨_, rfl⟩
      replace h := h E3 hE4
      show WP mX4_append Q 26 [vR 41, vI a, vI b] [] (hu D 42 ((D 41 0)).toNat a)
      rw [← hE4]
      refine WP_aload_n (z := 41) dX4_append_26 rfl ?_
      refine WP_getR (z := 43) dX4_append_27 fl_RX4_19 rfl rfl rfl ?_
      refine WP_aload_n (z := 41) dX4_append_30 rfl ?_
      refine WP_getI dX4_append_31 fl_RX4_9 rfl rfl rfl ?_
      refine WP_iload_n (z := b) dX4_append_34 rfl ?_
      obtain ⟨o10, h⟩ := h
      refine WP_iast dX4_append_35 rfl o10.1 o10.2 ?_
      obtain ⟨E5, hE6⟩ : ∃ E5 : HP, E5 = (hu E3 43 ((E3 41 0)).toNat b) := ⟨_, rfl⟩
      replace h := h E5 hE6
      show WP mX4_append Q 36 [vR 41, vI a, vI b] [] (hu E3 43 ((E3 41 0)).toNat b)
      rw [← hE6]
      refine WP_aload_n (z := 41) dX4_append_36 rfl ?_
      refine WP_dup dX4_append_37 (Nat.ne_of_beq_eq_false rfl) ?_
      refine WP_getI dX4_append_38 fl_RX4_9 rfl rfl rfl ?_
      refine WP_iconst (z := 1) dX4_append_41 rfl ⟨by decide, by decide⟩ ?_
      obtain ⟨o9, h⟩ := h
      refine WP_iadd (z := ((E5 41 0) + 1)) dX4_append_42 (w32_id o9) ?_
      refine WP_putI dX4_append_43 fp_RX4_9 rfl rfl ?_
      obtain ⟨E7, hE8⟩ : ∃ E7 : HP, E7 = (hu E5 41 0 ((E5 41 0) + 1)) := ⟨_, rfl⟩
      replace h := h E7 hE8
      show WP mX4_append Q 46 [vR 41, vI a, vI b] [] (hu E5 41 0 ((E5 41 0) + 1))
      rw [← hE8]
      exact WP_return dX4_append_46 rfl h
def fX4_comeOutSo (D : HP) (o : Nat) : Int := if exB (fun i => decide (D (o + 1) 2 ≤ D 42 i ∨ fX0_whoIsIn D o (D 42 i) ≠ (if D 43 i = 8 then -1 else D 43 i))) (if D 41 0 < 8 then D 41 0 else 8).toNat then 0 else 1
def oX4_comeOutSo (D : HP) (o : Nat) : Prop := True
theorem bfX4_comeOutSo (D : HP) (a : Nat) : fX4_comeOutSo D a = 0 ∨ fX4_comeOutSo D a = 1 := by unfold fX4_comeOutSo; split <;> simp
set_option maxRecDepth 100000 in
set_option maxHeartbeats 4000000 in
theorem V_X4_comeOutSo {a : Nat} (ha : a = 9 ∨ a = 25) {D : HP} {Q : Option MV → HP → Prop} (I2 : Int → HP → Prop) (u2 : Int → HP → Nat)
    (h0 : cD D → (I2 0 D))
    (h2 : ∀ (x2 : Int) (D : HP), I2 x2 D → cD D → c32 x2 → (((D 41 0) ≤ x2 → (Q (some (vI 1)) D)) ∧ (¬ ((D 41 0) ≤ x2) → ((8 ≤ x2 → (Q (some (vI 1)) D)) ∧ (¬ (8 ≤ x2) → ((0 ≤ x2 ∧ x2 < 8) ∧ (((((D 43 x2.toNat) = 8) → True) ∧ (¬ ((D 43 x2.toNat) = 8) → (0 ≤ x2 ∧ x2 < 8))) ∧ ((0 ≤ x2 ∧ x2 < 8) ∧ (((D (a + 1) 2) ≤ (D 42 x2.toNat) → (Q (some (vI 0)) D)) ∧ (¬ ((D (a + 1) 2) ≤ (D 42 x2.toNat)) → ((0 ≤ x2 ∧ x2 < 8) ∧ ((oX0_whoIsIn D a (D 42 x2.toNat)) ∧ (((fX0_whoIsIn D a (D 42 x2.toNat)) = (if (D 43 x2.toNat) = 8 then ((-1) : Int) else (D 43 x2.toNat)) → ((c32 (x2 + 1)) ∧ (I2 (x2 + 1) D ∧ u2 (x2 + 1) D < u2 x2 D))) ∧ (¬ ((fX0_whoIsIn D a (D 42 x2.toNat)) = (if (D 43 x2.toNat) = 8 then ((-1) : Int) else (D 43 x2.toNat))) → (Q (some (vI 0)) D)))))))))))))))
    : CT mX4_comeOutSo [vR 41, vR a] D Q := by
  refine CT.of 2 (by decide) (Nat.le_of_ble_eq_true rfl) ?_
  show WP mX4_comeOutSo Q 0 [vR 41, vR a, vU, vU] [] D
  have IH : ∀ n : Nat, (∀ (x2 : Int) (D : HP), I2 x2 D → u2 x2 D * 1 + 0 < n → WP mX4_comeOutSo Q 2 [vR 41, vR a, vI x2, vU] [] D) := by
    intro n
    induction n with
    | zero => exact fun _ _ _ h => absurd h (Nat.not_lt_zero _)
    | succ n ih =>
      have ih2_ := ih
      · intro x2 D hI hn
        refine WP_cD (fun hcD => ?_)
        refine WP_cl (fun hcl => ?_)
        have h := h2 x2 D hI hcD (cVs_g hcl (i := 2) (v := vI x2) rfl)
        refine WP_iload_n (z := x2) dX4_comeOutSo_2 rfl ?_
        refine WP_aload_n (z := 41) dX4_comeOutSo_3 rfl ?_
        refine WP_getI dX4_comeOutSo_4 fl_RX4_9 rfl rfl rfl ?_
        refine WP_icmp_ge (tgt := 76) dX4_comeOutSo_7 (by decide) (fun c1 => ?_) (fun c1 => ?_)
        · replace h := h.1 c1
          refine WP_iconst (z := 1) dX4_comeOutSo_76 rfl ⟨by decide, by decide⟩ ?_
          exact WP_zreturn dX4_comeOutSo_77 rfl (by decide) h
        · replace h := h.2 c1
          refine WP_iload_n (z := x2) dX4_comeOutSo_10 rfl ?_
          refine WP_bipush (z := 8) dX4_comeOutSo_11 rfl (by decide) ?_
          refine WP_icmp_ge (tgt := 76) dX4_comeOutSo_13 (by decide) (fun c2 => ?_) (fun c2 => ?_)
          · replace h := h.1 c2
            refine WP_iconst (z := 1) dX4_comeOutSo_76 rfl ⟨by decide, by decide⟩ ?_
            exact WP_zreturn dX4_comeOutSo_77 rfl (by decide) h
          · replace h := h.2 c2
            refine WP_aload_n (z := 41) dX4_comeOutSo_16 rfl ?_
            refine WP_getR (z := 43) dX4_comeOutSo_17 fl_RX4_19 rfl rfl rfl ?_
            refine WP_iload_n (z := x2) dX4_comeOutSo_20 rfl ?_
            obtain ⟨o14, h⟩ := h
            refine WP_iald dX4_comeOutSo_21 rfl o14.1 o14.2 rfl ?_
            refine WP_bipush (z := 8) dX4_comeOutSo_22 rfl (by decide) ?_
            obtain ⟨o3, h⟩ := h
            refine WP_via (pc1 := 37) (ls1 := [vR 41, vR a, vI x2, vU]) (st1 := [vI (if (D 43 x2.toNat) = 8 then ((-1) : Int) else (D 43 x2.toNat))]) (D1 := D) (fun hJ10 => ?_) ?_
            · refine WP_icmp_ne (tgt := 31) dX4_comeOutSo_24 (by decide) (fun c11 => ?_) (fun c11 => ?_)
              · replace hJ10 := ite_f (P := fun v_ : Int => WP mX4_comeOutSo Q 37 [vR 41, vR a, vI x2, vU] [vI v_] D) hJ10 c11
                have o13 := o3.2 c11
                refine WP_aload_n (z := 41) dX4_comeOutSo_31 rfl ?_
                refine WP_getR (z := 43) dX4_comeOutSo_32 fl_RX4_19 rfl rfl rfl ?_
                refine WP_iload_n (z := x2) dX4_comeOutSo_35 rfl ?_
                refine WP_iald dX4_comeOutSo_36 rfl o13.1 o13.2 rfl ?_
                exact hJ10
              · replace hJ10 := ite_t (P := fun v_ : Int => WP mX4_comeOutSo Q 37 [vR 41, vR a, vI x2, vU] [vI v_] D) hJ10 c11
                have o12 := o3.1 c11
                refine WP_iconst (z := (-1)) dX4_comeOutSo_27 rfl ⟨by decide, by decide⟩ ?_
                refine WP_goto (tgt := 37) dX4_comeOutSo_28 (by decide) ?_
                exact hJ10
            · refine WP_istore_n (ls1 := [vR 41, vR a, vI x2, vI (if (D 43 x2.toNat) = 8 then ((-1) : Int) else (D 43 x2.toNat))]) dX4_comeOutSo_37 (by decide) rfl ?_
              refine WP_aload_n (z := 41) dX4_comeOutSo_38 rfl ?_
              refine WP_getR (z := 42) dX4_comeOutSo_39 fl_RX4_15 rfl rfl rfl ?_
              refine WP_iload_n (z := x2) dX4_comeOutSo_42 rfl ?_
              obtain ⟨o9, h⟩ := h
              refine WP_iald dX4_comeOutSo_43 rfl o9.1 o9.2 rfl ?_
              refine WP_aload_n (z := a) dX4_comeOutSo_44 rfl ?_
              refine WP_getR (z := (a + 1)) dX4_comeOutSo_45 fl_RX4_22 (kcC_0 ha) rfl (srC_0_0 ha) ?_
              refine WP_getI dX4_comeOutSo_48 fl_RX4_28 (kcC_1 ha) rfl rfl ?_
              refine WP_icmp_ge (tgt := 68) dX4_comeOutSo_51 (by decide) (fun c4 => ?_) (fun c4 => ?_)
              · replace h := h.1 c4
                refine WP_iconst (z := 0) dX4_comeOutSo_68 rfl ⟨by decide, by decide⟩ ?_
                exact WP_zreturn dX4_comeOutSo_69 rfl (by decide) h
              · replace h := h.2 c4
                refine WP_aload_n (z := a) dX4_comeOutSo_54 rfl ?_
                refine WP_aload_n (z := 41) dX4_comeOutSo_55 rfl ?_
                refine WP_getR (z := 42) dX4_comeOutSo_56 fl_RX4_15 rfl rfl rfl ?_
                refine WP_iload_n (z := x2) dX4_comeOutSo_59 rfl ?_
                obtain ⟨o8, h⟩ := h
                refine WP_iald dX4_comeOutSo_60 rfl o8.1 o8.2 rfl ?_
                obtain ⟨o7, h⟩ := h
                refine WP_pcallV (g := mX0_whoIsIn) (as := [vI (D 42 x2.toNat)]) (rest := []) (n := 1) (r := vI (fX0_whoIsIn D a (D 42 x2.toNat))) dX4_comeOutSo_61 wm_710 mo_X0_whoIsIn (kcC_0 ha) rfl rfl rfl ⟨Nat.le_of_ble_eq_true rfl, Nat.le_of_ble_eq_true rfl⟩ (Nat.le_of_ble_eq_true rfl) (P_X0_whoIsIn ha o7) ?_
                refine WP_iload_n (z := (if (D 43 x2.toNat) = 8 then ((-1) : Int) else (D 43 x2.toNat))) dX4_comeOutSo_64 rfl ?_
                refine WP_icmp_eq (tgt := 70) dX4_comeOutSo_65 (by decide) (fun c5 => ?_) (fun c5 => ?_)
                · replace h := h.1 c5
                  obtain ⟨o6, h⟩ := h
                  refine WP_iinc (z := (x2 + 1)) (ls1 := [vR 41, vR a, vI (x2 + 1), vI (if (D 43 x2.toNat) = 8 then ((-1) : Int) else (D 43 x2.toNat))]) dX4_comeOutSo_70 rfl (w32_id o6) (by decide) rfl ?_
                  refine WP_goto (tgt := 2) dX4_comeOutSo_73 (by decide) ?_
                  refine WP_fg 3 (ls1 := [vR 41, vR a, vI (x2 + 1), vU]) rfl ?_
                  exact ih2_ _ _ h.1 (by have := h.2; omega)
                · replace h := h.2 c5
                  refine WP_iconst (z := 0) dX4_comeOutSo_68 rfl ⟨by decide, by decide⟩ ?_
                  exact WP_zreturn dX4_comeOutSo_69 rfl (by decide) h
  have cut2_ : ∀ (x2 : Int) (D : HP), I2 x2 D → WP mX4_comeOutSo Q 2 [vR 41, vR a, vI x2, vU] [] D := fun x2 D hI => (IH (u2 x2 D * 1 + 0 + 1)) x2 D hI (by omega)
  refine WP_cD (fun hcD => ?_)
  have h := h0 hcD
  refine WP_iconst (z := 0) dX4_comeOutSo_0 rfl ⟨by decide, by decide⟩ ?_
  refine WP_istore_n (ls1 := [vR 41, vR a, vI 0, vU]) dX4_comeOutSo_1 (by decide) rfl ?_
  exact cut2_ _ _ h
set_option maxRecDepth 100000 in
set_option maxHeartbeats 4000000 in
theorem P_X4_comeOutSo {a : Nat} (ha : a = 9 ∨ a = 25) {D : HP} (hob : oX4_comeOutSo D a) : CT mX4_comeOutSo [vR 41, vR a] D (PF (vI (fX4_comeOutSo D a)) D) := by
  refine V_X4_comeOutSo ha (I2 := fun x2 D' => D' = D ∧ ∃ j : Nat, x2 = j ∧ j ≤ (if D 41 0 < 8 then D 41 0 else 8).toNat ∧ exB (fun i => decide (D (a + 1) 2 ≤ D 42 i ∨ fX0_whoIsIn D a (D 42 i) ≠ (if D 43 i = 8 then -1 else D 43 i))) j = false) (u2 := fun x2 D' => (8 - x2).toNat) (fun _ => ⟨rfl, 0, rfl, Nat.zero_le _, rfl⟩) ?_
  rintro x2 D' ⟨rfl, j, rfl, hj, hn⟩ hcD c2
  have up : ∀ (p : Nat → Bool) (i n : Nat), i < n → p i = true → exB p n = true := by
    intro p i n
    induction n with
    | zero => intro h; omega
    | succ n ih =>
      intro h hp
      rw [exB, Bool.or_eq_true]
      by_cases e : i = n
      · subst e; exact Or.inr hp
      · exact Or.inl (ih (by omega) hp)
  refine ⟨fun hc => ⟨?_, rfl⟩, fun hc => ⟨fun h8 => ⟨?_, rfl⟩, fun h8 => ⟨by omega, ⟨fun _ => trivial, fun _ => by omega⟩, by omega, fun h1 => ⟨?_, rfl⟩, fun h1 => ⟨by omega, oT_X0_whoIsIn _ _ _, fun h2 => ⟨?_, ⟨rfl, j + 1, by omega, ?_, ?_⟩, by omega⟩, fun h2 => ⟨?_, rfl⟩⟩⟩⟩⟩
  · have : j = (if D' 41 0 < 8 then D' 41 0 else 8).toNat := by split at hj <;> split <;> omega
    subst this
    unfold fX4_comeOutSo
    rw [hn]; rfl
  · have : j = (if D' 41 0 < 8 then D' 41 0 else 8).toNat := by split at hj <;> split <;> omega
    subst this
    unfold fX4_comeOutSo
    rw [hn]; rfl
  · unfold fX4_comeOutSo
    rw [up _ j _ (by split <;> omega) (by simp only [Int.toNat_natCast] at h1; simp [h1])]
    rfl
  · unfold c32; omega
  · split <;> omega
  · rw [exB, hn]
    simp only [Int.toNat_natCast] at h1 h2
    simp [h1, h2]
  · unfold fX4_comeOutSo
    rw [up _ j _ (by split <;> omega) (by simp only [Int.toNat_natCast] at h1 h2; simp [h2])]
    rfl

