def fX5_isText (D : HP) (a : Int) : Int := (if a < 0 then (0 : Int) else (if 3 ≤ a then (0 : Int) else 1))
theorem bfX5_isText (D : HP) (a : Int) : fX5_isText D a = 0 ∨ fX5_isText D a = 1 := by unfold fX5_isText; exact (bool_ite (Or.inl rfl) (bool_ite (Or.inl rfl) (Or.inr rfl)))
def oX5_isText (D : HP) (a : Int) : Prop := True
set_option maxRecDepth 100000 in
set_option maxHeartbeats 4000000 in
theorem V_X5_isText (a : Int) {D : HP} {Q : Option MV → HP → Prop}
    (h0 : cD D → c32 a → (Q (some (vI (if a < 0 then (0 : Int) else (if 3 ≤ a then (0 : Int) else 1)))) D))
    : CT mX5_isText [vI a] D Q := by
  refine CT.of 0 (by decide) (Nat.le_of_ble_eq_true rfl) ?_
  show WP mX5_isText Q 0 [vI a] [] D
  refine WP_cD (fun hcD => ?_)
  refine WP_cl (fun hcl => ?_)
  have h := h0 hcD (cVs_g hcl (i := 0) (v := vI a) rfl)
  refine WP_iload_n (z := a) dX5_isText_0 rfl ?_
  refine WP_via (pc1 := 14) (ls1 := [vI a]) (st1 := [vI (if a < 0 then (0 : Int) else (if 3 ≤ a then (0 : Int) else 1))]) (D1 := D) (fun hJ1 => ?_) ?_
  · refine WP_if_lt (tgt := 13) dX5_isText_1 (by decide) (fun c2 => ?_) (fun c2 => ?_)
    · replace hJ1 := ite_t (P := fun v_ : Int => WP mX5_isText Q 14 [vI a] [vI v_] D) hJ1 c2
      refine WP_iconst (z := 0) dX5_isText_13 rfl ⟨by decide, by decide⟩ ?_
      exact hJ1
    · replace hJ1 := ite_f (P := fun v_ : Int => WP mX5_isText Q 14 [vI a] [vI v_] D) hJ1 c2
      refine WP_iload_n (z := a) dX5_isText_4 rfl ?_
      refine WP_iconst (z := 3) dX5_isText_5 rfl ⟨by decide, by decide⟩ ?_
      refine WP_via (pc1 := 14) (ls1 := [vI a]) (st1 := [vI (if 3 ≤ a then (0 : Int) else 1)]) (D1 := D) (fun hJ3 => ?_) ?_
      · refine WP_icmp_ge (tgt := 13) dX5_isText_6 (by decide) (fun c4 => ?_) (fun c4 => ?_)
        · replace hJ3 := ite_t (P := fun v_ : Int => WP mX5_isText Q 14 [vI a] [vI v_] D) hJ3 c4
          refine WP_iconst (z := 0) dX5_isText_13 rfl ⟨by decide, by decide⟩ ?_
          exact hJ3
        · replace hJ3 := ite_f (P := fun v_ : Int => WP mX5_isText Q 14 [vI a] [vI v_] D) hJ3 c4
          refine WP_iconst (z := 1) dX5_isText_9 rfl ⟨by decide, by decide⟩ ?_
          refine WP_goto (tgt := 14) dX5_isText_10 (by decide) ?_
          exact hJ3
      exact hJ1
  · exact WP_zreturn dX5_isText_14 rfl (bool_ite (Or.inl rfl) (bool_ite (Or.inl rfl) (Or.inr rfl))) h
set_option maxRecDepth 100000 in
set_option maxHeartbeats 4000000 in
theorem P_X5_isText {a : Int} {D : HP} (hob : oX5_isText D a) : CT mX5_isText [vI a] D (PF (vI (fX5_isText D a)) D) := by
  refine V_X5_isText a (fun hcD hc_0 => ?_)
  obtain ⟨z, hz⟩ : ∃ z, z = fX5_isText D a := ⟨_, rfl⟩
  rw [← hz]
  unfold fX5_isText at hz
  exact ⟨by rw [hz], rfl⟩
set_option maxRecDepth 100000 in
set_option maxHeartbeats 4000000 in
theorem V_X5_retell (a : Int) {D : HP} {Q : Option MV → HP → Prop}
    (h0 : cD D → c32 a → ((a = 0 → (∃ Q2 : Option MV → HP → Prop, CT mX1_readCorner [vR 10, vR 2] D Q2 ∧ ∀ (r6 : Int) (D5 : HP), Q2 (some (vI r6)) D5 → c32 r6 → cD D5 → (∀ (E9 : HP), E9 = (hu D5 8 0 r6) → (∃ Q11 : Option MV → HP → Prop, CT mX0_run [vR 9] E9 Q11 ∧ ∀ (D14 : HP), Q11 none D14 → cD D14 → (∀ (E18 : HP), E18 = (hu D14 0 7 (-1)) → (∀ (E20 : HP), E20 = (hu E18 0 10 (-1)) → (Q none E20))))))) ∧ (¬ (a = 0) → ((a = 1 → (∃ Q23 : Option MV → HP → Prop, CT mX1_readGusts [vR 10, vR 3] D Q23 ∧ ∀ (r27 : Int) (D26 : HP), Q23 (some (vI r27)) D26 → c32 r27 → cD D26 → (∀ (E30 : HP), E30 = (hu D26 8 1 r27) → (∃ Q32 : Option MV → HP → Prop, CT mX0_run [vR 9] E30 Q32 ∧ ∀ (D35 : HP), Q32 none D35 → cD D35 → (∀ (E39 : HP), E39 = (hu D35 0 7 (-1)) → (∀ (E41 : HP), E41 = (hu E39 0 10 (-1)) → (Q none E41))))))) ∧ (¬ (a = 1) → ((a = 2 → (∃ Q44 : Option MV → HP → Prop, CT mX1_readCandidates [vR 10, vR 4] D Q44 ∧ ∀ (r48 : Int) (D47 : HP), Q44 (some (vI r48)) D47 → c32 r48 → cD D47 → (∀ (E51 : HP), E51 = (hu D47 8 2 r48) → (∃ Q53 : Option MV → HP → Prop, CT mX0_run [vR 9] E51 Q53 ∧ ∀ (D56 : HP), Q53 none D56 → cD D56 → (∀ (E60 : HP), E60 = (hu D56 0 7 (-1)) → (∀ (E62 : HP), E62 = (hu E60 0 10 (-1)) → (Q none E62))))))) ∧ (¬ (a = 2) → (∃ Q64 : Option MV → HP → Prop, CT mX0_run [vR 9] D Q64 ∧ ∀ (D67 : HP), Q64 none D67 → cD D67 → (∀ (E71 : HP), E71 = (hu D67 0 7 (-1)) → (∀ (E73 : HP), E73 = (hu E71 0 10 (-1)) → (Q none E73)))))))))))
    : CT mX5_retell [vR 0, vI a] D Q := by
  refine CT.of 0 (by decide) (Nat.le_of_ble_eq_true rfl) ?_
  show WP mX5_retell Q 0 [vR 0, vI a] [] D
  refine WP_cD (fun hcD => ?_)
  refine WP_cl (fun hcl => ?_)
  have h := h0 hcD (cVs_g hcl (i := 1) (v := vI a) rfl)
  refine WP_iload_n (z := a) dX5_retell_0 rfl ?_
  refine WP_if_ne (tgt := 29) dX5_retell_1 (by decide) (fun c1 => ?_) (fun c1 => ?_)
  · replace h := h.2 c1
    refine WP_iload_n (z := a) dX5_retell_29 rfl ?_
    refine WP_iconst (z := 1) dX5_retell_30 rfl ⟨by decide, by decide⟩ ?_
    refine WP_icmp_ne (tgt := 59) dX5_retell_31 (by decide) (fun c22 => ?_) (fun c22 => ?_)
    · replace h := h.2 c22
      refine WP_iload_n (z := a) dX5_retell_59 rfl ?_
      refine WP_iconst (z := 2) dX5_retell_60 rfl ⟨by decide, by decide⟩ ?_
      refine WP_icmp_ne (tgt := 86) dX5_retell_61 (by decide) (fun c43 => ?_) (fun c43 => ?_)
      · replace h := h.2 c43
        refine WP_aload_n (z := 0) dX5_retell_86 rfl ?_
        refine WP_getR (z := 9) dX5_retell_87 fl_RX5_22 rfl rfl rfl ?_
        obtain ⟨Q64, ct66, h⟩ := h
        refine WP_callV (g := mX0_run) (as := []) (rest := []) (n := 0) dX5_retell_90 wm_201 mo_X0_run rfl rfl rfl rfl ⟨Nat.le_of_ble_eq_true rfl, Nat.le_of_ble_eq_true rfl⟩ (Nat.le_of_ble_eq_true rfl) ct66 (fun r_ D67 hq65 hok hD70 => ?_)
        obtain rfl := hok
        replace h := h D67 hq65 hD70
        show WP mX5_retell Q 93 [vR 0, vI a] [] D67
        refine WP_aload_n (z := 0) dX5_retell_93 rfl ?_
        refine WP_iconst (z := (-1)) dX5_retell_94 rfl ⟨by decide, by decide⟩ ?_
        refine WP_putI dX5_retell_95 fp_RX5_46 rfl rfl ?_
        obtain ⟨E71, hE72⟩ : ∃ E71 : HP, E71 = (hu D67 0 7 (-1)) := ⟨_, rfl⟩
        replace h := h E71 hE72
        show WP mX5_retell Q 98 [vR 0, vI a] [] (hu D67 0 7 (-1))
        rw [← hE72]
        refine WP_aload_n (z := 0) dX5_retell_98 rfl ?_
        refine WP_iconst (z := (-1)) dX5_retell_99 rfl ⟨by decide, by decide⟩ ?_
        refine WP_putI dX5_retell_100 fp_RX5_56 rfl rfl ?_
        obtain ⟨E73, hE74⟩ : ∃ E73 : HP, E73 = (hu E71 0 10 (-1)) := ⟨_, rfl⟩
        replace h := h E73 hE74
        show WP mX5_retell Q 103 [vR 0, vI a] [] (hu E71 0 10 (-1))
        rw [← hE74]
        exact WP_return dX5_retell_103 rfl h
      · replace h := h.1 c43
        refine WP_aload_n (z := 0) dX5_retell_64 rfl ?_
        refine WP_getR (z := 8) dX5_retell_65 fl_RX5_15 rfl rfl rfl ?_
        refine WP_iconst (z := 2) dX5_retell_68 rfl ⟨by decide, by decide⟩ ?_
        refine WP_aload_n (z := 0) dX5_retell_69 rfl ?_
        refine WP_getR (z := 9) dX5_retell_70 fl_RX5_22 rfl rfl rfl ?_
        refine WP_getR (z := 10) dX5_retell_73 fl_RX5_91 rfl rfl rfl ?_
        refine WP_aload_n (z := 0) dX5_retell_76 rfl ?_
        refine WP_getR (z := 1) dX5_retell_77 fl_RX5_11 rfl rfl rfl ?_
        refine WP_iconst (z := 2) dX5_retell_80 rfl ⟨by decide, by decide⟩ ?_
        refine WP_aald4 (z := 4) dX5_retell_81 rfl (by decide) (by decide) rfl ?_
        obtain ⟨Q44, ct46, h⟩ := h
        refine WP_callV (g := mX1_readCandidates) (as := [vR 4]) (rest := [vI 2, vR 8]) (n := 1) dX5_retell_82 wm_190 mo_X1_readCandidates rfl rfl rfl rfl ⟨Nat.le_of_ble_eq_true rfl, Nat.le_of_ble_eq_true rfl⟩ (Nat.le_of_ble_eq_true rfl) ct46 (fun r_ D47 hq45 hok hD50 => ?_)
        obtain ⟨r48, rfl, hr49⟩ := hok
        replace h := h r48 D47 hq45 hr49 hD50
        show WP mX5_retell Q 85 [vR 0, vI a] [vI r48, vI 2, vR 8] D47
        refine WP_iast dX5_retell_85 rfl (by decide) (by decide) ?_
        obtain ⟨E51, hE52⟩ : ∃ E51 : HP, E51 = (hu D47 8 2 r48) := ⟨_, rfl⟩
        replace h := h E51 hE52
        show WP mX5_retell Q 86 [vR 0, vI a] [] (hu D47 8 2 r48)
        rw [← hE52]
        refine WP_aload_n (z := 0) dX5_retell_86 rfl ?_
        refine WP_getR (z := 9) dX5_retell_87 fl_RX5_22 rfl rfl rfl ?_
        obtain ⟨Q53, ct55, h⟩ := h
        refine WP_callV (g := mX0_run) (as := []) (rest := []) (n := 0) dX5_retell_90 wm_201 mo_X0_run rfl rfl rfl rfl ⟨Nat.le_of_ble_eq_true rfl, Nat.le_of_ble_eq_true rfl⟩ (Nat.le_of_ble_eq_true rfl) ct55 (fun r_ D56 hq54 hok hD59 => ?_)
        obtain rfl := hok
        replace h := h D56 hq54 hD59
        show WP mX5_retell Q 93 [vR 0, vI a] [] D56
        refine WP_aload_n (z := 0) dX5_retell_93 rfl ?_
        refine WP_iconst (z := (-1)) dX5_retell_94 rfl ⟨by decide, by decide⟩ ?_
        refine WP_putI dX5_retell_95 fp_RX5_46 rfl rfl ?_
        obtain ⟨E60, hE61⟩ : ∃ E60 : HP, E60 = (hu D56 0 7 (-1)) := ⟨_, rfl⟩
        replace h := h E60 hE61
        show WP mX5_retell Q 98 [vR 0, vI a] [] (hu D56 0 7 (-1))
        rw [← hE61]
        refine WP_aload_n (z := 0) dX5_retell_98 rfl ?_
        refine WP_iconst (z := (-1)) dX5_retell_99 rfl ⟨by decide, by decide⟩ ?_
        refine WP_putI dX5_retell_100 fp_RX5_56 rfl rfl ?_
        obtain ⟨E62, hE63⟩ : ∃ E62 : HP, E62 = (hu E60 0 10 (-1)) := ⟨_, rfl⟩
        replace h := h E62 hE63
        show WP mX5_retell Q 103 [vR 0, vI a] [] (hu E60 0 10 (-1))
        rw [← hE63]
        exact WP_return dX5_retell_103 rfl h
    · replace h := h.1 c22
      refine WP_aload_n (z := 0) dX5_retell_34 rfl ?_
      refine WP_getR (z := 8) dX5_retell_35 fl_RX5_15 rfl rfl rfl ?_
      refine WP_iconst (z := 1) dX5_retell_38 rfl ⟨by decide, by decide⟩ ?_
      refine WP_aload_n (z := 0) dX5_retell_39 rfl ?_
      refine WP_getR (z := 9) dX5_retell_40 fl_RX5_22 rfl rfl rfl ?_
      refine WP_getR (z := 10) dX5_retell_43 fl_RX5_91 rfl rfl rfl ?_
      refine WP_aload_n (z := 0) dX5_retell_46 rfl ?_
      refine WP_getR (z := 1) dX5_retell_47 fl_RX5_11 rfl rfl rfl ?_
      refine WP_iconst (z := 1) dX5_retell_50 rfl ⟨by decide, by decide⟩ ?_
      refine WP_aald4 (z := 3) dX5_retell_51 rfl (by decide) (by decide) rfl ?_
      obtain ⟨Q23, ct25, h⟩ := h
      refine WP_callV (g := mX1_readGusts) (as := [vR 3]) (rest := [vI 1, vR 8]) (n := 1) dX5_retell_52 wm_179 mo_X1_readGusts rfl rfl rfl rfl ⟨Nat.le_of_ble_eq_true rfl, Nat.le_of_ble_eq_true rfl⟩ (Nat.le_of_ble_eq_true rfl) ct25 (fun r_ D26 hq24 hok hD29 => ?_)
      obtain ⟨r27, rfl, hr28⟩ := hok
      replace h := h r27 D26 hq24 hr28 hD29
      show WP mX5_retell Q 55 [vR 0, vI a] [vI r27, vI 1, vR 8] D26
      refine WP_iast dX5_retell_55 rfl (by decide) (by decide) ?_
      obtain ⟨E30, hE31⟩ : ∃ E30 : HP, E30 = (hu D26 8 1 r27) := ⟨_, rfl⟩
      replace h := h E30 hE31
      show WP mX5_retell Q 56 [vR 0, vI a] [] (hu D26 8 1 r27)
      rw [← hE31]
      refine WP_goto (tgt := 86) dX5_retell_56 (by decide) ?_
      refine WP_aload_n (z := 0) dX5_retell_86 rfl ?_
      refine WP_getR (z := 9) dX5_retell_87 fl_RX5_22 rfl rfl rfl ?_
      obtain ⟨Q32, ct34, h⟩ := h
      refine WP_callV (g := mX0_run) (as := []) (rest := []) (n := 0) dX5_retell_90 wm_201 mo_X0_run rfl rfl rfl rfl ⟨Nat.le_of_ble_eq_true rfl, Nat.le_of_ble_eq_true rfl⟩ (Nat.le_of_ble_eq_true rfl) ct34 (fun r_ D35 hq33 hok hD38 => ?_)
      obtain rfl := hok
      replace h := h D35 hq33 hD38
      show WP mX5_retell Q 93 [vR 0, vI a] [] D35
      refine WP_aload_n (z := 0) dX5_retell_93 rfl ?_
      refine WP_iconst (z := (-1)) dX5_retell_94 rfl ⟨by decide, by decide⟩ ?_
      refine WP_putI dX5_retell_95 fp_RX5_46 rfl rfl ?_
      obtain ⟨E39, hE40⟩ : ∃ E39 : HP, E39 = (hu D35 0 7 (-1)) := ⟨_, rfl⟩
      replace h := h E39 hE40
      show WP mX5_retell Q 98 [vR 0, vI a] [] (hu D35 0 7 (-1))
      rw [← hE40]
      refine WP_aload_n (z := 0) dX5_retell_98 rfl ?_
      refine WP_iconst (z := (-1)) dX5_retell_99 rfl ⟨by decide, by decide⟩ ?_
      refine WP_putI dX5_retell_100 fp_RX5_56 rfl rfl ?_
      obtain ⟨E41, hE42⟩ : ∃ E41 : HP, E41 = (hu E39 0 10 (-1)) := ⟨_, rfl⟩
      replace h := h E41 hE42
      show WP mX5_retell Q 103 [vR 0, vI a] [] (hu E39 0 10 (-1))
      rw [← hE42]
      exact WP_return dX5_retell_103 rfl h
  · replace h := h.1 c1
    refine WP_aload_n (z := 0) dX5_retell_4 rfl ?_
    refine WP_getR (z := 8) dX5_retell_5 fl_RX5_15 rfl rfl rfl ?_
    refine WP_iconst (z := 0) dX5_retell_8 rfl ⟨by decide, by decide⟩ ?_
    refine WP_aload_n (z := 0) dX5_retell_9 rfl ?_
    refine WP_getR (z := 9) dX5_retell_10 fl_RX5_22 rfl rfl rfl ?_
    refine WP_getR (z := 10) dX5_retell_13 fl_RX5_91 rfl rfl rfl ?_
    refine WP_aload_n (z := 0) dX5_retell_16 rfl ?_
    refine WP_getR (z := 1) dX5_retell_17 fl_RX5_11 rfl rfl rfl ?_
    refine WP_iconst (z := 0) dX5_retell_20 rfl ⟨by decide, by decide⟩ ?_
    refine WP_aald4 (z := 2) dX5_retell_21 rfl (by decide) (by decide) rfl ?_
    obtain ⟨Q2, ct4, h⟩ := h
    refine WP_callV (g := mX1_readCorner) (as := [vR 2]) (rest := [vI 0, vR 8]) (n := 1) dX5_retell_22 wm_139 mo_X1_readCorner rfl rfl rfl rfl ⟨Nat.le_of_ble_eq_true rfl, Nat.le_of_ble_eq_true rfl⟩ (Nat.le_of_ble_eq_true rfl) ct4 (fun r_ D5 hq3 hok hD8 => ?_)
    obtain ⟨r6, rfl, hr7⟩ := hok
    replace h := h r6 D5 hq3 hr7 hD8
    show WP mX5_retell Q 25 [vR 0, vI a] [vI r6, vI 0, vR 8] D5
    refine WP_iast dX5_retell_25 rfl (by decide) (by decide) ?_
    obtain ⟨E9, hE10⟩ : ∃ E9 : HP, E9 = (hu D5 8 0 r6) := ⟨_, rfl⟩
    replace h := h E9 hE10
    show WP mX5_retell Q 26 [vR 0, vI a] [] (hu D5 8 0 r6)
    rw [← hE10]
    refine WP_goto (tgt := 86) dX5_retell_26 (by decide) ?_
    refine WP_aload_n (z := 0) dX5_retell_86 rfl ?_
    refine WP_getR (z := 9) dX5_retell_87 fl_RX5_22 rfl rfl rfl ?_
    obtain ⟨Q11, ct13, h⟩ := h
    refine WP_callV (g := mX0_run) (as := []) (rest := []) (n := 0) dX5_retell_90 wm_201 mo_X0_run rfl rfl rfl rfl ⟨Nat.le_of_ble_eq_true rfl, Nat.le_of_ble_eq_true rfl⟩ (Nat.le_of_ble_eq_true rfl) ct13 (fun r_ D14 hq12 hok hD17 => ?_)
    obtain rfl := hok
    replace h := h D14 hq12 hD17
    show WP mX5_retell Q 93 [vR 0, vI a] [] D14
    refine WP_aload_n (z := 0) dX5_retell_93 rfl ?_
    refine WP_iconst (z := (-1)) dX5_retell_94 rfl ⟨by decide, by decide⟩ ?_
    refine WP_putI dX5_retell_95 fp_RX5_46 rfl rfl ?_
    obtain ⟨E18, hE19⟩ : ∃ E18 : HP, E18 = (hu D14 0 7 (-1)) := ⟨_, rfl⟩
    replace h := h E18 hE19
    show WP mX5_retell Q 98 [vR 0, vI a] [] (hu D14 0 7 (-1))
    rw [← hE19]
    refine WP_aload_n (z := 0) dX5_retell_98 rfl ?_
    refine WP_iconst (z := (-1)) dX5_retell_99 rfl ⟨by decide, by decide⟩ ?_
    refine WP_putI dX5_retell_100 fp_RX5_56 rfl rfl ?_
    obtain ⟨E20, hE21⟩ : ∃ E20 : HP, E20 = (hu E18 0 10 (-1)) := ⟨_, rfl⟩
    replace h := h E20 hE21
    show WP mX5_retell Q 103 [vR 0, vI a] [] (hu E18 0 10 (-1))
    rw [← hE21]
    exact WP_return dX5_retell_103 rfl h
set_option maxRecDepth 100000 in
set_option maxHeartbeats 4000000 in
theorem V_X5_type (a : Int) (b : Int) {D : HP} {Q : Option MV → HP → Prop}
    (h0 : cD D → c32 a → c32 b → (((fX5_isText D a) = 0 → (Q (some (vI (-2))) D)) ∧ (¬ ((fX5_isText D a) = 0) → ((b < 0 → (Q (some (vI (-2))) D)) ∧ (¬ (b < 0) → ((b ≤ 255 → ((0 ≤ a ∧ a < 3) ∧ (((fX2_isFull D (2 + a.toNat)) = 0 → ((0 ≤ a ∧ a < 3) ∧ (∃ Q7 : Option MV → HP → Prop, CT mX2_append [vR (2 + a.toNat), vI b] D Q7 ∧ ∀ (D10 : HP), Q7 none D10 → cD D10 → (∃ Q14 : Option MV → HP → Prop, CT mX5_retell [vR 0, vI a] D10 Q14 ∧ ∀ (D17 : HP), Q14 none D17 → cD D17 → ((0 ≤ a ∧ a < 3) ∧ (Q (some (vI (fX2_length D17 (2 + a.toNat)))) D17)))))) ∧ (¬ ((fX2_isFull D (2 + a.toNat)) = 0) → (Q (some (vI (-4))) D))))) ∧ (¬ (b ≤ 255) → (Q (some (vI (-2))) D))))))))
    : CT mX5_type [vR 0, vI a, vI b] D Q := by
  refine CT.of 0 (by decide) (Nat.le_of_ble_eq_true rfl) ?_
  show WP mX5_type Q 0 [vR 0, vI a, vI b] [] D
  refine WP_cD (fun hcD => ?_)
  refine WP_cl (fun hcl => ?_)
  have h := h0 hcD (cVs_g hcl (i := 1) (v := vI a) rfl) (cVs_g hcl (i := 2) (v := vI b) rfl)
  refine WP_iload_n (z := a) dX5_type_0 rfl ?_
  refine WP_pcallS (g := mX5_isText) (as := [vI a]) (rest := []) (n := 1) (r := vI (fX5_isText D a)) dX5_type_1 wm_123 mo_X5_isText rfl rfl ⟨Nat.le_of_ble_eq_true rfl, Nat.le_of_ble_eq_true rfl⟩ (Nat.le_of_ble_eq_true rfl) (P_X5_isText  trivial) ?_
  refine WP_if_eq (tgt := 18) dX5_type_4 (by decide) (fun c1 => ?_) (fun c1 => ?_)
  · replace h := h.1 c1
    refine WP_bipush (z := (-2)) dX5_type_18 rfl (by decide) ?_
    exact WP_ireturn dX5_type_20 rfl h
  · replace h := h.2 c1
    refine WP_iload_n (z := b) dX5_type_7 rfl ?_
    refine WP_if_lt (tgt := 18) dX5_type_8 (by decide) (fun c2 => ?_) (fun c2 => ?_)
    · replace h := h.1 c2
      refine WP_bipush (z := (-2)) dX5_type_18 rfl (by decide) ?_
      exact WP_ireturn dX5_type_20 rfl h
    · replace h := h.2 c2
      refine WP_iload_n (z := b) dX5_type_11 rfl ?_
      refine WP_sipush (z := 255) dX5_type_12 rfl (by decide) ?_
      refine WP_icmp_le (tgt := 21) dX5_type_15 (by decide) (fun c3 => ?_) (fun c3 => ?_)
      · replace h := h.1 c3
        refine WP_aload_n (z := 0) dX5_type_21 rfl ?_
        refine WP_getR (z := 1) dX5_type_22 fl_RX5_11 rfl rfl rfl ?_
        refine WP_iload_n (z := a) dX5_type_25 rfl ?_
        obtain ⟨o4, h⟩ := h
        refine WP_aald4 (z := (2 + a.toNat)) dX5_type_26 rfl o4.1 o4.2 (srTE o4) ?_
        refine WP_pcallV (g := mX2_isFull) (as := []) (rest := []) (n := 0) (r := vI (fX2_isFull D (2 + a.toNat))) dX5_type_27 wm_126 mo_X2_isFull (kcTE_0 o4) rfl rfl rfl ⟨Nat.le_of_ble_eq_true rfl, Nat.le_of_ble_eq_true rfl⟩ (Nat.le_of_ble_eq_true rfl) (P_X2_isFull (hTE o4) trivial) ?_
        refine WP_if_eq (tgt := 36) dX5_type_30 (by decide) (fun c5 => ?_) (fun c5 => ?_)
        · replace h := h.1 c5
          refine WP_aload_n (z := 0) dX5_type_36 rfl ?_
          refine WP_getR (z := 1) dX5_type_37 fl_RX5_11 rfl rfl rfl ?_
          refine WP_iload_n (z := a) dX5_type_40 rfl ?_
          obtain ⟨o6, h⟩ := h
          refine WP_aald4 (z := (2 + a.toNat)) dX5_type_41 rfl o6.1 o6.2 (srTE o6) ?_
          refine WP_iload_n (z := b) dX5_type_42 rfl ?_
          obtain ⟨Q7, ct9, h⟩ := h
          refine WP_callV (g := mX2_append) (as := [vI b]) (rest := []) (n := 1) dX5_type_43 wm_130 mo_X2_append (kcTE_0 o6) rfl rfl rfl ⟨Nat.le_of_ble_eq_true rfl, Nat.le_of_ble_eq_true rfl⟩ (Nat.le_of_ble_eq_true rfl) ct9 (fun r_ D10 hq8 hok hD13 => ?_)
          obtain rfl := hok
          replace h := h D10 hq8 hD13
          show WP mX5_type Q 46 [vR 0, vI a, vI b] [] D10
          refine WP_aload_n (z := 0) dX5_type_46 rfl ?_
          refine WP_iload_n (z := a) dX5_type_47 rfl ?_
          obtain ⟨Q14, ct16, h⟩ := h
          refine WP_callV (g := mX5_retell) (as := [vI a]) (rest := []) (n := 1) dX5_type_48 wm_134 mo_X5_retell rfl rfl rfl rfl ⟨Nat.le_of_ble_eq_true rfl, Nat.le_of_ble_eq_true rfl⟩ (Nat.le_of_ble_eq_true rfl) ct16 (fun r_ D17 hq15 hok hD20 => ?_)
          obtain rfl := hok
          replace h := h D17 hq15 hD20
          show WP mX5_type Q 51 [vR 0, vI a, vI b] [] D17
          refine WP_aload_n (z := 0) dX5_type_51 rfl ?_
          refine WP_getR (z := 1) dX5_type_52 fl_RX5_11 rfl rfl rfl ?_
          refine WP_iload_n (z := a) dX5_type_55 rfl ?_
          obtain ⟨o21, h⟩ := h
          refine WP_aald4 (z := (2 + a.toNat)) dX5_type_56 rfl o21.1 o21.2 (srTE o21) ?_
          refine WP_pcallV (g := mX2_length) (as := []) (rest := []) (n := 0) (r := vI (fX2_length D17 (2 + a.toNat))) dX5_type_57 wm_254 mo_X2_length (kcTE_0 o21) rfl rfl rfl ⟨Nat.le_of_ble_eq_true rfl, Nat.le_of_ble_eq_true rfl⟩ (Nat.le_of_ble_eq_true rfl) (P_X2_length (hTE o21) trivial) ?_
          exact WP_ireturn dX5_type_60 rfl h
        · replace h := h.2 c5
          refine WP_bipush (z := (-4)) dX5_type_33 rfl (by decide) ?_
          exact WP_ireturn dX5_type_35 rfl h
      · replace h := h.2 c3
        refine WP_bipush (z := (-2)) dX5_type_18 rfl (by decide) ?_
        exact WP_ireturn dX5_type_20 rfl h
set_option maxRecDepth 100000 in
set_option maxHeartbeats 4000000 in
theorem V_X5_wipe (a : Int) {D : HP} {Q : Option MV → HP → Prop}
    (h0 : cD D → c32 a → (((fX5_isText D a) = 0 → (Q (some (vI (-2))) D)) ∧ (¬ ((fX5_isText D a) = 0) → ((0 ≤ a ∧ a < 3) ∧ ((0 ≤ a ∧ a < 3) ∧ (∃ Q4 : Option MV → HP → Prop, CT mX2_shorten [vR (2 + a.toNat), vI (fX2_length D (2 + a.toNat))] D Q4 ∧ ∀ (D7 : HP), Q4 none D7 → cD D7 → (∃ Q11 : Option MV → HP → Prop, CT mX5_retell [vR 0, vI a] D7 Q11 ∧ ∀ (D14 : HP), Q11 none D14 → cD D14 → (Q (some (vI (fX2_length D (2 + a.toNat)))) D14))))))))
    : CT mX5_wipe [vR 0, vI a] D Q := by
  refine CT.of 1 (by decide) (Nat.le_of_ble_eq_true rfl) ?_
  show WP mX5_wipe Q 0 [vR 0, vI a, vU] [] D
  refine WP_cD (fun hcD => ?_)
  refine WP_cl (fun hcl => ?_)
  have h := h0 hcD (cVs_g hcl (i := 1) (v := vI a) rfl)
  refine WP_iload_n (z := a) dX5_wipe_0 rfl ?_
  refine WP_pcallS (g := mX5_isText) (as := [vI a]) (rest := []) (n := 1) (r := vI (fX5_isText D a)) dX5_wipe_1 wm_123 mo_X5_isText rfl rfl ⟨Nat.le_of_ble_eq_true rfl, Nat.le_of_ble_eq_true rfl⟩ (Nat.le_of_ble_eq_true rfl) (P_X5_isText  trivial) ?_
  refine WP_if_ne (tgt := 10) dX5_wipe_4 (by decide) (fun c1 => ?_) (fun c1 => ?_)
  · replace h := h.2 c1
    refine WP_aload_n (z := 0) dX5_wipe_10 rfl ?_
    refine WP_getR (z := 1) dX5_wipe_11 fl_RX5_11 rfl rfl rfl ?_
    refine WP_iload_n (z := a) dX5_wipe_14 rfl ?_
    obtain ⟨o2, h⟩ := h
    refine WP_aald4 (z := (2 + a.toNat)) dX5_wipe_15 rfl o2.1 o2.2 (srTE o2) ?_
    refine WP_pcallV (g := mX2_length) (as := []) (rest := []) (n := 0) (r := vI (fX2_length D (2 + a.toNat))) dX5_wipe_16 wm_254 mo_X2_length (kcTE_0 o2) rfl rfl rfl ⟨Nat.le_of_ble_eq_true rfl, Nat.le_of_ble_eq_true rfl⟩ (Nat.le_of_ble_eq_true rfl) (P_X2_length (hTE o2) trivial) ?_
    refine WP_istore_n (ls1 := [vR 0, vI a, vI (fX2_length D (2 + a.toNat))]) dX5_wipe_19 (by decide) rfl ?_
    refine WP_aload_n (z := 0) dX5_wipe_20 rfl ?_
    refine WP_getR (z := 1) dX5_wipe_21 fl_RX5_11 rfl rfl rfl ?_
    refine WP_iload_n (z := a) dX5_wipe_24 rfl ?_
    obtain ⟨o3, h⟩ := h
    refine WP_aald4 (z := (2 + a.toNat)) dX5_wipe_25 rfl o3.1 o3.2 (srTE o3) ?_
    refine WP_iload_n (z := (fX2_length D (2 + a.toNat))) dX5_wipe_26 rfl ?_
    obtain ⟨Q4, ct6, h⟩ := h
    refine WP_callV (g := mX2_shorten) (as := [vI (fX2_length D (2 + a.toNat))]) (rest := []) (n := 1) dX5_wipe_27 wm_269 mo_X2_shorten (kcTE_0 o3) rfl rfl rfl ⟨Nat.le_of_ble_eq_true rfl, Nat.le_of_ble_eq_true rfl⟩ (Nat.le_of_ble_eq_true rfl) ct6 (fun r_ D7 hq5 hok hD10 => ?_)
    obtain rfl := hok
    replace h := h D7 hq5 hD10
    show WP mX5_wipe Q 30 [vR 0, vI a, vI (fX2_length D (2 + a.toNat))] [] D7
    refine WP_aload_n (z := 0) dX5_wipe_30 rfl ?_
    refine WP_iload_n (z := a) dX5_wipe_31 rfl ?_
    obtain ⟨Q11, ct13, h⟩ := h
    refine WP_callV (g := mX5_retell) (as := [vI a]) (rest := []) (n := 1) dX5_wipe_32 wm_134 mo_X5_retell rfl rfl rfl rfl ⟨Nat.le_of_ble_eq_true rfl, Nat.le_of_ble_eq_true rfl⟩ (Nat.le_of_ble_eq_true rfl) ct13 (fun r_ D14 hq12 hok hD17 => ?_)
    obtain rfl := hok
    replace h := h D14 hq12 hD17
    show WP mX5_wipe Q 35 [vR 0, vI a, vI (fX2_length D (2 + a.toNat))] [] D14
    refine WP_iload_n (z := (fX2_length D (2 + a.toNat))) dX5_wipe_35 rfl ?_
    exact WP_ireturn dX5_wipe_36 rfl h
  · replace h := h.1 c1
    refine WP_bipush (z := (-2)) dX5_wipe_7 rfl (by decide) ?_
    exact WP_ireturn dX5_wipe_9 rfl h
set_option maxRecDepth 100000 in
set_option maxHeartbeats 4000000 in
theorem V_X5_undo (a : Int) {D : HP} {Q : Option MV → HP → Prop}
    (h0 : cD D → c32 a → (((fX5_isText D a) = 0 → (Q (some (vI (-2))) D)) ∧ (¬ ((fX5_isText D a) = 0) → ((0 ≤ a ∧ a < 3) ∧ (((fX2_length D (2 + a.toNat)) = 0 → (Q (some (vI (-3))) D)) ∧ (¬ ((fX2_length D (2 + a.toNat)) = 0) → ((0 ≤ a ∧ a < 3) ∧ (∃ Q5 : Option MV → HP → Prop, CT mX2_shorten [vR (2 + a.toNat), vI 1] D Q5 ∧ ∀ (D8 : HP), Q5 none D8 → cD D8 → (∃ Q12 : Option MV → HP → Prop, CT mX5_retell [vR 0, vI a] D8 Q12 ∧ ∀ (D15 : HP), Q12 none D15 → cD D15 → ((0 ≤ a ∧ a < 3) ∧ (Q (some (vI (fX2_length D15 (2 + a.toNat)))) D15)))))))))))
    : CT mX5_undo [vR 0, vI a] D Q := by
  refine CT.of 0 (by decide) (Nat.le_of_ble_eq_true rfl) ?_
  show WP mX5_undo Q 0 [vR 0, vI a] [] D
  refine WP_cD (fun hcD => ?_)
  refine WP_cl (fun hcl => ?_)
  have h := h0 hcD (cVs_g hcl (i := 1) (v := vI a) rfl)
  refine WP_iload_n (z := a) dX5_undo_0 rfl ?_
  refine WP_pcallS (g := mX5_isText) (as := [vI a]) (rest := []) (n := 1) (r := vI (fX5_isText D a)) dX5_undo_1 wm_123 mo_X5_isText rfl rfl ⟨Nat.le_of_ble_eq_true rfl, Nat.le_of_ble_eq_true rfl⟩ (Nat.le_of_ble_eq_true rfl) (P_X5_isText  trivial) ?_
  refine WP_if_ne (tgt := 10) dX5_undo_4 (by decide) (fun c1 => ?_) (fun c1 => ?_)
  · replace h := h.2 c1
    refine WP_aload_n (z := 0) dX5_undo_10 rfl ?_
    refine WP_getR (z := 1) dX5_undo_11 fl_RX5_11 rfl rfl rfl ?_
    refine WP_iload_n (z := a) dX5_undo_14 rfl ?_
    obtain ⟨o2, h⟩ := h
    refine WP_aald4 (z := (2 + a.toNat)) dX5_undo_15 rfl o2.1 o2.2 (srTE o2) ?_
    refine WP_pcallV (g := mX2_length) (as := []) (rest := []) (n := 0) (r := vI (fX2_length D (2 + a.toNat))) dX5_undo_16 wm_254 mo_X2_length (kcTE_0 o2) rfl rfl rfl ⟨Nat.le_of_ble_eq_true rfl, Nat.le_of_ble_eq_true rfl⟩ (Nat.le_of_ble_eq_true rfl) (P_X2_length (hTE o2) trivial) ?_
    refine WP_if_ne (tgt := 25) dX5_undo_19 (by decide) (fun c3 => ?_) (fun c3 => ?_)
    · replace h := h.2 c3
      refine WP_aload_n (z := 0) dX5_undo_25 rfl ?_
      refine WP_getR (z := 1) dX5_undo_26 fl_RX5_11 rfl rfl rfl ?_
      refine WP_iload_n (z := a) dX5_undo_29 rfl ?_
      obtain ⟨o4, h⟩ := h
      refine WP_aald4 (z := (2 + a.toNat)) dX5_undo_30 rfl o4.1 o4.2 (srTE o4) ?_
      refine WP_iconst (z := 1) dX5_undo_31 rfl ⟨by decide, by decide⟩ ?_
      obtain ⟨Q5, ct7, h⟩ := h
      refine WP_callV (g := mX2_shorten) (as := [vI 1]) (rest := []) (n := 1) dX5_undo_32 wm_269 mo_X2_shorten (kcTE_0 o4) rfl rfl rfl ⟨Nat.le_of_ble_eq_true rfl, Nat.le_of_ble_eq_true rfl⟩ (Nat.le_of_ble_eq_true rfl) ct7 (fun r_ D8 hq6 hok hD11 => ?_)
      obtain rfl := hok
      replace h := h D8 hq6 hD11
      show WP mX5_undo Q 35 [vR 0, vI a] [] D8
      refine WP_aload_n (z := 0) dX5_undo_35 rfl ?_
      refine WP_iload_n (z := a) dX5_undo_36 rfl ?_
      obtain ⟨Q12, ct14, h⟩ := h
      refine WP_callV (g := mX5_retell) (as := [vI a]) (rest := []) (n := 1) dX5_undo_37 wm_134 mo_X5_retell rfl rfl rfl rfl ⟨Nat.le_of_ble_eq_true rfl, Nat.le_of_ble_eq_true rfl⟩ (Nat.le_of_ble_eq_true rfl) ct14 (fun r_ D15 hq13 hok hD18 => ?_)
      obtain rfl := hok
      replace h := h D15 hq13 hD18
      show WP mX5_undo Q 40 [vR 0, vI a] [] D15
      refine WP_aload_n (z := 0) dX5_undo_40 rfl ?_
      refine WP_getR (z := 1) dX5_undo_41 fl_RX5_11 rfl rfl rfl ?_
      refine WP_iload_n (z := a) dX5_undo_44 rfl ?_
      obtain ⟨o19, h⟩ := h
      refine WP_aald4 (z := (2 + a.toNat)) dX5_undo_45 rfl o19.1 o19.2 (srTE o19) ?_
      refine WP_pcallV (g := mX2_length) (as := []) (rest := []) (n := 0) (r := vI (fX2_length D15 (2 + a.toNat))) dX5_undo_46 wm_254 mo_X2_length (kcTE_0 o19) rfl rfl rfl ⟨Nat.le_of_ble_eq_true rfl, Nat.le_of_ble_eq_true rfl⟩ (Nat.le_of_ble_eq_true rfl) (P_X2_length (hTE o19) trivial) ?_
      exact WP_ireturn dX5_undo_49 rfl h
    · replace h := h.1 c3
      refine WP_bipush (z := (-3)) dX5_undo_22 rfl (by decide) ?_
      exact WP_ireturn dX5_undo_24 rfl h
  · replace h := h.1 c1
    refine WP_bipush (z := (-2)) dX5_undo_7 rfl (by decide) ?_
    exact WP_ireturn dX5_undo_9 rfl h
def fX5_fault (D : HP) (a : Int) : Int := (if (fX5_isText D a) = 0 then ((-2) : Int) else (D 8 a.toNat))
def oX5_fault (D : HP) (a : Int) : Prop := (((((fX5_isText D a) = 0) → True) ∧ (¬ ((fX5_isText D a) = 0) → (0 ≤ a ∧ a < 3))) ∧ True)
set_option maxRecDepth 100000 in
set_option maxHeartbeats 4000000 in
theorem V_X5_fault (a : Int) {D : HP} {Q : Option MV → HP → Prop}
    (h0 : cD D → c32 a → (((((fX5_isText D a) = 0) → True) ∧ (¬ ((fX5_isText D a) = 0) → (0 ≤ a ∧ a < 3))) ∧ (Q (some (vI (if (fX5_isText D a) = 0 then ((-2) : Int) else (D 8 a.toNat)))) D)))
    : CT mX5_fault [vR 0, vI a] D Q := by
  refine CT.of 0 (by decide) (Nat.le_of_ble_eq_true rfl) ?_
  show WP mX5_fault Q 0 [vR 0, vI a] [] D
  refine WP_cD (fun hcD => ?_)
  refine WP_cl (fun hcl => ?_)
  have h := h0 hcD (cVs_g hcl (i := 1) (v := vI a) rfl)
  refine WP_iload_n (z := a) dX5_fault_0 rfl ?_
  refine WP_pcallS (g := mX5_isText) (as := [vI a]) (rest := []) (n := 1) (r := vI (fX5_isText D a)) dX5_fault_1 wm_123 mo_X5_isText rfl rfl ⟨Nat.le_of_ble_eq_true rfl, Nat.le_of_ble_eq_true rfl⟩ (Nat.le_of_ble_eq_true rfl) (P_X5_isText  trivial) ?_
  obtain ⟨o1, h⟩ := h
  refine WP_via (pc1 := 18) (ls1 := [vR 0, vI a]) (st1 := [vI (if (fX5_isText D a) = 0 then ((-2) : Int) else (D 8 a.toNat))]) (D1 := D) (fun hJ2 => ?_) ?_
  · refine WP_if_eq (tgt := 16) dX5_fault_4 (by decide) (fun c3 => ?_) (fun c3 => ?_)
    · replace hJ2 := ite_t (P := fun v_ : Int => WP mX5_fault Q 18 [vR 0, vI a] [vI v_] D) hJ2 c3
      have o4 := o1.1 c3
      refine WP_bipush (z := (-2)) dX5_fault_16 rfl (by decide) ?_
      exact hJ2
    · replace hJ2 := ite_f (P := fun v_ : Int => WP mX5_fault Q 18 [vR 0, vI a] [vI v_] D) hJ2 c3
      have o5 := o1.2 c3
      refine WP_aload_n (z := 0) dX5_fault_7 rfl ?_
      refine WP_getR (z := 8) dX5_fault_8 fl_RX5_15 rfl rfl rfl ?_
      refine WP_iload_n (z := a) dX5_fault_11 rfl ?_
      refine WP_iald dX5_fault_12 rfl o5.1 o5.2 rfl ?_
      refine WP_goto (tgt := 18) dX5_fault_13 (by decide) ?_
      exact hJ2
  · exact WP_ireturn dX5_fault_18 rfl h
set_option maxRecDepth 100000 in
set_option maxHeartbeats 4000000 in
theorem P_X5_fault {a : Int} {D : HP} (hob : oX5_fault D a) : CT mX5_fault [vR 0, vI a] D (PF (vI (fX5_fault D a)) D) := by
  refine V_X5_fault a (fun hcD hc_0 => ?_)
  obtain ⟨z, hz⟩ : ∃ z, z = fX5_fault D a := ⟨_, rfl⟩
  rw [← hz]
  unfold fX5_fault at hz
  unfold oX5_fault at hob
  refine ⟨hob.1, ?_⟩
  replace hob := hob.2
  exact ⟨by rw [hz], rfl⟩
def fX5_cell (D : HP) (a : Int) : Int := (if a < 0 then ((-2) : Int) else (if a < 25 then ((if (fX1_isCell D 9 a) = 0 then ((-1) : Int) else (if (fX1_isWall D 9 a) = 0 then (0 : Int) else 1)) : Int) else (-2)))
def oX5_cell (D : HP) (a : Int) : Prop := ((a < 0 → True) ∧ (¬ (a < 0) → ((a < 25 → (((fX1_isCell D 9 a) = 0 → True) ∧ (¬ ((fX1_isCell D 9 a) = 0) → ((oX1_isWall D 9 a) ∧ True)))) ∧ (¬ (a < 25) → True))))
set_option maxRecDepth 100000 in
set_option maxHeartbeats 4000000 in
theorem V_X5_cell (a : Int) {D : HP} {Q : Option MV → HP → Prop}
    (h0 : cD D → c32 a → ((a < 0 → (Q (some (vI (-2))) D)) ∧ (¬ (a < 0) → ((a < 25 → (((fX1_isCell D 9 a) = 0 → (Q (some (vI (-1))) D)) ∧ (¬ ((fX1_isCell D 9 a) = 0) → ((oX1_isWall D 9 a) ∧ (Q (some (vI (if (fX1_isWall D 9 a) = 0 then (0 : Int) else 1))) D))))) ∧ (¬ (a < 25) → (Q (some (vI (-2))) D))))))
    : CT mX5_cell [vR 0, vI a] D Q := by
  refine CT.of 0 (by decide) (Nat.le_of_ble_eq_true rfl) ?_
  show WP mX5_cell Q 0 [vR 0, vI a] [] D
  refine WP_cD (fun hcD => ?_)
  refine WP_cl (fun hcl => ?_)
  have h := h0 hcD (cVs_g hcl (i := 1) (v := vI a) rfl)
  refine WP_iload_n (z := a) dX5_cell_0 rfl ?_
  refine WP_if_lt (tgt := 10) dX5_cell_1 (by decide) (fun c1 => ?_) (fun c1 => ?_)
  · replace h := h.1 c1
    refine WP_bipush (z := (-2)) dX5_cell_10 rfl (by decide) ?_
    exact WP_ireturn dX5_cell_12 rfl h
  · replace h := h.2 c1
    refine WP_iload_n (z := a) dX5_cell_4 rfl ?_
    refine WP_bipush (z := 25) dX5_cell_5 rfl (by decide) ?_
    refine WP_icmp_lt (tgt := 13) dX5_cell_7 (by decide) (fun c2 => ?_) (fun c2 => ?_)
    · replace h := h.1 c2
      refine WP_aload_n (z := 0) dX5_cell_13 rfl ?_
      refine WP_getR (z := 9) dX5_cell_14 fl_RX5_22 rfl rfl rfl ?_
      refine WP_getR (z := 10) dX5_cell_17 fl_RX5_91 rfl rfl rfl ?_
      refine WP_iload_n (z := a) dX5_cell_20 rfl ?_
      refine WP_pcallV (g := mX1_isCell) (as := [vI a]) (rest := []) (n := 1) (r := vI (fX1_isCell D 9 a)) dX5_cell_21 wm_333 mo_X1_isCell rfl rfl rfl rfl ⟨Nat.le_of_ble_eq_true rfl, Nat.le_of_ble_eq_true rfl⟩ (Nat.le_of_ble_eq_true rfl) (P_X1_isCell (by decide) trivial) ?_
      refine WP_if_ne (tgt := 29) dX5_cell_24 (by decide) (fun c3 => ?_) (fun c3 => ?_)
      · replace h := h.2 c3
        refine WP_aload_n (z := 0) dX5_cell_29 rfl ?_
        refine WP_getR (z := 9) dX5_cell_30 fl_RX5_22 rfl rfl rfl ?_
        refine WP_getR (z := 10) dX5_cell_33 fl_RX5_91 rfl rfl rfl ?_
        refine WP_iload_n (z := a) dX5_cell_36 rfl ?_
        obtain ⟨o6, h⟩ := h
        refine WP_pcallV (g := mX1_isWall) (as := [vI a]) (rest := []) (n := 1) (r := vI (fX1_isWall D 9 a)) dX5_cell_37 wm_334 mo_X1_isWall rfl rfl rfl rfl ⟨Nat.le_of_ble_eq_true rfl, Nat.le_of_ble_eq_true rfl⟩ (Nat.le_of_ble_eq_true rfl) (P_X1_isWall (by decide) o6) ?_
        refine WP_via (pc1 := 48) (ls1 := [vR 0, vI a]) (st1 := [vI (if (fX1_isWall D 9 a) = 0 then (0 : Int) else 1)]) (D1 := D) (fun hJ4 => ?_) ?_
        · refine WP_if_eq (tgt := 47) dX5_cell_40 (by decide) (fun c5 => ?_) (fun c5 => ?_)
          · replace hJ4 := ite_t (P := fun v_ : Int => WP mX5_cell Q 48 [vR 0, vI a] [vI v_] D) hJ4 c5
            refine WP_iconst (z := 0) dX5_cell_47 rfl ⟨by decide, by decide⟩ ?_
            exact hJ4
          · replace hJ4 := ite_f (P := fun v_ : Int => WP mX5_cell Q 48 [vR 0, vI a] [vI v_] D) hJ4 c5
            refine WP_iconst (z := 1) dX5_cell_43 rfl ⟨by decide, by decide⟩ ?_
            refine WP_goto (tgt := 48) dX5_cell_44 (by decide) ?_
            exact hJ4
        · exact WP_ireturn dX5_cell_48 rfl h
      · replace h := h.1 c3
        refine WP_iconst (z := (-1)) dX5_cell_27 rfl ⟨by decide, by decide⟩ ?_
        exact WP_ireturn dX5_cell_28 rfl h
    · replace h := h.2 c2
      refine WP_bipush (z := (-2)) dX5_cell_10 rfl (by decide) ?_
      exact WP_ireturn dX5_cell_12 rfl h
set_option maxRecDepth 100000 in
set_option maxHeartbeats 4000000 in
theorem P_X5_cell {a : Int} {D : HP} (hob : oX5_cell D a) : CT mX5_cell [vR 0, vI a] D (PF (vI (fX5_cell D a)) D) := by
  refine V_X5_cell a (fun hcD hc_0 => ?_)
  obtain ⟨z, hz⟩ : ∃ z, z = fX5_cell D a := ⟨_, rfl⟩
  rw [← hz]
  unfold fX5_cell at hz
  unfold oX5_cell at hob
  refine ⟨fun k3 => ?_, fun k3 => ?_⟩
  · replace hob := hob.1 k3
    replace hz := hz.trans (if_pos k3)
    exact ⟨by rw [hz], rfl⟩
  · replace hob := hob.2 k3
    replace hz := hz.trans (if_neg k3)
    refine ⟨fun k2 => ?_, fun k2 => ?_⟩
    · replace hob := hob.1 k2
      replace hz := hz.trans (if_pos k2)
      refine ⟨fun k1 => ?_, fun k1 => ?_⟩
      · replace hob := hob.1 k1
        replace hz := hz.trans (if_pos k1)
        exact ⟨by rw [hz], rfl⟩
      · replace hob := hob.2 k1
        replace hz := hz.trans (if_neg k1)
        refine ⟨hob.1, ?_⟩
        replace hob := hob.2
        exact ⟨by rw [hz], rfl⟩
    · replace hob := hob.2 k2
      replace hz := hz.trans (if_neg k2)
      exact ⟨by rw [hz], rfl⟩
def fX5_isMinute (D : HP) (a : Int) : Int := (if a < 0 then (0 : Int) else (if (D 10 2) ≤ a then (0 : Int) else (if 12 ≤ a then (0 : Int) else 1)))
theorem bfX5_isMinute (D : HP) (a : Int) : fX5_isMinute D a = 0 ∨ fX5_isMinute D a = 1 := by unfold fX5_isMinute; exact (bool_ite (Or.inl rfl) (bool_ite (Or.inl rfl) (bool_ite (Or.inl rfl) (Or.inr rfl))))
def oX5_isMinute (D : HP) (a : Int) : Prop := True
set_option maxRecDepth 100000 in
set_option maxHeartbeats 4000000 in
theorem V_X5_isMinute (a : Int) {D : HP} {Q : Option MV → HP → Prop}
    (h0 : cD D → c32 a → (Q (some (vI (if a < 0 then (0 : Int) else (if (D 10 2) ≤ a then (0 : Int) else (if 12 ≤ a then (0 : Int) else 1))))) D))
    : CT mX5_isMinute [vR 0, vI a] D Q := by
  refine CT.of 0 (by decide) (Nat.le_of_ble_eq_true rfl) ?_
  show WP mX5_isMinute Q 0 [vR 0, vI a] [] D
  refine WP_cD (fun hcD => ?_)
  refine WP_cl (fun hcl => ?_)
  have h := h0 hcD (cVs_g hcl (i := 1) (v := vI a) rfl)
  refine WP_iload_n (z := a) dX5_isMinute_0 rfl ?_
  refine WP_via (pc1 := 29) (ls1 := [vR 0, vI a]) (st1 := [vI (if a < 0 then (0 : Int) else (if (D 10 2) ≤ a then (0 : Int) else (if 12 ≤ a then (0 : Int) else 1)))]) (D1 := D) (fun hJ1 => ?_) ?_
  · refine WP_if_lt (tgt := 28) dX5_isMinute_1 (by decide) (fun c2 => ?_) (fun c2 => ?_)
    · replace hJ1 := ite_t (P := fun v_ : Int => WP mX5_isMinute Q 29 [vR 0, vI a] [vI v_] D) hJ1 c2
      refine WP_iconst (z := 0) dX5_isMinute_28 rfl ⟨by decide, by decide⟩ ?_
      exact hJ1
    · replace hJ1 := ite_f (P := fun v_ : Int => WP mX5_isMinute Q 29 [vR 0, vI a] [vI v_] D) hJ1 c2
      refine WP_iload_n (z := a) dX5_isMinute_4 rfl ?_
      refine WP_aload_n (z := 0) dX5_isMinute_5 rfl ?_
      refine WP_getR (z := 9) dX5_isMinute_6 fl_RX5_22 rfl rfl rfl ?_
      refine WP_getR (z := 10) dX5_isMinute_9 fl_RX5_91 rfl rfl rfl ?_
      refine WP_getI dX5_isMinute_12 fl_RX5_150 rfl rfl rfl ?_
      refine WP_via (pc1 := 29) (ls1 := [vR 0, vI a]) (st1 := [vI (if (D 10 2) ≤ a then (0 : Int) else (if 12 ≤ a then (0 : Int) else 1))]) (D1 := D) (fun hJ3 => ?_) ?_
      · refine WP_icmp_ge (tgt := 28) dX5_isMinute_15 (by decide) (fun c4 => ?_) (fun c4 => ?_)
        · replace hJ3 := ite_t (P := fun v_ : Int => WP mX5_isMinute Q 29 [vR 0, vI a] [vI v_] D) hJ3 c4
          refine WP_iconst (z := 0) dX5_isMinute_28 rfl ⟨by decide, by decide⟩ ?_
          exact hJ3
        · replace hJ3 := ite_f (P := fun v_ : Int => WP mX5_isMinute Q 29 [vR 0, vI a] [vI v_] D) hJ3 c4
          refine WP_iload_n (z := a) dX5_isMinute_18 rfl ?_
          refine WP_bipush (z := 12) dX5_isMinute_19 rfl (by decide) ?_
          refine WP_via (pc1 := 29) (ls1 := [vR 0, vI a]) (st1 := [vI (if 12 ≤ a then (0 : Int) else 1)]) (D1 := D) (fun hJ5 => ?_) ?_
          · refine WP_icmp_ge (tgt := 28) dX5_isMinute_21 (by decide) (fun c6 => ?_) (fun c6 => ?_)
            · replace hJ5 := ite_t (P := fun v_ : Int => WP mX5_isMinute Q 29 [vR 0, vI a] [vI v_] D) hJ5 c6
              refine WP_iconst (z := 0) dX5_isMinute_28 rfl ⟨by decide, by decide⟩ ?_
              exact hJ5
            · replace hJ5 := ite_f (P := fun v_ : Int => WP mX5_isMinute Q 29 [vR 0, vI a] [vI v_] D) hJ5 c6
              refine WP_iconst (z := 1) dX5_isMinute_24 rfl ⟨by decide, by decide⟩ ?_
              refine WP_goto (tgt := 29) dX5_isMinute_25 (by decide) ?_
              exact hJ5
          exact hJ3
      exact hJ1
  · exact WP_zreturn dX5_isMinute_29 rfl (bool_ite (Or.inl rfl) (bool_ite (Or.inl rfl) (bool_ite (Or.inl rfl) (Or.inr rfl)))) h
set_option maxRecDepth 100000 in
set_option maxHeartbeats 4000000 in
theorem P_X5_isMinute {a : Int} {D : HP} (hob : oX5_isMinute D a) : CT mX5_isMinute [vR 0, vI a] D (PF (vI (fX5_isMinute D a)) D) := by
  refine V_X5_isMinute a (fun hcD hc_0 => ?_)
  obtain ⟨z, hz⟩ : ∃ z, z = fX5_isMinute D a := ⟨_, rfl⟩
  rw [← hz]
  unfold fX5_isMinute at hz
  exact ⟨by rw [hz], rfl⟩
def fX5_gust (D : HP) (a : Int) (b : Int) : Int := (if (fX5_isMinute D a) = 0 then ((-2) : Int) else (if b < 0 then ((-2) : Int) else (if b ≤ 1 then ((if b = 0 then ((D 14 a.toNat) : Int) else (D 15 a.toNat)) : Int) else (-2))))
def oX5_gust (D : HP) (a : Int) (b : Int) : Prop := (((fX5_isMinute D a) = 0 → True) ∧ (¬ ((fX5_isMinute D a) = 0) → ((b < 0 → True) ∧ (¬ (b < 0) → ((b ≤ 1 → ((((b = 0) → (0 ≤ a ∧ a < 12)) ∧ (¬ (b = 0) → (0 ≤ a ∧ a < 12))) ∧ True)) ∧ (¬ (b ≤ 1) → True))))))
set_option maxRecDepth 100000 in
set_option maxHeartbeats 4000000 in
theorem V_X5_gust (a : Int) (b : Int) {D : HP} {Q : Option MV → HP → Prop}
    (h0 : cD D → c32 a → c32 b → (((fX5_isMinute D a) = 0 → (Q (some (vI (-2))) D)) ∧ (¬ ((fX5_isMinute D a) = 0) → ((b < 0 → (Q (some (vI (-2))) D)) ∧ (¬ (b < 0) → ((b ≤ 1 → ((((b = 0) → (0 ≤ a ∧ a < 12)) ∧ (¬ (b = 0) → (0 ≤ a ∧ a < 12))) ∧ (Q (some (vI (if b = 0 then ((D 14 a.toNat) : Int) else (D 15 a.toNat)))) D))) ∧ (¬ (b ≤ 1) → (Q (some (vI (-2))) D))))))))
    : CT mX5_gust [vR 0, vI a, vI b] D Q := by
  refine CT.of 0 (by decide) (Nat.le_of_ble_eq_true rfl) ?_
  show WP mX5_gust Q 0 [vR 0, vI a, vI b] [] D
  refine WP_cD (fun hcD => ?_)
  refine WP_cl (fun hcl => ?_)
  have h := h0 hcD (cVs_g hcl (i := 1) (v := vI a) rfl) (cVs_g hcl (i := 2) (v := vI b) rfl)
  refine WP_aload_n (z := 0) dX5_gust_0 rfl ?_
  refine WP_iload_n (z := a) dX5_gust_1 rfl ?_
  refine WP_pcallV (g := mX5_isMinute) (as := [vI a]) (rest := []) (n := 1) (r := vI (fX5_isMinute D a)) dX5_gust_2 wm_353 mo_X5_isMinute rfl rfl rfl rfl ⟨Nat.le_of_ble_eq_true rfl, Nat.le_of_ble_eq_true rfl⟩ (Nat.le_of_ble_eq_true rfl) (P_X5_isMinute  trivial) ?_
  refine WP_if_eq (tgt := 17) dX5_gust_5 (by decide) (fun c1 => ?_) (fun c1 => ?_)
  · replace h := h.1 c1
    refine WP_bipush (z := (-2)) dX5_gust_17 rfl (by decide) ?_
    exact WP_ireturn dX5_gust_19 rfl h
  · replace h := h.2 c1
    refine WP_iload_n (z := b) dX5_gust_8 rfl ?_
    refine WP_if_lt (tgt := 17) dX5_gust_9 (by decide) (fun c2 => ?_) (fun c2 => ?_)
    · replace h := h.1 c2
      refine WP_bipush (z := (-2)) dX5_gust_17 rfl (by decide) ?_
      exact WP_ireturn dX5_gust_19 rfl h
    · replace h := h.2 c2
      refine WP_iload_n (z := b) dX5_gust_12 rfl ?_
      refine WP_iconst (z := 1) dX5_gust_13 rfl ⟨by decide, by decide⟩ ?_
      refine WP_icmp_le (tgt := 20) dX5_gust_14 (by decide) (fun c3 => ?_) (fun c3 => ?_)
      · replace h := h.1 c3
        refine WP_iload_n (z := b) dX5_gust_20 rfl ?_
        obtain ⟨o4, h⟩ := h
        refine WP_via (pc1 := 51) (ls1 := [vR 0, vI a, vI b]) (st1 := [vI (if b = 0 then ((D 14 a.toNat) : Int) else (D 15 a.toNat))]) (D1 := D) (fun hJ5 => ?_) ?_
        · refine WP_if_ne (tgt := 39) dX5_gust_21 (by decide) (fun c6 => ?_) (fun c6 => ?_)
          · replace hJ5 := ite_f (P := fun v_ : Int => WP mX5_gust Q 51 [vR 0, vI a, vI b] [vI v_] D) hJ5 c6
            have o8 := o4.2 c6
            refine WP_aload_n (z := 0) dX5_gust_39 rfl ?_
            refine WP_getR (z := 9) dX5_gust_40 fl_RX5_22 rfl rfl rfl ?_
            refine WP_getR (z := 10) dX5_gust_43 fl_RX5_91 rfl rfl rfl ?_
            refine WP_getR (z := 15) dX5_gust_46 fl_RX5_109 rfl rfl rfl ?_
            refine WP_iload_n (z := a) dX5_gust_49 rfl ?_
            refine WP_iald dX5_gust_50 rfl o8.1 o8.2 rfl ?_
            exact hJ5
          · replace hJ5 := ite_t (P := fun v_ : Int => WP mX5_gust Q 51 [vR 0, vI a, vI b] [vI v_] D) hJ5 c6
            have o7 := o4.1 c6
            refine WP_aload_n (z := 0) dX5_gust_24 rfl ?_
            refine WP_getR (z := 9) dX5_gust_25 fl_RX5_22 rfl rfl rfl ?_
            refine WP_getR (z := 10) dX5_gust_28 fl_RX5_91 rfl rfl rfl ?_
            refine WP_getR (z := 14) dX5_gust_31 fl_RX5_106 rfl rfl rfl ?_
            refine WP_iload_n (z := a) dX5_gust_34 rfl ?_
            refine WP_iald dX5_gust_35 rfl o7.1 o7.2 rfl ?_
            refine WP_goto (tgt := 51) dX5_gust_36 (by decide) ?_
            exact hJ5
        · exact WP_ireturn dX5_gust_51 rfl h
      · replace h := h.2 c3
        refine WP_bipush (z := (-2)) dX5_gust_17 rfl (by decide) ?_
        exact WP_ireturn dX5_gust_19 rfl h
set_option maxRecDepth 100000 in
set_option maxHeartbeats 4000000 in
theorem P_X5_gust {a : Int} {b : Int} {D : HP} (hob : oX5_gust D a b) : CT mX5_gust [vR 0, vI a, vI b] D (PF (vI (fX5_gust D a b)) D) := by
  refine V_X5_gust a b (fun hcD hc_0 hc_1 => ?_)
  obtain ⟨z, hz⟩ : ∃ z, z = fX5_gust D a b := ⟨_, rfl⟩
  rw [← hz]
  unfold fX5_gust at hz
  unfold oX5_gust at hob
  refine ⟨fun k3 => ?_, fun k3 => ?_⟩
  · replace hob := hob.1 k3
    replace hz := hz.trans (if_pos k3)
    exact ⟨by rw [hz], rfl⟩
  · replace hob := hob.2 k3
    replace hz := hz.trans (if_neg k3)
    refine ⟨fun k2 => ?_, fun k2 => ?_⟩
    · replace hob := hob.1 k2
      replace hz := hz.trans (if_pos k2)
      exact ⟨by rw [hz], rfl⟩
    · replace hob := hob.2 k2
      replace hz := hz.trans (if_neg k2)
      refine ⟨fun k1 => ?_, fun k1 => ?_⟩
      · replace hob := hob.1 k1
        replace hz := hz.trans (if_pos k1)
        refine ⟨hob.1, ?_⟩
        replace hob := hob.2
        exact ⟨by rw [hz], rfl⟩
      · replace hob := hob.2 k1
        replace hz := hz.trans (if_neg k1)
        exact ⟨by rw [hz], rfl⟩
def fX5_isCandidate (D : HP) (a : Int) : Int := (if a < 0 then (0 : Int) else (if (D 10 3) ≤ a then (0 : Int) else (if 8 ≤ a then (0 : Int) else 1)))
theorem bfX5_isCandidate (D : HP) (a : Int) : fX5_isCandidate D a = 0 ∨ fX5_isCandidate D a = 1 := by unfold fX5_isCandidate; exact (bool_ite (Or.inl rfl) (bool_ite (Or.inl rfl) (bool_ite (Or.inl rfl) (Or.inr rfl))))
def oX5_isCandidate (D : HP) (a : Int) : Prop := True
set_option maxRecDepth 100000 in
set_option maxHeartbeats 4000000 in
theorem V_X5_isCandidate (a : Int) {D : HP} {Q : Option MV → HP → Prop}
    (h0 : cD D → c32 a → (Q (some (vI (if a < 0 then (0 : Int) else (if (D 10 3) ≤ a then (0 : Int) else (if 8 ≤ a then (0 : Int) else 1))))) D))
    : CT mX5_isCandidate [vR 0, vI a] D Q := by
  refine CT.of 0 (by decide) (Nat.le_of_ble_eq_true rfl) ?_
  show WP mX5_isCandidate Q 0 [vR 0, vI a] [] D
  refine WP_cD (fun hcD => ?_)
  refine WP_cl (fun hcl => ?_)
  have h := h0 hcD (cVs_g hcl (i := 1) (v := vI a) rfl)
  refine WP_iload_n (z := a) dX5_isCandidate_0 rfl ?_
  refine WP_via (pc1 := 29) (ls1 := [vR 0, vI a]) (st1 := [vI (if a < 0 then (0 : Int) else (if (D 10 3) ≤ a then (0 : Int) else (if 8 ≤ a then (0 : Int) else 1)))]) (D1 := D) (fun hJ1 => ?_) ?_
  · refine WP_if_lt (tgt := 28) dX5_isCandidate_1 (by decide) (fun c2 => ?_) (fun c2 => ?_)
    · replace hJ1 := ite_t (P := fun v_ : Int => WP mX5_isCandidate Q 29 [vR 0, vI a] [vI v_] D) hJ1 c2
      refine WP_iconst (z := 0) dX5_isCandidate_28 rfl ⟨by decide, by decide⟩ ?_
      exact hJ1
    · replace hJ1 := ite_f (P := fun v_ : Int => WP mX5_isCandidate Q 29 [vR 0, vI a] [vI v_] D) hJ1 c2
      refine WP_iload_n (z := a) dX5_isCandidate_4 rfl ?_
      refine WP_aload_n (z := 0) dX5_isCandidate_5 rfl ?_
      refine WP_getR (z := 9) dX5_isCandidate_6 fl_RX5_22 rfl rfl rfl ?_
      refine WP_getR (z := 10) dX5_isCandidate_9 fl_RX5_91 rfl rfl rfl ?_
      refine WP_getI dX5_isCandidate_12 fl_RX5_167 rfl rfl rfl ?_
      refine WP_via (pc1 := 29) (ls1 := [vR 0, vI a]) (st1 := [vI (if (D 10 3) ≤ a then (0 : Int) else (if 8 ≤ a then (0 : Int) else 1))]) (D1 := D) (fun hJ3 => ?_) ?_
      · refine WP_icmp_ge (tgt := 28) dX5_isCandidate_15 (by decide) (fun c4 => ?_) (fun c4 => ?_)
        · replace hJ3 := ite_t (P := fun v_ : Int => WP mX5_isCandidate Q 29 [vR 0, vI a] [vI v_] D) hJ3 c4
          refine WP_iconst (z := 0) dX5_isCandidate_28 rfl ⟨by decide, by decide⟩ ?_
          exact hJ3
        · replace hJ3 := ite_f (P := fun v_ : Int => WP mX5_isCandidate Q 29 [vR 0, vI a] [vI v_] D) hJ3 c4
          refine WP_iload_n (z := a) dX5_isCandidate_18 rfl ?_
          refine WP_bipush (z := 8) dX5_isCandidate_19 rfl (by decide) ?_
          refine WP_via (pc1 := 29) (ls1 := [vR 0, vI a]) (st1 := [vI (if 8 ≤ a then (0 : Int) else 1)]) (D1 := D) (fun hJ5 => ?_) ?_
          · refine WP_icmp_ge (tgt := 28) dX5_isCandidate_21 (by decide) (fun c6 => ?_) (fun c6 => ?_)
            · replace hJ5 := ite_t (P := fun v_ : Int => WP mX5_isCandidate Q 29 [vR 0, vI a] [vI v_] D) hJ5 c6
              refine WP_iconst (z := 0) dX5_isCandidate_28 rfl ⟨by decide, by decide⟩ ?_
              exact hJ5
            · replace hJ5 := ite_f (P := fun v_ : Int => WP mX5_isCandidate Q 29 [vR 0, vI a] [vI v_] D) hJ5 c6
              refine WP_iconst (z := 1) dX5_isCandidate_24 rfl ⟨by decide, by decide⟩ ?_
              refine WP_goto (tgt := 29) dX5_isCandidate_25 (by decide) ?_
              exact hJ5
          exact hJ3
      exact hJ1
  · exact WP_zreturn dX5_isCandidate_29 rfl (bool_ite (Or.inl rfl) (bool_ite (Or.inl rfl) (bool_ite (Or.inl rfl) (Or.inr rfl)))) h
set_option maxRecDepth 100000 in
set_option maxHeartbeats 4000000 in
theorem P_X5_isCandidate {a : Int} {D : HP} (hob : oX5_isCandidate D a) : CT mX5_isCandidate [vR 0, vI a] D (PF (vI (fX5_isCandidate D a)) D) := by
  refine V_X5_isCandidate a (fun hcD hc_0 => ?_)
  obtain ⟨z, hz⟩ : ∃ z, z = fX5_isCandidate D a := ⟨_, rfl⟩
  rw [← hz]
  unfold fX5_isCandidate at hz
  exact ⟨by rw [hz], rfl⟩
def fX5_candidate (D : HP) (a : Int) (b : Int) : Int := (if (fX5_isCandidate D a) = 0 then ((-2) : Int) else (if b = 0 then ((D 16 a.toNat) : Int) else (if b = 1 then ((D 17 a.toNat) : Int) else (if b = 2 then ((D 18 a.toNat) : Int) else (if b = 3 then ((if (fX0_isSomewhere D 9 a) = 0 then (0 : Int) else 1) : Int) else (-2))))))
def oX5_candidate (D : HP) (a : Int) (b : Int) : Prop := (((fX5_isCandidate D a) = 0 → True) ∧ (¬ ((fX5_isCandidate D a) = 0) → ((b = 0 → ((0 ≤ a ∧ a < 8) ∧ True)) ∧ (b = 1 → ((0 ≤ a ∧ a < 8) ∧ True)) ∧ (b = 2 → ((0 ≤ a ∧ a < 8) ∧ True)) ∧ (b = 3 → True))))
set_option maxRecDepth 100000 in
set_option maxHeartbeats 4000000 in
theorem V_X5_candidate (a : Int) (b : Int) {D : HP} {Q : Option MV → HP → Prop}
    (h0 : cD D → c32 a → c32 b → (((fX5_isCandidate D a) = 0 → (Q (some (vI (-2))) D)) ∧ (¬ ((fX5_isCandidate D a) = 0) → (((b < 0 ∨ 3 < b) → (Q (some (vI (-2))) D)) ∧ (b = 0 → ((0 ≤ a ∧ a < 8) ∧ (Q (some (vI (D 16 a.toNat))) D))) ∧ (b = 1 → ((0 ≤ a ∧ a < 8) ∧ (Q (some (vI (D 17 a.toNat))) D))) ∧ (b = 2 → ((0 ≤ a ∧ a < 8) ∧ (Q (some (vI (D 18 a.toNat))) D))) ∧ (b = 3 → (Q (some (vI (if (fX0_isSomewhere D 9 a) = 0 then (0 : Int) else 1))) D))))))
    : CT mX5_candidate [vR 0, vI a, vI b] D Q := by
  refine CT.of 0 (by decide) (Nat.le_of_ble_eq_true rfl) ?_
  show WP mX5_candidate Q 0 [vR 0, vI a, vI b] [] D
  refine WP_cD (fun hcD => ?_)
  refine WP_cl (fun hcl => ?_)
  have h := h0 hcD (cVs_g hcl (i := 1) (v := vI a) rfl) (cVs_g hcl (i := 2) (v := vI b) rfl)
  refine WP_aload_n (z := 0) dX5_candidate_0 rfl ?_
  refine WP_iload_n (z := a) dX5_candidate_1 rfl ?_
  refine WP_pcallV (g := mX5_isCandidate) (as := [vI a]) (rest := []) (n := 1) (r := vI (fX5_isCandidate D a)) dX5_candidate_2 wm_373 mo_X5_isCandidate rfl rfl rfl rfl ⟨Nat.le_of_ble_eq_true rfl, Nat.le_of_ble_eq_true rfl⟩ (Nat.le_of_ble_eq_true rfl) (P_X5_isCandidate  trivial) ?_
  refine WP_if_ne (tgt := 11) dX5_candidate_5 (by decide) (fun c1 => ?_) (fun c1 => ?_)
  · replace h := h.2 c1
    refine WP_iload_n (z := b) dX5_candidate_11 rfl ?_
    rcases (show (b < 0 ∨ 3 < b) ∨ b = 0 ∨ b = 1 ∨ b = 2 ∨ b = 3 from by omega) with q2 | q2 | q2 | q2 | q2
    · replace h := h.1 q2
      refine WP_tabOut (tgt := 100) dX5_candidate_12 q2 (by decide) ?_
      refine WP_bipush (z := (-2)) dX5_candidate_100 rfl (by decide) ?_
      exact WP_ireturn dX5_candidate_102 rfl h
    · replace h := h.2.1 q2
      refine WP_tabIn (off := 32) (tgt := 44) dX5_candidate_12 (by omega) (by omega) (by rw [q2]; rfl) (by decide) ?_
      refine WP_aload_n (z := 0) dX5_candidate_44 rfl ?_
      refine WP_getR (z := 9) dX5_candidate_45 fl_RX5_22 rfl rfl rfl ?_
      refine WP_getR (z := 10) dX5_candidate_48 fl_RX5_91 rfl rfl rfl ?_
      refine WP_getR (z := 16) dX5_candidate_51 fl_RX5_115 rfl rfl rfl ?_
      refine WP_iload_n (z := a) dX5_candidate_54 rfl ?_
      obtain ⟨o3, h⟩ := h
      refine WP_iald dX5_candidate_55 rfl o3.1 o3.2 rfl ?_
      exact WP_ireturn dX5_candidate_56 rfl h
    · replace h := h.2.2.1 q2
      refine WP_tabIn (off := 45) (tgt := 57) dX5_candidate_12 (by omega) (by omega) (by rw [q2]; rfl) (by decide) ?_
      refine WP_aload_n (z := 0) dX5_candidate_57 rfl ?_
      refine WP_getR (z := 9) dX5_candidate_58 fl_RX5_22 rfl rfl rfl ?_
      refine WP_getR (z := 10) dX5_candidate_61 fl_RX5_91 rfl rfl rfl ?_
      refine WP_getR (z := 17) dX5_candidate_64 fl_RX5_118 rfl rfl rfl ?_
      refine WP_iload_n (z := a) dX5_candidate_67 rfl ?_
      obtain ⟨o4, h⟩ := h
      refine WP_iald dX5_candidate_68 rfl o4.1 o4.2 rfl ?_
      exact WP_ireturn dX5_candidate_69 rfl h
    · replace h := h.2.2.2.1 q2
      refine WP_tabIn (off := 58) (tgt := 70) dX5_candidate_12 (by omega) (by omega) (by rw [q2]; rfl) (by decide) ?_
      refine WP_aload_n (z := 0) dX5_candidate_70 rfl ?_
      refine WP_getR (z := 9) dX5_candidate_71 fl_RX5_22 rfl rfl rfl ?_
      refine WP_getR (z := 10) dX5_candidate_74 fl_RX5_91 rfl rfl rfl ?_
      refine WP_getR (z := 18) dX5_candidate_77 fl_RX5_121 rfl rfl rfl ?_
      refine WP_iload_n (z := a) dX5_candidate_80 rfl ?_
      obtain ⟨o5, h⟩ := h
      refine WP_iald dX5_candidate_81 rfl o5.1 o5.2 rfl ?_
      exact WP_ireturn dX5_candidate_82 rfl h
    · replace h := h.2.2.2.2 q2
      refine WP_tabIn (off := 71) (tgt := 83) dX5_candidate_12 (by omega) (by omega) (by rw [q2]; rfl) (by decide) ?_
      refine WP_aload_n (z := 0) dX5_candidate_83 rfl ?_
      refine WP_getR (z := 9) dX5_candidate_84 fl_RX5_22 rfl rfl rfl ?_
      refine WP_iload_n (z := a) dX5_candidate_87 rfl ?_
      refine WP_pcallV (g := mX0_isSomewhere) (as := [vI a]) (rest := []) (n := 1) (r := vI (fX0_isSomewhere D 9 a)) dX5_candidate_88 wm_378 mo_X0_isSomewhere rfl rfl rfl rfl ⟨Nat.le_of_ble_eq_true rfl, Nat.le_of_ble_eq_true rfl⟩ (Nat.le_of_ble_eq_true rfl) (P_X0_isSomewhere (by decide) trivial) ?_
      refine WP_via (pc1 := 99) (ls1 := [vR 0, vI a, vI b]) (st1 := [vI (if (fX0_isSomewhere D 9 a) = 0 then (0 : Int) else 1)]) (D1 := D) (fun hJ6 => ?_) ?_
      · refine WP_if_eq (tgt := 98) dX5_candidate_91 (by decide) (fun c7 => ?_) (fun c7 => ?_)
        · replace hJ6 := ite_t (P := fun v_ : Int => WP mX5_candidate Q 99 [vR 0, vI a, vI b] [vI v_] D) hJ6 c7
          refine WP_iconst (z := 0) dX5_candidate_98 rfl ⟨by decide, by decide⟩ ?_
          exact hJ6
        · replace hJ6 := ite_f (P := fun v_ : Int => WP mX5_candidate Q 99 [vR 0, vI a, vI b] [vI v_] D) hJ6 c7
          refine WP_iconst (z := 1) dX5_candidate_94 rfl ⟨by decide, by decide⟩ ?_
          refine WP_goto (tgt := 99) dX5_candidate_95 (by decide) ?_
          exact hJ6
      · exact WP_ireturn dX5_candidate_99 rfl h
  · replace h := h.1 c1
    refine WP_bipush (z := (-2)) dX5_candidate_8 rfl (by decide) ?_
    exact WP_ireturn dX5_candidate_10 rfl h
set_option maxRecDepth 100000 in
set_option maxHeartbeats 4000000 in
theorem P_X5_candidate {a : Int} {b : Int} {D : HP} (hob : oX5_candidate D a b) : CT mX5_candidate [vR 0, vI a, vI b] D (PF (vI (fX5_candidate D a b)) D) := by
  refine V_X5_candidate a b (fun hcD hc_0 hc_1 => ?_)
  obtain ⟨z, hz⟩ : ∃ z, z = fX5_candidate D a b := ⟨_, rfl⟩
  rw [← hz]
  unfold fX5_candidate at hz
  unfold oX5_candidate at hob
  refine ⟨fun k1 => ?_, fun k1 => ?_⟩
  · replace hob := hob.1 k1
    replace hz := hz.trans (if_pos k1)
    exact ⟨by rw [hz], rfl⟩
  · replace hob := hob.2 k1
    replace hz := hz.trans (if_neg k1)
    refine ⟨fun q_ => ?_, fun q_ => ?_, fun q_ => ?_, fun q_ => ?_, fun q_ => ?_⟩
    · replace hz := hz.trans (if_neg (by omega))
      replace hz := hz.trans (if_neg (by omega))
      replace hz := hz.trans (if_neg (by omega))
      replace hz := hz.trans (if_neg (by omega))
      exact ⟨by rw [hz], rfl⟩
    · replace hz := hz.trans (if_pos q_)
      replace hob := hob.1 q_
      refine ⟨hob.1, ?_⟩
      replace hob := hob.2
      exact ⟨by rw [hz], rfl⟩
    · replace hz := hz.trans (if_neg (by omega))
      replace hz := hz.trans (if_pos q_)
      replace hob := hob.2.1 q_
      refine ⟨hob.1, ?_⟩
      replace hob := hob.2
      exact ⟨by rw [hz], rfl⟩
    · replace hz := hz.trans (if_neg (by omega))
      replace hz := hz.trans (if_neg (by omega))
      replace hz := hz.trans (if_pos q_)
      replace hob := hob.2.2.1 q_
      refine ⟨hob.1, ?_⟩
      replace hob := hob.2
      exact ⟨by rw [hz], rfl⟩
    · replace hz := hz.trans (if_neg (by omega))
      replace hz := hz.trans (if_neg (by omega))
      replace hz := hz.trans (if_neg (by omega))
      replace hz := hz.trans (if_pos q_)
      replace hob := hob.2.2.2 q_
      exact ⟨by rw [hz], rfl⟩
def fX5_wind (D : HP) (a : Int) (b : Int) : Int := (if (fX5_isMinute D a) = 0 then ((-2) : Int) else (if (fX1_isCell D 9 b) = 0 then ((-2) : Int) else (fX0_windOn D 9 a b)))
def oX5_wind (D : HP) (a : Int) (b : Int) : Prop := (((fX5_isMinute D a) = 0 → True) ∧ (¬ ((fX5_isMinute D a) = 0) → (((fX1_isCell D 9 b) = 0 → True) ∧ (¬ ((fX1_isCell D 9 b) = 0) → ((oX0_windOn D 9 a b) ∧ True)))))
set_option maxRecDepth 100000 in
set_option maxHeartbeats 4000000 in
theorem V_X5_wind (a : Int) (b : Int) {D : HP} {Q : Option MV → HP → Prop}
    (h0 : cD D → c32 a → c32 b → (((fX5_isMinute D a) = 0 → (Q (some (vI (-2))) D)) ∧ (¬ ((fX5_isMinute D a) = 0) → (((fX1_isCell D 9 b) = 0 → (Q (some (vI (-2))) D)) ∧ (¬ ((fX1_isCell D 9 b) = 0) → ((oX0_windOn D 9 a b) ∧ (Q (some (vI (fX0_windOn D 9 a b))) D)))))))
    : CT mX5_wind [vR 0, vI a, vI b] D Q := by
  refine CT.of 0 (by decide) (Nat.le_of_ble_eq_true rfl) ?_
  show WP mX5_wind Q 0 [vR 0, vI a, vI b] [] D
  refine WP_cD (fun hcD => ?_)
  refine WP_cl (fun hcl => ?_)
  have h := h0 hcD (cVs_g hcl (i := 1) (v := vI a) rfl) (cVs_g hcl (i := 2) (v := vI b) rfl)
  refine WP_aload_n (z := 0) dX5_wind_0 rfl ?_
  refine WP_iload_n (z := a) dX5_wind_1 rfl ?_
  refine WP_pcallV (g := mX5_isMinute) (as := [vI a]) (rest := []) (n := 1) (r := vI (fX5_isMinute D a)) dX5_wind_2 wm_353 mo_X5_isMinute rfl rfl rfl rfl ⟨Nat.le_of_ble_eq_true rfl, Nat.le_of_ble_eq_true rfl⟩ (Nat.le_of_ble_eq_true rfl) (P_X5_isMinute  trivial) ?_
  refine WP_if_eq (tgt := 22) dX5_wind_5 (by decide) (fun c1 => ?_) (fun c1 => ?_)
  · replace h := h.1 c1
    refine WP_bipush (z := (-2)) dX5_wind_22 rfl (by decide) ?_
    exact WP_ireturn dX5_wind_24 rfl h
  · replace h := h.2 c1
    refine WP_aload_n (z := 0) dX5_wind_8 rfl ?_
    refine WP_getR (z := 9) dX5_wind_9 fl_RX5_22 rfl rfl rfl ?_
    refine WP_getR (z := 10) dX5_wind_12 fl_RX5_91 rfl rfl rfl ?_
    refine WP_iload_n (z := b) dX5_wind_15 rfl ?_
    refine WP_pcallV (g := mX1_isCell) (as := [vI b]) (rest := []) (n := 1) (r := vI (fX1_isCell D 9 b)) dX5_wind_16 wm_333 mo_X1_isCell rfl rfl rfl rfl ⟨Nat.le_of_ble_eq_true rfl, Nat.le_of_ble_eq_true rfl⟩ (Nat.le_of_ble_eq_true rfl) (P_X1_isCell (by decide) trivial) ?_
    refine WP_if_ne (tgt := 25) dX5_wind_19 (by decide) (fun c2 => ?_) (fun c2 => ?_)
    · replace h := h.2 c2
      refine WP_aload_n (z := 0) dX5_wind_25 rfl ?_
      refine WP_getR (z := 9) dX5_wind_26 fl_RX5_22 rfl rfl rfl ?_
      refine WP_iload_n (z := a) dX5_wind_29 rfl ?_
      refine WP_iload_n (z := b) dX5_wind_30 rfl ?_
      obtain ⟨o3, h⟩ := h
      refine WP_pcallV (g := mX0_windOn) (as := [vI a, vI b]) (rest := []) (n := 2) (r := vI (fX0_windOn D 9 a b)) dX5_wind_31 wm_402 mo_X0_windOn rfl rfl rfl rfl ⟨Nat.le_of_ble_eq_true rfl, Nat.le_of_ble_eq_true rfl⟩ (Nat.le_of_ble_eq_true rfl) (P_X0_windOn (by decide) o3) ?_
      exact WP_ireturn dX5_wind_34 rfl h
    · replace h := h.1 c2
      refine WP_bipush (z := (-2)) dX5_wind_22 rfl (by decide) ?_
      exact WP_ireturn dX5_wind_24 rfl h
set_option maxRecDepth 100000 in
set_option maxHeartbeats 4000000 in
theorem P_X5_wind {a : Int} {b : Int} {D : HP} (hob : oX5_wind D a b) : CT mX5_wind [vR 0, vI a, vI b] D (PF (vI (fX5_wind D a b)) D) := by
  refine V_X5_wind a b (fun hcD hc_0 hc_1 => ?_)
  obtain ⟨z, hz⟩ : ∃ z, z = fX5_wind D a b := ⟨_, rfl⟩
  rw [← hz]
  unfold fX5_wind at hz
  unfold oX5_wind at hob
  refine ⟨fun k2 => ?_, fun k2 => ?_⟩
  · replace hob := hob.1 k2
    replace hz := hz.trans (if_pos k2)
    exact ⟨by rw [hz], rfl⟩
  · replace hob := hob.2 k2
    replace hz := hz.trans (if_neg k2)
    refine ⟨fun k1 => ?_, fun k1 => ?_⟩
    · replace hob := hob.1 k1
      replace hz := hz.trans (if_pos k1)
      exact ⟨by rw [hz], rfl⟩
    · replace hob := hob.2 k1
      replace hz := hz.trans (if_neg k1)
      refine ⟨hob.1, ?_⟩
      replace hob := hob.2
      exact ⟨by rw [hz], rfl⟩
def fX5_ribs (D : HP) (a : Int) (b : Int) : Int := (if (fX5_isMinute D a) = 0 then ((-2) : Int) else (if (fX5_isCandidate D b) = 0 then ((-2) : Int) else (fX0_ribsAhead D 9 a b)))
def oX5_ribs (D : HP) (a : Int) (b : Int) : Prop := (((fX5_isMinute D a) = 0 → True) ∧ (¬ ((fX5_isMinute D a) = 0) → (((fX5_isCandidate D b) = 0 → True) ∧ (¬ ((fX5_isCandidate D b) = 0) → ((oX0_ribsAhead D 9 a b) ∧ True)))))
set_option maxRecDepth 100000 in
set_option maxHeartbeats 4000000 in
theorem V_X5_ribs (a : Int) (b : Int) {D : HP} {Q : Option MV → HP → Prop}
    (h0 : cD D → c32 a → c32 b → (((fX5_isMinute D a) = 0 → (Q (some (vI (-2))) D)) ∧ (¬ ((fX5_isMinute D a) = 0) → (((fX5_isCandidate D b) = 0 → (Q (some (vI (-2))) D)) ∧ (¬ ((fX5_isCandidate D b) = 0) → ((oX0_ribsAhead D 9 a b) ∧ (Q (some (vI (fX0_ribsAhead D 9 a b))) D)))))))
    : CT mX5_ribs [vR 0, vI a, vI b] D Q := by
  refine CT.of 0 (by decide) (Nat.le_of_ble_eq_true rfl) ?_
  show WP mX5_ribs Q 0 [vR 0, vI a, vI b] [] D
  refine WP_cD (fun hcD => ?_)
  refine WP_cl (fun hcl => ?_)
  have h := h0 hcD (cVs_g hcl (i := 1) (v := vI a) rfl) (cVs_g hcl (i := 2) (v := vI b) rfl)
  refine WP_aload_n (z := 0) dX5_ribs_0 rfl ?_
  refine WP_iload_n (z := a) dX5_ribs_1 rfl ?_
  refine WP_pcallV (g := mX5_isMinute) (as := [vI a]) (rest := []) (n := 1) (r := vI (fX5_isMinute D a)) dX5_ribs_2 wm_353 mo_X5_isMinute rfl rfl rfl rfl ⟨Nat.le_of_ble_eq_true rfl, Nat.le_of_ble_eq_true rfl⟩ (Nat.le_of_ble_eq_true rfl) (P_X5_isMinute  trivial) ?_
  refine WP_if_eq (tgt := 16) dX5_ribs_5 (by decide) (fun c1 => ?_) (fun c1 => ?_)
  · replace h := h.1 c1
    refine WP_bipush (z := (-2)) dX5_ribs_16 rfl (by decide) ?_
    exact WP_ireturn dX5_ribs_18 rfl h
  · replace h := h.2 c1
    refine WP_aload_n (z := 0) dX5_ribs_8 rfl ?_
    refine WP_iload_n (z := b) dX5_ribs_9 rfl ?_
    refine WP_pcallV (g := mX5_isCandidate) (as := [vI b]) (rest := []) (n := 1) (r := vI (fX5_isCandidate D b)) dX5_ribs_10 wm_373 mo_X5_isCandidate rfl rfl rfl rfl ⟨Nat.le_of_ble_eq_true rfl, Nat.le_of_ble_eq_true rfl⟩ (Nat.le_of_ble_eq_true rfl) (P_X5_isCandidate  trivial) ?_
    refine WP_if_ne (tgt := 19) dX5_ribs_13 (by decide) (fun c2 => ?_) (fun c2 => ?_)
    · replace h := h.2 c2
      refine WP_aload_n (z := 0) dX5_ribs_19 rfl ?_
      refine WP_getR (z := 9) dX5_ribs_20 fl_RX5_22 rfl rfl rfl ?_
      refine WP_iload_n (z := a) dX5_ribs_23 rfl ?_
      refine WP_iload_n (z := b) dX5_ribs_24 rfl ?_
      obtain ⟨o3, h⟩ := h
      refine WP_pcallV (g := mX0_ribsAhead) (as := [vI a, vI b]) (rest := []) (n := 2) (r := vI (fX0_ribsAhead D 9 a b)) dX5_ribs_25 wm_451 mo_X0_ribsAhead rfl rfl rfl rfl ⟨Nat.le_of_ble_eq_true rfl, Nat.le_of_ble_eq_true rfl⟩ (Nat.le_of_ble_eq_true rfl) (P_X0_ribsAhead (by decide) o3) ?_
      exact WP_ireturn dX5_ribs_28 rfl h
    · replace h := h.1 c2
      refine WP_bipush (z := (-2)) dX5_ribs_16 rfl (by decide) ?_
      exact WP_ireturn dX5_ribs_18 rfl h
set_option maxRecDepth 100000 in
set_option maxHeartbeats 4000000 in
theorem P_X5_ribs {a : Int} {b : Int} {D : HP} (hob : oX5_ribs D a b) : CT mX5_ribs [vR 0, vI a, vI b] D (PF (vI (fX5_ribs D a b)) D) := by
  refine V_X5_ribs a b (fun hcD hc_0 hc_1 => ?_)
  obtain ⟨z, hz⟩ : ∃ z, z = fX5_ribs D a b := ⟨_, rfl⟩
  rw [← hz]
  unfold fX5_ribs at hz
  unfold oX5_ribs at hob
  refine ⟨fun k2 => ?_, fun k2 => ?_⟩
  · replace hob := hob.1 k2
    replace hz := hz.trans (if_pos k2)
    exact ⟨by rw [hz], rfl⟩
  · replace hob := hob.2 k2
    replace hz := hz.trans (if_neg k2)
    refine ⟨fun k1 => ?_, fun k1 => ?_⟩
    · replace hob := hob.1 k1
      replace hz := hz.trans (if_pos k1)
      exact ⟨by rw [hz], rfl⟩
    · replace hob := hob.2 k1
      replace hz := hz.trans (if_neg k1)
      refine ⟨hob.1, ?_⟩
      replace hob := hob.2
      exact ⟨by rw [hz], rfl⟩
def fX5_overturns (D : HP) (a : Int) (b : Int) : Int := (if (fX5_isCandidate D a) = 0 then ((-2) : Int) else (if b = 0 then ((fX0_turnsWhen D 9 a) : Int) else (if b = 1 then ((if (fX0_isReturned D 9 a) = 0 then (0 : Int) else 1) : Int) else (if b = 2 then ((if (fX0_isElected D 9 a) = 0 then (0 : Int) else 1) : Int) else (if b = 3 then ((fX0_minutesBehindWhichIn D 9 a) : Int) else (-2))))))
def oX5_overturns (D : HP) (a : Int) (b : Int) : Prop := (((fX5_isCandidate D a) = 0 → True) ∧ (¬ ((fX5_isCandidate D a) = 0) → ((b = 0 → True) ∧ (b = 1 → ((oX0_isReturned D 9 a) ∧ True)) ∧ (b = 2 → ((oX0_isElected D 9 a) ∧ True)) ∧ (b = 3 → True))))
set_option maxRecDepth 100000 in
set_option maxHeartbeats 4000000 in
theorem V_X5_overturns (a : Int) (b : Int) {D : HP} {Q : Option MV → HP → Prop}
    (h0 : cD D → c32 a → c32 b → (((fX5_isCandidate D a) = 0 → (Q (some (vI (-2))) D)) ∧ (¬ ((fX5_isCandidate D a) = 0) → (((b < 0 ∨ 3 < b) → (Q (some (vI (-2))) D)) ∧ (b = 0 → (Q (some (vI (fX0_turnsWhen D 9 a))) D)) ∧ (b = 1 → ((oX0_isReturned D 9 a) ∧ (Q (some (vI (if (fX0_isReturned D 9 a) = 0 then (0 : Int) else 1))) D))) ∧ (b = 2 → ((oX0_isElected D 9 a) ∧ (Q (some (vI (if (fX0_isElected D 9 a) = 0 then (0 : Int) else 1))) D))) ∧ (b = 3 → (Q (some (vI (fX0_minutesBehindWhichIn D 9 a))) D))))))
    : CT mX5_overturns [vR 0, vI a, vI b] D Q := by
  refine CT.of 0 (by decide) (Nat.le_of_ble_eq_true rfl) ?_
  show WP mX5_overturns Q 0 [vR 0, vI a, vI b] [] D
  refine WP_cD (fun hcD => ?_)
  refine WP_cl (fun hcl => ?_)
  have h := h0 hcD (cVs_g hcl (i := 1) (v := vI a) rfl) (cVs_g hcl (i := 2) (v := vI b) rfl)
  refine WP_aload_n (z := 0) dX5_overturns_0 rfl ?_
  refine WP_iload_n (z := a) dX5_overturns_1 rfl ?_
  refine WP_pcallV (g := mX5_isCandidate) (as := [vI a]) (rest := []) (n := 1) (r := vI (fX5_isCandidate D a)) dX5_overturns_2 wm_373 mo_X5_isCandidate rfl rfl rfl rfl ⟨Nat.le_of_ble_eq_true rfl, Nat.le_of_ble_eq_true rfl⟩ (Nat.le_of_ble_eq_true rfl) (P_X5_isCandidate  trivial) ?_
  refine WP_if_ne (tgt := 11) dX5_overturns_5 (by decide) (fun c1 => ?_) (fun c1 => ?_)
  · replace h := h.2 c1
    refine WP_iload_n (z := b) dX5_overturns_11 rfl ?_
    rcases (show (b < 0 ∨ 3 < b) ∨ b = 0 ∨ b = 1 ∨ b = 2 ∨ b = 3 from by omega) with q2 | q2 | q2 | q2 | q2
    · replace h := h.1 q2
      refine WP_tabOut (tgt := 96) dX5_overturns_12 q2 (by decide) ?_
      refine WP_bipush (z := (-2)) dX5_overturns_96 rfl (by decide) ?_
      exact WP_ireturn dX5_overturns_98 rfl h
    · replace h := h.2.1 q2
      refine WP_tabIn (off := 32) (tgt := 44) dX5_overturns_12 (by omega) (by omega) (by rw [q2]; rfl) (by decide) ?_
      refine WP_aload_n (z := 0) dX5_overturns_44 rfl ?_
      refine WP_getR (z := 9) dX5_overturns_45 fl_RX5_22 rfl rfl rfl ?_
      refine WP_iload_n (z := a) dX5_overturns_48 rfl ?_
      refine WP_pcallV (g := mX0_turnsWhen) (as := [vI a]) (rest := []) (n := 1) (r := vI (fX0_turnsWhen D 9 a)) dX5_overturns_49 wm_467 mo_X0_turnsWhen rfl rfl rfl rfl ⟨Nat.le_of_ble_eq_true rfl, Nat.le_of_ble_eq_true rfl⟩ (Nat.le_of_ble_eq_true rfl) (P_X0_turnsWhen (by decide) trivial) ?_
      exact WP_ireturn dX5_overturns_52 rfl h
    · replace h := h.2.2.1 q2
      refine WP_tabIn (off := 41) (tgt := 53) dX5_overturns_12 (by omega) (by omega) (by rw [q2]; rfl) (by decide) ?_
      refine WP_aload_n (z := 0) dX5_overturns_53 rfl ?_
      refine WP_getR (z := 9) dX5_overturns_54 fl_RX5_22 rfl rfl rfl ?_
      refine WP_iload_n (z := a) dX5_overturns_57 rfl ?_
      obtain ⟨o5, h⟩ := h
      refine WP_pcallV (g := mX0_isReturned) (as := [vI a]) (rest := []) (n := 1) (r := vI (fX0_isReturned D 9 a)) dX5_overturns_58 wm_471 mo_X0_isReturned rfl rfl rfl rfl ⟨Nat.le_of_ble_eq_true rfl, Nat.le_of_ble_eq_true rfl⟩ (Nat.le_of_ble_eq_true rfl) (P_X0_isReturned (by decide) o5) ?_
      refine WP_via (pc1 := 69) (ls1 := [vR 0, vI a, vI b]) (st1 := [vI (if (fX0_isReturned D 9 a) = 0 then (0 : Int) else 1)]) (D1 := D) (fun hJ3 => ?_) ?_
      · refine WP_if_eq (tgt := 68) dX5_overturns_61 (by decide) (fun c4 => ?_) (fun c4 => ?_)
        · replace hJ3 := ite_t (P := fun v_ : Int => WP mX5_overturns Q 69 [vR 0, vI a, vI b] [vI v_] D) hJ3 c4
          refine WP_iconst (z := 0) dX5_overturns_68 rfl ⟨by decide, by decide⟩ ?_
          exact hJ3
        · replace hJ3 := ite_f (P := fun v_ : Int => WP mX5_overturns Q 69 [vR 0, vI a, vI b] [vI v_] D) hJ3 c4
          refine WP_iconst (z := 1) dX5_overturns_64 rfl ⟨by decide, by decide⟩ ?_
          refine WP_goto (tgt := 69) dX5_overturns_65 (by decide) ?_
          exact hJ3
      · exact WP_ireturn dX5_overturns_69 rfl h
    · replace h := h.2.2.2.1 q2
      refine WP_tabIn (off := 58) (tgt := 70) dX5_overturns_12 (by omega) (by omega) (by rw [q2]; rfl) (by decide) ?_
      refine WP_aload_n (z := 0) dX5_overturns_70 rfl ?_
      refine WP_getR (z := 9) dX5_overturns_71 fl_RX5_22 rfl rfl rfl ?_
      refine WP_iload_n (z := a) dX5_overturns_74 rfl ?_
      obtain ⟨o8, h⟩ := h
      refine WP_pcallV (g := mX0_isElected) (as := [vI a]) (rest := []) (n := 1) (r := vI (fX0_isElected D 9 a)) dX5_overturns_75 wm_476 mo_X0_isElected rfl rfl rfl rfl ⟨Nat.le_of_ble_eq_true rfl, Nat.le_of_ble_eq_true rfl⟩ (Nat.le_of_ble_eq_true rfl) (P_X0_isElected (by decide) o8) ?_
      refine WP_via (pc1 := 86) (ls1 := [vR 0, vI a, vI b]) (st1 := [vI (if (fX0_isElected D 9 a) = 0 then (0 : Int) else 1)]) (D1 := D) (fun hJ6 => ?_) ?_
      · refine WP_if_eq (tgt := 85) dX5_overturns_78 (by decide) (fun c7 => ?_) (fun c7 => ?_)
        · replace hJ6 := ite_t (P := fun v_ : Int => WP mX5_overturns Q 86 [vR 0, vI a, vI b] [vI v_] D) hJ6 c7
          refine WP_iconst (z := 0) dX5_overturns_85 rfl ⟨by decide, by decide⟩ ?_
          exact hJ6
        · replace hJ6 := ite_f (P := fun v_ : Int => WP mX5_overturns Q 86 [vR 0, vI a, vI b] [vI v_] D) hJ6 c7
          refine WP_iconst (z := 1) dX5_overturns_81 rfl ⟨by decide, by decide⟩ ?_
          refine WP_goto (tgt := 86) dX5_overturns_82 (by decide) ?_
          exact hJ6
      · exact WP_ireturn dX5_overturns_86 rfl h
    · replace h := h.2.2.2.2 q2
      refine WP_tabIn (off := 75) (tgt := 87) dX5_overturns_12 (by omega) (by omega) (by rw [q2]; rfl) (by decide) ?_
      refine WP_aload_n (z := 0) dX5_overturns_87 rfl ?_
      refine WP_getR (z := 9) dX5_overturns_88 fl_RX5_22 rfl rfl rfl ?_
      refine WP_iload_n (z := a) dX5_overturns_91 rfl ?_
      refine WP_pcallV (g := mX0_minutesBehindWhichIn) (as := [vI a]) (rest := []) (n := 1) (r := vI (fX0_minutesBehindWhichIn D 9 a)) dX5_overturns_92 wm_480 mo_X0_minutesBehindWhichIn rfl rfl rfl rfl ⟨Nat.le_of_ble_eq_true rfl, Nat.le_of_ble_eq_true rfl⟩ (Nat.le_of_ble_eq_true rfl) (P_X0_minutesBehindWhichIn (by decide) trivial) ?_
      exact WP_ireturn dX5_overturns_95 rfl h
  · replace h := h.1 c1
    refine WP_bipush (z := (-2)) dX5_overturns_8 rfl (by decide) ?_
    exact WP_ireturn dX5_overturns_10 rfl h
set_option maxRecDepth 100000 in
set_option maxHeartbeats 4000000 in
theorem P_X5_overturns {a : Int} {b : Int} {D : HP} (hob : oX5_overturns D a b) : CT mX5_overturns [vR 0, vI a, vI b] D (PF (vI (fX5_overturns D a b)) D) := by
  refine V_X5_overturns a b (fun hcD hc_0 hc_1 => ?_)
  obtain ⟨z, hz⟩ : ∃ z, z = fX5_overturns D a b := ⟨_, rfl⟩
  rw [← hz]
  unfold fX5_overturns at hz
  unfold oX5_overturns at hob
  refine ⟨fun k1 => ?_, fun k1 => ?_⟩
  · replace hob := hob.1 k1
    replace hz := hz.trans (if_pos k1)
    exact ⟨by rw [hz], rfl⟩
  · replace hob := hob.2 k1
    replace hz := hz.trans (if_neg k1)
    refine ⟨fun q_ => ?_, fun q_ => ?_, fun q_ => ?_, fun q_ => ?_, fun q_ => ?_⟩
    · replace hz := hz.trans (if_neg (by omega))
      replace hz := hz.trans (if_neg (by omega))
      replace hz := hz.trans (if_neg (by omega))
      replace hz := hz.trans (if_neg (by omega))
      exact ⟨by rw [hz], rfl⟩
    · replace hz := hz.trans (if_pos q_)
      replace hob := hob.1 q_
      exact ⟨by rw [hz], rfl⟩
    · replace hz := hz.trans (if_neg (by omega))
      replace hz := hz.trans (if_pos q_)
      replace hob := hob.2.1 q_
      refine ⟨hob.1, ?_⟩
      replace hob := hob.2
      exact ⟨by rw [hz], rfl⟩
    · replace hz := hz.trans (if_neg (by omega))
      replace hz := hz.trans (if_neg (by omega))
      replace hz := hz.trans (if_pos q_)
      replace hob := hob.2.2.1 q_
      refine ⟨hob.1, ?_⟩
      replace hob := hob.2
      exact ⟨by rw [hz], rfl⟩
    · replace hz := hz.trans (if_neg (by omega))
      replace hz := hz.trans (if_neg (by omega))
      replace hz := hz.trans (if_neg (by omega))
      replace hz := hz.trans (if_pos q_)
      replace hob := hob.2.2.2 q_
      exact ⟨by rw [hz], rfl⟩
def fX5_in (D : HP) (a : Int) : Int := (if (fX5_isMinute D a) = 0 then ((-2) : Int) else (fX0_whoIsIn D 9 a))
def oX5_in (D : HP) (a : Int) : Prop := (((((fX5_isMinute D a) = 0) → True) ∧ (¬ ((fX5_isMinute D a) = 0) → (oX0_whoIsIn D 9 a))) ∧ True)
set_option maxRecDepth 100000 in
set_option maxHeartbeats 4000000 in
theorem V_X5_in (a : Int) {D : HP} {Q : Option MV → HP → Prop}
    (h0 : cD D → c32 a → (((((fX5_isMinute D a) = 0) → True) ∧ (¬ ((fX5_isMinute D a) = 0) → (oX0_whoIsIn D 9 a))) ∧ (Q (some (vI (if (fX5_isMinute D a) = 0 then ((-2) : Int) else (fX0_whoIsIn D 9 a)))) D)))
    : CT mX5_in [vR 0, vI a] D Q := by
  refine CT.of 0 (by decide) (Nat.le_of_ble_eq_true rfl) ?_
  show WP mX5_in Q 0 [vR 0, vI a] [] D
  refine WP_cD (fun hcD => ?_)
  refine WP_cl (fun hcl => ?_)
  have h := h0 hcD (cVs_g hcl (i := 1) (v := vI a) rfl)
  refine WP_aload_n (z := 0) dX5_in_0 rfl ?_
  refine WP_iload_n (z := a) dX5_in_1 rfl ?_
  refine WP_pcallV (g := mX5_isMinute) (as := [vI a]) (rest := []) (n := 1) (r := vI (fX5_isMinute D a)) dX5_in_2 wm_353 mo_X5_isMinute rfl rfl rfl rfl ⟨Nat.le_of_ble_eq_true rfl, Nat.le_of_ble_eq_true rfl⟩ (Nat.le_of_ble_eq_true rfl) (P_X5_isMinute  trivial) ?_
  obtain ⟨o1, h⟩ := h
  refine WP_via (pc1 := 21) (ls1 := [vR 0, vI a]) (st1 := [vI (if (fX5_isMinute D a) = 0 then ((-2) : Int) else (fX0_whoIsIn D 9 a))]) (D1 := D) (fun hJ2 => ?_) ?_
  · refine WP_if_eq (tgt := 19) dX5_in_5 (by decide) (fun c3 => ?_) (fun c3 => ?_)
    · replace hJ2 := ite_t (P := fun v_ : Int => WP mX5_in Q 21 [vR 0, vI a] [vI v_] D) hJ2 c3
      have o4 := o1.1 c3
      refine WP_bipush (z := (-2)) dX5_in_19 rfl (by decide) ?_
      exact hJ2
    · replace hJ2 := ite_f (P := fun v_ : Int => WP mX5_in Q 21 [vR 0, vI a] [vI v_] D) hJ2 c3
      have o5 := o1.2 c3
      refine WP_aload_n (z := 0) dX5_in_8 rfl ?_
      refine WP_getR (z := 9) dX5_in_9 fl_RX5_22 rfl rfl rfl ?_
      refine WP_iload_n (z := a) dX5_in_12 rfl ?_
      refine WP_pcallV (g := mX0_whoIsIn) (as := [vI a]) (rest := []) (n := 1) (r := vI (fX0_whoIsIn D 9 a)) dX5_in_13 wm_500 mo_X0_whoIsIn rfl rfl rfl rfl ⟨Nat.le_of_ble_eq_true rfl, Nat.le_of_ble_eq_true rfl⟩ (Nat.le_of_ble_eq_true rfl) (P_X0_whoIsIn (by decide) o5) ?_
      refine WP_goto (tgt := 21) dX5_in_16 (by decide) ?_
      exact hJ2
  · exact WP_ireturn dX5_in_21 rfl h
set_option maxRecDepth 100000 in
set_option maxHeartbeats 4000000 in
theorem P_X5_in {a : Int} {D : HP} (hob : oX5_in D a) : CT mX5_in [vR 0, vI a] D (PF (vI (fX5_in D a)) D) := by
  refine V_X5_in a (fun hcD hc_0 => ?_)
  obtain ⟨z, hz⟩ : ∃ z, z = fX5_in D a := ⟨_, rfl⟩
  rw [← hz]
  unfold fX5_in at hz
  unfold oX5_in at hob
  refine ⟨hob.1, ?_⟩
  replace hob := hob.2
  exact ⟨by rw [hz], rfl⟩
def fX5_first (D : HP) (a : Int) : Int := if a < 0 then -2 else if 1 < a then -2 else (if fsN (fun m => decide (fX0_whoIsIn D 9 m ≠ -1)) (D 10 2).toNat = -1 then -1 else if a = 0 then fsN (fun m => decide (fX0_whoIsIn D 9 m ≠ -1)) (D 10 2).toNat else fX0_whoIsIn D 9 (fsN (fun m => decide (fX0_whoIsIn D 9 m ≠ -1)) (D 10 2).toNat))
def oX5_first (D : HP) (a : Int) : Prop := True
set_option maxRecDepth 100000 in
set_option maxHeartbeats 4000000 in
theorem V_X5_first (a : Int) {D : HP} {Q : Option MV → HP → Prop} (I14 : Int → Int → HP → Prop) (u14 : Int → Int → HP → Nat)
    (h0 : cD D → c32 a → ((a < 0 → (Q (some (vI (-2))) D)) ∧ (¬ (a < 0) → ((a ≤ 1 → (I14 a 0 D)) ∧ (¬ (a ≤ 1) → (Q (some (vI (-2))) D))))))
    (h14 : ∀ (x1 x2 : Int) (D : HP), I14 x1 x2 D → cD D → c32 x1 → c32 x2 → (((D 10 2) ≤ x2 → (Q (some (vI (-1))) D)) ∧ (¬ ((D 10 2) ≤ x2) → ((oX0_whoIsIn D 9 x2) ∧ (((fX0_whoIsIn D 9 x2) = (-1) → ((c32 (x2 + 1)) ∧ (I14 x1 (x2 + 1) D ∧ u14 x1 (x2 + 1) D < u14 x1 x2 D))) ∧ (¬ ((fX0_whoIsIn D 9 x2) = (-1)) → (Q (some (vI (if x1 = 0 then (x2 : Int) else (fX0_whoIsIn D 9 x2)))) D)))))))
    : CT mX5_first [vR 0, vI a] D Q := by
  refine CT.of 2 (by decide) (Nat.le_of_ble_eq_true rfl) ?_
  show WP mX5_first Q 0 [vR 0, vI a, vU, vU] [] D
  have IH : ∀ n : Nat, (∀ (x1 x2 : Int) (D : HP), I14 x1 x2 D → u14 x1 x2 D * 1 + 0 < n → WP mX5_first Q 14 [vR 0, vI x1, vI x2, vU] [] D) := by
    intro n
    induction n with
    | zero => exact fun _ _ _ _ h => absurd h (Nat.not_lt_zero _)
    | succ n ih =>
      have ih14_ := ih
      · intro x1 x2 D hI hn
        refine WP_cD (fun hcD => ?_)
        refine WP_cl (fun hcl => ?_)
        have h := h14 x1 x2 D hI hcD (cVs_g hcl (i := 1) (v := vI x1) rfl) (cVs_g hcl (i := 2) (v := vI x2) rfl)
        refine WP_iload_n (z := x2) dX5_first_14 rfl ?_
        refine WP_aload_n (z := 0) dX5_first_15 rfl ?_
        refine WP_getR (z := 9) dX5_first_16 fl_RX5_22 rfl rfl rfl ?_
        refine WP_getR (z := 10) dX5_first_19 fl_RX5_91 rfl rfl rfl ?_
        refine WP_getI dX5_first_22 fl_RX5_150 rfl rfl rfl ?_
        refine WP_icmp_ge (tgt := 58) dX5_first_25 (by decide) (fun c3 => ?_) (fun c3 => ?_)
        · replace h := h.1 c3
          refine WP_iconst (z := (-1)) dX5_first_58 rfl ⟨by decide, by decide⟩ ?_
          exact WP_ireturn dX5_first_59 rfl h
        · replace h := h.2 c3
          refine WP_aload_n (z := 0) dX5_first_28 rfl ?_
          refine WP_getR (z := 9) dX5_first_29 fl_RX5_22 rfl rfl rfl ?_
          refine WP_iload_n (z := x2) dX5_first_32 rfl ?_
          obtain ⟨o8, h⟩ := h
          refine WP_pcallV (g := mX0_whoIsIn) (as := [vI x2]) (rest := []) (n := 1) (r := vI (fX0_whoIsIn D 9 x2)) dX5_first_33 wm_500 mo_X0_whoIsIn rfl rfl rfl rfl ⟨Nat.le_of_ble_eq_true rfl, Nat.le_of_ble_eq_true rfl⟩ (Nat.le_of_ble_eq_true rfl) (P_X0_whoIsIn (by decide) o8) ?_
          refine WP_istore_n (ls1 := [vR 0, vI x1, vI x2, vI (fX0_whoIsIn D 9 x2)]) dX5_first_36 (by decide) rfl ?_
          refine WP_iload_n (z := (fX0_whoIsIn D 9 x2)) dX5_first_37 rfl ?_
          refine WP_iconst (z := (-1)) dX5_first_38 rfl ⟨by decide, by decide⟩ ?_
          refine WP_icmp_eq (tgt := 52) dX5_first_39 (by decide) (fun c4 => ?_) (fun c4 => ?_)
          · replace h := h.1 c4
            obtain ⟨o5, h⟩ := h
            refine WP_iinc (z := (x2 + 1)) (ls1 := [vR 0, vI x1, vI (x2 + 1), vI (fX0_whoIsIn D 9 x2)]) dX5_first_52 rfl (w32_id o5) (by decide) rfl ?_
            refine WP_goto (tgt := 14) dX5_first_55 (by decide) ?_
            refine WP_fg 3 (ls1 := [vR 0, vI x1, vI (x2 + 1), vU]) rfl ?_
            exact ih14_ _ _ _ h.1 (by have := h.2; omega)
          · replace h := h.2 c4
            refine WP_iload_n (z := x1) dX5_first_42 rfl ?_
            refine WP_via (pc1 := 51) (ls1 := [vR 0, vI x1, vI x2, vI (fX0_whoIsIn D 9 x2)]) (st1 := [vI (if x1 = 0 then (x2 : Int) else (fX0_whoIsIn D 9 x2))]) (D1 := D) (fun hJ6 => ?_) ?_
            · refine WP_if_ne (tgt := 50) dX5_first_43 (by decide) (fun c7 => ?_) (fun c7 => ?_)
              · replace hJ6 := ite_f (P := fun v_ : Int => WP mX5_first Q 51 [vR 0, vI x1, vI x2, vI (fX0_whoIsIn D 9 x2)] [vI v_] D) hJ6 c7
                refine WP_iload_n (z := (fX0_whoIsIn D 9 x2)) dX5_first_50 rfl ?_
                exact hJ6
              · replace hJ6 := ite_t (P := fun v_ : Int => WP mX5_first Q 51 [vR 0, vI x1, vI x2, vI (fX0_whoIsIn D 9 x2)] [vI v_] D) hJ6 c7
                refine WP_iload_n (z := x2) dX5_first_46 rfl ?_
                refine WP_goto (tgt := 51) dX5_first_47 (by decide) ?_
                exact hJ6
            · exact WP_ireturn dX5_first_51 rfl h
  have cut14_ : ∀ (x1 x2 : Int) (D : HP), I14 x1 x2 D → WP mX5_first Q 14 [vR 0, vI x1, vI x2, vU] [] D := fun x1 x2 D hI => (IH (u14 x1 x2 D * 1 + 0 + 1)) x1 x2 D hI (by omega)
  refine WP_cD (fun hcD => ?_)
  refine WP_cl (fun hcl => ?_)
  have h := h0 hcD (cVs_g hcl (i := 1) (v := vI a) rfl)
  refine WP_iload_n (z := a) dX5_first_0 rfl ?_
  refine WP_if_lt (tgt := 9) dX5_first_1 (by decide) (fun c1 => ?_) (fun c1 => ?_)
  · replace h := h.1 c1
    refine WP_bipush (z := (-2)) dX5_first_9 rfl (by decide) ?_
    exact WP_ireturn dX5_first_11 rfl h
  · replace h := h.2 c1
    refine WP_iload_n (z := a) dX5_first_4 rfl ?_
    refine WP_iconst (z := 1) dX5_first_5 rfl ⟨by decide, by decide⟩ ?_
    refine WP_icmp_le (tgt := 12) dX5_first_6 (by decide) (fun c2 => ?_) (fun c2 => ?_)
    · replace h := h.1 c2
      refine WP_iconst (z := 0) dX5_first_12 rfl ⟨by decide, by decide⟩ ?_
      refine WP_istore_n (ls1 := [vR 0, vI a, vI 0, vU]) dX5_first_13 (by decide) rfl ?_
      exact cut14_ _ _ _ h
    · replace h := h.2 c2
      refine WP_bipush (z := (-2)) dX5_first_9 rfl (by decide) ?_
      exact WP_ireturn dX5_first_11 rfl h
set_option maxRecDepth 100000 in
set_option maxHeartbeats 4000000 in
theorem P_X5_first {a : Int} {D : HP} (hob : oX5_first D a) : CT mX5_first [vR 0, vI a] D (PF (vI (fX5_first D a)) D) := by
  refine V_X5_first a (I14 := fun x1 x2 D' => D' = D ∧ x1 = a ∧ ¬ a < 0 ∧ ¬ 1 < a ∧ ∃ j : Nat, x2 = j ∧ j ≤ (D 10 2).toNat ∧ ∀ k, k < j → (fun m : Nat => decide (fX0_whoIsIn D 9 m ≠ -1)) k = false) (u14 := fun _ x2 D' => (D' 10 2 - x2).toNat) (fun _ _ => ⟨fun h => ⟨?_, rfl⟩, fun h => ⟨fun h1 => ⟨rfl, rfl, h, by omega, 0, rfl, Nat.zero_le _, fun k hk => absurd hk (Nat.not_lt_zero _)⟩, fun h1 => ⟨?_, rfl⟩⟩⟩) ?_
  · unfold fX5_first; rw [if_pos h]
  · unfold fX5_first; rw [if_neg h, if_pos (by omega)]
  rintro x1 x2 D' ⟨rfl, rfl, ha, hb, j, rfl, hj, hn⟩ hcD c1 c2
  have hm := cD_i hcD (k := 10) (i := 2) rfl
  refine ⟨fun hc => ⟨?_, rfl⟩, fun hc => ⟨oT_X0_whoIsIn _ _ _, fun h1 => ⟨?_, ⟨rfl, rfl, ha, hb, j + 1, by omega, by omega, ?_⟩, by omega⟩, fun h1 => ⟨?_, rfl⟩⟩⟩
  · have : j = (D' 10 2).toNat := by omega
    subst this
    unfold fX5_first
    rw [if_neg ha, if_neg hb, fsN_no hn, if_pos rfl]
  · unfold c32 at *; omega
  · intro k hk
    by_cases e : k = j
    · subst e
      simp [h1]
    · exact hn k (by omega)
  · unfold fX5_first
    rw [if_neg ha, if_neg hb, fsN_yes (j := j) hn (by simp [h1]) (by omega), if_neg (show ¬ ((j : Int) = -1) by omega)]

def fX5_lulls (D : HP)  : Int := (fX0_minutesBehindWhichIn D 9 (-1))
def oX5_lulls (D : HP)  : Prop := True
set_option maxRecDepth 100000 in
set_option maxHeartbeats 4000000 in
theorem V_X5_lulls  {D : HP} {Q : Option MV → HP → Prop}
    (h0 : cD D → (Q (some (vI (fX0_minutesBehindWhichIn D 9 (-1)))) D))
    : CT mX5_lulls [vR 0] D Q := by
  refine CT.of 0 (by decide) (Nat.le_of_ble_eq_true rfl) ?_
  show WP mX5_lulls Q 0 [vR 0] [] D
  refine WP_cD (fun hcD => ?_)
  have h := h0 hcD
  refine WP_aload_n (z := 0) dX5_lulls_0 rfl ?_
  refine WP_getR (z := 9) dX5_lulls_1 fl_RX5_22 rfl rfl rfl ?_
  refine WP_iconst (z := (-1)) dX5_lulls_4 rfl ⟨by decide, by decide⟩ ?_
  refine WP_pcallV (g := mX0_minutesBehindWhichIn) (as := [vI (-1)]) (rest := []) (n := 1) (r := vI (fX0_minutesBehindWhichIn D 9 (-1))) dX5_lulls_5 wm_480 mo_X0_minutesBehindWhichIn rfl rfl rfl rfl ⟨Nat.le_of_ble_eq_true rfl, Nat.le_of_ble_eq_true rfl⟩ (Nat.le_of_ble_eq_true rfl) (P_X0_minutesBehindWhichIn (by decide) trivial) ?_
  exact WP_ireturn dX5_lulls_8 rfl h
set_option maxRecDepth 100000 in
set_option maxHeartbeats 4000000 in
theorem P_X5_lulls  {D : HP} (hob : oX5_lulls D) : CT mX5_lulls [vR 0] D (PF (vI (fX5_lulls D)) D) := by
  refine V_X5_lulls  (fun hcD => ?_)
  obtain ⟨z, hz⟩ : ∃ z, z = fX5_lulls D := ⟨_, rfl⟩
  rw [← hz]
  unfold fX5_lulls at hz
  exact ⟨by rw [hz], rfl⟩
set_option maxRecDepth 100000 in
set_option maxHeartbeats 4000000 in
theorem V_X5_stand (a : Int) (b : Int) {D : HP} {Q : Option MV → HP → Prop} (I45 : Int → Int → Int → Int → Int → HP → Prop) (u45 : Int → Int → Int → Int → Int → HP → Nat)
    (h0 : cD D → c32 a → c32 b → (((fX5_isCandidate D a) = 0 → (Q (some (vI (-2))) D)) ∧ (¬ ((fX5_isCandidate D a) = 0) → ((b < 0 → (Q (some (vI (-2))) D)) ∧ (¬ (b < 0) → ((b ≤ 1 → (∃ Q4 : Option MV → HP → Prop, CT mX1_tellAs [vR 26, vR 10] D Q4 ∧ ∀ (D7 : HP), Q4 none D7 → cD D7 → (I45 a b (-1) (-1) 0 D7))) ∧ (¬ (b ≤ 1) → (Q (some (vI (-2))) D))))))))
    (h45 : ∀ (x1 x2 x3 x4 x5 : Int) (D : HP), I45 x1 x2 x3 x4 x5 D → cD D → c32 x1 → c32 x2 → c32 x3 → c32 x4 → c32 x5 → (((D 10 1) ≤ x5 → (Q (some (vI (if x2 = 0 then (x3 : Int) else x4))) D)) ∧ (¬ ((D 10 1) ≤ x5) → ((oX0_isFreeFor D 9 x1 x5) ∧ (((fX0_isFreeFor D 9 x1 x5) = 0 → ((c32 (x5 + 1)) ∧ (I45 x1 x2 x3 x4 (x5 + 1) D ∧ u45 x1 x2 x3 x4 (x5 + 1) D < u45 x1 x2 x3 x4 x5 D))) ∧ (¬ ((fX0_isFreeFor D 9 x1 x5) = 0) → ((0 ≤ x1 ∧ x1 < 8) ∧ (∀ (E16 : HP), E16 = (hu D 32 x1.toNat x5) → (∃ Q18 : Option MV → HP → Prop, CT mX0_runUntilTurned [vR 25, vI x1] E16 Q18 ∧ ∀ (r22 : Int) (D21 : HP), Q18 (some (vI r22)) D21 → c32 r22 → cD D21 → ((c32 (x5 + 1)) ∧ (I45 x1 x2 (if r22 = (-1) then (x3 : Int) else (if x4 = (-1) then (x5 : Int) else (if x4 ≤ r22 then (x3 : Int) else x5))) (if r22 = (-1) then (x4 : Int) else (if x4 = (-1) then (r22 : Int) else (if x4 ≤ r22 then (x4 : Int) else r22))) (x5 + 1) D21 ∧ u45 x1 x2 (if r22 = (-1) then (x3 : Int) else (if x4 = (-1) then (x5 : Int) else (if x4 ≤ r22 then (x3 : Int) else x5))) (if r22 = (-1) then (x4 : Int) else (if x4 = (-1) then (r22 : Int) else (if x4 ≤ r22 then (x4 : Int) else r22))) (x5 + 1) D21 < u45 x1 x2 x3 x4 x5 D)))))))))))
    : CT mX5_stand [vR 0, vI a, vI b] D Q := by
  refine CT.of 4 (by decide) (Nat.le_of_ble_eq_true rfl) ?_
  show WP mX5_stand Q 0 [vR 0, vI a, vI b, vU, vU, vU, vU] [] D
  have IH : ∀ n : Nat, (∀ (x1 x2 x3 x4 x5 : Int) (D : HP), I45 x1 x2 x3 x4 x5 D → u45 x1 x2 x3 x4 x5 D * 1 + 0 < n → WP mX5_stand Q 45 [vR 0, vI x1, vI x2, vI x3, vI x4, vI x5, vU] [] D) := by
    intro n
    induction n with
    | zero => exact fun _ _ _ _ _ _ _ h => absurd h (Nat.not_lt_zero _)
    | succ n ih =>
      have ih45_ := ih
      · intro x1 x2 x3 x4 x5 D hI hn
        refine WP_cD (fun hcD => ?_)
        refine WP_cl (fun hcl => ?_)
        have h := h45 x1 x2 x3 x4 x5 D hI hcD (cVs_g hcl (i := 1) (v := vI x1) rfl) (cVs_g hcl (i := 2) (v := vI x2) rfl) (cVs_g hcl (i := 3) (v := vI x3) rfl) (cVs_g hcl (i := 4) (v := vI x4) rfl) (cVs_g hcl (i := 5) (v := vI x5) rfl)
        refine WP_iload (z := x5) dX5_stand_45 rfl ?_
        refine WP_aload_n (z := 0) dX5_stand_47 rfl ?_
        refine WP_getR (z := 9) dX5_stand_48 fl_RX5_22 rfl rfl rfl ?_
        refine WP_getR (z := 10) dX5_stand_51 fl_RX5_91 rfl rfl rfl ?_
        refine WP_getI dX5_stand_54 fl_RX5_157 rfl rfl rfl ?_
        refine WP_icmp_ge (tgt := 132) dX5_stand_57 (by decide) (fun c11 => ?_) (fun c11 => ?_)
        · replace h := h.1 c11
          refine WP_iload_n (z := x2) dX5_stand_132 rfl ?_
          refine WP_via (pc1 := 142) (ls1 := [vR 0, vI x1, vI x2, vI x3, vI x4, vI x5, vU]) (st1 := [vI (if x2 = 0 then (x3 : Int) else x4)]) (D1 := D) (fun hJ12 => ?_) ?_
          · refine WP_if_ne (tgt := 140) dX5_stand_133 (by decide) (fun c13 => ?_) (fun c13 => ?_)
            · replace hJ12 := ite_f (P := fun v_ : Int => WP mX5_stand Q 142 [vR 0, vI x1, vI x2, vI x3, vI x4, vI x5, vU] [vI v_] D) hJ12 c13
              refine WP_iload (z := x4) dX5_stand_140 rfl ?_
              exact hJ12
            · replace hJ12 := ite_t (P := fun v_ : Int => WP mX5_stand Q 142 [vR 0, vI x1, vI x2, vI x3, vI x4, vI x5, vU] [vI v_] D) hJ12 c13
              refine WP_iload_n (z := x3) dX5_stand_136 rfl ?_
              refine WP_goto (tgt := 142) dX5_stand_137 (by decide) ?_
              exact hJ12
          · exact WP_ireturn dX5_stand_142 rfl h
        · replace h := h.2 c11
          refine WP_aload_n (z := 0) dX5_stand_60 rfl ?_
          refine WP_getR (z := 9) dX5_stand_61 fl_RX5_22 rfl rfl rfl ?_
          refine WP_iload_n (z := x1) dX5_stand_64 rfl ?_
          refine WP_iload (z := x5) dX5_stand_65 rfl ?_
          obtain ⟨o33, h⟩ := h
          refine WP_pcallV (g := mX0_isFreeFor) (as := [vI x1, vI x5]) (rest := []) (n := 2) (r := vI (fX0_isFreeFor D 9 x1 x5)) dX5_stand_67 wm_546 mo_X0_isFreeFor rfl rfl rfl rfl ⟨Nat.le_of_ble_eq_true rfl, Nat.le_of_ble_eq_true rfl⟩ (Nat.le_of_ble_eq_true rfl) (P_X0_isFreeFor (by decide) o33) ?_
          refine WP_if_ne (tgt := 76) dX5_stand_70 (by decide) (fun c14 => ?_) (fun c14 => ?_)
          · replace h := h.2 c14
            refine WP_aload_n (z := 0) dX5_stand_76 rfl ?_
            refine WP_getR (z := 25) dX5_stand_77 fl_RX5_26 rfl rfl rfl ?_
            refine WP_getR (z := 26) dX5_stand_80 fl_RX5_91 rfl rfl rfl ?_
            refine WP_getR (z := 32) dX5_stand_83 fl_RX5_115 rfl rfl rfl ?_
            refine WP_iload_n (z := x1) dX5_stand_86 rfl ?_
            refine WP_iload (z := x5) dX5_stand_87 rfl ?_
            obtain ⟨o32, h⟩ := h
            refine WP_iast dX5_stand_89 rfl o32.1 o32.2 ?_
            obtain ⟨E16, hE17⟩ : ∃ E16 : HP, E16 = (hu D 32 x1.toNat x5) := ⟨_, rfl⟩
            replace h := h E16 hE17
            show WP mX5_stand Q 90 [vR 0, vI x1, vI x2, vI x3, vI x4, vI x5, vU] [] (hu D 32 x1.toNat x5)
            rw [← hE17]
            refine WP_aload_n (z := 0) dX5_stand_90 rfl ?_
            refine WP_getR (z := 25) dX5_stand_91 fl_RX5_26 rfl rfl rfl ?_
            refine WP_iload_n (z := x1) dX5_stand_94 rfl ?_
            obtain ⟨Q18, ct20, h⟩ := h
            refine WP_callV (g := mX0_runUntilTurned) (as := [vI x1]) (rest := []) (n := 1) dX5_stand_95 wm_550 mo_X0_runUntilTurned rfl rfl rfl rfl ⟨Nat.le_of_ble_eq_true rfl, Nat.le_of_ble_eq_true rfl⟩ (Nat.le_of_ble_eq_true rfl) ct20 (fun r_ D21 hq19 hok hD24 => ?_)
            obtain ⟨r22, rfl, hr23⟩ := hok
            replace h := h r22 D21 hq19 hr23 hD24
            show WP mX5_stand Q 98 [vR 0, vI x1, vI x2, vI x3, vI x4, vI x5, vU] [vI r22] D21
            refine WP_istore (ls1 := [vR 0, vI x1, vI x2, vI x3, vI x4, vI x5, vI r22]) dX5_stand_98 (by decide) rfl ?_
            refine WP_iload (z := r22) dX5_stand_100 rfl ?_
            refine WP_iconst (z := (-1)) dX5_stand_102 rfl ⟨by decide, by decide⟩ ?_
            refine WP_via (pc1 := 126) (ls1 := [vR 0, vI x1, vI x2, vI (if r22 = (-1) then (x3 : Int) else (if x4 = (-1) then (x5 : Int) else (if x4 ≤ r22 then (x3 : Int) else x5))), vI (if r22 = (-1) then (x4 : Int) else (if x4 = (-1) then (r22 : Int) else (if x4 ≤ r22 then (x4 : Int) else r22))), vI x5, vI r22]) (st1 := []) (D1 := D21) (fun hJ26 => ?_) ?_
            · refine WP_icmp_eq (tgt := 126) dX5_stand_103 (by decide) (fun c27 => ?_) (fun c27 => ?_)
              · replace hJ26 := ite_t (P := fun v_ : Int => WP mX5_stand Q 126 [vR 0, vI x1, vI x2, vI v_, vI (if r22 = (-1) then (x4 : Int) else (if x4 = (-1) then (r22 : Int) else (if x4 ≤ r22 then (x4 : Int) else r22))), vI x5, vI r22] [] D21) hJ26 c27
                replace hJ26 := ite_t (P := fun v_ : Int => WP mX5_stand Q 126 [vR 0, vI x1, vI x2, vI x3, vI v_, vI x5, vI r22] [] D21) hJ26 c27
                exact hJ26
              · replace hJ26 := ite_f (P := fun v_ : Int => WP mX5_stand Q 126 [vR 0, vI x1, vI x2, vI v_, vI (if r22 = (-1) then (x4 : Int) else (if x4 = (-1) then (r22 : Int) else (if x4 ≤ r22 then (x4 : Int) else r22))), vI x5, vI r22] [] D21) hJ26 c27
                replace hJ26 := ite_f (P := fun v_ : Int => WP mX5_stand Q 126 [vR 0, vI x1, vI x2, vI (if x4 = (-1) then (x5 : Int) else (if x4 ≤ r22 then (x3 : Int) else x5)), vI v_, vI x5, vI r22] [] D21) hJ26 c27
                refine WP_iload (z := x4) dX5_stand_106 rfl ?_
                refine WP_iconst (z := (-1)) dX5_stand_108 rfl ⟨by decide, by decide⟩ ?_
                refine WP_via (pc1 := 126) (ls1 := [vR 0, vI x1, vI x2, vI (if x4 = (-1) then (x5 : Int) else (if x4 ≤ r22 then (x3 : Int) else x5)), vI (if x4 = (-1) then (r22 : Int) else (if x4 ≤ r22 then (x4 : Int) else r22)), vI x5, vI r22]) (st1 := []) (D1 := D21) (fun hJ28 => ?_) ?_
                · refine WP_icmp_eq (tgt := 119) dX5_stand_109 (by decide) (fun c29 => ?_) (fun c29 => ?_)
                  · replace hJ28 := ite_t (P := fun v_ : Int => WP mX5_stand Q 126 [vR 0, vI x1, vI x2, vI v_, vI (if x4 = (-1) then (r22 : Int) else (if x4 ≤ r22 then (x4 : Int) else r22)), vI x5, vI r22] [] D21) hJ28 c29
                    replace hJ28 := ite_t (P := fun v_ : Int => WP mX5_stand Q 126 [vR 0, vI x1, vI x2, vI x5, vI v_, vI x5, vI r22] [] D21) hJ28 c29
                    refine WP_iload (z := r22) dX5_stand_119 rfl ?_
                    refine WP_istore (ls1 := [vR 0, vI x1, vI x2, vI x3, vI r22, vI x5, vI r22]) dX5_stand_121 (by decide) rfl ?_
                    refine WP_iload (z := x5) dX5_stand_123 rfl ?_
                    refine WP_istore_n (ls1 := [vR 0, vI x1, vI x2, vI x5, vI r22, vI x5, vI r22]) dX5_stand_125 (by decide) rfl ?_
                    exact hJ28
                  · replace hJ28 := ite_f (P := fun v_ : Int => WP mX5_stand Q 126 [vR 0, vI x1, vI x2, vI v_, vI (if x4 = (-1) then (r22 : Int) else (if x4 ≤ r22 then (x4 : Int) else r22)), vI x5, vI r22] [] D21) hJ28 c29
                    replace hJ28 := ite_f (P := fun v_ : Int => WP mX5_stand Q 126 [vR 0, vI x1, vI x2, vI (if x4 ≤ r22 then (x3 : Int) else x5), vI v_, vI x5, vI r22] [] D21) hJ28 c29
                    refine WP_iload (z := r22) dX5_stand_112 rfl ?_
                    refine WP_iload (z := x4) dX5_stand_114 rfl ?_
                    refine WP_via (pc1 := 126) (ls1 := [vR 0, vI x1, vI x2, vI (if x4 ≤ r22 then (x3 : Int) else x5), vI (if x4 ≤ r22 then (x4 : Int) else r22), vI x5, vI r22]) (st1 := []) (D1 := D21) (fun hJ30 => ?_) ?_
                    · refine WP_icmp_ge (tgt := 126) dX5_stand_116 (by decide) (fun c31 => ?_) (fun c31 => ?_)
                      · replace hJ30 := ite_t (P := fun v_ : Int => WP mX5_stand Q 126 [vR 0, vI x1, vI x2, vI v_, vI (if x4 ≤ r22 then (x4 : Int) else r22), vI x5, vI r22] [] D21) hJ30 c31
                        replace hJ30 := ite_t (P := fun v_ : Int => WP mX5_stand Q 126 [vR 0, vI x1, vI x2, vI x3, vI v_, vI x5, vI r22] [] D21) hJ30 c31
                        exact hJ30
                      · replace hJ30 := ite_f (P := fun v_ : Int => WP mX5_stand Q 126 [vR 0, vI x1, vI x2, vI v_, vI (if x4 ≤ r22 then (x4 : Int) else r22), vI x5, vI r22] [] D21) hJ30 c31
                        replace hJ30 := ite_f (P := fun v_ : Int => WP mX5_stand Q 126 [vR 0, vI x1, vI x2, vI x5, vI v_, vI x5, vI r22] [] D21) hJ30 c31
                        refine WP_iload (z := r22) dX5_stand_119 rfl ?_
                        refine WP_istore (ls1 := [vR 0, vI x1, vI x2, vI x3, vI r22, vI x5, vI r22]) dX5_stand_121 (by decide) rfl ?_
                        refine WP_iload (z := x5) dX5_stand_123 rfl ?_
                        refine WP_istore_n (ls1 := [vR 0, vI x1, vI x2, vI x5, vI r22, vI x5, vI r22]) dX5_stand_125 (by decide) rfl ?_
                        exact hJ30
                    exact hJ28
                exact hJ26
            · obtain ⟨o25, h⟩ := h
              refine WP_iinc (z := (x5 + 1)) (ls1 := [vR 0, vI x1, vI x2, vI (if r22 = (-1) then (x3 : Int) else (if x4 = (-1) then (x5 : Int) else (if x4 ≤ r22 then (x3 : Int) else x5))), vI (if r22 = (-1) then (x4 : Int) else (if x4 = (-1) then (r22 : Int) else (if x4 ≤ r22 then (x4 : Int) else r22))), vI (x5 + 1), vI r22]) dX5_stand_126 rfl (w32_id o25) (by decide) rfl ?_
              refine WP_goto (tgt := 45) dX5_stand_129 (by decide) ?_
              refine WP_fg 6 (ls1 := [vR 0, vI x1, vI x2, vI (if r22 = (-1) then (x3 : Int) else (if x4 = (-1) then (x5 : Int) else (if x4 ≤ r22 then (x3 : Int) else x5))), vI (if r22 = (-1) then (x4 : Int) else (if x4 = (-1) then (r22 : Int) else (if x4 ≤ r22 then (x4 : Int) else r22))), vI (x5 + 1), vU]) rfl ?_
              exact ih45_ _ _ _ _ _ _ h.1 (by have := h.2; omega)
          · replace h := h.1 c14
            refine WP_goto (tgt := 126) dX5_stand_73 (by decide) ?_
            obtain ⟨o15, h⟩ := h
            refine WP_iinc (z := (x5 + 1)) (ls1 := [vR 0, vI x1, vI x2, vI x3, vI x4, vI (x5 + 1), vU]) dX5_stand_126 rfl (w32_id o15) (by decide) rfl ?_
            refine WP_goto (tgt := 45) dX5_stand_129 (by decide) ?_
            exact ih45_ _ _ _ _ _ _ h.1 (by have := h.2; omega)
  have cut45_ : ∀ (x1 x2 x3 x4 x5 : Int) (D : HP), I45 x1 x2 x3 x4 x5 D → WP mX5_stand Q 45 [vR 0, vI x1, vI x2, vI x3, vI x4, vI x5, vU] [] D := fun x1 x2 x3 x4 x5 D hI => (IH (u45 x1 x2 x3 x4 x5 D * 1 + 0 + 1)) x1 x2 x3 x4 x5 D hI (by omega)
  refine WP_cD (fun hcD => ?_)
  refine WP_cl (fun hcl => ?_)
  have h := h0 hcD (cVs_g hcl (i := 1) (v := vI a) rfl) (cVs_g hcl (i := 2) (v := vI b) rfl)
  refine WP_aload_n (z := 0) dX5_stand_0 rfl ?_
  refine WP_iload_n (z := a) dX5_stand_1 rfl ?_
  refine WP_pcallV (g := mX5_isCandidate) (as := [vI a]) (rest := []) (n := 1) (r := vI (fX5_isCandidate D a)) dX5_stand_2 wm_373 mo_X5_isCandidate rfl rfl rfl rfl ⟨Nat.le_of_ble_eq_true rfl, Nat.le_of_ble_eq_true rfl⟩ (Nat.le_of_ble_eq_true rfl) (P_X5_isCandidate  trivial) ?_
  refine WP_if_eq (tgt := 17) dX5_stand_5 (by decide) (fun c1 => ?_) (fun c1 => ?_)
  · replace h := h.1 c1
    refine WP_bipush (z := (-2)) dX5_stand_17 rfl (by decide) ?_
    exact WP_ireturn dX5_stand_19 rfl h
  · replace h := h.2 c1
    refine WP_iload_n (z := b) dX5_stand_8 rfl ?_
    refine WP_if_lt (tgt := 17) dX5_stand_9 (by decide) (fun c2 => ?_) (fun c2 => ?_)
    · replace h := h.1 c2
      refine WP_bipush (z := (-2)) dX5_stand_17 rfl (by decide) ?_
      exact WP_ireturn dX5_stand_19 rfl h
    · replace h := h.2 c2
      refine WP_iload_n (z := b) dX5_stand_12 rfl ?_
      refine WP_iconst (z := 1) dX5_stand_13 rfl ⟨by decide, by decide⟩ ?_
      refine WP_icmp_le (tgt := 20) dX5_stand_14 (by decide) (fun c3 => ?_) (fun c3 => ?_)
      · replace h := h.1 c3
        refine WP_aload_n (z := 0) dX5_stand_20 rfl ?_
        refine WP_getR (z := 25) dX5_stand_21 fl_RX5_26 rfl rfl rfl ?_
        refine WP_getR (z := 26) dX5_stand_24 fl_RX5_91 rfl rfl rfl ?_
        refine WP_aload_n (z := 0) dX5_stand_27 rfl ?_
        refine WP_getR (z := 9) dX5_stand_28 fl_RX5_22 rfl rfl rfl ?_
        refine WP_getR (z := 10) dX5_stand_31 fl_RX5_91 rfl rfl rfl ?_
        obtain ⟨Q4, ct6, h⟩ := h
        refine WP_callV (g := mX1_tellAs) (as := [vR 10]) (rest := []) (n := 1) dX5_stand_34 wm_538 mo_X1_tellAs rfl rfl rfl rfl ⟨Nat.le_of_ble_eq_true rfl, Nat.le_of_ble_eq_true rfl⟩ (Nat.le_of_ble_eq_true rfl) ct6 (fun r_ D7 hq5 hok hD10 => ?_)
        obtain rfl := hok
        replace h := h D7 hq5 hD10
        show WP mX5_stand Q 37 [vR 0, vI a, vI b, vU, vU, vU, vU] [] D7
        refine WP_iconst (z := (-1)) dX5_stand_37 rfl ⟨by decide, by decide⟩ ?_
        refine WP_istore_n (ls1 := [vR 0, vI a, vI b, vI (-1), vU, vU, vU]) dX5_stand_38 (by decide) rfl ?_
        refine WP_iconst (z := (-1)) dX5_stand_39 rfl ⟨by decide, by decide⟩ ?_
        refine WP_istore (ls1 := [vR 0, vI a, vI b, vI (-1), vI (-1), vU, vU]) dX5_stand_40 (by decide) rfl ?_
        refine WP_iconst (z := 0) dX5_stand_42 rfl ⟨by decide, by decide⟩ ?_
        refine WP_istore (ls1 := [vR 0, vI a, vI b, vI (-1), vI (-1), vI 0, vU]) dX5_stand_43 (by decide) rfl ?_
        exact cut45_ _ _ _ _ _ _ h
      · replace h := h.2 c3
        refine WP_bipush (z := (-2)) dX5_stand_17 rfl (by decide) ?_
        exact WP_ireturn dX5_stand_19 rfl h
set_option maxRecDepth 100000 in
set_option maxHeartbeats 4000000 in
theorem V_X5_placeToShield (a : Int) (b : Int) {D : HP} {Q : Option MV → HP → Prop} (I19 : Int → Int → Int → HP → Prop) (u19 : Int → Int → Int → HP → Nat)
    (h0 : cD D → c32 a → c32 b → (∃ Q1 : Option MV → HP → Prop, CT mX1_tellAs [vR 26, vR 10] D Q1 ∧ ∀ (D4 : HP), Q1 none D4 → cD D4 → (I19 a b 0 D4)))
    (h19 : ∀ (x1 x2 x3 : Int) (D : HP), I19 x1 x2 x3 D → cD D → c32 x1 → c32 x2 → c32 x3 → (((D 10 1) ≤ x3 → (Q (some (vI (-1))) D)) ∧ (¬ ((D 10 1) ≤ x3) → ((oX0_isFree D 9 x3) ∧ (((fX0_isFree D 9 x3) = 0 → ((c32 (x3 + 1)) ∧ (I19 x1 x2 (x3 + 1) D ∧ u19 x1 x2 (x3 + 1) D < u19 x1 x2 x3 D))) ∧ (¬ ((fX0_isFree D 9 x3) = 0) → ((0 ≤ x2 ∧ x2 < 8) ∧ (∀ (E11 : HP), E11 = (hu D 32 x2.toNat x3) → (∃ Q13 : Option MV → HP → Prop, CT mX0_runUntilTurned [vR 25, vI x1] E11 Q13 ∧ ∀ (r17 : Int) (D16 : HP), Q13 (some (vI r17)) D16 → c32 r17 → cD D16 → ((r17 = (-1) → (Q (some (vI x3)) D16)) ∧ (¬ (r17 = (-1)) → ((c32 (x3 + 1)) ∧ (I19 x1 x2 (x3 + 1) D16 ∧ u19 x1 x2 (x3 + 1) D16 < u19 x1 x2 x3 D)))))))))))))
    : CT mX5_placeToShield [vR 0, vI a, vI b] D Q := by
  refine CT.of 1 (by decide) (Nat.le_of_ble_eq_true rfl) ?_
  show WP mX5_placeToShield Q 0 [vR 0, vI a, vI b, vU] [] D
  have IH : ∀ n : Nat, (∀ (x1 x2 x3 : Int) (D : HP), I19 x1 x2 x3 D → u19 x1 x2 x3 D * 1 + 0 < n → WP mX5_placeToShield Q 19 [vR 0, vI x1, vI x2, vI x3] [] D) := by
    intro n
    induction n with
    | zero => exact fun _ _ _ _ _ h => absurd h (Nat.not_lt_zero _)
    | succ n ih =>
      have ih19_ := ih
      · intro x1 x2 x3 D hI hn
        refine WP_cD (fun hcD => ?_)
        refine WP_cl (fun hcl => ?_)
        have h := h19 x1 x2 x3 D hI hcD (cVs_g hcl (i := 1) (v := vI x1) rfl) (cVs_g hcl (i := 2) (v := vI x2) rfl) (cVs_g hcl (i := 3) (v := vI x3) rfl)
        refine WP_iload_n (z := x3) dX5_placeToShield_19 rfl ?_
        refine WP_aload_n (z := 0) dX5_placeToShield_20 rfl ?_
        refine WP_getR (z := 9) dX5_placeToShield_21 fl_RX5_22 rfl rfl rfl ?_
        refine WP_getR (z := 10) dX5_placeToShield_24 fl_RX5_91 rfl rfl rfl ?_
        refine WP_getI dX5_placeToShield_27 fl_RX5_157 rfl rfl rfl ?_
        refine WP_icmp_ge (tgt := 80) dX5_placeToShield_30 (by decide) (fun c8 => ?_) (fun c8 => ?_)
        · replace h := h.1 c8
          refine WP_iconst (z := (-1)) dX5_placeToShield_80 rfl ⟨by decide, by decide⟩ ?_
          exact WP_ireturn dX5_placeToShield_81 rfl h
        · replace h := h.2 c8
          refine WP_aload_n (z := 0) dX5_placeToShield_33 rfl ?_
          refine WP_getR (z := 9) dX5_placeToShield_34 fl_RX5_22 rfl rfl rfl ?_
          refine WP_iload_n (z := x3) dX5_placeToShield_37 rfl ?_
          obtain ⟨o23, h⟩ := h
          refine WP_pcallV (g := mX0_isFree) (as := [vI x3]) (rest := []) (n := 1) (r := vI (fX0_isFree D 9 x3)) dX5_placeToShield_38 wm_574 mo_X0_isFree rfl rfl rfl rfl ⟨Nat.le_of_ble_eq_true rfl, Nat.le_of_ble_eq_true rfl⟩ (Nat.le_of_ble_eq_true rfl) (P_X0_isFree (by decide) o23) ?_
          refine WP_if_ne (tgt := 47) dX5_placeToShield_41 (by decide) (fun c9 => ?_) (fun c9 => ?_)
          · replace h := h.2 c9
            refine WP_aload_n (z := 0) dX5_placeToShield_47 rfl ?_
            refine WP_getR (z := 25) dX5_placeToShield_48 fl_RX5_26 rfl rfl rfl ?_
            refine WP_getR (z := 26) dX5_placeToShield_51 fl_RX5_91 rfl rfl rfl ?_
            refine WP_getR (z := 32) dX5_placeToShield_54 fl_RX5_115 rfl rfl rfl ?_
            refine WP_iload_n (z := x2) dX5_placeToShield_57 rfl ?_
            refine WP_iload_n (z := x3) dX5_placeToShield_58 rfl ?_
            obtain ⟨o22, h⟩ := h
            refine WP_iast dX5_placeToShield_59 rfl o22.1 o22.2 ?_
            obtain ⟨E11, hE12⟩ : ∃ E11 : HP, E11 = (hu D 32 x2.toNat x3) := ⟨_, rfl⟩
            replace h := h E11 hE12
            show WP mX5_placeToShield Q 60 [vR 0, vI x1, vI x2, vI x3] [] (hu D 32 x2.toNat x3)
            rw [← hE12]
            refine WP_aload_n (z := 0) dX5_placeToShield_60 rfl ?_
            refine WP_getR (z := 25) dX5_placeToShield_61 fl_RX5_26 rfl rfl rfl ?_
            refine WP_iload_n (z := x1) dX5_placeToShield_64 rfl ?_
            obtain ⟨Q13, ct15, h⟩ := h
            refine WP_callV (g := mX0_runUntilTurned) (as := [vI x1]) (rest := []) (n := 1) dX5_placeToShield_65 wm_550 mo_X0_runUntilTurned rfl rfl rfl rfl ⟨Nat.le_of_ble_eq_true rfl, Nat.le_of_ble_eq_true rfl⟩ (Nat.le_of_ble_eq_true rfl) ct15 (fun r_ D16 hq14 hok hD19 => ?_)
            obtain ⟨r17, rfl, hr18⟩ := hok
            replace h := h r17 D16 hq14 hr18 hD19
            show WP mX5_placeToShield Q 68 [vR 0, vI x1, vI x2, vI x3] [vI r17] D16
            refine WP_iconst (z := (-1)) dX5_placeToShield_68 rfl ⟨by decide, by decide⟩ ?_
            refine WP_icmp_ne (tgt := 74) dX5_placeToShield_69 (by decide) (fun c20 => ?_) (fun c20 => ?_)
            · replace h := h.2 c20
              obtain ⟨o21, h⟩ := h
              refine WP_iinc (z := (x3 + 1)) (ls1 := [vR 0, vI x1, vI x2, vI (x3 + 1)]) dX5_placeToShield_74 rfl (w32_id o21) (by decide) rfl ?_
              refine WP_goto (tgt := 19) dX5_placeToShield_77 (by decide) ?_
              exact ih19_ _ _ _ _ h.1 (by have := h.2; omega)
            · replace h := h.1 c20
              refine WP_iload_n (z := x3) dX5_placeToShield_72 rfl ?_
              exact WP_ireturn dX5_placeToShield_73 rfl h
          · replace h := h.1 c9
            refine WP_goto (tgt := 74) dX5_placeToShield_44 (by decide) ?_
            obtain ⟨o10, h⟩ := h
            refine WP_iinc (z := (x3 + 1)) (ls1 := [vR 0, vI x1, vI x2, vI (x3 + 1)]) dX5_placeToShield_74 rfl (w32_id o10) (by decide) rfl ?_
            refine WP_goto (tgt := 19) dX5_placeToShield_77 (by decide) ?_
            exact ih19_ _ _ _ _ h.1 (by have := h.2; omega)
  have cut19_ : ∀ (x1 x2 x3 : Int) (D : HP), I19 x1 x2 x3 D → WP mX5_placeToShield Q 19 [vR 0, vI x1, vI x2, vI x3] [] D := fun x1 x2 x3 D hI => (IH (u19 x1 x2 x3 D * 1 + 0 + 1)) x1 x2 x3 D hI (by omega)
  refine WP_cD (fun hcD => ?_)
  refine WP_cl (fun hcl => ?_)
  have h := h0 hcD (cVs_g hcl (i := 1) (v := vI a) rfl) (cVs_g hcl (i := 2) (v := vI b) rfl)
  refine WP_aload_n (z := 0) dX5_placeToShield_0 rfl ?_
  refine WP_getR (z := 25) dX5_placeToShield_1 fl_RX5_26 rfl rfl rfl ?_
  refine WP_getR (z := 26) dX5_placeToShield_4 fl_RX5_91 rfl rfl rfl ?_
  refine WP_aload_n (z := 0) dX5_placeToShield_7 rfl ?_
  refine WP_getR (z := 9) dX5_placeToShield_8 fl_RX5_22 rfl rfl rfl ?_
  refine WP_getR (z := 10) dX5_placeToShield_11 fl_RX5_91 rfl rfl rfl ?_
  obtain ⟨Q1, ct3, h⟩ := h
  refine WP_callV (g := mX1_tellAs) (as := [vR 10]) (rest := []) (n := 1) dX5_placeToShield_14 wm_538 mo_X1_tellAs rfl rfl rfl rfl ⟨Nat.le_of_ble_eq_true rfl, Nat.le_of_ble_eq_true rfl⟩ (Nat.le_of_ble_eq_true rfl) ct3 (fun r_ D4 hq2 hok hD7 => ?_)
  obtain rfl := hok
  replace h := h D4 hq2 hD7
  show WP mX5_placeToShield Q 17 [vR 0, vI a, vI b, vU] [] D4
  refine WP_iconst (z := 0) dX5_placeToShield_17 rfl ⟨by decide, by decide⟩ ?_
  refine WP_istore_n (ls1 := [vR 0, vI a, vI b, vI 0]) dX5_placeToShield_18 (by decide) rfl ?_
  exact cut19_ _ _ _ _ h
set_option maxRecDepth 100000 in
set_option maxHeartbeats 4000000 in
theorem V_X5_shield (a : Int) {D : HP} {Q : Option MV → HP → Prop} (I28 : Int → Int → HP → Prop) (u28 : Int → Int → HP → Nat)
    (h0 : cD D → c32 a → (((fX5_isCandidate D a) = 0 → (Q (some (vI (-2))) D)) ∧ (¬ ((fX5_isCandidate D a) = 0) → (((fX0_turnsWhen D 9 a) = (-1) → (Q (some (vI (-3))) D)) ∧ (¬ ((fX0_turnsWhen D 9 a) = (-1)) → (I28 a 0 D))))))
    (h28 : ∀ (x1 x2 : Int) (D : HP), I28 x1 x2 D → cD D → c32 x1 → c32 x2 → (((D 10 3) ≤ x2 → (Q (some (vI (-1))) D)) ∧ (¬ ((D 10 3) ≤ x2) → ((x2 = x1 → ((c32 (x2 + 1)) ∧ (I28 x1 (x2 + 1) D ∧ u28 x1 (x2 + 1) D < u28 x1 x2 D))) ∧ (¬ (x2 = x1) → (∃ Q7 : Option MV → HP → Prop, CT mX5_placeToShield [vR 0, vI x1, vI x2] D Q7 ∧ ∀ (r11 : Int) (D10 : HP), Q7 (some (vI r11)) D10 → c32 r11 → cD D10 → ((r11 = (-1) → ((c32 (x2 + 1)) ∧ (I28 x1 (x2 + 1) D10 ∧ u28 x1 (x2 + 1) D10 < u28 x1 x2 D))) ∧ (¬ (r11 = (-1)) → ((c32 (32 * x2)) ∧ ((c32 ((32 * x2) + r11)) ∧ (Q (some (vI ((32 * x2) + r11))) D10)))))))))))
    : CT mX5_shield [vR 0, vI a] D Q := by
  refine CT.of 2 (by decide) (Nat.le_of_ble_eq_true rfl) ?_
  show WP mX5_shield Q 0 [vR 0, vI a, vU, vU] [] D
  have IH : ∀ n : Nat, (∀ (x1 x2 : Int) (D : HP), I28 x1 x2 D → u28 x1 x2 D * 1 + 0 < n → WP mX5_shield Q 28 [vR 0, vI x1, vI x2, vU] [] D) := by
    intro n
    induction n with
    | zero => exact fun _ _ _ _ h => absurd h (Nat.not_lt_zero _)
    | succ n ih =>
      have ih28_ := ih
      · intro x1 x2 D hI hn
        refine WP_cD (fun hcD => ?_)
        refine WP_cl (fun hcl => ?_)
        have h := h28 x1 x2 D hI hcD (cVs_g hcl (i := 1) (v := vI x1) rfl) (cVs_g hcl (i := 2) (v := vI x2) rfl)
        refine WP_iload_n (z := x2) dX5_shield_28 rfl ?_
        refine WP_aload_n (z := 0) dX5_shield_29 rfl ?_
        refine WP_getR (z := 9) dX5_shield_30 fl_RX5_22 rfl rfl rfl ?_
        refine WP_getR (z := 10) dX5_shield_33 fl_RX5_91 rfl rfl rfl ?_
        refine WP_getI dX5_shield_36 fl_RX5_167 rfl rfl rfl ?_
        refine WP_icmp_ge (tgt := 76) dX5_shield_39 (by decide) (fun c3 => ?_) (fun c3 => ?_)
        · replace h := h.1 c3
          refine WP_iconst (z := (-1)) dX5_shield_76 rfl ⟨by decide, by decide⟩ ?_
          exact WP_ireturn dX5_shield_77 rfl h
        · replace h := h.2 c3
          refine WP_iload_n (z := x2) dX5_shield_42 rfl ?_
          refine WP_iload_n (z := x1) dX5_shield_43 rfl ?_
          refine WP_icmp_ne (tgt := 51) dX5_shield_44 (by decide) (fun c4 => ?_) (fun c4 => ?_)
          · replace h := h.2 c4
            refine WP_aload_n (z := 0) dX5_shield_51 rfl ?_
            refine WP_iload_n (z := x1) dX5_shield_52 rfl ?_
            refine WP_iload_n (z := x2) dX5_shield_53 rfl ?_
            obtain ⟨Q7, ct9, h⟩ := h
            refine WP_callV (g := mX5_placeToShield) (as := [vI x1, vI x2]) (rest := []) (n := 2) dX5_shield_54 wm_570 mo_X5_placeToShield rfl rfl rfl rfl ⟨Nat.le_of_ble_eq_true rfl, Nat.le_of_ble_eq_true rfl⟩ (Nat.le_of_ble_eq_true rfl) ct9 (fun r_ D10 hq8 hok hD13 => ?_)
            obtain ⟨r11, rfl, hr12⟩ := hok
            replace h := h r11 D10 hq8 hr12 hD13
            show WP mX5_shield Q 57 [vR 0, vI x1, vI x2, vU] [vI r11] D10
            refine WP_istore_n (ls1 := [vR 0, vI x1, vI x2, vI r11]) dX5_shield_57 (by decide) rfl ?_
            refine WP_iload_n (z := r11) dX5_shield_58 rfl ?_
            refine WP_iconst (z := (-1)) dX5_shield_59 rfl ⟨by decide, by decide⟩ ?_
            refine WP_icmp_eq (tgt := 70) dX5_shield_60 (by decide) (fun c14 => ?_) (fun c14 => ?_)
            · replace h := h.1 c14
              obtain ⟨o15, h⟩ := h
              refine WP_iinc (z := (x2 + 1)) (ls1 := [vR 0, vI x1, vI (x2 + 1), vI r11]) dX5_shield_70 rfl (w32_id o15) (by decide) rfl ?_
              refine WP_goto (tgt := 28) dX5_shield_73 (by decide) ?_
              refine WP_fg 3 (ls1 := [vR 0, vI x1, vI (x2 + 1), vU]) rfl ?_
              exact ih28_ _ _ _ h.1 (by have := h.2; omega)
            · replace h := h.2 c14
              refine WP_bipush (z := 32) dX5_shield_63 rfl (by decide) ?_
              refine WP_iload_n (z := x2) dX5_shield_65 rfl ?_
              obtain ⟨o17, h⟩ := h
              refine WP_imul (z := (32 * x2)) dX5_shield_66 (w32_id o17) ?_
              refine WP_iload_n (z := r11) dX5_shield_67 rfl ?_
              obtain ⟨o16, h⟩ := h
              refine WP_iadd (z := ((32 * x2) + r11)) dX5_shield_68 (w32_id o16) ?_
              exact WP_ireturn dX5_shield_69 rfl h
          · replace h := h.1 c4
            refine WP_iconst (z := (-1)) dX5_shield_47 rfl ⟨by decide, by decide⟩ ?_
            refine WP_goto (tgt := 57) dX5_shield_48 (by decide) ?_
            refine WP_istore_n (ls1 := [vR 0, vI x1, vI x2, vI (-1)]) dX5_shield_57 (by decide) rfl ?_
            refine WP_iload_n (z := (-1)) dX5_shield_58 rfl ?_
            refine WP_iconst (z := (-1)) dX5_shield_59 rfl ⟨by decide, by decide⟩ ?_
            refine WP_icmp_eq (tgt := 70) dX5_shield_60 (by decide) (fun _ => ?_) (fun c5 => absurd c5 (by decide))
            · obtain ⟨o6, h⟩ := h
              refine WP_iinc (z := (x2 + 1)) (ls1 := [vR 0, vI x1, vI (x2 + 1), vI (-1)]) dX5_shield_70 rfl (w32_id o6) (by decide) rfl ?_
              refine WP_goto (tgt := 28) dX5_shield_73 (by decide) ?_
              refine WP_fg 3 (ls1 := [vR 0, vI x1, vI (x2 + 1), vU]) rfl ?_
              exact ih28_ _ _ _ h.1 (by have := h.2; omega)
  have cut28_ : ∀ (x1 x2 : Int) (D : HP), I28 x1 x2 D → WP mX5_shield Q 28 [vR 0, vI x1, vI x2, vU] [] D := fun x1 x2 D hI => (IH (u28 x1 x2 D * 1 + 0 + 1)) x1 x2 D hI (by omega)
  refine WP_cD (fun hcD => ?_)
  refine WP_cl (fun hcl => ?_)
  have h := h0 hcD (cVs_g hcl (i := 1) (v := vI a) rfl)
  refine WP_aload_n (z := 0) dX5_shield_0 rfl ?_
  refine WP_iload_n (z := a) dX5_shield_1 rfl ?_
  refine WP_pcallV (g := mX5_isCandidate) (as := [vI a]) (rest := []) (n := 1) (r := vI (fX5_isCandidate D a)) dX5_shield_2 wm_373 mo_X5_isCandidate rfl rfl rfl rfl ⟨Nat.le_of_ble_eq_true rfl, Nat.le_of_ble_eq_true rfl⟩ (Nat.le_of_ble_eq_true rfl) (P_X5_isCandidate  trivial) ?_
  refine WP_if_ne (tgt := 11) dX5_shield_5 (by decide) (fun c1 => ?_) (fun c1 => ?_)
  · replace h := h.2 c1
    refine WP_aload_n (z := 0) dX5_shield_11 rfl ?_
    refine WP_getR (z := 9) dX5_shield_12 fl_RX5_22 rfl rfl rfl ?_
    refine WP_iload_n (z := a) dX5_shield_15 rfl ?_
    refine WP_pcallV (g := mX0_turnsWhen) (as := [vI a]) (rest := []) (n := 1) (r := vI (fX0_turnsWhen D 9 a)) dX5_shield_16 wm_467 mo_X0_turnsWhen rfl rfl rfl rfl ⟨Nat.le_of_ble_eq_true rfl, Nat.le_of_ble_eq_true rfl⟩ (Nat.le_of_ble_eq_true rfl) (P_X0_turnsWhen (by decide) trivial) ?_
    refine WP_iconst (z := (-1)) dX5_shield_19 rfl ⟨by decide, by decide⟩ ?_
    refine WP_icmp_ne (tgt := 26) dX5_shield_20 (by decide) (fun c2 => ?_) (fun c2 => ?_)
    · replace h := h.2 c2
      refine WP_iconst (z := 0) dX5_shield_26 rfl ⟨by decide, by decide⟩ ?_
      refine WP_istore_n (ls1 := [vR 0, vI a, vI 0, vU]) dX5_shield_27 (by decide) rfl ?_
      exact cut28_ _ _ _ h
    · replace h := h.1 c2
      refine WP_bipush (z := (-3)) dX5_shield_23 rfl (by decide) ?_
      exact WP_ireturn dX5_shield_25 rfl h
  · replace h := h.1 c1
    refine WP_bipush (z := (-2)) dX5_shield_8 rfl (by decide) ?_
    exact WP_ireturn dX5_shield_10 rfl h
set_option maxRecDepth 100000 in
set_option maxHeartbeats 4000000 in
theorem V_X5_movesAnotherIn (a : Int) (b : Int) {D : HP} {Q : Option MV → HP → Prop}
    (h0 : cD D → c32 a → c32 b → ((oX1_beside D 9 a b) ∧ ((oX1_isWall D 9 a) ∧ (((fX1_isWall D 9 a) = 0 → (Q (some (vI 0)) D)) ∧ (¬ ((fX1_isWall D 9 a) = 0) → ((oX0_isFree D 9 (fX1_beside D 9 a b)) ∧ (((fX0_isFree D 9 (fX1_beside D 9 a b)) = 0 → (Q (some (vI 0)) D)) ∧ (¬ ((fX0_isFree D 9 (fX1_beside D 9 a b)) = 0) → (∃ Q3 : Option MV → HP → Prop, CT mX1_tellAs [vR 26, vR 10] D Q3 ∧ ∀ (D6 : HP), Q3 none D6 → cD D6 → ((0 ≤ a ∧ a < 25) ∧ (∀ (E10 : HP), E10 = (hu D6 27 a.toNat 0) → ((0 ≤ (fX1_beside D 9 a b) ∧ (fX1_beside D 9 a b) < 25) ∧ (∀ (E12 : HP), E12 = (hu E10 27 ((fX1_beside D 9 a b)).toNat 1) → (∃ Q14 : Option MV → HP → Prop, CT mX1_survey [vR 26] E12 Q14 ∧ ∀ (D17 : HP), Q14 none D17 → cD D17 → (∃ Q21 : Option MV → HP → Prop, CT mX0_run [vR 25] D17 Q21 ∧ ∀ (D24 : HP), Q21 none D24 → cD D24 → ((oX0_whoIsInLast D24 25) ∧ ((oX0_whoIsInLast D24 9) ∧ (Q (some (vI (if (fX0_whoIsInLast D24 25) = (fX0_whoIsInLast D24 9) then (0 : Int) else 1))) D24))))))))))))))))))
    : CT mX5_movesAnotherIn [vR 0, vI a, vI b] D Q := by
  refine CT.of 1 (by decide) (Nat.le_of_ble_eq_true rfl) ?_
  show WP mX5_movesAnotherIn Q 0 [vR 0, vI a, vI b, vU] [] D
  refine WP_cD (fun hcD => ?_)
  refine WP_cl (fun hcl => ?_)
  have h := h0 hcD (cVs_g hcl (i := 1) (v := vI a) rfl) (cVs_g hcl (i := 2) (v := vI b) rfl)
  refine WP_aload_n (z := 0) dX5_movesAnotherIn_0 rfl ?_
  refine WP_getR (z := 9) dX5_movesAnotherIn_1 fl_RX5_22 rfl rfl rfl ?_
  refine WP_getR (z := 10) dX5_movesAnotherIn_4 fl_RX5_91 rfl rfl rfl ?_
  refine WP_iload_n (z := a) dX5_movesAnotherIn_7 rfl ?_
  refine WP_iload_n (z := b) dX5_movesAnotherIn_8 rfl ?_
  obtain ⟨o36, h⟩ := h
  refine WP_pcallV (g := mX1_beside) (as := [vI a, vI b]) (rest := []) (n := 2) (r := vI (fX1_beside D 9 a b)) dX5_movesAnotherIn_9 wm_599 mo_X1_beside rfl rfl rfl rfl ⟨Nat.le_of_ble_eq_true rfl, Nat.le_of_ble_eq_true rfl⟩ (Nat.le_of_ble_eq_true rfl) (P_X1_beside (by decide) o36) ?_
  refine WP_istore_n (ls1 := [vR 0, vI a, vI b, vI (fX1_beside D 9 a b)]) dX5_movesAnotherIn_12 (by decide) rfl ?_
  refine WP_aload_n (z := 0) dX5_movesAnotherIn_13 rfl ?_
  refine WP_getR (z := 9) dX5_movesAnotherIn_14 fl_RX5_22 rfl rfl rfl ?_
  refine WP_getR (z := 10) dX5_movesAnotherIn_17 fl_RX5_91 rfl rfl rfl ?_
  refine WP_iload_n (z := a) dX5_movesAnotherIn_20 rfl ?_
  obtain ⟨o35, h⟩ := h
  refine WP_pcallV (g := mX1_isWall) (as := [vI a]) (rest := []) (n := 1) (r := vI (fX1_isWall D 9 a)) dX5_movesAnotherIn_21 wm_334 mo_X1_isWall rfl rfl rfl rfl ⟨Nat.le_of_ble_eq_true rfl, Nat.le_of_ble_eq_true rfl⟩ (Nat.le_of_ble_eq_true rfl) (P_X1_isWall (by decide) o35) ?_
  refine WP_if_eq (tgt := 38) dX5_movesAnotherIn_24 (by decide) (fun c1 => ?_) (fun c1 => ?_)
  · replace h := h.1 c1
    refine WP_iconst (z := 0) dX5_movesAnotherIn_38 rfl ⟨by decide, by decide⟩ ?_
    exact WP_zreturn dX5_movesAnotherIn_39 rfl (by decide) h
  · replace h := h.2 c1
    refine WP_aload_n (z := 0) dX5_movesAnotherIn_27 rfl ?_
    refine WP_getR (z := 9) dX5_movesAnotherIn_28 fl_RX5_22 rfl rfl rfl ?_
    refine WP_iload_n (z := (fX1_beside D 9 a b)) dX5_movesAnotherIn_31 rfl ?_
    obtain ⟨o34, h⟩ := h
    refine WP_pcallV (g := mX0_isFree) (as := [vI (fX1_beside D 9 a b)]) (rest := []) (n := 1) (r := vI (fX0_isFree D 9 (fX1_beside D 9 a b))) dX5_movesAnotherIn_32 wm_574 mo_X0_isFree rfl rfl rfl rfl ⟨Nat.le_of_ble_eq_true rfl, Nat.le_of_ble_eq_true rfl⟩ (Nat.le_of_ble_eq_true rfl) (P_X0_isFree (by decide) o34) ?_
    refine WP_if_ne (tgt := 40) dX5_movesAnotherIn_35 (by decide) (fun c2 => ?_) (fun c2 => ?_)
    · replace h := h.2 c2
      refine WP_aload_n (z := 0) dX5_movesAnotherIn_40 rfl ?_
      refine WP_getR (z := 25) dX5_movesAnotherIn_41 fl_RX5_26 rfl rfl rfl ?_
      refine WP_getR (z := 26) dX5_movesAnotherIn_44 fl_RX5_91 rfl rfl rfl ?_
      refine WP_aload_n (z := 0) dX5_movesAnotherIn_47 rfl ?_
      refine WP_getR (z := 9) dX5_movesAnotherIn_48 fl_RX5_22 rfl rfl rfl ?_
      refine WP_getR (z := 10) dX5_movesAnotherIn_51 fl_RX5_91 rfl rfl rfl ?_
      obtain ⟨Q3, ct5, h⟩ := h
      refine WP_callV (g := mX1_tellAs) (as := [vR 10]) (rest := []) (n := 1) dX5_movesAnotherIn_54 wm_538 mo_X1_tellAs rfl rfl rfl rfl ⟨Nat.le_of_ble_eq_true rfl, Nat.le_of_ble_eq_true rfl⟩ (Nat.le_of_ble_eq_true rfl) ct5 (fun r_ D6 hq4 hok hD9 => ?_)
      obtain rfl := hok
      replace h := h D6 hq4 hD9
      show WP mX5_movesAnotherIn Q 57 [vR 0, vI a, vI b, vI (fX1_beside D 9 a b)] [] D6
      refine WP_aload_n (z := 0) dX5_movesAnotherIn_57 rfl ?_
      refine WP_getR (z := 25) dX5_movesAnotherIn_58 fl_RX5_26 rfl rfl rfl ?_
      refine WP_getR (z := 26) dX5_movesAnotherIn_61 fl_RX5_91 rfl rfl rfl ?_
      refine WP_getR (z := 27) dX5_movesAnotherIn_64 fl_RX5_188 rfl rfl rfl ?_
      refine WP_iload_n (z := a) dX5_movesAnotherIn_67 rfl ?_
      refine WP_iconst (z := 0) dX5_movesAnotherIn_68 rfl ⟨by decide, by decide⟩ ?_
      obtain ⟨o33, h⟩ := h
      refine WP_iast dX5_movesAnotherIn_69 rfl o33.1 o33.2 ?_
      obtain ⟨E10, hE11⟩ : ∃ E10 : HP, E10 = (hu D6 27 a.toNat 0) := ⟨_, rfl⟩
      replace h := h E10 hE11
      show WP mX5_movesAnotherIn Q 70 [vR 0, vI a, vI b, vI (fX1_beside D 9 a b)] [] (hu D6 27 a.toNat 0)
      rw [← hE11]
      refine WP_aload_n (z := 0) dX5_movesAnotherIn_70 rfl ?_
      refine WP_getR (z := 25) dX5_movesAnotherIn_71 fl_RX5_26 rfl rfl rfl ?_
      refine WP_getR (z := 26) dX5_movesAnotherIn_74 fl_RX5_91 rfl rfl rfl ?_
      refine WP_getR (z := 27) dX5_movesAnotherIn_77 fl_RX5_188 rfl rfl rfl ?_
      refine WP_iload_n (z := (fX1_beside D 9 a b)) dX5_movesAnotherIn_80 rfl ?_
      refine WP_iconst (z := 1) dX5_movesAnotherIn_81 rfl ⟨by decide, by decide⟩ ?_
      obtain ⟨o32, h⟩ := h
      refine WP_iast dX5_movesAnotherIn_82 rfl o32.1 o32.2 ?_
      obtain ⟨E12, hE13⟩ : ∃ E12 : HP, E12 = (hu E10 27 ((fX1_beside D 9 a b)).toNat 1) := ⟨_, rfl⟩
      replace h := h E12 hE13
      show WP mX5_movesAnotherIn Q 83 [vR 0, vI a, vI b, vI (fX1_beside D 9 a b)] [] (hu E10 27 ((fX1_beside D 9 a b)).toNat 1)
      rw [← hE13]
      refine WP_aload_n (z := 0) dX5_movesAnotherIn_83 rfl ?_
      refine WP_getR (z := 25) dX5_movesAnotherIn_84 fl_RX5_26 rfl rfl rfl ?_
      refine WP_getR (z := 26) dX5_movesAnotherIn_87 fl_RX5_91 rfl rfl rfl ?_
      obtain ⟨Q14, ct16, h⟩ := h
      refine WP_callV (g := mX1_survey) (as := []) (rest := []) (n := 0) dX5_movesAnotherIn_90 wm_600 mo_X1_survey rfl rfl rfl rfl ⟨Nat.le_of_ble_eq_true rfl, Nat.le_of_ble_eq_true rfl⟩ (Nat.le_of_ble_eq_true rfl) ct16 (fun r_ D17 hq15 hok hD20 => ?_)
      obtain rfl := hok
      replace h := h D17 hq15 hD20
      show WP mX5_movesAnotherIn Q 93 [vR 0, vI a, vI b, vI (fX1_beside D 9 a b)] [] D17
      refine WP_aload_n (z := 0) dX5_movesAnotherIn_93 rfl ?_
      refine WP_getR (z := 25) dX5_movesAnotherIn_94 fl_RX5_26 rfl rfl rfl ?_
      obtain ⟨Q21, ct23, h⟩ := h
      refine WP_callV (g := mX0_run) (as := []) (rest := []) (n := 0) dX5_movesAnotherIn_97 wm_201 mo_X0_run rfl rfl rfl rfl ⟨Nat.le_of_ble_eq_true rfl, Nat.le_of_ble_eq_true rfl⟩ (Nat.le_of_ble_eq_true rfl) ct23 (fun r_ D24 hq22 hok hD27 => ?_)
      obtain rfl := hok
      replace h := h D24 hq22 hD27
      show WP mX5_movesAnotherIn Q 100 [vR 0, vI a, vI b, vI (fX1_beside D 9 a b)] [] D24
      refine WP_aload_n (z := 0) dX5_movesAnotherIn_100 rfl ?_
      refine WP_getR (z := 25) dX5_movesAnotherIn_101 fl_RX5_26 rfl rfl rfl ?_
      obtain ⟨o31, h⟩ := h
      refine WP_pcallV (g := mX0_whoIsInLast) (as := []) (rest := []) (n := 0) (r := vI (fX0_whoIsInLast D24 25)) dX5_movesAnotherIn_104 wm_601 mo_X0_whoIsInLast rfl rfl rfl rfl ⟨Nat.le_of_ble_eq_true rfl, Nat.le_of_ble_eq_true rfl⟩ (Nat.le_of_ble_eq_true rfl) (P_X0_whoIsInLast (by decide) o31) ?_
      refine WP_aload_n (z := 0) dX5_movesAnotherIn_107 rfl ?_
      refine WP_getR (z := 9) dX5_movesAnotherIn_108 fl_RX5_22 rfl rfl rfl ?_
      obtain ⟨o30, h⟩ := h
      refine WP_pcallV (g := mX0_whoIsInLast) (as := []) (rest := [vI (fX0_whoIsInLast D24 25)]) (n := 0) (r := vI (fX0_whoIsInLast D24 9)) dX5_movesAnotherIn_111 wm_601 mo_X0_whoIsInLast rfl rfl rfl rfl ⟨Nat.le_of_ble_eq_true rfl, Nat.le_of_ble_eq_true rfl⟩ (Nat.le_of_ble_eq_true rfl) (P_X0_whoIsInLast (by decide) o30) ?_
      refine WP_via (pc1 := 122) (ls1 := [vR 0, vI a, vI b, vI (fX1_beside D 9 a b)]) (st1 := [vI (if (fX0_whoIsInLast D24 25) = (fX0_whoIsInLast D24 9) then (0 : Int) else 1)]) (D1 := D24) (fun hJ28 => ?_) ?_
      · refine WP_icmp_eq (tgt := 121) dX5_movesAnotherIn_114 (by decide) (fun c29 => ?_) (fun c29 => ?_)
        · replace hJ28 := ite_t (P := fun v_ : Int => WP mX5_movesAnotherIn Q 122 [vR 0, vI a, vI b, vI (fX1_beside D 9 a b)] [vI v_] D24) hJ28 c29
          refine WP_iconst (z := 0) dX5_movesAnotherIn_121 rfl ⟨by decide, by decide⟩ ?_
          exact hJ28
        · replace hJ28 := ite_f (P := fun v_ : Int => WP mX5_movesAnotherIn Q 122 [vR 0, vI a, vI b, vI (fX1_beside D 9 a b)] [vI v_] D24) hJ28 c29
          refine WP_iconst (z := 1) dX5_movesAnotherIn_117 rfl ⟨by decide, by decide⟩ ?_
          refine WP_goto (tgt := 122) dX5_movesAnotherIn_118 (by decide) ?_
          exact hJ28
      · exact WP_zreturn dX5_movesAnotherIn_122 rfl (bool_ite (Or.inl rfl) (Or.inr rfl)) h
    · replace h := h.1 c2
      refine WP_iconst (z := 0) dX5_movesAnotherIn_38 rfl ⟨by decide, by decide⟩ ?_
      exact WP_zreturn dX5_movesAnotherIn_39 rfl (by decide) h
set_option maxRecDepth 100000 in
set_option maxHeartbeats 4000000 in
theorem V_X5_move (a : Int) {D : HP} {Q : Option MV → HP → Prop} (I19 : Int → Int → Int → Int → HP → Prop) (u19 : Int → Int → Int → Int → HP → Nat) (I37 : Int → Int → Int → Int → Int → HP → Prop) (u37 : Int → Int → Int → Int → Int → HP → Nat)
    (h0 : cD D → c32 a → ((a < 0 → (Q (some (vI (-2))) D)) ∧ (¬ (a < 0) → ((a ≤ 1 → (I19 a 0 (-1) 0 D)) ∧ (¬ (a ≤ 1) → (Q (some (vI (-2))) D))))))
    (h19 : ∀ (x1 x2 x3 x4 : Int) (D : HP), I19 x1 x2 x3 x4 D → cD D → c32 x1 → c32 x2 → c32 x3 → c32 x4 → (((D 10 1) ≤ x4 → (Q (some (vI (if x1 = 0 then (x2 : Int) else x3))) D)) ∧ (¬ ((D 10 1) ≤ x4) → (I37 x1 x2 x3 x4 0 D ∧ u37 x1 x2 x3 x4 0 D ≤ u19 x1 x2 x3 x4 D))))
    (h37 : ∀ (x1 x2 x3 x4 x5 : Int) (D : HP), I37 x1 x2 x3 x4 x5 D → cD D → c32 x1 → c32 x2 → c32 x3 → c32 x4 → c32 x5 → ((4 ≤ x5 → ((c32 (x4 + 1)) ∧ (I19 x1 x2 x3 (x4 + 1) D ∧ u19 x1 x2 x3 (x4 + 1) D < u37 x1 x2 x3 x4 x5 D))) ∧ (¬ (4 ≤ x5) → (∃ Q8 : Option MV → HP → Prop, CT mX5_movesAnotherIn [vR 0, vI x4, vI x5] D Q8 ∧ ∀ (r12 : Int) (D11 : HP), Q8 (some (vI r12)) D11 → c32 r12 → cD D11 → ((((r12 = 0) → True) ∧ (¬ (r12 = 0) → (c32 (x2 + 1)) ∧ (((x3 = (-1)) → (c32 (4 * x4)) ∧ (c32 ((4 * x4) + x5))) ∧ (¬ (x3 = (-1)) → True)))) ∧ ((c32 (x5 + 1)) ∧ (I37 x1 (if r12 = 0 then (x2 : Int) else (x2 + 1)) (if r12 = 0 then (x3 : Int) else (if x3 = (-1) then (((4 * x4) + x5) : Int) else x3)) x4 (x5 + 1) D11 ∧ u37 x1 (if r12 = 0 then (x2 : Int) else (x2 + 1)) (if r12 = 0 then (x3 : Int) else (if x3 = (-1) then (((4 * x4) + x5) : Int) else x3)) x4 (x5 + 1) D11 < u37 x1 x2 x3 x4 x5 D)))))))
    : CT mX5_move [vR 0, vI a] D Q := by
  refine CT.of 4 (by decide) (Nat.le_of_ble_eq_true rfl) ?_
  show WP mX5_move Q 0 [vR 0, vI a, vU, vU, vU, vU] [] D
  have IH : ∀ n : Nat, (∀ (x1 x2 x3 x4 : Int) (D : HP), I19 x1 x2 x3 x4 D → u19 x1 x2 x3 x4 D * 2 + 1 < n → WP mX5_move Q 19 [vR 0, vI x1, vI x2, vI x3, vI x4, vU] [] D) ∧ (∀ (x1 x2 x3 x4 x5 : Int) (D : HP), I37 x1 x2 x3 x4 x5 D → u37 x1 x2 x3 x4 x5 D * 2 + 0 < n → WP mX5_move Q 37 [vR 0, vI x1, vI x2, vI x3, vI x4, vI x5] [] D) := by
    intro n
    induction n with
    | zero => exact ⟨fun _ _ _ _ _ _ h => absurd h (Nat.not_lt_zero _), fun _ _ _ _ _ _ _ h => absurd h (Nat.not_lt_zero _)⟩
    | succ n ih =>
      have ih19_ := ih.1
      have ih37_ := ih.2
      refine ⟨?_, ?_⟩
      · intro x1 x2 x3 x4 D hI hn
        refine WP_cD (fun hcD => ?_)
        refine WP_cl (fun hcl => ?_)
        have h := h19 x1 x2 x3 x4 D hI hcD (cVs_g hcl (i := 1) (v := vI x1) rfl) (cVs_g hcl (i := 2) (v := vI x2) rfl) (cVs_g hcl (i := 3) (v := vI x3) rfl) (cVs_g hcl (i := 4) (v := vI x4) rfl)
        refine WP_iload (z := x4) dX5_move_19 rfl ?_
        refine WP_aload_n (z := 0) dX5_move_21 rfl ?_
        refine WP_getR (z := 9) dX5_move_22 fl_RX5_22 rfl rfl rfl ?_
        refine WP_getR (z := 10) dX5_move_25 fl_RX5_91 rfl rfl rfl ?_
        refine WP_getI dX5_move_28 fl_RX5_157 rfl rfl rfl ?_
        refine WP_icmp_ge (tgt := 86) dX5_move_31 (by decide) (fun c3 => ?_) (fun c3 => ?_)
        · replace h := h.1 c3
          refine WP_iload_n (z := x1) dX5_move_86 rfl ?_
          refine WP_via (pc1 := 95) (ls1 := [vR 0, vI x1, vI x2, vI x3, vI x4, vU]) (st1 := [vI (if x1 = 0 then (x2 : Int) else x3)]) (D1 := D) (fun hJ4 => ?_) ?_
          · refine WP_if_ne (tgt := 94) dX5_move_87 (by decide) (fun c5 => ?_) (fun c5 => ?_)
            · replace hJ4 := ite_f (P := fun v_ : Int => WP mX5_move Q 95 [vR 0, vI x1, vI x2, vI x3, vI x4, vU] [vI v_] D) hJ4 c5
              refine WP_iload_n (z := x3) dX5_move_94 rfl ?_
              exact hJ4
            · replace hJ4 := ite_t (P := fun v_ : Int => WP mX5_move Q 95 [vR 0, vI x1, vI x2, vI x3, vI x4, vU] [vI v_] D) hJ4 c5
              refine WP_iload_n (z := x2) dX5_move_90 rfl ?_
              refine WP_goto (tgt := 95) dX5_move_91 (by decide) ?_
              exact hJ4
          · exact WP_ireturn dX5_move_95 rfl h
        · replace h := h.2 c3
          refine WP_iconst (z := 0) dX5_move_34 rfl ⟨by decide, by decide⟩ ?_
          refine WP_istore (ls1 := [vR 0, vI x1, vI x2, vI x3, vI x4, vI 0]) dX5_move_35 (by decide) rfl ?_
          exact ih37_ _ _ _ _ _ _ h.1 (by have := h.2; omega)
      · intro x1 x2 x3 x4 x5 D hI hn
        refine WP_cD (fun hcD => ?_)
        refine WP_cl (fun hcl => ?_)
        have h := h37 x1 x2 x3 x4 x5 D hI hcD (cVs_g hcl (i := 1) (v := vI x1) rfl) (cVs_g hcl (i := 2) (v := vI x2) rfl) (cVs_g hcl (i := 3) (v := vI x3) rfl) (cVs_g hcl (i := 4) (v := vI x4) rfl) (cVs_g hcl (i := 5) (v := vI x5) rfl)
        refine WP_iload (z := x5) dX5_move_37 rfl ?_
        refine WP_iconst (z := 4) dX5_move_39 rfl ⟨by decide, by decide⟩ ?_
        refine WP_icmp_ge (tgt := 80) dX5_move_40 (by decide) (fun c6 => ?_) (fun c6 => ?_)
        · replace h := h.1 c6
          obtain ⟨o7, h⟩ := h
          refine WP_iinc (z := (x4 + 1)) (ls1 := [vR 0, vI x1, vI x2, vI x3, vI (x4 + 1), vI x5]) dX5_move_80 rfl (w32_id o7) (by decide) rfl ?_
          refine WP_goto (tgt := 19) dX5_move_83 (by decide) ?_
          refine WP_fg 5 (ls1 := [vR 0, vI x1, vI x2, vI x3, vI (x4 + 1), vU]) rfl ?_
          exact ih19_ _ _ _ _ _ h.1 (by have := h.2; omega)
        · replace h := h.2 c6
          refine WP_aload_n (z := 0) dX5_move_43 rfl ?_
          refine WP_iload (z := x4) dX5_move_44 rfl ?_
          refine WP_iload (z := x5) dX5_move_46 rfl ?_
          obtain ⟨Q8, ct10, h⟩ := h
          refine WP_callV (g := mX5_movesAnotherIn) (as := [vI x4, vI x5]) (rest := []) (n := 2) dX5_move_48 wm_594 mo_X5_movesAnotherIn rfl rfl rfl rfl ⟨Nat.le_of_ble_eq_true rfl, Nat.le_of_ble_eq_true rfl⟩ (Nat.le_of_ble_eq_true rfl) ct10 (fun r_ D11 hq9 hok hD14 => ?_)
          obtain ⟨r12, rfl, hr13⟩ := hok
          replace h := h r12 D11 hq9 hr13 hD14
          show WP mX5_move Q 51 [vR 0, vI x1, vI x2, vI x3, vI x4, vI x5] [vI r12] D11
          obtain ⟨o15, h⟩ := h
          refine WP_via (pc1 := 74) (ls1 := [vR 0, vI x1, vI (if r12 = 0 then (x2 : Int) else (x2 + 1)), vI (if r12 = 0 then (x3 : Int) else (if x3 = (-1) then (((4 * x4) + x5) : Int) else x3)), vI x4, vI x5]) (st1 := []) (D1 := D11) (fun hJ17 => ?_) ?_
          · refine WP_if_eq (tgt := 74) dX5_move_51 (by decide) (fun c18 => ?_) (fun c18 => ?_)
            · replace hJ17 := ite_t (P := fun v_ : Int => WP mX5_move Q 74 [vR 0, vI x1, vI v_, vI (if r12 = 0 then (x3 : Int) else (if x3 = (-1) then (((4 * x4) + x5) : Int) else x3)), vI x4, vI x5] [] D11) hJ17 c18
              replace hJ17 := ite_t (P := fun v_ : Int => WP mX5_move Q 74 [vR 0, vI x1, vI x2, vI v_, vI x4, vI x5] [] D11) hJ17 c18
              have o19 := o15.1 c18
              exact hJ17
            · replace hJ17 := ite_f (P := fun v_ : Int => WP mX5_move Q 74 [vR 0, vI x1, vI v_, vI (if r12 = 0 then (x3 : Int) else (if x3 = (-1) then (((4 * x4) + x5) : Int) else x3)), vI x4, vI x5] [] D11) hJ17 c18
              replace hJ17 := ite_f (P := fun v_ : Int => WP mX5_move Q 74 [vR 0, vI x1, vI (x2 + 1), vI v_, vI x4, vI x5] [] D11) hJ17 c18
              have o20 := o15.2 c18
              refine WP_iinc (z := (x2 + 1)) (ls1 := [vR 0, vI x1, vI (x2 + 1), vI x3, vI x4, vI x5]) dX5_move_54 rfl (w32_id o20.1) (by decide) rfl ?_
              refine WP_iload_n (z := x3) dX5_move_57 rfl ?_
              refine WP_iconst (z := (-1)) dX5_move_58 rfl ⟨by decide, by decide⟩ ?_
              refine WP_via (pc1 := 73) (ls1 := [vR 0, vI x1, vI (x2 + 1), vI x3, vI x4, vI x5]) (st1 := [vI (if x3 = (-1) then (((4 * x4) + x5) : Int) else x3)]) (D1 := D11) (fun hJ21 => ?_) ?_
              · refine WP_icmp_ne (tgt := 72) dX5_move_59 (by decide) (fun c22 => ?_) (fun c22 => ?_)
                · replace hJ21 := ite_f (P := fun v_ : Int => WP mX5_move Q 73 [vR 0, vI x1, vI (x2 + 1), vI x3, vI x4, vI x5] [vI v_] D11) hJ21 c22
                  have o24 := o20.2.2 c22
                  refine WP_iload_n (z := x3) dX5_move_72 rfl ?_
                  exact hJ21
                · replace hJ21 := ite_t (P := fun v_ : Int => WP mX5_move Q 73 [vR 0, vI x1, vI (x2 + 1), vI x3, vI x4, vI x5] [vI v_] D11) hJ21 c22
                  have o23 := o20.2.1 c22
                  refine WP_iconst (z := 4) dX5_move_62 rfl ⟨by decide, by decide⟩ ?_
                  refine WP_iload (z := x4) dX5_move_63 rfl ?_
                  refine WP_imul (z := (4 * x4)) dX5_move_65 (w32_id o23.1) ?_
                  refine WP_iload (z := x5) dX5_move_66 rfl ?_
                  refine WP_iadd (z := ((4 * x4) + x5)) dX5_move_68 (w32_id o23.2) ?_
                  refine WP_goto (tgt := 73) dX5_move_69 (by decide) ?_
                  exact hJ21
              refine WP_istore_n (ls1 := [vR 0, vI x1, vI (x2 + 1), vI (if x3 = (-1) then (((4 * x4) + x5) : Int) else x3), vI x4, vI x5]) dX5_move_73 (by decide) rfl ?_
              exact hJ17
          · obtain ⟨o16, h⟩ := h
            refine WP_iinc (z := (x5 + 1)) (ls1 := [vR 0, vI x1, vI (if r12 = 0 then (x2 : Int) else (x2 + 1)), vI (if r12 = 0 then (x3 : Int) else (if x3 = (-1) then (((4 * x4) + x5) : Int) else x3)), vI x4, vI (x5 + 1)]) dX5_move_74 rfl (w32_id o16) (by decide) rfl ?_
            refine WP_goto (tgt := 37) dX5_move_77 (by decide) ?_
            exact ih37_ _ _ _ _ _ _ h.1 (by have := h.2; omega)
  have cut19_ : ∀ (x1 x2 x3 x4 : Int) (D : HP), I19 x1 x2 x3 x4 D → WP mX5_move Q 19 [vR 0, vI x1, vI x2, vI x3, vI x4, vU] [] D := fun x1 x2 x3 x4 D hI => (IH (u19 x1 x2 x3 x4 D * 2 + 1 + 1)).1 x1 x2 x3 x4 D hI (by omega)
  have cut37_ : ∀ (x1 x2 x3 x4 x5 : Int) (D : HP), I37 x1 x2 x3 x4 x5 D → WP mX5_move Q 37 [vR 0, vI x1, vI x2, vI x3, vI x4, vI x5] [] D := fun x1 x2 x3 x4 x5 D hI => (IH (u37 x1 x2 x3 x4 x5 D * 2 + 0 + 1)).2 x1 x2 x3 x4 x5 D hI (by omega)
  refine WP_cD (fun hcD => ?_)
  refine WP_cl (fun hcl => ?_)
  have h := h0 hcD (cVs_g hcl (i := 1) (v := vI a) rfl)
  refine WP_iload_n (z := a) dX5_move_0 rfl ?_
  refine WP_if_lt (tgt := 9) dX5_move_1 (by decide) (fun c1 => ?_) (fun c1 => ?_)
  · replace h := h.1 c1
    refine WP_bipush (z := (-2)) dX5_move_9 rfl (by decide) ?_
    exact WP_ireturn dX5_move_11 rfl h
  · replace h := h.2 c1
    refine WP_iload_n (z := a) dX5_move_4 rfl ?_
    refine WP_iconst (z := 1) dX5_move_5 rfl ⟨by decide, by decide⟩ ?_
    refine WP_icmp_le (tgt := 12) dX5_move_6 (by decide) (fun c2 => ?_) (fun c2 => ?_)
    · replace h := h.1 c2
      refine WP_iconst (z := 0) dX5_move_12 rfl ⟨by decide, by decide⟩ ?_
      refine WP_istore_n (ls1 := [vR 0, vI a, vI 0, vU, vU, vU]) dX5_move_13 (by decide) rfl ?_
      refine WP_iconst (z := (-1)) dX5_move_14 rfl ⟨by decide, by decide⟩ ?_
      refine WP_istore_n (ls1 := [vR 0, vI a, vI 0, vI (-1), vU, vU]) dX5_move_15 (by decide) rfl ?_
      refine WP_iconst (z := 0) dX5_move_16 rfl ⟨by decide, by decide⟩ ?_
      refine WP_istore (ls1 := [vR 0, vI a, vI 0, vI (-1), vI 0, vU]) dX5_move_17 (by decide) rfl ?_
      exact cut19_ _ _ _ _ _ h
    · replace h := h.2 c2
      refine WP_bipush (z := (-2)) dX5_move_9 rfl (by decide) ?_
      exact WP_ireturn dX5_move_11 rfl h
set_option maxRecDepth 100000 in
set_option maxHeartbeats 4000000 in
theorem V_X5_bribe (a : Int) {D : HP} {Q : Option MV → HP → Prop} (I43 : Int → Int → Int → HP → Prop) (u43 : Int → Int → Int → HP → Nat)
    (h0 : cD D → c32 a → (((fX5_isCandidate D a) = 0 → (Q (some (vI (-2))) D)) ∧ (¬ ((fX5_isCandidate D a) = 0) → (∃ Q2 : Option MV → HP → Prop, CT mX1_tellAs [vR 26, vR 10] D Q2 ∧ ∀ (D5 : HP), Q2 none D5 → cD D5 → ((0 ≤ a ∧ a < 8) ∧ (I43 a (D5 17 a.toNat) 0 D5))))))
    (h43 : ∀ (x1 x2 x3 : Int) (D : HP), I43 x1 x2 x3 D → cD D → c32 x1 → c32 x2 → c32 x3 → ((x2 ≤ x3 → (Q (some (vI (-1))) D)) ∧ (¬ (x2 ≤ x3) → ((c32 (x2 - x3)) ∧ ((0 ≤ x1 ∧ x1 < 8) ∧ (∀ (E11 : HP), E11 = (hu D 33 x1.toNat (x2 - x3)) → (∃ Q13 : Option MV → HP → Prop, CT mX0_run [vR 25] E11 Q13 ∧ ∀ (D16 : HP), Q13 none D16 → cD D16 → ((oX0_whoIsInLast D16 25) ∧ (((fX0_whoIsInLast D16 25) = x1 → (Q (some (vI x3)) D16)) ∧ (¬ ((fX0_whoIsInLast D16 25) = x1) → ((c32 (x3 + 1)) ∧ (I43 x1 x2 (x3 + 1) D16 ∧ u43 x1 x2 (x3 + 1) D16 < u43 x1 x2 x3 D))))))))))))
    : CT mX5_bribe [vR 0, vI a] D Q := by
  refine CT.of 2 (by decide) (Nat.le_of_ble_eq_true rfl) ?_
  show WP mX5_bribe Q 0 [vR 0, vI a, vU, vU] [] D
  have IH : ∀ n : Nat, (∀ (x1 x2 x3 : Int) (D : HP), I43 x1 x2 x3 D → u43 x1 x2 x3 D * 1 + 0 < n → WP mX5_bribe Q 43 [vR 0, vI x1, vI x2, vI x3] [] D) := by
    intro n
    induction n with
    | zero => exact fun _ _ _ _ _ h => absurd h (Nat.not_lt_zero _)
    | succ n ih =>
      have ih43_ := ih
      · intro x1 x2 x3 D hI hn
        refine WP_cD (fun hcD => ?_)
        refine WP_cl (fun hcl => ?_)
        have h := h43 x1 x2 x3 D hI hcD (cVs_g hcl (i := 1) (v := vI x1) rfl) (cVs_g hcl (i := 2) (v := vI x2) rfl) (cVs_g hcl (i := 3) (v := vI x3) rfl)
        refine WP_iload_n (z := x3) dX5_bribe_43 rfl ?_
        refine WP_iload_n (z := x2) dX5_bribe_44 rfl ?_
        refine WP_icmp_ge (tgt := 89) dX5_bribe_45 (by decide) (fun c10 => ?_) (fun c10 => ?_)
        · replace h := h.1 c10
          refine WP_iconst (z := (-1)) dX5_bribe_89 rfl ⟨by decide, by decide⟩ ?_
          exact WP_ireturn dX5_bribe_90 rfl h
        · replace h := h.2 c10
          refine WP_aload_n (z := 0) dX5_bribe_48 rfl ?_
          refine WP_getR (z := 25) dX5_bribe_49 fl_RX5_26 rfl rfl rfl ?_
          refine WP_getR (z := 26) dX5_bribe_52 fl_RX5_91 rfl rfl rfl ?_
          refine WP_getR (z := 33) dX5_bribe_55 fl_RX5_118 rfl rfl rfl ?_
          refine WP_iload_n (z := x1) dX5_bribe_58 rfl ?_
          refine WP_iload_n (z := x2) dX5_bribe_59 rfl ?_
          refine WP_iload_n (z := x3) dX5_bribe_60 rfl ?_
          obtain ⟨o24, h⟩ := h
          refine WP_isub (z := (x2 - x3)) dX5_bribe_61 (w32_id o24) ?_
          obtain ⟨o23, h⟩ := h
          refine WP_iast dX5_bribe_62 rfl o23.1 o23.2 ?_
          obtain ⟨E11, hE12⟩ : ∃ E11 : HP, E11 = (hu D 33 x1.toNat (x2 - x3)) := ⟨_, rfl⟩
          replace h := h E11 hE12
          show WP mX5_bribe Q 63 [vR 0, vI x1, vI x2, vI x3] [] (hu D 33 x1.toNat (x2 - x3))
          rw [← hE12]
          refine WP_aload_n (z := 0) dX5_bribe_63 rfl ?_
          refine WP_getR (z := 25) dX5_bribe_64 fl_RX5_26 rfl rfl rfl ?_
          obtain ⟨Q13, ct15, h⟩ := h
          refine WP_callV (g := mX0_run) (as := []) (rest := []) (n := 0) dX5_bribe_67 wm_201 mo_X0_run rfl rfl rfl rfl ⟨Nat.le_of_ble_eq_true rfl, Nat.le_of_ble_eq_true rfl⟩ (Nat.le_of_ble_eq_true rfl) ct15 (fun r_ D16 hq14 hok hD19 => ?_)
          obtain rfl := hok
          replace h := h D16 hq14 hD19
          show WP mX5_bribe Q 70 [vR 0, vI x1, vI x2, vI x3] [] D16
          refine WP_aload_n (z := 0) dX5_bribe_70 rfl ?_
          refine WP_getR (z := 25) dX5_bribe_71 fl_RX5_26 rfl rfl rfl ?_
          obtain ⟨o22, h⟩ := h
          refine WP_pcallV (g := mX0_whoIsInLast) (as := []) (rest := []) (n := 0) (r := vI (fX0_whoIsInLast D16 25)) dX5_bribe_74 wm_601 mo_X0_whoIsInLast rfl rfl rfl rfl ⟨Nat.le_of_ble_eq_true rfl, Nat.le_of_ble_eq_true rfl⟩ (Nat.le_of_ble_eq_true rfl) (P_X0_whoIsInLast (by decide) o22) ?_
          refine WP_iload_n (z := x1) dX5_bribe_77 rfl ?_
          refine WP_icmp_ne (tgt := 83) dX5_bribe_78 (by decide) (fun c20 => ?_) (fun c20 => ?_)
          · replace h := h.2 c20
            obtain ⟨o21, h⟩ := h
            refine WP_iinc (z := (x3 + 1)) (ls1 := [vR 0, vI x1, vI x2, vI (x3 + 1)]) dX5_bribe_83 rfl (w32_id o21) (by decide) rfl ?_
            refine WP_goto (tgt := 43) dX5_bribe_86 (by decide) ?_
            exact ih43_ _ _ _ _ h.1 (by have := h.2; omega)
          · replace h := h.1 c20
            refine WP_iload_n (z := x3) dX5_bribe_81 rfl ?_
            exact WP_ireturn dX5_bribe_82 rfl h
  have cut43_ : ∀ (x1 x2 x3 : Int) (D : HP), I43 x1 x2 x3 D → WP mX5_bribe Q 43 [vR 0, vI x1, vI x2, vI x3] [] D := fun x1 x2 x3 D hI => (IH (u43 x1 x2 x3 D * 1 + 0 + 1)) x1 x2 x3 D hI (by omega)
  refine WP_cD (fun hcD => ?_)
  refine WP_cl (fun hcl => ?_)
  have h := h0 hcD (cVs_g hcl (i := 1) (v := vI a) rfl)
  refine WP_aload_n (z := 0) dX5_bribe_0 rfl ?_
  refine WP_iload_n (z := a) dX5_bribe_1 rfl ?_
  refine WP_pcallV (g := mX5_isCandidate) (as := [vI a]) (rest := []) (n := 1) (r := vI (fX5_isCandidate D a)) dX5_bribe_2 wm_373 mo_X5_isCandidate rfl rfl rfl rfl ⟨Nat.le_of_ble_eq_true rfl, Nat.le_of_ble_eq_true rfl⟩ (Nat.le_of_ble_eq_true rfl) (P_X5_isCandidate  trivial) ?_
  refine WP_if_ne (tgt := 11) dX5_bribe_5 (by decide) (fun c1 => ?_) (fun c1 => ?_)
  · replace h := h.2 c1
    refine WP_aload_n (z := 0) dX5_bribe_11 rfl ?_
    refine WP_getR (z := 25) dX5_bribe_12 fl_RX5_26 rfl rfl rfl ?_
    refine WP_getR (z := 26) dX5_bribe_15 fl_RX5_91 rfl rfl rfl ?_
    refine WP_aload_n (z := 0) dX5_bribe_18 rfl ?_
    refine WP_getR (z := 9) dX5_bribe_19 fl_RX5_22 rfl rfl rfl ?_
    refine WP_getR (z := 10) dX5_bribe_22 fl_RX5_91 rfl rfl rfl ?_
    obtain ⟨Q2, ct4, h⟩ := h
    refine WP_callV (g := mX1_tellAs) (as := [vR 10]) (rest := []) (n := 1) dX5_bribe_25 wm_538 mo_X1_tellAs rfl rfl rfl rfl ⟨Nat.le_of_ble_eq_true rfl, Nat.le_of_ble_eq_true rfl⟩ (Nat.le_of_ble_eq_true rfl) ct4 (fun r_ D5 hq3 hok hD8 => ?_)
    obtain rfl := hok
    replace h := h D5 hq3 hD8
    show WP mX5_bribe Q 28 [vR 0, vI a, vU, vU] [] D5
    refine WP_aload_n (z := 0) dX5_bribe_28 rfl ?_
    refine WP_getR (z := 9) dX5_bribe_29 fl_RX5_22 rfl rfl rfl ?_
    refine WP_getR (z := 10) dX5_bribe_32 fl_RX5_91 rfl rfl rfl ?_
    refine WP_getR (z := 17) dX5_bribe_35 fl_RX5_118 rfl rfl rfl ?_
    refine WP_iload_n (z := a) dX5_bribe_38 rfl ?_
    obtain ⟨o9, h⟩ := h
    refine WP_iald dX5_bribe_39 rfl o9.1 o9.2 rfl ?_
    refine WP_istore_n (ls1 := [vR 0, vI a, vI (D5 17 a.toNat), vU]) dX5_bribe_40 (by decide) rfl ?_
    refine WP_iconst (z := 0) dX5_bribe_41 rfl ⟨by decide, by decide⟩ ?_
    refine WP_istore_n (ls1 := [vR 0, vI a, vI (D5 17 a.toNat), vI 0]) dX5_bribe_42 (by decide) rfl ?_
    exact cut43_ _ _ _ _ h
  · replace h := h.1 c1
    refine WP_bipush (z := (-2)) dX5_bribe_8 rfl (by decide) ?_
    exact WP_ireturn dX5_bribe_10 rfl h
set_option maxRecDepth 100000 in
set_option maxHeartbeats 4000000 in
theorem V_X5_seen (a : Int) (b : Int) {D : HP} {Q : Option MV → HP → Prop}
    (h0 : cD D → c32 a → c32 b → (((fX4_isSighting D a b) = 0 → (Q (some (vI (-2))) D)) ∧ (¬ ((fX4_isSighting D a b) = 0) → (((fX4_isFull D) = 0 → (∃ Q3 : Option MV → HP → Prop, CT mX4_append [vR 41, vI a, vI b] D Q3 ∧ ∀ (D6 : HP), Q3 none D6 → cD D6 → (∀ (E10 : HP), E10 = (hu D6 0 7 (-1)) → (Q (some (vI (E10 41 0))) E10)))) ∧ (¬ ((fX4_isFull D) = 0) → (Q (some (vI (-4))) D))))))
    : CT mX5_seen [vR 0, vI a, vI b] D Q := by
  refine CT.of 0 (by decide) (Nat.le_of_ble_eq_true rfl) ?_
  show WP mX5_seen Q 0 [vR 0, vI a, vI b] [] D
  refine WP_cD (fun hcD => ?_)
  refine WP_cl (fun hcl => ?_)
  have h := h0 hcD (cVs_g hcl (i := 1) (v := vI a) rfl) (cVs_g hcl (i := 2) (v := vI b) rfl)
  refine WP_aload_n (z := 0) dX5_seen_0 rfl ?_
  refine WP_getR (z := 41) dX5_seen_1 fl_RX5_32 rfl rfl rfl ?_
  refine WP_iload_n (z := a) dX5_seen_4 rfl ?_
  refine WP_iload_n (z := b) dX5_seen_5 rfl ?_
  refine WP_pcallV (g := mX4_isSighting) (as := [vI a, vI b]) (rest := []) (n := 2) (r := vI (fX4_isSighting D a b)) dX5_seen_6 wm_634 mo_X4_isSighting rfl rfl rfl rfl ⟨Nat.le_of_ble_eq_true rfl, Nat.le_of_ble_eq_true rfl⟩ (Nat.le_of_ble_eq_true rfl) (P_X4_isSighting  trivial) ?_
  refine WP_if_ne (tgt := 15) dX5_seen_9 (by decide) (fun c1 => ?_) (fun c1 => ?_)
  · replace h := h.2 c1
    refine WP_aload_n (z := 0) dX5_seen_15 rfl ?_
    refine WP_getR (z := 41) dX5_seen_16 fl_RX5_32 rfl rfl rfl ?_
    refine WP_pcallV (g := mX4_isFull) (as := []) (rest := []) (n := 0) (r := vI (fX4_isFull D)) dX5_seen_19 wm_638 mo_X4_isFull rfl rfl rfl rfl ⟨Nat.le_of_ble_eq_true rfl, Nat.le_of_ble_eq_true rfl⟩ (Nat.le_of_ble_eq_true rfl) (P_X4_isFull  trivial) ?_
    refine WP_if_eq (tgt := 28) dX5_seen_22 (by decide) (fun c2 => ?_) (fun c2 => ?_)
    · replace h := h.1 c2
      refine WP_aload_n (z := 0) dX5_seen_28 rfl ?_
      refine WP_getR (z := 41) dX5_seen_29 fl_RX5_32 rfl rfl rfl ?_
      refine WP_iload_n (z := a) dX5_seen_32 rfl ?_
      refine WP_iload_n (z := b) dX5_seen_33 rfl ?_
      obtain ⟨Q3, ct5, h⟩ := h
      refine WP_callV (g := mX4_append) (as := [vI a, vI b]) (rest := []) (n := 2) dX5_seen_34 wm_642 mo_X4_append rfl rfl rfl rfl ⟨Nat.le_of_ble_eq_true rfl, Nat.le_of_ble_eq_true rfl⟩ (Nat.le_of_ble_eq_true rfl) ct5 (fun r_ D6 hq4 hok hD9 => ?_)
      obtain rfl := hok
      replace h := h D6 hq4 hD9
      show WP mX5_seen Q 37 [vR 0, vI a, vI b] [] D6
      refine WP_aload_n (z := 0) dX5_seen_37 rfl ?_
      refine WP_iconst (z := (-1)) dX5_seen_38 rfl ⟨by decide, by decide⟩ ?_
      refine WP_putI dX5_seen_39 fp_RX5_46 rfl rfl ?_
      obtain ⟨E10, hE11⟩ : ∃ E10 : HP, E10 = (hu D6 0 7 (-1)) := ⟨_, rfl⟩
      replace h := h E10 hE11
      show WP mX5_seen Q 42 [vR 0, vI a, vI b] [] (hu D6 0 7 (-1))
      rw [← hE11]
      refine WP_aload_n (z := 0) dX5_seen_42 rfl ?_
      refine WP_getR (z := 41) dX5_seen_43 fl_RX5_32 rfl rfl rfl ?_
      refine WP_getI dX5_seen_46 fl_RX5_201 rfl rfl rfl ?_
      exact WP_ireturn dX5_seen_49 rfl h
    · replace h := h.2 c2
      refine WP_bipush (z := (-4)) dX5_seen_25 rfl (by decide) ?_
      exact WP_ireturn dX5_seen_27 rfl h
  · replace h := h.1 c1
    refine WP_bipush (z := (-2)) dX5_seen_12 rfl (by decide) ?_
    exact WP_ireturn dX5_seen_14 rfl h
set_option maxRecDepth 100000 in
set_option maxHeartbeats 4000000 in
theorem V_X5_forget  {D : HP} {Q : Option MV → HP → Prop}
    (h0 : cD D → (∀ (E1 : HP), E1 = (hu D 41 0 0) → (∀ (E3 : HP), E3 = (hu E1 0 7 (-1)) → (Q (some (vI (D 41 0))) E3))))
    : CT mX5_forget [vR 0] D Q := by
  refine CT.of 1 (by decide) (Nat.le_of_ble_eq_true rfl) ?_
  show WP mX5_forget Q 0 [vR 0, vU] [] D
  refine WP_cD (fun hcD => ?_)
  have h := h0 hcD
  refine WP_aload_n (z := 0) dX5_forget_0 rfl ?_
  refine WP_getR (z := 41) dX5_forget_1 fl_RX5_32 rfl rfl rfl ?_
  refine WP_getI dX5_forget_4 fl_RX5_201 rfl rfl rfl ?_
  refine WP_istore_n (ls1 := [vR 0, vI (D 41 0)]) dX5_forget_7 (by decide) rfl ?_
  refine WP_aload_n (z := 0) dX5_forget_8 rfl ?_
  refine WP_getR (z := 41) dX5_forget_9 fl_RX5_32 rfl rfl rfl ?_
  refine WP_iconst (z := 0) dX5_forget_12 rfl ⟨by decide, by decide⟩ ?_
  refine WP_putI dX5_forget_13 fp_RX5_201 rfl rfl ?_
  obtain ⟨E1, hE2⟩ : ∃ E1 : HP, E1 = (hu D 41 0 0) := ⟨_, rfl⟩
  replace h := h E1 hE2
  show WP mX5_forget Q 16 [vR 0, vI (D 41 0)] [] (hu D 41 0 0)
  rw [← hE2]
  refine WP_aload_n (z := 0) dX5_forget_16 rfl ?_
  refine WP_iconst (z := (-1)) dX5_forget_17 rfl ⟨by decide, by decide⟩ ?_
  refine WP_putI dX5_forget_18 fp_RX5_46 rfl rfl ?_
  obtain ⟨E3, hE4⟩ : ∃ E3 : HP, E3 = (hu E1 0 7 (-1)) := ⟨_, rfl⟩
  replace h := h E3 hE4
  show WP mX5_forget Q 21 [vR 0, vI (D 41 0)] [] (hu E1 0 7 (-1))
  rw [← hE4]
  refine WP_iload_n (z := (D 41 0)) dX5_forget_21 rfl ?_
  exact WP_ireturn dX5_forget_22 rfl h
def fX5_isSheet (D : HP) (a : Int) : Int := (if a < 0 then (0 : Int) else (if 4 ≤ a then (0 : Int) else 1))
theorem bfX5_isSheet (D : HP) (a : Int) : fX5_isSheet D a = 0 ∨ fX5_isSheet D a = 1 := by unfold fX5_isSheet; exact (bool_ite (Or.inl rfl) (bool_ite (Or.inl rfl) (Or.inr rfl)))
def oX5_isSheet (D : HP) (a : Int) : Prop := True
set_option maxRecDepth 100000 in
set_option maxHeartbeats 4000000 in
theorem V_X5_isSheet (a : Int) {D : HP} {Q : Option MV → HP → Prop}
    (h0 : cD D → c32 a → (Q (some (vI (if a < 0 then (0 : Int) else (if 4 ≤ a then (0 : Int) else 1)))) D))
    : CT mX5_isSheet [vI a] D Q := by
  refine CT.of 0 (by decide) (Nat.le_of_ble_eq_true rfl) ?_
  show WP mX5_isSheet Q 0 [vI a] [] D
  refine WP_cD (fun hcD => ?_)
  refine WP_cl (fun hcl => ?_)
  have h := h0 hcD (cVs_g hcl (i := 0) (v := vI a) rfl)
  refine WP_iload_n (z := a) dX5_isSheet_0 rfl ?_
  refine WP_via (pc1 := 14) (ls1 := [vI a]) (st1 := [vI (if a < 0 then (0 : Int) else (if 4 ≤ a then (0 : Int) else 1))]) (D1 := D) (fun hJ1 => ?_) ?_
  · refine WP_if_lt (tgt := 13) dX5_isSheet_1 (by decide) (fun c2 => ?_) (fun c2 => ?_)
    · replace hJ1 := ite_t (P := fun v_ : Int => WP mX5_isSheet Q 14 [vI a] [vI v_] D) hJ1 c2
      refine WP_iconst (z := 0) dX5_isSheet_13 rfl ⟨by decide, by decide⟩ ?_
      exact hJ1
    · replace hJ1 := ite_f (P := fun v_ : Int => WP mX5_isSheet Q 14 [vI a] [vI v_] D) hJ1 c2
      refine WP_iload_n (z := a) dX5_isSheet_4 rfl ?_
      refine WP_iconst (z := 4) dX5_isSheet_5 rfl ⟨by decide, by decide⟩ ?_
      refine WP_via (pc1 := 14) (ls1 := [vI a]) (st1 := [vI (if 4 ≤ a then (0 : Int) else 1)]) (D1 := D) (fun hJ3 => ?_) ?_
      · refine WP_icmp_ge (tgt := 13) dX5_isSheet_6 (by decide) (fun c4 => ?_) (fun c4 => ?_)
        · replace hJ3 := ite_t (P := fun v_ : Int => WP mX5_isSheet Q 14 [vI a] [vI v_] D) hJ3 c4
          refine WP_iconst (z := 0) dX5_isSheet_13 rfl ⟨by decide, by decide⟩ ?_
          exact hJ3
        · replace hJ3 := ite_f (P := fun v_ : Int => WP mX5_isSheet Q 14 [vI a] [vI v_] D) hJ3 c4
          refine WP_iconst (z := 1) dX5_isSheet_9 rfl ⟨by decide, by decide⟩ ?_
          refine WP_goto (tgt := 14) dX5_isSheet_10 (by decide) ?_
          exact hJ3
      exact hJ1
  · exact WP_zreturn dX5_isSheet_14 rfl (bool_ite (Or.inl rfl) (bool_ite (Or.inl rfl) (Or.inr rfl))) h
set_option maxRecDepth 100000 in
set_option maxHeartbeats 4000000 in
theorem P_X5_isSheet {a : Int} {D : HP} (hob : oX5_isSheet D a) : CT mX5_isSheet [vI a] D (PF (vI (fX5_isSheet D a)) D) := by
  refine V_X5_isSheet a (fun hcD hc_0 => ?_)
  obtain ⟨z, hz⟩ : ∃ z, z = fX5_isSheet D a := ⟨_, rfl⟩
  rw [← hz]
  unfold fX5_isSheet at hz
  exact ⟨by rw [hz], rfl⟩
set_option maxRecDepth 100000 in
set_option maxHeartbeats 4000000 in
theorem V_X5_finding (a : Int) {D : HP} {Q : Option MV → HP → Prop}
    (h0 : cD D → c32 a → (∀ (E1 : HP), E1 = (hu D 0 6 a) → ((c32 ((-10) - a)) ∧ (Q (some (vI ((-10) - a))) E1))))
    : CT mX5_finding [vR 0, vI a] D Q := by
  refine CT.of 0 (by decide) (Nat.le_of_ble_eq_true rfl) ?_
  show WP mX5_finding Q 0 [vR 0, vI a] [] D
  refine WP_cD (fun hcD => ?_)
  refine WP_cl (fun hcl => ?_)
  have h := h0 hcD (cVs_g hcl (i := 1) (v := vI a) rfl)
  refine WP_aload_n (z := 0) dX5_finding_0 rfl ?_
  refine WP_iload_n (z := a) dX5_finding_1 rfl ?_
  refine WP_putI dX5_finding_2 fp_RX5_42 rfl rfl ?_
  obtain ⟨E1, hE2⟩ : ∃ E1 : HP, E1 = (hu D 0 6 a) := ⟨_, rfl⟩
  replace h := h E1 hE2
  show WP mX5_finding Q 5 [vR 0, vI a] [] (hu D 0 6 a)
  rw [← hE2]
  refine WP_bipush (z := (-10)) dX5_finding_5 rfl (by decide) ?_
  refine WP_iload_n (z := a) dX5_finding_7 rfl ?_
  obtain ⟨o3, h⟩ := h
  refine WP_isub (z := ((-10) - a)) dX5_finding_8 (w32_id o3) ?_
  exact WP_ireturn dX5_finding_9 rfl h
set_option maxRecDepth 100000 in
set_option maxHeartbeats 4000000 in
theorem V_X5_read (a : Int) {D : HP} {Q : Option MV → HP → Prop} (I42 : Int → Int → Int → HP → Prop) (u42 : Int → Int → Int → HP → Nat)
    (h0 : cD D → c32 a → (((fX5_isSheet D a) = 0 → (Q (some (vI (-2))) D)) ∧ (¬ ((fX5_isSheet D a) = 0) → ((0 ≤ a ∧ a < 4) ∧ (((fX3_isLost D (45 + a.toNat)) = 0 → ((0 ≤ a ∧ a < 4) ∧ ((0 ≤ (D (45 + a.toNat) 1)) ∧ (I42 a ((D (45 + a.toNat) 1) / 2) 0 D)))) ∧ (¬ ((fX3_isLost D (45 + a.toNat)) = 0) → (∃ Q6 : Option MV → HP → Prop, CT mX5_finding [vR 0, vI 1] D Q6 ∧ ∀ (r10 : Int) (D9 : HP), Q6 (some (vI r10)) D9 → c32 r10 → cD D9 → (Q (some (vI r10)) D9))))))))
    (h42 : ∀ (x1 x2 x3 : Int) (D : HP), I42 x1 x2 x3 D → cD D → c32 x1 → c32 x2 → c32 x3 → ((x2 ≤ x3 → (Q (some (vI x2)) D)) ∧ (¬ (x2 ≤ x3) → ((0 ≤ x1 ∧ x1 < 4) ∧ ((c32 (2 * x3)) ∧ ((oX3_item D (45 + x1.toNat) (2 * x3)) ∧ ((0 ≤ x1 ∧ x1 < 4) ∧ ((c32 (2 * x3)) ∧ ((c32 ((2 * x3) + 1)) ∧ ((oX3_item D (45 + x1.toNat) ((2 * x3) + 1)) ∧ (∃ Q16 : Option MV → HP → Prop, CT mX5_seen [vR 0, vI (fX3_item D (45 + x1.toNat) (2 * x3)), vI (fX3_item D (45 + x1.toNat) ((2 * x3) + 1))] D Q16 ∧ ∀ (r20 : Int) (D19 : HP), Q16 (some (vI r20)) D19 → c32 r20 → cD D19 → ((0 ≤ r20 → ((c32 (x3 + 1)) ∧ (I42 x1 x2 (x3 + 1) D19 ∧ u42 x1 x2 (x3 + 1) D19 < u42 x1 x2 x3 D))) ∧ (¬ (0 ≤ r20) → (Q (some (vI x3)) D19))))))))))))))
    : CT mX5_read [vR 0, vI a] D Q := by
  refine CT.of 2 (by decide) (Nat.le_of_ble_eq_true rfl) ?_
  show WP mX5_read Q 0 [vR 0, vI a, vU, vU] [] D
  have IH : ∀ n : Nat, (∀ (x1 x2 x3 : Int) (D : HP), I42 x1 x2 x3 D → u42 x1 x2 x3 D * 1 + 0 < n → WP mX5_read Q 42 [vR 0, vI x1, vI x2, vI x3] [] D) := by
    intro n
    induction n with
    | zero => exact fun _ _ _ _ _ h => absurd h (Nat.not_lt_zero _)
    | succ n ih =>
      have ih42_ := ih
      · intro x1 x2 x3 D hI hn
        refine WP_cD (fun hcD => ?_)
        refine WP_cl (fun hcl => ?_)
        have h := h42 x1 x2 x3 D hI hcD (cVs_g hcl (i := 1) (v := vI x1) rfl) (cVs_g hcl (i := 2) (v := vI x2) rfl) (cVs_g hcl (i := 3) (v := vI x3) rfl)
        refine WP_iload_n (z := x3) dX5_read_42 rfl ?_
        refine WP_iload_n (z := x2) dX5_read_43 rfl ?_
        refine WP_icmp_ge (tgt := 88) dX5_read_44 (by decide) (fun c13 => ?_) (fun c13 => ?_)
        · replace h := h.1 c13
          refine WP_iload_n (z := x2) dX5_read_88 rfl ?_
          exact WP_ireturn dX5_read_89 rfl h
        · replace h := h.2 c13
          refine WP_aload_n (z := 0) dX5_read_47 rfl ?_
          refine WP_aload_n (z := 0) dX5_read_48 rfl ?_
          refine WP_getR (z := 44) dX5_read_49 fl_RX5_38 rfl rfl rfl ?_
          refine WP_iload_n (z := x1) dX5_read_52 rfl ?_
          obtain ⟨o14, h⟩ := h
          refine WP_aald5 (z := (45 + x1.toNat)) dX5_read_53 rfl o14.1 o14.2 (srSE o14) ?_
          refine WP_iconst (z := 2) dX5_read_54 rfl ⟨by decide, by decide⟩ ?_
          refine WP_iload_n (z := x3) dX5_read_55 rfl ?_
          obtain ⟨o29, h⟩ := h
          refine WP_imul (z := (2 * x3)) dX5_read_56 (w32_id o29) ?_
          obtain ⟨o28, h⟩ := h
          refine WP_pcallV (g := mX3_item) (as := [vI (2 * x3)]) (rest := [vR 0]) (n := 1) (r := vI (fX3_item D (45 + x1.toNat) (2 * x3))) dX5_read_57 wm_675 mo_X3_item (kcSE_0 o14) rfl rfl rfl ⟨Nat.le_of_ble_eq_true rfl, Nat.le_of_ble_eq_true rfl⟩ (Nat.le_of_ble_eq_true rfl) (P_X3_item (hSE o14) o28) ?_
          refine WP_aload_n (z := 0) dX5_read_60 rfl ?_
          refine WP_getR (z := 44) dX5_read_61 fl_RX5_38 rfl rfl rfl ?_
          refine WP_iload_n (z := x1) dX5_read_64 rfl ?_
          obtain ⟨o15, h⟩ := h
          refine WP_aald5 (z := (45 + x1.toNat)) dX5_read_65 rfl o15.1 o15.2 (srSE o15) ?_
          refine WP_iconst (z := 2) dX5_read_66 rfl ⟨by decide, by decide⟩ ?_
          refine WP_iload_n (z := x3) dX5_read_67 rfl ?_
          obtain ⟨o27, h⟩ := h
          refine WP_imul (z := (2 * x3)) dX5_read_68 (w32_id o27) ?_
          refine WP_iconst (z := 1) dX5_read_69 rfl ⟨by decide, by decide⟩ ?_
          obtain ⟨o26, h⟩ := h
          refine WP_iadd (z := ((2 * x3) + 1)) dX5_read_70 (w32_id o26) ?_
          obtain ⟨o25, h⟩ := h
          refine WP_pcallV (g := mX3_item) (as := [vI ((2 * x3) + 1)]) (rest := [vI (fX3_item D (45 + x1.toNat) (2 * x3)), vR 0]) (n := 1) (r := vI (fX3_item D (45 + x1.toNat) ((2 * x3) + 1))) dX5_read_71 wm_675 mo_X3_item (kcSE_0 o15) rfl rfl rfl ⟨Nat.le_of_ble_eq_true rfl, Nat.le_of_ble_eq_true rfl⟩ (Nat.le_of_ble_eq_true rfl) (P_X3_item (hSE o15) o25) ?_
          obtain ⟨Q16, ct18, h⟩ := h
          refine WP_callV (g := mX5_seen) (as := [vI (fX3_item D (45 + x1.toNat) (2 * x3)), vI (fX3_item D (45 + x1.toNat) ((2 * x3) + 1))]) (rest := []) (n := 2) dX5_read_74 wm_679 mo_X5_seen rfl rfl rfl rfl ⟨Nat.le_of_ble_eq_true rfl, Nat.le_of_ble_eq_true rfl⟩ (Nat.le_of_ble_eq_true rfl) ct18 (fun r_ D19 hq17 hok hD22 => ?_)
          obtain ⟨r20, rfl, hr21⟩ := hok
          replace h := h r20 D19 hq17 hr21 hD22
          show WP mX5_read Q 77 [vR 0, vI x1, vI x2, vI x3] [vI r20] D19
          refine WP_if_ge (tgt := 82) dX5_read_77 (by decide) (fun c23 => ?_) (fun c23 => ?_)
          · replace h := h.1 c23
            obtain ⟨o24, h⟩ := h
            refine WP_iinc (z := (x3 + 1)) (ls1 := [vR 0, vI x1, vI x2, vI (x3 + 1)]) dX5_read_82 rfl (w32_id o24) (by decide) rfl ?_
            refine WP_goto (tgt := 42) dX5_read_85 (by decide) ?_
            exact ih42_ _ _ _ _ h.1 (by have := h.2; omega)
          · replace h := h.2 c23
            refine WP_iload_n (z := x3) dX5_read_80 rfl ?_
            exact WP_ireturn dX5_read_81 rfl h
  have cut42_ : ∀ (x1 x2 x3 : Int) (D : HP), I42 x1 x2 x3 D → WP mX5_read Q 42 [vR 0, vI x1, vI x2, vI x3] [] D := fun x1 x2 x3 D hI => (IH (u42 x1 x2 x3 D * 1 + 0 + 1)) x1 x2 x3 D hI (by omega)
  refine WP_cD (fun hcD => ?_)
  refine WP_cl (fun hcl => ?_)
  have h := h0 hcD (cVs_g hcl (i := 1) (v := vI a) rfl)
  refine WP_iload_n (z := a) dX5_read_0 rfl ?_
  refine WP_pcallS (g := mX5_isSheet) (as := [vI a]) (rest := []) (n := 1) (r := vI (fX5_isSheet D a)) dX5_read_1 wm_664 mo_X5_isSheet rfl rfl ⟨Nat.le_of_ble_eq_true rfl, Nat.le_of_ble_eq_true rfl⟩ (Nat.le_of_ble_eq_true rfl) (P_X5_isSheet  trivial) ?_
  refine WP_if_ne (tgt := 10) dX5_read_4 (by decide) (fun c1 => ?_) (fun c1 => ?_)
  · replace h := h.2 c1
    refine WP_aload_n (z := 0) dX5_read_10 rfl ?_
    refine WP_getR (z := 44) dX5_read_11 fl_RX5_38 rfl rfl rfl ?_
    refine WP_iload_n (z := a) dX5_read_14 rfl ?_
    obtain ⟨o2, h⟩ := h
    refine WP_aald5 (z := (45 + a.toNat)) dX5_read_15 rfl o2.1 o2.2 (srSE o2) ?_
    refine WP_pcallV (g := mX3_isLost) (as := []) (rest := []) (n := 0) (r := vI (fX3_isLost D (45 + a.toNat))) dX5_read_16 wm_667 mo_X3_isLost (kcSE_0 o2) rfl rfl rfl ⟨Nat.le_of_ble_eq_true rfl, Nat.le_of_ble_eq_true rfl⟩ (Nat.le_of_ble_eq_true rfl) (P_X3_isLost (hSE o2) trivial) ?_
    refine WP_if_eq (tgt := 28) dX5_read_19 (by decide) (fun c3 => ?_) (fun c3 => ?_)
    · replace h := h.1 c3
      refine WP_aload_n (z := 0) dX5_read_28 rfl ?_
      refine WP_getR (z := 44) dX5_read_29 fl_RX5_38 rfl rfl rfl ?_
      refine WP_iload_n (z := a) dX5_read_32 rfl ?_
      obtain ⟨o4, h⟩ := h
      refine WP_aald5 (z := (45 + a.toNat)) dX5_read_33 rfl o4.1 o4.2 (srSE o4) ?_
      refine WP_getI dX5_read_34 fl_RX5_213 (kcSE_0 o4) rfl rfl ?_
      refine WP_iconst (z := 2) dX5_read_37 rfl ⟨by decide, by decide⟩ ?_
      obtain ⟨o5, h⟩ := h
      refine WP_idiv dX5_read_38 o5 (by decide) rfl ?_
      refine WP_istore_n (ls1 := [vR 0, vI a, vI ((D (45 + a.toNat) 1) / 2), vU]) dX5_read_39 (by decide) rfl ?_
      refine WP_iconst (z := 0) dX5_read_40 rfl ⟨by decide, by decide⟩ ?_
      refine WP_istore_n (ls1 := [vR 0, vI a, vI ((D (45 + a.toNat) 1) / 2), vI 0]) dX5_read_41 (by decide) rfl ?_
      exact cut42_ _ _ _ _ h
    · replace h := h.2 c3
      refine WP_aload_n (z := 0) dX5_read_22 rfl ?_
      refine WP_iconst (z := 1) dX5_read_23 rfl ⟨by decide, by decide⟩ ?_
      obtain ⟨Q6, ct8, h⟩ := h
      refine WP_callV (g := mX5_finding) (as := [vI 1]) (rest := []) (n := 1) dX5_read_24 wm_671 mo_X5_finding rfl rfl rfl rfl ⟨Nat.le_of_ble_eq_true rfl, Nat.le_of_ble_eq_true rfl⟩ (Nat.le_of_ble_eq_true rfl) ct8 (fun r_ D9 hq7 hok hD12 => ?_)
      obtain ⟨r10, rfl, hr11⟩ := hok
      replace h := h r10 D9 hq7 hr11 hD12
      show WP mX5_read Q 27 [vR 0, vI a, vU, vU] [vI r10] D9
      exact WP_ireturn dX5_read_27 rfl h
  · replace h := h.1 c1
    refine WP_bipush (z := (-2)) dX5_read_7 rfl (by decide) ?_
    exact WP_ireturn dX5_read_9 rfl h
set_option maxRecDepth 100000 in
set_option maxHeartbeats 4000000 in
theorem V_X5_tallyTrial  {D : HP} {Q : Option MV → HP → Prop} (I2 : Int → HP → Prop) (u2 : Int → HP → Nat)
    (h0 : cD D → (I2 0 D))
    (h2 : ∀ (x1 : Int) (D : HP), I2 x1 D → cD D → c32 x1 → (((D 26 2) ≤ x1 → (Q none D)) ∧ (¬ ((D 26 2) ≤ x1) → ((12 ≤ x1 → (Q none D)) ∧ (¬ (12 ≤ x1) → ((oX0_whoIsIn D 25 x1) ∧ (∀ (v3 : Int), v3 = (if (fX0_whoIsIn D 25 x1) = (-1) then (8 : Int) else (fX0_whoIsIn D 25 x1)) → ((c32 (x1 * 9)) ∧ ((c32 ((x1 * 9) + v3)) ∧ ((0 ≤ ((x1 * 9) + v3) ∧ ((x1 * 9) + v3) < 108) ∧ ((c32 ((D 53 (((x1 * 9) + v3)).toNat) + 1)) ∧ ((0 ≤ ((x1 * 9) + v3) ∧ ((x1 * 9) + v3) < 108) ∧ (∀ (E5 : HP), E5 = (hu D 53 (((x1 * 9) + v3)).toNat ((D 53 (((x1 * 9) + v3)).toNat) + 1)) → ((c32 (x1 + 1)) ∧ (I2 (x1 + 1) E5 ∧ u2 (x1 + 1) E5 < u2 x1 D)))))))))))))))
    : CT mX5_tallyTrial [vR 0] D Q := by
  refine CT.of 3 (by decide) (Nat.le_of_ble_eq_true rfl) ?_
  show WP mX5_tallyTrial Q 0 [vR 0, vU, vU, vU] [] D
  have IH : ∀ n : Nat, (∀ (x1 : Int) (D : HP), I2 x1 D → u2 x1 D * 1 + 0 < n → WP mX5_tallyTrial Q 2 [vR 0, vI x1, vU, vU] [] D) := by
    intro n
    induction n with
    | zero => exact fun _ _ _ h => absurd h (Nat.not_lt_zero _)
    | succ n ih =>
      have ih2_ := ih
      · intro x1 D hI hn
        refine WP_cD (fun hcD => ?_)
        refine WP_cl (fun hcl => ?_)
        have h := h2 x1 D hI hcD (cVs_g hcl (i := 1) (v := vI x1) rfl)
        refine WP_iload_n (z := x1) dX5_tallyTrial_2 rfl ?_
        refine WP_aload_n (z := 0) dX5_tallyTrial_3 rfl ?_
        refine WP_getR (z := 25) dX5_tallyTrial_4 fl_RX5_26 rfl rfl rfl ?_
        refine WP_getR (z := 26) dX5_tallyTrial_7 fl_RX5_91 rfl rfl rfl ?_
        refine WP_getI dX5_tallyTrial_10 fl_RX5_150 rfl rfl rfl ?_
        refine WP_icmp_ge (tgt := 64) dX5_tallyTrial_13 (by decide) (fun c1 => ?_) (fun c1 => ?_)
        · replace h := h.1 c1
          exact WP_return dX5_tallyTrial_64 rfl h
        · replace h := h.2 c1
          refine WP_iload_n (z := x1) dX5_tallyTrial_16 rfl ?_
          refine WP_bipush (z := 12) dX5_tallyTrial_17 rfl (by decide) ?_
          refine WP_icmp_ge (tgt := 64) dX5_tallyTrial_19 (by decide) (fun c2 => ?_) (fun c2 => ?_)
          · replace h := h.1 c2
            exact WP_return dX5_tallyTrial_64 rfl h
          · replace h := h.2 c2
            refine WP_aload_n (z := 0) dX5_tallyTrial_22 rfl ?_
            refine WP_getR (z := 25) dX5_tallyTrial_23 fl_RX5_26 rfl rfl rfl ?_
            refine WP_iload_n (z := x1) dX5_tallyTrial_26 rfl ?_
            obtain ⟨o15, h⟩ := h
            refine WP_pcallV (g := mX0_whoIsIn) (as := [vI x1]) (rest := []) (n := 1) (r := vI (fX0_whoIsIn D 25 x1)) dX5_tallyTrial_27 wm_500 mo_X0_whoIsIn rfl rfl rfl rfl ⟨Nat.le_of_ble_eq_true rfl, Nat.le_of_ble_eq_true rfl⟩ (Nat.le_of_ble_eq_true rfl) (P_X0_whoIsIn (by decide) o15) ?_
            refine WP_istore_n (ls1 := [vR 0, vI x1, vI (fX0_whoIsIn D 25 x1), vU]) dX5_tallyTrial_30 (by decide) rfl ?_
            refine WP_iload_n (z := (fX0_whoIsIn D 25 x1)) dX5_tallyTrial_31 rfl ?_
            refine WP_iconst (z := (-1)) dX5_tallyTrial_32 rfl ⟨by decide, by decide⟩ ?_
            refine WP_via (pc1 := 42) (ls1 := [vR 0, vI x1, vI (fX0_whoIsIn D 25 x1), vU]) (st1 := [vI (if (fX0_whoIsIn D 25 x1) = (-1) then (8 : Int) else (fX0_whoIsIn D 25 x1))]) (D1 := D) (fun hJ13 => ?_) ?_
            · refine WP_icmp_ne (tgt := 41) dX5_tallyTrial_33 (by decide) (fun c14 => ?_) (fun c14 => ?_)
              · replace hJ13 := ite_f (P := fun v_ : Int => WP mX5_tallyTrial Q 42 [vR 0, vI x1, vI (fX0_whoIsIn D 25 x1), vU] [vI v_] D) hJ13 c14
                refine WP_iload_n (z := (fX0_whoIsIn D 25 x1)) dX5_tallyTrial_41 rfl ?_
                exact hJ13
              · replace hJ13 := ite_t (P := fun v_ : Int => WP mX5_tallyTrial Q 42 [vR 0, vI x1, vI (fX0_whoIsIn D 25 x1), vU] [vI v_] D) hJ13 c14
                refine WP_bipush (z := 8) dX5_tallyTrial_36 rfl (by decide) ?_
                refine WP_goto (tgt := 42) dX5_tallyTrial_38 (by decide) ?_
                exact hJ13
            · refine WP_istore_n (ls1 := [vR 0, vI x1, vI (fX0_whoIsIn D 25 x1), vI (if (fX0_whoIsIn D 25 x1) = (-1) then (8 : Int) else (fX0_whoIsIn D 25 x1))]) dX5_tallyTrial_42 (by decide) rfl ?_
              obtain ⟨v3, hv4⟩ : ∃ v3 : Int, v3 = (if (fX0_whoIsIn D 25 x1) = (-1) then (8 : Int) else (fX0_whoIsIn D 25 x1)) := ⟨_, rfl⟩
              replace h := h v3 hv4
              rw [← hv4]
              refine WP_aload_n (z := 0) dX5_tallyTrial_43 rfl ?_
              refine WP_getR (z := 53) dX5_tallyTrial_44 fl_RX5_53 rfl rfl rfl ?_
              refine WP_iload_n (z := x1) dX5_tallyTrial_47 rfl ?_
              refine WP_bipush (z := 9) dX5_tallyTrial_48 rfl (by decide) ?_
              obtain ⟨o12, h⟩ := h
              refine WP_imul (z := (x1 * 9)) dX5_tallyTrial_50 (w32_id o12) ?_
              refine WP_iload_n (z := v3) dX5_tallyTrial_51 rfl ?_
              obtain ⟨o11, h⟩ := h
              refine WP_iadd (z := ((x1 * 9) + v3)) dX5_tallyTrial_52 (w32_id o11) ?_
              refine WP_dup2 dX5_tallyTrial_53 (Nat.ne_of_beq_eq_false rfl) (Nat.ne_of_beq_eq_false rfl) ?_
              obtain ⟨o10, h⟩ := h
              refine WP_iald dX5_tallyTrial_54 rfl o10.1 o10.2 rfl ?_
              refine WP_iconst (z := 1) dX5_tallyTrial_55 rfl ⟨by decide, by decide⟩ ?_
              obtain ⟨o9, h⟩ := h
              refine WP_iadd (z := ((D 53 (((x1 * 9) + v3)).toNat) + 1)) dX5_tallyTrial_56 (w32_id o9) ?_
              obtain ⟨o8, h⟩ := h
              refine WP_iast dX5_tallyTrial_57 rfl o8.1 o8.2 ?_
              obtain ⟨E5, hE6⟩ : ∃ E5 : HP, E5 = (hu D 53 (((x1 * 9) + v3)).toNat ((D 53 (((x1 * 9) + v3)).toNat) + 1)) := ⟨_, rfl⟩
              replace h := h E5 hE6
              show WP mX5_tallyTrial Q 58 [vR 0, vI x1, vI (fX0_whoIsIn D 25 x1), vI v3] [] (hu D 53 (((x1 * 9) + v3)).toNat ((D 53 (((x1 * 9) + v3)).toNat) + 1))
              rw [← hE6]
              obtain ⟨o7, h⟩ := h
              refine WP_iinc (z := (x1 + 1)) (ls1 := [vR 0, vI (x1 + 1), vI (fX0_whoIsIn D 25 x1), vI v3]) dX5_tallyTrial_58 rfl (w32_id o7) (by decide) rfl ?_
              refine WP_goto (tgt := 2) dX5_tallyTrial_61 (by decide) ?_
              refine WP_fg 2 (ls1 := [vR 0, vI (x1 + 1), vU, vI v3]) rfl ?_
              refine WP_fg 3 (ls1 := [vR 0, vI (x1 + 1), vU, vU]) rfl ?_
              exact ih2_ _ _ h.1 (by have := h.2; omega)
  have cut2_ : ∀ (x1 : Int) (D : HP), I2 x1 D → WP mX5_tallyTrial Q 2 [vR 0, vI x1, vU, vU] [] D := fun x1 D hI => (IH (u2 x1 D * 1 + 0 + 1)) x1 D hI (by omega)
  refine WP_cD (fun hcD => ?_)
  have h := h0 hcD
  refine WP_iconst (z := 0) dX5_tallyTrial_0 rfl ⟨by decide, by decide⟩ ?_
  refine WP_istore_n (ls1 := [vR 0, vI 0, vU, vU]) dX5_tallyTrial_1 (by decide) rfl ?_
  exact cut2_ _ _ h
set_option maxRecDepth 100000 in
set_option maxHeartbeats 4000000 in
theorem V_X5_inquire (a : Int) {D : HP} {Q : Option MV → HP → Prop} (I64 : Int → Int → HP → Prop) (u64 : Int → Int → HP → Nat)
    (h0 : cD D → c32 a → (((D 0 7) = a → (Q none D)) ∧ (¬ ((D 0 7) = a) → (((fX5_isMinute D a) = 0 → (Q none D)) ∧ (¬ ((fX5_isMinute D a) = 0) → (∃ Q3 : Option MV → HP → Prop, CT mJ7_fill_53178 [vR 53, vI 0] D Q3 ∧ ∀ (D6 : HP), Q3 none D6 → cD D6 → (∀ (E10 : HP), E10 = (hu D6 0 8 0) → (∃ Q12 : Option MV → HP → Prop, CT mX1_tellAs [vR 26, vR 10] E10 Q12 ∧ ∀ (D15 : HP), Q12 none D15 → cD D15 → (∃ Q19 : Option MV → HP → Prop, CT mX0_start [vR 25] D15 Q19 ∧ ∀ (D22 : HP), Q19 none D22 → cD D22 → (∃ Q26 : Option MV → HP → Prop, CT mX0_runOnFrom [vR 25, vI 0] D22 Q26 ∧ ∀ (D29 : HP), Q26 none D29 → cD D29 → (I64 a 0 D29)))))))))))
    (h64 : ∀ (x1 x2 : Int) (D : HP), I64 x1 x2 D → cD D → c32 x1 → c32 x2 → ((40 ≤ x2 → (∀ (E34 : HP), E34 = (hu D 0 7 x1) → (Q none E34))) ∧ (¬ (40 ≤ x2) → ((0 ≤ x2) ∧ ((0 ≤ x1 ∧ x1 < 12) ∧ (∀ (E36 : HP), E36 = (hu D 30 x1.toNat (x2 / 10)) → ((0 ≤ x2) ∧ ((0 ≤ x1 ∧ x1 < 12) ∧ (∀ (E38 : HP), E38 = (hu E36 31 x1.toNat (x2 % 10)) → (∃ Q40 : Option MV → HP → Prop, CT mX0_runOnFrom [vR 25, vI x1] E38 Q40 ∧ ∀ (D43 : HP), Q40 none D43 → cD D43 → (((fX4_comeOutSo D43 25) = 0 → ((c32 (x2 + 1)) ∧ (I64 x1 (x2 + 1) D43 ∧ u64 x1 (x2 + 1) D43 < u64 x1 x2 D))) ∧ (¬ ((fX4_comeOutSo D43 25) = 0) → (∀ (E49 : HP), E49 = (hu D43 0 8 (b_lor (D43 0 8) (b_lshl 1 x2))) → (∃ Q51 : Option MV → HP → Prop, CT mX5_tallyTrial [vR 0] E49 Q51 ∧ ∀ (D54 : HP), Q51 none D54 → cD D54 → ((c32 (x2 + 1)) ∧ (I64 x1 (x2 + 1) D54 ∧ u64 x1 (x2 + 1) D54 < u64 x1 x2 D))))))))))))))))
    : CT mX5_inquire [vR 0, vI a] D Q := by
  refine CT.of 1 (by decide) (Nat.le_of_ble_eq_true rfl) ?_
  show WP mX5_inquire Q 0 [vR 0, vI a, vU] [] D
  have IH : ∀ n : Nat, (∀ (x1 x2 : Int) (D : HP), I64 x1 x2 D → u64 x1 x2 D * 1 + 0 < n → WP mX5_inquire Q 64 [vR 0, vI x1, vI x2] [] D) := by
    intro n
    induction n with
    | zero => exact fun _ _ _ _ h => absurd h (Nat.not_lt_zero _)
    | succ n ih =>
      have ih64_ := ih
      · intro x1 x2 D hI hn
        refine WP_cD (fun hcD => ?_)
        refine WP_cl (fun hcl => ?_)
        have h := h64 x1 x2 D hI hcD (cVs_g hcl (i := 1) (v := vI x1) rfl) (cVs_g hcl (i := 2) (v := vI x2) rfl)
        refine WP_iload_n (z := x2) dX5_inquire_64 rfl ?_
        refine WP_bipush (z := 40) dX5_inquire_65 rfl (by decide) ?_
        refine WP_icmp_ge (tgt := 146) dX5_inquire_67 (by decide) (fun c33 => ?_) (fun c33 => ?_)
        · replace h := h.1 c33
          refine WP_aload_n (z := 0) dX5_inquire_146 rfl ?_
          refine WP_iload_n (z := x1) dX5_inquire_147 rfl ?_
          refine WP_putI dX5_inquire_148 fp_RX5_46 rfl rfl ?_
          obtain ⟨E34, hE35⟩ : ∃ E34 : HP, E34 = (hu D 0 7 x1) := ⟨_, rfl⟩
          replace h := h E34 hE35
          show WP mX5_inquire Q 151 [vR 0, vI x1, vI x2] [] (hu D 0 7 x1)
          rw [← hE35]
          exact WP_return dX5_inquire_151 rfl h
        · replace h := h.2 c33
          refine WP_aload_n (z := 0) dX5_inquire_70 rfl ?_
          refine WP_getR (z := 25) dX5_inquire_71 fl_RX5_26 rfl rfl rfl ?_
          refine WP_getR (z := 26) dX5_inquire_74 fl_RX5_91 rfl rfl rfl ?_
          refine WP_getR (z := 30) dX5_inquire_77 fl_RX5_106 rfl rfl rfl ?_
          refine WP_iload_n (z := x1) dX5_inquire_80 rfl ?_
          refine WP_iload_n (z := x2) dX5_inquire_81 rfl ?_
          refine WP_bipush (z := 10) dX5_inquire_82 rfl (by decide) ?_
          obtain ⟨o62, h⟩ := h
          refine WP_idiv dX5_inquire_84 o62 (by decide) rfl ?_
          obtain ⟨o61, h⟩ := h
          refine WP_iast dX5_inquire_85 rfl o61.1 o61.2 ?_
          obtain ⟨E36, hE37⟩ : ∃ E36 : HP, E36 = (hu D 30 x1.toNat (x2 / 10)) := ⟨_, rfl⟩
          replace h := h E36 hE37
          show WP mX5_inquire Q 86 [vR 0, vI x1, vI x2] [] (hu D 30 x1.toNat (x2 / 10))
          rw [← hE37]
          refine WP_aload_n (z := 0) dX5_inquire_86 rfl ?_
          refine WP_getR (z := 25) dX5_inquire_87 fl_RX5_26 rfl rfl rfl ?_
          refine WP_getR (z := 26) dX5_inquire_90 fl_RX5_91 rfl rfl rfl ?_
          refine WP_getR (z := 31) dX5_inquire_93 fl_RX5_109 rfl rfl rfl ?_
          refine WP_iload_n (z := x1) dX5_inquire_96 rfl ?_
          refine WP_iload_n (z := x2) dX5_inquire_97 rfl ?_
          refine WP_bipush (z := 10) dX5_inquire_98 rfl (by decide) ?_
          obtain ⟨o60, h⟩ := h
          refine WP_irem dX5_inquire_100 o60 (by decide) rfl ?_
          obtain ⟨o59, h⟩ := h
          refine WP_iast dX5_inquire_101 rfl o59.1 o59.2 ?_
          obtain ⟨E38, hE39⟩ : ∃ E38 : HP, E38 = (hu E36 31 x1.toNat (x2 % 10)) := ⟨_, rfl⟩
          replace h := h E38 hE39
          show WP mX5_inquire Q 102 [vR 0, vI x1, vI x2] [] (hu E36 31 x1.toNat (x2 % 10))
          rw [← hE39]
          refine WP_aload_n (z := 0) dX5_inquire_102 rfl ?_
          refine WP_getR (z := 25) dX5_inquire_103 fl_RX5_26 rfl rfl rfl ?_
          refine WP_iload_n (z := x1) dX5_inquire_106 rfl ?_
          obtain ⟨Q40, ct42, h⟩ := h
          refine WP_callV (g := mX0_runOnFrom) (as := [vI x1]) (rest := []) (n := 1) dX5_inquire_107 wm_703 mo_X0_runOnFrom rfl rfl rfl rfl ⟨Nat.le_of_ble_eq_true rfl, Nat.le_of_ble_eq_true rfl⟩ (Nat.le_of_ble_eq_true rfl) ct42 (fun r_ D43 hq41 hok hD46 => ?_)
          obtain rfl := hok
          replace h := h D43 hq41 hD46
          show WP mX5_inquire Q 110 [vR 0, vI x1, vI x2] [] D43
          refine WP_aload_n (z := 0) dX5_inquire_110 rfl ?_
          refine WP_getR (z := 41) dX5_inquire_111 fl_RX5_32 rfl rfl rfl ?_
          refine WP_aload_n (z := 0) dX5_inquire_114 rfl ?_
          refine WP_getR (z := 25) dX5_inquire_115 fl_RX5_26 rfl rfl rfl ?_
          refine WP_pcallV (g := mX4_comeOutSo) (as := [vR 25]) (rest := []) (n := 1) (r := vI (fX4_comeOutSo D43 25)) dX5_inquire_118 wm_704 mo_X4_comeOutSo rfl rfl rfl rfl ⟨Nat.le_of_ble_eq_true rfl, Nat.le_of_ble_eq_true rfl⟩ (Nat.le_of_ble_eq_true rfl) (P_X4_comeOutSo (by decide) trivial) ?_
          refine WP_if_eq (tgt := 140) dX5_inquire_121 (by decide) (fun c47 => ?_) (fun c47 => ?_)
          · replace h := h.1 c47
            obtain ⟨o48, h⟩ := h
            refine WP_iinc (z := (x2 + 1)) (ls1 := [vR 0, vI x1, vI (x2 + 1)]) dX5_inquire_140 rfl (w32_id o48) (by decide) rfl ?_
            refine WP_goto (tgt := 64) dX5_inquire_143 (by decide) ?_
            exact ih64_ _ _ _ h.1 (by have := h.2; omega)
          · replace h := h.2 c47
            refine WP_aload_n (z := 0) dX5_inquire_124 rfl ?_
            refine WP_dup dX5_inquire_125 (Nat.ne_of_beq_eq_false rfl) ?_
            refine WP_getL dX5_inquire_126 fl_RX5_49 rfl rfl rfl ?_
            refine WP_lconst (z := 1) dX5_inquire_129 rfl ?_
            refine WP_iload_n (z := x2) dX5_inquire_130 rfl ?_
            refine WP_lshl dX5_inquire_131 rfl ?_
            refine WP_lor dX5_inquire_132 rfl ?_
            refine WP_putL dX5_inquire_133 fp_RX5_49 rfl rfl ?_
            obtain ⟨E49, hE50⟩ : ∃ E49 : HP, E49 = (hu D43 0 8 (b_lor (D43 0 8) (b_lshl 1 x2))) := ⟨_, rfl⟩
            replace h := h E49 hE50
            show WP mX5_inquire Q 136 [vR 0, vI x1, vI x2] [] (hu D43 0 8 (b_lor (D43 0 8) (b_lshl 1 x2)))
            rw [← hE50]
            refine WP_aload_n (z := 0) dX5_inquire_136 rfl ?_
            obtain ⟨Q51, ct53, h⟩ := h
            refine WP_callV (g := mX5_tallyTrial) (as := []) (rest := []) (n := 0) dX5_inquire_137 wm_711 mo_X5_tallyTrial rfl rfl rfl rfl ⟨Nat.le_of_ble_eq_true rfl, Nat.le_of_ble_eq_true rfl⟩ (Nat.le_of_ble_eq_true rfl) ct53 (fun r_ D54 hq52 hok hD57 => ?_)
            obtain rfl := hok
            replace h := h D54 hq52 hD57
            show WP mX5_inquire Q 140 [vR 0, vI x1, vI x2] [] D54
            obtain ⟨o58, h⟩ := h
            refine WP_iinc (z := (x2 + 1)) (ls1 := [vR 0, vI x1, vI (x2 + 1)]) dX5_inquire_140 rfl (w32_id o58) (by decide) rfl ?_
            refine WP_goto (tgt := 64) dX5_inquire_143 (by decide) ?_
            exact ih64_ _ _ _ h.1 (by have := h.2; omega)
  have cut64_ : ∀ (x1 x2 : Int) (D : HP), I64 x1 x2 D → WP mX5_inquire Q 64 [vR 0, vI x1, vI x2] [] D := fun x1 x2 D hI => (IH (u64 x1 x2 D * 1 + 0 + 1)) x1 x2 D hI (by omega)
  refine WP_cD (fun hcD => ?_)
  refine WP_cl (fun hcl => ?_)
  have h := h0 hcD (cVs_g hcl (i := 1) (v := vI a) rfl)
  refine WP_aload_n (z := 0) dX5_inquire_0 rfl ?_
  refine WP_getI dX5_inquire_1 fl_RX5_46 rfl rfl rfl ?_
  refine WP_iload_n (z := a) dX5_inquire_4 rfl ?_
  refine WP_icmp_eq (tgt := 16) dX5_inquire_5 (by decide) (fun c1 => ?_) (fun c1 => ?_)
  · replace h := h.1 c1
    exact WP_return dX5_inquire_16 rfl h
  · replace h := h.2 c1
    refine WP_aload_n (z := 0) dX5_inquire_8 rfl ?_
    refine WP_iload_n (z := a) dX5_inquire_9 rfl ?_
    refine WP_pcallV (g := mX5_isMinute) (as := [vI a]) (rest := []) (n := 1) (r := vI (fX5_isMinute D a)) dX5_inquire_10 wm_353 mo_X5_isMinute rfl rfl rfl rfl ⟨Nat.le_of_ble_eq_true rfl, Nat.le_of_ble_eq_true rfl⟩ (Nat.le_of_ble_eq_true rfl) (P_X5_isMinute  trivial) ?_
    refine WP_if_ne (tgt := 17) dX5_inquire_13 (by decide) (fun c2 => ?_) (fun c2 => ?_)
    · replace h := h.2 c2
      refine WP_aload_n (z := 0) dX5_inquire_17 rfl ?_
      refine WP_getR (z := 53) dX5_inquire_18 fl_RX5_53 rfl rfl rfl ?_
      refine WP_iconst (z := 0) dX5_inquire_21 rfl ⟨by decide, by decide⟩ ?_
      obtain ⟨Q3, ct5, h⟩ := h
      refine WP_callS (g := mJ7_fill_53178) (as := [vR 53, vI 0]) (rest := []) (n := 2) dX5_inquire_22 wm_701 mo_J7_fill_53178 rfl rfl ⟨Nat.le_of_ble_eq_true rfl, Nat.le_of_ble_eq_true rfl⟩ (Nat.le_of_ble_eq_true rfl) ct5 (fun r_ D6 hq4 hok hD9 => ?_)
      obtain rfl := hok
      replace h := h D6 hq4 hD9
      show WP mX5_inquire Q 25 [vR 0, vI a, vU] [] D6
      refine WP_aload_n (z := 0) dX5_inquire_25 rfl ?_
      refine WP_lconst (z := 0) dX5_inquire_26 rfl ?_
      refine WP_putL dX5_inquire_27 fp_RX5_49 rfl rfl ?_
      obtain ⟨E10, hE11⟩ : ∃ E10 : HP, E10 = (hu D6 0 8 0) := ⟨_, rfl⟩
      replace h := h E10 hE11
      show WP mX5_inquire Q 30 [vR 0, vI a, vU] [] (hu D6 0 8 0)
      rw [← hE11]
      refine WP_aload_n (z := 0) dX5_inquire_30 rfl ?_
      refine WP_getR (z := 25) dX5_inquire_31 fl_RX5_26 rfl rfl rfl ?_
      refine WP_getR (z := 26) dX5_inquire_34 fl_RX5_91 rfl rfl rfl ?_
      refine WP_aload_n (z := 0) dX5_inquire_37 rfl ?_
      refine WP_getR (z := 9) dX5_inquire_38 fl_RX5_22 rfl rfl rfl ?_
      refine WP_getR (z := 10) dX5_inquire_41 fl_RX5_91 rfl rfl rfl ?_
      obtain ⟨Q12, ct14, h⟩ := h
      refine WP_callV (g := mX1_tellAs) (as := [vR 10]) (rest := []) (n := 1) dX5_inquire_44 wm_538 mo_X1_tellAs rfl rfl rfl rfl ⟨Nat.le_of_ble_eq_true rfl, Nat.le_of_ble_eq_true rfl⟩ (Nat.le_of_ble_eq_true rfl) ct14 (fun r_ D15 hq13 hok hD18 => ?_)
      obtain rfl := hok
      replace h := h D15 hq13 hD18
      show WP mX5_inquire Q 47 [vR 0, vI a, vU] [] D15
      refine WP_aload_n (z := 0) dX5_inquire_47 rfl ?_
      refine WP_getR (z := 25) dX5_inquire_48 fl_RX5_26 rfl rfl rfl ?_
      obtain ⟨Q19, ct21, h⟩ := h
      refine WP_callV (g := mX0_start) (as := []) (rest := []) (n := 0) dX5_inquire_51 wm_702 mo_X0_start rfl rfl rfl rfl ⟨Nat.le_of_ble_eq_true rfl, Nat.le_of_ble_eq_true rfl⟩ (Nat.le_of_ble_eq_true rfl) ct21 (fun r_ D22 hq20 hok hD25 => ?_)
      obtain rfl := hok
      replace h := h D22 hq20 hD25
      show WP mX5_inquire Q 54 [vR 0, vI a, vU] [] D22
      refine WP_aload_n (z := 0) dX5_inquire_54 rfl ?_
      refine WP_getR (z := 25) dX5_inquire_55 fl_RX5_26 rfl rfl rfl ?_
      refine WP_iconst (z := 0) dX5_inquire_58 rfl ⟨by decide, by decide⟩ ?_
      obtain ⟨Q26, ct28, h⟩ := h
      refine WP_callV (g := mX0_runOnFrom) (as := [vI 0]) (rest := []) (n := 1) dX5_inquire_59 wm_703 mo_X0_runOnFrom rfl rfl rfl rfl ⟨Nat.le_of_ble_eq_true rfl, Nat.le_of_ble_eq_true rfl⟩ (Nat.le_of_ble_eq_true rfl) ct28 (fun r_ D29 hq27 hok hD32 => ?_)
      obtain rfl := hok
      replace h := h D29 hq27 hD32
      show WP mX5_inquire Q 62 [vR 0, vI a, vU] [] D29
      refine WP_iconst (z := 0) dX5_inquire_62 rfl ⟨by decide, by decide⟩ ?_
      refine WP_istore_n (ls1 := [vR 0, vI a, vI 0]) dX5_inquire_63 (by decide) rfl ?_
      exact cut64_ _ _ _ h
    · replace h := h.1 c2
      exact WP_return dX5_inquire_16 rfl h
set_option maxRecDepth 100000 in
set_option maxHeartbeats 4000000 in
theorem V_X5_blew (a : Int) (b : Int) {D : HP} {Q : Option MV → HP → Prop} (I32 : Int → Int → Int → Int → HP → Prop) (u32 : Int → Int → Int → Int → HP → Nat)
    (h0 : cD D → c32 a → c32 b → (((fX5_isMinute D a) = 0 → (Q (some (vI (-2))) D)) ∧ (¬ ((fX5_isMinute D a) = 0) → ((b < (-1) → (Q (some (vI (-2))) D)) ∧ (¬ (b < (-1)) → ((b < 40 → (∃ Q4 : Option MV → HP → Prop, CT mX5_inquire [vR 0, vI a] D Q4 ∧ ∀ (D7 : HP), Q4 none D7 → cD D7 → (I32 a b 0 0 D7))) ∧ (¬ (b < 40) → (Q (some (vI (-2))) D))))))))
    (h32 : ∀ (x1 x2 x3 x4 : Int) (D : HP), I32 x1 x2 x3 x4 D → cD D → c32 x1 → c32 x2 → c32 x3 → c32 x4 → ((40 ≤ x4 → (Q (some (vI (if x2 = (-1) then (x3 : Int) else (-1)))) D)) ∧ (¬ (40 ≤ x4) → (((if 1 < (b_land (b_lshr (D 0 8) x4) 1) then (1 : Int) else if (b_land (b_lshr (D 0 8) x4) 1) = 1 then 0 else -1) = 0 → ((x3 = x2 → (Q (some (vI x4)) D)) ∧ (¬ (x3 = x2) → ((c32 (x3 + 1)) ∧ ((c32 (x4 + 1)) ∧ (I32 x1 x2 (x3 + 1) (x4 + 1) D ∧ u32 x1 x2 (x3 + 1) (x4 + 1) D < u32 x1 x2 x3 x4 D)))))) ∧ (¬ ((if 1 < (b_land (b_lshr (D 0 8) x4) 1) then (1 : Int) else if (b_land (b_lshr (D 0 8) x4) 1) = 1 then 0 else -1) = 0) → ((c32 (x4 + 1)) ∧ (I32 x1 x2 x3 (x4 + 1) D ∧ u32 x1 x2 x3 (x4 + 1) D < u32 x1 x2 x3 x4 D)))))))
    : CT mX5_blew [vR 0, vI a, vI b] D Q := by
  refine CT.of 2 (by decide) (Nat.le_of_ble_eq_true rfl) ?_
  show WP mX5_blew Q 0 [vR 0, vI a, vI b, vU, vU] [] D
  have IH : ∀ n : Nat, (∀ (x1 x2 x3 x4 : Int) (D : HP), I32 x1 x2 x3 x4 D → u32 x1 x2 x3 x4 D * 1 + 0 < n → WP mX5_blew Q 32 [vR 0, vI x1, vI x2, vI x3, vI x4] [] D) := by
    intro n
    induction n with
    | zero => exact fun _ _ _ _ _ _ h => absurd h (Nat.not_lt_zero _)
    | succ n ih =>
      have ih32_ := ih
      · intro x1 x2 x3 x4 D hI hn
        refine WP_cD (fun hcD => ?_)
        refine WP_cl (fun hcl => ?_)
        have h := h32 x1 x2 x3 x4 D hI hcD (cVs_g hcl (i := 1) (v := vI x1) rfl) (cVs_g hcl (i := 2) (v := vI x2) rfl) (cVs_g hcl (i := 3) (v := vI x3) rfl) (cVs_g hcl (i := 4) (v := vI x4) rfl)
        refine WP_iload (z := x4) dX5_blew_32 rfl ?_
        refine WP_bipush (z := 40) dX5_blew_34 rfl (by decide) ?_
        refine WP_icmp_ge (tgt := 70) dX5_blew_36 (by decide) (fun c11 => ?_) (fun c11 => ?_)
        · replace h := h.1 c11
          refine WP_iload_n (z := x2) dX5_blew_70 rfl ?_
          refine WP_iconst (z := (-1)) dX5_blew_71 rfl ⟨by decide, by decide⟩ ?_
          refine WP_via (pc1 := 80) (ls1 := [vR 0, vI x1, vI x2, vI x3, vI x4]) (st1 := [vI (if x2 = (-1) then (x3 : Int) else (-1))]) (D1 := D) (fun hJ12 => ?_) ?_
          · refine WP_icmp_ne (tgt := 79) dX5_blew_72 (by decide) (fun c13 => ?_) (fun c13 => ?_)
            · replace hJ12 := ite_f (P := fun v_ : Int => WP mX5_blew Q 80 [vR 0, vI x1, vI x2, vI x3, vI x4] [vI v_] D) hJ12 c13
              refine WP_iconst (z := (-1)) dX5_blew_79 rfl ⟨by decide, by decide⟩ ?_
              exact hJ12
            · replace hJ12 := ite_t (P := fun v_ : Int => WP mX5_blew Q 80 [vR 0, vI x1, vI x2, vI x3, vI x4] [vI v_] D) hJ12 c13
              refine WP_iload_n (z := x3) dX5_blew_75 rfl ?_
              refine WP_goto (tgt := 80) dX5_blew_76 (by decide) ?_
              exact hJ12
          · exact WP_ireturn dX5_blew_80 rfl h
        · replace h := h.2 c11
          refine WP_aload_n (z := 0) dX5_blew_39 rfl ?_
          refine WP_getL dX5_blew_40 fl_RX5_49 rfl rfl rfl ?_
          refine WP_iload (z := x4) dX5_blew_43 rfl ?_
          refine WP_lshr dX5_blew_45 rfl ?_
          refine WP_lconst (z := 1) dX5_blew_46 rfl ?_
          refine WP_land dX5_blew_47 rfl ?_
          refine WP_lconst (z := 1) dX5_blew_48 rfl ?_
          refine WP_lcmp dX5_blew_49 rfl ?_
          refine WP_if_ne (tgt := 64) dX5_blew_50 (by decide) (fun c14 => ?_) (fun c14 => ?_)
          · replace h := h.2 c14
            obtain ⟨o18, h⟩ := h
            refine WP_iinc (z := (x4 + 1)) (ls1 := [vR 0, vI x1, vI x2, vI x3, vI (x4 + 1)]) dX5_blew_64 rfl (w32_id o18) (by decide) rfl ?_
            refine WP_goto (tgt := 32) dX5_blew_67 (by decide) ?_
            exact ih32_ _ _ _ _ _ h.1 (by have := h.2; omega)
          · replace h := h.1 c14
            refine WP_iload_n (z := x3) dX5_blew_53 rfl ?_
            refine WP_iload_n (z := x2) dX5_blew_54 rfl ?_
            refine WP_icmp_ne (tgt := 61) dX5_blew_55 (by decide) (fun c15 => ?_) (fun c15 => ?_)
            · replace h := h.2 c15
              obtain ⟨o17, h⟩ := h
              refine WP_iinc (z := (x3 + 1)) (ls1 := [vR 0, vI x1, vI x2, vI (x3 + 1), vI x4]) dX5_blew_61 rfl (w32_id o17) (by decide) rfl ?_
              obtain ⟨o16, h⟩ := h
              refine WP_iinc (z := (x4 + 1)) (ls1 := [vR 0, vI x1, vI x2, vI (x3 + 1), vI (x4 + 1)]) dX5_blew_64 rfl (w32_id o16) (by decide) rfl ?_
              refine WP_goto (tgt := 32) dX5_blew_67 (by decide) ?_
              exact ih32_ _ _ _ _ _ h.1 (by have := h.2; omega)
            · replace h := h.1 c15
              refine WP_iload (z := x4) dX5_blew_58 rfl ?_
              exact WP_ireturn dX5_blew_60 rfl h
  have cut32_ : ∀ (x1 x2 x3 x4 : Int) (D : HP), I32 x1 x2 x3 x4 D → WP mX5_blew Q 32 [vR 0, vI x1, vI x2, vI x3, vI x4] [] D := fun x1 x2 x3 x4 D hI => (IH (u32 x1 x2 x3 x4 D * 1 + 0 + 1)) x1 x2 x3 x4 D hI (by omega)
  refine WP_cD (fun hcD => ?_)
  refine WP_cl (fun hcl => ?_)
  have h := h0 hcD (cVs_g hcl (i := 1) (v := vI a) rfl) (cVs_g hcl (i := 2) (v := vI b) rfl)
  refine WP_aload_n (z := 0) dX5_blew_0 rfl ?_
  refine WP_iload_n (z := a) dX5_blew_1 rfl ?_
  refine WP_pcallV (g := mX5_isMinute) (as := [vI a]) (rest := []) (n := 1) (r := vI (fX5_isMinute D a)) dX5_blew_2 wm_353 mo_X5_isMinute rfl rfl rfl rfl ⟨Nat.le_of_ble_eq_true rfl, Nat.le_of_ble_eq_true rfl⟩ (Nat.le_of_ble_eq_true rfl) (P_X5_isMinute  trivial) ?_
  refine WP_if_eq (tgt := 19) dX5_blew_5 (by decide) (fun c1 => ?_) (fun c1 => ?_)
  · replace h := h.1 c1
    refine WP_bipush (z := (-2)) dX5_blew_19 rfl (by decide) ?_
    exact WP_ireturn dX5_blew_21 rfl h
  · replace h := h.2 c1
    refine WP_iload_n (z := b) dX5_blew_8 rfl ?_
    refine WP_iconst (z := (-1)) dX5_blew_9 rfl ⟨by decide, by decide⟩ ?_
    refine WP_icmp_lt (tgt := 19) dX5_blew_10 (by decide) (fun c2 => ?_) (fun c2 => ?_)
    · replace h := h.1 c2
      refine WP_bipush (z := (-2)) dX5_blew_19 rfl (by decide) ?_
      exact WP_ireturn dX5_blew_21 rfl h
    · replace h := h.2 c2
      refine WP_iload_n (z := b) dX5_blew_13 rfl ?_
      refine WP_bipush (z := 40) dX5_blew_14 rfl (by decide) ?_
      refine WP_icmp_lt (tgt := 22) dX5_blew_16 (by decide) (fun c3 => ?_) (fun c3 => ?_)
      · replace h := h.1 c3
        refine WP_aload_n (z := 0) dX5_blew_22 rfl ?_
        refine WP_iload_n (z := a) dX5_blew_23 rfl ?_
        obtain ⟨Q4, ct6, h⟩ := h
        refine WP_callV (g := mX5_inquire) (as := [vI a]) (rest := []) (n := 1) dX5_blew_24 wm_697 mo_X5_inquire rfl rfl rfl rfl ⟨Nat.le_of_ble_eq_true rfl, Nat.le_of_ble_eq_true rfl⟩ (Nat.le_of_ble_eq_true rfl) ct6 (fun r_ D7 hq5 hok hD10 => ?_)
        obtain rfl := hok
        replace h := h D7 hq5 hD10
        show WP mX5_blew Q 27 [vR 0, vI a, vI b, vU, vU] [] D7
        refine WP_iconst (z := 0) dX5_blew_27 rfl ⟨by decide, by decide⟩ ?_
        refine WP_istore_n (ls1 := [vR 0, vI a, vI b, vI 0, vU]) dX5_blew_28 (by decide) rfl ?_
        refine WP_iconst (z := 0) dX5_blew_29 rfl ⟨by decide, by decide⟩ ?_
        refine WP_istore (ls1 := [vR 0, vI a, vI b, vI 0, vI 0]) dX5_blew_30 (by decide) rfl ?_
        exact cut32_ _ _ _ _ _ h
      · replace h := h.2 c3
        refine WP_bipush (z := (-2)) dX5_blew_19 rfl (by decide) ?_
        exact WP_ireturn dX5_blew_21 rfl h
set_option maxRecDepth 100000 in
set_option maxHeartbeats 4000000 in
theorem V_X5_had (a : Int) {D : HP} {Q : Option MV → HP → Prop} (I32 : Int → Int → Int → HP → Prop) (u32 : Int → Int → Int → HP → Nat)
    (h0 : cD D → c32 a → (((fX5_isCandidate D a) = 0 → (Q (some (vI (-2))) D)) ∧ (¬ ((fX5_isCandidate D a) = 0) → (∃ Q2 : Option MV → HP → Prop, CT mX1_tellAs [vR 26, vR 10] D Q2 ∧ ∀ (D5 : HP), Q2 none D5 → cD D5 → (I32 a 0 1 D5)))))
    (h32 : ∀ (x1 x2 x3 : Int) (D : HP), I32 x1 x2 x3 D → cD D → c32 x1 → c32 x2 → c32 x3 → ((9 < x3 → (Q (some (vI x2)) D)) ∧ (¬ (9 < x3) → ((0 ≤ x1 ∧ x1 < 8) ∧ (∀ (E10 : HP), E10 = (hu D 33 x1.toNat x3) → (∃ Q12 : Option MV → HP → Prop, CT mX0_run [vR 25] E10 Q12 ∧ ∀ (D15 : HP), Q12 none D15 → cD D15 → ((c32 (x3 + 1)) ∧ (I32 x1 (if (fX4_comeOutSo D15 25) = 0 then (x2 : Int) else (b_ior x2 (b_ishl 1 x3))) (x3 + 1) D15 ∧ u32 x1 (if (fX4_comeOutSo D15 25) = 0 then (x2 : Int) else (b_ior x2 (b_ishl 1 x3))) (x3 + 1) D15 < u32 x1 x2 x3 D))))))))
    : CT mX5_had [vR 0, vI a] D Q := by
  refine CT.of 2 (by decide) (Nat.le_of_ble_eq_true rfl) ?_
  show WP mX5_had Q 0 [vR 0, vI a, vU, vU] [] D
  have IH : ∀ n : Nat, (∀ (x1 x2 x3 : Int) (D : HP), I32 x1 x2 x3 D → u32 x1 x2 x3 D * 1 + 0 < n → WP mX5_had Q 32 [vR 0, vI x1, vI x2, vI x3] [] D) := by
    intro n
    induction n with
    | zero => exact fun _ _ _ _ _ h => absurd h (Nat.not_lt_zero _)
    | succ n ih =>
      have ih32_ := ih
      · intro x1 x2 x3 D hI hn
        refine WP_cD (fun hcD => ?_)
        refine WP_cl (fun hcl => ?_)
        have h := h32 x1 x2 x3 D hI hcD (cVs_g hcl (i := 1) (v := vI x1) rfl) (cVs_g hcl (i := 2) (v := vI x2) rfl) (cVs_g hcl (i := 3) (v := vI x3) rfl)
        refine WP_iload_n (z := x3) dX5_had_32 rfl ?_
        refine WP_bipush (z := 9) dX5_had_33 rfl (by decide) ?_
        refine WP_icmp_gt (tgt := 84) dX5_had_35 (by decide) (fun c9 => ?_) (fun c9 => ?_)
        · replace h := h.1 c9
          refine WP_iload_n (z := x2) dX5_had_84 rfl ?_
          exact WP_ireturn dX5_had_85 rfl h
        · replace h := h.2 c9
          refine WP_aload_n (z := 0) dX5_had_38 rfl ?_
          refine WP_getR (z := 25) dX5_had_39 fl_RX5_26 rfl rfl rfl ?_
          refine WP_getR (z := 26) dX5_had_42 fl_RX5_91 rfl rfl rfl ?_
          refine WP_getR (z := 33) dX5_had_45 fl_RX5_118 rfl rfl rfl ?_
          refine WP_iload_n (z := x1) dX5_had_48 rfl ?_
          refine WP_iload_n (z := x3) dX5_had_49 rfl ?_
          obtain ⟨o22, h⟩ := h
          refine WP_iast dX5_had_50 rfl o22.1 o22.2 ?_
          obtain ⟨E10, hE11⟩ : ∃ E10 : HP, E10 = (hu D 33 x1.toNat x3) := ⟨_, rfl⟩
          replace h := h E10 hE11
          show WP mX5_had Q 51 [vR 0, vI x1, vI x2, vI x3] [] (hu D 33 x1.toNat x3)
          rw [← hE11]
          refine WP_aload_n (z := 0) dX5_had_51 rfl ?_
          refine WP_getR (z := 25) dX5_had_52 fl_RX5_26 rfl rfl rfl ?_
          obtain ⟨Q12, ct14, h⟩ := h
          refine WP_callV (g := mX0_run) (as := []) (rest := []) (n := 0) dX5_had_55 wm_201 mo_X0_run rfl rfl rfl rfl ⟨Nat.le_of_ble_eq_true rfl, Nat.le_of_ble_eq_true rfl⟩ (Nat.le_of_ble_eq_true rfl) ct14 (fun r_ D15 hq13 hok hD18 => ?_)
          obtain rfl := hok
          replace h := h D15 hq13 hD18
          show WP mX5_had Q 58 [vR 0, vI x1, vI x2, vI x3] [] D15
          refine WP_aload_n (z := 0) dX5_had_58 rfl ?_
          refine WP_getR (z := 41) dX5_had_59 fl_RX5_32 rfl rfl rfl ?_
          refine WP_aload_n (z := 0) dX5_had_62 rfl ?_
          refine WP_getR (z := 25) dX5_had_63 fl_RX5_26 rfl rfl rfl ?_
          refine WP_pcallV (g := mX4_comeOutSo) (as := [vR 25]) (rest := []) (n := 1) (r := vI (fX4_comeOutSo D15 25)) dX5_had_66 wm_704 mo_X4_comeOutSo rfl rfl rfl rfl ⟨Nat.le_of_ble_eq_true rfl, Nat.le_of_ble_eq_true rfl⟩ (Nat.le_of_ble_eq_true rfl) (P_X4_comeOutSo (by decide) trivial) ?_
          refine WP_via (pc1 := 78) (ls1 := [vR 0, vI x1, vI (if (fX4_comeOutSo D15 25) = 0 then (x2 : Int) else (b_ior x2 (b_ishl 1 x3))), vI x3]) (st1 := []) (D1 := D15) (fun hJ20 => ?_) ?_
          · refine WP_if_eq (tgt := 78) dX5_had_69 (by decide) (fun c21 => ?_) (fun c21 => ?_)
            · replace hJ20 := ite_t (P := fun v_ : Int => WP mX5_had Q 78 [vR 0, vI x1, vI v_, vI x3] [] D15) hJ20 c21
              exact hJ20
            · replace hJ20 := ite_f (P := fun v_ : Int => WP mX5_had Q 78 [vR 0, vI x1, vI v_, vI x3] [] D15) hJ20 c21
              refine WP_iload_n (z := x2) dX5_had_72 rfl ?_
              refine WP_iconst (z := 1) dX5_had_73 rfl ⟨by decide, by decide⟩ ?_
              refine WP_iload_n (z := x3) dX5_had_74 rfl ?_
              refine WP_ishl dX5_had_75 rfl ?_
              refine WP_ior dX5_had_76 rfl ?_
              refine WP_istore_n (ls1 := [vR 0, vI x1, vI (b_ior x2 (b_ishl 1 x3)), vI x3]) dX5_had_77 (by decide) rfl ?_
              exact hJ20
          · obtain ⟨o19, h⟩ := h
            refine WP_iinc (z := (x3 + 1)) (ls1 := [vR 0, vI x1, vI (if (fX4_comeOutSo D15 25) = 0 then (x2 : Int) else (b_ior x2 (b_ishl 1 x3))), vI (x3 + 1)]) dX5_had_78 rfl (w32_id o19) (by decide) rfl ?_
            refine WP_goto (tgt := 32) dX5_had_81 (by decide) ?_
            exact ih32_ _ _ _ _ h.1 (by have := h.2; omega)
  have cut32_ : ∀ (x1 x2 x3 : Int) (D : HP), I32 x1 x2 x3 D → WP mX5_had Q 32 [vR 0, vI x1, vI x2, vI x3] [] D := fun x1 x2 x3 D hI => (IH (u32 x1 x2 x3 D * 1 + 0 + 1)) x1 x2 x3 D hI (by omega)
  refine WP_cD (fun hcD => ?_)
  refine WP_cl (fun hcl => ?_)
  have h := h0 hcD (cVs_g hcl (i := 1) (v := vI a) rfl)
  refine WP_aload_n (z := 0) dX5_had_0 rfl ?_
  refine WP_iload_n (z := a) dX5_had_1 rfl ?_
  refine WP_pcallV (g := mX5_isCandidate) (as := [vI a]) (rest := []) (n := 1) (r := vI (fX5_isCandidate D a)) dX5_had_2 wm_373 mo_X5_isCandidate rfl rfl rfl rfl ⟨Nat.le_of_ble_eq_true rfl, Nat.le_of_ble_eq_true rfl⟩ (Nat.le_of_ble_eq_true rfl) (P_X5_isCandidate  trivial) ?_
  refine WP_if_ne (tgt := 11) dX5_had_5 (by decide) (fun c1 => ?_) (fun c1 => ?_)
  · replace h := h.2 c1
    refine WP_aload_n (z := 0) dX5_had_11 rfl ?_
    refine WP_getR (z := 25) dX5_had_12 fl_RX5_26 rfl rfl rfl ?_
    refine WP_getR (z := 26) dX5_had_15 fl_RX5_91 rfl rfl rfl ?_
    refine WP_aload_n (z := 0) dX5_had_18 rfl ?_
    refine WP_getR (z := 9) dX5_had_19 fl_RX5_22 rfl rfl rfl ?_
    refine WP_getR (z := 10) dX5_had_22 fl_RX5_91 rfl rfl rfl ?_
    obtain ⟨Q2, ct4, h⟩ := h
    refine WP_callV (g := mX1_tellAs) (as := [vR 10]) (rest := []) (n := 1) dX5_had_25 wm_538 mo_X1_tellAs rfl rfl rfl rfl ⟨Nat.le_of_ble_eq_true rfl, Nat.le_of_ble_eq_true rfl⟩ (Nat.le_of_ble_eq_true rfl) ct4 (fun r_ D5 hq3 hok hD8 => ?_)
    obtain rfl := hok
    replace h := h D5 hq3 hD8
    show WP mX5_had Q 28 [vR 0, vI a, vU, vU] [] D5
    refine WP_iconst (z := 0) dX5_had_28 rfl ⟨by decide, by decide⟩ ?_
    refine WP_istore_n (ls1 := [vR 0, vI a, vI 0, vU]) dX5_had_29 (by decide) rfl ?_
    refine WP_iconst (z := 1) dX5_had_30 rfl ⟨by decide, by decide⟩ ?_
    refine WP_istore_n (ls1 := [vR 0, vI a, vI 0, vI 1]) dX5_had_31 (by decide) rfl ?_
    exact cut32_ _ _ _ _ h
  · replace h := h.1 c1
    refine WP_bipush (z := (-2)) dX5_had_8 rfl (by decide) ?_
    exact WP_ireturn dX5_had_10 rfl h
def fX5_greatestTally (D : HP) (a : Int) : Int := mxN (fun c => D 53 (a * 9 + (c : Int)).toNat) 9
def oX5_greatestTally (D : HP) (a : Int) : Prop := 0 ≤ a ∧ a < 12
set_option maxRecDepth 100000 in
set_option maxHeartbeats 4000000 in
theorem V_X5_greatestTally (a : Int) {D : HP} {Q : Option MV → HP → Prop} (I4 : Int → Int → Int → HP → Prop) (u4 : Int → Int → Int → HP → Nat)
    (h0 : cD D → c32 a → (I4 a 0 0 D))
    (h4 : ∀ (x1 x2 x3 : Int) (D : HP), I4 x1 x2 x3 D → cD D → c32 x1 → c32 x2 → c32 x3 → ((8 < x3 → (Q (some (vI x2)) D)) ∧ (¬ (8 < x3) → ((c32 (x1 * 9)) ∧ ((c32 ((x1 * 9) + x3)) ∧ ((0 ≤ ((x1 * 9) + x3) ∧ ((x1 * 9) + x3) < 108) ∧ ((c32 (x3 + 1)) ∧ (I4 x1 (if x2 < (D 53 (((x1 * 9) + x3)).toNat) then ((D 53 (((x1 * 9) + x3)).toNat) : Int) else x2) (x3 + 1) D ∧ u4 x1 (if x2 < (D 53 (((x1 * 9) + x3)).toNat) then ((D 53 (((x1 * 9) + x3)).toNat) : Int) else x2) (x3 + 1) D < u4 x1 x2 x3 D))))))))
    : CT mX5_greatestTally [vR 0, vI a] D Q := by
  refine CT.of 2 (by decide) (Nat.le_of_ble_eq_true rfl) ?_
  show WP mX5_greatestTally Q 0 [vR 0, vI a, vU, vU] [] D
  have IH : ∀ n : Nat, (∀ (x1 x2 x3 : Int) (D : HP), I4 x1 x2 x3 D → u4 x1 x2 x3 D * 1 + 0 < n → WP mX5_greatestTally Q 4 [vR 0, vI x1, vI x2, vI x3] [] D) := by
    intro n
    induction n with
    | zero => exact fun _ _ _ _ _ h => absurd h (Nat.not_lt_zero _)
    | succ n ih =>
      have ih4_ := ih
      · intro x1 x2 x3 D hI hn
        refine WP_cD (fun hcD => ?_)
        refine WP_cl (fun hcl => ?_)
        have h := h4 x1 x2 x3 D hI hcD (cVs_g hcl (i := 1) (v := vI x1) rfl) (cVs_g hcl (i := 2) (v := vI x2) rfl) (cVs_g hcl (i := 3) (v := vI x3) rfl)
        refine WP_iload_n (z := x3) dX5_greatestTally_4 rfl ?_
        refine WP_bipush (z := 8) dX5_greatestTally_5 rfl (by decide) ?_
        refine WP_icmp_gt (tgt := 32) dX5_greatestTally_7 (by decide) (fun c1 => ?_) (fun c1 => ?_)
        · replace h := h.1 c1
          refine WP_iload_n (z := x2) dX5_greatestTally_32 rfl ?_
          exact WP_ireturn dX5_greatestTally_33 rfl h
        · replace h := h.2 c1
          refine WP_iload_n (z := x2) dX5_greatestTally_10 rfl ?_
          refine WP_aload_n (z := 0) dX5_greatestTally_11 rfl ?_
          refine WP_getR (z := 53) dX5_greatestTally_12 fl_RX5_53 rfl rfl rfl ?_
          refine WP_iload_n (z := x1) dX5_greatestTally_15 rfl ?_
          refine WP_bipush (z := 9) dX5_greatestTally_16 rfl (by decide) ?_
          obtain ⟨o5, h⟩ := h
          refine WP_imul (z := (x1 * 9)) dX5_greatestTally_18 (w32_id o5) ?_
          refine WP_iload_n (z := x3) dX5_greatestTally_19 rfl ?_
          obtain ⟨o4, h⟩ := h
          refine WP_iadd (z := ((x1 * 9) + x3)) dX5_greatestTally_20 (w32_id o4) ?_
          obtain ⟨o3, h⟩ := h
          refine WP_iald dX5_greatestTally_21 rfl o3.1 o3.2 rfl ?_
          refine WP_max dX5_greatestTally_22 wm_751 w_max ⟨Nat.le_of_ble_eq_true rfl, Nat.le_of_ble_eq_true rfl⟩ (Nat.le_of_ble_eq_true rfl) rfl ?_
          refine WP_istore_n (ls1 := [vR 0, vI x1, vI (if x2 < (D 53 (((x1 * 9) + x3)).toNat) then ((D 53 (((x1 * 9) + x3)).toNat) : Int) else x2), vI x3]) dX5_greatestTally_25 (by decide) rfl ?_
          obtain ⟨o2, h⟩ := h
          refine WP_iinc (z := (x3 + 1)) (ls1 := [vR 0, vI x1, vI (if x2 < (D 53 (((x1 * 9) + x3)).toNat) then ((D 53 (((x1 * 9) + x3)).toNat) : Int) else x2), vI (x3 + 1)]) dX5_greatestTally_26 rfl (w32_id o2) (by decide) rfl ?_
          refine WP_goto (tgt := 4) dX5_greatestTally_29 (by decide) ?_
          exact ih4_ _ _ _ _ h.1 (by have := h.2; omega)
  have cut4_ : ∀ (x1 x2 x3 : Int) (D : HP), I4 x1 x2 x3 D → WP mX5_greatestTally Q 4 [vR 0, vI x1, vI x2, vI x3] [] D := fun x1 x2 x3 D hI => (IH (u4 x1 x2 x3 D * 1 + 0 + 1)) x1 x2 x3 D hI (by omega)
  refine WP_cD (fun hcD => ?_)
  refine WP_cl (fun hcl => ?_)
  have h := h0 hcD (cVs_g hcl (i := 1) (v := vI a) rfl)
  refine WP_iconst (z := 0) dX5_greatestTally_0 rfl ⟨by decide, by decide⟩ ?_
  refine WP_istore_n (ls1 := [vR 0, vI a, vI 0, vU]) dX5_greatestTally_1 (by decide) rfl ?_
  refine WP_iconst (z := 0) dX5_greatestTally_2 rfl ⟨by decide, by decide⟩ ?_
  refine WP_istore_n (ls1 := [vR 0, vI a, vI 0, vI 0]) dX5_greatestTally_3 (by decide) rfl ?_
  exact cut4_ _ _ _ _ h
set_option maxRecDepth 100000 in
set_option maxHeartbeats 4000000 in
theorem P_X5_greatestTally {a : Int} {D : HP} (hob : oX5_greatestTally D a) : CT mX5_greatestTally [vR 0, vI a] D (PF (vI (fX5_greatestTally D a)) D) := by
  unfold oX5_greatestTally at hob
  refine V_X5_greatestTally a (I4 := fun x1 x2 x3 D' => D' = D ∧ x1 = a ∧ ∃ j : Nat, x3 = j ∧ j ≤ 9 ∧ x2 = mxN (fun c => D 53 (a * 9 + (c : Int)).toNat) j) (u4 := fun _ _ x3 _ => (9 - x3).toNat) (fun _ _ => ⟨rfl, rfl, 0, rfl, by decide, rfl⟩) ?_
  rintro x1 x2 x3 D' ⟨rfl, rfl, j, rfl, hj, h1⟩ hcD c1 c2 c3
  refine ⟨fun hc => ⟨?_, rfl⟩, fun hc => ⟨?_, ?_, by omega, ?_, ⟨rfl, rfl, j + 1, by omega, by omega, ?_⟩, by omega⟩⟩
  · have : j = 9 := by omega
    subst this
    rw [h1]
    rfl
  · unfold c32; omega
  · unfold c32; omega
  · unfold c32; omega
  · rw [h1]
    rfl

set_option maxRecDepth 100000 in
set_option maxHeartbeats 4000000 in
theorem V_X5_ask (a : Int) {D : HP} {Q : Option MV → HP → Prop} (I20 : Int → Int → Int → HP → Prop) (u20 : Int → Int → Int → HP → Nat)
    (h0 : cD D → c32 a → (((fX5_isMinute D a) = 0 → (Q (some (vI (-2))) D)) ∧ (¬ ((fX5_isMinute D a) = 0) → (∃ Q2 : Option MV → HP → Prop, CT mX5_inquire [vR 0, vI a] D Q2 ∧ ∀ (D5 : HP), Q2 none D5 → cD D5 → (I20 a 0 1 D5)))))
    (h20 : ∀ (x1 x2 x3 : Int) (D : HP), I20 x1 x2 x3 D → cD D → c32 x1 → c32 x2 → c32 x3 → (((D 10 2) ≤ x3 → (Q (some (vI x2)) D)) ∧ (¬ ((D 10 2) ≤ x3) → ((12 ≤ x3 → (Q (some (vI x2)) D)) ∧ (¬ (12 ≤ x3) → ((oX5_greatestTally D x3) ∧ ((oX5_greatestTally D x2) ∧ ((c32 (x3 + 1)) ∧ (I20 x1 (if (fX5_greatestTally D x2) ≤ (fX5_greatestTally D x3) then (x2 : Int) else x3) (x3 + 1) D ∧ u20 x1 (if (fX5_greatestTally D x2) ≤ (fX5_greatestTally D x3) then (x2 : Int) else x3) (x3 + 1) D < u20 x1 x2 x3 D)))))))))
    : CT mX5_ask [vR 0, vI a] D Q := by
  refine CT.of 2 (by decide) (Nat.le_of_ble_eq_true rfl) ?_
  show WP mX5_ask Q 0 [vR 0, vI a, vU, vU] [] D
  have IH : ∀ n : Nat, (∀ (x1 x2 x3 : Int) (D : HP), I20 x1 x2 x3 D → u20 x1 x2 x3 D * 1 + 0 < n → WP mX5_ask Q 20 [vR 0, vI x1, vI x2, vI x3] [] D) := by
    intro n
    induction n with
    | zero => exact fun _ _ _ _ _ h => absurd h (Nat.not_lt_zero _)
    | succ n ih =>
      have ih20_ := ih
      · intro x1 x2 x3 D hI hn
        refine WP_cD (fun hcD => ?_)
        refine WP_cl (fun hcl => ?_)
        have h := h20 x1 x2 x3 D hI hcD (cVs_g hcl (i := 1) (v := vI x1) rfl) (cVs_g hcl (i := 2) (v := vI x2) rfl) (cVs_g hcl (i := 3) (v := vI x3) rfl)
        refine WP_iload_n (z := x3) dX5_ask_20 rfl ?_
        refine WP_aload_n (z := 0) dX5_ask_21 rfl ?_
        refine WP_getR (z := 9) dX5_ask_22 fl_RX5_22 rfl rfl rfl ?_
        refine WP_getR (z := 10) dX5_ask_25 fl_RX5_91 rfl rfl rfl ?_
        refine WP_getI dX5_ask_28 fl_RX5_150 rfl rfl rfl ?_
        refine WP_icmp_ge (tgt := 61) dX5_ask_31 (by decide) (fun c9 => ?_) (fun c9 => ?_)
        · replace h := h.1 c9
          refine WP_iload_n (z := x2) dX5_ask_61 rfl ?_
          exact WP_ireturn dX5_ask_62 rfl h
        · replace h := h.2 c9
          refine WP_iload_n (z := x3) dX5_ask_34 rfl ?_
          refine WP_bipush (z := 12) dX5_ask_35 rfl (by decide) ?_
          refine WP_icmp_ge (tgt := 61) dX5_ask_37 (by decide) (fun c10 => ?_) (fun c10 => ?_)
          · replace h := h.1 c10
            refine WP_iload_n (z := x2) dX5_ask_61 rfl ?_
            exact WP_ireturn dX5_ask_62 rfl h
          · replace h := h.2 c10
            refine WP_aload_n (z := 0) dX5_ask_40 rfl ?_
            refine WP_iload_n (z := x3) dX5_ask_41 rfl ?_
            obtain ⟨o15, h⟩ := h
            refine WP_pcallV (g := mX5_greatestTally) (as := [vI x3]) (rest := []) (n := 1) (r := vI (fX5_greatestTally D x3)) dX5_ask_42 wm_747 mo_X5_greatestTally rfl rfl rfl rfl ⟨Nat.le_of_ble_eq_true rfl, Nat.le_of_ble_eq_true rfl⟩ (Nat.le_of_ble_eq_true rfl) (P_X5_greatestTally  o15) ?_
            refine WP_aload_n (z := 0) dX5_ask_45 rfl ?_
            refine WP_iload_n (z := x2) dX5_ask_46 rfl ?_
            obtain ⟨o14, h⟩ := h
            refine WP_pcallV (g := mX5_greatestTally) (as := [vI x2]) (rest := [vI (fX5_greatestTally D x3)]) (n := 1) (r := vI (fX5_greatestTally D x2)) dX5_ask_47 wm_747 mo_X5_greatestTally rfl rfl rfl rfl ⟨Nat.le_of_ble_eq_true rfl, Nat.le_of_ble_eq_true rfl⟩ (Nat.le_of_ble_eq_true rfl) (P_X5_greatestTally  o14) ?_
            refine WP_via (pc1 := 55) (ls1 := [vR 0, vI x1, vI (if (fX5_greatestTally D x2) ≤ (fX5_greatestTally D x3) then (x2 : Int) else x3), vI x3]) (st1 := []) (D1 := D) (fun hJ12 => ?_) ?_
            · refine WP_icmp_ge (tgt := 55) dX5_ask_50 (by decide) (fun c13 => ?_) (fun c13 => ?_)
              · replace hJ12 := ite_t (P := fun v_ : Int => WP mX5_ask Q 55 [vR 0, vI x1, vI v_, vI x3] [] D) hJ12 c13
                exact hJ12
              · replace hJ12 := ite_f (P := fun v_ : Int => WP mX5_ask Q 55 [vR 0, vI x1, vI v_, vI x3] [] D) hJ12 c13
                refine WP_iload_n (z := x3) dX5_ask_53 rfl ?_
                refine WP_istore_n (ls1 := [vR 0, vI x1, vI x3, vI x3]) dX5_ask_54 (by decide) rfl ?_
                exact hJ12
            · obtain ⟨o11, h⟩ := h
              refine WP_iinc (z := (x3 + 1)) (ls1 := [vR 0, vI x1, vI (if (fX5_greatestTally D x2) ≤ (fX5_greatestTally D x3) then (x2 : Int) else x3), vI (x3 + 1)]) dX5_ask_55 rfl (w32_id o11) (by decide) rfl ?_
              refine WP_goto (tgt := 20) dX5_ask_58 (by decide) ?_
              exact ih20_ _ _ _ _ h.1 (by have := h.2; omega)
  have cut20_ : ∀ (x1 x2 x3 : Int) (D : HP), I20 x1 x2 x3 D → WP mX5_ask Q 20 [vR 0, vI x1, vI x2, vI x3] [] D := fun x1 x2 x3 D hI => (IH (u20 x1 x2 x3 D * 1 + 0 + 1)) x1 x2 x3 D hI (by omega)
  refine WP_cD (fun hcD => ?_)
  refine WP_cl (fun hcl => ?_)
  have h := h0 hcD (cVs_g hcl (i := 1) (v := vI a) rfl)
  refine WP_aload_n (z := 0) dX5_ask_0 rfl ?_
  refine WP_iload_n (z := a) dX5_ask_1 rfl ?_
  refine WP_pcallV (g := mX5_isMinute) (as := [vI a]) (rest := []) (n := 1) (r := vI (fX5_isMinute D a)) dX5_ask_2 wm_353 mo_X5_isMinute rfl rfl rfl rfl ⟨Nat.le_of_ble_eq_true rfl, Nat.le_of_ble_eq_true rfl⟩ (Nat.le_of_ble_eq_true rfl) (P_X5_isMinute  trivial) ?_
  refine WP_if_ne (tgt := 11) dX5_ask_5 (by decide) (fun c1 => ?_) (fun c1 => ?_)
  · replace h := h.2 c1
    refine WP_aload_n (z := 0) dX5_ask_11 rfl ?_
    refine WP_iload_n (z := a) dX5_ask_12 rfl ?_
    obtain ⟨Q2, ct4, h⟩ := h
    refine WP_callV (g := mX5_inquire) (as := [vI a]) (rest := []) (n := 1) dX5_ask_13 wm_697 mo_X5_inquire rfl rfl rfl rfl ⟨Nat.le_of_ble_eq_true rfl, Nat.le_of_ble_eq_true rfl⟩ (Nat.le_of_ble_eq_true rfl) ct4 (fun r_ D5 hq3 hok hD8 => ?_)
    obtain rfl := hok
    replace h := h D5 hq3 hD8
    show WP mX5_ask Q 16 [vR 0, vI a, vU, vU] [] D5
    refine WP_iconst (z := 0) dX5_ask_16 rfl ⟨by decide, by decide⟩ ?_
    refine WP_istore_n (ls1 := [vR 0, vI a, vI 0, vU]) dX5_ask_17 (by decide) rfl ?_
    refine WP_iconst (z := 1) dX5_ask_18 rfl ⟨by decide, by decide⟩ ?_
    refine WP_istore_n (ls1 := [vR 0, vI a, vI 0, vI 1]) dX5_ask_19 (by decide) rfl ?_
    exact cut20_ _ _ _ _ h
  · replace h := h.1 c1
    refine WP_bipush (z := (-2)) dX5_ask_8 rfl (by decide) ?_
    exact WP_ireturn dX5_ask_10 rfl h
def fX5_lowestBit (D : HP) (a : Int) : Int := (fJ6_bitCount_0f7a4 D ((b_iand a (w32 (-a))) - 1))
def oX5_lowestBit (D : HP) (a : Int) : Prop := ((c32 ((b_iand a (w32 (-a))) - 1)) ∧ True)
set_option maxRecDepth 100000 in
set_option maxHeartbeats 4000000 in
theorem V_X5_lowestBit (a : Int) {D : HP} {Q : Option MV → HP → Prop}
    (h0 : cD D → c32 a → ((c32 ((b_iand a (w32 (-a))) - 1)) ∧ (Q (some (vI (fJ6_bitCount_0f7a4 D ((b_iand a (w32 (-a))) - 1)))) D)))
    : CT mX5_lowestBit [vI a] D Q := by
  refine CT.of 0 (by decide) (Nat.le_of_ble_eq_true rfl) ?_
  show WP mX5_lowestBit Q 0 [vI a] [] D
  refine WP_cD (fun hcD => ?_)
  refine WP_cl (fun hcl => ?_)
  have h := h0 hcD (cVs_g hcl (i := 0) (v := vI a) rfl)
  refine WP_iload_n (z := a) dX5_lowestBit_0 rfl ?_
  refine WP_iload_n (z := a) dX5_lowestBit_1 rfl ?_
  refine WP_ineg dX5_lowestBit_2 rfl ?_
  refine WP_iand dX5_lowestBit_3 rfl ?_
  refine WP_iconst (z := 1) dX5_lowestBit_4 rfl ⟨by decide, by decide⟩ ?_
  obtain ⟨o1, h⟩ := h
  refine WP_isub (z := ((b_iand a (w32 (-a))) - 1)) dX5_lowestBit_5 (w32_id o1) ?_
  refine WP_pcallS (g := mJ6_bitCount_0f7a4) (as := [vI ((b_iand a (w32 (-a))) - 1)]) (rest := []) (n := 1) (r := vI (fJ6_bitCount_0f7a4 D ((b_iand a (w32 (-a))) - 1))) dX5_lowestBit_6 wm_776 mo_J6_bitCount_0f7a4 rfl rfl ⟨Nat.le_of_ble_eq_true rfl, Nat.le_of_ble_eq_true rfl⟩ (Nat.le_of_ble_eq_true rfl) (P_J6_bitCount_0f7a4  trivial) ?_
  exact WP_ireturn dX5_lowestBit_9 rfl h
set_option maxRecDepth 100000 in
set_option maxHeartbeats 4000000 in
theorem P_X5_lowestBit {a : Int} {D : HP} (hob : oX5_lowestBit D a) : CT mX5_lowestBit [vI a] D (PF (vI (fX5_lowestBit D a)) D) := by
  refine V_X5_lowestBit a (fun hcD hc_0 => ?_)
  obtain ⟨z, hz⟩ : ∃ z, z = fX5_lowestBit D a := ⟨_, rfl⟩
  rw [← hz]
  unfold fX5_lowestBit at hz
  unfold oX5_lowestBit at hob
  refine ⟨hob.1, ?_⟩
  replace hob := hob.2
  exact ⟨by rw [hz], rfl⟩
set_option maxRecDepth 100000 in
set_option maxHeartbeats 4000000 in
theorem V_X5_weighCalms (a : Int) {D : HP} {Q : Option MV → HP → Prop} (I66 : Int → Int → Int → HP → Prop) (u66 : Int → Int → Int → HP → Nat) (I95 : Int → Int → Int → Int → Int → HP → Prop) (u95 : Int → Int → Int → Int → Int → HP → Nat)
    (h0 : cD D → c32 a → (((D 0 10) = a → (Q none D)) ∧ (¬ ((D 0 10) = a) → (∃ Q2 : Option MV → HP → Prop, CT mJ7_fill_d0a16 [vR 54, vL 0] D Q2 ∧ ∀ (D5 : HP), Q2 none D5 → cD D5 → (∃ Q9 : Option MV → HP → Prop, CT mX1_tellAs [vR 26, vR 10] D5 Q9 ∧ ∀ (D12 : HP), Q9 none D12 → cD D12 → (∃ Q16 : Option MV → HP → Prop, CT mX0_start [vR 25] D12 Q16 ∧ ∀ (D19 : HP), Q16 none D19 → cD D19 → (∀ (E23 : HP), E23 = (hu D19 55 0 1) → (∀ (v25 : Int), v25 = (if 12 < (E23 10 2) then (12 : Int) else (E23 10 2)) → (I66 a v25 0 E23)))))))))
    (h66 : ∀ (x1 x2 x3 : Int) (D : HP), I66 x1 x2 x3 D → cD D → c32 x1 → c32 x2 → c32 x3 → (((b_ishl 1 x2) ≤ x3 → (∀ (E28 : HP), E28 = (hu D 0 10 x1) → (Q none E28))) ∧ (¬ ((b_ishl 1 x2) ≤ x3) → ((((x3 = 0) → True) ∧ (¬ (x3 = 0) → (c32 (x2 - 1)) ∧ (oX5_lowestBit D x3) ∧ (c32 ((x2 - 1) - (fX5_lowestBit D x3))))) ∧ (∀ (v31 : Int), v31 = (if x3 = 0 then (0 : Int) else ((x2 - 1) - (fX5_lowestBit D x3))) → (I95 x1 x2 x3 v31 v31 D ∧ u95 x1 x2 x3 v31 v31 D ≤ u66 x1 x2 x3 D))))))
    (h95 : ∀ (x1 x2 x3 x4 x5 : Int) (D : HP), I95 x1 x2 x3 x4 x5 D → cD D → c32 x1 → c32 x2 → c32 x3 → c32 x4 → c32 x5 → ((x2 ≤ x5 → (∃ Q38 : Option MV → HP → Prop, CT mX0_end [vR 25] D Q38 ∧ ∀ (D41 : HP), Q38 none D41 → cD D41 → ((oX0_whoIsInLast D41 25) ∧ (((fX0_whoIsInLast D41 25) < 0 → ((c32 (x3 + 1)) ∧ (I66 x1 x2 (x3 + 1) D41 ∧ u66 x1 x2 (x3 + 1) D41 < u95 x1 x2 x3 x4 x5 D))) ∧ (¬ ((fX0_whoIsInLast D41 25) < 0) → ((8 ≤ (fX0_whoIsInLast D41 25) → ((c32 (x3 + 1)) ∧ (I66 x1 x2 (x3 + 1) D41 ∧ u66 x1 x2 (x3 + 1) D41 < u95 x1 x2 x3 x4 x5 D))) ∧ (¬ (8 ≤ (fX0_whoIsInLast D41 25)) → ((0 ≤ (fX0_whoIsInLast D41 25) ∧ (fX0_whoIsInLast D41 25) < 8) ∧ ((0 ≤ x2 ∧ x2 < 13) ∧ ((c64 ((D41 54 ((fX0_whoIsInLast D41 25)).toNat) + (D41 55 x2.toNat))) ∧ ((0 ≤ (fX0_whoIsInLast D41 25) ∧ (fX0_whoIsInLast D41 25) < 8) ∧ (∀ (E49 : HP), E49 = (hu D41 54 ((fX0_whoIsInLast D41 25)).toNat ((D41 54 ((fX0_whoIsInLast D41 25)).toNat) + (D41 55 x2.toNat))) → ((c32 (x3 + 1)) ∧ (I66 x1 x2 (x3 + 1) E49 ∧ u66 x1 x2 (x3 + 1) E49 < u95 x1 x2 x3 x4 x5 D)))))))))))))) ∧ (¬ (x2 ≤ x5) → ((c32 (x2 - 1)) ∧ ((c32 ((x2 - 1) - x5)) ∧ (∀ (v57 : Int), v57 = (if (b_iand (b_ishr x3 ((x2 - 1) - x5)) 1) = 1 then (1 : Int) else 0) → ((((v57 = 0) → True) ∧ (¬ (v57 = 0) → (0 ≤ x5 ∧ x5 < 12))) ∧ ((0 ≤ x5 ∧ x5 < 12) ∧ (∀ (E60 : HP), E60 = (hu D 31 x5.toNat (if v57 = 0 then (0 : Int) else (D 15 x5.toNat))) → (∃ Q62 : Option MV → HP → Prop, CT mX0_pass [vR 25, vI x5] E60 Q62 ∧ ∀ (D65 : HP), Q62 none D65 → cD D65 → ((c32 (x5 + 1)) ∧ ((0 ≤ x5 ∧ x5 < 13) ∧ ((((v57 = 0) → (c32 (16 - x1))) ∧ (¬ (v57 = 0) → True)) ∧ ((c64 ((D65 55 x5.toNat) * (if v57 = 0 then ((16 - x1) : Int) else x1))) ∧ ((0 ≤ (x5 + 1) ∧ (x5 + 1) < 13) ∧ (∀ (E70 : HP), E70 = (hu D65 55 ((x5 + 1)).toNat ((D65 55 x5.toNat) * (if v57 = 0 then ((16 - x1) : Int) else x1))) → ((c32 (x5 + 1)) ∧ (I95 x1 x2 x3 x4 (x5 + 1) E70 ∧ u95 x1 x2 x3 x4 (x5 + 1) E70 < u95 x1 x2 x3 x4 x5 D))))))))))))))))))
    : CT mX5_weighCalms [vR 0, vI a] D Q := by
  refine CT.of 5 (by decide) (Nat.le_of_ble_eq_true rfl) ?_
  show WP mX5_weighCalms Q 0 [vR 0, vI a, vU, vU, vU, vU, vU] [] D
  have IH : ∀ n : Nat, (∀ (x1 x2 x3 : Int) (D : HP), I66 x1 x2 x3 D → u66 x1 x2 x3 D * 2 + 1 < n → WP mX5_weighCalms Q 66 [vR 0, vI x1, vI x2, vI x3, vU, vU, vU] [] D) ∧ (∀ (x1 x2 x3 x4 x5 : Int) (D : HP), I95 x1 x2 x3 x4 x5 D → u95 x1 x2 x3 x4 x5 D * 2 + 0 < n → WP mX5_weighCalms Q 95 [vR 0, vI x1, vI x2, vI x3, vI x4, vI x5, vU] [] D) := by
    intro n
    induction n with
    | zero => exact ⟨fun _ _ _ _ _ h => absurd h (Nat.not_lt_zero _), fun _ _ _ _ _ _ _ h => absurd h (Nat.not_lt_zero _)⟩
    | succ n ih =>
      have ih66_ := ih.1
      have ih95_ := ih.2
      refine ⟨?_, ?_⟩
      · intro x1 x2 x3 D hI hn
        refine WP_cD (fun hcD => ?_)
        refine WP_cl (fun hcl => ?_)
        have h := h66 x1 x2 x3 D hI hcD (cVs_g hcl (i := 1) (v := vI x1) rfl) (cVs_g hcl (i := 2) (v := vI x2) rfl) (cVs_g hcl (i := 3) (v := vI x3) rfl)
        refine WP_iload_n (z := x3) dX5_weighCalms_66 rfl ?_
        refine WP_iconst (z := 1) dX5_weighCalms_67 rfl ⟨by decide, by decide⟩ ?_
        refine WP_iload_n (z := x2) dX5_weighCalms_68 rfl ?_
        refine WP_ishl dX5_weighCalms_69 rfl ?_
        refine WP_icmp_ge (tgt := 253) dX5_weighCalms_70 (by decide) (fun c27 => ?_) (fun c27 => ?_)
        · replace h := h.1 c27
          refine WP_aload_n (z := 0) dX5_weighCalms_253 rfl ?_
          refine WP_iload_n (z := x1) dX5_weighCalms_254 rfl ?_
          refine WP_putI dX5_weighCalms_255 fp_RX5_56 rfl rfl ?_
          obtain ⟨E28, hE29⟩ : ∃ E28 : HP, E28 = (hu D 0 10 x1) := ⟨_, rfl⟩
          replace h := h E28 hE29
          show WP mX5_weighCalms Q 258 [vR 0, vI x1, vI x2, vI x3, vU, vU, vU] [] (hu D 0 10 x1)
          rw [← hE29]
          exact WP_return dX5_weighCalms_258 rfl h
        · replace h := h.2 c27
          refine WP_iload_n (z := x3) dX5_weighCalms_73 rfl ?_
          obtain ⟨o30, h⟩ := h
          refine WP_via (pc1 := 89) (ls1 := [vR 0, vI x1, vI x2, vI x3, vU, vU, vU]) (st1 := [vI (if x3 = 0 then (0 : Int) else ((x2 - 1) - (fX5_lowestBit D x3)))]) (D1 := D) (fun hJ33 => ?_) ?_
          · refine WP_if_ne (tgt := 81) dX5_weighCalms_74 (by decide) (fun c34 => ?_) (fun c34 => ?_)
            · replace hJ33 := ite_f (P := fun v_ : Int => WP mX5_weighCalms Q 89 [vR 0, vI x1, vI x2, vI x3, vU, vU, vU] [vI v_] D) hJ33 c34
              have o36 := o30.2 c34
              refine WP_iload_n (z := x2) dX5_weighCalms_81 rfl ?_
              refine WP_iconst (z := 1) dX5_weighCalms_82 rfl ⟨by decide, by decide⟩ ?_
              refine WP_isub (z := (x2 - 1)) dX5_weighCalms_83 (w32_id o36.1) ?_
              refine WP_iload_n (z := x3) dX5_weighCalms_84 rfl ?_
              refine WP_pcallS (g := mX5_lowestBit) (as := [vI x3]) (rest := [vI (x2 - 1)]) (n := 1) (r := vI (fX5_lowestBit D x3)) dX5_weighCalms_85 wm_773 mo_X5_lowestBit rfl rfl ⟨Nat.le_of_ble_eq_true rfl, Nat.le_of_ble_eq_true rfl⟩ (Nat.le_of_ble_eq_true rfl) (P_X5_lowestBit  o36.2.1) ?_
              refine WP_isub (z := ((x2 - 1) - (fX5_lowestBit D x3))) dX5_weighCalms_88 (w32_id o36.2.2) ?_
              exact hJ33
            · replace hJ33 := ite_t (P := fun v_ : Int => WP mX5_weighCalms Q 89 [vR 0, vI x1, vI x2, vI x3, vU, vU, vU] [vI v_] D) hJ33 c34
              have o35 := o30.1 c34
              refine WP_iconst (z := 0) dX5_weighCalms_77 rfl ⟨by decide, by decide⟩ ?_
              refine WP_goto (tgt := 89) dX5_weighCalms_78 (by decide) ?_
              exact hJ33
          · refine WP_istore (ls1 := [vR 0, vI x1, vI x2, vI x3, vI (if x3 = 0 then (0 : Int) else ((x2 - 1) - (fX5_lowestBit D x3))), vU, vU]) dX5_weighCalms_89 (by decide) rfl ?_
            obtain ⟨v31, hv32⟩ : ∃ v31 : Int, v31 = (if x3 = 0 then (0 : Int) else ((x2 - 1) - (fX5_lowestBit D x3))) := ⟨_, rfl⟩
            replace h := h v31 hv32
            rw [← hv32]
            refine WP_iload (z := v31) dX5_weighCalms_91 rfl ?_
            refine WP_istore (ls1 := [vR 0, vI x1, vI x2, vI x3, vI v31, vI v31, vU]) dX5_weighCalms_93 (by decide) rfl ?_
            exact ih95_ _ _ _ _ _ _ h.1 (by have := h.2; omega)
      · intro x1 x2 x3 x4 x5 D hI hn
        refine WP_cD (fun hcD => ?_)
        refine WP_cl (fun hcl => ?_)
        have h := h95 x1 x2 x3 x4 x5 D hI hcD (cVs_g hcl (i := 1) (v := vI x1) rfl) (cVs_g hcl (i := 2) (v := vI x2) rfl) (cVs_g hcl (i := 3) (v := vI x3) rfl) (cVs_g hcl (i := 4) (v := vI x4) rfl) (cVs_g hcl (i := 5) (v := vI x5) rfl)
        refine WP_iload (z := x5) dX5_weighCalms_95 rfl ?_
        refine WP_iload_n (z := x2) dX5_weighCalms_97 rfl ?_
        refine WP_icmp_ge (tgt := 203) dX5_weighCalms_98 (by decide) (fun c37 => ?_) (fun c37 => ?_)
        · replace h := h.1 c37
          refine WP_aload_n (z := 0) dX5_weighCalms_203 rfl ?_
          refine WP_getR (z := 25) dX5_weighCalms_204 fl_RX5_26 rfl rfl rfl ?_
          obtain ⟨Q38, ct40, h⟩ := h
          refine WP_callV (g := mX0_end) (as := []) (rest := []) (n := 0) dX5_weighCalms_207 wm_784 mo_X0_end rfl rfl rfl rfl ⟨Nat.le_of_ble_eq_true rfl, Nat.le_of_ble_eq_true rfl⟩ (Nat.le_of_ble_eq_true rfl) ct40 (fun r_ D41 hq39 hok hD44 => ?_)
          obtain rfl := hok
          replace h := h D41 hq39 hD44
          show WP mX5_weighCalms Q 210 [vR 0, vI x1, vI x2, vI x3, vI x4, vI x5, vU] [] D41
          refine WP_aload_n (z := 0) dX5_weighCalms_210 rfl ?_
          refine WP_getR (z := 25) dX5_weighCalms_211 fl_RX5_26 rfl rfl rfl ?_
          obtain ⟨o56, h⟩ := h
          refine WP_pcallV (g := mX0_whoIsInLast) (as := []) (rest := []) (n := 0) (r := vI (fX0_whoIsInLast D41 25)) dX5_weighCalms_214 wm_601 mo_X0_whoIsInLast rfl rfl rfl rfl ⟨Nat.le_of_ble_eq_true rfl, Nat.le_of_ble_eq_true rfl⟩ (Nat.le_of_ble_eq_true rfl) (P_X0_whoIsInLast (by decide) o56) ?_
          refine WP_istore (ls1 := [vR 0, vI x1, vI x2, vI x3, vI x4, vI (fX0_whoIsInLast D41 25), vU]) dX5_weighCalms_217 (by decide) rfl ?_
          refine WP_iload (z := (fX0_whoIsInLast D41 25)) dX5_weighCalms_219 rfl ?_
          refine WP_if_lt (tgt := 247) dX5_weighCalms_221 (by decide) (fun c45 => ?_) (fun c45 => ?_)
          · replace h := h.1 c45
            obtain ⟨o46, h⟩ := h
            refine WP_iinc (z := (x3 + 1)) (ls1 := [vR 0, vI x1, vI x2, vI (x3 + 1), vI x4, vI (fX0_whoIsInLast D41 25), vU]) dX5_weighCalms_247 rfl (w32_id o46) (by decide) rfl ?_
            refine WP_goto (tgt := 66) dX5_weighCalms_250 (by decide) ?_
            refine WP_fg 4 (ls1 := [vR 0, vI x1, vI x2, vI (x3 + 1), vU, vI (fX0_whoIsInLast D41 25), vU]) rfl ?_
            refine WP_fg 5 (ls1 := [vR 0, vI x1, vI x2, vI (x3 + 1), vU, vU, vU]) rfl ?_
            exact ih66_ _ _ _ _ h.1 (by have := h.2; omega)
          · replace h := h.2 c45
            refine WP_iload (z := (fX0_whoIsInLast D41 25)) dX5_weighCalms_224 rfl ?_
            refine WP_bipush (z := 8) dX5_weighCalms_226 rfl (by decide) ?_
            refine WP_icmp_ge (tgt := 247) dX5_weighCalms_228 (by decide) (fun c47 => ?_) (fun c47 => ?_)
            · replace h := h.1 c47
              obtain ⟨o48, h⟩ := h
              refine WP_iinc (z := (x3 + 1)) (ls1 := [vR 0, vI x1, vI x2, vI (x3 + 1), vI x4, vI (fX0_whoIsInLast D41 25), vU]) dX5_weighCalms_247 rfl (w32_id o48) (by decide) rfl ?_
              refine WP_goto (tgt := 66) dX5_weighCalms_250 (by decide) ?_
              refine WP_fg 4 (ls1 := [vR 0, vI x1, vI x2, vI (x3 + 1), vU, vI (fX0_whoIsInLast D41 25), vU]) rfl ?_
              refine WP_fg 5 (ls1 := [vR 0, vI x1, vI x2, vI (x3 + 1), vU, vU, vU]) rfl ?_
              exact ih66_ _ _ _ _ h.1 (by have := h.2; omega)
            · replace h := h.2 c47
              refine WP_aload_n (z := 0) dX5_weighCalms_231 rfl ?_
              refine WP_getR (z := 54) dX5_weighCalms_232 fl_RX5_59 rfl rfl rfl ?_
              refine WP_iload (z := (fX0_whoIsInLast D41 25)) dX5_weighCalms_235 rfl ?_
              refine WP_dup2 dX5_weighCalms_237 (Nat.ne_of_beq_eq_false rfl) (Nat.ne_of_beq_eq_false rfl) ?_
              obtain ⟨o55, h⟩ := h
              refine WP_lald dX5_weighCalms_238 rfl o55.1 o55.2 rfl ?_
              refine WP_aload_n (z := 0) dX5_weighCalms_239 rfl ?_
              refine WP_getR (z := 55) dX5_weighCalms_240 fl_RX5_63 rfl rfl rfl ?_
              refine WP_iload_n (z := x2) dX5_weighCalms_243 rfl ?_
              obtain ⟨o54, h⟩ := h
              refine WP_lald dX5_weighCalms_244 rfl o54.1 o54.2 rfl ?_
              obtain ⟨o53, h⟩ := h
              refine WP_ladd (z := ((D41 54 ((fX0_whoIsInLast D41 25)).toNat) + (D41 55 x2.toNat))) dX5_weighCalms_245 (w64_id o53) ?_
              obtain ⟨o52, h⟩ := h
              refine WP_last dX5_weighCalms_246 rfl o52.1 o52.2 ?_
              obtain ⟨E49, hE50⟩ : ∃ E49 : HP, E49 = (hu D41 54 ((fX0_whoIsInLast D41 25)).toNat ((D41 54 ((fX0_whoIsInLast D41 25)).toNat) + (D41 55 x2.toNat))) := ⟨_, rfl⟩
              replace h := h E49 hE50
              show WP mX5_weighCalms Q 247 [vR 0, vI x1, vI x2, vI x3, vI x4, vI (fX0_whoIsInLast D41 25), vU] [] (hu D41 54 ((fX0_whoIsInLast D41 25)).toNat ((D41 54 ((fX0_whoIsInLast D41 25)).toNat) + (D41 55 x2.toNat)))
              rw [← hE50]
              obtain ⟨o51, h⟩ := h
              refine WP_iinc (z := (x3 + 1)) (ls1 := [vR 0, vI x1, vI x2, vI (x3 + 1), vI x4, vI (fX0_whoIsInLast D41 25), vU]) dX5_weighCalms_247 rfl (w32_id o51) (by decide) rfl ?_
              refine WP_goto (tgt := 66) dX5_weighCalms_250 (by decide) ?_
              refine WP_fg 4 (ls1 := [vR 0, vI x1, vI x2, vI (x3 + 1), vU, vI (fX0_whoIsInLast D41 25), vU]) rfl ?_
              refine WP_fg 5 (ls1 := [vR 0, vI x1, vI x2, vI (x3 + 1), vU, vU, vU]) rfl ?_
              exact ih66_ _ _ _ _ h.1 (by have := h.2; omega)
        · replace h := h.2 c37
          refine WP_iload_n (z := x3) dX5_weighCalms_101 rfl ?_
          refine WP_iload_n (z := x2) dX5_weighCalms_102 rfl ?_
          refine WP_iconst (z := 1) dX5_weighCalms_103 rfl ⟨by decide, by decide⟩ ?_
          obtain ⟨o89, h⟩ := h
          refine WP_isub (z := (x2 - 1)) dX5_weighCalms_104 (w32_id o89) ?_
          refine WP_iload (z := x5) dX5_weighCalms_105 rfl ?_
          obtain ⟨o88, h⟩ := h
          refine WP_isub (z := ((x2 - 1) - x5)) dX5_weighCalms_107 (w32_id o88) ?_
          refine WP_ishr dX5_weighCalms_108 rfl ?_
          refine WP_iconst (z := 1) dX5_weighCalms_109 rfl ⟨by decide, by decide⟩ ?_
          refine WP_iand dX5_weighCalms_110 rfl ?_
          refine WP_iconst (z := 1) dX5_weighCalms_111 rfl ⟨by decide, by decide⟩ ?_
          refine WP_via (pc1 := 120) (ls1 := [vR 0, vI x1, vI x2, vI x3, vI x4, vI x5, vU]) (st1 := [vI (if (b_iand (b_ishr x3 ((x2 - 1) - x5)) 1) = 1 then (1 : Int) else 0)]) (D1 := D) (fun hJ86 => ?_) ?_
          · refine WP_icmp_ne (tgt := 119) dX5_weighCalms_112 (by decide) (fun c87 => ?_) (fun c87 => ?_)
            · replace hJ86 := ite_f (P := fun v_ : Int => WP mX5_weighCalms Q 120 [vR 0, vI x1, vI x2, vI x3, vI x4, vI x5, vU] [vI v_] D) hJ86 c87
              refine WP_iconst (z := 0) dX5_weighCalms_119 rfl ⟨by decide, by decide⟩ ?_
              exact hJ86
            · replace hJ86 := ite_t (P := fun v_ : Int => WP mX5_weighCalms Q 120 [vR 0, vI x1, vI x2, vI x3, vI x4, vI x5, vU] [vI v_] D) hJ86 c87
              refine WP_iconst (z := 1) dX5_weighCalms_115 rfl ⟨by decide, by decide⟩ ?_
              refine WP_goto (tgt := 120) dX5_weighCalms_116 (by decide) ?_
              exact hJ86
          · refine WP_istore (ls1 := [vR 0, vI x1, vI x2, vI x3, vI x4, vI x5, vI (if (b_iand (b_ishr x3 ((x2 - 1) - x5)) 1) = 1 then (1 : Int) else 0)]) dX5_weighCalms_120 (by decide) rfl ?_
            obtain ⟨v57, hv58⟩ : ∃ v57 : Int, v57 = (if (b_iand (b_ishr x3 ((x2 - 1) - x5)) 1) = 1 then (1 : Int) else 0) := ⟨_, rfl⟩
            replace h := h v57 hv58
            rw [← hv58]
            refine WP_aload_n (z := 0) dX5_weighCalms_122 rfl ?_
            refine WP_getR (z := 25) dX5_weighCalms_123 fl_RX5_26 rfl rfl rfl ?_
            refine WP_getR (z := 26) dX5_weighCalms_126 fl_RX5_91 rfl rfl rfl ?_
            refine WP_getR (z := 31) dX5_weighCalms_129 fl_RX5_109 rfl rfl rfl ?_
            refine WP_iload (z := x5) dX5_weighCalms_132 rfl ?_
            refine WP_iload (z := v57) dX5_weighCalms_134 rfl ?_
            obtain ⟨o59, h⟩ := h
            refine WP_via (pc1 := 156) (ls1 := [vR 0, vI x1, vI x2, vI x3, vI x4, vI x5, vI v57]) (st1 := [vI (if v57 = 0 then (0 : Int) else (D 15 x5.toNat)), vI x5, vR 31]) (D1 := D) (fun hJ82 => ?_) ?_
            · refine WP_if_eq (tgt := 155) dX5_weighCalms_136 (by decide) (fun c83 => ?_) (fun c83 => ?_)
              · replace hJ82 := ite_t (P := fun v_ : Int => WP mX5_weighCalms Q 156 [vR 0, vI x1, vI x2, vI x3, vI x4, vI x5, vI v57] [vI v_, vI x5, vR 31] D) hJ82 c83
                have o84 := o59.1 c83
                refine WP_iconst (z := 0) dX5_weighCalms_155 rfl ⟨by decide, by decide⟩ ?_
                exact hJ82
              · replace hJ82 := ite_f (P := fun v_ : Int => WP mX5_weighCalms Q 156 [vR 0, vI x1, vI x2, vI x3, vI x4, vI x5, vI v57] [vI v_, vI x5, vR 31] D) hJ82 c83
                have o85 := o59.2 c83
                refine WP_aload_n (z := 0) dX5_weighCalms_139 rfl ?_
                refine WP_getR (z := 9) dX5_weighCalms_140 fl_RX5_22 rfl rfl rfl ?_
                refine WP_getR (z := 10) dX5_weighCalms_143 fl_RX5_91 rfl rfl rfl ?_
                refine WP_getR (z := 15) dX5_weighCalms_146 fl_RX5_109 rfl rfl rfl ?_
                refine WP_iload (z := x5) dX5_weighCalms_149 rfl ?_
                refine WP_iald dX5_weighCalms_151 rfl o85.1 o85.2 rfl ?_
                refine WP_goto (tgt := 156) dX5_weighCalms_152 (by decide) ?_
                exact hJ82
            · obtain ⟨o81, h⟩ := h
              refine WP_iast dX5_weighCalms_156 rfl o81.1 o81.2 ?_
              obtain ⟨E60, hE61⟩ : ∃ E60 : HP, E60 = (hu D 31 x5.toNat (if v57 = 0 then (0 : Int) else (D 15 x5.toNat))) := ⟨_, rfl⟩
              replace h := h E60 hE61
              show WP mX5_weighCalms Q 157 [vR 0, vI x1, vI x2, vI x3, vI x4, vI x5, vI v57] [] (hu D 31 x5.toNat (if v57 = 0 then (0 : Int) else (D 15 x5.toNat)))
              rw [← hE61]
              refine WP_aload_n (z := 0) dX5_weighCalms_157 rfl ?_
              refine WP_getR (z := 25) dX5_weighCalms_158 fl_RX5_26 rfl rfl rfl ?_
              refine WP_iload (z := x5) dX5_weighCalms_161 rfl ?_
              obtain ⟨Q62, ct64, h⟩ := h
              refine WP_callV (g := mX0_pass) (as := [vI x5]) (rest := []) (n := 1) dX5_weighCalms_163 wm_783 mo_X0_pass rfl rfl rfl rfl ⟨Nat.le_of_ble_eq_true rfl, Nat.le_of_ble_eq_true rfl⟩ (Nat.le_of_ble_eq_true rfl) ct64 (fun r_ D65 hq63 hok hD68 => ?_)
              obtain rfl := hok
              replace h := h D65 hq63 hD68
              show WP mX5_weighCalms Q 166 [vR 0, vI x1, vI x2, vI x3, vI x4, vI x5, vI v57] [] D65
              refine WP_aload_n (z := 0) dX5_weighCalms_166 rfl ?_
              refine WP_getR (z := 55) dX5_weighCalms_167 fl_RX5_63 rfl rfl rfl ?_
              refine WP_iload (z := x5) dX5_weighCalms_170 rfl ?_
              refine WP_iconst (z := 1) dX5_weighCalms_172 rfl ⟨by decide, by decide⟩ ?_
              obtain ⟨o80, h⟩ := h
              refine WP_iadd (z := (x5 + 1)) dX5_weighCalms_173 (w32_id o80) ?_
              refine WP_aload_n (z := 0) dX5_weighCalms_174 rfl ?_
              refine WP_getR (z := 55) dX5_weighCalms_175 fl_RX5_63 rfl rfl rfl ?_
              refine WP_iload (z := x5) dX5_weighCalms_178 rfl ?_
              obtain ⟨o79, h⟩ := h
              refine WP_lald dX5_weighCalms_180 rfl o79.1 o79.2 rfl ?_
              refine WP_iload (z := v57) dX5_weighCalms_181 rfl ?_
              obtain ⟨o69, h⟩ := h
              refine WP_via (pc1 := 194) (ls1 := [vR 0, vI x1, vI x2, vI x3, vI x4, vI x5, vI v57]) (st1 := [vI (if v57 = 0 then ((16 - x1) : Int) else x1), vL (D65 55 x5.toNat), vI (x5 + 1), vR 55]) (D1 := D65) (fun hJ75 => ?_) ?_
              · refine WP_if_eq (tgt := 190) dX5_weighCalms_183 (by decide) (fun c76 => ?_) (fun c76 => ?_)
                · replace hJ75 := ite_t (P := fun v_ : Int => WP mX5_weighCalms Q 194 [vR 0, vI x1, vI x2, vI x3, vI x4, vI x5, vI v57] [vI v_, vL (D65 55 x5.toNat), vI (x5 + 1), vR 55] D65) hJ75 c76
                  have o77 := o69.1 c76
                  refine WP_bipush (z := 16) dX5_weighCalms_190 rfl (by decide) ?_
                  refine WP_iload_n (z := x1) dX5_weighCalms_192 rfl ?_
                  refine WP_isub (z := (16 - x1)) dX5_weighCalms_193 (w32_id o77) ?_
                  exact hJ75
                · replace hJ75 := ite_f (P := fun v_ : Int => WP mX5_weighCalms Q 194 [vR 0, vI x1, vI x2, vI x3, vI x4, vI x5, vI v57] [vI v_, vL (D65 55 x5.toNat), vI (x5 + 1), vR 55] D65) hJ75 c76
                  have o78 := o69.2 c76
                  refine WP_iload_n (z := x1) dX5_weighCalms_186 rfl ?_
                  refine WP_goto (tgt := 194) dX5_weighCalms_187 (by decide) ?_
                  exact hJ75
              · refine WP_i2l dX5_weighCalms_194 ?_
                obtain ⟨o74, h⟩ := h
                refine WP_lmul (z := ((D65 55 x5.toNat) * (if v57 = 0 then ((16 - x1) : Int) else x1))) dX5_weighCalms_195 (w64_id o74) ?_
                obtain ⟨o73, h⟩ := h
                refine WP_last dX5_weighCalms_196 rfl o73.1 o73.2 ?_
                obtain ⟨E70, hE71⟩ : ∃ E70 : HP, E70 = (hu D65 55 ((x5 + 1)).toNat ((D65 55 x5.toNat) * (if v57 = 0 then ((16 - x1) : Int) else x1))) := ⟨_, rfl⟩
                replace h := h E70 hE71
                show WP mX5_weighCalms Q 197 [vR 0, vI x1, vI x2, vI x3, vI x4, vI x5, vI v57] [] (hu D65 55 ((x5 + 1)).toNat ((D65 55 x5.toNat) * (if v57 = 0 then ((16 - x1) : Int) else x1)))
                rw [← hE71]
                obtain ⟨o72, h⟩ := h
                refine WP_iinc (z := (x5 + 1)) (ls1 := [vR 0, vI x1, vI x2, vI x3, vI x4, vI (x5 + 1), vI v57]) dX5_weighCalms_197 rfl (w32_id o72) (by decide) rfl ?_
                refine WP_goto (tgt := 95) dX5_weighCalms_200 (by decide) ?_
                refine WP_fg 6 (ls1 := [vR 0, vI x1, vI x2, vI x3, vI x4, vI (x5 + 1), vU]) rfl ?_
                exact ih95_ _ _ _ _ _ _ h.1 (by have := h.2; omega)
  have cut66_ : ∀ (x1 x2 x3 : Int) (D : HP), I66 x1 x2 x3 D → WP mX5_weighCalms Q 66 [vR 0, vI x1, vI x2, vI x3, vU, vU, vU] [] D := fun x1 x2 x3 D hI => (IH (u66 x1 x2 x3 D * 2 + 1 + 1)).1 x1 x2 x3 D hI (by omega)
  have cut95_ : ∀ (x1 x2 x3 x4 x5 : Int) (D : HP), I95 x1 x2 x3 x4 x5 D → WP mX5_weighCalms Q 95 [vR 0, vI x1, vI x2, vI x3, vI x4, vI x5, vU] [] D := fun x1 x2 x3 x4 x5 D hI => (IH (u95 x1 x2 x3 x4 x5 D * 2 + 0 + 1)).2 x1 x2 x3 x4 x5 D hI (by omega)
  refine WP_cD (fun hcD => ?_)
  refine WP_cl (fun hcl => ?_)
  have h := h0 hcD (cVs_g hcl (i := 1) (v := vI a) rfl)
  refine WP_aload_n (z := 0) dX5_weighCalms_0 rfl ?_
  refine WP_getI dX5_weighCalms_1 fl_RX5_56 rfl rfl rfl ?_
  refine WP_iload_n (z := a) dX5_weighCalms_4 rfl ?_
  refine WP_icmp_ne (tgt := 9) dX5_weighCalms_5 (by decide) (fun c1 => ?_) (fun c1 => ?_)
  · replace h := h.2 c1
    refine WP_aload_n (z := 0) dX5_weighCalms_9 rfl ?_
    refine WP_getR (z := 54) dX5_weighCalms_10 fl_RX5_59 rfl rfl rfl ?_
    refine WP_lconst (z := 0) dX5_weighCalms_13 rfl ?_
    obtain ⟨Q2, ct4, h⟩ := h
    refine WP_callS (g := mJ7_fill_d0a16) (as := [vR 54, vL 0]) (rest := []) (n := 2) dX5_weighCalms_14 wm_770 mo_J7_fill_d0a16 rfl rfl ⟨Nat.le_of_ble_eq_true rfl, Nat.le_of_ble_eq_true rfl⟩ (Nat.le_of_ble_eq_true rfl) ct4 (fun r_ D5 hq3 hok hD8 => ?_)
    obtain rfl := hok
    replace h := h D5 hq3 hD8
    show WP mX5_weighCalms Q 17 [vR 0, vI a, vU, vU, vU, vU, vU] [] D5
    refine WP_aload_n (z := 0) dX5_weighCalms_17 rfl ?_
    refine WP_getR (z := 25) dX5_weighCalms_18 fl_RX5_26 rfl rfl rfl ?_
    refine WP_getR (z := 26) dX5_weighCalms_21 fl_RX5_91 rfl rfl rfl ?_
    refine WP_aload_n (z := 0) dX5_weighCalms_24 rfl ?_
    refine WP_getR (z := 9) dX5_weighCalms_25 fl_RX5_22 rfl rfl rfl ?_
    refine WP_getR (z := 10) dX5_weighCalms_28 fl_RX5_91 rfl rfl rfl ?_
    obtain ⟨Q9, ct11, h⟩ := h
    refine WP_callV (g := mX1_tellAs) (as := [vR 10]) (rest := []) (n := 1) dX5_weighCalms_31 wm_538 mo_X1_tellAs rfl rfl rfl rfl ⟨Nat.le_of_ble_eq_true rfl, Nat.le_of_ble_eq_true rfl⟩ (Nat.le_of_ble_eq_true rfl) ct11 (fun r_ D12 hq10 hok hD15 => ?_)
    obtain rfl := hok
    replace h := h D12 hq10 hD15
    show WP mX5_weighCalms Q 34 [vR 0, vI a, vU, vU, vU, vU, vU] [] D12
    refine WP_aload_n (z := 0) dX5_weighCalms_34 rfl ?_
    refine WP_getR (z := 25) dX5_weighCalms_35 fl_RX5_26 rfl rfl rfl ?_
    obtain ⟨Q16, ct18, h⟩ := h
    refine WP_callV (g := mX0_start) (as := []) (rest := []) (n := 0) dX5_weighCalms_38 wm_702 mo_X0_start rfl rfl rfl rfl ⟨Nat.le_of_ble_eq_true rfl, Nat.le_of_ble_eq_true rfl⟩ (Nat.le_of_ble_eq_true rfl) ct18 (fun r_ D19 hq17 hok hD22 => ?_)
    obtain rfl := hok
    replace h := h D19 hq17 hD22
    show WP mX5_weighCalms Q 41 [vR 0, vI a, vU, vU, vU, vU, vU] [] D19
    refine WP_aload_n (z := 0) dX5_weighCalms_41 rfl ?_
    refine WP_getR (z := 55) dX5_weighCalms_42 fl_RX5_63 rfl rfl rfl ?_
    refine WP_iconst (z := 0) dX5_weighCalms_45 rfl ⟨by decide, by decide⟩ ?_
    refine WP_lconst (z := 1) dX5_weighCalms_46 rfl ?_
    refine WP_last dX5_weighCalms_47 rfl (by decide) (by decide) ?_
    obtain ⟨E23, hE24⟩ : ∃ E23 : HP, E23 = (hu D19 55 0 1) := ⟨_, rfl⟩
    replace h := h E23 hE24
    show WP mX5_weighCalms Q 48 [vR 0, vI a, vU, vU, vU, vU, vU] [] (hu D19 55 0 1)
    rw [← hE24]
    refine WP_aload_n (z := 0) dX5_weighCalms_48 rfl ?_
    refine WP_getR (z := 9) dX5_weighCalms_49 fl_RX5_22 rfl rfl rfl ?_
    refine WP_getR (z := 10) dX5_weighCalms_52 fl_RX5_91 rfl rfl rfl ?_
    refine WP_getI dX5_weighCalms_55 fl_RX5_150 rfl rfl rfl ?_
    refine WP_bipush (z := 12) dX5_weighCalms_58 rfl (by decide) ?_
    refine WP_min dX5_weighCalms_60 wm_769 w_min ⟨Nat.le_of_ble_eq_true rfl, Nat.le_of_ble_eq_true rfl⟩ (Nat.le_of_ble_eq_true rfl) rfl ?_
    refine WP_istore_n (ls1 := [vR 0, vI a, vI (if 12 < (E23 10 2) then (12 : Int) else (E23 10 2)), vU, vU, vU, vU]) dX5_weighCalms_63 (by decide) rfl ?_
    obtain ⟨v25, hv26⟩ : ∃ v25 : Int, v25 = (if 12 < (E23 10 2) then (12 : Int) else (E23 10 2)) := ⟨_, rfl⟩
    replace h := h v25 hv26
    rw [← hv26]
    refine WP_iconst (z := 0) dX5_weighCalms_64 rfl ⟨by decide, by decide⟩ ?_
    refine WP_istore_n (ls1 := [vR 0, vI a, vI v25, vI 0, vU, vU, vU]) dX5_weighCalms_65 (by decide) rfl ?_
    exact cut66_ _ _ _ _ h
  · replace h := h.1 c1
    exact WP_return dX5_weighCalms_8 rfl h
set_option maxRecDepth 100000 in
set_option maxHeartbeats 4000000 in
theorem V_X5_calm (a : Int) (b : Int) (c : Int) {D : HP} {Q : Option MV → HP → Prop} (I75 : Int → Int → Int → Int → Int → HP → Prop) (u75 : Int → Int → Int → Int → Int → HP → Nat)
    (h0 : cD D → c32 a → c32 b → c32 c → ((a < 0 → (Q (some (vL (-9223372036854775806))) D)) ∧ (¬ (a < 0) → ((16 < a → (Q (some (vL (-9223372036854775806))) D)) ∧ (¬ (16 < a) → (((fX5_isCandidate D b) = 0 → (Q (some (vL (-9223372036854775806))) D)) ∧ (¬ ((fX5_isCandidate D b) = 0) → ((c < 0 → (Q (some (vL (-9223372036854775806))) D)) ∧ (¬ (c < 0) → ((c ≤ 1 → (∃ Q6 : Option MV → HP → Prop, CT mX5_weighCalms [vR 0, vI a] D Q6 ∧ ∀ (D9 : HP), Q6 none D9 → cD D9 → ((0 ≤ b ∧ b < 8) ∧ ((c32 (4 * (D9 10 2))) ∧ (((if 0 < (D9 54 b.toNat) then (1 : Int) else if (D9 54 b.toNat) = 0 then 0 else -1) = 0 → (Q (some (vL (if c = 0 then (0 : Int) else 1))) D9)) ∧ (¬ ((if 0 < (D9 54 b.toNat) then (1 : Int) else if (D9 54 b.toNat) = 0 then 0 else -1) = 0) → (I75 a b c (D9 54 b.toNat) (4 * (D9 10 2)) D9))))))) ∧ (¬ (c ≤ 1) → (Q (some (vL (-9223372036854775806))) D))))))))))))
    (h75 : ∀ (x1 x2 x3 x4 x6 : Int) (D : HP), I75 x1 x2 x3 x4 x6 D → cD D → c32 x1 → c32 x2 → c32 x3 → c64 x4 → c32 x6 → ((x6 ≤ 0 → (Q (some (vL (if x3 = 0 then (x4 : Int) else (b_lshl 1 x6)))) D)) ∧ (¬ (x6 ≤ 0) → (((if 0 < (b_land x4 1) then (1 : Int) else if (b_land x4 1) = 0 then 0 else -1) = 0 → ((c32 (x6 - 1)) ∧ (I75 x1 x2 x3 (b_lshr x4 1) (x6 - 1) D ∧ u75 x1 x2 x3 (b_lshr x4 1) (x6 - 1) D < u75 x1 x2 x3 x4 x6 D))) ∧ (¬ ((if 0 < (b_land x4 1) then (1 : Int) else if (b_land x4 1) = 0 then 0 else -1) = 0) → (Q (some (vL (if x3 = 0 then (x4 : Int) else (b_lshl 1 x6)))) D))))))
    : CT mX5_calm [vR 0, vI a, vI b, vI c] D Q := by
  refine CT.of 3 (by decide) (Nat.le_of_ble_eq_true rfl) ?_
  show WP mX5_calm Q 0 [vR 0, vI a, vI b, vI c, vU, vU, vU] [] D
  have IH : ∀ n : Nat, (∀ (x1 x2 x3 x4 x6 : Int) (D : HP), I75 x1 x2 x3 x4 x6 D → u75 x1 x2 x3 x4 x6 D * 1 + 0 < n → WP mX5_calm Q 75 [vR 0, vI x1, vI x2, vI x3, vL x4, vU, vI x6] [] D) := by
    intro n
    induction n with
    | zero => exact fun _ _ _ _ _ _ _ h => absurd h (Nat.not_lt_zero _)
    | succ n ih =>
      have ih75_ := ih
      · intro x1 x2 x3 x4 x6 D hI hn
        refine WP_cD (fun hcD => ?_)
        refine WP_cl (fun hcl => ?_)
        have h := h75 x1 x2 x3 x4 x6 D hI hcD (cVs_g hcl (i := 1) (v := vI x1) rfl) (cVs_g hcl (i := 2) (v := vI x2) rfl) (cVs_g hcl (i := 3) (v := vI x3) rfl) (cVs_g hcl (i := 4) (v := vL x4) rfl) (cVs_g hcl (i := 6) (v := vI x6) rfl)
        refine WP_iload (z := x6) dX5_calm_75 rfl ?_
        refine WP_if_le (tgt := 101) dX5_calm_77 (by decide) (fun c18 => ?_) (fun c18 => ?_)
        · replace h := h.1 c18
          refine WP_iload_n (z := x3) dX5_calm_101 rfl ?_
          refine WP_via (pc1 := 114) (ls1 := [vR 0, vI x1, vI x2, vI x3, vL x4, vU, vI x6]) (st1 := [vL (if x3 = 0 then (x4 : Int) else (b_lshl 1 x6))]) (D1 := D) (fun hJ19 => ?_) ?_
          · refine WP_if_ne (tgt := 110) dX5_calm_102 (by decide) (fun c20 => ?_) (fun c20 => ?_)
            · replace hJ19 := ite_f (P := fun v_ : Int => WP mX5_calm Q 114 [vR 0, vI x1, vI x2, vI x3, vL x4, vU, vI x6] [vL v_] D) hJ19 c20
              refine WP_lconst (z := 1) dX5_calm_110 rfl ?_
              refine WP_iload (z := x6) dX5_calm_111 rfl ?_
              refine WP_lshl dX5_calm_113 rfl ?_
              exact hJ19
            · replace hJ19 := ite_t (P := fun v_ : Int => WP mX5_calm Q 114 [vR 0, vI x1, vI x2, vI x3, vL x4, vU, vI x6] [vL v_] D) hJ19 c20
              refine WP_lload (z := x4) dX5_calm_105 rfl ?_
              refine WP_goto (tgt := 114) dX5_calm_107 (by decide) ?_
              exact hJ19
          · exact WP_lreturn dX5_calm_114 rfl h
        · replace h := h.2 c18
          refine WP_lload (z := x4) dX5_calm_80 rfl ?_
          refine WP_lconst (z := 1) dX5_calm_82 rfl ?_
          refine WP_land dX5_calm_83 rfl ?_
          refine WP_lconst (z := 0) dX5_calm_84 rfl ?_
          refine WP_lcmp dX5_calm_85 rfl ?_
          refine WP_if_ne (tgt := 101) dX5_calm_86 (by decide) (fun c21 => ?_) (fun c21 => ?_)
          · replace h := h.2 c21
            refine WP_iload_n (z := x3) dX5_calm_101 rfl ?_
            refine WP_via (pc1 := 114) (ls1 := [vR 0, vI x1, vI x2, vI x3, vL x4, vU, vI x6]) (st1 := [vL (if x3 = 0 then (x4 : Int) else (b_lshl 1 x6))]) (D1 := D) (fun hJ23 => ?_) ?_
            · refine WP_if_ne (tgt := 110) dX5_calm_102 (by decide) (fun c24 => ?_) (fun c24 => ?_)
              · replace hJ23 := ite_f (P := fun v_ : Int => WP mX5_calm Q 114 [vR 0, vI x1, vI x2, vI x3, vL x4, vU, vI x6] [vL v_] D) hJ23 c24
                refine WP_lconst (z := 1) dX5_calm_110 rfl ?_
                refine WP_iload (z := x6) dX5_calm_111 rfl ?_
                refine WP_lshl dX5_calm_113 rfl ?_
                exact hJ23
              · replace hJ23 := ite_t (P := fun v_ : Int => WP mX5_calm Q 114 [vR 0, vI x1, vI x2, vI x3, vL x4, vU, vI x6] [vL v_] D) hJ23 c24
                refine WP_lload (z := x4) dX5_calm_105 rfl ?_
                refine WP_goto (tgt := 114) dX5_calm_107 (by decide) ?_
                exact hJ23
            · exact WP_lreturn dX5_calm_114 rfl h
          · replace h := h.1 c21
            refine WP_lload (z := x4) dX5_calm_89 rfl ?_
            refine WP_iconst (z := 1) dX5_calm_91 rfl ⟨by decide, by decide⟩ ?_
            refine WP_lshr dX5_calm_92 rfl ?_
            refine WP_lstore (ls1 := [vR 0, vI x1, vI x2, vI x3, vL (b_lshr x4 1), vU, vI x6]) dX5_calm_93 (by decide) rfl ?_
            obtain ⟨o22, h⟩ := h
            refine WP_iinc (z := (x6 - 1)) (ls1 := [vR 0, vI x1, vI x2, vI x3, vL (b_lshr x4 1), vU, vI (x6 - 1)]) dX5_calm_95 rfl (w32_id o22) (by decide) rfl ?_
            refine WP_goto (tgt := 75) dX5_calm_98 (by decide) ?_
            exact ih75_ _ _ _ _ _ _ h.1 (by have := h.2; omega)
  have cut75_ : ∀ (x1 x2 x3 x4 x6 : Int) (D : HP), I75 x1 x2 x3 x4 x6 D → WP mX5_calm Q 75 [vR 0, vI x1, vI x2, vI x3, vL x4, vU, vI x6] [] D := fun x1 x2 x3 x4 x6 D hI => (IH (u75 x1 x2 x3 x4 x6 D * 1 + 0 + 1)) x1 x2 x3 x4 x6 D hI (by omega)
  refine WP_cD (fun hcD => ?_)
  refine WP_cl (fun hcl => ?_)
  have h := h0 hcD (cVs_g hcl (i := 1) (v := vI a) rfl) (cVs_g hcl (i := 2) (v := vI b) rfl) (cVs_g hcl (i := 3) (v := vI c) rfl)
  refine WP_iload_n (z := a) dX5_calm_0 rfl ?_
  refine WP_if_lt (tgt := 27) dX5_calm_1 (by decide) (fun c1 => ?_) (fun c1 => ?_)
  · replace h := h.1 c1
    refine WP_ldc2 (z := (-9223372036854775806)) wm_764 dX5_calm_27 (by decide +kernel) ?_
    exact WP_lreturn dX5_calm_30 rfl h
  · replace h := h.2 c1
    refine WP_iload_n (z := a) dX5_calm_4 rfl ?_
    refine WP_bipush (z := 16) dX5_calm_5 rfl (by decide) ?_
    refine WP_icmp_gt (tgt := 27) dX5_calm_7 (by decide) (fun c2 => ?_) (fun c2 => ?_)
    · replace h := h.1 c2
      refine WP_ldc2 (z := (-9223372036854775806)) wm_764 dX5_calm_27 (by decide +kernel) ?_
      exact WP_lreturn dX5_calm_30 rfl h
    · replace h := h.2 c2
      refine WP_aload_n (z := 0) dX5_calm_10 rfl ?_
      refine WP_iload_n (z := b) dX5_calm_11 rfl ?_
      refine WP_pcallV (g := mX5_isCandidate) (as := [vI b]) (rest := []) (n := 1) (r := vI (fX5_isCandidate D b)) dX5_calm_12 wm_373 mo_X5_isCandidate rfl rfl rfl rfl ⟨Nat.le_of_ble_eq_true rfl, Nat.le_of_ble_eq_true rfl⟩ (Nat.le_of_ble_eq_true rfl) (P_X5_isCandidate  trivial) ?_
      refine WP_if_eq (tgt := 27) dX5_calm_15 (by decide) (fun c3 => ?_) (fun c3 => ?_)
      · replace h := h.1 c3
        refine WP_ldc2 (z := (-9223372036854775806)) wm_764 dX5_calm_27 (by decide +kernel) ?_
        exact WP_lreturn dX5_calm_30 rfl h
      · replace h := h.2 c3
        refine WP_iload_n (z := c) dX5_calm_18 rfl ?_
        refine WP_if_lt (tgt := 27) dX5_calm_19 (by decide) (fun c4 => ?_) (fun c4 => ?_)
        · replace h := h.1 c4
          refine WP_ldc2 (z := (-9223372036854775806)) wm_764 dX5_calm_27 (by decide +kernel) ?_
          exact WP_lreturn dX5_calm_30 rfl h
        · replace h := h.2 c4
          refine WP_iload_n (z := c) dX5_calm_22 rfl ?_
          refine WP_iconst (z := 1) dX5_calm_23 rfl ⟨by decide, by decide⟩ ?_
          refine WP_icmp_le (tgt := 31) dX5_calm_24 (by decide) (fun c5 => ?_) (fun c5 => ?_)
          · replace h := h.1 c5
            refine WP_aload_n (z := 0) dX5_calm_31 rfl ?_
            refine WP_iload_n (z := a) dX5_calm_32 rfl ?_
            obtain ⟨Q6, ct8, h⟩ := h
            refine WP_callV (g := mX5_weighCalms) (as := [vI a]) (rest := []) (n := 1) dX5_calm_33 wm_765 mo_X5_weighCalms rfl rfl rfl rfl ⟨Nat.le_of_ble_eq_true rfl, Nat.le_of_ble_eq_true rfl⟩ (Nat.le_of_ble_eq_true rfl) ct8 (fun r_ D9 hq7 hok hD12 => ?_)
            obtain rfl := hok
            replace h := h D9 hq7 hD12
            show WP mX5_calm Q 36 [vR 0, vI a, vI b, vI c, vU, vU, vU] [] D9
            refine WP_aload_n (z := 0) dX5_calm_36 rfl ?_
            refine WP_getR (z := 54) dX5_calm_37 fl_RX5_59 rfl rfl rfl ?_
            refine WP_iload_n (z := b) dX5_calm_40 rfl ?_
            obtain ⟨o17, h⟩ := h
            refine WP_lald dX5_calm_41 rfl o17.1 o17.2 rfl ?_
            refine WP_lstore (ls1 := [vR 0, vI a, vI b, vI c, vL (D9 54 b.toNat), vU, vU]) dX5_calm_42 (by decide) rfl ?_
            refine WP_iconst (z := 4) dX5_calm_44 rfl ⟨by decide, by decide⟩ ?_
            refine WP_aload_n (z := 0) dX5_calm_45 rfl ?_
            refine WP_getR (z := 9) dX5_calm_46 fl_RX5_22 rfl rfl rfl ?_
            refine WP_getR (z := 10) dX5_calm_49 fl_RX5_91 rfl rfl rfl ?_
            refine WP_getI dX5_calm_52 fl_RX5_150 rfl rfl rfl ?_
            obtain ⟨o16, h⟩ := h
            refine WP_imul (z := (4 * (D9 10 2))) dX5_calm_55 (w32_id o16) ?_
            refine WP_istore (ls1 := [vR 0, vI a, vI b, vI c, vL (D9 54 b.toNat), vU, vI (4 * (D9 10 2))]) dX5_calm_56 (by decide) rfl ?_
            refine WP_lload (z := (D9 54 b.toNat)) dX5_calm_58 rfl ?_
            refine WP_lconst (z := 0) dX5_calm_60 rfl ?_
            refine WP_lcmp dX5_calm_61 rfl ?_
            refine WP_if_ne (tgt := 75) dX5_calm_62 (by decide) (fun c13 => ?_) (fun c13 => ?_)
            · replace h := h.2 c13
              exact cut75_ _ _ _ _ _ _ h
            · replace h := h.1 c13
              refine WP_iload_n (z := c) dX5_calm_65 rfl ?_
              refine WP_via (pc1 := 74) (ls1 := [vR 0, vI a, vI b, vI c, vL (D9 54 b.toNat), vU, vI (4 * (D9 10 2))]) (st1 := [vL (if c = 0 then (0 : Int) else 1)]) (D1 := D9) (fun hJ14 => ?_) ?_
              · refine WP_if_ne (tgt := 73) dX5_calm_66 (by decide) (fun c15 => ?_) (fun c15 => ?_)
                · replace hJ14 := ite_f (P := fun v_ : Int => WP mX5_calm Q 74 [vR 0, vI a, vI b, vI c, vL (D9 54 b.toNat), vU, vI (4 * (D9 10 2))] [vL v_] D9) hJ14 c15
                  refine WP_lconst (z := 1) dX5_calm_73 rfl ?_
                  exact hJ14
                · replace hJ14 := ite_t (P := fun v_ : Int => WP mX5_calm Q 74 [vR 0, vI a, vI b, vI c, vL (D9 54 b.toNat), vU, vI (4 * (D9 10 2))] [vL v_] D9) hJ14 c15
                  refine WP_lconst (z := 0) dX5_calm_69 rfl ?_
                  refine WP_goto (tgt := 74) dX5_calm_70 (by decide) ?_
                  exact hJ14
              · exact WP_lreturn dX5_calm_74 rfl h
          · replace h := h.2 c5
            refine WP_ldc2 (z := (-9223372036854775806)) wm_764 dX5_calm_27 (by decide +kernel) ?_
            exact WP_lreturn dX5_calm_30 rfl h
def fX5_nextLots (D : HP) (a : Int) : Int := (w32 ((w32 (1103515245 * a)) + 12345))
def oX5_nextLots (D : HP) (a : Int) : Prop := True
set_option maxRecDepth 100000 in
set_option maxHeartbeats 4000000 in
theorem V_X5_nextLots (a : Int) {D : HP} {Q : Option MV → HP → Prop}
    (h0 : cD D → c32 a → (Q (some (vI (w32 ((w32 (1103515245 * a)) + 12345)))) D))
    : CT mX5_nextLots [vI a] D Q := by
  refine CT.of 0 (by decide) (Nat.le_of_ble_eq_true rfl) ?_
  show WP mX5_nextLots Q 0 [vI a] [] D
  refine WP_cD (fun hcD => ?_)
  refine WP_cl (fun hcl => ?_)
  have h := h0 hcD (cVs_g hcl (i := 0) (v := vI a) rfl)
  refine WP_ldc (z := 1103515245) wm_810 dX5_nextLots_0 (by decide +kernel) ?_
  refine WP_iload_n (z := a) dX5_nextLots_2 rfl ?_
  refine WP_imul dX5_nextLots_3 rfl ?_
  refine WP_sipush (z := 12345) dX5_nextLots_4 rfl (by decide) ?_
  refine WP_iadd dX5_nextLots_7 rfl ?_
  exact WP_ireturn dX5_nextLots_8 rfl h
set_option maxRecDepth 100000 in
set_option maxHeartbeats 4000000 in
theorem P_X5_nextLots {a : Int} {D : HP} (hob : oX5_nextLots D a) : CT mX5_nextLots [vI a] D (PF (vI (fX5_nextLots D a)) D) := by
  refine V_X5_nextLots a (fun hcD hc_0 => ?_)
  obtain ⟨z, hz⟩ : ∃ z, z = fX5_nextLots D a := ⟨_, rfl⟩
  rw [← hz]
  unfold fX5_nextLots at hz
  exact ⟨by rw [hz], rfl⟩
set_option maxRecDepth 100000 in
set_option maxHeartbeats 4000000 in
theorem V_X5_weather (a : Int) (b : Int) (c : Int) {D : HP} {Q : Option MV → HP → Prop} (I57 : Int → Int → Int → Int → Int → HP → Prop) (u57 : Int → Int → Int → Int → Int → HP → Nat)
    (h0 : cD D → c32 a → c32 b → c32 c → ((b < 1 → (Q (some (vI (-2))) D)) ∧ (¬ (b < 1) → ((12 < b → (Q (some (vI (-2))) D)) ∧ (¬ (12 < b) → ((c < 0 → (Q (some (vI (-2))) D)) ∧ (¬ (c < 0) → ((c ≤ 1 → (∃ Q5 : Option MV → HP → Prop, CT mX1_tellAs [vR 26, vR 10] D Q5 ∧ ∀ (D8 : HP), Q5 none D8 → cD D8 → (∀ (E12 : HP), E12 = (hu D8 26 2 b) → (I57 a b c a 0 E12)))) ∧ (¬ (c ≤ 1) → (Q (some (vI (-2))) D))))))))))
    (h57 : ∀ (x1 x2 x3 x4 x5 : Int) (D : HP), I57 x1 x2 x3 x4 x5 D → cD D → c32 x1 → c32 x2 → c32 x3 → c32 x4 → c32 x5 → ((x2 ≤ x5 → (∃ Q15 : Option MV → HP → Prop, CT mX0_run [vR 25] D Q15 ∧ ∀ (D18 : HP), Q15 none D18 → cD D18 → ((((x3 = 0) → (oX0_whoIsInLast D18 25)) ∧ (¬ (x3 = 0) → (oX0_manyTurned D18 25))) ∧ (Q (some (vI (if x3 = 0 then ((fX0_whoIsInLast D18 25) : Int) else (fX0_manyTurned D18 25)))) D18)))) ∧ (¬ (x2 ≤ x5) → ((0 ≤ (b_iushr (fX5_nextLots D x4) 16)) ∧ ((0 ≤ x5 ∧ x5 < 12) ∧ (∀ (E27 : HP), E27 = (hu D 30 x5.toNat ((b_iushr (fX5_nextLots D x4) 16) % 4)) → ((0 ≤ (b_iushr (fX5_nextLots E27 (fX5_nextLots D x4)) 16)) ∧ ((0 ≤ x5 ∧ x5 < 12) ∧ (∀ (E29 : HP), E29 = (hu E27 31 x5.toNat ((b_iushr (fX5_nextLots E27 (fX5_nextLots D x4)) 16) % 10)) → ((c32 (x5 + 1)) ∧ (I57 x1 x2 x3 (fX5_nextLots E27 (fX5_nextLots D x4)) (x5 + 1) E29 ∧ u57 x1 x2 x3 (fX5_nextLots E27 (fX5_nextLots D x4)) (x5 + 1) E29 < u57 x1 x2 x3 x4 x5 D)))))))))))
    : CT mX5_weather [vR 0, vI a, vI b, vI c] D Q := by
  refine CT.of 2 (by decide) (Nat.le_of_ble_eq_true rfl) ?_
  show WP mX5_weather Q 0 [vR 0, vI a, vI b, vI c, vU, vU] [] D
  have IH : ∀ n : Nat, (∀ (x1 x2 x3 x4 x5 : Int) (D : HP), I57 x1 x2 x3 x4 x5 D → u57 x1 x2 x3 x4 x5 D * 1 + 0 < n → WP mX5_weather Q 57 [vR 0, vI x1, vI x2, vI x3, vI x4, vI x5] [] D) := by
    intro n
    induction n with
    | zero => exact fun _ _ _ _ _ _ _ h => absurd h (Nat.not_lt_zero _)
    | succ n ih =>
      have ih57_ := ih
      · intro x1 x2 x3 x4 x5 D hI hn
        refine WP_cD (fun hcD => ?_)
        refine WP_cl (fun hcl => ?_)
        have h := h57 x1 x2 x3 x4 x5 D hI hcD (cVs_g hcl (i := 1) (v := vI x1) rfl) (cVs_g hcl (i := 2) (v := vI x2) rfl) (cVs_g hcl (i := 3) (v := vI x3) rfl) (cVs_g hcl (i := 4) (v := vI x4) rfl) (cVs_g hcl (i := 5) (v := vI x5) rfl)
        refine WP_iload (z := x5) dX5_weather_57 rfl ?_
        refine WP_iload_n (z := x2) dX5_weather_59 rfl ?_
        refine WP_icmp_ge (tgt := 124) dX5_weather_60 (by decide) (fun c14 => ?_) (fun c14 => ?_)
        · replace h := h.1 c14
          refine WP_aload_n (z := 0) dX5_weather_124 rfl ?_
          refine WP_getR (z := 25) dX5_weather_125 fl_RX5_26 rfl rfl rfl ?_
          obtain ⟨Q15, ct17, h⟩ := h
          refine WP_callV (g := mX0_run) (as := []) (rest := []) (n := 0) dX5_weather_128 wm_201 mo_X0_run rfl rfl rfl rfl ⟨Nat.le_of_ble_eq_true rfl, Nat.le_of_ble_eq_true rfl⟩ (Nat.le_of_ble_eq_true rfl) ct17 (fun r_ D18 hq16 hok hD21 => ?_)
          obtain rfl := hok
          replace h := h D18 hq16 hD21
          show WP mX5_weather Q 131 [vR 0, vI x1, vI x2, vI x3, vI x4, vI x5] [] D18
          refine WP_iload_n (z := x3) dX5_weather_131 rfl ?_
          obtain ⟨o22, h⟩ := h
          refine WP_via (pc1 := 152) (ls1 := [vR 0, vI x1, vI x2, vI x3, vI x4, vI x5]) (st1 := [vI (if x3 = 0 then ((fX0_whoIsInLast D18 25) : Int) else (fX0_manyTurned D18 25))]) (D1 := D18) (fun hJ23 => ?_) ?_
          · refine WP_if_ne (tgt := 145) dX5_weather_132 (by decide) (fun c24 => ?_) (fun c24 => ?_)
            · replace hJ23 := ite_f (P := fun v_ : Int => WP mX5_weather Q 152 [vR 0, vI x1, vI x2, vI x3, vI x4, vI x5] [vI v_] D18) hJ23 c24
              have o26 := o22.2 c24
              refine WP_aload_n (z := 0) dX5_weather_145 rfl ?_
              refine WP_getR (z := 25) dX5_weather_146 fl_RX5_26 rfl rfl rfl ?_
              refine WP_pcallV (g := mX0_manyTurned) (as := []) (rest := []) (n := 0) (r := vI (fX0_manyTurned D18 25)) dX5_weather_149 wm_811 mo_X0_manyTurned rfl rfl rfl rfl ⟨Nat.le_of_ble_eq_true rfl, Nat.le_of_ble_eq_true rfl⟩ (Nat.le_of_ble_eq_true rfl) (P_X0_manyTurned (by decide) o26) ?_
              exact hJ23
            · replace hJ23 := ite_t (P := fun v_ : Int => WP mX5_weather Q 152 [vR 0, vI x1, vI x2, vI x3, vI x4, vI x5] [vI v_] D18) hJ23 c24
              have o25 := o22.1 c24
              refine WP_aload_n (z := 0) dX5_weather_135 rfl ?_
              refine WP_getR (z := 25) dX5_weather_136 fl_RX5_26 rfl rfl rfl ?_
              refine WP_pcallV (g := mX0_whoIsInLast) (as := []) (rest := []) (n := 0) (r := vI (fX0_whoIsInLast D18 25)) dX5_weather_139 wm_601 mo_X0_whoIsInLast rfl rfl rfl rfl ⟨Nat.le_of_ble_eq_true rfl, Nat.le_of_ble_eq_true rfl⟩ (Nat.le_of_ble_eq_true rfl) (P_X0_whoIsInLast (by decide) o25) ?_
              refine WP_goto (tgt := 152) dX5_weather_142 (by decide) ?_
              exact hJ23
          · exact WP_ireturn dX5_weather_152 rfl h
        · replace h := h.2 c14
          refine WP_iload (z := x4) dX5_weather_63 rfl ?_
          refine WP_pcallS (g := mX5_nextLots) (as := [vI x4]) (rest := []) (n := 1) (r := vI (fX5_nextLots D x4)) dX5_weather_65 wm_807 mo_X5_nextLots rfl rfl ⟨Nat.le_of_ble_eq_true rfl, Nat.le_of_ble_eq_true rfl⟩ (Nat.le_of_ble_eq_true rfl) (P_X5_nextLots  trivial) ?_
          refine WP_istore (ls1 := [vR 0, vI x1, vI x2, vI x3, vI (fX5_nextLots D x4), vI x5]) dX5_weather_68 (by decide) rfl ?_
          refine WP_aload_n (z := 0) dX5_weather_70 rfl ?_
          refine WP_getR (z := 25) dX5_weather_71 fl_RX5_26 rfl rfl rfl ?_
          refine WP_getR (z := 26) dX5_weather_74 fl_RX5_91 rfl rfl rfl ?_
          refine WP_getR (z := 30) dX5_weather_77 fl_RX5_106 rfl rfl rfl ?_
          refine WP_iload (z := x5) dX5_weather_80 rfl ?_
          refine WP_iload (z := (fX5_nextLots D x4)) dX5_weather_82 rfl ?_
          refine WP_bipush (z := 16) dX5_weather_84 rfl (by decide) ?_
          refine WP_iushr dX5_weather_86 rfl ?_
          refine WP_iconst (z := 4) dX5_weather_87 rfl ⟨by decide, by decide⟩ ?_
          obtain ⟨o35, h⟩ := h
          refine WP_irem dX5_weather_88 o35 (by decide) rfl ?_
          obtain ⟨o34, h⟩ := h
          refine WP_iast dX5_weather_89 rfl o34.1 o34.2 ?_
          obtain ⟨E27, hE28⟩ : ∃ E27 : HP, E27 = (hu D 30 x5.toNat ((b_iushr (fX5_nextLots D x4) 16) % 4)) := ⟨_, rfl⟩
          replace h := h E27 hE28
          show WP mX5_weather Q 90 [vR 0, vI x1, vI x2, vI x3, vI (fX5_nextLots D x4), vI x5] [] (hu D 30 x5.toNat ((b_iushr (fX5_nextLots D x4) 16) % 4))
          rw [← hE28]
          refine WP_iload (z := (fX5_nextLots D x4)) dX5_weather_90 rfl ?_
          refine WP_pcallS (g := mX5_nextLots) (as := [vI (fX5_nextLots D x4)]) (rest := []) (n := 1) (r := vI (fX5_nextLots E27 (fX5_nextLots D x4))) dX5_weather_92 wm_807 mo_X5_nextLots rfl rfl ⟨Nat.le_of_ble_eq_true rfl, Nat.le_of_ble_eq_true rfl⟩ (Nat.le_of_ble_eq_true rfl) (P_X5_nextLots  trivial) ?_
          refine WP_istore (ls1 := [vR 0, vI x1, vI x2, vI x3, vI (fX5_nextLots E27 (fX5_nextLots D x4)), vI x5]) dX5_weather_95 (by decide) rfl ?_
          refine WP_aload_n (z := 0) dX5_weather_97 rfl ?_
          refine WP_getR (z := 25) dX5_weather_98 fl_RX5_26 rfl rfl rfl ?_
          refine WP_getR (z := 26) dX5_weather_101 fl_RX5_91 rfl rfl rfl ?_
          refine WP_getR (z := 31) dX5_weather_104 fl_RX5_109 rfl rfl rfl ?_
          refine WP_iload (z := x5) dX5_weather_107 rfl ?_
          refine WP_iload (z := (fX5_nextLots E27 (fX5_nextLots D x4))) dX5_weather_109 rfl ?_
          refine WP_bipush (z := 16) dX5_weather_111 rfl (by decide) ?_
          refine WP_iushr dX5_weather_113 rfl ?_
          refine WP_bipush (z := 10) dX5_weather_114 rfl (by decide) ?_
          obtain ⟨o33, h⟩ := h
          refine WP_irem dX5_weather_116 o33 (by decide) rfl ?_
          obtain ⟨o32, h⟩ := h
          refine WP_iast dX5_weather_117 rfl o32.1 o32.2 ?_
          obtain ⟨E29, hE30⟩ : ∃ E29 : HP, E29 = (hu E27 31 x5.toNat ((b_iushr (fX5_nextLots E27 (fX5_nextLots D x4)) 16) % 10)) := ⟨_, rfl⟩
          replace h := h E29 hE30
          show WP mX5_weather Q 118 [vR 0, vI x1, vI x2, vI x3, vI (fX5_nextLots E27 (fX5_nextLots D x4)), vI x5] [] (hu E27 31 x5.toNat ((b_iushr (fX5_nextLots E27 (fX5_nextLots D x4)) 16) % 10))
          rw [← hE30]
          obtain ⟨o31, h⟩ := h
          refine WP_iinc (z := (x5 + 1)) (ls1 := [vR 0, vI x1, vI x2, vI x3, vI (fX5_nextLots E27 (fX5_nextLots D x4)), vI (x5 + 1)]) dX5_weather_118 rfl (w32_id o31) (by decide) rfl ?_
          refine WP_goto (tgt := 57) dX5_weather_121 (by decide) ?_
          exact ih57_ _ _ _ _ _ _ h.1 (by have := h.2; omega)
  have cut57_ : ∀ (x1 x2 x3 x4 x5 : Int) (D : HP), I57 x1 x2 x3 x4 x5 D → WP mX5_weather Q 57 [vR 0, vI x1, vI x2, vI x3, vI x4, vI x5] [] D := fun x1 x2 x3 x4 x5 D hI => (IH (u57 x1 x2 x3 x4 x5 D * 1 + 0 + 1)) x1 x2 x3 x4 x5 D hI (by omega)
  refine WP_cD (fun hcD => ?_)
  refine WP_cl (fun hcl => ?_)
  have h := h0 hcD (cVs_g hcl (i := 1) (v := vI a) rfl) (cVs_g hcl (i := 2) (v := vI b) rfl) (cVs_g hcl (i := 3) (v := vI c) rfl)
  refine WP_iload_n (z := b) dX5_weather_0 rfl ?_
  refine WP_iconst (z := 1) dX5_weather_1 rfl ⟨by decide, by decide⟩ ?_
  refine WP_icmp_lt (tgt := 20) dX5_weather_2 (by decide) (fun c1 => ?_) (fun c1 => ?_)
  · replace h := h.1 c1
    refine WP_bipush (z := (-2)) dX5_weather_20 rfl (by decide) ?_
    exact WP_ireturn dX5_weather_22 rfl h
  · replace h := h.2 c1
    refine WP_iload_n (z := b) dX5_weather_5 rfl ?_
    refine WP_bipush (z := 12) dX5_weather_6 rfl (by decide) ?_
    refine WP_icmp_gt (tgt := 20) dX5_weather_8 (by decide) (fun c2 => ?_) (fun c2 => ?_)
    · replace h := h.1 c2
      refine WP_bipush (z := (-2)) dX5_weather_20 rfl (by decide) ?_
      exact WP_ireturn dX5_weather_22 rfl h
    · replace h := h.2 c2
      refine WP_iload_n (z := c) dX5_weather_11 rfl ?_
      refine WP_if_lt (tgt := 20) dX5_weather_12 (by decide) (fun c3 => ?_) (fun c3 => ?_)
      · replace h := h.1 c3
        refine WP_bipush (z := (-2)) dX5_weather_20 rfl (by decide) ?_
        exact WP_ireturn dX5_weather_22 rfl h
      · replace h := h.2 c3
        refine WP_iload_n (z := c) dX5_weather_15 rfl ?_
        refine WP_iconst (z := 1) dX5_weather_16 rfl ⟨by decide, by decide⟩ ?_
        refine WP_icmp_le (tgt := 23) dX5_weather_17 (by decide) (fun c4 => ?_) (fun c4 => ?_)
        · replace h := h.1 c4
          refine WP_aload_n (z := 0) dX5_weather_23 rfl ?_
          refine WP_getR (z := 25) dX5_weather_24 fl_RX5_26 rfl rfl rfl ?_
          refine WP_getR (z := 26) dX5_weather_27 fl_RX5_91 rfl rfl rfl ?_
          refine WP_aload_n (z := 0) dX5_weather_30 rfl ?_
          refine WP_getR (z := 9) dX5_weather_31 fl_RX5_22 rfl rfl rfl ?_
          refine WP_getR (z := 10) dX5_weather_34 fl_RX5_91 rfl rfl rfl ?_
          obtain ⟨Q5, ct7, h⟩ := h
          refine WP_callV (g := mX1_tellAs) (as := [vR 10]) (rest := []) (n := 1) dX5_weather_37 wm_538 mo_X1_tellAs rfl rfl rfl rfl ⟨Nat.le_of_ble_eq_true rfl, Nat.le_of_ble_eq_true rfl⟩ (Nat.le_of_ble_eq_true rfl) ct7 (fun r_ D8 hq6 hok hD11 => ?_)
          obtain rfl := hok
          replace h := h D8 hq6 hD11
          show WP mX5_weather Q 40 [vR 0, vI a, vI b, vI c, vU, vU] [] D8
          refine WP_aload_n (z := 0) dX5_weather_40 rfl ?_
          refine WP_getR (z := 25) dX5_weather_41 fl_RX5_26 rfl rfl rfl ?_
          refine WP_getR (z := 26) dX5_weather_44 fl_RX5_91 rfl rfl rfl ?_
          refine WP_iload_n (z := b) dX5_weather_47 rfl ?_
          refine WP_putI dX5_weather_48 fp_RX5_150 rfl rfl ?_
          obtain ⟨E12, hE13⟩ : ∃ E12 : HP, E12 = (hu D8 26 2 b) := ⟨_, rfl⟩
          replace h := h E12 hE13
          show WP mX5_weather Q 51 [vR 0, vI a, vI b, vI c, vU, vU] [] (hu D8 26 2 b)
          rw [← hE13]
          refine WP_iload_n (z := a) dX5_weather_51 rfl ?_
          refine WP_istore (ls1 := [vR 0, vI a, vI b, vI c, vI a, vU]) dX5_weather_52 (by decide) rfl ?_
          refine WP_iconst (z := 0) dX5_weather_54 rfl ⟨by decide, by decide⟩ ?_
          refine WP_istore (ls1 := [vR 0, vI a, vI b, vI c, vI a, vI 0]) dX5_weather_55 (by decide) rfl ?_
          exact cut57_ _ _ _ _ _ _ h
        · replace h := h.2 c4
          refine WP_bipush (z := (-2)) dX5_weather_20 rfl (by decide) ?_
          exact WP_ireturn dX5_weather_22 rfl h
def fX5_isForm (D : HP) (a : Int) : Int := (if a < 0 then (0 : Int) else (if 3 ≤ a then (0 : Int) else 1))
theorem bfX5_isForm (D : HP) (a : Int) : fX5_isForm D a = 0 ∨ fX5_isForm D a = 1 := by unfold fX5_isForm; exact (bool_ite (Or.inl rfl) (bool_ite (Or.inl rfl) (Or.inr rfl)))
def oX5_isForm (D : HP) (a : Int) : Prop := True
set_option maxRecDepth 100000 in
set_option maxHeartbeats 4000000 in
theorem V_X5_isForm (a : Int) {D : HP} {Q : Option MV → HP → Prop}
    (h0 : cD D → c32 a → (Q (some (vI (if a < 0 then (0 : Int) else (if 3 ≤ a then (0 : Int) else 1)))) D))
    : CT mX5_isForm [vI a] D Q := by
  refine CT.of 0 (by decide) (Nat.le_of_ble_eq_true rfl) ?_
  show WP mX5_isForm Q 0 [vI a] [] D
  refine WP_cD (fun hcD => ?_)
  refine WP_cl (fun hcl => ?_)
  have h := h0 hcD (cVs_g hcl (i := 0) (v := vI a) rfl)
  refine WP_iload_n (z := a) dX5_isForm_0 rfl ?_
  refine WP_via (pc1 := 14) (ls1 := [vI a]) (st1 := [vI (if a < 0 then (0 : Int) else (if 3 ≤ a then (0 : Int) else 1))]) (D1 := D) (fun hJ1 => ?_) ?_
  · refine WP_if_lt (tgt := 13) dX5_isForm_1 (by decide) (fun c2 => ?_) (fun c2 => ?_)
    · replace hJ1 := ite_t (P := fun v_ : Int => WP mX5_isForm Q 14 [vI a] [vI v_] D) hJ1 c2
      refine WP_iconst (z := 0) dX5_isForm_13 rfl ⟨by decide, by decide⟩ ?_
      exact hJ1
    · replace hJ1 := ite_f (P := fun v_ : Int => WP mX5_isForm Q 14 [vI a] [vI v_] D) hJ1 c2
      refine WP_iload_n (z := a) dX5_isForm_4 rfl ?_
      refine WP_iconst (z := 3) dX5_isForm_5 rfl ⟨by decide, by decide⟩ ?_
      refine WP_via (pc1 := 14) (ls1 := [vI a]) (st1 := [vI (if 3 ≤ a then (0 : Int) else 1)]) (D1 := D) (fun hJ3 => ?_) ?_
      · refine WP_icmp_ge (tgt := 13) dX5_isForm_6 (by decide) (fun c4 => ?_) (fun c4 => ?_)
        · replace hJ3 := ite_t (P := fun v_ : Int => WP mX5_isForm Q 14 [vI a] [vI v_] D) hJ3 c4
          refine WP_iconst (z := 0) dX5_isForm_13 rfl ⟨by decide, by decide⟩ ?_
          exact hJ3
        · replace hJ3 := ite_f (P := fun v_ : Int => WP mX5_isForm Q 14 [vI a] [vI v_] D) hJ3 c4
          refine WP_iconst (z := 1) dX5_isForm_9 rfl ⟨by decide, by decide⟩ ?_
          refine WP_goto (tgt := 14) dX5_isForm_10 (by decide) ?_
          exact hJ3
      exact hJ1
  · exact WP_zreturn dX5_isForm_14 rfl (bool_ite (Or.inl rfl) (bool_ite (Or.inl rfl) (Or.inr rfl))) h
set_option maxRecDepth 100000 in
set_option maxHeartbeats 4000000 in
theorem P_X5_isForm {a : Int} {D : HP} (hob : oX5_isForm D a) : CT mX5_isForm [vI a] D (PF (vI (fX5_isForm D a)) D) := by
  refine V_X5_isForm a (fun hcD hc_0 => ?_)
  obtain ⟨z, hz⟩ : ∃ z, z = fX5_isForm D a := ⟨_, rfl⟩
  rw [← hz]
  unfold fX5_isForm at hz
  exact ⟨by rw [hz], rfl⟩
set_option maxRecDepth 100000 in
set_option maxHeartbeats 4000000 in
theorem V_X5_sheet (a : Int) (b : Int) (c : Int) {D : HP} {Q : Option MV → HP → Prop}
    (h0 : cD D → c32 a → c32 b → c32 c → (((fX5_isSheet D a) = 0 → (Q (some (vI (-2))) D)) ∧ (¬ ((fX5_isSheet D a) = 0) → (((fX5_isForm D b) = 0 → (Q (some (vI (-2))) D)) ∧ (¬ ((fX5_isForm D b) = 0) → ((c ≤ 60 → ((0 ≤ c → ((0 ≤ a ∧ a < 4) ∧ (∃ Q6 : Option MV → HP → Prop, CT mX3_renew [vR (45 + a.toNat), vI b, vI c] D Q6 ∧ ∀ (D9 : HP), Q6 none D9 → cD D9 → (Q (some (vI c)) D9)))) ∧ (¬ (0 ≤ c) → (∃ Q13 : Option MV → HP → Prop, CT mX5_finding [vR 0, vI 5] D Q13 ∧ ∀ (r17 : Int) (D16 : HP), Q13 (some (vI r17)) D16 → c32 r17 → cD D16 → (Q (some (vI r17)) D16))))) ∧ (¬ (c ≤ 60) → (Q (some (vI (-2))) D))))))))
    : CT mX5_sheet [vR 0, vI a, vI b, vI c] D Q := by
  refine CT.of 0 (by decide) (Nat.le_of_ble_eq_true rfl) ?_
  show WP mX5_sheet Q 0 [vR 0, vI a, vI b, vI c] [] D
  refine WP_cD (fun hcD => ?_)
  refine WP_cl (fun hcl => ?_)
  have h := h0 hcD (cVs_g hcl (i := 1) (v := vI a) rfl) (cVs_g hcl (i := 2) (v := vI b) rfl) (cVs_g hcl (i := 3) (v := vI c) rfl)
  refine WP_iload_n (z := a) dX5_sheet_0 rfl ?_
  refine WP_pcallS (g := mX5_isSheet) (as := [vI a]) (rest := []) (n := 1) (r := vI (fX5_isSheet D a)) dX5_sheet_1 wm_664 mo_X5_isSheet rfl rfl ⟨Nat.le_of_ble_eq_true rfl, Nat.le_of_ble_eq_true rfl⟩ (Nat.le_of_ble_eq_true rfl) (P_X5_isSheet  trivial) ?_
  refine WP_if_eq (tgt := 20) dX5_sheet_4 (by decide) (fun c1 => ?_) (fun c1 => ?_)
  · replace h := h.1 c1
    refine WP_bipush (z := (-2)) dX5_sheet_20 rfl (by decide) ?_
    exact WP_ireturn dX5_sheet_22 rfl h
  · replace h := h.2 c1
    refine WP_iload_n (z := b) dX5_sheet_7 rfl ?_
    refine WP_pcallS (g := mX5_isForm) (as := [vI b]) (rest := []) (n := 1) (r := vI (fX5_isForm D b)) dX5_sheet_8 wm_833 mo_X5_isForm rfl rfl ⟨Nat.le_of_ble_eq_true rfl, Nat.le_of_ble_eq_true rfl⟩ (Nat.le_of_ble_eq_true rfl) (P_X5_isForm  trivial) ?_
    refine WP_if_eq (tgt := 20) dX5_sheet_11 (by decide) (fun c2 => ?_) (fun c2 => ?_)
    · replace h := h.1 c2
      refine WP_bipush (z := (-2)) dX5_sheet_20 rfl (by decide) ?_
      exact WP_ireturn dX5_sheet_22 rfl h
    · replace h := h.2 c2
      refine WP_iload_n (z := c) dX5_sheet_14 rfl ?_
      refine WP_bipush (z := 60) dX5_sheet_15 rfl (by decide) ?_
      refine WP_icmp_le (tgt := 23) dX5_sheet_17 (by decide) (fun c3 => ?_) (fun c3 => ?_)
      · replace h := h.1 c3
        refine WP_iload_n (z := c) dX5_sheet_23 rfl ?_
        refine WP_if_ge (tgt := 33) dX5_sheet_24 (by decide) (fun c4 => ?_) (fun c4 => ?_)
        · replace h := h.1 c4
          refine WP_aload_n (z := 0) dX5_sheet_33 rfl ?_
          refine WP_getR (z := 44) dX5_sheet_34 fl_RX5_38 rfl rfl rfl ?_
          refine WP_iload_n (z := a) dX5_sheet_37 rfl ?_
          obtain ⟨o5, h⟩ := h
          refine WP_aald5 (z := (45 + a.toNat)) dX5_sheet_38 rfl o5.1 o5.2 (srSE o5) ?_
          refine WP_iload_n (z := b) dX5_sheet_39 rfl ?_
          refine WP_iload_n (z := c) dX5_sheet_40 rfl ?_
          obtain ⟨Q6, ct8, h⟩ := h
          refine WP_callV (g := mX3_renew) (as := [vI b, vI c]) (rest := []) (n := 2) dX5_sheet_41 wm_836 mo_X3_renew (kcSE_0 o5) rfl rfl rfl ⟨Nat.le_of_ble_eq_true rfl, Nat.le_of_ble_eq_true rfl⟩ (Nat.le_of_ble_eq_true rfl) ct8 (fun r_ D9 hq7 hok hD12 => ?_)
          obtain rfl := hok
          replace h := h D9 hq7 hD12
          show WP mX5_sheet Q 44 [vR 0, vI a, vI b, vI c] [] D9
          refine WP_iload_n (z := c) dX5_sheet_44 rfl ?_
          exact WP_ireturn dX5_sheet_45 rfl h
        · replace h := h.2 c4
          refine WP_aload_n (z := 0) dX5_sheet_27 rfl ?_
          refine WP_iconst (z := 5) dX5_sheet_28 rfl ⟨by decide, by decide⟩ ?_
          obtain ⟨Q13, ct15, h⟩ := h
          refine WP_callV (g := mX5_finding) (as := [vI 5]) (rest := []) (n := 1) dX5_sheet_29 wm_671 mo_X5_finding rfl rfl rfl rfl ⟨Nat.le_of_ble_eq_true rfl, Nat.le_of_ble_eq_true rfl⟩ (Nat.le_of_ble_eq_true rfl) ct15 (fun r_ D16 hq14 hok hD19 => ?_)
          obtain ⟨r17, rfl, hr18⟩ := hok
          replace h := h r17 D16 hq14 hr18 hD19
          show WP mX5_sheet Q 32 [vR 0, vI a, vI b, vI c] [vI r17] D16
          exact WP_ireturn dX5_sheet_32 rfl h
      · replace h := h.2 c3
        refine WP_bipush (z := (-2)) dX5_sheet_20 rfl (by decide) ?_
        exact WP_ireturn dX5_sheet_22 rfl h
set_option maxRecDepth 100000 in
set_option maxHeartbeats 4000000 in
theorem V_X5_lose (a : Int) {D : HP} {Q : Option MV → HP → Prop}
    (h0 : cD D → c32 a → (((fX5_isSheet D a) = 0 → (Q (some (vI (-2))) D)) ∧ (¬ ((fX5_isSheet D a) = 0) → ((0 ≤ a ∧ a < 4) ∧ (((fX3_isLost D (45 + a.toNat)) = 0 → ((0 ≤ a ∧ a < 4) ∧ ((0 ≤ a ∧ a < 4) ∧ (∃ Q6 : Option MV → HP → Prop, CT mX3_discard [vR (45 + a.toNat)] D Q6 ∧ ∀ (D9 : HP), Q6 none D9 → cD D9 → (Q (some (vI (D (45 + a.toNat) 1))) D9))))) ∧ (¬ ((fX3_isLost D (45 + a.toNat)) = 0) → (∃ Q13 : Option MV → HP → Prop, CT mX5_finding [vR 0, vI 1] D Q13 ∧ ∀ (r17 : Int) (D16 : HP), Q13 (some (vI r17)) D16 → c32 r17 → cD D16 → (Q (some (vI r17)) D16))))))))
    : CT mX5_lose [vR 0, vI a] D Q := by
  refine CT.of 1 (by decide) (Nat.le_of_ble_eq_true rfl) ?_
  show WP mX5_lose Q 0 [vR 0, vI a, vU] [] D
  refine WP_cD (fun hcD => ?_)
  refine WP_cl (fun hcl => ?_)
  have h := h0 hcD (cVs_g hcl (i := 1) (v := vI a) rfl)
  refine WP_iload_n (z := a) dX5_lose_0 rfl ?_
  refine WP_pcallS (g := mX5_isSheet) (as := [vI a]) (rest := []) (n := 1) (r := vI (fX5_isSheet D a)) dX5_lose_1 wm_664 mo_X5_isSheet rfl rfl ⟨Nat.le_of_ble_eq_true rfl, Nat.le_of_ble_eq_true rfl⟩ (Nat.le_of_ble_eq_true rfl) (P_X5_isSheet  trivial) ?_
  refine WP_if_ne (tgt := 10) dX5_lose_4 (by decide) (fun c1 => ?_) (fun c1 => ?_)
  · replace h := h.2 c1
    refine WP_aload_n (z := 0) dX5_lose_10 rfl ?_
    refine WP_getR (z := 44) dX5_lose_11 fl_RX5_38 rfl rfl rfl ?_
    refine WP_iload_n (z := a) dX5_lose_14 rfl ?_
    obtain ⟨o2, h⟩ := h
    refine WP_aald5 (z := (45 + a.toNat)) dX5_lose_15 rfl o2.1 o2.2 (srSE o2) ?_
    refine WP_pcallV (g := mX3_isLost) (as := []) (rest := []) (n := 0) (r := vI (fX3_isLost D (45 + a.toNat))) dX5_lose_16 wm_667 mo_X3_isLost (kcSE_0 o2) rfl rfl rfl ⟨Nat.le_of_ble_eq_true rfl, Nat.le_of_ble_eq_true rfl⟩ (Nat.le_of_ble_eq_true rfl) (P_X3_isLost (hSE o2) trivial) ?_
    refine WP_if_eq (tgt := 28) dX5_lose_19 (by decide) (fun c3 => ?_) (fun c3 => ?_)
    · replace h := h.1 c3
      refine WP_aload_n (z := 0) dX5_lose_28 rfl ?_
      refine WP_getR (z := 44) dX5_lose_29 fl_RX5_38 rfl rfl rfl ?_
      refine WP_iload_n (z := a) dX5_lose_32 rfl ?_
      obtain ⟨o4, h⟩ := h
      refine WP_aald5 (z := (45 + a.toNat)) dX5_lose_33 rfl o4.1 o4.2 (srSE o4) ?_
      refine WP_getI dX5_lose_34 fl_RX5_213 (kcSE_0 o4) rfl rfl ?_
      refine WP_istore_n (ls1 := [vR 0, vI a, vI (D (45 + a.toNat) 1)]) dX5_lose_37 (by decide) rfl ?_
      refine WP_aload_n (z := 0) dX5_lose_38 rfl ?_
      refine WP_getR (z := 44) dX5_lose_39 fl_RX5_38 rfl rfl rfl ?_
      refine WP_iload_n (z := a) dX5_lose_42 rfl ?_
      obtain ⟨o5, h⟩ := h
      refine WP_aald5 (z := (45 + a.toNat)) dX5_lose_43 rfl o5.1 o5.2 (srSE o5) ?_
      obtain ⟨Q6, ct8, h⟩ := h
      refine WP_callV (g := mX3_discard) (as := []) (rest := []) (n := 0) dX5_lose_44 wm_851 mo_X3_discard (kcSE_0 o5) rfl rfl rfl ⟨Nat.le_of_ble_eq_true rfl, Nat.le_of_ble_eq_true rfl⟩ (Nat.le_of_ble_eq_true rfl) ct8 (fun r_ D9 hq7 hok hD12 => ?_)
      obtain rfl := hok
      replace h := h D9 hq7 hD12
      show WP mX5_lose Q 47 [vR 0, vI a, vI (D (45 + a.toNat) 1)] [] D9
      refine WP_iload_n (z := (D (45 + a.toNat) 1)) dX5_lose_47 rfl ?_
      exact WP_ireturn dX5_lose_48 rfl h
    · replace h := h.2 c3
      refine WP_aload_n (z := 0) dX5_lose_22 rfl ?_
      refine WP_iconst (z := 1) dX5_lose_23 rfl ⟨by decide, by decide⟩ ?_
      obtain ⟨Q13, ct15, h⟩ := h
      refine WP_callV (g := mX5_finding) (as := [vI 1]) (rest := []) (n := 1) dX5_lose_24 wm_671 mo_X5_finding rfl rfl rfl rfl ⟨Nat.le_of_ble_eq_true rfl, Nat.le_of_ble_eq_true rfl⟩ (Nat.le_of_ble_eq_true rfl) ct15 (fun r_ D16 hq14 hok hD19 => ?_)
      obtain ⟨r17, rfl, hr18⟩ := hok
      replace h := h r17 D16 hq14 hr18 hD19
      show WP mX5_lose Q 27 [vR 0, vI a, vU] [vI r17] D16
      exact WP_ireturn dX5_lose_27 rfl h
  · replace h := h.1 c1
    refine WP_bipush (z := (-2)) dX5_lose_7 rfl (by decide) ?_
    exact WP_ireturn dX5_lose_9 rfl h
set_option maxRecDepth 100000 in
set_option maxHeartbeats 4000000 in
theorem V_X5_put (a : Int) (b : Int) (c : Int) (d : Int) {D : HP} {Q : Option MV → HP → Prop}
    (h0 : cD D → c32 a → c32 b → c32 c → c32 d → (((fX5_isSheet D a) = 0 → (Q (some (vI (-2))) D)) ∧ (¬ ((fX5_isSheet D a) = 0) → (((fX5_isForm D b) = 0 → (Q (some (vI (-2))) D)) ∧ (¬ ((fX5_isForm D b) = 0) → ((0 ≤ a ∧ a < 4) ∧ (((fX3_hindrance D (45 + a.toNat) b c) = 0 → ((0 ≤ a ∧ a < 4) ∧ (∃ Q6 : Option MV → HP → Prop, CT mX3_setItem [vR (45 + a.toNat), vI c, vI d] D Q6 ∧ ∀ (D9 : HP), Q6 none D9 → cD D9 → (Q (some (vI 1)) D9)))) ∧ (¬ ((fX3_hindrance D (45 + a.toNat) b c) = 0) → (∃ Q13 : Option MV → HP → Prop, CT mX5_finding [vR 0, vI (fX3_hindrance D (45 + a.toNat) b c)] D Q13 ∧ ∀ (r17 : Int) (D16 : HP), Q13 (some (vI r17)) D16 → c32 r17 → cD D16 → (Q (some (vI r17)) D16))))))))))
    : CT mX5_put [vR 0, vI a, vI b, vI c, vI d] D Q := by
  refine CT.of 1 (by decide) (Nat.le_of_ble_eq_true rfl) ?_
  show WP mX5_put Q 0 [vR 0, vI a, vI b, vI c, vI d, vU] [] D
  refine WP_cD (fun hcD => ?_)
  refine WP_cl (fun hcl => ?_)
  have h := h0 hcD (cVs_g hcl (i := 1) (v := vI a) rfl) (cVs_g hcl (i := 2) (v := vI b) rfl) (cVs_g hcl (i := 3) (v := vI c) rfl) (cVs_g hcl (i := 4) (v := vI d) rfl)
  refine WP_iload_n (z := a) dX5_put_0 rfl ?_
  refine WP_pcallS (g := mX5_isSheet) (as := [vI a]) (rest := []) (n := 1) (r := vI (fX5_isSheet D a)) dX5_put_1 wm_664 mo_X5_isSheet rfl rfl ⟨Nat.le_of_ble_eq_true rfl, Nat.le_of_ble_eq_true rfl⟩ (Nat.le_of_ble_eq_true rfl) (P_X5_isSheet  trivial) ?_
  refine WP_if_eq (tgt := 14) dX5_put_4 (by decide) (fun c1 => ?_) (fun c1 => ?_)
  · replace h := h.1 c1
    refine WP_bipush (z := (-2)) dX5_put_14 rfl (by decide) ?_
    exact WP_ireturn dX5_put_16 rfl h
  · replace h := h.2 c1
    refine WP_iload_n (z := b) dX5_put_7 rfl ?_
    refine WP_pcallS (g := mX5_isForm) (as := [vI b]) (rest := []) (n := 1) (r := vI (fX5_isForm D b)) dX5_put_8 wm_833 mo_X5_isForm rfl rfl ⟨Nat.le_of_ble_eq_true rfl, Nat.le_of_ble_eq_true rfl⟩ (Nat.le_of_ble_eq_true rfl) (P_X5_isForm  trivial) ?_
    refine WP_if_ne (tgt := 17) dX5_put_11 (by decide) (fun c2 => ?_) (fun c2 => ?_)
    · replace h := h.2 c2
      refine WP_aload_n (z := 0) dX5_put_17 rfl ?_
      refine WP_getR (z := 44) dX5_put_18 fl_RX5_38 rfl rfl rfl ?_
      refine WP_iload_n (z := a) dX5_put_21 rfl ?_
      obtain ⟨o3, h⟩ := h
      refine WP_aald5 (z := (45 + a.toNat)) dX5_put_22 rfl o3.1 o3.2 (srSE o3) ?_
      refine WP_iload_n (z := b) dX5_put_23 rfl ?_
      refine WP_iload_n (z := c) dX5_put_24 rfl ?_
      refine WP_pcallV (g := mX3_hindrance) (as := [vI b, vI c]) (rest := []) (n := 2) (r := vI (fX3_hindrance D (45 + a.toNat) b c)) dX5_put_25 wm_863 mo_X3_hindrance (kcSE_0 o3) rfl rfl rfl ⟨Nat.le_of_ble_eq_true rfl, Nat.le_of_ble_eq_true rfl⟩ (Nat.le_of_ble_eq_true rfl) (P_X3_hindrance (hSE o3) trivial) ?_
      refine WP_istore (ls1 := [vR 0, vI a, vI b, vI c, vI d, vI (fX3_hindrance D (45 + a.toNat) b c)]) dX5_put_28 (by decide) rfl ?_
      refine WP_iload (z := (fX3_hindrance D (45 + a.toNat) b c)) dX5_put_30 rfl ?_
      refine WP_if_eq (tgt := 42) dX5_put_32 (by decide) (fun c4 => ?_) (fun c4 => ?_)
      · replace h := h.1 c4
        refine WP_aload_n (z := 0) dX5_put_42 rfl ?_
        refine WP_getR (z := 44) dX5_put_43 fl_RX5_38 rfl rfl rfl ?_
        refine WP_iload_n (z := a) dX5_put_46 rfl ?_
        obtain ⟨o5, h⟩ := h
        refine WP_aald5 (z := (45 + a.toNat)) dX5_put_47 rfl o5.1 o5.2 (srSE o5) ?_
        refine WP_iload_n (z := c) dX5_put_48 rfl ?_
        refine WP_iload (z := d) dX5_put_49 rfl ?_
        obtain ⟨Q6, ct8, h⟩ := h
        refine WP_callV (g := mX3_setItem) (as := [vI c, vI d]) (rest := []) (n := 2) dX5_put_51 wm_868 mo_X3_setItem (kcSE_0 o5) rfl rfl rfl ⟨Nat.le_of_ble_eq_true rfl, Nat.le_of_ble_eq_true rfl⟩ (Nat.le_of_ble_eq_true rfl) ct8 (fun r_ D9 hq7 hok hD12 => ?_)
        obtain rfl := hok
        replace h := h D9 hq7 hD12
        show WP mX5_put Q 54 [vR 0, vI a, vI b, vI c, vI d, vI (fX3_hindrance D (45 + a.toNat) b c)] [] D9
        refine WP_iconst (z := 1) dX5_put_54 rfl ⟨by decide, by decide⟩ ?_
        exact WP_ireturn dX5_put_55 rfl h
      · replace h := h.2 c4
        refine WP_aload_n (z := 0) dX5_put_35 rfl ?_
        refine WP_iload (z := (fX3_hindrance D (45 + a.toNat) b c)) dX5_put_36 rfl ?_
        obtain ⟨Q13, ct15, h⟩ := h
        refine WP_callV (g := mX5_finding) (as := [vI (fX3_hindrance D (45 + a.toNat) b c)]) (rest := []) (n := 1) dX5_put_38 wm_671 mo_X5_finding rfl rfl rfl rfl ⟨Nat.le_of_ble_eq_true rfl, Nat.le_of_ble_eq_true rfl⟩ (Nat.le_of_ble_eq_true rfl) ct15 (fun r_ D16 hq14 hok hD19 => ?_)
        obtain ⟨r17, rfl, hr18⟩ := hok
        replace h := h r17 D16 hq14 hr18 hD19
        show WP mX5_put Q 41 [vR 0, vI a, vI b, vI c, vI d, vI (fX3_hindrance D (45 + a.toNat) b c)] [vI r17] D16
        exact WP_ireturn dX5_put_41 rfl h
    · replace h := h.1 c2
      refine WP_bipush (z := (-2)) dX5_put_14 rfl (by decide) ?_
      exact WP_ireturn dX5_put_16 rfl h
set_option maxRecDepth 100000 in
set_option maxHeartbeats 4000000 in
theorem V_X5_get (a : Int) (b : Int) (c : Int) {D : HP} {Q : Option MV → HP → Prop}
    (h0 : cD D → c32 a → c32 b → c32 c → (((fX5_isSheet D a) = 0 → (Q (some (vI (-2147483648))) D)) ∧ (¬ ((fX5_isSheet D a) = 0) → (((fX5_isForm D b) = 0 → (Q (some (vI (-2147483648))) D)) ∧ (¬ ((fX5_isForm D b) = 0) → ((0 ≤ a ∧ a < 4) ∧ (((fX3_hindrance D (45 + a.toNat) b c) = 0 → ((0 ≤ a ∧ a < 4) ∧ ((oX3_item D (45 + a.toNat) c) ∧ (Q (some (vI (fX3_item D (45 + a.toNat) c))) D)))) ∧ (¬ ((fX3_hindrance D (45 + a.toNat) b c) = 0) → (∃ Q7 : Option MV → HP → Prop, CT mX5_finding [vR 0, vI (fX3_hindrance D (45 + a.toNat) b c)] D Q7 ∧ ∀ (r11 : Int) (D10 : HP), Q7 (some (vI r11)) D10 → c32 r11 → cD D10 → (Q (some (vI (-2147483648))) D10))))))))))
    : CT mX5_get [vR 0, vI a, vI b, vI c] D Q := by
  refine CT.of 1 (by decide) (Nat.le_of_ble_eq_true rfl) ?_
  show WP mX5_get Q 0 [vR 0, vI a, vI b, vI c, vU] [] D
  refine WP_cD (fun hcD => ?_)
  refine WP_cl (fun hcl => ?_)
  have h := h0 hcD (cVs_g hcl (i := 1) (v := vI a) rfl) (cVs_g hcl (i := 2) (v := vI b) rfl) (cVs_g hcl (i := 3) (v := vI c) rfl)
  refine WP_iload_n (z := a) dX5_get_0 rfl ?_
  refine WP_pcallS (g := mX5_isSheet) (as := [vI a]) (rest := []) (n := 1) (r := vI (fX5_isSheet D a)) dX5_get_1 wm_664 mo_X5_isSheet rfl rfl ⟨Nat.le_of_ble_eq_true rfl, Nat.le_of_ble_eq_true rfl⟩ (Nat.le_of_ble_eq_true rfl) (P_X5_isSheet  trivial) ?_
  refine WP_if_eq (tgt := 14) dX5_get_4 (by decide) (fun c1 => ?_) (fun c1 => ?_)
  · replace h := h.1 c1
    refine WP_ldcw (z := (-2147483648)) wm_888 dX5_get_14 (by decide +kernel) ?_
    exact WP_ireturn dX5_get_17 rfl h
  · replace h := h.2 c1
    refine WP_iload_n (z := b) dX5_get_7 rfl ?_
    refine WP_pcallS (g := mX5_isForm) (as := [vI b]) (rest := []) (n := 1) (r := vI (fX5_isForm D b)) dX5_get_8 wm_833 mo_X5_isForm rfl rfl ⟨Nat.le_of_ble_eq_true rfl, Nat.le_of_ble_eq_true rfl⟩ (Nat.le_of_ble_eq_true rfl) (P_X5_isForm  trivial) ?_
    refine WP_if_ne (tgt := 18) dX5_get_11 (by decide) (fun c2 => ?_) (fun c2 => ?_)
    · replace h := h.2 c2
      refine WP_aload_n (z := 0) dX5_get_18 rfl ?_
      refine WP_getR (z := 44) dX5_get_19 fl_RX5_38 rfl rfl rfl ?_
      refine WP_iload_n (z := a) dX5_get_22 rfl ?_
      obtain ⟨o3, h⟩ := h
      refine WP_aald5 (z := (45 + a.toNat)) dX5_get_23 rfl o3.1 o3.2 (srSE o3) ?_
      refine WP_iload_n (z := b) dX5_get_24 rfl ?_
      refine WP_iload_n (z := c) dX5_get_25 rfl ?_
      refine WP_pcallV (g := mX3_hindrance) (as := [vI b, vI c]) (rest := []) (n := 2) (r := vI (fX3_hindrance D (45 + a.toNat) b c)) dX5_get_26 wm_863 mo_X3_hindrance (kcSE_0 o3) rfl rfl rfl ⟨Nat.le_of_ble_eq_true rfl, Nat.le_of_ble_eq_true rfl⟩ (Nat.le_of_ble_eq_true rfl) (P_X3_hindrance (hSE o3) trivial) ?_
      refine WP_istore (ls1 := [vR 0, vI a, vI b, vI c, vI (fX3_hindrance D (45 + a.toNat) b c)]) dX5_get_29 (by decide) rfl ?_
      refine WP_iload (z := (fX3_hindrance D (45 + a.toNat) b c)) dX5_get_31 rfl ?_
      refine WP_if_eq (tgt := 47) dX5_get_33 (by decide) (fun c4 => ?_) (fun c4 => ?_)
      · replace h := h.1 c4
        refine WP_aload_n (z := 0) dX5_get_47 rfl ?_
        refine WP_getR (z := 44) dX5_get_48 fl_RX5_38 rfl rfl rfl ?_
        refine WP_iload_n (z := a) dX5_get_51 rfl ?_
        obtain ⟨o5, h⟩ := h
        refine WP_aald5 (z := (45 + a.toNat)) dX5_get_52 rfl o5.1 o5.2 (srSE o5) ?_
        refine WP_iload_n (z := c) dX5_get_53 rfl ?_
        obtain ⟨o6, h⟩ := h
        refine WP_pcallV (g := mX3_item) (as := [vI c]) (rest := []) (n := 1) (r := vI (fX3_item D (45 + a.toNat) c)) dX5_get_54 wm_675 mo_X3_item (kcSE_0 o5) rfl rfl rfl ⟨Nat.le_of_ble_eq_true rfl, Nat.le_of_ble_eq_true rfl⟩ (Nat.le_of_ble_eq_true rfl) (P_X3_item (hSE o5) o6) ?_
        exact WP_ireturn dX5_get_57 rfl h
      · replace h := h.2 c4
        refine WP_aload_n (z := 0) dX5_get_36 rfl ?_
        refine WP_iload (z := (fX3_hindrance D (45 + a.toNat) b c)) dX5_get_37 rfl ?_
        obtain ⟨Q7, ct9, h⟩ := h
        refine WP_callV (g := mX5_finding) (as := [vI (fX3_hindrance D (45 + a.toNat) b c)]) (rest := []) (n := 1) dX5_get_39 wm_671 mo_X5_finding rfl rfl rfl rfl ⟨Nat.le_of_ble_eq_true rfl, Nat.le_of_ble_eq_true rfl⟩ (Nat.le_of_ble_eq_true rfl) ct9 (fun r_ D10 hq8 hok hD13 => ?_)
        obtain ⟨r11, rfl, hr12⟩ := hok
        replace h := h r11 D10 hq8 hr12 hD13
        show WP mX5_get Q 42 [vR 0, vI a, vI b, vI c, vI (fX3_hindrance D (45 + a.toNat) b c)] [vI r11] D10
        refine WP_pop dX5_get_42 (Nat.ne_of_beq_eq_false rfl) ?_
        refine WP_ldcw (z := (-2147483648)) wm_888 dX5_get_43 (by decide +kernel) ?_
        exact WP_ireturn dX5_get_46 rfl h
    · replace h := h.1 c2
      refine WP_ldcw (z := (-2147483648)) wm_888 dX5_get_14 (by decide +kernel) ?_
      exact WP_ireturn dX5_get_17 rfl h
set_option maxRecDepth 100000 in
set_option maxHeartbeats 4000000 in
theorem V_X5_copy (a : Int) (b : Int) (c : Int) (d : Int) (e : Int) {D : HP} {Q : Option MV → HP → Prop}
    (h0 : cD D → c32 a → c32 b → c32 c → c32 d → c32 e → (((fX5_isSheet D a) = 0 → (Q (some (vI (-2))) D)) ∧ (¬ ((fX5_isSheet D a) = 0) → (((fX5_isSheet D c) = 0 → (Q (some (vI (-2))) D)) ∧ (¬ ((fX5_isSheet D c) = 0) → ((0 ≤ a ∧ a < 4) ∧ (((fX3_isLost D (45 + a.toNat)) = 0 → ((0 ≤ c ∧ c < 4) ∧ (((fX3_isLost D (45 + c.toNat)) = 0 → ((0 ≤ a ∧ a < 4) ∧ ((0 ≤ c ∧ c < 4) ∧ (((D (45 + a.toNat) 0) = (D (45 + c.toNat) 0) → ((0 ≤ a ∧ a < 4) ∧ ((oX3_hasItems D (45 + a.toNat) b e) ∧ (((fX3_hasItems D (45 + a.toNat) b e) = 0 → (∃ Q12 : Option MV → HP → Prop, CT mX5_finding [vR 0, vI 2] D Q12 ∧ ∀ (r16 : Int) (D15 : HP), Q12 (some (vI r16)) D15 → c32 r16 → cD D15 → (Q (some (vI r16)) D15))) ∧ (¬ ((fX3_hasItems D (45 + a.toNat) b e) = 0) → ((0 ≤ c ∧ c < 4) ∧ ((oX3_hasItems D (45 + c.toNat) d e) ∧ (((fX3_hasItems D (45 + c.toNat) d e) = 0 → (∃ Q21 : Option MV → HP → Prop, CT mX5_finding [vR 0, vI 2] D Q21 ∧ ∀ (r25 : Int) (D24 : HP), Q21 (some (vI r25)) D24 → c32 r25 → cD D24 → (Q (some (vI r25)) D24))) ∧ (¬ ((fX3_hasItems D (45 + c.toNat) d e) = 0) → ((0 ≤ a ∧ a < 4) ∧ ((0 ≤ c ∧ c < 4) ∧ ((0 ≤ b ∧ 0 ≤ d ∧ 0 ≤ e ∧ b + e ≤ 60 ∧ d + e ≤ 60) ∧ (∀ (E30 : HP), E30 = (hc D (49 + a.toNat) b.toNat (49 + c.toNat) d.toNat e.toNat) → (Q (some (vI 1)) E30)))))))))))))) ∧ (¬ ((D (45 + a.toNat) 0) = (D (45 + c.toNat) 0)) → (∃ Q35 : Option MV → HP → Prop, CT mX5_finding [vR 0, vI 4] D Q35 ∧ ∀ (r39 : Int) (D38 : HP), Q35 (some (vI r39)) D38 → c32 r39 → cD D38 → (Q (some (vI r39)) D38))))))) ∧ (¬ ((fX3_isLost D (45 + c.toNat)) = 0) → (∃ Q42 : Option MV → HP → Prop, CT mX5_finding [vR 0, vI 1] D Q42 ∧ ∀ (r46 : Int) (D45 : HP), Q42 (some (vI r46)) D45 → c32 r46 → cD D45 → (Q (some (vI r46)) D45)))))) ∧ (¬ ((fX3_isLost D (45 + a.toNat)) = 0) → (∃ Q49 : Option MV → HP → Prop, CT mX5_finding [vR 0, vI 1] D Q49 ∧ ∀ (r53 : Int) (D52 : HP), Q49 (some (vI r53)) D52 → c32 r53 → cD D52 → (Q (some (vI r53)) D52))))))))))
    : CT mX5_copy [vR 0, vI a, vI b, vI c, vI d, vI e] D Q := by
  refine CT.of 0 (by decide) (Nat.le_of_ble_eq_true rfl) ?_
  show WP mX5_copy Q 0 [vR 0, vI a, vI b, vI c, vI d, vI e] [] D
  refine WP_cD (fun hcD => ?_)
  refine WP_cl (fun hcl => ?_)
  have h := h0 hcD (cVs_g hcl (i := 1) (v := vI a) rfl) (cVs_g hcl (i := 2) (v := vI b) rfl) (cVs_g hcl (i := 3) (v := vI c) rfl) (cVs_g hcl (i := 4) (v := vI d) rfl) (cVs_g hcl (i := 5) (v := vI e) rfl)
  refine WP_iload_n (z := a) dX5_copy_0 rfl ?_
  refine WP_pcallS (g := mX5_isSheet) (as := [vI a]) (rest := []) (n := 1) (r := vI (fX5_isSheet D a)) dX5_copy_1 wm_664 mo_X5_isSheet rfl rfl ⟨Nat.le_of_ble_eq_true rfl, Nat.le_of_ble_eq_true rfl⟩ (Nat.le_of_ble_eq_true rfl) (P_X5_isSheet  trivial) ?_
  refine WP_if_eq (tgt := 14) dX5_copy_4 (by decide) (fun c1 => ?_) (fun c1 => ?_)
  · replace h := h.1 c1
    refine WP_bipush (z := (-2)) dX5_copy_14 rfl (by decide) ?_
    exact WP_ireturn dX5_copy_16 rfl h
  · replace h := h.2 c1
    refine WP_iload_n (z := c) dX5_copy_7 rfl ?_
    refine WP_pcallS (g := mX5_isSheet) (as := [vI c]) (rest := []) (n := 1) (r := vI (fX5_isSheet D c)) dX5_copy_8 wm_664 mo_X5_isSheet rfl rfl ⟨Nat.le_of_ble_eq_true rfl, Nat.le_of_ble_eq_true rfl⟩ (Nat.le_of_ble_eq_true rfl) (P_X5_isSheet  trivial) ?_
    refine WP_if_ne (tgt := 17) dX5_copy_11 (by decide) (fun c2 => ?_) (fun c2 => ?_)
    · replace h := h.2 c2
      refine WP_aload_n (z := 0) dX5_copy_17 rfl ?_
      refine WP_getR (z := 44) dX5_copy_18 fl_RX5_38 rfl rfl rfl ?_
      refine WP_iload_n (z := a) dX5_copy_21 rfl ?_
      obtain ⟨o3, h⟩ := h
      refine WP_aald5 (z := (45 + a.toNat)) dX5_copy_22 rfl o3.1 o3.2 (srSE o3) ?_
      refine WP_pcallV (g := mX3_isLost) (as := []) (rest := []) (n := 0) (r := vI (fX3_isLost D (45 + a.toNat))) dX5_copy_23 wm_667 mo_X3_isLost (kcSE_0 o3) rfl rfl rfl ⟨Nat.le_of_ble_eq_true rfl, Nat.le_of_ble_eq_true rfl⟩ (Nat.le_of_ble_eq_true rfl) (P_X3_isLost (hSE o3) trivial) ?_
      refine WP_if_ne (tgt := 41) dX5_copy_26 (by decide) (fun c4 => ?_) (fun c4 => ?_)
      · replace h := h.2 c4
        refine WP_aload_n (z := 0) dX5_copy_41 rfl ?_
        refine WP_iconst (z := 1) dX5_copy_42 rfl ⟨by decide, by decide⟩ ?_
        obtain ⟨Q49, ct51, h⟩ := h
        refine WP_callV (g := mX5_finding) (as := [vI 1]) (rest := []) (n := 1) dX5_copy_43 wm_671 mo_X5_finding rfl rfl rfl rfl ⟨Nat.le_of_ble_eq_true rfl, Nat.le_of_ble_eq_true rfl⟩ (Nat.le_of_ble_eq_true rfl) ct51 (fun r_ D52 hq50 hok hD55 => ?_)
        obtain ⟨r53, rfl, hr54⟩ := hok
        replace h := h r53 D52 hq50 hr54 hD55
        show WP mX5_copy Q 46 [vR 0, vI a, vI b, vI c, vI d, vI e] [vI r53] D52
        exact WP_ireturn dX5_copy_46 rfl h
      · replace h := h.1 c4
        refine WP_aload_n (z := 0) dX5_copy_29 rfl ?_
        refine WP_getR (z := 44) dX5_copy_30 fl_RX5_38 rfl rfl rfl ?_
        refine WP_iload_n (z := c) dX5_copy_33 rfl ?_
        obtain ⟨o5, h⟩ := h
        refine WP_aald5 (z := (45 + c.toNat)) dX5_copy_34 rfl o5.1 o5.2 (srSE o5) ?_
        refine WP_pcallV (g := mX3_isLost) (as := []) (rest := []) (n := 0) (r := vI (fX3_isLost D (45 + c.toNat))) dX5_copy_35 wm_667 mo_X3_isLost (kcSE_0 o5) rfl rfl rfl ⟨Nat.le_of_ble_eq_true rfl, Nat.le_of_ble_eq_true rfl⟩ (Nat.le_of_ble_eq_true rfl) (P_X3_isLost (hSE o5) trivial) ?_
        refine WP_if_eq (tgt := 47) dX5_copy_38 (by decide) (fun c6 => ?_) (fun c6 => ?_)
        · replace h := h.1 c6
          refine WP_aload_n (z := 0) dX5_copy_47 rfl ?_
          refine WP_getR (z := 44) dX5_copy_48 fl_RX5_38 rfl rfl rfl ?_
          refine WP_iload_n (z := a) dX5_copy_51 rfl ?_
          obtain ⟨o7, h⟩ := h
          refine WP_aald5 (z := (45 + a.toNat)) dX5_copy_52 rfl o7.1 o7.2 (srSE o7) ?_
          refine WP_getI dX5_copy_53 fl_RX5_302 (kcSE_0 o7) rfl rfl ?_
          refine WP_aload_n (z := 0) dX5_copy_56 rfl ?_
          refine WP_getR (z := 44) dX5_copy_57 fl_RX5_38 rfl rfl rfl ?_
          refine WP_iload_n (z := c) dX5_copy_60 rfl ?_
          obtain ⟨o8, h⟩ := h
          refine WP_aald5 (z := (45 + c.toNat)) dX5_copy_61 rfl o8.1 o8.2 (srSE o8) ?_
          refine WP_getI dX5_copy_62 fl_RX5_302 (kcSE_0 o8) rfl rfl ?_
          refine WP_icmp_eq (tgt := 74) dX5_copy_65 (by decide) (fun c9 => ?_) (fun c9 => ?_)
          · replace h := h.1 c9
            refine WP_aload_n (z := 0) dX5_copy_74 rfl ?_
            refine WP_getR (z := 44) dX5_copy_75 fl_RX5_38 rfl rfl rfl ?_
            refine WP_iload_n (z := a) dX5_copy_78 rfl ?_
            obtain ⟨o10, h⟩ := h
            refine WP_aald5 (z := (45 + a.toNat)) dX5_copy_79 rfl o10.1 o10.2 (srSE o10) ?_
            refine WP_iload_n (z := b) dX5_copy_80 rfl ?_
            refine WP_iload (z := e) dX5_copy_81 rfl ?_
            obtain ⟨o34, h⟩ := h
            refine WP_pcallV (g := mX3_hasItems) (as := [vI b, vI e]) (rest := []) (n := 2) (r := vI (fX3_hasItems D (45 + a.toNat) b e)) dX5_copy_83 wm_901 mo_X3_hasItems (kcSE_0 o10) rfl rfl rfl ⟨Nat.le_of_ble_eq_true rfl, Nat.le_of_ble_eq_true rfl⟩ (Nat.le_of_ble_eq_true rfl) (P_X3_hasItems (hSE o10) o34) ?_
            refine WP_if_eq (tgt := 105) dX5_copy_86 (by decide) (fun c11 => ?_) (fun c11 => ?_)
            · replace h := h.1 c11
              refine WP_aload_n (z := 0) dX5_copy_105 rfl ?_
              refine WP_iconst (z := 2) dX5_copy_106 rfl ⟨by decide, by decide⟩ ?_
              obtain ⟨Q12, ct14, h⟩ := h
              refine WP_callV (g := mX5_finding) (as := [vI 2]) (rest := []) (n := 1) dX5_copy_107 wm_671 mo_X5_finding rfl rfl rfl rfl ⟨Nat.le_of_ble_eq_true rfl, Nat.le_of_ble_eq_true rfl⟩ (Nat.le_of_ble_eq_true rfl) ct14 (fun r_ D15 hq13 hok hD18 => ?_)
              obtain ⟨r16, rfl, hr17⟩ := hok
              replace h := h r16 D15 hq13 hr17 hD18
              show WP mX5_copy Q 110 [vR 0, vI a, vI b, vI c, vI d, vI e] [vI r16] D15
              exact WP_ireturn dX5_copy_110 rfl h
            · replace h := h.2 c11
              refine WP_aload_n (z := 0) dX5_copy_89 rfl ?_
              refine WP_getR (z := 44) dX5_copy_90 fl_RX5_38 rfl rfl rfl ?_
              refine WP_iload_n (z := c) dX5_copy_93 rfl ?_
              obtain ⟨o19, h⟩ := h
              refine WP_aald5 (z := (45 + c.toNat)) dX5_copy_94 rfl o19.1 o19.2 (srSE o19) ?_
              refine WP_iload (z := d) dX5_copy_95 rfl ?_
              refine WP_iload (z := e) dX5_copy_97 rfl ?_
              obtain ⟨o33, h⟩ := h
              refine WP_pcallV (g := mX3_hasItems) (as := [vI d, vI e]) (rest := []) (n := 2) (r := vI (fX3_hasItems D (45 + c.toNat) d e)) dX5_copy_99 wm_901 mo_X3_hasItems (kcSE_0 o19) rfl rfl rfl ⟨Nat.le_of_ble_eq_true rfl, Nat.le_of_ble_eq_true rfl⟩ (Nat.le_of_ble_eq_true rfl) (P_X3_hasItems (hSE o19) o33) ?_
              refine WP_if_ne (tgt := 111) dX5_copy_102 (by decide) (fun c20 => ?_) (fun c20 => ?_)
              · replace h := h.2 c20
                refine WP_aload_n (z := 0) dX5_copy_111 rfl ?_
                refine WP_getR (z := 44) dX5_copy_112 fl_RX5_38 rfl rfl rfl ?_
                refine WP_iload_n (z := a) dX5_copy_115 rfl ?_
                obtain ⟨o28, h⟩ := h
                refine WP_aald5 (z := (45 + a.toNat)) dX5_copy_116 rfl o28.1 o28.2 (srSE o28) ?_
                refine WP_getR (z := (49 + a.toNat)) dX5_copy_117 fl_RX5_308 (kcSE_0 o28) rfl (srSE_0_2 o28) ?_
                refine WP_iload_n (z := b) dX5_copy_120 rfl ?_
                refine WP_aload_n (z := 0) dX5_copy_121 rfl ?_
                refine WP_getR (z := 44) dX5_copy_122 fl_RX5_38 rfl rfl rfl ?_
                refine WP_iload_n (z := c) dX5_copy_125 rfl ?_
                obtain ⟨o29, h⟩ := h
                refine WP_aald5 (z := (45 + c.toNat)) dX5_copy_126 rfl o29.1 o29.2 (srSE o29) ?_
                refine WP_getR (z := (49 + c.toNat)) dX5_copy_127 fl_RX5_308 (kcSE_0 o29) rfl (srSE_0_2 o29) ?_
                refine WP_iload (z := d) dX5_copy_130 rfl ?_
                refine WP_iload (z := e) dX5_copy_132 rfl ?_
                obtain ⟨o32, h⟩ := h
                refine WP_copy dX5_copy_134 wm_900 w_copy ⟨Nat.le_of_ble_eq_true rfl, Nat.le_of_ble_eq_true rfl⟩ (Nat.le_of_ble_eq_true rfl) (kcSE_4 o28) (kcSE_4 o29) o32.1 o32.2.1 o32.2.2.1 o32.2.2.2.1 o32.2.2.2.2 ?_
                obtain ⟨E30, hE31⟩ : ∃ E30 : HP, E30 = (hc D (49 + a.toNat) b.toNat (49 + c.toNat) d.toNat e.toNat) := ⟨_, rfl⟩
                replace h := h E30 hE31
                show WP mX5_copy Q 137 [vR 0, vI a, vI b, vI c, vI d, vI e] [] (hc D (49 + a.toNat) b.toNat (49 + c.toNat) d.toNat e.toNat)
                rw [← hE31]
                refine WP_iconst (z := 1) dX5_copy_137 rfl ⟨by decide, by decide⟩ ?_
                exact WP_ireturn dX5_copy_138 rfl h
              · replace h := h.1 c20
                refine WP_aload_n (z := 0) dX5_copy_105 rfl ?_
                refine WP_iconst (z := 2) dX5_copy_106 rfl ⟨by decide, by decide⟩ ?_
                obtain ⟨Q21, ct23, h⟩ := h
                refine WP_callV (g := mX5_finding) (as := [vI 2]) (rest := []) (n := 1) dX5_copy_107 wm_671 mo_X5_finding rfl rfl rfl rfl ⟨Nat.le_of_ble_eq_true rfl, Nat.le_of_ble_eq_true rfl⟩ (Nat.le_of_ble_eq_true rfl) ct23 (fun r_ D24 hq22 hok hD27 => ?_)
                obtain ⟨r25, rfl, hr26⟩ := hok
                replace h := h r25 D24 hq22 hr26 hD27
                show WP mX5_copy Q 110 [vR 0, vI a, vI b, vI c, vI d, vI e] [vI r25] D24
                exact WP_ireturn dX5_copy_110 rfl h
          · replace h := h.2 c9
            refine WP_aload_n (z := 0) dX5_copy_68 rfl ?_
            refine WP_iconst (z := 4) dX5_copy_69 rfl ⟨by decide, by decide⟩ ?_
            obtain ⟨Q35, ct37, h⟩ := h
            refine WP_callV (g := mX5_finding) (as := [vI 4]) (rest := []) (n := 1) dX5_copy_70 wm_671 mo_X5_finding rfl rfl rfl rfl ⟨Nat.le_of_ble_eq_true rfl, Nat.le_of_ble_eq_true rfl⟩ (Nat.le_of_ble_eq_true rfl) ct37 (fun r_ D38 hq36 hok hD41 => ?_)
            obtain ⟨r39, rfl, hr40⟩ := hok
            replace h := h r39 D38 hq36 hr40 hD41
            show WP mX5_copy Q 73 [vR 0, vI a, vI b, vI c, vI d, vI e] [vI r39] D38
            exact WP_ireturn dX5_copy_73 rfl h
        · replace h := h.2 c6
          refine WP_aload_n (z := 0) dX5_copy_41 rfl ?_
          refine WP_iconst (z := 1) dX5_copy_42 rfl ⟨by decide, by decide⟩ ?_
          obtain ⟨Q42, ct44, h⟩ := h
          refine WP_callV (g := mX5_finding) (as := [vI 1]) (rest := []) (n := 1) dX5_copy_43 wm_671 mo_X5_finding rfl rfl rfl rfl ⟨Nat.le_of_ble_eq_true rfl, Nat.le_of_ble_eq_true rfl⟩ (Nat.le_of_ble_eq_true rfl) ct44 (fun r_ D45 hq43 hok hD48 => ?_)
          obtain ⟨r46, rfl, hr47⟩ := hok
          replace h := h r46 D45 hq43 hr47 hD48
          show WP mX5_copy Q 46 [vR 0, vI a, vI b, vI c, vI d, vI e] [vI r46] D45
          exact WP_ireturn dX5_copy_46 rfl h
    · replace h := h.1 c2
      refine WP_bipush (z := (-2)) dX5_copy_14 rfl (by decide) ?_
      exact WP_ireturn dX5_copy_16 rfl h
set_option maxRecDepth 100000 in
set_option maxHeartbeats 4000000 in
theorem V_X5_write (a : Int) (b : Int) {D : HP} {Q : Option MV → HP → Prop} (I62 : Int → Int → Int → Int → HP → Prop) (u62 : Int → Int → Int → Int → HP → Nat)
    (h0 : cD D → c32 a → c32 b → (((fX5_isMinute D a) = 0 → (Q (some (vI (-2))) D)) ∧ (¬ ((fX5_isMinute D a) = 0) → (((fX5_isSheet D b) = 0 → (Q (some (vI (-2))) D)) ∧ (¬ ((fX5_isSheet D b) = 0) → ((0 ≤ b ∧ b < 4) ∧ (((fX3_isLost D (45 + b.toNat)) = 0 → ((0 ≤ b ∧ b < 4) ∧ (∀ (v6 : Int), v6 = (if (D 10 1) < (D (45 + b.toNat) 1) then ((D 10 1) : Int) else (D (45 + b.toNat) 1)) → (I62 a b v6 0 D)))) ∧ (¬ ((fX3_isLost D (45 + b.toNat)) = 0) → (∃ Q8 : Option MV → HP → Prop, CT mX5_finding [vR 0, vI 1] D Q8 ∧ ∀ (r12 : Int) (D11 : HP), Q8 (some (vI r12)) D11 → c32 r12 → cD D11 → (Q (some (vI r12)) D11))))))))))
    (h62 : ∀ (x1 x2 x3 x4 : Int) (D : HP), I62 x1 x2 x3 x4 D → cD D → c32 x1 → c32 x2 → c32 x3 → c32 x4 → ((x3 ≤ x4 → (Q (some (vI x3)) D)) ∧ (¬ (x3 ≤ x4) → ((0 ≤ x2 ∧ x2 < 4) ∧ ((oX0_windOn D 9 x1 x4) ∧ (∃ Q17 : Option MV → HP → Prop, CT mX3_setItem [vR (45 + x2.toNat), vI x4, vI (fX0_windOn D 9 x1 x4)] D Q17 ∧ ∀ (D20 : HP), Q17 none D20 → cD D20 → ((c32 (x4 + 1)) ∧ (I62 x1 x2 x3 (x4 + 1) D20 ∧ u62 x1 x2 x3 (x4 + 1) D20 < u62 x1 x2 x3 x4 D))))))))
    : CT mX5_write [vR 0, vI a, vI b] D Q := by
  refine CT.of 2 (by decide) (Nat.le_of_ble_eq_true rfl) ?_
  show WP mX5_write Q 0 [vR 0, vI a, vI b, vU, vU] [] D
  have IH : ∀ n : Nat, (∀ (x1 x2 x3 x4 : Int) (D : HP), I62 x1 x2 x3 x4 D → u62 x1 x2 x3 x4 D * 1 + 0 < n → WP mX5_write Q 62 [vR 0, vI x1, vI x2, vI x3, vI x4] [] D) := by
    intro n
    induction n with
    | zero => exact fun _ _ _ _ _ _ h => absurd h (Nat.not_lt_zero _)
    | succ n ih =>
      have ih62_ := ih
      · intro x1 x2 x3 x4 D hI hn
        refine WP_cD (fun hcD => ?_)
        refine WP_cl (fun hcl => ?_)
        have h := h62 x1 x2 x3 x4 D hI hcD (cVs_g hcl (i := 1) (v := vI x1) rfl) (cVs_g hcl (i := 2) (v := vI x2) rfl) (cVs_g hcl (i := 3) (v := vI x3) rfl) (cVs_g hcl (i := 4) (v := vI x4) rfl)
        refine WP_iload (z := x4) dX5_write_62 rfl ?_
        refine WP_iload_n (z := x3) dX5_write_64 rfl ?_
        refine WP_icmp_ge (tgt := 95) dX5_write_65 (by decide) (fun c15 => ?_) (fun c15 => ?_)
        · replace h := h.1 c15
          refine WP_iload_n (z := x3) dX5_write_95 rfl ?_
          exact WP_ireturn dX5_write_96 rfl h
        · replace h := h.2 c15
          refine WP_aload_n (z := 0) dX5_write_68 rfl ?_
          refine WP_getR (z := 44) dX5_write_69 fl_RX5_38 rfl rfl rfl ?_
          refine WP_iload_n (z := x2) dX5_write_72 rfl ?_
          obtain ⟨o16, h⟩ := h
          refine WP_aald5 (z := (45 + x2.toNat)) dX5_write_73 rfl o16.1 o16.2 (srSE o16) ?_
          refine WP_iload (z := x4) dX5_write_74 rfl ?_
          refine WP_aload_n (z := 0) dX5_write_76 rfl ?_
          refine WP_getR (z := 9) dX5_write_77 fl_RX5_22 rfl rfl rfl ?_
          refine WP_iload_n (z := x1) dX5_write_80 rfl ?_
          refine WP_iload (z := x4) dX5_write_81 rfl ?_
          obtain ⟨o25, h⟩ := h
          refine WP_pcallV (g := mX0_windOn) (as := [vI x1, vI x4]) (rest := [vI x4, vR (45 + x2.toNat)]) (n := 2) (r := vI (fX0_windOn D 9 x1 x4)) dX5_write_83 wm_402 mo_X0_windOn rfl rfl rfl rfl ⟨Nat.le_of_ble_eq_true rfl, Nat.le_of_ble_eq_true rfl⟩ (Nat.le_of_ble_eq_true rfl) (P_X0_windOn (by decide) o25) ?_
          obtain ⟨Q17, ct19, h⟩ := h
          refine WP_callV (g := mX3_setItem) (as := [vI x4, vI (fX0_windOn D 9 x1 x4)]) (rest := []) (n := 2) dX5_write_86 wm_868 mo_X3_setItem (kcSE_0 o16) rfl rfl rfl ⟨Nat.le_of_ble_eq_true rfl, Nat.le_of_ble_eq_true rfl⟩ (Nat.le_of_ble_eq_true rfl) ct19 (fun r_ D20 hq18 hok hD23 => ?_)
          obtain rfl := hok
          replace h := h D20 hq18 hD23
          show WP mX5_write Q 89 [vR 0, vI x1, vI x2, vI x3, vI x4] [] D20
          obtain ⟨o24, h⟩ := h
          refine WP_iinc (z := (x4 + 1)) (ls1 := [vR 0, vI x1, vI x2, vI x3, vI (x4 + 1)]) dX5_write_89 rfl (w32_id o24) (by decide) rfl ?_
          refine WP_goto (tgt := 62) dX5_write_92 (by decide) ?_
          exact ih62_ _ _ _ _ _ h.1 (by have := h.2; omega)
  have cut62_ : ∀ (x1 x2 x3 x4 : Int) (D : HP), I62 x1 x2 x3 x4 D → WP mX5_write Q 62 [vR 0, vI x1, vI x2, vI x3, vI x4] [] D := fun x1 x2 x3 x4 D hI => (IH (u62 x1 x2 x3 x4 D * 1 + 0 + 1)) x1 x2 x3 x4 D hI (by omega)
  refine WP_cD (fun hcD => ?_)
  refine WP_cl (fun hcl => ?_)
  have h := h0 hcD (cVs_g hcl (i := 1) (v := vI a) rfl) (cVs_g hcl (i := 2) (v := vI b) rfl)
  refine WP_aload_n (z := 0) dX5_write_0 rfl ?_
  refine WP_iload_n (z := a) dX5_write_1 rfl ?_
  refine WP_pcallV (g := mX5_isMinute) (as := [vI a]) (rest := []) (n := 1) (r := vI (fX5_isMinute D a)) dX5_write_2 wm_353 mo_X5_isMinute rfl rfl rfl rfl ⟨Nat.le_of_ble_eq_true rfl, Nat.le_of_ble_eq_true rfl⟩ (Nat.le_of_ble_eq_true rfl) (P_X5_isMinute  trivial) ?_
  refine WP_if_eq (tgt := 15) dX5_write_5 (by decide) (fun c1 => ?_) (fun c1 => ?_)
  · replace h := h.1 c1
    refine WP_bipush (z := (-2)) dX5_write_15 rfl (by decide) ?_
    exact WP_ireturn dX5_write_17 rfl h
  · replace h := h.2 c1
    refine WP_iload_n (z := b) dX5_write_8 rfl ?_
    refine WP_pcallS (g := mX5_isSheet) (as := [vI b]) (rest := []) (n := 1) (r := vI (fX5_isSheet D b)) dX5_write_9 wm_664 mo_X5_isSheet rfl rfl ⟨Nat.le_of_ble_eq_true rfl, Nat.le_of_ble_eq_true rfl⟩ (Nat.le_of_ble_eq_true rfl) (P_X5_isSheet  trivial) ?_
    refine WP_if_ne (tgt := 18) dX5_write_12 (by decide) (fun c2 => ?_) (fun c2 => ?_)
    · replace h := h.2 c2
      refine WP_aload_n (z := 0) dX5_write_18 rfl ?_
      refine WP_getR (z := 44) dX5_write_19 fl_RX5_38 rfl rfl rfl ?_
      refine WP_iload_n (z := b) dX5_write_22 rfl ?_
      obtain ⟨o3, h⟩ := h
      refine WP_aald5 (z := (45 + b.toNat)) dX5_write_23 rfl o3.1 o3.2 (srSE o3) ?_
      refine WP_pcallV (g := mX3_isLost) (as := []) (rest := []) (n := 0) (r := vI (fX3_isLost D (45 + b.toNat))) dX5_write_24 wm_667 mo_X3_isLost (kcSE_0 o3) rfl rfl rfl ⟨Nat.le_of_ble_eq_true rfl, Nat.le_of_ble_eq_true rfl⟩ (Nat.le_of_ble_eq_true rfl) (P_X3_isLost (hSE o3) trivial) ?_
      refine WP_if_eq (tgt := 36) dX5_write_27 (by decide) (fun c4 => ?_) (fun c4 => ?_)
      · replace h := h.1 c4
        refine WP_aload_n (z := 0) dX5_write_36 rfl ?_
        refine WP_getR (z := 44) dX5_write_37 fl_RX5_38 rfl rfl rfl ?_
        refine WP_iload_n (z := b) dX5_write_40 rfl ?_
        obtain ⟨o5, h⟩ := h
        refine WP_aald5 (z := (45 + b.toNat)) dX5_write_41 rfl o5.1 o5.2 (srSE o5) ?_
        refine WP_getI dX5_write_42 fl_RX5_213 (kcSE_0 o5) rfl rfl ?_
        refine WP_aload_n (z := 0) dX5_write_45 rfl ?_
        refine WP_getR (z := 9) dX5_write_46 fl_RX5_22 rfl rfl rfl ?_
        refine WP_getR (z := 10) dX5_write_49 fl_RX5_91 rfl rfl rfl ?_
        refine WP_getI dX5_write_52 fl_RX5_157 rfl rfl rfl ?_
        refine WP_min dX5_write_55 wm_769 w_min ⟨Nat.le_of_ble_eq_true rfl, Nat.le_of_ble_eq_true rfl⟩ (Nat.le_of_ble_eq_true rfl) rfl ?_
        refine WP_istore_n (ls1 := [vR 0, vI a, vI b, vI (if (D 10 1) < (D (45 + b.toNat) 1) then ((D 10 1) : Int) else (D (45 + b.toNat) 1)), vU]) dX5_write_58 (by decide) rfl ?_
        obtain ⟨v6, hv7⟩ : ∃ v6 : Int, v6 = (if (D 10 1) < (D (45 + b.toNat) 1) then ((D 10 1) : Int) else (D (45 + b.toNat) 1)) := ⟨_, rfl⟩
        replace h := h v6 hv7
        rw [← hv7]
        refine WP_iconst (z := 0) dX5_write_59 rfl ⟨by decide, by decide⟩ ?_
        refine WP_istore (ls1 := [vR 0, vI a, vI b, vI v6, vI 0]) dX5_write_60 (by decide) rfl ?_
        exact cut62_ _ _ _ _ _ h
      · replace h := h.2 c4
        refine WP_aload_n (z := 0) dX5_write_30 rfl ?_
        refine WP_iconst (z := 1) dX5_write_31 rfl ⟨by decide, by decide⟩ ?_
        obtain ⟨Q8, ct10, h⟩ := h
        refine WP_callV (g := mX5_finding) (as := [vI 1]) (rest := []) (n := 1) dX5_write_32 wm_671 mo_X5_finding rfl rfl rfl rfl ⟨Nat.le_of_ble_eq_true rfl, Nat.le_of_ble_eq_true rfl⟩ (Nat.le_of_ble_eq_true rfl) ct10 (fun r_ D11 hq9 hok hD14 => ?_)
        obtain ⟨r12, rfl, hr13⟩ := hok
        replace h := h r12 D11 hq9 hr13 hD14
        show WP mX5_write Q 35 [vR 0, vI a, vI b, vU, vU] [vI r12] D11
        exact WP_ireturn dX5_write_35 rfl h
    · replace h := h.1 c2
      refine WP_bipush (z := (-2)) dX5_write_15 rfl (by decide) ?_
      exact WP_ireturn dX5_write_17 rfl h
def fX5_count (D : HP) (a : Int) : Int := (if a = 0 then ((D 10 1) : Int) else (if a = 1 then ((D 10 2) : Int) else (if a = 2 then ((D 10 3) : Int) else (if a = 3 then ((fX2_length D 2) : Int) else (if a = 4 then ((fX2_length D 3) : Int) else (if a = 5 then ((fX2_length D 4) : Int) else (if a = 6 then ((fX0_manyTurned D 9) : Int) else (if a = 7 then ((D 41 0) : Int) else (if a = 8 then ((D 0 6) : Int) else (-2))))))))))
def oX5_count (D : HP) (a : Int) : Prop := ((a = 0 → True) ∧ (a = 1 → True) ∧ (a = 2 → True) ∧ (a = 3 → True) ∧ (a = 4 → True) ∧ (a = 5 → True) ∧ (a = 6 → ((oX0_manyTurned D 9) ∧ True)) ∧ (a = 7 → True) ∧ (a = 8 → True))
set_option maxRecDepth 100000 in
set_option maxHeartbeats 4000000 in
theorem V_X5_count (a : Int) {D : HP} {Q : Option MV → HP → Prop}
    (h0 : cD D → c32 a → (((a < 0 ∨ 8 < a) → (Q (some (vI (-2))) D)) ∧ (a = 0 → (Q (some (vI (D 10 1))) D)) ∧ (a = 1 → (Q (some (vI (D 10 2))) D)) ∧ (a = 2 → (Q (some (vI (D 10 3))) D)) ∧ (a = 3 → (Q (some (vI (fX2_length D 2))) D)) ∧ (a = 4 → (Q (some (vI (fX2_length D 3))) D)) ∧ (a = 5 → (Q (some (vI (fX2_length D 4))) D)) ∧ (a = 6 → ((oX0_manyTurned D 9) ∧ (Q (some (vI (fX0_manyTurned D 9))) D))) ∧ (a = 7 → (Q (some (vI (D 41 0))) D)) ∧ (a = 8 → (Q (some (vI (D 0 6))) D))))
    : CT mX5_count [vR 0, vI a] D Q := by
  refine CT.of 0 (by decide) (Nat.le_of_ble_eq_true rfl) ?_
  show WP mX5_count Q 0 [vR 0, vI a] [] D
  refine WP_cD (fun hcD => ?_)
  refine WP_cl (fun hcl => ?_)
  have h := h0 hcD (cVs_g hcl (i := 1) (v := vI a) rfl)
  refine WP_iload_n (z := a) dX5_count_0 rfl ?_
  rcases (show (a < 0 ∨ 8 < a) ∨ a = 0 ∨ a = 1 ∨ a = 2 ∨ a = 3 ∨ a = 4 ∨ a = 5 ∨ a = 6 ∨ a = 7 ∨ a = 8 from by omega) with q1 | q1 | q1 | q1 | q1 | q1 | q1 | q1 | q1 | q1
  · replace h := h.1 q1
    refine WP_tabOut (tgt := 136) dX5_count_1 q1 (by decide) ?_
    refine WP_bipush (z := (-2)) dX5_count_136 rfl (by decide) ?_
    exact WP_ireturn dX5_count_138 rfl h
  · replace h := h.2.1 q1
    refine WP_tabIn (off := 51) (tgt := 52) dX5_count_1 (by omega) (by omega) (by rw [q1]; rfl) (by decide) ?_
    refine WP_aload_n (z := 0) dX5_count_52 rfl ?_
    refine WP_getR (z := 9) dX5_count_53 fl_RX5_22 rfl rfl rfl ?_
    refine WP_getR (z := 10) dX5_count_56 fl_RX5_91 rfl rfl rfl ?_
    refine WP_getI dX5_count_59 fl_RX5_157 rfl rfl rfl ?_
    exact WP_ireturn dX5_count_62 rfl h
  · replace h := h.2.2.1 q1
    refine WP_tabIn (off := 62) (tgt := 63) dX5_count_1 (by omega) (by omega) (by rw [q1]; rfl) (by decide) ?_
    refine WP_aload_n (z := 0) dX5_count_63 rfl ?_
    refine WP_getR (z := 9) dX5_count_64 fl_RX5_22 rfl rfl rfl ?_
    refine WP_getR (z := 10) dX5_count_67 fl_RX5_91 rfl rfl rfl ?_
    refine WP_getI dX5_count_70 fl_RX5_150 rfl rfl rfl ?_
    exact WP_ireturn dX5_count_73 rfl h
  · replace h := h.2.2.2.1 q1
    refine WP_tabIn (off := 73) (tgt := 74) dX5_count_1 (by omega) (by omega) (by rw [q1]; rfl) (by decide) ?_
    refine WP_aload_n (z := 0) dX5_count_74 rfl ?_
    refine WP_getR (z := 9) dX5_count_75 fl_RX5_22 rfl rfl rfl ?_
    refine WP_getR (z := 10) dX5_count_78 fl_RX5_91 rfl rfl rfl ?_
    refine WP_getI dX5_count_81 fl_RX5_167 rfl rfl rfl ?_
    exact WP_ireturn dX5_count_84 rfl h
  · replace h := h.2.2.2.2.1 q1
    refine WP_tabIn (off := 84) (tgt := 85) dX5_count_1 (by omega) (by omega) (by rw [q1]; rfl) (by decide) ?_
    refine WP_aload_n (z := 0) dX5_count_85 rfl ?_
    refine WP_getR (z := 1) dX5_count_86 fl_RX5_11 rfl rfl rfl ?_
    refine WP_iconst (z := 0) dX5_count_89 rfl ⟨by decide, by decide⟩ ?_
    refine WP_aald4 (z := 2) dX5_count_90 rfl (by decide) (by decide) rfl ?_
    refine WP_pcallV (g := mX2_length) (as := []) (rest := []) (n := 0) (r := vI (fX2_length D 2)) dX5_count_91 wm_254 mo_X2_length rfl rfl rfl rfl ⟨Nat.le_of_ble_eq_true rfl, Nat.le_of_ble_eq_true rfl⟩ (Nat.le_of_ble_eq_true rfl) (P_X2_length (by decide) trivial) ?_
    exact WP_ireturn dX5_count_94 rfl h
  · replace h := h.2.2.2.2.2.1 q1
    refine WP_tabIn (off := 94) (tgt := 95) dX5_count_1 (by omega) (by omega) (by rw [q1]; rfl) (by decide) ?_
    refine WP_aload_n (z := 0) dX5_count_95 rfl ?_
    refine WP_getR (z := 1) dX5_count_96 fl_RX5_11 rfl rfl rfl ?_
    refine WP_iconst (z := 1) dX5_count_99 rfl ⟨by decide, by decide⟩ ?_
    refine WP_aald4 (z := 3) dX5_count_100 rfl (by decide) (by decide) rfl ?_
    refine WP_pcallV (g := mX2_length) (as := []) (rest := []) (n := 0) (r := vI (fX2_length D 3)) dX5_count_101 wm_254 mo_X2_length rfl rfl rfl rfl ⟨Nat.le_of_ble_eq_true rfl, Nat.le_of_ble_eq_true rfl⟩ (Nat.le_of_ble_eq_true rfl) (P_X2_length (by decide) trivial) ?_
    exact WP_ireturn dX5_count_104 rfl h
  · replace h := h.2.2.2.2.2.2.1 q1
    refine WP_tabIn (off := 104) (tgt := 105) dX5_count_1 (by omega) (by omega) (by rw [q1]; rfl) (by decide) ?_
    refine WP_aload_n (z := 0) dX5_count_105 rfl ?_
    refine WP_getR (z := 1) dX5_count_106 fl_RX5_11 rfl rfl rfl ?_
    refine WP_iconst (z := 2) dX5_count_109 rfl ⟨by decide, by decide⟩ ?_
    refine WP_aald4 (z := 4) dX5_count_110 rfl (by decide) (by decide) rfl ?_
    refine WP_pcallV (g := mX2_length) (as := []) (rest := []) (n := 0) (r := vI (fX2_length D 4)) dX5_count_111 wm_254 mo_X2_length rfl rfl rfl rfl ⟨Nat.le_of_ble_eq_true rfl, Nat.le_of_ble_eq_true rfl⟩ (Nat.le_of_ble_eq_true rfl) (P_X2_length (by decide) trivial) ?_
    exact WP_ireturn dX5_count_114 rfl h
  · replace h := h.2.2.2.2.2.2.2.1 q1
    refine WP_tabIn (off := 114) (tgt := 115) dX5_count_1 (by omega) (by omega) (by rw [q1]; rfl) (by decide) ?_
    refine WP_aload_n (z := 0) dX5_count_115 rfl ?_
    refine WP_getR (z := 9) dX5_count_116 fl_RX5_22 rfl rfl rfl ?_
    obtain ⟨o2, h⟩ := h
    refine WP_pcallV (g := mX0_manyTurned) (as := []) (rest := []) (n := 0) (r := vI (fX0_manyTurned D 9)) dX5_count_119 wm_811 mo_X0_manyTurned rfl rfl rfl rfl ⟨Nat.le_of_ble_eq_true rfl, Nat.le_of_ble_eq_true rfl⟩ (Nat.le_of_ble_eq_true rfl) (P_X0_manyTurned (by decide) o2) ?_
    exact WP_ireturn dX5_count_122 rfl h
  · replace h := h.2.2.2.2.2.2.2.2.1 q1
    refine WP_tabIn (off := 122) (tgt := 123) dX5_count_1 (by omega) (by omega) (by rw [q1]; rfl) (by decide) ?_
    refine WP_aload_n (z := 0) dX5_count_123 rfl ?_
    refine WP_getR (z := 41) dX5_count_124 fl_RX5_32 rfl rfl rfl ?_
    refine WP_getI dX5_count_127 fl_RX5_201 rfl rfl rfl ?_
    exact WP_ireturn dX5_count_130 rfl h
  · replace h := h.2.2.2.2.2.2.2.2.2 q1
    refine WP_tabIn (off := 130) (tgt := 131) dX5_count_1 (by omega) (by omega) (by rw [q1]; rfl) (by decide) ?_
    refine WP_aload_n (z := 0) dX5_count_131 rfl ?_
    refine WP_getI dX5_count_132 fl_RX5_42 rfl rfl rfl ?_
    exact WP_ireturn dX5_count_135 rfl h
set_option maxRecDepth 100000 in
set_option maxHeartbeats 4000000 in
theorem P_X5_count {a : Int} {D : HP} (hob : oX5_count D a) : CT mX5_count [vR 0, vI a] D (PF (vI (fX5_count D a)) D) := by
  refine V_X5_count a (fun hcD hc_0 => ?_)
  obtain ⟨z, hz⟩ : ∃ z, z = fX5_count D a := ⟨_, rfl⟩
  rw [← hz]
  unfold fX5_count at hz
  unfold oX5_count at hob
  refine ⟨fun q_ => ?_, fun q_ => ?_, fun q_ => ?_, fun q_ => ?_, fun q_ => ?_, fun q_ => ?_, fun q_ => ?_, fun q_ => ?_, fun q_ => ?_, fun q_ => ?_⟩
  · replace hz := hz.trans (if_neg (by omega))
    replace hz := hz.trans (if_neg (by omega))
    replace hz := hz.trans (if_neg (by omega))
    replace hz := hz.trans (if_neg (by omega))
    replace hz := hz.trans (if_neg (by omega))
    replace hz := hz.trans (if_neg (by omega))
    replace hz := hz.trans (if_neg (by omega))
    replace hz := hz.trans (if_neg (by omega))
    replace hz := hz.trans (if_neg (by omega))
    exact ⟨by rw [hz], rfl⟩
  · replace hz := hz.trans (if_pos q_)
    replace hob := hob.1 q_
    exact ⟨by rw [hz], rfl⟩
  · replace hz := hz.trans (if_neg (by omega))
    replace hz := hz.trans (if_pos q_)
    replace hob := hob.2.1 q_
    exact ⟨by rw [hz], rfl⟩
  · replace hz := hz.trans (if_neg (by omega))
    replace hz := hz.trans (if_neg (by omega))
    replace hz := hz.trans (if_pos q_)
    replace hob := hob.2.2.1 q_
    exact ⟨by rw [hz], rfl⟩
  · replace hz := hz.trans (if_neg (by omega))
    replace hz := hz.trans (if_neg (by omega))
    replace hz := hz.trans (if_neg (by omega))
    replace hz := hz.trans (if_pos q_)
    replace hob := hob.2.2.2.1 q_
    exact ⟨by rw [hz], rfl⟩
  · replace hz := hz.trans (if_neg (by omega))
    replace hz := hz.trans (if_neg (by omega))
    replace hz := hz.trans (if_neg (by omega))
    replace hz := hz.trans (if_neg (by omega))
    replace hz := hz.trans (if_pos q_)
    replace hob := hob.2.2.2.2.1 q_
    exact ⟨by rw [hz], rfl⟩
  · replace hz := hz.trans (if_neg (by omega))
    replace hz := hz.trans (if_neg (by omega))
    replace hz := hz.trans (if_neg (by omega))
    replace hz := hz.trans (if_neg (by omega))
    replace hz := hz.trans (if_neg (by omega))
    replace hz := hz.trans (if_pos q_)
    replace hob := hob.2.2.2.2.2.1 q_
    exact ⟨by rw [hz], rfl⟩
  · replace hz := hz.trans (if_neg (by omega))
    replace hz := hz.trans (if_neg (by omega))
    replace hz := hz.trans (if_neg (by omega))
    replace hz := hz.trans (if_neg (by omega))
    replace hz := hz.trans (if_neg (by omega))
    replace hz := hz.trans (if_neg (by omega))
    replace hz := hz.trans (if_pos q_)
    replace hob := hob.2.2.2.2.2.2.1 q_
    refine ⟨hob.1, ?_⟩
    replace hob := hob.2
    exact ⟨by rw [hz], rfl⟩
  · replace hz := hz.trans (if_neg (by omega))
    replace hz := hz.trans (if_neg (by omega))
    replace hz := hz.trans (if_neg (by omega))
    replace hz := hz.trans (if_neg (by omega))
    replace hz := hz.trans (if_neg (by omega))
    replace hz := hz.trans (if_neg (by omega))
    replace hz := hz.trans (if_neg (by omega))
    replace hz := hz.trans (if_pos q_)
    replace hob := hob.2.2.2.2.2.2.2.1 q_
    exact ⟨by rw [hz], rfl⟩
  · replace hz := hz.trans (if_neg (by omega))
    replace hz := hz.trans (if_neg (by omega))
    replace hz := hz.trans (if_neg (by omega))
    replace hz := hz.trans (if_neg (by omega))
    replace hz := hz.trans (if_neg (by omega))
    replace hz := hz.trans (if_neg (by omega))
    replace hz := hz.trans (if_neg (by omega))
    replace hz := hz.trans (if_neg (by omega))
    replace hz := hz.trans (if_pos q_)
    replace hob := hob.2.2.2.2.2.2.2.2 q_
    exact ⟨by rw [hz], rfl⟩
set_option maxRecDepth 100000 in
set_option maxHeartbeats 4000000 in
theorem V_X5_digestMinute (a : Int) (b : Int) {D : HP} {Q : Option MV → HP → Prop} (I100 : Int → Int → Int → Int → HP → Prop) (u100 : Int → Int → Int → Int → HP → Nat) (I141 : Int → Int → Int → Int → HP → Prop) (u141 : Int → Int → Int → Int → HP → Nat)
    (h0 : cD D → c64 a → c32 b → ((oX5_gust D b 0) ∧ (∀ (v1 : Int), v1 = (w64 ((w64 (31 * a)) + (fX5_gust D b 0))) → ((oX5_gust D b 1) ∧ (∀ (v3 : Int), v3 = (w64 ((w64 (31 * v1)) + (fX5_gust D b 1))) → ((oX5_in D b) ∧ (∃ Q5 : Option MV → HP → Prop, CT mX5_ask [vR 0, vI b] D Q5 ∧ ∀ (r9 : Int) (D8 : HP), Q5 (some (vI r9)) D8 → c32 r9 → cD D8 → (∀ (v12 : Int), v12 = (w64 ((w64 (31 * (w64 ((w64 (31 * v3)) + (fX5_in D b))))) + r9)) → (∃ Q14 : Option MV → HP → Prop, CT mX5_blew [vR 0, vI b, vI (-1)] D8 Q14 ∧ ∀ (r18 : Int) (D17 : HP), Q14 (some (vI r18)) D17 → c32 r18 → cD D17 → (∃ Q21 : Option MV → HP → Prop, CT mX5_blew [vR 0, vI b, vI 0] D17 Q21 ∧ ∀ (r25 : Int) (D24 : HP), Q21 (some (vI r25)) D24 → c32 r25 → cD D24 → (∀ (v28 : Int), v28 = (w64 ((w64 (31 * (w64 ((w64 (31 * v12)) + r18)))) + r25)) → (I100 a b v28 0 D24))))))))))))
    (h100 : ∀ (x1 x3 x4 x6 : Int) (D : HP), I100 x1 x3 x4 x6 D → cD D → c64 x1 → c32 x3 → c64 x4 → c32 x6 → (((D 10 1) ≤ x6 → (I141 x1 x3 x4 0 D ∧ u141 x1 x3 x4 0 D ≤ u100 x1 x3 x4 x6 D)) ∧ (¬ ((D 10 1) ≤ x6) → ((oX5_wind D x3 x6) ∧ (∀ (v34 : Int), v34 = (w64 ((w64 (31 * x4)) + (fX5_wind D x3 x6))) → ((c32 (x6 + 1)) ∧ (I100 x1 x3 v34 (x6 + 1) D ∧ u100 x1 x3 v34 (x6 + 1) D < u100 x1 x3 x4 x6 D)))))))
    (h141 : ∀ (x1 x3 x4 x6 : Int) (D : HP), I141 x1 x3 x4 x6 D → cD D → c64 x1 → c32 x3 → c64 x4 → c32 x6 → (((D 10 3) ≤ x6 → (Q (some (vL x4)) D)) ∧ (¬ ((D 10 3) ≤ x6) → ((oX5_ribs D x3 x6) ∧ (∀ (v39 : Int), v39 = (w64 ((w64 (31 * x4)) + (fX5_ribs D x3 x6))) → ((c32 (x6 + 1)) ∧ (I141 x1 x3 v39 (x6 + 1) D ∧ u141 x1 x3 v39 (x6 + 1) D < u141 x1 x3 x4 x6 D)))))))
    : CT mX5_digestMinute [vR 0, vL a, vI b] D Q := by
  refine CT.of 3 (by decide) (Nat.le_of_ble_eq_true rfl) ?_
  show WP mX5_digestMinute Q 0 [vR 0, vL a, vU, vI b, vU, vU, vU] [] D
  have IH : ∀ n : Nat, (∀ (x1 x3 x4 x6 : Int) (D : HP), I100 x1 x3 x4 x6 D → u100 x1 x3 x4 x6 D * 2 + 1 < n → WP mX5_digestMinute Q 100 [vR 0, vL x1, vU, vI x3, vL x4, vU, vI x6] [] D) ∧ (∀ (x1 x3 x4 x6 : Int) (D : HP), I141 x1 x3 x4 x6 D → u141 x1 x3 x4 x6 D * 2 + 0 < n → WP mX5_digestMinute Q 141 [vR 0, vL x1, vU, vI x3, vL x4, vU, vI x6] [] D) := by
    intro n
    induction n with
    | zero => exact ⟨fun _ _ _ _ _ _ h => absurd h (Nat.not_lt_zero _), fun _ _ _ _ _ _ h => absurd h (Nat.not_lt_zero _)⟩
    | succ n ih =>
      have ih100_ := ih.1
      have ih141_ := ih.2
      refine ⟨?_, ?_⟩
      · intro x1 x3 x4 x6 D hI hn
        refine WP_cD (fun hcD => ?_)
        refine WP_cl (fun hcl => ?_)
        have h := h100 x1 x3 x4 x6 D hI hcD (cVs_g hcl (i := 1) (v := vL x1) rfl) (cVs_g hcl (i := 3) (v := vI x3) rfl) (cVs_g hcl (i := 4) (v := vL x4) rfl) (cVs_g hcl (i := 6) (v := vI x6) rfl)
        refine WP_iload (z := x6) dX5_digestMinute_100 rfl ?_
        refine WP_aload_n (z := 0) dX5_digestMinute_102 rfl ?_
        refine WP_getR (z := 9) dX5_digestMinute_103 fl_RX5_22 rfl rfl rfl ?_
        refine WP_getR (z := 10) dX5_digestMinute_106 fl_RX5_91 rfl rfl rfl ?_
        refine WP_getI dX5_digestMinute_109 fl_RX5_157 rfl rfl rfl ?_
        refine WP_icmp_ge (tgt := 138) dX5_digestMinute_112 (by decide) (fun c33 => ?_) (fun c33 => ?_)
        · replace h := h.1 c33
          refine WP_iconst (z := 0) dX5_digestMinute_138 rfl ⟨by decide, by decide⟩ ?_
          refine WP_istore (ls1 := [vR 0, vL x1, vU, vI x3, vL x4, vU, vI 0]) dX5_digestMinute_139 (by decide) rfl ?_
          exact ih141_ _ _ _ _ _ h.1 (by have := h.2; omega)
        · replace h := h.2 c33
          refine WP_ldc2 (z := 31) wm_934 dX5_digestMinute_115 (by decide +kernel) ?_
          refine WP_lload (z := x4) dX5_digestMinute_118 rfl ?_
          refine WP_lmul dX5_digestMinute_120 rfl ?_
          refine WP_aload_n (z := 0) dX5_digestMinute_121 rfl ?_
          refine WP_iload_n (z := x3) dX5_digestMinute_122 rfl ?_
          refine WP_iload (z := x6) dX5_digestMinute_123 rfl ?_
          obtain ⟨o37, h⟩ := h
          refine WP_pcallV (g := mX5_wind) (as := [vI x3, vI x6]) (rest := [vL (w64 (31 * x4))]) (n := 2) (r := vI (fX5_wind D x3 x6)) dX5_digestMinute_125 wm_946 mo_X5_wind rfl rfl rfl rfl ⟨Nat.le_of_ble_eq_true rfl, Nat.le_of_ble_eq_true rfl⟩ (Nat.le_of_ble_eq_true rfl) (P_X5_wind  o37) ?_
          refine WP_i2l dX5_digestMinute_128 ?_
          refine WP_ladd dX5_digestMinute_129 rfl ?_
          refine WP_lstore (ls1 := [vR 0, vL x1, vU, vI x3, vL (w64 ((w64 (31 * x4)) + (fX5_wind D x3 x6))), vU, vI x6]) dX5_digestMinute_130 (by decide) rfl ?_
          obtain ⟨v34, hv35⟩ : ∃ v34 : Int, v34 = (w64 ((w64 (31 * x4)) + (fX5_wind D x3 x6))) := ⟨_, rfl⟩
          replace h := h v34 hv35
          rw [← hv35]
          obtain ⟨o36, h⟩ := h
          refine WP_iinc (z := (x6 + 1)) (ls1 := [vR 0, vL x1, vU, vI x3, vL v34, vU, vI (x6 + 1)]) dX5_digestMinute_132 rfl (w32_id o36) (by decide) rfl ?_
          refine WP_goto (tgt := 100) dX5_digestMinute_135 (by decide) ?_
          exact ih100_ _ _ _ _ _ h.1 (by have := h.2; omega)
      · intro x1 x3 x4 x6 D hI hn
        refine WP_cD (fun hcD => ?_)
        refine WP_cl (fun hcl => ?_)
        have h := h141 x1 x3 x4 x6 D hI hcD (cVs_g hcl (i := 1) (v := vL x1) rfl) (cVs_g hcl (i := 3) (v := vI x3) rfl) (cVs_g hcl (i := 4) (v := vL x4) rfl) (cVs_g hcl (i := 6) (v := vI x6) rfl)
        refine WP_iload (z := x6) dX5_digestMinute_141 rfl ?_
        refine WP_aload_n (z := 0) dX5_digestMinute_143 rfl ?_
        refine WP_getR (z := 9) dX5_digestMinute_144 fl_RX5_22 rfl rfl rfl ?_
        refine WP_getR (z := 10) dX5_digestMinute_147 fl_RX5_91 rfl rfl rfl ?_
        refine WP_getI dX5_digestMinute_150 fl_RX5_167 rfl rfl rfl ?_
        refine WP_icmp_ge (tgt := 179) dX5_digestMinute_153 (by decide) (fun c38 => ?_) (fun c38 => ?_)
        · replace h := h.1 c38
          refine WP_lload (z := x4) dX5_digestMinute_179 rfl ?_
          exact WP_lreturn dX5_digestMinute_181 rfl h
        · replace h := h.2 c38
          refine WP_ldc2 (z := 31) wm_934 dX5_digestMinute_156 (by decide +kernel) ?_
          refine WP_lload (z := x4) dX5_digestMinute_159 rfl ?_
          refine WP_lmul dX5_digestMinute_161 rfl ?_
          refine WP_aload_n (z := 0) dX5_digestMinute_162 rfl ?_
          refine WP_iload_n (z := x3) dX5_digestMinute_163 rfl ?_
          refine WP_iload (z := x6) dX5_digestMinute_164 rfl ?_
          obtain ⟨o42, h⟩ := h
          refine WP_pcallV (g := mX5_ribs) (as := [vI x3, vI x6]) (rest := [vL (w64 (31 * x4))]) (n := 2) (r := vI (fX5_ribs D x3 x6)) dX5_digestMinute_166 wm_947 mo_X5_ribs rfl rfl rfl rfl ⟨Nat.le_of_ble_eq_true rfl, Nat.le_of_ble_eq_true rfl⟩ (Nat.le_of_ble_eq_true rfl) (P_X5_ribs  o42) ?_
          refine WP_i2l dX5_digestMinute_169 ?_
          refine WP_ladd dX5_digestMinute_170 rfl ?_
          refine WP_lstore (ls1 := [vR 0, vL x1, vU, vI x3, vL (w64 ((w64 (31 * x4)) + (fX5_ribs D x3 x6))), vU, vI x6]) dX5_digestMinute_171 (by decide) rfl ?_
          obtain ⟨v39, hv40⟩ : ∃ v39 : Int, v39 = (w64 ((w64 (31 * x4)) + (fX5_ribs D x3 x6))) := ⟨_, rfl⟩
          replace h := h v39 hv40
          rw [← hv40]
          obtain ⟨o41, h⟩ := h
          refine WP_iinc (z := (x6 + 1)) (ls1 := [vR 0, vL x1, vU, vI x3, vL v39, vU, vI (x6 + 1)]) dX5_digestMinute_173 rfl (w32_id o41) (by decide) rfl ?_
          refine WP_goto (tgt := 141) dX5_digestMinute_176 (by decide) ?_
          exact ih141_ _ _ _ _ _ h.1 (by have := h.2; omega)
  have cut100_ : ∀ (x1 x3 x4 x6 : Int) (D : HP), I100 x1 x3 x4 x6 D → WP mX5_digestMinute Q 100 [vR 0, vL x1, vU, vI x3, vL x4, vU, vI x6] [] D := fun x1 x3 x4 x6 D hI => (IH (u100 x1 x3 x4 x6 D * 2 + 1 + 1)).1 x1 x3 x4 x6 D hI (by omega)
  have cut141_ : ∀ (x1 x3 x4 x6 : Int) (D : HP), I141 x1 x3 x4 x6 D → WP mX5_digestMinute Q 141 [vR 0, vL x1, vU, vI x3, vL x4, vU, vI x6] [] D := fun x1 x3 x4 x6 D hI => (IH (u141 x1 x3 x4 x6 D * 2 + 0 + 1)).2 x1 x3 x4 x6 D hI (by omega)
  refine WP_cD (fun hcD => ?_)
  refine WP_cl (fun hcl => ?_)
  have h := h0 hcD (cVs_g hcl (i := 1) (v := vL a) rfl) (cVs_g hcl (i := 3) (v := vI b) rfl)
  refine WP_lload_n (z := a) dX5_digestMinute_0 rfl ?_
  refine WP_lstore (ls1 := [vR 0, vL a, vU, vI b, vL a, vU, vU]) dX5_digestMinute_1 (by decide) rfl ?_
  refine WP_ldc2 (z := 31) wm_934 dX5_digestMinute_3 (by decide +kernel) ?_
  refine WP_lload (z := a) dX5_digestMinute_6 rfl ?_
  refine WP_lmul dX5_digestMinute_8 rfl ?_
  refine WP_aload_n (z := 0) dX5_digestMinute_9 rfl ?_
  refine WP_iload_n (z := b) dX5_digestMinute_10 rfl ?_
  refine WP_iconst (z := 0) dX5_digestMinute_11 rfl ⟨by decide, by decide⟩ ?_
  obtain ⟨o32, h⟩ := h
  refine WP_pcallV (g := mX5_gust) (as := [vI b, vI 0]) (rest := [vL (w64 (31 * a))]) (n := 2) (r := vI (fX5_gust D b 0)) dX5_digestMinute_12 wm_942 mo_X5_gust rfl rfl rfl rfl ⟨Nat.le_of_ble_eq_true rfl, Nat.le_of_ble_eq_true rfl⟩ (Nat.le_of_ble_eq_true rfl) (P_X5_gust  o32) ?_
  refine WP_i2l dX5_digestMinute_15 ?_
  refine WP_ladd dX5_digestMinute_16 rfl ?_
  refine WP_lstore (ls1 := [vR 0, vL a, vU, vI b, vL (w64 ((w64 (31 * a)) + (fX5_gust D b 0))), vU, vU]) dX5_digestMinute_17 (by decide) rfl ?_
  obtain ⟨v1, hv2⟩ : ∃ v1 : Int, v1 = (w64 ((w64 (31 * a)) + (fX5_gust D b 0))) := ⟨_, rfl⟩
  replace h := h v1 hv2
  rw [← hv2]
  refine WP_ldc2 (z := 31) wm_934 dX5_digestMinute_19 (by decide +kernel) ?_
  refine WP_lload (z := v1) dX5_digestMinute_22 rfl ?_
  refine WP_lmul dX5_digestMinute_24 rfl ?_
  refine WP_aload_n (z := 0) dX5_digestMinute_25 rfl ?_
  refine WP_iload_n (z := b) dX5_digestMinute_26 rfl ?_
  refine WP_iconst (z := 1) dX5_digestMinute_27 rfl ⟨by decide, by decide⟩ ?_
  obtain ⟨o31, h⟩ := h
  refine WP_pcallV (g := mX5_gust) (as := [vI b, vI 1]) (rest := [vL (w64 (31 * v1))]) (n := 2) (r := vI (fX5_gust D b 1)) dX5_digestMinute_28 wm_942 mo_X5_gust rfl rfl rfl rfl ⟨Nat.le_of_ble_eq_true rfl, Nat.le_of_ble_eq_true rfl⟩ (Nat.le_of_ble_eq_true rfl) (P_X5_gust  o31) ?_
  refine WP_i2l dX5_digestMinute_31 ?_
  refine WP_ladd dX5_digestMinute_32 rfl ?_
  refine WP_lstore (ls1 := [vR 0, vL a, vU, vI b, vL (w64 ((w64 (31 * v1)) + (fX5_gust D b 1))), vU, vU]) dX5_digestMinute_33 (by decide) rfl ?_
  obtain ⟨v3, hv4⟩ : ∃ v3 : Int, v3 = (w64 ((w64 (31 * v1)) + (fX5_gust D b 1))) := ⟨_, rfl⟩
  replace h := h v3 hv4
  rw [← hv4]
  refine WP_ldc2 (z := 31) wm_934 dX5_digestMinute_35 (by decide +kernel) ?_
  refine WP_lload (z := v3) dX5_digestMinute_38 rfl ?_
  refine WP_lmul dX5_digestMinute_40 rfl ?_
  refine WP_aload_n (z := 0) dX5_digestMinute_41 rfl ?_
  refine WP_iload_n (z := b) dX5_digestMinute_42 rfl ?_
  obtain ⟨o30, h⟩ := h
  refine WP_pcallV (g := mX5_in) (as := [vI b]) (rest := [vL (w64 (31 * v3))]) (n := 1) (r := vI (fX5_in D b)) dX5_digestMinute_43 wm_943 mo_X5_in rfl rfl rfl rfl ⟨Nat.le_of_ble_eq_true rfl, Nat.le_of_ble_eq_true rfl⟩ (Nat.le_of_ble_eq_true rfl) (P_X5_in  o30) ?_
  refine WP_i2l dX5_digestMinute_46 ?_
  refine WP_ladd dX5_digestMinute_47 rfl ?_
  refine WP_lstore (ls1 := [vR 0, vL a, vU, vI b, vL (w64 ((w64 (31 * v3)) + (fX5_in D b))), vU, vU]) dX5_digestMinute_48 (by decide) rfl ?_
  refine WP_ldc2 (z := 31) wm_934 dX5_digestMinute_50 (by decide +kernel) ?_
  refine WP_lload (z := (w64 ((w64 (31 * v3)) + (fX5_in D b)))) dX5_digestMinute_53 rfl ?_
  refine WP_lmul dX5_digestMinute_55 rfl ?_
  refine WP_aload_n (z := 0) dX5_digestMinute_56 rfl ?_
  refine WP_iload_n (z := b) dX5_digestMinute_57 rfl ?_
  obtain ⟨Q5, ct7, h⟩ := h
  refine WP_callV (g := mX5_ask) (as := [vI b]) (rest := [vL (w64 (31 * (w64 ((w64 (31 * v3)) + (fX5_in D b)))))]) (n := 1) dX5_digestMinute_58 wm_944 mo_X5_ask rfl rfl rfl rfl ⟨Nat.le_of_ble_eq_true rfl, Nat.le_of_ble_eq_true rfl⟩ (Nat.le_of_ble_eq_true rfl) ct7 (fun r_ D8 hq6 hok hD11 => ?_)
  obtain ⟨r9, rfl, hr10⟩ := hok
  replace h := h r9 D8 hq6 hr10 hD11
  show WP mX5_digestMinute Q 61 [vR 0, vL a, vU, vI b, vL (w64 ((w64 (31 * v3)) + (fX5_in D b))), vU, vU] [vI r9, vL (w64 (31 * (w64 ((w64 (31 * v3)) + (fX5_in D b)))))] D8
  refine WP_i2l dX5_digestMinute_61 ?_
  refine WP_ladd dX5_digestMinute_62 rfl ?_
  refine WP_lstore (ls1 := [vR 0, vL a, vU, vI b, vL (w64 ((w64 (31 * (w64 ((w64 (31 * v3)) + (fX5_in D b))))) + r9)), vU, vU]) dX5_digestMinute_63 (by decide) rfl ?_
  obtain ⟨v12, hv13⟩ : ∃ v12 : Int, v12 = (w64 ((w64 (31 * (w64 ((w64 (31 * v3)) + (fX5_in D b))))) + r9)) := ⟨_, rfl⟩
  replace h := h v12 hv13
  rw [← hv13]
  refine WP_ldc2 (z := 31) wm_934 dX5_digestMinute_65 (by decide +kernel) ?_
  refine WP_lload (z := v12) dX5_digestMinute_68 rfl ?_
  refine WP_lmul dX5_digestMinute_70 rfl ?_
  refine WP_aload_n (z := 0) dX5_digestMinute_71 rfl ?_
  refine WP_iload_n (z := b) dX5_digestMinute_72 rfl ?_
  refine WP_iconst (z := (-1)) dX5_digestMinute_73 rfl ⟨by decide, by decide⟩ ?_
  obtain ⟨Q14, ct16, h⟩ := h
  refine WP_callV (g := mX5_blew) (as := [vI b, vI (-1)]) (rest := [vL (w64 (31 * v12))]) (n := 2) dX5_digestMinute_74 wm_945 mo_X5_blew rfl rfl rfl rfl ⟨Nat.le_of_ble_eq_true rfl, Nat.le_of_ble_eq_true rfl⟩ (Nat.le_of_ble_eq_true rfl) ct16 (fun r_ D17 hq15 hok hD20 => ?_)
  obtain ⟨r18, rfl, hr19⟩ := hok
  replace h := h r18 D17 hq15 hr19 hD20
  show WP mX5_digestMinute Q 77 [vR 0, vL a, vU, vI b, vL v12, vU, vU] [vI r18, vL (w64 (31 * v12))] D17
  refine WP_i2l dX5_digestMinute_77 ?_
  refine WP_ladd dX5_digestMinute_78 rfl ?_
  refine WP_lstore (ls1 := [vR 0, vL a, vU, vI b, vL (w64 ((w64 (31 * v12)) + r18)), vU, vU]) dX5_digestMinute_79 (by decide) rfl ?_
  refine WP_ldc2 (z := 31) wm_934 dX5_digestMinute_81 (by decide +kernel) ?_
  refine WP_lload (z := (w64 ((w64 (31 * v12)) + r18))) dX5_digestMinute_84 rfl ?_
  refine WP_lmul dX5_digestMinute_86 rfl ?_
  refine WP_aload_n (z := 0) dX5_digestMinute_87 rfl ?_
  refine WP_iload_n (z := b) dX5_digestMinute_88 rfl ?_
  refine WP_iconst (z := 0) dX5_digestMinute_89 rfl ⟨by decide, by decide⟩ ?_
  obtain ⟨Q21, ct23, h⟩ := h
  refine WP_callV (g := mX5_blew) (as := [vI b, vI 0]) (rest := [vL (w64 (31 * (w64 ((w64 (31 * v12)) + r18))))]) (n := 2) dX5_digestMinute_90 wm_945 mo_X5_blew rfl rfl rfl rfl ⟨Nat.le_of_ble_eq_true rfl, Nat.le_of_ble_eq_true rfl⟩ (Nat.le_of_ble_eq_true rfl) ct23 (fun r_ D24 hq22 hok hD27 => ?_)
  obtain ⟨r25, rfl, hr26⟩ := hok
  replace h := h r25 D24 hq22 hr26 hD27
  show WP mX5_digestMinute Q 93 [vR 0, vL a, vU, vI b, vL (w64 ((w64 (31 * v12)) + r18)), vU, vU] [vI r25, vL (w64 (31 * (w64 ((w64 (31 * v12)) + r18))))] D24
  refine WP_i2l dX5_digestMinute_93 ?_
  refine WP_ladd dX5_digestMinute_94 rfl ?_
  refine WP_lstore (ls1 := [vR 0, vL a, vU, vI b, vL (w64 ((w64 (31 * (w64 ((w64 (31 * v12)) + r18)))) + r25)), vU, vU]) dX5_digestMinute_95 (by decide) rfl ?_
  obtain ⟨v28, hv29⟩ : ∃ v28 : Int, v28 = (w64 ((w64 (31 * (w64 ((w64 (31 * v12)) + r18)))) + r25)) := ⟨_, rfl⟩
  replace h := h v28 hv29
  rw [← hv29]
  refine WP_iconst (z := 0) dX5_digestMinute_97 rfl ⟨by decide, by decide⟩ ?_
  refine WP_istore (ls1 := [vR 0, vL a, vU, vI b, vL v28, vU, vI 0]) dX5_digestMinute_98 (by decide) rfl ?_
  exact cut100_ _ _ _ _ _ h
set_option maxRecDepth 100000 in
set_option maxHeartbeats 4000000 in
theorem V_X5_digestCandidate (a : Int) (b : Int) {D : HP} {Q : Option MV → HP → Prop} (I6 : Int → Int → Int → Int → HP → Prop) (u6 : Int → Int → Int → Int → HP → Nat) (I38 : Int → Int → Int → Int → HP → Prop) (u38 : Int → Int → Int → Int → HP → Nat)
    (h0 : cD D → c64 a → c32 b → (I6 a b a 0 D))
    (h6 : ∀ (x1 x3 x4 x6 : Int) (D : HP), I6 x1 x3 x4 x6 D → cD D → c64 x1 → c32 x3 → c64 x4 → c32 x6 → ((3 < x6 → (I38 x1 x3 x4 0 D ∧ u38 x1 x3 x4 0 D ≤ u6 x1 x3 x4 x6 D)) ∧ (¬ (3 < x6) → ((oX5_candidate D x3 x6) ∧ (∀ (v2 : Int), v2 = (w64 ((w64 (31 * x4)) + (fX5_candidate D x3 x6))) → ((c32 (x6 + 1)) ∧ (I6 x1 x3 v2 (x6 + 1) D ∧ u6 x1 x3 v2 (x6 + 1) D < u6 x1 x3 x4 x6 D)))))))
    (h38 : ∀ (x1 x3 x4 x6 : Int) (D : HP), I38 x1 x3 x4 x6 D → cD D → c64 x1 → c32 x3 → c64 x4 → c32 x6 → ((3 < x6 → (∃ Q7 : Option MV → HP → Prop, CT mX5_stand [vR 0, vI x3, vI 0] D Q7 ∧ ∀ (r11 : Int) (D10 : HP), Q7 (some (vI r11)) D10 → c32 r11 → cD D10 → (∃ Q14 : Option MV → HP → Prop, CT mX5_stand [vR 0, vI x3, vI 1] D10 Q14 ∧ ∀ (r18 : Int) (D17 : HP), Q14 (some (vI r18)) D17 → c32 r18 → cD D17 → (∀ (v21 : Int), v21 = (w64 ((w64 (31 * (w64 ((w64 (31 * x4)) + r11)))) + r18)) → (∃ Q23 : Option MV → HP → Prop, CT mX5_shield [vR 0, vI x3] D17 Q23 ∧ ∀ (r27 : Int) (D26 : HP), Q23 (some (vI r27)) D26 → c32 r27 → cD D26 → (∃ Q30 : Option MV → HP → Prop, CT mX5_bribe [vR 0, vI x3] D26 Q30 ∧ ∀ (r34 : Int) (D33 : HP), Q30 (some (vI r34)) D33 → c32 r34 → cD D33 → (∀ (v37 : Int), v37 = (w64 ((w64 (31 * (w64 ((w64 (31 * v21)) + r27)))) + r34)) → (∃ Q39 : Option MV → HP → Prop, CT mX5_had [vR 0, vI x3] D33 Q39 ∧ ∀ (r43 : Int) (D42 : HP), Q39 (some (vI r43)) D42 → c32 r43 → cD D42 → (∃ Q46 : Option MV → HP → Prop, CT mX5_calm [vR 0, vI 5, vI x3, vI 0] D42 Q46 ∧ ∀ (r50 : Int) (D49 : HP), Q46 (some (vL r50)) D49 → c64 r50 → cD D49 → (∀ (v53 : Int), v53 = (w64 ((w64 (31 * (w64 ((w64 (31 * v37)) + r43)))) + r50)) → (∃ Q55 : Option MV → HP → Prop, CT mX5_calm [vR 0, vI 5, vI x3, vI 1] D49 Q55 ∧ ∀ (r59 : Int) (D58 : HP), Q55 (some (vL r59)) D58 → c64 r59 → cD D58 → (Q (some (vL (w64 ((w64 (31 * v53)) + r59)))) D58)))))))))))) ∧ (¬ (3 < x6) → ((oX5_overturns D x3 x6) ∧ (∀ (v62 : Int), v62 = (w64 ((w64 (31 * x4)) + (fX5_overturns D x3 x6))) → ((c32 (x6 + 1)) ∧ (I38 x1 x3 v62 (x6 + 1) D ∧ u38 x1 x3 v62 (x6 + 1) D < u38 x1 x3 x4 x6 D)))))))
    : CT mX5_digestCandidate [vR 0, vL a, vI b] D Q := by
  refine CT.of 3 (by decide) (Nat.le_of_ble_eq_true rfl) ?_
  show WP mX5_digestCandidate Q 0 [vR 0, vL a, vU, vI b, vU, vU, vU] [] D
  have IH : ∀ n : Nat, (∀ (x1 x3 x4 x6 : Int) (D : HP), I6 x1 x3 x4 x6 D → u6 x1 x3 x4 x6 D * 2 + 1 < n → WP mX5_digestCandidate Q 6 [vR 0, vL x1, vU, vI x3, vL x4, vU, vI x6] [] D) ∧ (∀ (x1 x3 x4 x6 : Int) (D : HP), I38 x1 x3 x4 x6 D → u38 x1 x3 x4 x6 D * 2 + 0 < n → WP mX5_digestCandidate Q 38 [vR 0, vL x1, vU, vI x3, vL x4, vU, vI x6] [] D) := by
    intro n
    induction n with
    | zero => exact ⟨fun _ _ _ _ _ _ h => absurd h (Nat.not_lt_zero _), fun _ _ _ _ _ _ h => absurd h (Nat.not_lt_zero _)⟩
    | succ n ih =>
      have ih6_ := ih.1
      have ih38_ := ih.2
      refine ⟨?_, ?_⟩
      · intro x1 x3 x4 x6 D hI hn
        refine WP_cD (fun hcD => ?_)
        refine WP_cl (fun hcl => ?_)
        have h := h6 x1 x3 x4 x6 D hI hcD (cVs_g hcl (i := 1) (v := vL x1) rfl) (cVs_g hcl (i := 3) (v := vI x3) rfl) (cVs_g hcl (i := 4) (v := vL x4) rfl) (cVs_g hcl (i := 6) (v := vI x6) rfl)
        refine WP_iload (z := x6) dX5_digestCandidate_6 rfl ?_
        refine WP_iconst (z := 3) dX5_digestCandidate_8 rfl ⟨by decide, by decide⟩ ?_
        refine WP_icmp_gt (tgt := 35) dX5_digestCandidate_9 (by decide) (fun c1 => ?_) (fun c1 => ?_)
        · replace h := h.1 c1
          refine WP_iconst (z := 0) dX5_digestCandidate_35 rfl ⟨by decide, by decide⟩ ?_
          refine WP_istore (ls1 := [vR 0, vL x1, vU, vI x3, vL x4, vU, vI 0]) dX5_digestCandidate_36 (by decide) rfl ?_
          exact ih38_ _ _ _ _ _ h.1 (by have := h.2; omega)
        · replace h := h.2 c1
          refine WP_ldc2 (z := 31) wm_934 dX5_digestCandidate_12 (by decide +kernel) ?_
          refine WP_lload (z := x4) dX5_digestCandidate_15 rfl ?_
          refine WP_lmul dX5_digestCandidate_17 rfl ?_
          refine WP_aload_n (z := 0) dX5_digestCandidate_18 rfl ?_
          refine WP_iload_n (z := x3) dX5_digestCandidate_19 rfl ?_
          refine WP_iload (z := x6) dX5_digestCandidate_20 rfl ?_
          obtain ⟨o5, h⟩ := h
          refine WP_pcallV (g := mX5_candidate) (as := [vI x3, vI x6]) (rest := [vL (w64 (31 * x4))]) (n := 2) (r := vI (fX5_candidate D x3 x6)) dX5_digestCandidate_22 wm_952 mo_X5_candidate rfl rfl rfl rfl ⟨Nat.le_of_ble_eq_true rfl, Nat.le_of_ble_eq_true rfl⟩ (Nat.le_of_ble_eq_true rfl) (P_X5_candidate  o5) ?_
          refine WP_i2l dX5_digestCandidate_25 ?_
          refine WP_ladd dX5_digestCandidate_26 rfl ?_
          refine WP_lstore (ls1 := [vR 0, vL x1, vU, vI x3, vL (w64 ((w64 (31 * x4)) + (fX5_candidate D x3 x6))), vU, vI x6]) dX5_digestCandidate_27 (by decide) rfl ?_
          obtain ⟨v2, hv3⟩ : ∃ v2 : Int, v2 = (w64 ((w64 (31 * x4)) + (fX5_candidate D x3 x6))) := ⟨_, rfl⟩
          replace h := h v2 hv3
          rw [← hv3]
          obtain ⟨o4, h⟩ := h
          refine WP_iinc (z := (x6 + 1)) (ls1 := [vR 0, vL x1, vU, vI x3, vL v2, vU, vI (x6 + 1)]) dX5_digestCandidate_29 rfl (w32_id o4) (by decide) rfl ?_
          refine WP_goto (tgt := 6) dX5_digestCandidate_32 (by decide) ?_
          exact ih6_ _ _ _ _ _ h.1 (by have := h.2; omega)
      · intro x1 x3 x4 x6 D hI hn
        refine WP_cD (fun hcD => ?_)
        refine WP_cl (fun hcl => ?_)
        have h := h38 x1 x3 x4 x6 D hI hcD (cVs_g hcl (i := 1) (v := vL x1) rfl) (cVs_g hcl (i := 3) (v := vI x3) rfl) (cVs_g hcl (i := 4) (v := vL x4) rfl) (cVs_g hcl (i := 6) (v := vI x6) rfl)
        refine WP_iload (z := x6) dX5_digestCandidate_38 rfl ?_
        refine WP_iconst (z := 3) dX5_digestCandidate_40 rfl ⟨by decide, by decide⟩ ?_
        refine WP_icmp_gt (tgt := 67) dX5_digestCandidate_41 (by decide) (fun c6 => ?_) (fun c6 => ?_)
        · replace h := h.1 c6
          refine WP_ldc2 (z := 31) wm_934 dX5_digestCandidate_67 (by decide +kernel) ?_
          refine WP_lload (z := x4) dX5_digestCandidate_70 rfl ?_
          refine WP_lmul dX5_digestCandidate_72 rfl ?_
          refine WP_aload_n (z := 0) dX5_digestCandidate_73 rfl ?_
          refine WP_iload_n (z := x3) dX5_digestCandidate_74 rfl ?_
          refine WP_iconst (z := 0) dX5_digestCandidate_75 rfl ⟨by decide, by decide⟩ ?_
          obtain ⟨Q7, ct9, h⟩ := h
          refine WP_callV (g := mX5_stand) (as := [vI x3, vI 0]) (rest := [vL (w64 (31 * x4))]) (n := 2) dX5_digestCandidate_76 wm_954 mo_X5_stand rfl rfl rfl rfl ⟨Nat.le_of_ble_eq_true rfl, Nat.le_of_ble_eq_true rfl⟩ (Nat.le_of_ble_eq_true rfl) ct9 (fun r_ D10 hq8 hok hD13 => ?_)
          obtain ⟨r11, rfl, hr12⟩ := hok
          replace h := h r11 D10 hq8 hr12 hD13
          show WP mX5_digestCandidate Q 79 [vR 0, vL x1, vU, vI x3, vL x4, vU, vI x6] [vI r11, vL (w64 (31 * x4))] D10
          refine WP_i2l dX5_digestCandidate_79 ?_
          refine WP_ladd dX5_digestCandidate_80 rfl ?_
          refine WP_lstore (ls1 := [vR 0, vL x1, vU, vI x3, vL (w64 ((w64 (31 * x4)) + r11)), vU, vI x6]) dX5_digestCandidate_81 (by decide) rfl ?_
          refine WP_ldc2 (z := 31) wm_934 dX5_digestCandidate_83 (by decide +kernel) ?_
          refine WP_lload (z := (w64 ((w64 (31 * x4)) + r11))) dX5_digestCandidate_86 rfl ?_
          refine WP_lmul dX5_digestCandidate_88 rfl ?_
          refine WP_aload_n (z := 0) dX5_digestCandidate_89 rfl ?_
          refine WP_iload_n (z := x3) dX5_digestCandidate_90 rfl ?_
          refine WP_iconst (z := 1) dX5_digestCandidate_91 rfl ⟨by decide, by decide⟩ ?_
          obtain ⟨Q14, ct16, h⟩ := h
          refine WP_callV (g := mX5_stand) (as := [vI x3, vI 1]) (rest := [vL (w64 (31 * (w64 ((w64 (31 * x4)) + r11))))]) (n := 2) dX5_digestCandidate_92 wm_954 mo_X5_stand rfl rfl rfl rfl ⟨Nat.le_of_ble_eq_true rfl, Nat.le_of_ble_eq_true rfl⟩ (Nat.le_of_ble_eq_true rfl) ct16 (fun r_ D17 hq15 hok hD20 => ?_)
          obtain ⟨r18, rfl, hr19⟩ := hok
          replace h := h r18 D17 hq15 hr19 hD20
          show WP mX5_digestCandidate Q 95 [vR 0, vL x1, vU, vI x3, vL (w64 ((w64 (31 * x4)) + r11)), vU, vI x6] [vI r18, vL (w64 (31 * (w64 ((w64 (31 * x4)) + r11))))] D17
          refine WP_i2l dX5_digestCandidate_95 ?_
          refine WP_ladd dX5_digestCandidate_96 rfl ?_
          refine WP_lstore (ls1 := [vR 0, vL x1, vU, vI x3, vL (w64 ((w64 (31 * (w64 ((w64 (31 * x4)) + r11)))) + r18)), vU, vI x6]) dX5_digestCandidate_97 (by decide) rfl ?_
          obtain ⟨v21, hv22⟩ : ∃ v21 : Int, v21 = (w64 ((w64 (31 * (w64 ((w64 (31 * x4)) + r11)))) + r18)) := ⟨_, rfl⟩
          replace h := h v21 hv22
          rw [← hv22]
          refine WP_ldc2 (z := 31) wm_934 dX5_digestCandidate_99 (by decide +kernel) ?_
          refine WP_lload (z := v21) dX5_digestCandidate_102 rfl ?_
          refine WP_lmul dX5_digestCandidate_104 rfl ?_
          refine WP_aload_n (z := 0) dX5_digestCandidate_105 rfl ?_
          refine WP_iload_n (z := x3) dX5_digestCandidate_106 rfl ?_
          obtain ⟨Q23, ct25, h⟩ := h
          refine WP_callV (g := mX5_shield) (as := [vI x3]) (rest := [vL (w64 (31 * v21))]) (n := 1) dX5_digestCandidate_107 wm_955 mo_X5_shield rfl rfl rfl rfl ⟨Nat.le_of_ble_eq_true rfl, Nat.le_of_ble_eq_true rfl⟩ (Nat.le_of_ble_eq_true rfl) ct25 (fun r_ D26 hq24 hok hD29 => ?_)
          obtain ⟨r27, rfl, hr28⟩ := hok
          replace h := h r27 D26 hq24 hr28 hD29
          show WP mX5_digestCandidate Q 110 [vR 0, vL x1, vU, vI x3, vL v21, vU, vI x6] [vI r27, vL (w64 (31 * v21))] D26
          refine WP_i2l dX5_digestCandidate_110 ?_
          refine WP_ladd dX5_digestCandidate_111 rfl ?_
          refine WP_lstore (ls1 := [vR 0, vL x1, vU, vI x3, vL (w64 ((w64 (31 * v21)) + r27)), vU, vI x6]) dX5_digestCandidate_112 (by decide) rfl ?_
          refine WP_ldc2 (z := 31) wm_934 dX5_digestCandidate_114 (by decide +kernel) ?_
          refine WP_lload (z := (w64 ((w64 (31 * v21)) + r27))) dX5_digestCandidate_117 rfl ?_
          refine WP_lmul dX5_digestCandidate_119 rfl ?_
          refine WP_aload_n (z := 0) dX5_digestCandidate_120 rfl ?_
          refine WP_iload_n (z := x3) dX5_digestCandidate_121 rfl ?_
          obtain ⟨Q30, ct32, h⟩ := h
          refine WP_callV (g := mX5_bribe) (as := [vI x3]) (rest := [vL (w64 (31 * (w64 ((w64 (31 * v21)) + r27))))]) (n := 1) dX5_digestCandidate_122 wm_956 mo_X5_bribe rfl rfl rfl rfl ⟨Nat.le_of_ble_eq_true rfl, Nat.le_of_ble_eq_true rfl⟩ (Nat.le_of_ble_eq_true rfl) ct32 (fun r_ D33 hq31 hok hD36 => ?_)
          obtain ⟨r34, rfl, hr35⟩ := hok
          replace h := h r34 D33 hq31 hr35 hD36
          show WP mX5_digestCandidate Q 125 [vR 0, vL x1, vU, vI x3, vL (w64 ((w64 (31 * v21)) + r27)), vU, vI x6] [vI r34, vL (w64 (31 * (w64 ((w64 (31 * v21)) + r27))))] D33
          refine WP_i2l dX5_digestCandidate_125 ?_
          refine WP_ladd dX5_digestCandidate_126 rfl ?_
          refine WP_lstore (ls1 := [vR 0, vL x1, vU, vI x3, vL (w64 ((w64 (31 * (w64 ((w64 (31 * v21)) + r27)))) + r34)), vU, vI x6]) dX5_digestCandidate_127 (by decide) rfl ?_
          obtain ⟨v37, hv38⟩ : ∃ v37 : Int, v37 = (w64 ((w64 (31 * (w64 ((w64 (31 * v21)) + r27)))) + r34)) := ⟨_, rfl⟩
          replace h := h v37 hv38
          rw [← hv38]
          refine WP_ldc2 (z := 31) wm_934 dX5_digestCandidate_129 (by decide +kernel) ?_
          refine WP_lload (z := v37) dX5_digestCandidate_132 rfl ?_
          refine WP_lmul dX5_digestCandidate_134 rfl ?_
          refine WP_aload_n (z := 0) dX5_digestCandidate_135 rfl ?_
          refine WP_iload_n (z := x3) dX5_digestCandidate_136 rfl ?_
          obtain ⟨Q39, ct41, h⟩ := h
          refine WP_callV (g := mX5_had) (as := [vI x3]) (rest := [vL (w64 (31 * v37))]) (n := 1) dX5_digestCandidate_137 wm_957 mo_X5_had rfl rfl rfl rfl ⟨Nat.le_of_ble_eq_true rfl, Nat.le_of_ble_eq_true rfl⟩ (Nat.le_of_ble_eq_true rfl) ct41 (fun r_ D42 hq40 hok hD45 => ?_)
          obtain ⟨r43, rfl, hr44⟩ := hok
          replace h := h r43 D42 hq40 hr44 hD45
          show WP mX5_digestCandidate Q 140 [vR 0, vL x1, vU, vI x3, vL v37, vU, vI x6] [vI r43, vL (w64 (31 * v37))] D42
          refine WP_i2l dX5_digestCandidate_140 ?_
          refine WP_ladd dX5_digestCandidate_141 rfl ?_
          refine WP_lstore (ls1 := [vR 0, vL x1, vU, vI x3, vL (w64 ((w64 (31 * v37)) + r43)), vU, vI x6]) dX5_digestCandidate_142 (by decide) rfl ?_
          refine WP_ldc2 (z := 31) wm_934 dX5_digestCandidate_144 (by decide +kernel) ?_
          refine WP_lload (z := (w64 ((w64 (31 * v37)) + r43))) dX5_digestCandidate_147 rfl ?_
          refine WP_lmul dX5_digestCandidate_149 rfl ?_
          refine WP_aload_n (z := 0) dX5_digestCandidate_150 rfl ?_
          refine WP_iconst (z := 5) dX5_digestCandidate_151 rfl ⟨by decide, by decide⟩ ?_
          refine WP_iload_n (z := x3) dX5_digestCandidate_152 rfl ?_
          refine WP_iconst (z := 0) dX5_digestCandidate_153 rfl ⟨by decide, by decide⟩ ?_
          obtain ⟨Q46, ct48, h⟩ := h
          refine WP_callV (g := mX5_calm) (as := [vI 5, vI x3, vI 0]) (rest := [vL (w64 (31 * (w64 ((w64 (31 * v37)) + r43))))]) (n := 3) dX5_digestCandidate_154 wm_958 mo_X5_calm rfl rfl rfl rfl ⟨Nat.le_of_ble_eq_true rfl, Nat.le_of_ble_eq_true rfl⟩ (Nat.le_of_ble_eq_true rfl) ct48 (fun r_ D49 hq47 hok hD52 => ?_)
          obtain ⟨r50, rfl, hr51⟩ := hok
          replace h := h r50 D49 hq47 hr51 hD52
          show WP mX5_digestCandidate Q 157 [vR 0, vL x1, vU, vI x3, vL (w64 ((w64 (31 * v37)) + r43)), vU, vI x6] [vL r50, vL (w64 (31 * (w64 ((w64 (31 * v37)) + r43))))] D49
          refine WP_ladd dX5_digestCandidate_157 rfl ?_
          refine WP_lstore (ls1 := [vR 0, vL x1, vU, vI x3, vL (w64 ((w64 (31 * (w64 ((w64 (31 * v37)) + r43)))) + r50)), vU, vI x6]) dX5_digestCandidate_158 (by decide) rfl ?_
          obtain ⟨v53, hv54⟩ : ∃ v53 : Int, v53 = (w64 ((w64 (31 * (w64 ((w64 (31 * v37)) + r43)))) + r50)) := ⟨_, rfl⟩
          replace h := h v53 hv54
          rw [← hv54]
          refine WP_ldc2 (z := 31) wm_934 dX5_digestCandidate_160 (by decide +kernel) ?_
          refine WP_lload (z := v53) dX5_digestCandidate_163 rfl ?_
          refine WP_lmul dX5_digestCandidate_165 rfl ?_
          refine WP_aload_n (z := 0) dX5_digestCandidate_166 rfl ?_
          refine WP_iconst (z := 5) dX5_digestCandidate_167 rfl ⟨by decide, by decide⟩ ?_
          refine WP_iload_n (z := x3) dX5_digestCandidate_168 rfl ?_
          refine WP_iconst (z := 1) dX5_digestCandidate_169 rfl ⟨by decide, by decide⟩ ?_
          obtain ⟨Q55, ct57, h⟩ := h
          refine WP_callV (g := mX5_calm) (as := [vI 5, vI x3, vI 1]) (rest := [vL (w64 (31 * v53))]) (n := 3) dX5_digestCandidate_170 wm_958 mo_X5_calm rfl rfl rfl rfl ⟨Nat.le_of_ble_eq_true rfl, Nat.le_of_ble_eq_true rfl⟩ (Nat.le_of_ble_eq_true rfl) ct57 (fun r_ D58 hq56 hok hD61 => ?_)
          obtain ⟨r59, rfl, hr60⟩ := hok
          replace h := h r59 D58 hq56 hr60 hD61
          show WP mX5_digestCandidate Q 173 [vR 0, vL x1, vU, vI x3, vL v53, vU, vI x6] [vL r59, vL (w64 (31 * v53))] D58
          refine WP_ladd dX5_digestCandidate_173 rfl ?_
          refine WP_lstore (ls1 := [vR 0, vL x1, vU, vI x3, vL (w64 ((w64 (31 * v53)) + r59)), vU, vI x6]) dX5_digestCandidate_174 (by decide) rfl ?_
          refine WP_lload (z := (w64 ((w64 (31 * v53)) + r59))) dX5_digestCandidate_176 rfl ?_
          exact WP_lreturn dX5_digestCandidate_178 rfl h
        · replace h := h.2 c6
          refine WP_ldc2 (z := 31) wm_934 dX5_digestCandidate_44 (by decide +kernel) ?_
          refine WP_lload (z := x4) dX5_digestCandidate_47 rfl ?_
          refine WP_lmul dX5_digestCandidate_49 rfl ?_
          refine WP_aload_n (z := 0) dX5_digestCandidate_50 rfl ?_
          refine WP_iload_n (z := x3) dX5_digestCandidate_51 rfl ?_
          refine WP_iload (z := x6) dX5_digestCandidate_52 rfl ?_
          obtain ⟨o65, h⟩ := h
          refine WP_pcallV (g := mX5_overturns) (as := [vI x3, vI x6]) (rest := [vL (w64 (31 * x4))]) (n := 2) (r := vI (fX5_overturns D x3 x6)) dX5_digestCandidate_54 wm_953 mo_X5_overturns rfl rfl rfl rfl ⟨Nat.le_of_ble_eq_true rfl, Nat.le_of_ble_eq_true rfl⟩ (Nat.le_of_ble_eq_true rfl) (P_X5_overturns  o65) ?_
          refine WP_i2l dX5_digestCandidate_57 ?_
          refine WP_ladd dX5_digestCandidate_58 rfl ?_
          refine WP_lstore (ls1 := [vR 0, vL x1, vU, vI x3, vL (w64 ((w64 (31 * x4)) + (fX5_overturns D x3 x6))), vU, vI x6]) dX5_digestCandidate_59 (by decide) rfl ?_
          obtain ⟨v62, hv63⟩ : ∃ v62 : Int, v62 = (w64 ((w64 (31 * x4)) + (fX5_overturns D x3 x6))) := ⟨_, rfl⟩
          replace h := h v62 hv63
          rw [← hv63]
          obtain ⟨o64, h⟩ := h
          refine WP_iinc (z := (x6 + 1)) (ls1 := [vR 0, vL x1, vU, vI x3, vL v62, vU, vI (x6 + 1)]) dX5_digestCandidate_61 rfl (w32_id o64) (by decide) rfl ?_
          refine WP_goto (tgt := 38) dX5_digestCandidate_64 (by decide) ?_
          exact ih38_ _ _ _ _ _ h.1 (by have := h.2; omega)
  have cut6_ : ∀ (x1 x3 x4 x6 : Int) (D : HP), I6 x1 x3 x4 x6 D → WP mX5_digestCandidate Q 6 [vR 0, vL x1, vU, vI x3, vL x4, vU, vI x6] [] D := fun x1 x3 x4 x6 D hI => (IH (u6 x1 x3 x4 x6 D * 2 + 1 + 1)).1 x1 x3 x4 x6 D hI (by omega)
  have cut38_ : ∀ (x1 x3 x4 x6 : Int) (D : HP), I38 x1 x3 x4 x6 D → WP mX5_digestCandidate Q 38 [vR 0, vL x1, vU, vI x3, vL x4, vU, vI x6] [] D := fun x1 x3 x4 x6 D hI => (IH (u38 x1 x3 x4 x6 D * 2 + 0 + 1)).2 x1 x3 x4 x6 D hI (by omega)
  refine WP_cD (fun hcD => ?_)
  refine WP_cl (fun hcl => ?_)
  have h := h0 hcD (cVs_g hcl (i := 1) (v := vL a) rfl) (cVs_g hcl (i := 3) (v := vI b) rfl)
  refine WP_lload_n (z := a) dX5_digestCandidate_0 rfl ?_
  refine WP_lstore (ls1 := [vR 0, vL a, vU, vI b, vL a, vU, vU]) dX5_digestCandidate_1 (by decide) rfl ?_
  refine WP_iconst (z := 0) dX5_digestCandidate_3 rfl ⟨by decide, by decide⟩ ?_
  refine WP_istore (ls1 := [vR 0, vL a, vU, vI b, vL a, vU, vI 0]) dX5_digestCandidate_4 (by decide) rfl ?_
  exact cut6_ _ _ _ _ _ h
set_option maxRecDepth 100000 in
set_option maxHeartbeats 4000000 in
theorem V_X5_digest  {D : HP} {Q : Option MV → HP → Prop} (I6 : Int → Int → HP → Prop) (u6 : Int → Int → HP → Nat) (I33 : Int → Int → HP → Prop) (u33 : Int → Int → HP → Nat) (I59 : Int → Int → HP → Prop) (u59 : Int → Int → HP → Nat) (I94 : Int → Int → HP → Prop) (u94 : Int → Int → HP → Nat) (I123 : Int → Int → HP → Prop) (u123 : Int → Int → HP → Nat)
    (h0 : cD D → (I6 17 0 D))
    (h6 : ∀ (x1 x3 : Int) (D : HP), I6 x1 x3 D → cD D → c64 x1 → c32 x3 → ((7 < x3 → (I33 x1 0 D ∧ u33 x1 0 D ≤ u6 x1 x3 D)) ∧ (¬ (7 < x3) → ((oX5_count D x3) ∧ (∀ (v2 : Int), v2 = (w64 ((w64 (31 * x1)) + (fX5_count D x3))) → ((c32 (x3 + 1)) ∧ (I6 v2 (x3 + 1) D ∧ u6 v2 (x3 + 1) D < u6 x1 x3 D)))))))
    (h33 : ∀ (x1 x3 : Int) (D : HP), I33 x1 x3 D → cD D → c64 x1 → c32 x3 → ((3 ≤ x3 → (I59 x1 0 D ∧ u59 x1 0 D ≤ u33 x1 x3 D)) ∧ (¬ (3 ≤ x3) → ((oX5_fault D x3) ∧ (∀ (v7 : Int), v7 = (w64 ((w64 (31 * x1)) + (fX5_fault D x3))) → ((c32 (x3 + 1)) ∧ (I33 v7 (x3 + 1) D ∧ u33 v7 (x3 + 1) D < u33 x1 x3 D)))))))
    (h59 : ∀ (x1 x3 : Int) (D : HP), I59 x1 x3 D → cD D → c64 x1 → c32 x3 → (((D 10 1) ≤ x3 → (I94 x1 0 D ∧ u94 x1 0 D ≤ u59 x1 x3 D)) ∧ (¬ ((D 10 1) ≤ x3) → ((oX5_cell D x3) ∧ (∀ (v12 : Int), v12 = (w64 ((w64 (31 * x1)) + (fX5_cell D x3))) → ((c32 (x3 + 1)) ∧ (I59 v12 (x3 + 1) D ∧ u59 v12 (x3 + 1) D < u59 x1 x3 D)))))))
    (h94 : ∀ (x1 x3 : Int) (D : HP), I94 x1 x3 D → cD D → c64 x1 → c32 x3 → (((D 10 2) ≤ x3 → (I123 x1 0 D ∧ u123 x1 0 D ≤ u94 x1 x3 D)) ∧ (¬ ((D 10 2) ≤ x3) → (∃ Q17 : Option MV → HP → Prop, CT mX5_digestMinute [vR 0, vL x1, vI x3] D Q17 ∧ ∀ (r21 : Int) (D20 : HP), Q17 (some (vL r21)) D20 → c64 r21 → cD D20 → ((c32 (x3 + 1)) ∧ (I94 r21 (x3 + 1) D20 ∧ u94 r21 (x3 + 1) D20 < u94 x1 x3 D))))))
    (h123 : ∀ (x1 x3 : Int) (D : HP), I123 x1 x3 D → cD D → c64 x1 → c32 x3 → (((D 10 3) ≤ x3 → (∀ (v26 : Int), v26 = (w64 ((w64 (31 * x1)) + (fX5_first D 0))) → (∀ (v28 : Int), v28 = (w64 ((w64 (31 * v26)) + (fX5_first D 1))) → (∃ Q30 : Option MV → HP → Prop, CT mX5_move [vR 0, vI 0] D Q30 ∧ ∀ (r34 : Int) (D33 : HP), Q30 (some (vI r34)) D33 → c32 r34 → cD D33 → (∀ (v37 : Int), v37 = (w64 ((w64 (31 * (w64 ((w64 (31 * v28)) + (fX5_lulls D))))) + r34)) → (∃ Q39 : Option MV → HP → Prop, CT mX5_move [vR 0, vI 1] D33 Q39 ∧ ∀ (r43 : Int) (D42 : HP), Q39 (some (vI r43)) D42 → c32 r43 → cD D42 → (∃ Q46 : Option MV → HP → Prop, CT mX5_weather [vR 0, vI 7, vI 9, vI 0] D42 Q46 ∧ ∀ (r50 : Int) (D49 : HP), Q46 (some (vI r50)) D49 → c32 r50 → cD D49 → (∀ (v53 : Int), v53 = (w64 ((w64 (31 * (w64 ((w64 (31 * v37)) + r43)))) + r50)) → (∃ Q55 : Option MV → HP → Prop, CT mX5_weather [vR 0, vI 7, vI 9, vI 1] D49 Q55 ∧ ∀ (r59 : Int) (D58 : HP), Q55 (some (vI r59)) D58 → c32 r59 → cD D58 → (Q (some (vL (w64 ((w64 (31 * v53)) + r59)))) D58)))))))))) ∧ (¬ ((D 10 3) ≤ x3) → (∃ Q62 : Option MV → HP → Prop, CT mX5_digestCandidate [vR 0, vL x1, vI x3] D Q62 ∧ ∀ (r66 : Int) (D65 : HP), Q62 (some (vL r66)) D65 → c64 r66 → cD D65 → ((c32 (x3 + 1)) ∧ (I123 r66 (x3 + 1) D65 ∧ u123 r66 (x3 + 1) D65 < u123 x1 x3 D))))))
    : CT mX5_digest [vR 0] D Q := by
  refine CT.of 3 (by decide) (Nat.le_of_ble_eq_true rfl) ?_
  show WP mX5_digest Q 0 [vR 0, vU, vU, vU] [] D
  have IH : ∀ n : Nat, (∀ (x1 x3 : Int) (D : HP), I6 x1 x3 D → u6 x1 x3 D * 5 + 4 < n → WP mX5_digest Q 6 [vR 0, vL x1, vU, vI x3] [] D) ∧ (∀ (x1 x3 : Int) (D : HP), I33 x1 x3 D → u33 x1 x3 D * 5 + 3 < n → WP mX5_digest Q 33 [vR 0, vL x1, vU, vI x3] [] D) ∧ (∀ (x1 x3 : Int) (D : HP), I59 x1 x3 D → u59 x1 x3 D * 5 + 2 < n → WP mX5_digest Q 59 [vR 0, vL x1, vU, vI x3] [] D) ∧ (∀ (x1 x3 : Int) (D : HP), I94 x1 x3 D → u94 x1 x3 D * 5 + 1 < n → WP mX5_digest Q 94 [vR 0, vL x1, vU, vI x3] [] D) ∧ (∀ (x1 x3 : Int) (D : HP), I123 x1 x3 D → u123 x1 x3 D * 5 + 0 < n → WP mX5_digest Q 123 [vR 0, vL x1, vU, vI x3] [] D) := by
    intro n
    induction n with
    | zero => exact ⟨fun _ _ _ _ h => absurd h (Nat.not_lt_zero _), fun _ _ _ _ h => absurd h (Nat.not_lt_zero _), fun _ _ _ _ h => absurd h (Nat.not_lt_zero _), fun _ _ _ _ h => absurd h (Nat.not_lt_zero _), fun _ _ _ _ h => absurd h (Nat.not_lt_zero _)⟩
    | succ n ih =>
      have ih6_ := ih.1
      have ih33_ := ih.2.1
      have ih59_ := ih.2.2.1
      have ih94_ := ih.2.2.2.1
      have ih123_ := ih.2.2.2.2
      refine ⟨?_, ?_, ?_, ?_, ?_⟩
      · intro x1 x3 D hI hn
        refine WP_cD (fun hcD => ?_)
        refine WP_cl (fun hcl => ?_)
        have h := h6 x1 x3 D hI hcD (cVs_g hcl (i := 1) (v := vL x1) rfl) (cVs_g hcl (i := 3) (v := vI x3) rfl)
        refine WP_iload_n (z := x3) dX5_digest_6 rfl ?_
        refine WP_bipush (z := 7) dX5_digest_7 rfl (by decide) ?_
        refine WP_icmp_gt (tgt := 31) dX5_digest_9 (by decide) (fun c1 => ?_) (fun c1 => ?_)
        · replace h := h.1 c1
          refine WP_iconst (z := 0) dX5_digest_31 rfl ⟨by decide, by decide⟩ ?_
          refine WP_istore_n (ls1 := [vR 0, vL x1, vU, vI 0]) dX5_digest_32 (by decide) rfl ?_
          exact ih33_ _ _ _ h.1 (by have := h.2; omega)
        · replace h := h.2 c1
          refine WP_ldc2 (z := 31) wm_934 dX5_digest_12 (by decide +kernel) ?_
          refine WP_lload_n (z := x1) dX5_digest_15 rfl ?_
          refine WP_lmul dX5_digest_16 rfl ?_
          refine WP_aload_n (z := 0) dX5_digest_17 rfl ?_
          refine WP_iload_n (z := x3) dX5_digest_18 rfl ?_
          obtain ⟨o5, h⟩ := h
          refine WP_pcallV (g := mX5_count) (as := [vI x3]) (rest := [vL (w64 (31 * x1))]) (n := 1) (r := vI (fX5_count D x3)) dX5_digest_19 wm_935 mo_X5_count rfl rfl rfl rfl ⟨Nat.le_of_ble_eq_true rfl, Nat.le_of_ble_eq_true rfl⟩ (Nat.le_of_ble_eq_true rfl) (P_X5_count  o5) ?_
          refine WP_i2l dX5_digest_22 ?_
          refine WP_ladd dX5_digest_23 rfl ?_
          refine WP_lstore_n (ls1 := [vR 0, vL (w64 ((w64 (31 * x1)) + (fX5_count D x3))), vU, vI x3]) dX5_digest_24 (by decide) rfl ?_
          obtain ⟨v2, hv3⟩ : ∃ v2 : Int, v2 = (w64 ((w64 (31 * x1)) + (fX5_count D x3))) := ⟨_, rfl⟩
          replace h := h v2 hv3
          rw [← hv3]
          obtain ⟨o4, h⟩ := h
          refine WP_iinc (z := (x3 + 1)) (ls1 := [vR 0, vL v2, vU, vI (x3 + 1)]) dX5_digest_25 rfl (w32_id o4) (by decide) rfl ?_
          refine WP_goto (tgt := 6) dX5_digest_28 (by decide) ?_
          exact ih6_ _ _ _ h.1 (by have := h.2; omega)
      · intro x1 x3 D hI hn
        refine WP_cD (fun hcD => ?_)
        refine WP_cl (fun hcl => ?_)
        have h := h33 x1 x3 D hI hcD (cVs_g hcl (i := 1) (v := vL x1) rfl) (cVs_g hcl (i := 3) (v := vI x3) rfl)
        refine WP_iload_n (z := x3) dX5_digest_33 rfl ?_
        refine WP_iconst (z := 3) dX5_digest_34 rfl ⟨by decide, by decide⟩ ?_
        refine WP_icmp_ge (tgt := 57) dX5_digest_35 (by decide) (fun c6 => ?_) (fun c6 => ?_)
        · replace h := h.1 c6
          refine WP_iconst (z := 0) dX5_digest_57 rfl ⟨by decide, by decide⟩ ?_
          refine WP_istore_n (ls1 := [vR 0, vL x1, vU, vI 0]) dX5_digest_58 (by decide) rfl ?_
          exact ih59_ _ _ _ h.1 (by have := h.2; omega)
        · replace h := h.2 c6
          refine WP_ldc2 (z := 31) wm_934 dX5_digest_38 (by decide +kernel) ?_
          refine WP_lload_n (z := x1) dX5_digest_41 rfl ?_
          refine WP_lmul dX5_digest_42 rfl ?_
          refine WP_aload_n (z := 0) dX5_digest_43 rfl ?_
          refine WP_iload_n (z := x3) dX5_digest_44 rfl ?_
          obtain ⟨o10, h⟩ := h
          refine WP_pcallV (g := mX5_fault) (as := [vI x3]) (rest := [vL (w64 (31 * x1))]) (n := 1) (r := vI (fX5_fault D x3)) dX5_digest_45 wm_936 mo_X5_fault rfl rfl rfl rfl ⟨Nat.le_of_ble_eq_true rfl, Nat.le_of_ble_eq_true rfl⟩ (Nat.le_of_ble_eq_true rfl) (P_X5_fault  o10) ?_
          refine WP_i2l dX5_digest_48 ?_
          refine WP_ladd dX5_digest_49 rfl ?_
          refine WP_lstore_n (ls1 := [vR 0, vL (w64 ((w64 (31 * x1)) + (fX5_fault D x3))), vU, vI x3]) dX5_digest_50 (by decide) rfl ?_
          obtain ⟨v7, hv8⟩ : ∃ v7 : Int, v7 = (w64 ((w64 (31 * x1)) + (fX5_fault D x3))) := ⟨_, rfl⟩
          replace h := h v7 hv8
          rw [← hv8]
          obtain ⟨o9, h⟩ := h
          refine WP_iinc (z := (x3 + 1)) (ls1 := [vR 0, vL v7, vU, vI (x3 + 1)]) dX5_digest_51 rfl (w32_id o9) (by decide) rfl ?_
          refine WP_goto (tgt := 33) dX5_digest_54 (by decide) ?_
          exact ih33_ _ _ _ h.1 (by have := h.2; omega)
      · intro x1 x3 D hI hn
        refine WP_cD (fun hcD => ?_)
        refine WP_cl (fun hcl => ?_)
        have h := h59 x1 x3 D hI hcD (cVs_g hcl (i := 1) (v := vL x1) rfl) (cVs_g hcl (i := 3) (v := vI x3) rfl)
        refine WP_iload_n (z := x3) dX5_digest_59 rfl ?_
        refine WP_aload_n (z := 0) dX5_digest_60 rfl ?_
        refine WP_getR (z := 9) dX5_digest_61 fl_RX5_22 rfl rfl rfl ?_
        refine WP_getR (z := 10) dX5_digest_64 fl_RX5_91 rfl rfl rfl ?_
        refine WP_getI dX5_digest_67 fl_RX5_157 rfl rfl rfl ?_
        refine WP_icmp_ge (tgt := 92) dX5_digest_70 (by decide) (fun c11 => ?_) (fun c11 => ?_)
        · replace h := h.1 c11
          refine WP_iconst (z := 0) dX5_digest_92 rfl ⟨by decide, by decide⟩ ?_
          refine WP_istore_n (ls1 := [vR 0, vL x1, vU, vI 0]) dX5_digest_93 (by decide) rfl ?_
          exact ih94_ _ _ _ h.1 (by have := h.2; omega)
        · replace h := h.2 c11
          refine WP_ldc2 (z := 31) wm_934 dX5_digest_73 (by decide +kernel) ?_
          refine WP_lload_n (z := x1) dX5_digest_76 rfl ?_
          refine WP_lmul dX5_digest_77 rfl ?_
          refine WP_aload_n (z := 0) dX5_digest_78 rfl ?_
          refine WP_iload_n (z := x3) dX5_digest_79 rfl ?_
          obtain ⟨o15, h⟩ := h
          refine WP_pcallV (g := mX5_cell) (as := [vI x3]) (rest := [vL (w64 (31 * x1))]) (n := 1) (r := vI (fX5_cell D x3)) dX5_digest_80 wm_937 mo_X5_cell rfl rfl rfl rfl ⟨Nat.le_of_ble_eq_true rfl, Nat.le_of_ble_eq_true rfl⟩ (Nat.le_of_ble_eq_true rfl) (P_X5_cell  o15) ?_
          refine WP_i2l dX5_digest_83 ?_
          refine WP_ladd dX5_digest_84 rfl ?_
          refine WP_lstore_n (ls1 := [vR 0, vL (w64 ((w64 (31 * x1)) + (fX5_cell D x3))), vU, vI x3]) dX5_digest_85 (by decide) rfl ?_
          obtain ⟨v12, hv13⟩ : ∃ v12 : Int, v12 = (w64 ((w64 (31 * x1)) + (fX5_cell D x3))) := ⟨_, rfl⟩
          replace h := h v12 hv13
          rw [← hv13]
          obtain ⟨o14, h⟩ := h
          refine WP_iinc (z := (x3 + 1)) (ls1 := [vR 0, vL v12, vU, vI (x3 + 1)]) dX5_digest_86 rfl (w32_id o14) (by decide) rfl ?_
          refine WP_goto (tgt := 59) dX5_digest_89 (by decide) ?_
          exact ih59_ _ _ _ h.1 (by have := h.2; omega)
      · intro x1 x3 D hI hn
        refine WP_cD (fun hcD => ?_)
        refine WP_cl (fun hcl => ?_)
        have h := h94 x1 x3 D hI hcD (cVs_g hcl (i := 1) (v := vL x1) rfl) (cVs_g hcl (i := 3) (v := vI x3) rfl)
        refine WP_iload_n (z := x3) dX5_digest_94 rfl ?_
        refine WP_aload_n (z := 0) dX5_digest_95 rfl ?_
        refine WP_getR (z := 9) dX5_digest_96 fl_RX5_22 rfl rfl rfl ?_
        refine WP_getR (z := 10) dX5_digest_99 fl_RX5_91 rfl rfl rfl ?_
        refine WP_getI dX5_digest_102 fl_RX5_150 rfl rfl rfl ?_
        refine WP_icmp_ge (tgt := 121) dX5_digest_105 (by decide) (fun c16 => ?_) (fun c16 => ?_)
        · replace h := h.1 c16
          refine WP_iconst (z := 0) dX5_digest_121 rfl ⟨by decide, by decide⟩ ?_
          refine WP_istore_n (ls1 := [vR 0, vL x1, vU, vI 0]) dX5_digest_122 (by decide) rfl ?_
          exact ih123_ _ _ _ h.1 (by have := h.2; omega)
        · replace h := h.2 c16
          refine WP_aload_n (z := 0) dX5_digest_108 rfl ?_
          refine WP_lload_n (z := x1) dX5_digest_109 rfl ?_
          refine WP_iload_n (z := x3) dX5_digest_110 rfl ?_
          obtain ⟨Q17, ct19, h⟩ := h
          refine WP_callV (g := mX5_digestMinute) (as := [vL x1, vI x3]) (rest := []) (n := 2) dX5_digest_111 wm_938 mo_X5_digestMinute rfl rfl rfl rfl ⟨Nat.le_of_ble_eq_true rfl, Nat.le_of_ble_eq_true rfl⟩ (Nat.le_of_ble_eq_true rfl) ct19 (fun r_ D20 hq18 hok hD23 => ?_)
          obtain ⟨r21, rfl, hr22⟩ := hok
          replace h := h r21 D20 hq18 hr22 hD23
          show WP mX5_digest Q 114 [vR 0, vL x1, vU, vI x3] [vL r21] D20
          refine WP_lstore_n (ls1 := [vR 0, vL r21, vU, vI x3]) dX5_digest_114 (by decide) rfl ?_
          obtain ⟨o24, h⟩ := h
          refine WP_iinc (z := (x3 + 1)) (ls1 := [vR 0, vL r21, vU, vI (x3 + 1)]) dX5_digest_115 rfl (w32_id o24) (by decide) rfl ?_
          refine WP_goto (tgt := 94) dX5_digest_118 (by decide) ?_
          exact ih94_ _ _ _ h.1 (by have := h.2; omega)
      · intro x1 x3 D hI hn
        refine WP_cD (fun hcD => ?_)
        refine WP_cl (fun hcl => ?_)
        have h := h123 x1 x3 D hI hcD (cVs_g hcl (i := 1) (v := vL x1) rfl) (cVs_g hcl (i := 3) (v := vI x3) rfl)
        refine WP_iload_n (z := x3) dX5_digest_123 rfl ?_
        refine WP_aload_n (z := 0) dX5_digest_124 rfl ?_
        refine WP_getR (z := 9) dX5_digest_125 fl_RX5_22 rfl rfl rfl ?_
        refine WP_getR (z := 10) dX5_digest_128 fl_RX5_91 rfl rfl rfl ?_
        refine WP_getI dX5_digest_131 fl_RX5_167 rfl rfl rfl ?_
        refine WP_icmp_ge (tgt := 150) dX5_digest_134 (by decide) (fun c25 => ?_) (fun c25 => ?_)
        · replace h := h.1 c25
          refine WP_ldc2 (z := 31) wm_934 dX5_digest_150 (by decide +kernel) ?_
          refine WP_lload_n (z := x1) dX5_digest_153 rfl ?_
          refine WP_lmul dX5_digest_154 rfl ?_
          refine WP_aload_n (z := 0) dX5_digest_155 rfl ?_
          refine WP_iconst (z := 0) dX5_digest_156 rfl ⟨by decide, by decide⟩ ?_
          refine WP_pcallV (g := mX5_first) (as := [vI 0]) (rest := [vL (w64 (31 * x1))]) (n := 1) (r := vI (fX5_first D 0)) dX5_digest_157 wm_959 mo_X5_first rfl rfl rfl rfl ⟨Nat.le_of_ble_eq_true rfl, Nat.le_of_ble_eq_true rfl⟩ (Nat.le_of_ble_eq_true rfl) (P_X5_first  trivial) ?_
          refine WP_i2l dX5_digest_160 ?_
          refine WP_ladd dX5_digest_161 rfl ?_
          refine WP_lstore_n (ls1 := [vR 0, vL (w64 ((w64 (31 * x1)) + (fX5_first D 0))), vU, vI x3]) dX5_digest_162 (by decide) rfl ?_
          obtain ⟨v26, hv27⟩ : ∃ v26 : Int, v26 = (w64 ((w64 (31 * x1)) + (fX5_first D 0))) := ⟨_, rfl⟩
          replace h := h v26 hv27
          rw [← hv27]
          refine WP_ldc2 (z := 31) wm_934 dX5_digest_163 (by decide +kernel) ?_
          refine WP_lload_n (z := v26) dX5_digest_166 rfl ?_
          refine WP_lmul dX5_digest_167 rfl ?_
          refine WP_aload_n (z := 0) dX5_digest_168 rfl ?_
          refine WP_iconst (z := 1) dX5_digest_169 rfl ⟨by decide, by decide⟩ ?_
          refine WP_pcallV (g := mX5_first) (as := [vI 1]) (rest := [vL (w64 (31 * v26))]) (n := 1) (r := vI (fX5_first D 1)) dX5_digest_170 wm_959 mo_X5_first rfl rfl rfl rfl ⟨Nat.le_of_ble_eq_true rfl, Nat.le_of_ble_eq_true rfl⟩ (Nat.le_of_ble_eq_true rfl) (P_X5_first  trivial) ?_
          refine WP_i2l dX5_digest_173 ?_
          refine WP_ladd dX5_digest_174 rfl ?_
          refine WP_lstore_n (ls1 := [vR 0, vL (w64 ((w64 (31 * v26)) + (fX5_first D 1))), vU, vI x3]) dX5_digest_175 (by decide) rfl ?_
          obtain ⟨v28, hv29⟩ : ∃ v28 : Int, v28 = (w64 ((w64 (31 * v26)) + (fX5_first D 1))) := ⟨_, rfl⟩
          replace h := h v28 hv29
          rw [← hv29]
          refine WP_ldc2 (z := 31) wm_934 dX5_digest_176 (by decide +kernel) ?_
          refine WP_lload_n (z := v28) dX5_digest_179 rfl ?_
          refine WP_lmul dX5_digest_180 rfl ?_
          refine WP_aload_n (z := 0) dX5_digest_181 rfl ?_
          refine WP_pcallV (g := mX5_lulls) (as := []) (rest := [vL (w64 (31 * v28))]) (n := 0) (r := vI (fX5_lulls D)) dX5_digest_182 wm_960 mo_X5_lulls rfl rfl rfl rfl ⟨Nat.le_of_ble_eq_true rfl, Nat.le_of_ble_eq_true rfl⟩ (Nat.le_of_ble_eq_true rfl) (P_X5_lulls  trivial) ?_
          refine WP_i2l dX5_digest_185 ?_
          refine WP_ladd dX5_digest_186 rfl ?_
          refine WP_lstore_n (ls1 := [vR 0, vL (w64 ((w64 (31 * v28)) + (fX5_lulls D))), vU, vI x3]) dX5_digest_187 (by decide) rfl ?_
          refine WP_ldc2 (z := 31) wm_934 dX5_digest_188 (by decide +kernel) ?_
          refine WP_lload_n (z := (w64 ((w64 (31 * v28)) + (fX5_lulls D)))) dX5_digest_191 rfl ?_
          refine WP_lmul dX5_digest_192 rfl ?_
          refine WP_aload_n (z := 0) dX5_digest_193 rfl ?_
          refine WP_iconst (z := 0) dX5_digest_194 rfl ⟨by decide, by decide⟩ ?_
          obtain ⟨Q30, ct32, h⟩ := h
          refine WP_callV (g := mX5_move) (as := [vI 0]) (rest := [vL (w64 (31 * (w64 ((w64 (31 * v28)) + (fX5_lulls D)))))]) (n := 1) dX5_digest_195 wm_961 mo_X5_move rfl rfl rfl rfl ⟨Nat.le_of_ble_eq_true rfl, Nat.le_of_ble_eq_true rfl⟩ (Nat.le_of_ble_eq_true rfl) ct32 (fun r_ D33 hq31 hok hD36 => ?_)
          obtain ⟨r34, rfl, hr35⟩ := hok
          replace h := h r34 D33 hq31 hr35 hD36
          show WP mX5_digest Q 198 [vR 0, vL (w64 ((w64 (31 * v28)) + (fX5_lulls D))), vU, vI x3] [vI r34, vL (w64 (31 * (w64 ((w64 (31 * v28)) + (fX5_lulls D)))))] D33
          refine WP_i2l dX5_digest_198 ?_
          refine WP_ladd dX5_digest_199 rfl ?_
          refine WP_lstore_n (ls1 := [vR 0, vL (w64 ((w64 (31 * (w64 ((w64 (31 * v28)) + (fX5_lulls D))))) + r34)), vU, vI x3]) dX5_digest_200 (by decide) rfl ?_
          obtain ⟨v37, hv38⟩ : ∃ v37 : Int, v37 = (w64 ((w64 (31 * (w64 ((w64 (31 * v28)) + (fX5_lulls D))))) + r34)) := ⟨_, rfl⟩
          replace h := h v37 hv38
          rw [← hv38]
          refine WP_ldc2 (z := 31) wm_934 dX5_digest_201 (by decide +kernel) ?_
          refine WP_lload_n (z := v37) dX5_digest_204 rfl ?_
          refine WP_lmul dX5_digest_205 rfl ?_
          refine WP_aload_n (z := 0) dX5_digest_206 rfl ?_
          refine WP_iconst (z := 1) dX5_digest_207 rfl ⟨by decide, by decide⟩ ?_
          obtain ⟨Q39, ct41, h⟩ := h
          refine WP_callV (g := mX5_move) (as := [vI 1]) (rest := [vL (w64 (31 * v37))]) (n := 1) dX5_digest_208 wm_961 mo_X5_move rfl rfl rfl rfl ⟨Nat.le_of_ble_eq_true rfl, Nat.le_of_ble_eq_true rfl⟩ (Nat.le_of_ble_eq_true rfl) ct41 (fun r_ D42 hq40 hok hD45 => ?_)
          obtain ⟨r43, rfl, hr44⟩ := hok
          replace h := h r43 D42 hq40 hr44 hD45
          show WP mX5_digest Q 211 [vR 0, vL v37, vU, vI x3] [vI r43, vL (w64 (31 * v37))] D42
          refine WP_i2l dX5_digest_211 ?_
          refine WP_ladd dX5_digest_212 rfl ?_
          refine WP_lstore_n (ls1 := [vR 0, vL (w64 ((w64 (31 * v37)) + r43)), vU, vI x3]) dX5_digest_213 (by decide) rfl ?_
          refine WP_ldc2 (z := 31) wm_934 dX5_digest_214 (by decide +kernel) ?_
          refine WP_lload_n (z := (w64 ((w64 (31 * v37)) + r43))) dX5_digest_217 rfl ?_
          refine WP_lmul dX5_digest_218 rfl ?_
          refine WP_aload_n (z := 0) dX5_digest_219 rfl ?_
          refine WP_bipush (z := 7) dX5_digest_220 rfl (by decide) ?_
          refine WP_bipush (z := 9) dX5_digest_222 rfl (by decide) ?_
          refine WP_iconst (z := 0) dX5_digest_224 rfl ⟨by decide, by decide⟩ ?_
          obtain ⟨Q46, ct48, h⟩ := h
          refine WP_callV (g := mX5_weather) (as := [vI 7, vI 9, vI 0]) (rest := [vL (w64 (31 * (w64 ((w64 (31 * v37)) + r43))))]) (n := 3) dX5_digest_225 wm_962 mo_X5_weather rfl rfl rfl rfl ⟨Nat.le_of_ble_eq_true rfl, Nat.le_of_ble_eq_true rfl⟩ (Nat.le_of_ble_eq_true rfl) ct48 (fun r_ D49 hq47 hok hD52 => ?_)
          obtain ⟨r50, rfl, hr51⟩ := hok
          replace h := h r50 D49 hq47 hr51 hD52
          show WP mX5_digest Q 228 [vR 0, vL (w64 ((w64 (31 * v37)) + r43)), vU, vI x3] [vI r50, vL (w64 (31 * (w64 ((w64 (31 * v37)) + r43))))] D49
          refine WP_i2l dX5_digest_228 ?_
          refine WP_ladd dX5_digest_229 rfl ?_
          refine WP_lstore_n (ls1 := [vR 0, vL (w64 ((w64 (31 * (w64 ((w64 (31 * v37)) + r43)))) + r50)), vU, vI x3]) dX5_digest_230 (by decide) rfl ?_
          obtain ⟨v53, hv54⟩ : ∃ v53 : Int, v53 = (w64 ((w64 (31 * (w64 ((w64 (31 * v37)) + r43)))) + r50)) := ⟨_, rfl⟩
          replace h := h v53 hv54
          rw [← hv54]
          refine WP_ldc2 (z := 31) wm_934 dX5_digest_231 (by decide +kernel) ?_
          refine WP_lload_n (z := v53) dX5_digest_234 rfl ?_
          refine WP_lmul dX5_digest_235 rfl ?_
          refine WP_aload_n (z := 0) dX5_digest_236 rfl ?_
          refine WP_bipush (z := 7) dX5_digest_237 rfl (by decide) ?_
          refine WP_bipush (z := 9) dX5_digest_239 rfl (by decide) ?_
          refine WP_iconst (z := 1) dX5_digest_241 rfl ⟨by decide, by decide⟩ ?_
          obtain ⟨Q55, ct57, h⟩ := h
          refine WP_callV (g := mX5_weather) (as := [vI 7, vI 9, vI 1]) (rest := [vL (w64 (31 * v53))]) (n := 3) dX5_digest_242 wm_962 mo_X5_weather rfl rfl rfl rfl ⟨Nat.le_of_ble_eq_true rfl, Nat.le_of_ble_eq_true rfl⟩ (Nat.le_of_ble_eq_true rfl) ct57 (fun r_ D58 hq56 hok hD61 => ?_)
          obtain ⟨r59, rfl, hr60⟩ := hok
          replace h := h r59 D58 hq56 hr60 hD61
          show WP mX5_digest Q 245 [vR 0, vL v53, vU, vI x3] [vI r59, vL (w64 (31 * v53))] D58
          refine WP_i2l dX5_digest_245 ?_
          refine WP_ladd dX5_digest_246 rfl ?_
          refine WP_lstore_n (ls1 := [vR 0, vL (w64 ((w64 (31 * v53)) + r59)), vU, vI x3]) dX5_digest_247 (by decide) rfl ?_
          refine WP_lload_n (z := (w64 ((w64 (31 * v53)) + r59))) dX5_digest_248 rfl ?_
          exact WP_lreturn dX5_digest_249 rfl h
        · replace h := h.2 c25
          refine WP_aload_n (z := 0) dX5_digest_137 rfl ?_
          refine WP_lload_n (z := x1) dX5_digest_138 rfl ?_
          refine WP_iload_n (z := x3) dX5_digest_139 rfl ?_
          obtain ⟨Q62, ct64, h⟩ := h
          refine WP_callV (g := mX5_digestCandidate) (as := [vL x1, vI x3]) (rest := []) (n := 2) dX5_digest_140 wm_948 mo_X5_digestCandidate rfl rfl rfl rfl ⟨Nat.le_of_ble_eq_true rfl, Nat.le_of_ble_eq_true rfl⟩ (Nat.le_of_ble_eq_true rfl) ct64 (fun r_ D65 hq63 hok hD68 => ?_)
          obtain ⟨r66, rfl, hr67⟩ := hok
          replace h := h r66 D65 hq63 hr67 hD68
          show WP mX5_digest Q 143 [vR 0, vL x1, vU, vI x3] [vL r66] D65
          refine WP_lstore_n (ls1 := [vR 0, vL r66, vU, vI x3]) dX5_digest_143 (by decide) rfl ?_
          obtain ⟨o69, h⟩ := h
          refine WP_iinc (z := (x3 + 1)) (ls1 := [vR 0, vL r66, vU, vI (x3 + 1)]) dX5_digest_144 rfl (w32_id o69) (by decide) rfl ?_
          refine WP_goto (tgt := 123) dX5_digest_147 (by decide) ?_
          exact ih123_ _ _ _ h.1 (by have := h.2; omega)
  have cut6_ : ∀ (x1 x3 : Int) (D : HP), I6 x1 x3 D → WP mX5_digest Q 6 [vR 0, vL x1, vU, vI x3] [] D := fun x1 x3 D hI => (IH (u6 x1 x3 D * 5 + 4 + 1)).1 x1 x3 D hI (by omega)
  have cut33_ : ∀ (x1 x3 : Int) (D : HP), I33 x1 x3 D → WP mX5_digest Q 33 [vR 0, vL x1, vU, vI x3] [] D := fun x1 x3 D hI => (IH (u33 x1 x3 D * 5 + 3 + 1)).2.1 x1 x3 D hI (by omega)
  have cut59_ : ∀ (x1 x3 : Int) (D : HP), I59 x1 x3 D → WP mX5_digest Q 59 [vR 0, vL x1, vU, vI x3] [] D := fun x1 x3 D hI => (IH (u59 x1 x3 D * 5 + 2 + 1)).2.2.1 x1 x3 D hI (by omega)
  have cut94_ : ∀ (x1 x3 : Int) (D : HP), I94 x1 x3 D → WP mX5_digest Q 94 [vR 0, vL x1, vU, vI x3] [] D := fun x1 x3 D hI => (IH (u94 x1 x3 D * 5 + 1 + 1)).2.2.2.1 x1 x3 D hI (by omega)
  have cut123_ : ∀ (x1 x3 : Int) (D : HP), I123 x1 x3 D → WP mX5_digest Q 123 [vR 0, vL x1, vU, vI x3] [] D := fun x1 x3 D hI => (IH (u123 x1 x3 D * 5 + 0 + 1)).2.2.2.2 x1 x3 D hI (by omega)
  refine WP_cD (fun hcD => ?_)
  have h := h0 hcD
  refine WP_ldc2 (z := 17) wm_933 dX5_digest_0 (by decide +kernel) ?_
  refine WP_lstore_n (ls1 := [vR 0, vL 17, vU, vU]) dX5_digest_3 (by decide) rfl ?_
  refine WP_iconst (z := 0) dX5_digest_4 rfl ⟨by decide, by decide⟩ ?_
  refine WP_istore_n (ls1 := [vR 0, vL 17, vU, vI 0]) dX5_digest_5 (by decide) rfl ?_
  exact cut6_ _ _ _ h
