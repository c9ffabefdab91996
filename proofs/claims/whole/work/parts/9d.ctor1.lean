/-! ===== the constructors (made by wip/whole/genctor.py) ===== -/
def poX2_init (n : Int32) (cI cB cL : ClassId) (h0 : Nat) (u : va_W × ClassId × ClassId) : Prop := ∃ x1 : Nat, u.1 = [(h0, eO 2 [.ref x1, .int n, .int 0]), (x1, eI cI 39)]
set_option maxHeartbeats 4000000 in
set_option maxRecDepth 100000 in
theorem nX2_init (n : Int32) (hmn : (if (39 : Int32) < n then 39 else n) = n) (cI cB cL : ClassId) : NC yX2_init cX2_init 2 1 22 1 39 [.int n] (eO 2 [.null, .int 0, .int 0]) cI cB cL (fun _ => []) (poX2_init n cI cB cL) := by
  refine NC_of (by decide) (fun _ => Nat.le_of_ble_eq_true rfl) rfl ?_
  intro l dC dI h0 p e s m args below meth c ls A hCF hK hX hP hD hA hS hl
  obtain ⟨hx, hb, hr, hts, hown, hlocks, hml, hin⟩ := hCF
  have hown : s.vm.findClass RX2 = some m.cls := hown
  have hl : lv_has ls 2 [(0, .ref h0), (1, .int n)] := hl
  refine lv_aload_n hx hb dX2_init_0 rfl (lv_at hl 0 rfl) ?_
  refine W.objInit hx hb hown (hts _ wm_77) (hts _ wm_10) (hts _ wm_11) rfl (by rw [hml]; exact hl.1) rfl dX2_init_1 (Nat.le_of_ble_eq_true rfl) (Nat.le_of_ble_eq_true rfl) ?_
  refine W.eq (g2 := F0 m 4 ls []) rfl ?_
  refine lv_aload_n hx hb dX2_init_4 rfl (lv_at hl 0 rfl) ?_
  refine lv_bipush (v := 39) hx hb dX2_init_5 (by decide) ?_
  refine nw_arr (atype := .int) (ty := .int) (N' := 39) (a0 := (39, .inl (fun _ => 0))) hx hb (Or.inl rfl) rfl (hts _ wm_14) hK 0 rfl hP hD hS hA (fun _ => rfl) (by decide) (by decide) (Nat.le_of_ble_eq_true rfl) (Nat.le_of_ble_eq_true rfl) (Nat.le_of_ble_eq_true rfl) dX2_init_7 (fun a1 H hP hD hS => ?_)
  have hP : va_P (dC, dI) vwCl [(h0, eO 2 [.null, .int 0, .int 0]), (a1, eI cI 39)] H := hP
  have hD : va_D A [(h0, eO 2 [.null, .int 0, .int 0]), (a1, eI cI 39)] := hD
  refine va_putF (D := (dC, dI)) (ci := 2) (v := .ref a1) (ty := tyX2 0) (C := RX2) (T := TX2) (N := 3) hx hb hts inlX2 tyX2 tyX2_ok nmX2 hown hK hP hD hS 0 rfl rfl 0 (by decide) (hts _ wm_78) (fun _ h9 => h9) rfl hin rfl (tyX2_ok 0 (by decide)) rfl rfl (Nat.le_of_ble_eq_true rfl) dX2_init_9 (fun H locs hP hD hS => ?_)
  have hP : va_P (dC, dI) vwCl [(h0, eO 2 [.ref a1, .int 0, .int 0]), (a1, eI cI 39)] H := hP
  have hD : va_D A [(h0, eO 2 [.ref a1, .int 0, .int 0]), (a1, eI cI 39)] := hD
  refine lv_aload_n hx hb dX2_init_12 rfl (lv_at hl 0 rfl) ?_
  refine lv_iconst (v := 0) hx hb dX2_init_13 (by decide) ?_
  refine va_put (D := (dC, dI)) (ci := 2) (v := .int 0) (ty := tyX2 2) (C := RX2) (T := TX2) (N := 3) hx hb hts inlX2 tyX2 tyX2_ok nmX2 hown hK hP hD hS 0 rfl rfl 2 (by decide) (hts _ wm_79) (fun _ h9 => h9) rfl (tyX2_ok 2 (by decide)) rfl rfl (Nat.le_of_ble_eq_true rfl) dX2_init_14 (fun H locs hP hD hS => ?_)
  have hP : va_P (dC, dI) vwCl [(h0, eO 2 [.ref a1, .int 0, .int 0]), (a1, eI cI 39)] H := hP
  have hD : va_D A [(h0, eO 2 [.ref a1, .int 0, .int 0]), (a1, eI cI 39)] := hD
  refine lv_aload_n hx hb dX2_init_17 rfl (lv_at hl 0 rfl) ?_
  refine lv_iload_n hx hb dX2_init_18 rfl (lv_at hl 1 rfl) ?_
  refine lv_bipush (v := 39) hx hb dX2_init_19 (by decide) ?_
  refine va_mmin hx hb (hml.trans hl.1.symm) hown (hts _ wm_80) (hts _ w_min.1) (hts _ w_min.2.1) (hts _ w_min.2.2) (Nat.le_of_ble_eq_true rfl) (Nat.le_of_ble_eq_true rfl) (Nat.le_of_ble_eq_true rfl) (Nat.le_of_ble_eq_true rfl) dX2_init_21 ?_
  rw [hmn]
  refine va_putF (D := (dC, dI)) (ci := 2) (v := .int n) (ty := tyX2 1) (C := RX2) (T := TX2) (N := 3) hx hb hts inlX2 tyX2 tyX2_ok nmX2 hown hK hP hD hS 0 rfl rfl 1 (by decide) (hts _ wm_84) (fun _ h9 => h9) rfl hin rfl (tyX2_ok 1 (by decide)) rfl rfl (Nat.le_of_ble_eq_true rfl) dX2_init_24 (fun H locs hP hD hS => ?_)
  have hP : va_P (dC, dI) vwCl [(h0, eO 2 [.ref a1, .int n, .int 0]), (a1, eI cI 39)] H := hP
  have hD : va_D A [(h0, eO 2 [.ref a1, .int n, .int 0]), (a1, eI cI 39)] := hD
  have hKe : va_K (dC, dI) vwCl [] s := hK.sub [] rfl
  exact W.vret hx hb hr (fun t ht hW => ⟨⟨([(h0, eO 2 [.ref a1, .int n, .int 0]), (a1, eI cI 39)], cI, cI), rfl, ⟨a1, rfl⟩, by rw [ht]; exact hP, hD, va_K.moved hW.alike hKe⟩, hS.F ht⟩) hS.2.2 dX2_init_27
def poX3_init (cI cB cL : ClassId) (h0 : Nat) (u : va_W × ClassId × ClassId) : Prop := ∃ x1 : Nat, u.1 = [(h0, eO 3 [.int (-1), .int 0, .ref x1]), (x1, eI cI 60)]
set_option maxHeartbeats 4000000 in
set_option maxRecDepth 100000 in
theorem nX3_init (cI cB cL : ClassId) : NC yX3_init cX3_init 1 1 12 1 60 [] (eO 3 [.int 0, .int 0, .null]) cI cB cL (fun _ => []) (poX3_init cI cB cL) := by
  refine NC_of (by decide) (fun _ => Nat.le_of_ble_eq_true rfl) rfl ?_
  intro l dC dI h0 p e s m args below meth c ls A hCF hK hX hP hD hA hS hl
  obtain ⟨hx, hb, hr, hts, hown, hlocks, hml, hin⟩ := hCF
  have hown : s.vm.findClass RX3 = some m.cls := hown
  have hl : lv_has ls 1 [(0, .ref h0)] := hl
  refine lv_aload_n hx hb dX3_init_0 rfl (lv_at hl 0 rfl) ?_
  refine W.objInit hx hb hown (hts _ wm_87) (hts _ wm_10) (hts _ wm_11) rfl (by rw [hml]; exact hl.1) rfl dX3_init_1 (Nat.le_of_ble_eq_true rfl) (Nat.le_of_ble_eq_true rfl) ?_
  refine W.eq (g2 := F0 m 4 ls []) rfl ?_
  refine lv_aload_n hx hb dX3_init_4 rfl (lv_at hl 0 rfl) ?_
  refine lv_iconst (v := (-1)) hx hb dX3_init_5 (by decide) ?_
  refine va_put (D := (dC, dI)) (ci := 3) (v := .int (-1)) (ty := tyX3 0) (C := RX3) (T := TX3) (N := 3) hx hb hts inlX3 tyX3 tyX3_ok nmX3 hown hK hP hD hS 0 rfl rfl 0 (by decide) (hts _ wm_88) (fun _ h9 => h9) rfl (tyX3_ok 0 (by decide)) rfl rfl (Nat.le_of_ble_eq_true rfl) dX3_init_6 (fun H locs hP hD hS => ?_)
  have hP : va_P (dC, dI) vwCl [(h0, eO 3 [.int (-1), .int 0, .null])] H := hP
  have hD : va_D A [(h0, eO 3 [.int (-1), .int 0, .null])] := hD
  refine lv_aload_n hx hb dX3_init_9 rfl (lv_at hl 0 rfl) ?_
  refine lv_iconst (v := 0) hx hb dX3_init_10 (by decide) ?_
  refine va_put (D := (dC, dI)) (ci := 3) (v := .int 0) (ty := tyX3 1) (C := RX3) (T := TX3) (N := 3) hx hb hts inlX3 tyX3 tyX3_ok nmX3 hown hK hP hD hS 0 rfl rfl 1 (by decide) (hts _ wm_89) (fun _ h9 => h9) rfl (tyX3_ok 1 (by decide)) rfl rfl (Nat.le_of_ble_eq_true rfl) dX3_init_11 (fun H locs hP hD hS => ?_)
  have hP : va_P (dC, dI) vwCl [(h0, eO 3 [.int (-1), .int 0, .null])] H := hP
  have hD : va_D A [(h0, eO 3 [.int (-1), .int 0, .null])] := hD
  refine lv_aload_n hx hb dX3_init_14 rfl (lv_at hl 0 rfl) ?_
  refine lv_bipush (v := 60) hx hb dX3_init_15 (by decide) ?_
  refine nw_arr (atype := .int) (ty := .int) (N' := 60) (a0 := (60, .inl (fun _ => 0))) hx hb (Or.inl rfl) rfl (hts _ wm_14) hK 0 rfl hP hD hS hA (fun _ => rfl) (by decide) (by decide) (Nat.le_of_ble_eq_true rfl) (Nat.le_of_ble_eq_true rfl) (Nat.le_of_ble_eq_true rfl) dX3_init_17 (fun a1 H hP hD hS => ?_)
  have hP : va_P (dC, dI) vwCl [(h0, eO 3 [.int (-1), .int 0, .null]), (a1, eI cI 60)] H := hP
  have hD : va_D A [(h0, eO 3 [.int (-1), .int 0, .null]), (a1, eI cI 60)] := hD
  refine va_putF (D := (dC, dI)) (ci := 3) (v := .ref a1) (ty := tyX3 2) (C := RX3) (T := TX3) (N := 3) hx hb hts inlX3 tyX3 tyX3_ok nmX3 hown hK hP hD hS 0 rfl rfl 2 (by decide) (hts _ wm_90) (fun _ h9 => h9) rfl hin rfl (tyX3_ok 2 (by decide)) rfl rfl (Nat.le_of_ble_eq_true rfl) dX3_init_19 (fun H locs hP hD hS => ?_)
  have hP : va_P (dC, dI) vwCl [(h0, eO 3 [.int (-1), .int 0, .ref a1]), (a1, eI cI 60)] H := hP
  have hD : va_D A [(h0, eO 3 [.int (-1), .int 0, .ref a1]), (a1, eI cI 60)] := hD
  have hKe : va_K (dC, dI) vwCl [] s := hK.sub [] rfl
  exact W.vret hx hb hr (fun t ht hW => ⟨⟨([(h0, eO 3 [.int (-1), .int 0, .ref a1]), (a1, eI cI 60)], cI, cI), rfl, ⟨a1, rfl⟩, by rw [ht]; exact hP, hD, va_K.moved hW.alike hKe⟩, hS.F ht⟩) hS.2.2 dX3_init_22
def poX4_init (cI cB cL : ClassId) (h0 : Nat) (u : va_W × ClassId × ClassId) : Prop := ∃ x1 x2 : Nat, u.1 = [(h0, eO 4 [.int 0, .ref x1, .ref x2]), (x1, eI cI 8), (x2, eI cI 8)]
set_option maxHeartbeats 4000000 in
set_option maxRecDepth 100000 in
theorem nX4_init (cI cB cL : ClassId) : NC yX4_init cX4_init 1 1 12 2 16 [] (eO 4 [.int 0, .null, .null]) cI cB cL (fun _ => []) (poX4_init cI cB cL) := by
  refine NC_of (by decide) (fun _ => Nat.le_of_ble_eq_true rfl) rfl ?_
  intro l dC dI h0 p e s m args below meth c ls A hCF hK hX hP hD hA hS hl
  obtain ⟨hx, hb, hr, hts, hown, hlocks, hml, hin⟩ := hCF
  have hown : s.vm.findClass RX4 = some m.cls := hown
  have hl : lv_has ls 1 [(0, .ref h0)] := hl
  refine lv_aload_n hx hb dX4_init_0 rfl (lv_at hl 0 rfl) ?_
  refine W.objInit hx hb hown (hts _ wm_70) (hts _ wm_10) (hts _ wm_11) rfl (by rw [hml]; exact hl.1) rfl dX4_init_1 (Nat.le_of_ble_eq_true rfl) (Nat.le_of_ble_eq_true rfl) ?_
  refine W.eq (g2 := F0 m 4 ls []) rfl ?_
  refine lv_aload_n hx hb dX4_init_4 rfl (lv_at hl 0 rfl) ?_
  refine lv_iconst (v := 0) hx hb dX4_init_5 (by decide) ?_
  refine va_put (D := (dC, dI)) (ci := 4) (v := .int 0) (ty := tyX4 0) (C := RX4) (T := TX4) (N := 3) hx hb hts inlX4 tyX4 tyX4_ok nmX4 hown hK hP hD hS 0 rfl rfl 0 (by decide) (hts _ wm_71) (fun _ h9 => h9) rfl (tyX4_ok 0 (by decide)) rfl rfl (Nat.le_of_ble_eq_true rfl) dX4_init_6 (fun H locs hP hD hS => ?_)
  have hP : va_P (dC, dI) vwCl [(h0, eO 4 [.int 0, .null, .null])] H := hP
  have hD : va_D A [(h0, eO 4 [.int 0, .null, .null])] := hD
  refine lv_aload_n hx hb dX4_init_9 rfl (lv_at hl 0 rfl) ?_
  refine lv_bipush (v := 8) hx hb dX4_init_10 (by decide) ?_
  refine nw_arr (atype := .int) (ty := .int) (N' := 8) (a0 := (8, .inl (fun _ => 0))) hx hb (Or.inl rfl) rfl (hts _ wm_14) hK 0 rfl hP hD hS hA (fun _ => rfl) (by decide) (by decide) (Nat.le_of_ble_eq_true rfl) (Nat.le_of_ble_eq_true rfl) (Nat.le_of_ble_eq_true rfl) dX4_init_12 (fun a1 H hP hD hS => ?_)
  have hP : va_P (dC, dI) vwCl [(h0, eO 4 [.int 0, .null, .null]), (a1, eI cI 8)] H := hP
  have hD : va_D A [(h0, eO 4 [.int 0, .null, .null]), (a1, eI cI 8)] := hD
  refine va_putF (D := (dC, dI)) (ci := 4) (v := .ref a1) (ty := tyX4 1) (C := RX4) (T := TX4) (N := 3) hx hb hts inlX4 tyX4 tyX4_ok nmX4 hown hK hP hD hS 0 rfl rfl 1 (by decide) (hts _ wm_72) (fun _ h9 => h9) rfl hin rfl (tyX4_ok 1 (by decide)) rfl rfl (Nat.le_of_ble_eq_true rfl) dX4_init_14 (fun H locs hP hD hS => ?_)
  have hP : va_P (dC, dI) vwCl [(h0, eO 4 [.int 0, .ref a1, .null]), (a1, eI cI 8)] H := hP
  have hD : va_D A [(h0, eO 4 [.int 0, .ref a1, .null]), (a1, eI cI 8)] := hD
  refine lv_aload_n hx hb dX4_init_17 rfl (lv_at hl 0 rfl) ?_
  refine lv_bipush (v := 8) hx hb dX4_init_18 (by decide) ?_
  refine nw_arr (atype := .int) (ty := .int) (N' := 8) (a0 := (8, .inl (fun _ => 0))) hx hb (Or.inl rfl) rfl (hts _ wm_14) hK 0 rfl hP hD hS hA (fun _ => rfl) (by decide) (by decide) (Nat.le_of_ble_eq_true rfl) (Nat.le_of_ble_eq_true rfl) (Nat.le_of_ble_eq_true rfl) dX4_init_20 (fun a2 H hP hD hS => ?_)
  have hP : va_P (dC, dI) vwCl [(h0, eO 4 [.int 0, .ref a1, .null]), (a1, eI cI 8), (a2, eI cI 8)] H := hP
  have hD : va_D A [(h0, eO 4 [.int 0, .ref a1, .null]), (a1, eI cI 8), (a2, eI cI 8)] := hD
  refine va_putF (D := (dC, dI)) (ci := 4) (v := .ref a2) (ty := tyX4 2) (C := RX4) (T := TX4) (N := 3) hx hb hts inlX4 tyX4 tyX4_ok nmX4 hown hK hP hD hS 0 rfl rfl 2 (by decide) (hts _ wm_73) (fun _ h9 => h9) rfl hin rfl (tyX4_ok 2 (by decide)) rfl rfl (Nat.le_of_ble_eq_true rfl) dX4_init_22 (fun H locs hP hD hS => ?_)
  have hP : va_P (dC, dI) vwCl [(h0, eO 4 [.int 0, .ref a1, .ref a2]), (a1, eI cI 8), (a2, eI cI 8)] H := hP
  have hD : va_D A [(h0, eO 4 [.int 0, .ref a1, .ref a2]), (a1, eI cI 8), (a2, eI cI 8)] := hD
  have hKe : va_K (dC, dI) vwCl [] s := hK.sub [] rfl
  exact W.vret hx hb hr (fun t ht hW => ⟨⟨([(h0, eO 4 [.int 0, .ref a1, .ref a2]), (a1, eI cI 8), (a2, eI cI 8)], cI, cI), rfl, ⟨a1, a2, rfl⟩, by rw [ht]; exact hP, hD, va_K.moved hW.alike hKe⟩, hS.F ht⟩) hS.2.2 dX4_init_25
def poX1_init (cI cB cL : ClassId) (h0 : Nat) (u : va_W × ClassId × ClassId) : Prop := ∃ x1 x2 x3 x4 x5 x6 x7 x8 : Nat, u.1 = [(h0, eO 1 [.int 0, .int 0, .int 0, .int 0, .ref x1, .ref x2, .ref x3, .ref x4, .ref x5, .ref x6, .ref x7, .ref x8]), (x1, eI cI 25), (x2, eI cI 100), (x3, eI cI 100), (x4, eI cI 12), (x5, eI cI 12), (x6, eI cI 8), (x7, eI cI 8), (x8, eI cI 8)]
set_option maxHeartbeats 4000000 in
set_option maxRecDepth 100000 in
theorem nX1_init (cI cB cL : ClassId) : NC yX1_init cX1_init 1 1 12 8 273 [] (eO 1 [.int 0, .int 0, .int 0, .int 0, .null, .null, .null, .null, .null, .null, .null, .null]) cI cB cL (fun _ => []) (poX1_init cI cB cL) := by
  refine NC_of (by decide) (fun _ => Nat.le_of_ble_eq_true rfl) rfl ?_
  intro l dC dI h0 p e s m args below meth c ls A hCF hK hX hP hD hA hS hl
  obtain ⟨hx, hb, hr, hts, hown, hlocks, hml, hin⟩ := hCF
  have hown : s.vm.findClass RX1 = some m.cls := hown
  have hl : lv_has ls 1 [(0, .ref h0)] := hl
  refine lv_aload_n hx hb dX1_init_0 rfl (lv_at hl 0 rfl) ?_
  refine W.objInit hx hb hown (hts _ wm_55) (hts _ wm_10) (hts _ wm_11) rfl (by rw [hml]; exact hl.1) rfl dX1_init_1 (Nat.le_of_ble_eq_true rfl) (Nat.le_of_ble_eq_true rfl) ?_
  refine W.eq (g2 := F0 m 4 ls []) rfl ?_
  refine lv_aload_n hx hb dX1_init_4 rfl (lv_at hl 0 rfl) ?_
  refine lv_iconst (v := 0) hx hb dX1_init_5 (by decide) ?_
  refine va_put (D := (dC, dI)) (ci := 1) (v := .int 0) (ty := tyX1 0) (C := RX1) (T := TX1) (N := 12) hx hb hts inlX1 tyX1 tyX1_ok nmX1 hown hK hP hD hS 0 rfl rfl 0 (by decide) (hts _ wm_56) (fun _ h9 => h9) rfl (tyX1_ok 0 (by decide)) rfl rfl (Nat.le_of_ble_eq_true rfl) dX1_init_6 (fun H locs hP hD hS => ?_)
  have hP : va_P (dC, dI) vwCl [(h0, eO 1 [.int 0, .int 0, .int 0, .int 0, .null, .null, .null, .null, .null, .null, .null, .null])] H := hP
  have hD : va_D A [(h0, eO 1 [.int 0, .int 0, .int 0, .int 0, .null, .null, .null, .null, .null, .null, .null, .null])] := hD
  refine lv_aload_n hx hb dX1_init_9 rfl (lv_at hl 0 rfl) ?_
  refine lv_iconst (v := 0) hx hb dX1_init_10 (by decide) ?_
  refine va_put (D := (dC, dI)) (ci := 1) (v := .int 0) (ty := tyX1 1) (C := RX1) (T := TX1) (N := 12) hx hb hts inlX1 tyX1 tyX1_ok nmX1 hown hK hP hD hS 0 rfl rfl 1 (by decide) (hts _ wm_57) (fun _ h9 => h9) rfl (tyX1_ok 1 (by decide)) rfl rfl (Nat.le_of_ble_eq_true rfl) dX1_init_11 (fun H locs hP hD hS => ?_)
  have hP : va_P (dC, dI) vwCl [(h0, eO 1 [.int 0, .int 0, .int 0, .int 0, .null, .null, .null, .null, .null, .null, .null, .null])] H := hP
  have hD : va_D A [(h0, eO 1 [.int 0, .int 0, .int 0, .int 0, .null, .null, .null, .null, .null, .null, .null, .null])] := hD
  refine lv_aload_n hx hb dX1_init_14 rfl (lv_at hl 0 rfl) ?_
  refine lv_iconst (v := 0) hx hb dX1_init_15 (by decide) ?_
  refine va_put (D := (dC, dI)) (ci := 1) (v := .int 0) (ty := tyX1 2) (C := RX1) (T := TX1) (N := 12) hx hb hts inlX1 tyX1 tyX1_ok nmX1 hown hK hP hD hS 0 rfl rfl 2 (by decide) (hts _ wm_58) (fun _ h9 => h9) rfl (tyX1_ok 2 (by decide)) rfl rfl (Nat.le_of_ble_eq_true rfl) dX1_init_16 (fun H locs hP hD hS => ?_)
  have hP : va_P (dC, dI) vwCl [(h0, eO 1 [.int 0, .int 0, .int 0, .int 0, .null, .null, .null, .null, .null, .null, .null, .null])] H := hP
  have hD : va_D A [(h0, eO 1 [.int 0, .int 0, .int 0, .int 0, .null, .null, .null, .null, .null, .null, .null, .null])] := hD
  refine lv_aload_n hx hb dX1_init_19 rfl (lv_at hl 0 rfl) ?_
  refine lv_iconst (v := 0) hx hb dX1_init_20 (by decide) ?_
  refine va_put (D := (dC, dI)) (ci := 1) (v := .int 0) (ty := tyX1 3) (C := RX1) (T := TX1) (N := 12) hx hb hts inlX1 tyX1 tyX1_ok nmX1 hown hK hP hD hS 0 rfl rfl 3 (by decide) (hts _ wm_59) (fun _ h9 => h9) rfl (tyX1_ok 3 (by decide)) rfl rfl (Nat.le_of_ble_eq_true rfl) dX1_init_21 (fun H locs hP hD hS => ?_)
  have hP : va_P (dC, dI) vwCl [(h0, eO 1 [.int 0, .int 0, .int 0, .int 0, .null, .null, .null, .null, .null, .null, .null, .null])] H := hP
  have hD : va_D A [(h0, eO 1 [.int 0, .int 0, .int 0, .int 0, .null, .null, .null, .null, .null, .null, .null, .null])] := hD
  refine lv_aload_n hx hb dX1_init_24 rfl (lv_at hl 0 rfl) ?_
  refine lv_bipush (v := 25) hx hb dX1_init_25 (by decide) ?_
  refine nw_arr (atype := .int) (ty := .int) (N' := 25) (a0 := (25, .inl (fun _ => 0))) hx hb (Or.inl rfl) rfl (hts _ wm_14) hK 0 rfl hP hD hS hA (fun _ => rfl) (by decide) (by decide) (Nat.le_of_ble_eq_true rfl) (Nat.le_of_ble_eq_true rfl) (Nat.le_of_ble_eq_true rfl) dX1_init_27 (fun a1 H hP hD hS => ?_)
  have hP : va_P (dC, dI) vwCl [(h0, eO 1 [.int 0, .int 0, .int 0, .int 0, .null, .null, .null, .null, .null, .null, .null, .null]), (a1, eI cI 25)] H := hP
  have hD : va_D A [(h0, eO 1 [.int 0, .int 0, .int 0, .int 0, .null, .null, .null, .null, .null, .null, .null, .null]), (a1, eI cI 25)] := hD
  refine va_putF (D := (dC, dI)) (ci := 1) (v := .ref a1) (ty := tyX1 4) (C := RX1) (T := TX1) (N := 12) hx hb hts inlX1 tyX1 tyX1_ok nmX1 hown hK hP hD hS 0 rfl rfl 4 (by decide) (hts _ wm_60) (fun _ h9 => h9) rfl hin rfl (tyX1_ok 4 (by decide)) rfl rfl (Nat.le_of_ble_eq_true rfl) dX1_init_29 (fun H locs hP hD hS => ?_)
  have hP : va_P (dC, dI) vwCl [(h0, eO 1 [.int 0, .int 0, .int 0, .int 0, .ref a1, .null, .null, .null, .null, .null, .null, .null]), (a1, eI cI 25)] H := hP
  have hD : va_D A [(h0, eO 1 [.int 0, .int 0, .int 0, .int 0, .ref a1, .null, .null, .null, .null, .null, .null, .null]), (a1, eI cI 25)] := hD
  refine lv_aload_n hx hb dX1_init_32 rfl (lv_at hl 0 rfl) ?_
  refine lv_bipush (v := 100) hx hb dX1_init_33 (by decide) ?_
  refine nw_arr (atype := .int) (ty := .int) (N' := 100) (a0 := (100, .inl (fun _ => 0))) hx hb (Or.inl rfl) rfl (hts _ wm_14) hK 0 rfl hP hD hS hA (fun _ => rfl) (by decide) (by decide) (Nat.le_of_ble_eq_true rfl) (Nat.le_of_ble_eq_true rfl) (Nat.le_of_ble_eq_true rfl) dX1_init_35 (fun a2 H hP hD hS => ?_)
  have hP : va_P (dC, dI) vwCl [(h0, eO 1 [.int 0, .int 0, .int 0, .int 0, .ref a1, .null, .null, .null, .null, .null, .null, .null]), (a1, eI cI 25), (a2, eI cI 100)] H := hP
  have hD : va_D A [(h0, eO 1 [.int 0, .int 0, .int 0, .int 0, .ref a1, .null, .null, .null, .null, .null, .null, .null]), (a1, eI cI 25), (a2, eI cI 100)] := hD
  refine va_putF (D := (dC, dI)) (ci := 1) (v := .ref a2) (ty := tyX1 5) (C := RX1) (T := TX1) (N := 12) hx hb hts inlX1 tyX1 tyX1_ok nmX1 hown hK hP hD hS 0 rfl rfl 5 (by decide) (hts _ wm_61) (fun _ h9 => h9) rfl hin rfl (tyX1_ok 5 (by decide)) rfl rfl (Nat.le_of_ble_eq_true rfl) dX1_init_37 (fun H locs hP hD hS => ?_)
  have hP : va_P (dC, dI) vwCl [(h0, eO 1 [.int 0, .int 0, .int 0, .int 0, .ref a1, .ref a2, .null, .null, .null, .null, .null, .null]), (a1, eI cI 25), (a2, eI cI 100)] H := hP
  have hD : va_D A [(h0, eO 1 [.int 0, .int 0, .int 0, .int 0, .ref a1, .ref a2, .null, .null, .null, .null, .null, .null]), (a1, eI cI 25), (a2, eI cI 100)] := hD
  refine lv_aload_n hx hb dX1_init_40 rfl (lv_at hl 0 rfl) ?_
  refine lv_bipush (v := 100) hx hb dX1_init_41 (by decide) ?_
  refine nw_arr (atype := .int) (ty := .int) (N' := 100) (a0 := (100, .inl (fun _ => 0))) hx hb (Or.inl rfl) rfl (hts _ wm_14) hK 0 rfl hP hD hS hA (fun _ => rfl) (by decide) (by decide) (Nat.le_of_ble_eq_true rfl) (Nat.le_of_ble_eq_true rfl) (Nat.le_of_ble_eq_true rfl) dX1_init_43 (fun a3 H hP hD hS => ?_)
  have hP : va_P (dC, dI) vwCl [(h0, eO 1 [.int 0, .int 0, .int 0, .int 0, .ref a1, .ref a2, .null, .null, .null, .null, .null, .null]), (a1, eI cI 25), (a2, eI cI 100), (a3, eI cI 100)] H := hP
  have hD : va_D A [(h0, eO 1 [.int 0, .int 0, .int 0, .int 0, .ref a1, .ref a2, .null, .null, .null, .null, .null, .null]), (a1, eI cI 25), (a2, eI cI 100), (a3, eI cI 100)] := hD
  refine va_putF (D := (dC, dI)) (ci := 1) (v := .ref a3) (ty := tyX1 6) (C := RX1) (T := TX1) (N := 12) hx hb hts inlX1 tyX1 tyX1_ok nmX1 hown hK hP hD hS 0 rfl rfl 6 (by decide) (hts _ wm_62) (fun _ h9 => h9) rfl hin rfl (tyX1_ok 6 (by decide)) rfl rfl (Nat.le_of_ble_eq_true rfl) dX1_init_45 (fun H locs hP hD hS => ?_)
  have hP : va_P (dC, dI) vwCl [(h0, eO 1 [.int 0, .int 0, .int 0, .int 0, .ref a1, .ref a2, .ref a3, .null, .null, .null, .null, .null]), (a1, eI cI 25), (a2, eI cI 100), (a3, eI cI 100)] H := hP
  have hD : va_D A [(h0, eO 1 [.int 0, .int 0, .int 0, .int 0, .ref a1, .ref a2, .ref a3, .null, .null, .null, .null, .null]), (a1, eI cI 25), (a2, eI cI 100), (a3, eI cI 100)] := hD
  refine lv_aload_n hx hb dX1_init_48 rfl (lv_at hl 0 rfl) ?_
  refine lv_bipush (v := 12) hx hb dX1_init_49 (by decide) ?_
  refine nw_arr (atype := .int) (ty := .int) (N' := 12) (a0 := (12, .inl (fun _ => 0))) hx hb (Or.inl rfl) rfl (hts _ wm_14) hK 0 rfl hP hD hS hA (fun _ => rfl) (by decide) (by decide) (Nat.le_of_ble_eq_true rfl) (Nat.le_of_ble_eq_true rfl) (Nat.le_of_ble_eq_true rfl) dX1_init_51 (fun a4 H hP hD hS => ?_)
  have hP : va_P (dC, dI) vwCl [(h0, eO 1 [.int 0, .int 0, .int 0, .int 0, .ref a1, .ref a2, .ref a3, .null, .null, .null, .null, .null]), (a1, eI cI 25), (a2, eI cI 100), (a3, eI cI 100), (a4, eI cI 12)] H := hP
  have hD : va_D A [(h0, eO 1 [.int 0, .int 0, .int 0, .int 0, .ref a1, .ref a2, .ref a3, .null, .null, .null, .null, .null]), (a1, eI cI 25), (a2, eI cI 100), (a3, eI cI 100), (a4, eI cI 12)] := hD
  refine va_putF (D := (dC, dI)) (ci := 1) (v := .ref a4) (ty := tyX1 7) (C := RX1) (T := TX1) (N := 12) hx hb hts inlX1 tyX1 tyX1_ok nmX1 hown hK hP hD hS 0 rfl rfl 7 (by decide) (hts _ wm_63) (fun _ h9 => h9) rfl hin rfl (tyX1_ok 7 (by decide)) rfl rfl (Nat.le_of_ble_eq_true rfl) dX1_init_53 (fun H locs hP hD hS => ?_)
  have hP : va_P (dC, dI) vwCl [(h0, eO 1 [.int 0, .int 0, .int 0, .int 0, .ref a1, .ref a2, .ref a3, .ref a4, .null, .null, .null, .null]), (a1, eI cI 25), (a2, eI cI 100), (a3, eI cI 100), (a4, eI cI 12)] H := hP
  have hD : va_D A [(h0, eO 1 [.int 0, .int 0, .int 0, .int 0, .ref a1, .ref a2, .ref a3, .ref a4, .null, .null, .null, .null]), (a1, eI cI 25), (a2, eI cI 100), (a3, eI cI 100), (a4, eI cI 12)] := hD
  refine lv_aload_n hx hb dX1_init_56 rfl (lv_at hl 0 rfl) ?_
  refine lv_bipush (v := 12) hx hb dX1_init_57 (by decide) ?_
  refine nw_arr (atype := .int) (ty := .int) (N' := 12) (a0 := (12, .inl (fun _ => 0))) hx hb (Or.inl rfl) rfl (hts _ wm_14) hK 0 rfl hP hD hS hA (fun _ => rfl) (by decide) (by decide) (Nat.le_of_ble_eq_true rfl) (Nat.le_of_ble_eq_true rfl) (Nat.le_of_ble_eq_true rfl) dX1_init_59 (fun a5 H hP hD hS => ?_)
  have hP : va_P (dC, dI) vwCl [(h0, eO 1 [.int 0, .int 0, .int 0, .int 0, .ref a1, .ref a2, .ref a3, .ref a4, .null, .null, .null, .null]), (a1, eI cI 25), (a2, eI cI 100), (a3, eI cI 100), (a4, eI cI 12), (a5, eI cI 12)] H := hP
  have hD : va_D A [(h0, eO 1 [.int 0, .int 0, .int 0, .int 0, .ref a1, .ref a2, .ref a3, .ref a4, .null, .null, .null, .null]), (a1, eI cI 25), (a2, eI cI 100), (a3, eI cI 100), (a4, eI cI 12), (a5, eI cI 12)] := hD
  refine va_putF (D := (dC, dI)) (ci := 1) (v := .ref a5) (ty := tyX1 8) (C := RX1) (T := TX1) (N := 12) hx hb hts inlX1 tyX1 tyX1_ok nmX1 hown hK hP hD hS 0 rfl rfl 8 (by decide) (hts _ wm_64) (fun _ h9 => h9) rfl hin rfl (tyX1_ok 8 (by decide)) rfl rfl (Nat.le_of_ble_eq_true rfl) dX1_init_61 (fun H locs hP hD hS => ?_)
  have hP : va_P (dC, dI) vwCl [(h0, eO 1 [.int 0, .int 0, .int 0, .int 0, .ref a1, .ref a2, .ref a3, .ref a4, .ref a5, .null, .null, .null]), (a1, eI cI 25), (a2, eI cI 100), (a3, eI cI 100), (a4, eI cI 12), (a5, eI cI 12)] H := hP
  have hD : va_D A [(h0, eO 1 [.int 0, .int 0, .int 0, .int 0, .ref a1, .ref a2, .ref a3, .ref a4, .ref a5, .null, .null, .null]), (a1, eI cI 25), (a2, eI cI 100), (a3, eI cI 100), (a4, eI cI 12), (a5, eI cI 12)] := hD
  refine lv_aload_n hx hb dX1_init_64 rfl (lv_at hl 0 rfl) ?_
  refine lv_bipush (v := 8) hx hb dX1_init_65 (by decide) ?_
  refine nw_arr (atype := .int) (ty := .int) (N' := 8) (a0 := (8, .inl (fun _ => 0))) hx hb (Or.inl rfl) rfl (hts _ wm_14) hK 0 rfl hP hD hS hA (fun _ => rfl) (by decide) (by decide) (Nat.le_of_ble_eq_true rfl) (Nat.le_of_ble_eq_true rfl) (Nat.le_of_ble_eq_true rfl) dX1_init_67 (fun a6 H hP hD hS => ?_)
  have hP : va_P (dC, dI) vwCl [(h0, eO 1 [.int 0, .int 0, .int 0, .int 0, .ref a1, .ref a2, .ref a3, .ref a4, .ref a5, .null, .null, .null]), (a1, eI cI 25), (a2, eI cI 100), (a3, eI cI 100), (a4, eI cI 12), (a5, eI cI 12), (a6, eI cI 8)] H := hP
  have hD : va_D A [(h0, eO 1 [.int 0, .int 0, .int 0, .int 0, .ref a1, .ref a2, .ref a3, .ref a4, .ref a5, .null, .null, .null]), (a1, eI cI 25), (a2, eI cI 100), (a3, eI cI 100), (a4, eI cI 12), (a5, eI cI 12), (a6, eI cI 8)] := hD
  refine va_putF (D := (dC, dI)) (ci := 1) (v := .ref a6) (ty := tyX1 9) (C := RX1) (T := TX1) (N := 12) hx hb hts inlX1 tyX1 tyX1_ok nmX1 hown hK hP hD hS 0 rfl rfl 9 (by decide) (hts _ wm_65) (fun _ h9 => h9) rfl hin rfl (tyX1_ok 9 (by decide)) rfl rfl (Nat.le_of_ble_eq_true rfl) dX1_init_69 (fun H locs hP hD hS => ?_)
  have hP : va_P (dC, dI) vwCl [(h0, eO 1 [.int 0, .int 0, .int 0, .int 0, .ref a1, .ref a2, .ref a3, .ref a4, .ref a5, .ref a6, .null, .null]), (a1, eI cI 25), (a2, eI cI 100), (a3, eI cI 100), (a4, eI cI 12), (a5, eI cI 12), (a6, eI cI 8)] H := hP
  have hD : va_D A [(h0, eO 1 [.int 0, .int 0, .int 0, .int 0, .ref a1, .ref a2, .ref a3, .ref a4, .ref a5, .ref a6, .null, .null]), (a1, eI cI 25), (a2, eI cI 100), (a3, eI cI 100), (a4, eI cI 12), (a5, eI cI 12), (a6, eI cI 8)] := hD
  refine lv_aload_n hx hb dX1_init_72 rfl (lv_at hl 0 rfl) ?_
  refine lv_bipush (v := 8) hx hb dX1_init_73 (by decide) ?_
  refine nw_arr (atype := .int) (ty := .int) (N' := 8) (a0 := (8, .inl (fun _ => 0))) hx hb (Or.inl rfl) rfl (hts _ wm_14) hK 0 rfl hP hD hS hA (fun _ => rfl) (by decide) (by decide) (Nat.le_of_ble_eq_true rfl) (Nat.le_of_ble_eq_true rfl) (Nat.le_of_ble_eq_true rfl) dX1_init_75 (fun a7 H hP hD hS => ?_)
  have hP : va_P (dC, dI) vwCl [(h0, eO 1 [.int 0, .int 0, .int 0, .int 0, .ref a1, .ref a2, .ref a3, .ref a4, .ref a5, .ref a6, .null, .null]), (a1, eI cI 25), (a2, eI cI 100), (a3, eI cI 100), (a4, eI cI 12), (a5, eI cI 12), (a6, eI cI 8), (a7, eI cI 8)] H := hP
  have hD : va_D A [(h0, eO 1 [.int 0, .int 0, .int 0, .int 0, .ref a1, .ref a2, .ref a3, .ref a4, .ref a5, .ref a6, .null, .null]), (a1, eI cI 25), (a2, eI cI 100), (a3, eI cI 100), (a4, eI cI 12), (a5, eI cI 12), (a6, eI cI 8), (a7, eI cI 8)] := hD
  refine va_putF (D := (dC, dI)) (ci := 1) (v := .ref a7) (ty := tyX1 10) (C := RX1) (T := TX1) (N := 12) hx hb hts inlX1 tyX1 tyX1_ok nmX1 hown hK hP hD hS 0 rfl rfl 10 (by decide) (hts _ wm_66) (fun _ h9 => h9) rfl hin rfl (tyX1_ok 10 (by decide)) rfl rfl (Nat.le_of_ble_eq_true rfl) dX1_init_77 (fun H locs hP hD hS => ?_)
  have hP : va_P (dC, dI) vwCl [(h0, eO 1 [.int 0, .int 0, .int 0, .int 0, .ref a1, .ref a2, .ref a3, .ref a4, .ref a5, .ref a6, .ref a7, .null]), (a1, eI cI 25), (a2, eI cI 100), (a3, eI cI 100), (a4, eI cI 12), (a5, eI cI 12), (a6, eI cI 8), (a7, eI cI 8)] H := hP
  have hD : va_D A [(h0, eO 1 [.int 0, .int 0, .int 0, .int 0, .ref a1, .ref a2, .ref a3, .ref a4, .ref a5, .ref a6, .ref a7, .null]), (a1, eI cI 25), (a2, eI cI 100), (a3, eI cI 100), (a4, eI cI 12), (a5, eI cI 12), (a6, eI cI 8), (a7, eI cI 8)] := hD
  refine lv_aload_n hx hb dX1_init_80 rfl (lv_at hl 0 rfl) ?_
  refine lv_bipush (v := 8) hx hb dX1_init_81 (by decide) ?_
  refine nw_arr (atype := .int) (ty := .int) (N' := 8) (a0 := (8, .inl (fun _ => 0))) hx hb (Or.inl rfl) rfl (hts _ wm_14) hK 0 rfl hP hD hS hA (fun _ => rfl) (by decide) (by decide) (Nat.le_of_ble_eq_true rfl) (Nat.le_of_ble_eq_true rfl) (Nat.le_of_ble_eq_true rfl) dX1_init_83 (fun a8 H hP hD hS => ?_)
  have hP : va_P (dC, dI) vwCl [(h0, eO 1 [.int 0, .int 0, .int 0, .int 0, .ref a1, .ref a2, .ref a3, .ref a4, .ref a5, .ref a6, .ref a7, .null]), (a1, eI cI 25), (a2, eI cI 100), (a3, eI cI 100), (a4, eI cI 12), (a5, eI cI 12), (a6, eI cI 8), (a7, eI cI 8), (a8, eI cI 8)] H := hP
  have hD : va_D A [(h0, eO 1 [.int 0, .int 0, .int 0, .int 0, .ref a1, .ref a2, .ref a3, .ref a4, .ref a5, .ref a6, .ref a7, .null]), (a1, eI cI 25), (a2, eI cI 100), (a3, eI cI 100), (a4, eI cI 12), (a5, eI cI 12), (a6, eI cI 8), (a7, eI cI 8), (a8, eI cI 8)] := hD
  refine va_putF (D := (dC, dI)) (ci := 1) (v := .ref a8) (ty := tyX1 11) (C := RX1) (T := TX1) (N := 12) hx hb hts inlX1 tyX1 tyX1_ok nmX1 hown hK hP hD hS 0 rfl rfl 11 (by decide) (hts _ wm_67) (fun _ h9 => h9) rfl hin rfl (tyX1_ok 11 (by decide)) rfl rfl (Nat.le_of_ble_eq_true rfl) dX1_init_85 (fun H locs hP hD hS => ?_)
  have hP : va_P (dC, dI) vwCl [(h0, eO 1 [.int 0, .int 0, .int 0, .int 0, .ref a1, .ref a2, .ref a3, .ref a4, .ref a5, .ref a6, .ref a7, .ref a8]), (a1, eI cI 25), (a2, eI cI 100), (a3, eI cI 100), (a4, eI cI 12), (a5, eI cI 12), (a6, eI cI 8), (a7, eI cI 8), (a8, eI cI 8)] H := hP
  have hD : va_D A [(h0, eO 1 [.int 0, .int 0, .int 0, .int 0, .ref a1, .ref a2, .ref a3, .ref a4, .ref a5, .ref a6, .ref a7, .ref a8]), (a1, eI cI 25), (a2, eI cI 100), (a3, eI cI 100), (a4, eI cI 12), (a5, eI cI 12), (a6, eI cI 8), (a7, eI cI 8), (a8, eI cI 8)] := hD
  have hKe : va_K (dC, dI) vwCl [] s := hK.sub [] rfl
  exact W.vret hx hb hr (fun t ht hW => ⟨⟨([(h0, eO 1 [.int 0, .int 0, .int 0, .int 0, .ref a1, .ref a2, .ref a3, .ref a4, .ref a5, .ref a6, .ref a7, .ref a8]), (a1, eI cI 25), (a2, eI cI 100), (a3, eI cI 100), (a4, eI cI 12), (a5, eI cI 12), (a6, eI cI 8), (a7, eI cI 8), (a8, eI cI 8)], cI, cI), rfl, ⟨a1, a2, a3, a4, a5, a6, a7, a8, rfl⟩, by rw [ht]; exact hP, hD, va_K.moved hW.alike hKe⟩, hS.F ht⟩) hS.2.2 dX1_init_88
def poX0_init (cI cB cL : ClassId) (h0 : Nat) (u : va_W × ClassId × ClassId) : Prop := ∃ x1 x2 x3 x4 x5 x6 x7 x8 x9 x10 x11 x12 x13 x14 x15 : Nat, u.1 = [(h0, eO 0 [.ref x1, .int 0, .ref x10, .ref x11, .ref x12, .ref x13, .ref x14, .ref x15]), (x1, eO 1 [.int 0, .int 0, .int 0, .int 0, .ref x2, .ref x3, .ref x4, .ref x5, .ref x6, .ref x7, .ref x8, .ref x9]), (x2, eI cI 25), (x3, eI cI 100), (x4, eI cI 100), (x5, eI cI 12), (x6, eI cI 12), (x7, eI cI 8), (x8, eI cI 8), (x9, eI cI 8), (x10, eI cI 25), (x11, eI cI 13), (x12, eI cI 104), (x13, eI cI 12), (x14, eI cI 12), (x15, eI cI 12)]
set_option maxHeartbeats 4000000 in
set_option maxRecDepth 100000 in
theorem nX0_init (cI cB cL : ClassId) : NC yX0_init cX0_init 1 2 32 15 463 [] (eO 0 [.null, .int 0, .null, .null, .null, .null, .null, .null]) cI cB cL (fun _ => []) (poX0_init cI cB cL) := by
  refine NC_of (by decide) (fun _ => Nat.le_of_ble_eq_true rfl) rfl ?_
  intro l dC dI h0 p e s m args below meth c ls A hCF hK hX hP hD hA hS hl
  obtain ⟨hx, hb, hr, hts, hown, hlocks, hml, hin⟩ := hCF
  have hown : s.vm.findClass RX0 = some m.cls := hown
  have hl : lv_has ls 1 [(0, .ref h0)] := hl
  refine lv_aload_n hx hb dX0_init_0 rfl (lv_at hl 0 rfl) ?_
  refine W.objInit hx hb hown (hts _ wm_41) (hts _ wm_10) (hts _ wm_11) rfl (by rw [hml]; exact hl.1) rfl dX0_init_1 (Nat.le_of_ble_eq_true rfl) (Nat.le_of_ble_eq_true rfl) ?_
  refine W.eq (g2 := F0 m 4 ls []) rfl ?_
  refine lv_aload_n hx hb dX0_init_4 rfl (lv_at hl 0 rfl) ?_
  refine va_new (ci := 1) (fs := [.int 0, .int 0, .int 0, .int 0, .null, .null, .null, .null, .null, .null, .null, .null]) (C := RX1) (T := TX1) (N := 12) hx hb hts inlX1 tyX1 tyX1_ok hown (hts _ wm_42) (hts _ wm_43) (hts _ wm_44) hK hP hD hS hA rfl (fun j hj => by rcases (show j = 0 ∨ j = 1 ∨ j = 2 ∨ j = 3 ∨ j = 4 ∨ j = 5 ∨ j = 6 ∨ j = 7 ∨ j = 8 ∨ j = 9 ∨ j = 10 ∨ j = 11 by omega) with rfl | rfl | rfl | rfl | rfl | rfl | rfl | rfl | rfl | rfl | rfl | rfl <;> rfl) (Nat.le_of_ble_eq_true rfl) (Nat.le_of_ble_eq_true rfl) dX0_init_5 (fun q1 H hP hD hS => ?_)
  have hP : va_P (dC, dI) vwCl [(h0, eO 0 [.null, .int 0, .null, .null, .null, .null, .null, .null]), (q1, eO 1 [.int 0, .int 0, .int 0, .int 0, .null, .null, .null, .null, .null, .null, .null, .null])] H := hP
  have hD : va_D A [(h0, eO 0 [.null, .int 0, .null, .null, .null, .null, .null, .null]), (q1, eO 1 [.int 0, .int 0, .int 0, .int 0, .null, .null, .null, .null, .null, .null, .null, .null])] := hD
  refine lv_dup hx hb dX0_init_8 rfl ?_
  refine nw_callN (host := RX5) (own := RX0) (n := 0) (idx := 11) (as := []) (rest := [.ref q1, .ref h0]) (q := q1) (e0 := eO 1 [.int 0, .int 0, .int 0, .int 0, .null, .null, .null, .null, .null, .null, .null, .null]) (pre := [(h0, eO 0 [.null, .int 0, .null, .null, .null, .null, .null, .null])]) (tyr := []) ⟨hx, hb, hml, hown, hts⟩ (nX1_init cI cB cL) wm_54 wm_44 hX.2.2.2.2 wm_53 rfl (by decide +kernel) ⟨Nat.le_of_ble_eq_true rfl, Nat.le_of_ble_eq_true rfl⟩ rfl hl.1 (Nat.le_of_ble_eq_true rfl) dX0_init_9 ⟨Nat.le_of_ble_eq_true rfl, Nat.le_of_ble_eq_true rfl⟩ hK hX hP hD hS hA (fun u c4u c5u H locs hu hP hD hS _ => ?_)
  obtain ⟨b2, b3, b4, b5, b6, b7, b8, b9, hu⟩ := hu
  have hu : u = [(q1, eO 1 [.int 0, .int 0, .int 0, .int 0, .ref b2, .ref b3, .ref b4, .ref b5, .ref b6, .ref b7, .ref b8, .ref b9]), (b2, eI cI 25), (b3, eI cI 100), (b4, eI cI 100), (b5, eI cI 12), (b6, eI cI 12), (b7, eI cI 8), (b8, eI cI 8), (b9, eI cI 8)] := hu
  subst hu
  have hP : va_P (dC, dI) vwCl [(h0, eO 0 [.null, .int 0, .null, .null, .null, .null, .null, .null]), (q1, eO 1 [.int 0, .int 0, .int 0, .int 0, .ref b2, .ref b3, .ref b4, .ref b5, .ref b6, .ref b7, .ref b8, .ref b9]), (b2, eI cI 25), (b3, eI cI 100), (b4, eI cI 100), (b5, eI cI 12), (b6, eI cI 12), (b7, eI cI 8), (b8, eI cI 8), (b9, eI cI 8)] H := hP
  have hD : va_D A [(h0, eO 0 [.null, .int 0, .null, .null, .null, .null, .null, .null]), (q1, eO 1 [.int 0, .int 0, .int 0, .int 0, .ref b2, .ref b3, .ref b4, .ref b5, .ref b6, .ref b7, .ref b8, .ref b9]), (b2, eI cI 25), (b3, eI cI 100), (b4, eI cI 100), (b5, eI cI 12), (b6, eI cI 12), (b7, eI cI 8), (b8, eI cI 8), (b9, eI cI 8)] := hD
  refine va_putF (D := (dC, dI)) (ci := 0) (v := .ref q1) (ty := tyX0 0) (C := RX0) (T := TX0) (N := 8) hx hb hts inlX0 tyX0 tyX0_ok nmX0 hown hK hP hD hS 0 rfl rfl 0 (by decide) (hts _ wm_45) (fun _ h9 => h9) rfl hin rfl (tyX0_ok 0 (by decide)) rfl rfl (Nat.le_of_ble_eq_true rfl) dX0_init_12 (fun H locs hP hD hS => ?_)
  have hP : va_P (dC, dI) vwCl [(h0, eO 0 [.ref q1, .int 0, .null, .null, .null, .null, .null, .null]), (q1, eO 1 [.int 0, .int 0, .int 0, .int 0, .ref b2, .ref b3, .ref b4, .ref b5, .ref b6, .ref b7, .ref b8, .ref b9]), (b2, eI cI 25), (b3, eI cI 100), (b4, eI cI 100), (b5, eI cI 12), (b6, eI cI 12), (b7, eI cI 8), (b8, eI cI 8), (b9, eI cI 8)] H := hP
  have hD : va_D A [(h0, eO 0 [.ref q1, .int 0, .null, .null, .null, .null, .null, .null]), (q1, eO 1 [.int 0, .int 0, .int 0, .int 0, .ref b2, .ref b3, .ref b4, .ref b5, .ref b6, .ref b7, .ref b8, .ref b9]), (b2, eI cI 25), (b3, eI cI 100), (b4, eI cI 100), (b5, eI cI 12), (b6, eI cI 12), (b7, eI cI 8), (b8, eI cI 8), (b9, eI cI 8)] := hD
  refine lv_aload_n hx hb dX0_init_15 rfl (lv_at hl 0 rfl) ?_
  refine lv_iconst (v := 0) hx hb dX0_init_16 (by decide) ?_
  refine va_put (D := (dC, dI)) (ci := 0) (v := .int 0) (ty := tyX0 1) (C := RX0) (T := TX0) (N := 8) hx hb hts inlX0 tyX0 tyX0_ok nmX0 hown hK hP hD hS 0 rfl rfl 1 (by decide) (hts _ wm_46) (fun _ h9 => h9) rfl (tyX0_ok 1 (by decide)) rfl rfl (Nat.le_of_ble_eq_true rfl) dX0_init_17 (fun H locs hP hD hS => ?_)
  have hP : va_P (dC, dI) vwCl [(h0, eO 0 [.ref q1, .int 0, .null, .null, .null, .null, .null, .null]), (q1, eO 1 [.int 0, .int 0, .int 0, .int 0, .ref b2, .ref b3, .ref b4, .ref b5, .ref b6, .ref b7, .ref b8, .ref b9]), (b2, eI cI 25), (b3, eI cI 100), (b4, eI cI 100), (b5, eI cI 12), (b6, eI cI 12), (b7, eI cI 8), (b8, eI cI 8), (b9, eI cI 8)] H := hP
  have hD : va_D A [(h0, eO 0 [.ref q1, .int 0, .null, .null, .null, .null, .null, .null]), (q1, eO 1 [.int 0, .int 0, .int 0, .int 0, .ref b2, .ref b3, .ref b4, .ref b5, .ref b6, .ref b7, .ref b8, .ref b9]), (b2, eI cI 25), (b3, eI cI 100), (b4, eI cI 100), (b5, eI cI 12), (b6, eI cI 12), (b7, eI cI 8), (b8, eI cI 8), (b9, eI cI 8)] := hD
  refine lv_aload_n hx hb dX0_init_20 rfl (lv_at hl 0 rfl) ?_
  refine lv_bipush (v := 25) hx hb dX0_init_21 (by decide) ?_
  refine nw_arr (atype := .int) (ty := .int) (N' := 25) (a0 := (25, .inl (fun _ => 0))) hx hb (Or.inl rfl) rfl (hts _ wm_14) hK 0 rfl hP hD hS hA (fun _ => rfl) (by decide) (by decide) (Nat.le_of_ble_eq_true rfl) (Nat.le_of_ble_eq_true rfl) (Nat.le_of_ble_eq_true rfl) dX0_init_23 (fun a10 H hP hD hS => ?_)
  have hP : va_P (dC, dI) vwCl [(h0, eO 0 [.ref q1, .int 0, .null, .null, .null, .null, .null, .null]), (q1, eO 1 [.int 0, .int 0, .int 0, .int 0, .ref b2, .ref b3, .ref b4, .ref b5, .ref b6, .ref b7, .ref b8, .ref b9]), (b2, eI cI 25), (b3, eI cI 100), (b4, eI cI 100), (b5, eI cI 12), (b6, eI cI 12), (b7, eI cI 8), (b8, eI cI 8), (b9, eI cI 8), (a10, eI cI 25)] H := hP
  have hD : va_D A [(h0, eO 0 [.ref q1, .int 0, .null, .null, .null, .null, .null, .null]), (q1, eO 1 [.int 0, .int 0, .int 0, .int 0, .ref b2, .ref b3, .ref b4, .ref b5, .ref b6, .ref b7, .ref b8, .ref b9]), (b2, eI cI 25), (b3, eI cI 100), (b4, eI cI 100), (b5, eI cI 12), (b6, eI cI 12), (b7, eI cI 8), (b8, eI cI 8), (b9, eI cI 8), (a10, eI cI 25)] := hD
  refine va_putF (D := (dC, dI)) (ci := 0) (v := .ref a10) (ty := tyX0 2) (C := RX0) (T := TX0) (N := 8) hx hb hts inlX0 tyX0 tyX0_ok nmX0 hown hK hP hD hS 0 rfl rfl 2 (by decide) (hts _ wm_47) (fun _ h9 => h9) rfl hin rfl (tyX0_ok 2 (by decide)) rfl rfl (Nat.le_of_ble_eq_true rfl) dX0_init_25 (fun H locs hP hD hS => ?_)
  have hP : va_P (dC, dI) vwCl [(h0, eO 0 [.ref q1, .int 0, .ref a10, .null, .null, .null, .null, .null]), (q1, eO 1 [.int 0, .int 0, .int 0, .int 0, .ref b2, .ref b3, .ref b4, .ref b5, .ref b6, .ref b7, .ref b8, .ref b9]), (b2, eI cI 25), (b3, eI cI 100), (b4, eI cI 100), (b5, eI cI 12), (b6, eI cI 12), (b7, eI cI 8), (b8, eI cI 8), (b9, eI cI 8), (a10, eI cI 25)] H := hP
  have hD : va_D A [(h0, eO 0 [.ref q1, .int 0, .ref a10, .null, .null, .null, .null, .null]), (q1, eO 1 [.int 0, .int 0, .int 0, .int 0, .ref b2, .ref b3, .ref b4, .ref b5, .ref b6, .ref b7, .ref b8, .ref b9]), (b2, eI cI 25), (b3, eI cI 100), (b4, eI cI 100), (b5, eI cI 12), (b6, eI cI 12), (b7, eI cI 8), (b8, eI cI 8), (b9, eI cI 8), (a10, eI cI 25)] := hD
  refine lv_aload_n hx hb dX0_init_28 rfl (lv_at hl 0 rfl) ?_
  refine lv_bipush (v := 13) hx hb dX0_init_29 (by decide) ?_
  refine nw_arr (atype := .int) (ty := .int) (N' := 13) (a0 := (13, .inl (fun _ => 0))) hx hb (Or.inl rfl) rfl (hts _ wm_14) hK 0 rfl hP hD hS hA (fun _ => rfl) (by decide) (by decide) (Nat.le_of_ble_eq_true rfl) (Nat.le_of_ble_eq_true rfl) (Nat.le_of_ble_eq_true rfl) dX0_init_31 (fun a11 H hP hD hS => ?_)
  have hP : va_P (dC, dI) vwCl [(h0, eO 0 [.ref q1, .int 0, .ref a10, .null, .null, .null, .null, .null]), (q1, eO 1 [.int 0, .int 0, .int 0, .int 0, .ref b2, .ref b3, .ref b4, .ref b5, .ref b6, .ref b7, .ref b8, .ref b9]), (b2, eI cI 25), (b3, eI cI 100), (b4, eI cI 100), (b5, eI cI 12), (b6, eI cI 12), (b7, eI cI 8), (b8, eI cI 8), (b9, eI cI 8), (a10, eI cI 25), (a11, eI cI 13)] H := hP
  have hD : va_D A [(h0, eO 0 [.ref q1, .int 0, .ref a10, .null, .null, .null, .null, .null]), (q1, eO 1 [.int 0, .int 0, .int 0, .int 0, .ref b2, .ref b3, .ref b4, .ref b5, .ref b6, .ref b7, .ref b8, .ref b9]), (b2, eI cI 25), (b3, eI cI 100), (b4, eI cI 100), (b5, eI cI 12), (b6, eI cI 12), (b7, eI cI 8), (b8, eI cI 8), (b9, eI cI 8), (a10, eI cI 25), (a11, eI cI 13)] := hD
  refine va_putF (D := (dC, dI)) (ci := 0) (v := .ref a11) (ty := tyX0 3) (C := RX0) (T := TX0) (N := 8) hx hb hts inlX0 tyX0 tyX0_ok nmX0 hown hK hP hD hS 0 rfl rfl 3 (by decide) (hts _ wm_48) (fun _ h9 => h9) rfl hin rfl (tyX0_ok 3 (by decide)) rfl rfl (Nat.le_of_ble_eq_true rfl) dX0_init_33 (fun H locs hP hD hS => ?_)
  have hP : va_P (dC, dI) vwCl [(h0, eO 0 [.ref q1, .int 0, .ref a10, .ref a11, .null, .null, .null, .null]), (q1, eO 1 [.int 0, .int 0, .int 0, .int 0, .ref b2, .ref b3, .ref b4, .ref b5, .ref b6, .ref b7, .ref b8, .ref b9]), (b2, eI cI 25), (b3, eI cI 100), (b4, eI cI 100), (b5, eI cI 12), (b6, eI cI 12), (b7, eI cI 8), (b8, eI cI 8), (b9, eI cI 8), (a10, eI cI 25), (a11, eI cI 13)] H := hP
  have hD : va_D A [(h0, eO 0 [.ref q1, .int 0, .ref a10, .ref a11, .null, .null, .null, .null]), (q1, eO 1 [.int 0, .int 0, .int 0, .int 0, .ref b2, .ref b3, .ref b4, .ref b5, .ref b6, .ref b7, .ref b8, .ref b9]), (b2, eI cI 25), (b3, eI cI 100), (b4, eI cI 100), (b5, eI cI 12), (b6, eI cI 12), (b7, eI cI 8), (b8, eI cI 8), (b9, eI cI 8), (a10, eI cI 25), (a11, eI cI 13)] := hD
  refine lv_aload_n hx hb dX0_init_36 rfl (lv_at hl 0 rfl) ?_
  refine lv_bipush (v := 104) hx hb dX0_init_37 (by decide) ?_
  refine nw_arr (atype := .int) (ty := .int) (N' := 104) (a0 := (104, .inl (fun _ => 0))) hx hb (Or.inl rfl) rfl (hts _ wm_14) hK 0 rfl hP hD hS hA (fun _ => rfl) (by decide) (by decide) (Nat.le_of_ble_eq_true rfl) (Nat.le_of_ble_eq_true rfl) (Nat.le_of_ble_eq_true rfl) dX0_init_39 (fun a12 H hP hD hS => ?_)
  have hP : va_P (dC, dI) vwCl [(h0, eO 0 [.ref q1, .int 0, .ref a10, .ref a11, .null, .null, .null, .null]), (q1, eO 1 [.int 0, .int 0, .int 0, .int 0, .ref b2, .ref b3, .ref b4, .ref b5, .ref b6, .ref b7, .ref b8, .ref b9]), (b2, eI cI 25), (b3, eI cI 100), (b4, eI cI 100), (b5, eI cI 12), (b6, eI cI 12), (b7, eI cI 8), (b8, eI cI 8), (b9, eI cI 8), (a10, eI cI 25), (a11, eI cI 13), (a12, eI cI 104)] H := hP
  have hD : va_D A [(h0, eO 0 [.ref q1, .int 0, .ref a10, .ref a11, .null, .null, .null, .null]), (q1, eO 1 [.int 0, .int 0, .int 0, .int 0, .ref b2, .ref b3, .ref b4, .ref b5, .ref b6, .ref b7, .ref b8, .ref b9]), (b2, eI cI 25), (b3, eI cI 100), (b4, eI cI 100), (b5, eI cI 12), (b6, eI cI 12), (b7, eI cI 8), (b8, eI cI 8), (b9, eI cI 8), (a10, eI cI 25), (a11, eI cI 13), (a12, eI cI 104)] := hD
  refine va_putF (D := (dC, dI)) (ci := 0) (v := .ref a12) (ty := tyX0 4) (C := RX0) (T := TX0) (N := 8) hx hb hts inlX0 tyX0 tyX0_ok nmX0 hown hK hP hD hS 0 rfl rfl 4 (by decide) (hts _ wm_49) (fun _ h9 => h9) rfl hin rfl (tyX0_ok 4 (by decide)) rfl rfl (Nat.le_of_ble_eq_true rfl) dX0_init_41 (fun H locs hP hD hS => ?_)
  have hP : va_P (dC, dI) vwCl [(h0, eO 0 [.ref q1, .int 0, .ref a10, .ref a11, .ref a12, .null, .null, .null]), (q1, eO 1 [.int 0, .int 0, .int 0, .int 0, .ref b2, .ref b3, .ref b4, .ref b5, .ref b6, .ref b7, .ref b8, .ref b9]), (b2, eI cI 25), (b3, eI cI 100), (b4, eI cI 100), (b5, eI cI 12), (b6, eI cI 12), (b7, eI cI 8), (b8, eI cI 8), (b9, eI cI 8), (a10, eI cI 25), (a11, eI cI 13), (a12, eI cI 104)] H := hP
  have hD : va_D A [(h0, eO 0 [.ref q1, .int 0, .ref a10, .ref a11, .ref a12, .null, .null, .null]), (q1, eO 1 [.int 0, .int 0, .int 0, .int 0, .ref b2, .ref b3, .ref b4, .ref b5, .ref b6, .ref b7, .ref b8, .ref b9]), (b2, eI cI 25), (b3, eI cI 100), (b4, eI cI 100), (b5, eI cI 12), (b6, eI cI 12), (b7, eI cI 8), (b8, eI cI 8), (b9, eI cI 8), (a10, eI cI 25), (a11, eI cI 13), (a12, eI cI 104)] := hD
  refine lv_aload_n hx hb dX0_init_44 rfl (lv_at hl 0 rfl) ?_
  refine lv_bipush (v := 12) hx hb dX0_init_45 (by decide) ?_
  refine nw_arr (atype := .int) (ty := .int) (N' := 12) (a0 := (12, .inl (fun _ => 0))) hx hb (Or.inl rfl) rfl (hts _ wm_14) hK 0 rfl hP hD hS hA (fun _ => rfl) (by decide) (by decide) (Nat.le_of_ble_eq_true rfl) (Nat.le_of_ble_eq_true rfl) (Nat.le_of_ble_eq_true rfl) dX0_init_47 (fun a13 H hP hD hS => ?_)
  have hP : va_P (dC, dI) vwCl [(h0, eO 0 [.ref q1, .int 0, .ref a10, .ref a11, .ref a12, .null, .null, .null]), (q1, eO 1 [.int 0, .int 0, .int 0, .int 0, .ref b2, .ref b3, .ref b4, .ref b5, .ref b6, .ref b7, .ref b8, .ref b9]), (b2, eI cI 25), (b3, eI cI 100), (b4, eI cI 100), (b5, eI cI 12), (b6, eI cI 12), (b7, eI cI 8), (b8, eI cI 8), (b9, eI cI 8), (a10, eI cI 25), (a11, eI cI 13), (a12, eI cI 104), (a13, eI cI 12)] H := hP
  have hD : va_D A [(h0, eO 0 [.ref q1, .int 0, .ref a10, .ref a11, .ref a12, .null, .null, .null]), (q1, eO 1 [.int 0, .int 0, .int 0, .int 0, .ref b2, .ref b3, .ref b4, .ref b5, .ref b6, .ref b7, .ref b8, .ref b9]), (b2, eI cI 25), (b3, eI cI 100), (b4, eI cI 100), (b5, eI cI 12), (b6, eI cI 12), (b7, eI cI 8), (b8, eI cI 8), (b9, eI cI 8), (a10, eI cI 25), (a11, eI cI 13), (a12, eI cI 104), (a13, eI cI 12)] := hD
  refine va_putF (D := (dC, dI)) (ci := 0) (v := .ref a13) (ty := tyX0 5) (C := RX0) (T := TX0) (N := 8) hx hb hts inlX0 tyX0 tyX0_ok nmX0 hown hK hP hD hS 0 rfl rfl 5 (by decide) (hts _ wm_50) (fun _ h9 => h9) rfl hin rfl (tyX0_ok 5 (by decide)) rfl rfl (Nat.le_of_ble_eq_true rfl) dX0_init_49 (fun H locs hP hD hS => ?_)
  have hP : va_P (dC, dI) vwCl [(h0, eO 0 [.ref q1, .int 0, .ref a10, .ref a11, .ref a12, .ref a13, .null, .null]), (q1, eO 1 [.int 0, .int 0, .int 0, .int 0, .ref b2, .ref b3, .ref b4, .ref b5, .ref b6, .ref b7, .ref b8, .ref b9]), (b2, eI cI 25), (b3, eI cI 100), (b4, eI cI 100), (b5, eI cI 12), (b6, eI cI 12), (b7, eI cI 8), (b8, eI cI 8), (b9, eI cI 8), (a10, eI cI 25), (a11, eI cI 13), (a12, eI cI 104), (a13, eI cI 12)] H := hP
  have hD : va_D A [(h0, eO 0 [.ref q1, .int 0, .ref a10, .ref a11, .ref a12, .ref a13, .null, .null]), (q1, eO 1 [.int 0, .int 0, .int 0, .int 0, .ref b2, .ref b3, .ref b4, .ref b5, .ref b6, .ref b7, .ref b8, .ref b9]), (b2, eI cI 25), (b3, eI cI 100), (b4, eI cI 100), (b5, eI cI 12), (b6, eI cI 12), (b7, eI cI 8), (b8, eI cI 8), (b9, eI cI 8), (a10, eI cI 25), (a11, eI cI 13), (a12, eI cI 104), (a13, eI cI 12)] := hD
  refine lv_aload_n hx hb dX0_init_52 rfl (lv_at hl 0 rfl) ?_
  refine lv_bipush (v := 12) hx hb dX0_init_53 (by decide) ?_
  refine nw_arr (atype := .int) (ty := .int) (N' := 12) (a0 := (12, .inl (fun _ => 0))) hx hb (Or.inl rfl) rfl (hts _ wm_14) hK 0 rfl hP hD hS hA (fun _ => rfl) (by decide) (by decide) (Nat.le_of_ble_eq_true rfl) (Nat.le_of_ble_eq_true rfl) (Nat.le_of_ble_eq_true rfl) dX0_init_55 (fun a14 H hP hD hS => ?_)
  have hP : va_P (dC, dI) vwCl [(h0, eO 0 [.ref q1, .int 0, .ref a10, .ref a11, .ref a12, .ref a13, .null, .null]), (q1, eO 1 [.int 0, .int 0, .int 0, .int 0, .ref b2, .ref b3, .ref b4, .ref b5, .ref b6, .ref b7, .ref b8, .ref b9]), (b2, eI cI 25), (b3, eI cI 100), (b4, eI cI 100), (b5, eI cI 12), (b6, eI cI 12), (b7, eI cI 8), (b8, eI cI 8), (b9, eI cI 8), (a10, eI cI 25), (a11, eI cI 13), (a12, eI cI 104), (a13, eI cI 12), (a14, eI cI 12)] H := hP
  have hD : va_D A [(h0, eO 0 [.ref q1, .int 0, .ref a10, .ref a11, .ref a12, .ref a13, .null, .null]), (q1, eO 1 [.int 0, .int 0, .int 0, .int 0, .ref b2, .ref b3, .ref b4, .ref b5, .ref b6, .ref b7, .ref b8, .ref b9]), (b2, eI cI 25), (b3, eI cI 100), (b4, eI cI 100), (b5, eI cI 12), (b6, eI cI 12), (b7, eI cI 8), (b8, eI cI 8), (b9, eI cI 8), (a10, eI cI 25), (a11, eI cI 13), (a12, eI cI 104), (a13, eI cI 12), (a14, eI cI 12)] := hD
  refine va_putF (D := (dC, dI)) (ci := 0) (v := .ref a14) (ty := tyX0 6) (C := RX0) (T := TX0) (N := 8) hx hb hts inlX0 tyX0 tyX0_ok nmX0 hown hK hP hD hS 0 rfl rfl 6 (by decide) (hts _ wm_51) (fun _ h9 => h9) rfl hin rfl (tyX0_ok 6 (by decide)) rfl rfl (Nat.le_of_ble_eq_true rfl) dX0_init_57 (fun H locs hP hD hS => ?_)
  have hP : va_P (dC, dI) vwCl [(h0, eO 0 [.ref q1, .int 0, .ref a10, .ref a11, .ref a12, .ref a13, .ref a14, .null]), (q1, eO 1 [.int 0, .int 0, .int 0, .int 0, .ref b2, .ref b3, .ref b4, .ref b5, .ref b6, .ref b7, .ref b8, .ref b9]), (b2, eI cI 25), (b3, eI cI 100), (b4, eI cI 100), (b5, eI cI 12), (b6, eI cI 12), (b7, eI cI 8), (b8, eI cI 8), (b9, eI cI 8), (a10, eI cI 25), (a11, eI cI 13), (a12, eI cI 104), (a13, eI cI 12), (a14, eI cI 12)] H := hP
  have hD : va_D A [(h0, eO 0 [.ref q1, .int 0, .ref a10, .ref a11, .ref a12, .ref a13, .ref a14, .null]), (q1, eO 1 [.int 0, .int 0, .int 0, .int 0, .ref b2, .ref b3, .ref b4, .ref b5, .ref b6, .ref b7, .ref b8, .ref b9]), (b2, eI cI 25), (b3, eI cI 100), (b4, eI cI 100), (b5, eI cI 12), (b6, eI cI 12), (b7, eI cI 8), (b8, eI cI 8), (b9, eI cI 8), (a10, eI cI 25), (a11, eI cI 13), (a12, eI cI 104), (a13, eI cI 12), (a14, eI cI 12)] := hD
  refine lv_aload_n hx hb dX0_init_60 rfl (lv_at hl 0 rfl) ?_
  refine lv_bipush (v := 12) hx hb dX0_init_61 (by decide) ?_
  refine nw_arr (atype := .int) (ty := .int) (N' := 12) (a0 := (12, .inl (fun _ => 0))) hx hb (Or.inl rfl) rfl (hts _ wm_14) hK 0 rfl hP hD hS hA (fun _ => rfl) (by decide) (by decide) (Nat.le_of_ble_eq_true rfl) (Nat.le_of_ble_eq_true rfl) (Nat.le_of_ble_eq_true rfl) dX0_init_63 (fun a15 H hP hD hS => ?_)
  have hP : va_P (dC, dI) vwCl [(h0, eO 0 [.ref q1, .int 0, .ref a10, .ref a11, .ref a12, .ref a13, .ref a14, .null]), (q1, eO 1 [.int 0, .int 0, .int 0, .int 0, .ref b2, .ref b3, .ref b4, .ref b5, .ref b6, .ref b7, .ref b8, .ref b9]), (b2, eI cI 25), (b3, eI cI 100), (b4, eI cI 100), (b5, eI cI 12), (b6, eI cI 12), (b7, eI cI 8), (b8, eI cI 8), (b9, eI cI 8), (a10, eI cI 25), (a11, eI cI 13), (a12, eI cI 104), (a13, eI cI 12), (a14, eI cI 12), (a15, eI cI 12)] H := hP
  have hD : va_D A [(h0, eO 0 [.ref q1, .int 0, .ref a10, .ref a11, .ref a12, .ref a13, .ref a14, .null]), (q1, eO 1 [.int 0, .int 0, .int 0, .int 0, .ref b2, .ref b3, .ref b4, .ref b5, .ref b6, .ref b7, .ref b8, .ref b9]), (b2, eI cI 25), (b3, eI cI 100), (b4, eI cI 100), (b5, eI cI 12), (b6, eI cI 12), (b7, eI cI 8), (b8, eI cI 8), (b9, eI cI 8), (a10, eI cI 25), (a11, eI cI 13), (a12, eI cI 104), (a13, eI cI 12), (a14, eI cI 12), (a15, eI cI 12)] := hD
  refine va_putF (D := (dC, dI)) (ci := 0) (v := .ref a15) (ty := tyX0 7) (C := RX0) (T := TX0) (N := 8) hx hb hts inlX0 tyX0 tyX0_ok nmX0 hown hK hP hD hS 0 rfl rfl 7 (by decide) (hts _ wm_52) (fun _ h9 => h9) rfl hin rfl (tyX0_ok 7 (by decide)) rfl rfl (Nat.le_of_ble_eq_true rfl) dX0_init_65 (fun H locs hP hD hS => ?_)
  have hP : va_P (dC, dI) vwCl [(h0, eO 0 [.ref q1, .int 0, .ref a10, .ref a11, .ref a12, .ref a13, .ref a14, .ref a15]), (q1, eO 1 [.int 0, .int 0, .int 0, .int 0, .ref b2, .ref b3, .ref b4, .ref b5, .ref b6, .ref b7, .ref b8, .ref b9]), (b2, eI cI 25), (b3, eI cI 100), (b4, eI cI 100), (b5, eI cI 12), (b6, eI cI 12), (b7, eI cI 8), (b8, eI cI 8), (b9, eI cI 8), (a10, eI cI 25), (a11, eI cI 13), (a12, eI cI 104), (a13, eI cI 12), (a14, eI cI 12), (a15, eI cI 12)] H := hP
  have hD : va_D A [(h0, eO 0 [.ref q1, .int 0, .ref a10, .ref a11, .ref a12, .ref a13, .ref a14, .ref a15]), (q1, eO 1 [.int 0, .int 0, .int 0, .int 0, .ref b2, .ref b3, .ref b4, .ref b5, .ref b6, .ref b7, .ref b8, .ref b9]), (b2, eI cI 25), (b3, eI cI 100), (b4, eI cI 100), (b5, eI cI 12), (b6, eI cI 12), (b7, eI cI 8), (b8, eI cI 8), (b9, eI cI 8), (a10, eI cI 25), (a11, eI cI 13), (a12, eI cI 104), (a13, eI cI 12), (a14, eI cI 12), (a15, eI cI 12)] := hD
  have hKe : va_K (dC, dI) vwCl [] s := hK.sub [] rfl
  exact W.vret hx hb hr (fun t ht hW => ⟨⟨([(h0, eO 0 [.ref q1, .int 0, .ref a10, .ref a11, .ref a12, .ref a13, .ref a14, .ref a15]), (q1, eO 1 [.int 0, .int 0, .int 0, .int 0, .ref b2, .ref b3, .ref b4, .ref b5, .ref b6, .ref b7, .ref b8, .ref b9]), (b2, eI cI 25), (b3, eI cI 100), (b4, eI cI 100), (b5, eI cI 12), (b6, eI cI 12), (b7, eI cI 8), (b8, eI cI 8), (b9, eI cI 8), (a10, eI cI 25), (a11, eI cI 13), (a12, eI cI 104), (a13, eI cI 12), (a14, eI cI 12), (a15, eI cI 12)], cI, cI), rfl, ⟨q1, b2, b3, b4, b5, b6, b7, b8, b9, a10, a11, a12, a13, a14, a15, rfl⟩, by rw [ht]; exact hP, hD, va_K.moved hW.alike hKe⟩, hS.F ht⟩) hS.2.2 dX0_init_68
