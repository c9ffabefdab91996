/-! ===== the law: a case of each method (made by wip/whole/genlaw.py) ===== -/
theorem lg_same {x : Int64} : lg_cmp x x = 0 := by simp [lg_cmp]
set_option maxHeartbeats 4000000 in
set_option maxRecDepth 100000 in
theorem lc_0 {p : Program} {l : Launch} {e : Env} {s : State} {m : MethodId} {below : List Frame} {meth : Method} {c : Code} {H : Heap} {locs : List Loc} {ls : Array Slot} {dC : Nat → ClassId} {dI : Nat → Nat → Nat} {b L i : Nat} {xs : Nat → Int32} {ad : Nat → Nat} {cA : Nat → ClassId} {D : HP} (hX : LX p s m meth c dC dI b L xs ad cA) (hi : i + 6 ≤ L) (hl : lv_has ls 4 [(3, .int (nI i)), (2, .ref (ad 56)), (1, .ref (ad 0)), (0, .ref b)]) (hDn : LDn s dC dI ad cA D H locs) (kk : ∀ (D : HP) (H : Heap) (locs : List Loc), LDn s dC dI ad cA D H locs → W p l e room_1 s m #[Value.ref b] below meth c H locs 80 2717 (lw_Z below #[Value.ref b] s) (F0 m 1161 ls [])) : W p l e room_1 s m #[Value.ref b] below meth c H locs 80 2717 (lw_Z below #[Value.ref b] s) (F0 m 180 ls []) := by
  obtain ⟨⟨hx, hb, hr, hml, hown, hts, hXs, hbl, hlocks, hgv⟩, hGA, hAd, hK, hL⟩ := id hX
  obtain ⟨hR, hcd, hP, hS⟩ := hDn
  have hbA : ¬ (fun q : Nat => s.heap.size ≤ q) b := Nat.not_le.mpr hbl
  have hj1 : vp_in (nI i + 1) L := lw_in (j := 1) (by omega) hL
  obtain ⟨z1, hz1, ez1⟩ := lw_z (xs (nI i + 1).toNatClampNeg)
  have hj2 : vp_in (nI i + 2) L := lw_in (j := 2) (by omega) hL
  obtain ⟨z2, hz2, ez2⟩ := lw_z (xs (nI i + 2).toNatClampNeg)
  refine lv_aload_n hx hb dL_law_180 rfl (lv_at hl 2 rfl) ?_
  refine lv_aload_n hx hb dL_law_181 rfl (lv_at hl 3 rfl) ?_
  refine lv_iload_n hx hb dL_law_182 rfl (lv_at hl 0 rfl) ?_
  refine lv_iconst (v := 1) hx hb dL_law_183 (by decide) ?_
  refine lv_iadd hx hb dL_law_184 ?_
  refine va_sld hx hb hXs hbl hbA hS hj1 dL_law_185 ?_
  rw [ez1]
  refine lv_aload_n hx hb dL_law_186 rfl (lv_at hl 3 rfl) ?_
  refine lv_iload_n hx hb dL_law_187 rfl (lv_at hl 0 rfl) ?_
  refine lv_iconst (v := 2) hx hb dL_law_188 (by decide) ?_
  refine lv_iadd hx hb dL_law_189 ?_
  refine va_sld hx hb hXs hbl hbA hS hj2 dL_law_190 ?_
  rw [ez2]
  obtain ⟨Q1, hct, hq1⟩ := st_type hR z1 z2
  refine lw_call (g := mX5_type) (k := 0) (ci := 5) (T := TX5) (N := 13) (idx := 13) (n := 2) (as := [vI z1, vI z2]) (rest := []) (ad := ad) (cA := cA) (D := D) hX dL_law_191 wm_119 mo_X5_type rfl rfl rfl ⟨Nat.le_of_ble_eq_true rfl, Nat.le_of_ble_eq_true rfl⟩ (Nat.le_of_ble_eq_true rfl) hl.1 (cVs_c (show cV (vR 0) from trivial) (cVs_c hz1 (cVs_c hz2 cVs_nil))) hcd hP hS hct (fun r E H locs hok hcd hq hP hS => ?_)
  obtain ⟨x, rfl, hxc⟩ : ∃ z, r = some (vI z) ∧ c32 z := hok
  refine W.eq (g2 := F0 m 194 ls [.int (Int32.ofInt x)]) rfl ?_
  obtain ⟨Q2, hct2, hq2⟩ := hq1 _ _ hq
  refine lv_aload_n hx hb dL_law_194 rfl (lv_at hl 1 rfl) ?_
  refine lv_aload_n hx hb dL_law_195 rfl (lv_at hl 3 rfl) ?_
  refine lv_iload_n hx hb dL_law_196 rfl (lv_at hl 0 rfl) ?_
  refine lv_iconst (v := 1) hx hb dL_law_197 (by decide) ?_
  refine lv_iadd hx hb dL_law_198 ?_
  refine va_sld hx hb hXs hbl hbA hS hj1 dL_law_199 ?_
  rw [ez1]
  refine lv_aload_n hx hb dL_law_200 rfl (lv_at hl 3 rfl) ?_
  refine lv_iload_n hx hb dL_law_201 rfl (lv_at hl 0 rfl) ?_
  refine lv_iconst (v := 2) hx hb dL_law_202 (by decide) ?_
  refine lv_iadd hx hb dL_law_203 ?_
  refine va_sld hx hb hXs hbl hbA hS hj2 dL_law_204 ?_
  rw [ez2]
  refine lw_call (g := mX6_type) (k := 56) (ci := 6) (T := TX6) (N := 29) (idx := 17) (n := 2) (as := [vI z1, vI z2]) (rest := [vI x]) (ad := ad) (cA := cA) (D := E) hX dL_law_205 wm_255 mo_X6_type rfl rfl rfl ⟨Nat.le_of_ble_eq_true rfl, Nat.le_of_ble_eq_true rfl⟩ (Nat.le_of_ble_eq_true rfl) hl.1 (cVs_c (show cV (vR 56) from trivial) (cVs_c hz1 (cVs_c hz2 cVs_nil))) hcd hP hS hct2 (fun r F H locs hok hcd hq hP hS => ?_)
  obtain ⟨y, rfl, hyc⟩ : ∃ z, r = some (vI z) ∧ c32 z := hok
  obtain ⟨hyx, hR⟩ := hq2 _ _ hq
  have hyx := vIj hyx
  subst hyx
  refine W.eq (g2 := F0 m 208 ls [.int (Int32.ofInt y), .int (Int32.ofInt y)]) rfl ?_
  exact lv_icmp_eq (tgt := 1161) hx hb dL_law_208 (by decide) (fun _ => kk _ _ _ ⟨hR, hcd, hP, hS⟩) (fun hne => absurd rfl hne)
set_option maxHeartbeats 4000000 in
set_option maxRecDepth 100000 in
theorem lc_1 {p : Program} {l : Launch} {e : Env} {s : State} {m : MethodId} {below : List Frame} {meth : Method} {c : Code} {H : Heap} {locs : List Loc} {ls : Array Slot} {dC : Nat → ClassId} {dI : Nat → Nat → Nat} {b L i : Nat} {xs : Nat → Int32} {ad : Nat → Nat} {cA : Nat → ClassId} {D : HP} (hX : LX p s m meth c dC dI b L xs ad cA) (hi : i + 6 ≤ L) (hl : lv_has ls 4 [(3, .int (nI i)), (2, .ref (ad 56)), (1, .ref (ad 0)), (0, .ref b)]) (hDn : LDn s dC dI ad cA D H locs) (kk : ∀ (D : HP) (H : Heap) (locs : List Loc), LDn s dC dI ad cA D H locs → W p l e room_1 s m #[Value.ref b] below meth c H locs 80 2717 (lw_Z below #[Value.ref b] s) (F0 m 1161 ls [])) : W p l e room_1 s m #[Value.ref b] below meth c H locs 80 2717 (lw_Z below #[Value.ref b] s) (F0 m 213 ls []) := by
  obtain ⟨⟨hx, hb, hr, hml, hown, hts, hXs, hbl, hlocks, hgv⟩, hGA, hAd, hK, hL⟩ := id hX
  obtain ⟨hR, hcd, hP, hS⟩ := hDn
  have hbA : ¬ (fun q : Nat => s.heap.size ≤ q) b := Nat.not_le.mpr hbl
  have hj1 : vp_in (nI i + 1) L := lw_in (j := 1) (by omega) hL
  obtain ⟨z1, hz1, ez1⟩ := lw_z (xs (nI i + 1).toNatClampNeg)
  refine lv_aload_n hx hb dL_law_213 rfl (lv_at hl 2 rfl) ?_
  refine lv_aload_n hx hb dL_law_214 rfl (lv_at hl 3 rfl) ?_
  refine lv_iload_n hx hb dL_law_215 rfl (lv_at hl 0 rfl) ?_
  refine lv_iconst (v := 1) hx hb dL_law_216 (by decide) ?_
  refine lv_iadd hx hb dL_law_217 ?_
  refine va_sld hx hb hXs hbl hbA hS hj1 dL_law_218 ?_
  rw [ez1]
  obtain ⟨Q1, hct, hq1⟩ := st_wipe hR z1
  refine lw_call (g := mX5_wipe) (k := 0) (ci := 5) (T := TX5) (N := 13) (idx := 18) (n := 1) (as := [vI z1]) (rest := []) (ad := ad) (cA := cA) (D := D) hX dL_law_219 wm_265 mo_X5_wipe rfl rfl rfl ⟨Nat.le_of_ble_eq_true rfl, Nat.le_of_ble_eq_true rfl⟩ (Nat.le_of_ble_eq_true rfl) hl.1 (cVs_c (show cV (vR 0) from trivial) (cVs_c hz1 cVs_nil)) hcd hP hS hct (fun r E H locs hok hcd hq hP hS => ?_)
  obtain ⟨x, rfl, hxc⟩ : ∃ z, r = some (vI z) ∧ c32 z := hok
  refine W.eq (g2 := F0 m 222 ls [.int (Int32.ofInt x)]) rfl ?_
  obtain ⟨Q2, hct2, hq2⟩ := hq1 _ _ hq
  refine lv_aload_n hx hb dL_law_222 rfl (lv_at hl 1 rfl) ?_
  refine lv_aload_n hx hb dL_law_223 rfl (lv_at hl 3 rfl) ?_
  refine lv_iload_n hx hb dL_law_224 rfl (lv_at hl 0 rfl) ?_
  refine lv_iconst (v := 1) hx hb dL_law_225 (by decide) ?_
  refine lv_iadd hx hb dL_law_226 ?_
  refine va_sld hx hb hXs hbl hbA hS hj1 dL_law_227 ?_
  rw [ez1]
  refine lw_call (g := mX6_wipe) (k := 56) (ci := 6) (T := TX6) (N := 29) (idx := 22) (n := 1) (as := [vI z1]) (rest := [vI x]) (ad := ad) (cA := cA) (D := E) hX dL_law_228 wm_274 mo_X6_wipe rfl rfl rfl ⟨Nat.le_of_ble_eq_true rfl, Nat.le_of_ble_eq_true rfl⟩ (Nat.le_of_ble_eq_true rfl) hl.1 (cVs_c (show cV (vR 56) from trivial) (cVs_c hz1 cVs_nil)) hcd hP hS hct2 (fun r F H locs hok hcd hq hP hS => ?_)
  obtain ⟨y, rfl, hyc⟩ : ∃ z, r = some (vI z) ∧ c32 z := hok
  obtain ⟨hyx, hR⟩ := hq2 _ _ hq
  have hyx := vIj hyx
  subst hyx
  refine W.eq (g2 := F0 m 231 ls [.int (Int32.ofInt y), .int (Int32.ofInt y)]) rfl ?_
  exact lv_icmp_eq (tgt := 1161) hx hb dL_law_231 (by decide) (fun _ => kk _ _ _ ⟨hR, hcd, hP, hS⟩) (fun hne => absurd rfl hne)
set_option maxHeartbeats 4000000 in
set_option maxRecDepth 100000 in
theorem lc_2 {p : Program} {l : Launch} {e : Env} {s : State} {m : MethodId} {below : List Frame} {meth : Method} {c : Code} {H : Heap} {locs : List Loc} {ls : Array Slot} {dC : Nat → ClassId} {dI : Nat → Nat → Nat} {b L i : Nat} {xs : Nat → Int32} {ad : Nat → Nat} {cA : Nat → ClassId} {D : HP} (hX : LX p s m meth c dC dI b L xs ad cA) (hi : i + 6 ≤ L) (hl : lv_has ls 4 [(3, .int (nI i)), (2, .ref (ad 56)), (1, .ref (ad 0)), (0, .ref b)]) (hDn : LDn s dC dI ad cA D H locs) (kk : ∀ (D : HP) (H : Heap) (locs : List Loc), LDn s dC dI ad cA D H locs → W p l e room_1 s m #[Value.ref b] below meth c H locs 80 2717 (lw_Z below #[Value.ref b] s) (F0 m 1161 ls [])) : W p l e room_1 s m #[Value.ref b] below meth c H locs 80 2717 (lw_Z below #[Value.ref b] s) (F0 m 236 ls []) := by
  obtain ⟨⟨hx, hb, hr, hml, hown, hts, hXs, hbl, hlocks, hgv⟩, hGA, hAd, hK, hL⟩ := id hX
  obtain ⟨hR, hcd, hP, hS⟩ := hDn
  have hbA : ¬ (fun q : Nat => s.heap.size ≤ q) b := Nat.not_le.mpr hbl
  have hj1 : vp_in (nI i + 1) L := lw_in (j := 1) (by omega) hL
  obtain ⟨z1, hz1, ez1⟩ := lw_z (xs (nI i + 1).toNatClampNeg)
  refine lv_aload_n hx hb dL_law_236 rfl (lv_at hl 2 rfl) ?_
  refine lv_aload_n hx hb dL_law_237 rfl (lv_at hl 3 rfl) ?_
  refine lv_iload_n hx hb dL_law_238 rfl (lv_at hl 0 rfl) ?_
  refine lv_iconst (v := 1) hx hb dL_law_239 (by decide) ?_
  refine lv_iadd hx hb dL_law_240 ?_
  refine va_sld hx hb hXs hbl hbA hS hj1 dL_law_241 ?_
  rw [ez1]
  obtain ⟨Q1, hct, hq1⟩ := st_undo hR z1
  refine lw_call (g := mX5_undo) (k := 0) (ci := 5) (T := TX5) (N := 13) (idx := 23) (n := 1) (as := [vI z1]) (rest := []) (ad := ad) (cA := cA) (D := D) hX dL_law_242 wm_278 mo_X5_undo rfl rfl rfl ⟨Nat.le_of_ble_eq_true rfl, Nat.le_of_ble_eq_true rfl⟩ (Nat.le_of_ble_eq_true rfl) hl.1 (cVs_c (show cV (vR 0) from trivial) (cVs_c hz1 cVs_nil)) hcd hP hS hct (fun r E H locs hok hcd hq hP hS => ?_)
  obtain ⟨x, rfl, hxc⟩ : ∃ z, r = some (vI z) ∧ c32 z := hok
  refine W.eq (g2 := F0 m 245 ls [.int (Int32.ofInt x)]) rfl ?_
  obtain ⟨Q2, hct2, hq2⟩ := hq1 _ _ hq
  refine lv_aload_n hx hb dL_law_245 rfl (lv_at hl 1 rfl) ?_
  refine lv_aload_n hx hb dL_law_246 rfl (lv_at hl 3 rfl) ?_
  refine lv_iload_n hx hb dL_law_247 rfl (lv_at hl 0 rfl) ?_
  refine lv_iconst (v := 1) hx hb dL_law_248 (by decide) ?_
  refine lv_iadd hx hb dL_law_249 ?_
  refine va_sld hx hb hXs hbl hbA hS hj1 dL_law_250 ?_
  rw [ez1]
  refine lw_call (g := mX6_undo) (k := 56) (ci := 6) (T := TX6) (N := 29) (idx := 26) (n := 1) (as := [vI z1]) (rest := [vI x]) (ad := ad) (cA := cA) (D := E) hX dL_law_251 wm_282 mo_X6_undo rfl rfl rfl ⟨Nat.le_of_ble_eq_true rfl, Nat.le_of_ble_eq_true rfl⟩ (Nat.le_of_ble_eq_true rfl) hl.1 (cVs_c (show cV (vR 56) from trivial) (cVs_c hz1 cVs_nil)) hcd hP hS hct2 (fun r F H locs hok hcd hq hP hS => ?_)
  obtain ⟨y, rfl, hyc⟩ : ∃ z, r = some (vI z) ∧ c32 z := hok
  obtain ⟨hyx, hR⟩ := hq2 _ _ hq
  have hyx := vIj hyx
  subst hyx
  refine W.eq (g2 := F0 m 254 ls [.int (Int32.ofInt y), .int (Int32.ofInt y)]) rfl ?_
  exact lv_icmp_eq (tgt := 1161) hx hb dL_law_254 (by decide) (fun _ => kk _ _ _ ⟨hR, hcd, hP, hS⟩) (fun hne => absurd rfl hne)
set_option maxHeartbeats 4000000 in
set_option maxRecDepth 100000 in
theorem lc_3 {p : Program} {l : Launch} {e : Env} {s : State} {m : MethodId} {below : List Frame} {meth : Method} {c : Code} {H : Heap} {locs : List Loc} {ls : Array Slot} {dC : Nat → ClassId} {dI : Nat → Nat → Nat} {b L i : Nat} {xs : Nat → Int32} {ad : Nat → Nat} {cA : Nat → ClassId} {D : HP} (hX : LX p s m meth c dC dI b L xs ad cA) (hi : i + 6 ≤ L) (hl : lv_has ls 4 [(3, .int (nI i)), (2, .ref (ad 56)), (1, .ref (ad 0)), (0, .ref b)]) (hDn : LDn s dC dI ad cA D H locs) (kk : ∀ (D : HP) (H : Heap) (locs : List Loc), LDn s dC dI ad cA D H locs → W p l e room_1 s m #[Value.ref b] below meth c H locs 80 2717 (lw_Z below #[Value.ref b] s) (F0 m 1161 ls [])) : W p l e room_1 s m #[Value.ref b] below meth c H locs 80 2717 (lw_Z below #[Value.ref b] s) (F0 m 259 ls []) := by
  obtain ⟨⟨hx, hb, hr, hml, hown, hts, hXs, hbl, hlocks, hgv⟩, hGA, hAd, hK, hL⟩ := id hX
  obtain ⟨hR, hcd, hP, hS⟩ := hDn
  have hbA : ¬ (fun q : Nat => s.heap.size ≤ q) b := Nat.not_le.mpr hbl
  have hj1 : vp_in (nI i + 1) L := lw_in (j := 1) (by omega) hL
  obtain ⟨z1, hz1, ez1⟩ := lw_z (xs (nI i + 1).toNatClampNeg)
  refine lv_aload_n hx hb dL_law_259 rfl (lv_at hl 2 rfl) ?_
  refine lv_aload_n hx hb dL_law_260 rfl (lv_at hl 3 rfl) ?_
  refine lv_iload_n hx hb dL_law_261 rfl (lv_at hl 0 rfl) ?_
  refine lv_iconst (v := 1) hx hb dL_law_262 (by decide) ?_
  refine lv_iadd hx hb dL_law_263 ?_
  refine va_sld hx hb hXs hbl hbA hS hj1 dL_law_264 ?_
  rw [ez1]
  obtain ⟨Q1, hct, hq1⟩ := st_fault hR z1
  refine lw_call (g := mX5_fault) (k := 0) (ci := 5) (T := TX5) (N := 13) (idx := 27) (n := 1) (as := [vI z1]) (rest := []) (ad := ad) (cA := cA) (D := D) hX dL_law_265 wm_286 mo_X5_fault rfl rfl rfl ⟨Nat.le_of_ble_eq_true rfl, Nat.le_of_ble_eq_true rfl⟩ (Nat.le_of_ble_eq_true rfl) hl.1 (cVs_c (show cV (vR 0) from trivial) (cVs_c hz1 cVs_nil)) hcd hP hS hct (fun r E H locs hok hcd hq hP hS => ?_)
  obtain ⟨x, rfl, hxc⟩ : ∃ z, r = some (vI z) ∧ c32 z := hok
  refine W.eq (g2 := F0 m 268 ls [.int (Int32.ofInt x)]) rfl ?_
  obtain ⟨Q2, hct2, hq2⟩ := hq1 _ _ hq
  refine lv_aload_n hx hb dL_law_268 rfl (lv_at hl 1 rfl) ?_
  refine lv_aload_n hx hb dL_law_269 rfl (lv_at hl 3 rfl) ?_
  refine lv_iload_n hx hb dL_law_270 rfl (lv_at hl 0 rfl) ?_
  refine lv_iconst (v := 1) hx hb dL_law_271 (by decide) ?_
  refine lv_iadd hx hb dL_law_272 ?_
  refine va_sld hx hb hXs hbl hbA hS hj1 dL_law_273 ?_
  rw [ez1]
  refine lw_call (g := mX6_fault) (k := 56) (ci := 6) (T := TX6) (N := 29) (idx := 30) (n := 1) (as := [vI z1]) (rest := [vI x]) (ad := ad) (cA := cA) (D := E) hX dL_law_274 wm_290 mo_X6_fault rfl rfl rfl ⟨Nat.le_of_ble_eq_true rfl, Nat.le_of_ble_eq_true rfl⟩ (Nat.le_of_ble_eq_true rfl) hl.1 (cVs_c (show cV (vR 56) from trivial) (cVs_c hz1 cVs_nil)) hcd hP hS hct2 (fun r F H locs hok hcd hq hP hS => ?_)
  obtain ⟨y, rfl, hyc⟩ : ∃ z, r = some (vI z) ∧ c32 z := hok
  obtain ⟨hyx, hR⟩ := hq2 _ _ hq
  have hyx := vIj hyx
  subst hyx
  refine W.eq (g2 := F0 m 277 ls [.int (Int32.ofInt y), .int (Int32.ofInt y)]) rfl ?_
  exact lv_icmp_eq (tgt := 1161) hx hb dL_law_277 (by decide) (fun _ => kk _ _ _ ⟨hR, hcd, hP, hS⟩) (fun hne => absurd rfl hne)
set_option maxHeartbeats 4000000 in
set_option maxRecDepth 100000 in
theorem lc_4 {p : Program} {l : Launch} {e : Env} {s : State} {m : MethodId} {below : List Frame} {meth : Method} {c : Code} {H : Heap} {locs : List Loc} {ls : Array Slot} {dC : Nat → ClassId} {dI : Nat → Nat → Nat} {b L i : Nat} {xs : Nat → Int32} {ad : Nat → Nat} {cA : Nat → ClassId} {D : HP} (hX : LX p s m meth c dC dI b L xs ad cA) (hi : i + 6 ≤ L) (hl : lv_has ls 4 [(3, .int (nI i)), (2, .ref (ad 56)), (1, .ref (ad 0)), (0, .ref b)]) (hDn : LDn s dC dI ad cA D H locs) (kk : ∀ (D : HP) (H : Heap) (locs : List Loc), LDn s dC dI ad cA D H locs → W p l e room_1 s m #[Value.ref b] below meth c H locs 80 2717 (lw_Z below #[Value.ref b] s) (F0 m 1161 ls [])) : W p l e room_1 s m #[Value.ref b] below meth c H locs 80 2717 (lw_Z below #[Value.ref b] s) (F0 m 282 ls []) := by
  obtain ⟨⟨hx, hb, hr, hml, hown, hts, hXs, hbl, hlocks, hgv⟩, hGA, hAd, hK, hL⟩ := id hX
  obtain ⟨hR, hcd, hP, hS⟩ := hDn
  have hbA : ¬ (fun q : Nat => s.heap.size ≤ q) b := Nat.not_le.mpr hbl
  have hj1 : vp_in (nI i + 1) L := lw_in (j := 1) (by omega) hL
  obtain ⟨z1, hz1, ez1⟩ := lw_z (xs (nI i + 1).toNatClampNeg)
  refine lv_aload_n hx hb dL_law_282 rfl (lv_at hl 2 rfl) ?_
  refine lv_aload_n hx hb dL_law_283 rfl (lv_at hl 3 rfl) ?_
  refine lv_iload_n hx hb dL_law_284 rfl (lv_at hl 0 rfl) ?_
  refine lv_iconst (v := 1) hx hb dL_law_285 (by decide) ?_
  refine lv_iadd hx hb dL_law_286 ?_
  refine va_sld hx hb hXs hbl hbA hS hj1 dL_law_287 ?_
  rw [ez1]
  obtain ⟨Q1, hct, hq1⟩ := st_cell hR z1
  refine lw_call (g := mX5_cell) (k := 0) (ci := 5) (T := TX5) (N := 13) (idx := 31) (n := 1) (as := [vI z1]) (rest := []) (ad := ad) (cA := cA) (D := D) hX dL_law_288 wm_329 mo_X5_cell rfl rfl rfl ⟨Nat.le_of_ble_eq_true rfl, Nat.le_of_ble_eq_true rfl⟩ (Nat.le_of_ble_eq_true rfl) hl.1 (cVs_c (show cV (vR 0) from trivial) (cVs_c hz1 cVs_nil)) hcd hP hS hct (fun r E H locs hok hcd hq hP hS => ?_)
  obtain ⟨x, rfl, hxc⟩ : ∃ z, r = some (vI z) ∧ c32 z := hok
  refine W.eq (g2 := F0 m 291 ls [.int (Int32.ofInt x)]) rfl ?_
  obtain ⟨Q2, hct2, hq2⟩ := hq1 _ _ hq
  refine lv_aload_n hx hb dL_law_291 rfl (lv_at hl 1 rfl) ?_
  refine lv_aload_n hx hb dL_law_292 rfl (lv_at hl 3 rfl) ?_
  refine lv_iload_n hx hb dL_law_293 rfl (lv_at hl 0 rfl) ?_
  refine lv_iconst (v := 1) hx hb dL_law_294 (by decide) ?_
  refine lv_iadd hx hb dL_law_295 ?_
  refine va_sld hx hb hXs hbl hbA hS hj1 dL_law_296 ?_
  rw [ez1]
  refine lw_call (g := mX6_cell) (k := 56) (ci := 6) (T := TX6) (N := 29) (idx := 34) (n := 1) (as := [vI z1]) (rest := [vI x]) (ad := ad) (cA := cA) (D := E) hX dL_law_297 wm_335 mo_X6_cell rfl rfl rfl ⟨Nat.le_of_ble_eq_true rfl, Nat.le_of_ble_eq_true rfl⟩ (Nat.le_of_ble_eq_true rfl) hl.1 (cVs_c (show cV (vR 56) from trivial) (cVs_c hz1 cVs_nil)) hcd hP hS hct2 (fun r F H locs hok hcd hq hP hS => ?_)
  obtain ⟨y, rfl, hyc⟩ : ∃ z, r = some (vI z) ∧ c32 z := hok
  obtain ⟨hyx, hR⟩ := hq2 _ _ hq
  have hyx := vIj hyx
  subst hyx
  refine W.eq (g2 := F0 m 300 ls [.int (Int32.ofInt y), .int (Int32.ofInt y)]) rfl ?_
  exact lv_icmp_eq (tgt := 1161) hx hb dL_law_300 (by decide) (fun _ => kk _ _ _ ⟨hR, hcd, hP, hS⟩) (fun hne => absurd rfl hne)
set_option maxHeartbeats 4000000 in
set_option maxRecDepth 100000 in
theorem lc_5 {p : Program} {l : Launch} {e : Env} {s : State} {m : MethodId} {below : List Frame} {meth : Method} {c : Code} {H : Heap} {locs : List Loc} {ls : Array Slot} {dC : Nat → ClassId} {dI : Nat → Nat → Nat} {b L i : Nat} {xs : Nat → Int32} {ad : Nat → Nat} {cA : Nat → ClassId} {D : HP} (hX : LX p s m meth c dC dI b L xs ad cA) (hi : i + 6 ≤ L) (hl : lv_has ls 4 [(3, .int (nI i)), (2, .ref (ad 56)), (1, .ref (ad 0)), (0, .ref b)]) (hDn : LDn s dC dI ad cA D H locs) (kk : ∀ (D : HP) (H : Heap) (locs : List Loc), LDn s dC dI ad cA D H locs → W p l e room_1 s m #[Value.ref b] below meth c H locs 80 2717 (lw_Z below #[Value.ref b] s) (F0 m 1161 ls [])) : W p l e room_1 s m #[Value.ref b] below meth c H locs 80 2717 (lw_Z below #[Value.ref b] s) (F0 m 305 ls []) := by
  obtain ⟨⟨hx, hb, hr, hml, hown, hts, hXs, hbl, hlocks, hgv⟩, hGA, hAd, hK, hL⟩ := id hX
  obtain ⟨hR, hcd, hP, hS⟩ := hDn
  have hbA : ¬ (fun q : Nat => s.heap.size ≤ q) b := Nat.not_le.mpr hbl
  have hj1 : vp_in (nI i + 1) L := lw_in (j := 1) (by omega) hL
  obtain ⟨z1, hz1, ez1⟩ := lw_z (xs (nI i + 1).toNatClampNeg)
  have hj2 : vp_in (nI i + 2) L := lw_in (j := 2) (by omega) hL
  obtain ⟨z2, hz2, ez2⟩ := lw_z (xs (nI i + 2).toNatClampNeg)
  refine lv_aload_n hx hb dL_law_305 rfl (lv_at hl 2 rfl) ?_
  refine lv_aload_n hx hb dL_law_306 rfl (lv_at hl 3 rfl) ?_
  refine lv_iload_n hx hb dL_law_307 rfl (lv_at hl 0 rfl) ?_
  refine lv_iconst (v := 1) hx hb dL_law_308 (by decide) ?_
  refine lv_iadd hx hb dL_law_309 ?_
  refine va_sld hx hb hXs hbl hbA hS hj1 dL_law_310 ?_
  rw [ez1]
  refine lv_aload_n hx hb dL_law_311 rfl (lv_at hl 3 rfl) ?_
  refine lv_iload_n hx hb dL_law_312 rfl (lv_at hl 0 rfl) ?_
  refine lv_iconst (v := 2) hx hb dL_law_313 (by decide) ?_
  refine lv_iadd hx hb dL_law_314 ?_
  refine va_sld hx hb hXs hbl hbA hS hj2 dL_law_315 ?_
  rw [ez2]
  obtain ⟨Q1, hct, hq1⟩ := st_gust hR z1 z2
  refine lw_call (g := mX5_gust) (k := 0) (ci := 5) (T := TX5) (N := 13) (idx := 35) (n := 2) (as := [vI z1, vI z2]) (rest := []) (ad := ad) (cA := cA) (D := D) hX dL_law_316 wm_347 mo_X5_gust rfl rfl rfl ⟨Nat.le_of_ble_eq_true rfl, Nat.le_of_ble_eq_true rfl⟩ (Nat.le_of_ble_eq_true rfl) hl.1 (cVs_c (show cV (vR 0) from trivial) (cVs_c hz1 (cVs_c hz2 cVs_nil))) hcd hP hS hct (fun r E H locs hok hcd hq hP hS => ?_)
  obtain ⟨x, rfl, hxc⟩ : ∃ z, r = some (vI z) ∧ c32 z := hok
  refine W.eq (g2 := F0 m 319 ls [.int (Int32.ofInt x)]) rfl ?_
  obtain ⟨Q2, hct2, hq2⟩ := hq1 _ _ hq
  refine lv_aload_n hx hb dL_law_319 rfl (lv_at hl 1 rfl) ?_
  refine lv_aload_n hx hb dL_law_320 rfl (lv_at hl 3 rfl) ?_
  refine lv_iload_n hx hb dL_law_321 rfl (lv_at hl 0 rfl) ?_
  refine lv_iconst (v := 1) hx hb dL_law_322 (by decide) ?_
  refine lv_iadd hx hb dL_law_323 ?_
  refine va_sld hx hb hXs hbl hbA hS hj1 dL_law_324 ?_
  rw [ez1]
  refine lv_aload_n hx hb dL_law_325 rfl (lv_at hl 3 rfl) ?_
  refine lv_iload_n hx hb dL_law_326 rfl (lv_at hl 0 rfl) ?_
  refine lv_iconst (v := 2) hx hb dL_law_327 (by decide) ?_
  refine lv_iadd hx hb dL_law_328 ?_
  refine va_sld hx hb hXs hbl hbA hS hj2 dL_law_329 ?_
  rw [ez2]
  refine lw_call (g := mX6_gust) (k := 56) (ci := 6) (T := TX6) (N := 29) (idx := 38) (n := 2) (as := [vI z1, vI z2]) (rest := [vI x]) (ad := ad) (cA := cA) (D := E) hX dL_law_330 wm_358 mo_X6_gust rfl rfl rfl ⟨Nat.le_of_ble_eq_true rfl, Nat.le_of_ble_eq_true rfl⟩ (Nat.le_of_ble_eq_true rfl) hl.1 (cVs_c (show cV (vR 56) from trivial) (cVs_c hz1 (cVs_c hz2 cVs_nil))) hcd hP hS hct2 (fun r F H locs hok hcd hq hP hS => ?_)
  obtain ⟨y, rfl, hyc⟩ : ∃ z, r = some (vI z) ∧ c32 z := hok
  obtain ⟨hyx, hR⟩ := hq2 _ _ hq
  have hyx := vIj hyx
  subst hyx
  refine W.eq (g2 := F0 m 333 ls [.int (Int32.ofInt y), .int (Int32.ofInt y)]) rfl ?_
  exact lv_icmp_eq (tgt := 1161) hx hb dL_law_333 (by decide) (fun _ => kk _ _ _ ⟨hR, hcd, hP, hS⟩) (fun hne => absurd rfl hne)
set_option maxHeartbeats 4000000 in
set_option maxRecDepth 100000 in
theorem lc_6 {p : Program} {l : Launch} {e : Env} {s : State} {m : MethodId} {below : List Frame} {meth : Method} {c : Code} {H : Heap} {locs : List Loc} {ls : Array Slot} {dC : Nat → ClassId} {dI : Nat → Nat → Nat} {b L i : Nat} {xs : Nat → Int32} {ad : Nat → Nat} {cA : Nat → ClassId} {D : HP} (hX : LX p s m meth c dC dI b L xs ad cA) (hi : i + 6 ≤ L) (hl : lv_has ls 4 [(3, .int (nI i)), (2, .ref (ad 56)), (1, .ref (ad 0)), (0, .ref b)]) (hDn : LDn s dC dI ad cA D H locs) (kk : ∀ (D : HP) (H : Heap) (locs : List Loc), LDn s dC dI ad cA D H locs → W p l e room_1 s m #[Value.ref b] below meth c H locs 80 2717 (lw_Z below #[Value.ref b] s) (F0 m 1161 ls [])) : W p l e room_1 s m #[Value.ref b] below meth c H locs 80 2717 (lw_Z below #[Value.ref b] s) (F0 m 338 ls []) := by
  obtain ⟨⟨hx, hb, hr, hml, hown, hts, hXs, hbl, hlocks, hgv⟩, hGA, hAd, hK, hL⟩ := id hX
  obtain ⟨hR, hcd, hP, hS⟩ := hDn
  have hbA : ¬ (fun q : Nat => s.heap.size ≤ q) b := Nat.not_le.mpr hbl
  have hj1 : vp_in (nI i + 1) L := lw_in (j := 1) (by omega) hL
  obtain ⟨z1, hz1, ez1⟩ := lw_z (xs (nI i + 1).toNatClampNeg)
  have hj2 : vp_in (nI i + 2) L := lw_in (j := 2) (by omega) hL
  obtain ⟨z2, hz2, ez2⟩ := lw_z (xs (nI i + 2).toNatClampNeg)
  refine lv_aload_n hx hb dL_law_338 rfl (lv_at hl 2 rfl) ?_
  refine lv_aload_n hx hb dL_law_339 rfl (lv_at hl 3 rfl) ?_
  refine lv_iload_n hx hb dL_law_340 rfl (lv_at hl 0 rfl) ?_
  refine lv_iconst (v := 1) hx hb dL_law_341 (by decide) ?_
  refine lv_iadd hx hb dL_law_342 ?_
  refine va_sld hx hb hXs hbl hbA hS hj1 dL_law_343 ?_
  rw [ez1]
  refine lv_aload_n hx hb dL_law_344 rfl (lv_at hl 3 rfl) ?_
  refine lv_iload_n hx hb dL_law_345 rfl (lv_at hl 0 rfl) ?_
  refine lv_iconst (v := 2) hx hb dL_law_346 (by decide) ?_
  refine lv_iadd hx hb dL_law_347 ?_
  refine va_sld hx hb hXs hbl hbA hS hj2 dL_law_348 ?_
  rw [ez2]
  obtain ⟨Q1, hct, hq1⟩ := st_candidate hR z1 z2
  refine lw_call (g := mX5_candidate) (k := 0) (ci := 5) (T := TX5) (N := 13) (idx := 39) (n := 2) (as := [vI z1, vI z2]) (rest := []) (ad := ad) (cA := cA) (D := D) hX dL_law_349 wm_366 mo_X5_candidate rfl rfl rfl ⟨Nat.le_of_ble_eq_true rfl, Nat.le_of_ble_eq_true rfl⟩ (Nat.le_of_ble_eq_true rfl) hl.1 (cVs_c (show cV (vR 0) from trivial) (cVs_c hz1 (cVs_c hz2 cVs_nil))) hcd hP hS hct (fun r E H locs hok hcd hq hP hS => ?_)
  obtain ⟨x, rfl, hxc⟩ : ∃ z, r = some (vI z) ∧ c32 z := hok
  refine W.eq (g2 := F0 m 352 ls [.int (Int32.ofInt x)]) rfl ?_
  obtain ⟨Q2, hct2, hq2⟩ := hq1 _ _ hq
  refine lv_aload_n hx hb dL_law_352 rfl (lv_at hl 1 rfl) ?_
  refine lv_aload_n hx hb dL_law_353 rfl (lv_at hl 3 rfl) ?_
  refine lv_iload_n hx hb dL_law_354 rfl (lv_at hl 0 rfl) ?_
  refine lv_iconst (v := 1) hx hb dL_law_355 (by decide) ?_
  refine lv_iadd hx hb dL_law_356 ?_
  refine va_sld hx hb hXs hbl hbA hS hj1 dL_law_357 ?_
  rw [ez1]
  refine lv_aload_n hx hb dL_law_358 rfl (lv_at hl 3 rfl) ?_
  refine lv_iload_n hx hb dL_law_359 rfl (lv_at hl 0 rfl) ?_
  refine lv_iconst (v := 2) hx hb dL_law_360 (by decide) ?_
  refine lv_iadd hx hb dL_law_361 ?_
  refine va_sld hx hb hXs hbl hbA hS hj2 dL_law_362 ?_
  rw [ez2]
  refine lw_call (g := mX6_candidate) (k := 56) (ci := 6) (T := TX6) (N := 29) (idx := 42) (n := 2) (as := [vI z1, vI z2]) (rest := [vI x]) (ad := ad) (cA := cA) (D := E) hX dL_law_363 wm_382 mo_X6_candidate rfl rfl rfl ⟨Nat.le_of_ble_eq_true rfl, Nat.le_of_ble_eq_true rfl⟩ (Nat.le_of_ble_eq_true rfl) hl.1 (cVs_c (show cV (vR 56) from trivial) (cVs_c hz1 (cVs_c hz2 cVs_nil))) hcd hP hS hct2 (fun r F H locs hok hcd hq hP hS => ?_)
  obtain ⟨y, rfl, hyc⟩ : ∃ z, r = some (vI z) ∧ c32 z := hok
  obtain ⟨hyx, hR⟩ := hq2 _ _ hq
  have hyx := vIj hyx
  subst hyx
  refine W.eq (g2 := F0 m 366 ls [.int (Int32.ofInt y), .int (Int32.ofInt y)]) rfl ?_
  exact lv_icmp_eq (tgt := 1161) hx hb dL_law_366 (by decide) (fun _ => kk _ _ _ ⟨hR, hcd, hP, hS⟩) (fun hne => absurd rfl hne)
set_option maxHeartbeats 4000000 in
set_option maxRecDepth 100000 in
theorem lc_7 {p : Program} {l : Launch} {e : Env} {s : State} {m : MethodId} {below : List Frame} {meth : Method} {c : Code} {H : Heap} {locs : List Loc} {ls : Array Slot} {dC : Nat → ClassId} {dI : Nat → Nat → Nat} {b L i : Nat} {xs : Nat → Int32} {ad : Nat → Nat} {cA : Nat → ClassId} {D : HP} (hX : LX p s m meth c dC dI b L xs ad cA) (hi : i + 6 ≤ L) (hl : lv_has ls 4 [(3, .int (nI i)), (2, .ref (ad 56)), (1, .ref (ad 0)), (0, .ref b)]) (hDn : LDn s dC dI ad cA D H locs) (kk : ∀ (D : HP) (H : Heap) (locs : List Loc), LDn s dC dI ad cA D H locs → W p l e room_1 s m #[Value.ref b] below meth c H locs 80 2717 (lw_Z below #[Value.ref b] s) (F0 m 1161 ls [])) : W p l e room_1 s m #[Value.ref b] below meth c H locs 80 2717 (lw_Z below #[Value.ref b] s) (F0 m 371 ls []) := by
  obtain ⟨⟨hx, hb, hr, hml, hown, hts, hXs, hbl, hlocks, hgv⟩, hGA, hAd, hK, hL⟩ := id hX
  obtain ⟨hR, hcd, hP, hS⟩ := hDn
  have hbA : ¬ (fun q : Nat => s.heap.size ≤ q) b := Nat.not_le.mpr hbl
  have hj1 : vp_in (nI i + 1) L := lw_in (j := 1) (by omega) hL
  obtain ⟨z1, hz1, ez1⟩ := lw_z (xs (nI i + 1).toNatClampNeg)
  have hj2 : vp_in (nI i + 2) L := lw_in (j := 2) (by omega) hL
  obtain ⟨z2, hz2, ez2⟩ := lw_z (xs (nI i + 2).toNatClampNeg)
  refine lv_aload_n hx hb dL_law_371 rfl (lv_at hl 2 rfl) ?_
  refine lv_aload_n hx hb dL_law_372 rfl (lv_at hl 3 rfl) ?_
  refine lv_iload_n hx hb dL_law_373 rfl (lv_at hl 0 rfl) ?_
  refine lv_iconst (v := 1) hx hb dL_law_374 (by decide) ?_
  refine lv_iadd hx hb dL_law_375 ?_
  refine va_sld hx hb hXs hbl hbA hS hj1 dL_law_376 ?_
  rw [ez1]
  refine lv_aload_n hx hb dL_law_377 rfl (lv_at hl 3 rfl) ?_
  refine lv_iload_n hx hb dL_law_378 rfl (lv_at hl 0 rfl) ?_
  refine lv_iconst (v := 2) hx hb dL_law_379 (by decide) ?_
  refine lv_iadd hx hb dL_law_380 ?_
  refine va_sld hx hb hXs hbl hbA hS hj2 dL_law_381 ?_
  rw [ez2]
  obtain ⟨Q1, hct, hq1⟩ := st_wind hR z1 z2
  refine lw_call (g := mX5_wind) (k := 0) (ci := 5) (T := TX5) (N := 13) (idx := 43) (n := 2) (as := [vI z1, vI z2]) (rest := []) (ad := ad) (cA := cA) (D := D) hX dL_law_382 wm_398 mo_X5_wind rfl rfl rfl ⟨Nat.le_of_ble_eq_true rfl, Nat.le_of_ble_eq_true rfl⟩ (Nat.le_of_ble_eq_true rfl) hl.1 (cVs_c (show cV (vR 0) from trivial) (cVs_c hz1 (cVs_c hz2 cVs_nil))) hcd hP hS hct (fun r E H locs hok hcd hq hP hS => ?_)
  obtain ⟨x, rfl, hxc⟩ : ∃ z, r = some (vI z) ∧ c32 z := hok
  refine W.eq (g2 := F0 m 385 ls [.int (Int32.ofInt x)]) rfl ?_
  obtain ⟨Q2, hct2, hq2⟩ := hq1 _ _ hq
  refine lv_aload_n hx hb dL_law_385 rfl (lv_at hl 1 rfl) ?_
  refine lv_aload_n hx hb dL_law_386 rfl (lv_at hl 3 rfl) ?_
  refine lv_iload_n hx hb dL_law_387 rfl (lv_at hl 0 rfl) ?_
  refine lv_iconst (v := 1) hx hb dL_law_388 (by decide) ?_
  refine lv_iadd hx hb dL_law_389 ?_
  refine va_sld hx hb hXs hbl hbA hS hj1 dL_law_390 ?_
  rw [ez1]
  refine lv_aload_n hx hb dL_law_391 rfl (lv_at hl 3 rfl) ?_
  refine lv_iload_n hx hb dL_law_392 rfl (lv_at hl 0 rfl) ?_
  refine lv_iconst (v := 2) hx hb dL_law_393 (by decide) ?_
  refine lv_iadd hx hb dL_law_394 ?_
  refine va_sld hx hb hXs hbl hbA hS hj2 dL_law_395 ?_
  rw [ez2]
  refine lw_call (g := mX6_wind) (k := 56) (ci := 6) (T := TX6) (N := 29) (idx := 46) (n := 2) (as := [vI z1, vI z2]) (rest := [vI x]) (ad := ad) (cA := cA) (D := E) hX dL_law_396 wm_403 mo_X6_wind rfl rfl rfl ⟨Nat.le_of_ble_eq_true rfl, Nat.le_of_ble_eq_true rfl⟩ (Nat.le_of_ble_eq_true rfl) hl.1 (cVs_c (show cV (vR 56) from trivial) (cVs_c hz1 (cVs_c hz2 cVs_nil))) hcd hP hS hct2 (fun r F H locs hok hcd hq hP hS => ?_)
  obtain ⟨y, rfl, hyc⟩ : ∃ z, r = some (vI z) ∧ c32 z := hok
  obtain ⟨hyx, hR⟩ := hq2 _ _ hq
  have hyx := vIj hyx
  subst hyx
  refine W.eq (g2 := F0 m 399 ls [.int (Int32.ofInt y), .int (Int32.ofInt y)]) rfl ?_
  exact lv_icmp_eq (tgt := 1161) hx hb dL_law_399 (by decide) (fun _ => kk _ _ _ ⟨hR, hcd, hP, hS⟩) (fun hne => absurd rfl hne)
set_option maxHeartbeats 4000000 in
set_option maxRecDepth 100000 in
theorem lc_8 {p : Program} {l : Launch} {e : Env} {s : State} {m : MethodId} {below : List Frame} {meth : Method} {c : Code} {H : Heap} {locs : List Loc} {ls : Array Slot} {dC : Nat → ClassId} {dI : Nat → Nat → Nat} {b L i : Nat} {xs : Nat → Int32} {ad : Nat → Nat} {cA : Nat → ClassId} {D : HP} (hX : LX p s m meth c dC dI b L xs ad cA) (hi : i + 6 ≤ L) (hl : lv_has ls 4 [(3, .int (nI i)), (2, .ref (ad 56)), (1, .ref (ad 0)), (0, .ref b)]) (hDn : LDn s dC dI ad cA D H locs) (kk : ∀ (D : HP) (H : Heap) (locs : List Loc), LDn s dC dI ad cA D H locs → W p l e room_1 s m #[Value.ref b] below meth c H locs 80 2717 (lw_Z below #[Value.ref b] s) (F0 m 1161 ls [])) : W p l e room_1 s m #[Value.ref b] below meth c H locs 80 2717 (lw_Z below #[Value.ref b] s) (F0 m 404 ls []) := by
  obtain ⟨⟨hx, hb, hr, hml, hown, hts, hXs, hbl, hlocks, hgv⟩, hGA, hAd, hK, hL⟩ := id hX
  obtain ⟨hR, hcd, hP, hS⟩ := hDn
  have hbA : ¬ (fun q : Nat => s.heap.size ≤ q) b := Nat.not_le.mpr hbl
  have hj1 : vp_in (nI i + 1) L := lw_in (j := 1) (by omega) hL
  obtain ⟨z1, hz1, ez1⟩ := lw_z (xs (nI i + 1).toNatClampNeg)
  have hj2 : vp_in (nI i + 2) L := lw_in (j := 2) (by omega) hL
  obtain ⟨z2, hz2, ez2⟩ := lw_z (xs (nI i + 2).toNatClampNeg)
  refine lv_aload_n hx hb dL_law_404 rfl (lv_at hl 2 rfl) ?_
  refine lv_aload_n hx hb dL_law_405 rfl (lv_at hl 3 rfl) ?_
  refine lv_iload_n hx hb dL_law_406 rfl (lv_at hl 0 rfl) ?_
  refine lv_iconst (v := 1) hx hb dL_law_407 (by decide) ?_
  refine lv_iadd hx hb dL_law_408 ?_
  refine va_sld hx hb hXs hbl hbA hS hj1 dL_law_409 ?_
  rw [ez1]
  refine lv_aload_n hx hb dL_law_410 rfl (lv_at hl 3 rfl) ?_
  refine lv_iload_n hx hb dL_law_411 rfl (lv_at hl 0 rfl) ?_
  refine lv_iconst (v := 2) hx hb dL_law_412 (by decide) ?_
  refine lv_iadd hx hb dL_law_413 ?_
  refine va_sld hx hb hXs hbl hbA hS hj2 dL_law_414 ?_
  rw [ez2]
  obtain ⟨Q1, hct, hq1⟩ := st_ribs hR z1 z2
  refine lw_call (g := mX5_ribs) (k := 0) (ci := 5) (T := TX5) (N := 13) (idx := 47) (n := 2) (as := [vI z1, vI z2]) (rest := []) (ad := ad) (cA := cA) (D := D) hX dL_law_415 wm_447 mo_X5_ribs rfl rfl rfl ⟨Nat.le_of_ble_eq_true rfl, Nat.le_of_ble_eq_true rfl⟩ (Nat.le_of_ble_eq_true rfl) hl.1 (cVs_c (show cV (vR 0) from trivial) (cVs_c hz1 (cVs_c hz2 cVs_nil))) hcd hP hS hct (fun r E H locs hok hcd hq hP hS => ?_)
  obtain ⟨x, rfl, hxc⟩ : ∃ z, r = some (vI z) ∧ c32 z := hok
  refine W.eq (g2 := F0 m 418 ls [.int (Int32.ofInt x)]) rfl ?_
  obtain ⟨Q2, hct2, hq2⟩ := hq1 _ _ hq
  refine lv_aload_n hx hb dL_law_418 rfl (lv_at hl 1 rfl) ?_
  refine lv_aload_n hx hb dL_law_419 rfl (lv_at hl 3 rfl) ?_
  refine lv_iload_n hx hb dL_law_420 rfl (lv_at hl 0 rfl) ?_
  refine lv_iconst (v := 1) hx hb dL_law_421 (by decide) ?_
  refine lv_iadd hx hb dL_law_422 ?_
  refine va_sld hx hb hXs hbl hbA hS hj1 dL_law_423 ?_
  rw [ez1]
  refine lv_aload_n hx hb dL_law_424 rfl (lv_at hl 3 rfl) ?_
  refine lv_iload_n hx hb dL_law_425 rfl (lv_at hl 0 rfl) ?_
  refine lv_iconst (v := 2) hx hb dL_law_426 (by decide) ?_
  refine lv_iadd hx hb dL_law_427 ?_
  refine va_sld hx hb hXs hbl hbA hS hj2 dL_law_428 ?_
  rw [ez2]
  refine lw_call (g := mX6_ribs) (k := 56) (ci := 6) (T := TX6) (N := 29) (idx := 50) (n := 2) (as := [vI z1, vI z2]) (rest := [vI x]) (ad := ad) (cA := cA) (D := E) hX dL_law_429 wm_455 mo_X6_ribs rfl rfl rfl ⟨Nat.le_of_ble_eq_true rfl, Nat.le_of_ble_eq_true rfl⟩ (Nat.le_of_ble_eq_true rfl) hl.1 (cVs_c (show cV (vR 56) from trivial) (cVs_c hz1 (cVs_c hz2 cVs_nil))) hcd hP hS hct2 (fun r F H locs hok hcd hq hP hS => ?_)
  obtain ⟨y, rfl, hyc⟩ : ∃ z, r = some (vI z) ∧ c32 z := hok
  obtain ⟨hyx, hR⟩ := hq2 _ _ hq
  have hyx := vIj hyx
  subst hyx
  refine W.eq (g2 := F0 m 432 ls [.int (Int32.ofInt y), .int (Int32.ofInt y)]) rfl ?_
  exact lv_icmp_eq (tgt := 1161) hx hb dL_law_432 (by decide) (fun _ => kk _ _ _ ⟨hR, hcd, hP, hS⟩) (fun hne => absurd rfl hne)
set_option maxHeartbeats 4000000 in
set_option maxRecDepth 100000 in
theorem lc_9 {p : Program} {l : Launch} {e : Env} {s : State} {m : MethodId} {below : List Frame} {meth : Method} {c : Code} {H : Heap} {locs : List Loc} {ls : Array Slot} {dC : Nat → ClassId} {dI : Nat → Nat → Nat} {b L i : Nat} {xs : Nat → Int32} {ad : Nat → Nat} {cA : Nat → ClassId} {D : HP} (hX : LX p s m meth c dC dI b L xs ad cA) (hi : i + 6 ≤ L) (hl : lv_has ls 4 [(3, .int (nI i)), (2, .ref (ad 56)), (1, .ref (ad 0)), (0, .ref b)]) (hDn : LDn s dC dI ad cA D H locs) (kk : ∀ (D : HP) (H : Heap) (locs : List Loc), LDn s dC dI ad cA D H locs → W p l e room_1 s m #[Value.ref b] below meth c H locs 80 2717 (lw_Z below #[Value.ref b] s) (F0 m 1161 ls [])) : W p l e room_1 s m #[Value.ref b] below meth c H locs 80 2717 (lw_Z below #[Value.ref b] s) (F0 m 437 ls []) := by
  obtain ⟨⟨hx, hb, hr, hml, hown, hts, hXs, hbl, hlocks, hgv⟩, hGA, hAd, hK, hL⟩ := id hX
  obtain ⟨hR, hcd, hP, hS⟩ := hDn
  have hbA : ¬ (fun q : Nat => s.heap.size ≤ q) b := Nat.not_le.mpr hbl
  have hj1 : vp_in (nI i + 1) L := lw_in (j := 1) (by omega) hL
  obtain ⟨z1, hz1, ez1⟩ := lw_z (xs (nI i + 1).toNatClampNeg)
  have hj2 : vp_in (nI i + 2) L := lw_in (j := 2) (by omega) hL
  obtain ⟨z2, hz2, ez2⟩ := lw_z (xs (nI i + 2).toNatClampNeg)
  refine lv_aload_n hx hb dL_law_437 rfl (lv_at hl 2 rfl) ?_
  refine lv_aload_n hx hb dL_law_438 rfl (lv_at hl 3 rfl) ?_
  refine lv_iload_n hx hb dL_law_439 rfl (lv_at hl 0 rfl) ?_
  refine lv_iconst (v := 1) hx hb dL_law_440 (by decide) ?_
  refine lv_iadd hx hb dL_law_441 ?_
  refine va_sld hx hb hXs hbl hbA hS hj1 dL_law_442 ?_
  rw [ez1]
  refine lv_aload_n hx hb dL_law_443 rfl (lv_at hl 3 rfl) ?_
  refine lv_iload_n hx hb dL_law_444 rfl (lv_at hl 0 rfl) ?_
  refine lv_iconst (v := 2) hx hb dL_law_445 (by decide) ?_
  refine lv_iadd hx hb dL_law_446 ?_
  refine va_sld hx hb hXs hbl hbA hS hj2 dL_law_447 ?_
  rw [ez2]
  obtain ⟨Q1, hct, hq1⟩ := st_overturns hR z1 z2
  refine lw_call (g := mX5_overturns) (k := 0) (ci := 5) (T := TX5) (N := 13) (idx := 51) (n := 2) (as := [vI z1, vI z2]) (rest := []) (ad := ad) (cA := cA) (D := D) hX dL_law_448 wm_463 mo_X5_overturns rfl rfl rfl ⟨Nat.le_of_ble_eq_true rfl, Nat.le_of_ble_eq_true rfl⟩ (Nat.le_of_ble_eq_true rfl) hl.1 (cVs_c (show cV (vR 0) from trivial) (cVs_c hz1 (cVs_c hz2 cVs_nil))) hcd hP hS hct (fun r E H locs hok hcd hq hP hS => ?_)
  obtain ⟨x, rfl, hxc⟩ : ∃ z, r = some (vI z) ∧ c32 z := hok
  refine W.eq (g2 := F0 m 451 ls [.int (Int32.ofInt x)]) rfl ?_
  obtain ⟨Q2, hct2, hq2⟩ := hq1 _ _ hq
  refine lv_aload_n hx hb dL_law_451 rfl (lv_at hl 1 rfl) ?_
  refine lv_aload_n hx hb dL_law_452 rfl (lv_at hl 3 rfl) ?_
  refine lv_iload_n hx hb dL_law_453 rfl (lv_at hl 0 rfl) ?_
  refine lv_iconst (v := 1) hx hb dL_law_454 (by decide) ?_
  refine lv_iadd hx hb dL_law_455 ?_
  refine va_sld hx hb hXs hbl hbA hS hj1 dL_law_456 ?_
  rw [ez1]
  refine lv_aload_n hx hb dL_law_457 rfl (lv_at hl 3 rfl) ?_
  refine lv_iload_n hx hb dL_law_458 rfl (lv_at hl 0 rfl) ?_
  refine lv_iconst (v := 2) hx hb dL_law_459 (by decide) ?_
  refine lv_iadd hx hb dL_law_460 ?_
  refine va_sld hx hb hXs hbl hbA hS hj2 dL_law_461 ?_
  rw [ez2]
  refine lw_call (g := mX6_overturns) (k := 56) (ci := 6) (T := TX6) (N := 29) (idx := 54) (n := 2) (as := [vI z1, vI z2]) (rest := [vI x]) (ad := ad) (cA := cA) (D := E) hX dL_law_462 wm_488 mo_X6_overturns rfl rfl rfl ⟨Nat.le_of_ble_eq_true rfl, Nat.le_of_ble_eq_true rfl⟩ (Nat.le_of_ble_eq_true rfl) hl.1 (cVs_c (show cV (vR 56) from trivial) (cVs_c hz1 (cVs_c hz2 cVs_nil))) hcd hP hS hct2 (fun r F H locs hok hcd hq hP hS => ?_)
  obtain ⟨y, rfl, hyc⟩ : ∃ z, r = some (vI z) ∧ c32 z := hok
  obtain ⟨hyx, hR⟩ := hq2 _ _ hq
  have hyx := vIj hyx
  subst hyx
  refine W.eq (g2 := F0 m 465 ls [.int (Int32.ofInt y), .int (Int32.ofInt y)]) rfl ?_
  exact lv_icmp_eq (tgt := 1161) hx hb dL_law_465 (by decide) (fun _ => kk _ _ _ ⟨hR, hcd, hP, hS⟩) (fun hne => absurd rfl hne)
set_option maxHeartbeats 4000000 in
set_option maxRecDepth 100000 in
theorem lc_10 {p : Program} {l : Launch} {e : Env} {s : State} {m : MethodId} {below : List Frame} {meth : Method} {c : Code} {H : Heap} {locs : List Loc} {ls : Array Slot} {dC : Nat → ClassId} {dI : Nat → Nat → Nat} {b L i : Nat} {xs : Nat → Int32} {ad : Nat → Nat} {cA : Nat → ClassId} {D : HP} (hX : LX p s m meth c dC dI b L xs ad cA) (hi : i + 6 ≤ L) (hl : lv_has ls 4 [(3, .int (nI i)), (2, .ref (ad 56)), (1, .ref (ad 0)), (0, .ref b)]) (hDn : LDn s dC dI ad cA D H locs) (kk : ∀ (D : HP) (H : Heap) (locs : List Loc), LDn s dC dI ad cA D H locs → W p l e room_1 s m #[Value.ref b] below meth c H locs 80 2717 (lw_Z below #[Value.ref b] s) (F0 m 1161 ls [])) : W p l e room_1 s m #[Value.ref b] below meth c H locs 80 2717 (lw_Z below #[Value.ref b] s) (F0 m 470 ls []) := by
  obtain ⟨⟨hx, hb, hr, hml, hown, hts, hXs, hbl, hlocks, hgv⟩, hGA, hAd, hK, hL⟩ := id hX
  obtain ⟨hR, hcd, hP, hS⟩ := hDn
  have hbA : ¬ (fun q : Nat => s.heap.size ≤ q) b := Nat.not_le.mpr hbl
  have hj1 : vp_in (nI i + 1) L := lw_in (j := 1) (by omega) hL
  obtain ⟨z1, hz1, ez1⟩ := lw_z (xs (nI i + 1).toNatClampNeg)
  refine lv_aload_n hx hb dL_law_470 rfl (lv_at hl 2 rfl) ?_
  refine lv_aload_n hx hb dL_law_471 rfl (lv_at hl 3 rfl) ?_
  refine lv_iload_n hx hb dL_law_472 rfl (lv_at hl 0 rfl) ?_
  refine lv_iconst (v := 1) hx hb dL_law_473 (by decide) ?_
  refine lv_iadd hx hb dL_law_474 ?_
  refine va_sld hx hb hXs hbl hbA hS hj1 dL_law_475 ?_
  rw [ez1]
  obtain ⟨Q1, hct, hq1⟩ := st_in hR z1
  refine lw_call (g := mX5_in) (k := 0) (ci := 5) (T := TX5) (N := 13) (idx := 55) (n := 1) (as := [vI z1]) (rest := []) (ad := ad) (cA := cA) (D := D) hX dL_law_476 wm_496 mo_X5_in rfl rfl rfl ⟨Nat.le_of_ble_eq_true rfl, Nat.le_of_ble_eq_true rfl⟩ (Nat.le_of_ble_eq_true rfl) hl.1 (cVs_c (show cV (vR 0) from trivial) (cVs_c hz1 cVs_nil)) hcd hP hS hct (fun r E H locs hok hcd hq hP hS => ?_)
  obtain ⟨x, rfl, hxc⟩ : ∃ z, r = some (vI z) ∧ c32 z := hok
  refine W.eq (g2 := F0 m 479 ls [.int (Int32.ofInt x)]) rfl ?_
  obtain ⟨Q2, hct2, hq2⟩ := hq1 _ _ hq
  refine lv_aload_n hx hb dL_law_479 rfl (lv_at hl 1 rfl) ?_
  refine lv_aload_n hx hb dL_law_480 rfl (lv_at hl 3 rfl) ?_
  refine lv_iload_n hx hb dL_law_481 rfl (lv_at hl 0 rfl) ?_
  refine lv_iconst (v := 1) hx hb dL_law_482 (by decide) ?_
  refine lv_iadd hx hb dL_law_483 ?_
  refine va_sld hx hb hXs hbl hbA hS hj1 dL_law_484 ?_
  rw [ez1]
  refine lw_call (g := mX6_in) (k := 56) (ci := 6) (T := TX6) (N := 29) (idx := 58) (n := 1) (as := [vI z1]) (rest := [vI x]) (ad := ad) (cA := cA) (D := E) hX dL_law_485 wm_501 mo_X6_in rfl rfl rfl ⟨Nat.le_of_ble_eq_true rfl, Nat.le_of_ble_eq_true rfl⟩ (Nat.le_of_ble_eq_true rfl) hl.1 (cVs_c (show cV (vR 56) from trivial) (cVs_c hz1 cVs_nil)) hcd hP hS hct2 (fun r F H locs hok hcd hq hP hS => ?_)
  obtain ⟨y, rfl, hyc⟩ : ∃ z, r = some (vI z) ∧ c32 z := hok
  obtain ⟨hyx, hR⟩ := hq2 _ _ hq
  have hyx := vIj hyx
  subst hyx
  refine W.eq (g2 := F0 m 488 ls [.int (Int32.ofInt y), .int (Int32.ofInt y)]) rfl ?_
  exact lv_icmp_eq (tgt := 1161) hx hb dL_law_488 (by decide) (fun _ => kk _ _ _ ⟨hR, hcd, hP, hS⟩) (fun hne => absurd rfl hne)
set_option maxHeartbeats 4000000 in
set_option maxRecDepth 100000 in
theorem lc_11 {p : Program} {l : Launch} {e : Env} {s : State} {m : MethodId} {below : List Frame} {meth : Method} {c : Code} {H : Heap} {locs : List Loc} {ls : Array Slot} {dC : Nat → ClassId} {dI : Nat → Nat → Nat} {b L i : Nat} {xs : Nat → Int32} {ad : Nat → Nat} {cA : Nat → ClassId} {D : HP} (hX : LX p s m meth c dC dI b L xs ad cA) (hi : i + 6 ≤ L) (hl : lv_has ls 4 [(3, .int (nI i)), (2, .ref (ad 56)), (1, .ref (ad 0)), (0, .ref b)]) (hDn : LDn s dC dI ad cA D H locs) (kk : ∀ (D : HP) (H : Heap) (locs : List Loc), LDn s dC dI ad cA D H locs → W p l e room_1 s m #[Value.ref b] below meth c H locs 80 2717 (lw_Z below #[Value.ref b] s) (F0 m 1161 ls [])) : W p l e room_1 s m #[Value.ref b] below meth c H locs 80 2717 (lw_Z below #[Value.ref b] s) (F0 m 493 ls []) := by
  obtain ⟨⟨hx, hb, hr, hml, hown, hts, hXs, hbl, hlocks, hgv⟩, hGA, hAd, hK, hL⟩ := id hX
  obtain ⟨hR, hcd, hP, hS⟩ := hDn
  have hbA : ¬ (fun q : Nat => s.heap.size ≤ q) b := Nat.not_le.mpr hbl
  have hj1 : vp_in (nI i + 1) L := lw_in (j := 1) (by omega) hL
  obtain ⟨z1, hz1, ez1⟩ := lw_z (xs (nI i + 1).toNatClampNeg)
  refine lv_aload_n hx hb dL_law_493 rfl (lv_at hl 2 rfl) ?_
  refine lv_aload_n hx hb dL_law_494 rfl (lv_at hl 3 rfl) ?_
  refine lv_iload_n hx hb dL_law_495 rfl (lv_at hl 0 rfl) ?_
  refine lv_iconst (v := 1) hx hb dL_law_496 (by decide) ?_
  refine lv_iadd hx hb dL_law_497 ?_
  refine va_sld hx hb hXs hbl hbA hS hj1 dL_law_498 ?_
  rw [ez1]
  obtain ⟨Q1, hct, hq1⟩ := st_first hR z1
  refine lw_call (g := mX5_first) (k := 0) (ci := 5) (T := TX5) (N := 13) (idx := 59) (n := 1) (as := [vI z1]) (rest := []) (ad := ad) (cA := cA) (D := D) hX dL_law_499 wm_509 mo_X5_first rfl rfl rfl ⟨Nat.le_of_ble_eq_true rfl, Nat.le_of_ble_eq_true rfl⟩ (Nat.le_of_ble_eq_true rfl) hl.1 (cVs_c (show cV (vR 0) from trivial) (cVs_c hz1 cVs_nil)) hcd hP hS hct (fun r E H locs hok hcd hq hP hS => ?_)
  obtain ⟨x, rfl, hxc⟩ : ∃ z, r = some (vI z) ∧ c32 z := hok
  refine W.eq (g2 := F0 m 502 ls [.int (Int32.ofInt x)]) rfl ?_
  obtain ⟨Q2, hct2, hq2⟩ := hq1 _ _ hq
  refine lv_aload_n hx hb dL_law_502 rfl (lv_at hl 1 rfl) ?_
  refine lv_aload_n hx hb dL_law_503 rfl (lv_at hl 3 rfl) ?_
  refine lv_iload_n hx hb dL_law_504 rfl (lv_at hl 0 rfl) ?_
  refine lv_iconst (v := 1) hx hb dL_law_505 (by decide) ?_
  refine lv_iadd hx hb dL_law_506 ?_
  refine va_sld hx hb hXs hbl hbA hS hj1 dL_law_507 ?_
  rw [ez1]
  refine lw_call (g := mX6_first) (k := 56) (ci := 6) (T := TX6) (N := 29) (idx := 62) (n := 1) (as := [vI z1]) (rest := [vI x]) (ad := ad) (cA := cA) (D := E) hX dL_law_508 wm_513 mo_X6_first rfl rfl rfl ⟨Nat.le_of_ble_eq_true rfl, Nat.le_of_ble_eq_true rfl⟩ (Nat.le_of_ble_eq_true rfl) hl.1 (cVs_c (show cV (vR 56) from trivial) (cVs_c hz1 cVs_nil)) hcd hP hS hct2 (fun r F H locs hok hcd hq hP hS => ?_)
  obtain ⟨y, rfl, hyc⟩ : ∃ z, r = some (vI z) ∧ c32 z := hok
  obtain ⟨hyx, hR⟩ := hq2 _ _ hq
  have hyx := vIj hyx
  subst hyx
  refine W.eq (g2 := F0 m 511 ls [.int (Int32.ofInt y), .int (Int32.ofInt y)]) rfl ?_
  exact lv_icmp_eq (tgt := 1161) hx hb dL_law_511 (by decide) (fun _ => kk _ _ _ ⟨hR, hcd, hP, hS⟩) (fun hne => absurd rfl hne)
set_option maxHeartbeats 4000000 in
set_option maxRecDepth 100000 in
theorem lc_12 {p : Program} {l : Launch} {e : Env} {s : State} {m : MethodId} {below : List Frame} {meth : Method} {c : Code} {H : Heap} {locs : List Loc} {ls : Array Slot} {dC : Nat → ClassId} {dI : Nat → Nat → Nat} {b L i : Nat} {xs : Nat → Int32} {ad : Nat → Nat} {cA : Nat → ClassId} {D : HP} (hX : LX p s m meth c dC dI b L xs ad cA) (hi : i + 6 ≤ L) (hl : lv_has ls 4 [(3, .int (nI i)), (2, .ref (ad 56)), (1, .ref (ad 0)), (0, .ref b)]) (hDn : LDn s dC dI ad cA D H locs) (kk : ∀ (D : HP) (H : Heap) (locs : List Loc), LDn s dC dI ad cA D H locs → W p l e room_1 s m #[Value.ref b] below meth c H locs 80 2717 (lw_Z below #[Value.ref b] s) (F0 m 1161 ls [])) : W p l e room_1 s m #[Value.ref b] below meth c H locs 80 2717 (lw_Z below #[Value.ref b] s) (F0 m 516 ls []) := by
  obtain ⟨⟨hx, hb, hr, hml, hown, hts, hXs, hbl, hlocks, hgv⟩, hGA, hAd, hK, hL⟩ := id hX
  obtain ⟨hR, hcd, hP, hS⟩ := hDn
  have hbA : ¬ (fun q : Nat => s.heap.size ≤ q) b := Nat.not_le.mpr hbl
  refine lv_aload_n hx hb dL_law_516 rfl (lv_at hl 2 rfl) ?_
  obtain ⟨Q1, hct, hq1⟩ := st_lulls hR
  refine lw_call (g := mX5_lulls) (k := 0) (ci := 5) (T := TX5) (N := 13) (idx := 63) (n := 0) (as := []) (rest := []) (ad := ad) (cA := cA) (D := D) hX dL_law_517 wm_521 mo_X5_lulls rfl rfl rfl ⟨Nat.le_of_ble_eq_true rfl, Nat.le_of_ble_eq_true rfl⟩ (Nat.le_of_ble_eq_true rfl) hl.1 (cVs_c (show cV (vR 0) from trivial) cVs_nil) hcd hP hS hct (fun r E H locs hok hcd hq hP hS => ?_)
  obtain ⟨x, rfl, hxc⟩ : ∃ z, r = some (vI z) ∧ c32 z := hok
  refine W.eq (g2 := F0 m 520 ls [.int (Int32.ofInt x)]) rfl ?_
  obtain ⟨Q2, hct2, hq2⟩ := hq1 _ _ hq
  refine lv_aload_n hx hb dL_law_520 rfl (lv_at hl 1 rfl) ?_
  refine lw_call (g := mX6_lulls) (k := 56) (ci := 6) (T := TX6) (N := 29) (idx := 67) (n := 0) (as := []) (rest := [vI x]) (ad := ad) (cA := cA) (D := E) hX dL_law_521 wm_525 mo_X6_lulls rfl rfl rfl ⟨Nat.le_of_ble_eq_true rfl, Nat.le_of_ble_eq_true rfl⟩ (Nat.le_of_ble_eq_true rfl) hl.1 (cVs_c (show cV (vR 56) from trivial) cVs_nil) hcd hP hS hct2 (fun r F H locs hok hcd hq hP hS => ?_)
  obtain ⟨y, rfl, hyc⟩ : ∃ z, r = some (vI z) ∧ c32 z := hok
  obtain ⟨hyx, hR⟩ := hq2 _ _ hq
  have hyx := vIj hyx
  subst hyx
  refine W.eq (g2 := F0 m 524 ls [.int (Int32.ofInt y), .int (Int32.ofInt y)]) rfl ?_
  exact lv_icmp_eq (tgt := 1161) hx hb dL_law_524 (by decide) (fun _ => kk _ _ _ ⟨hR, hcd, hP, hS⟩) (fun hne => absurd rfl hne)
set_option maxHeartbeats 4000000 in
set_option maxRecDepth 100000 in
theorem lc_13 {p : Program} {l : Launch} {e : Env} {s : State} {m : MethodId} {below : List Frame} {meth : Method} {c : Code} {H : Heap} {locs : List Loc} {ls : Array Slot} {dC : Nat → ClassId} {dI : Nat → Nat → Nat} {b L i : Nat} {xs : Nat → Int32} {ad : Nat → Nat} {cA : Nat → ClassId} {D : HP} (hX : LX p s m meth c dC dI b L xs ad cA) (hi : i + 6 ≤ L) (hl : lv_has ls 4 [(3, .int (nI i)), (2, .ref (ad 56)), (1, .ref (ad 0)), (0, .ref b)]) (hDn : LDn s dC dI ad cA D H locs) (kk : ∀ (D : HP) (H : Heap) (locs : List Loc), LDn s dC dI ad cA D H locs → W p l e room_1 s m #[Value.ref b] below meth c H locs 80 2717 (lw_Z below #[Value.ref b] s) (F0 m 1161 ls [])) : W p l e room_1 s m #[Value.ref b] below meth c H locs 80 2717 (lw_Z below #[Value.ref b] s) (F0 m 529 ls []) := by
  obtain ⟨⟨hx, hb, hr, hml, hown, hts, hXs, hbl, hlocks, hgv⟩, hGA, hAd, hK, hL⟩ := id hX
  obtain ⟨hR, hcd, hP, hS⟩ := hDn
  have hbA : ¬ (fun q : Nat => s.heap.size ≤ q) b := Nat.not_le.mpr hbl
  have hj1 : vp_in (nI i + 1) L := lw_in (j := 1) (by omega) hL
  obtain ⟨z1, hz1, ez1⟩ := lw_z (xs (nI i + 1).toNatClampNeg)
  have hj2 : vp_in (nI i + 2) L := lw_in (j := 2) (by omega) hL
  obtain ⟨z2, hz2, ez2⟩ := lw_z (xs (nI i + 2).toNatClampNeg)
  refine lv_aload_n hx hb dL_law_529 rfl (lv_at hl 2 rfl) ?_
  refine lv_aload_n hx hb dL_law_530 rfl (lv_at hl 3 rfl) ?_
  refine lv_iload_n hx hb dL_law_531 rfl (lv_at hl 0 rfl) ?_
  refine lv_iconst (v := 1) hx hb dL_law_532 (by decide) ?_
  refine lv_iadd hx hb dL_law_533 ?_
  refine va_sld hx hb hXs hbl hbA hS hj1 dL_law_534 ?_
  rw [ez1]
  refine lv_aload_n hx hb dL_law_535 rfl (lv_at hl 3 rfl) ?_
  refine lv_iload_n hx hb dL_law_536 rfl (lv_at hl 0 rfl) ?_
  refine lv_iconst (v := 2) hx hb dL_law_537 (by decide) ?_
  refine lv_iadd hx hb dL_law_538 ?_
  refine va_sld hx hb hXs hbl hbA hS hj2 dL_law_539 ?_
  rw [ez2]
  obtain ⟨Q1, hct, hq1⟩ := st_stand hR z1 z2
  refine lw_call (g := mX5_stand) (k := 0) (ci := 5) (T := TX5) (N := 13) (idx := 68) (n := 2) (as := [vI z1, vI z2]) (rest := []) (ad := ad) (cA := cA) (D := D) hX dL_law_540 wm_533 mo_X5_stand rfl rfl rfl ⟨Nat.le_of_ble_eq_true rfl, Nat.le_of_ble_eq_true rfl⟩ (Nat.le_of_ble_eq_true rfl) hl.1 (cVs_c (show cV (vR 0) from trivial) (cVs_c hz1 (cVs_c hz2 cVs_nil))) hcd hP hS hct (fun r E H locs hok hcd hq hP hS => ?_)
  obtain ⟨x, rfl, hxc⟩ : ∃ z, r = some (vI z) ∧ c32 z := hok
  refine W.eq (g2 := F0 m 543 ls [.int (Int32.ofInt x)]) rfl ?_
  obtain ⟨Q2, hct2, hq2⟩ := hq1 _ _ hq
  refine lv_aload_n hx hb dL_law_543 rfl (lv_at hl 1 rfl) ?_
  refine lv_aload_n hx hb dL_law_544 rfl (lv_at hl 3 rfl) ?_
  refine lv_iload_n hx hb dL_law_545 rfl (lv_at hl 0 rfl) ?_
  refine lv_iconst (v := 1) hx hb dL_law_546 (by decide) ?_
  refine lv_iadd hx hb dL_law_547 ?_
  refine va_sld hx hb hXs hbl hbA hS hj1 dL_law_548 ?_
  rw [ez1]
  refine lv_aload_n hx hb dL_law_549 rfl (lv_at hl 3 rfl) ?_
  refine lv_iload_n hx hb dL_law_550 rfl (lv_at hl 0 rfl) ?_
  refine lv_iconst (v := 2) hx hb dL_law_551 (by decide) ?_
  refine lv_iadd hx hb dL_law_552 ?_
  refine va_sld hx hb hXs hbl hbA hS hj2 dL_law_553 ?_
  rw [ez2]
  refine lw_call (g := mX6_stand) (k := 56) (ci := 6) (T := TX6) (N := 29) (idx := 71) (n := 2) (as := [vI z1, vI z2]) (rest := [vI x]) (ad := ad) (cA := cA) (D := E) hX dL_law_554 wm_554 mo_X6_stand rfl rfl rfl ⟨Nat.le_of_ble_eq_true rfl, Nat.le_of_ble_eq_true rfl⟩ (Nat.le_of_ble_eq_true rfl) hl.1 (cVs_c (show cV (vR 56) from trivial) (cVs_c hz1 (cVs_c hz2 cVs_nil))) hcd hP hS hct2 (fun r F H locs hok hcd hq hP hS => ?_)
  obtain ⟨y, rfl, hyc⟩ : ∃ z, r = some (vI z) ∧ c32 z := hok
  obtain ⟨hyx, hR⟩ := hq2 _ _ hq
  have hyx := vIj hyx
  subst hyx
  refine W.eq (g2 := F0 m 557 ls [.int (Int32.ofInt y), .int (Int32.ofInt y)]) rfl ?_
  exact lv_icmp_eq (tgt := 1161) hx hb dL_law_557 (by decide) (fun _ => kk _ _ _ ⟨hR, hcd, hP, hS⟩) (fun hne => absurd rfl hne)
set_option maxHeartbeats 4000000 in
set_option maxRecDepth 100000 in
theorem lc_14 {p : Program} {l : Launch} {e : Env} {s : State} {m : MethodId} {below : List Frame} {meth : Method} {c : Code} {H : Heap} {locs : List Loc} {ls : Array Slot} {dC : Nat → ClassId} {dI : Nat → Nat → Nat} {b L i : Nat} {xs : Nat → Int32} {ad : Nat → Nat} {cA : Nat → ClassId} {D : HP} (hX : LX p s m meth c dC dI b L xs ad cA) (hi : i + 6 ≤ L) (hl : lv_has ls 4 [(3, .int (nI i)), (2, .ref (ad 56)), (1, .ref (ad 0)), (0, .ref b)]) (hDn : LDn s dC dI ad cA D H locs) (kk : ∀ (D : HP) (H : Heap) (locs : List Loc), LDn s dC dI ad cA D H locs → W p l e room_1 s m #[Value.ref b] below meth c H locs 80 2717 (lw_Z below #[Value.ref b] s) (F0 m 1161 ls [])) : W p l e room_1 s m #[Value.ref b] below meth c H locs 80 2717 (lw_Z below #[Value.ref b] s) (F0 m 562 ls []) := by
  obtain ⟨⟨hx, hb, hr, hml, hown, hts, hXs, hbl, hlocks, hgv⟩, hGA, hAd, hK, hL⟩ := id hX
  obtain ⟨hR, hcd, hP, hS⟩ := hDn
  have hbA : ¬ (fun q : Nat => s.heap.size ≤ q) b := Nat.not_le.mpr hbl
  have hj1 : vp_in (nI i + 1) L := lw_in (j := 1) (by omega) hL
  obtain ⟨z1, hz1, ez1⟩ := lw_z (xs (nI i + 1).toNatClampNeg)
  refine lv_aload_n hx hb dL_law_562 rfl (lv_at hl 2 rfl) ?_
  refine lv_aload_n hx hb dL_law_563 rfl (lv_at hl 3 rfl) ?_
  refine lv_iload_n hx hb dL_law_564 rfl (lv_at hl 0 rfl) ?_
  refine lv_iconst (v := 1) hx hb dL_law_565 (by decide) ?_
  refine lv_iadd hx hb dL_law_566 ?_
  refine va_sld hx hb hXs hbl hbA hS hj1 dL_law_567 ?_
  rw [ez1]
  obtain ⟨Q1, hct, hq1⟩ := st_shield hR z1
  refine lw_call (g := mX5_shield) (k := 0) (ci := 5) (T := TX5) (N := 13) (idx := 72) (n := 1) (as := [vI z1]) (rest := []) (ad := ad) (cA := cA) (D := D) hX dL_law_568 wm_566 mo_X5_shield rfl rfl rfl ⟨Nat.le_of_ble_eq_true rfl, Nat.le_of_ble_eq_true rfl⟩ (Nat.le_of_ble_eq_true rfl) hl.1 (cVs_c (show cV (vR 0) from trivial) (cVs_c hz1 cVs_nil)) hcd hP hS hct (fun r E H locs hok hcd hq hP hS => ?_)
  obtain ⟨x, rfl, hxc⟩ : ∃ z, r = some (vI z) ∧ c32 z := hok
  refine W.eq (g2 := F0 m 571 ls [.int (Int32.ofInt x)]) rfl ?_
  obtain ⟨Q2, hct2, hq2⟩ := hq1 _ _ hq
  refine lv_aload_n hx hb dL_law_571 rfl (lv_at hl 1 rfl) ?_
  refine lv_aload_n hx hb dL_law_572 rfl (lv_at hl 3 rfl) ?_
  refine lv_iload_n hx hb dL_law_573 rfl (lv_at hl 0 rfl) ?_
  refine lv_iconst (v := 1) hx hb dL_law_574 (by decide) ?_
  refine lv_iadd hx hb dL_law_575 ?_
  refine va_sld hx hb hXs hbl hbA hS hj1 dL_law_576 ?_
  rw [ez1]
  refine lw_call (g := mX6_shield) (k := 56) (ci := 6) (T := TX6) (N := 29) (idx := 75) (n := 1) (as := [vI z1]) (rest := [vI x]) (ad := ad) (cA := cA) (D := E) hX dL_law_577 wm_578 mo_X6_shield rfl rfl rfl ⟨Nat.le_of_ble_eq_true rfl, Nat.le_of_ble_eq_true rfl⟩ (Nat.le_of_ble_eq_true rfl) hl.1 (cVs_c (show cV (vR 56) from trivial) (cVs_c hz1 cVs_nil)) hcd hP hS hct2 (fun r F H locs hok hcd hq hP hS => ?_)
  obtain ⟨y, rfl, hyc⟩ : ∃ z, r = some (vI z) ∧ c32 z := hok
  obtain ⟨hyx, hR⟩ := hq2 _ _ hq
  have hyx := vIj hyx
  subst hyx
  refine W.eq (g2 := F0 m 580 ls [.int (Int32.ofInt y), .int (Int32.ofInt y)]) rfl ?_
  exact lv_icmp_eq (tgt := 1161) hx hb dL_law_580 (by decide) (fun _ => kk _ _ _ ⟨hR, hcd, hP, hS⟩) (fun hne => absurd rfl hne)
set_option maxHeartbeats 4000000 in
set_option maxRecDepth 100000 in
theorem lc_15 {p : Program} {l : Launch} {e : Env} {s : State} {m : MethodId} {below : List Frame} {meth : Method} {c : Code} {H : Heap} {locs : List Loc} {ls : Array Slot} {dC : Nat → ClassId} {dI : Nat → Nat → Nat} {b L i : Nat} {xs : Nat → Int32} {ad : Nat → Nat} {cA : Nat → ClassId} {D : HP} (hX : LX p s m meth c dC dI b L xs ad cA) (hi : i + 6 ≤ L) (hl : lv_has ls 4 [(3, .int (nI i)), (2, .ref (ad 56)), (1, .ref (ad 0)), (0, .ref b)]) (hDn : LDn s dC dI ad cA D H locs) (kk : ∀ (D : HP) (H : Heap) (locs : List Loc), LDn s dC dI ad cA D H locs → W p l e room_1 s m #[Value.ref b] below meth c H locs 80 2717 (lw_Z below #[Value.ref b] s) (F0 m 1161 ls [])) : W p l e room_1 s m #[Value.ref b] below meth c H locs 80 2717 (lw_Z below #[Value.ref b] s) (F0 m 585 ls []) := by
  obtain ⟨⟨hx, hb, hr, hml, hown, hts, hXs, hbl, hlocks, hgv⟩, hGA, hAd, hK, hL⟩ := id hX
  obtain ⟨hR, hcd, hP, hS⟩ := hDn
  have hbA : ¬ (fun q : Nat => s.heap.size ≤ q) b := Nat.not_le.mpr hbl
  have hj1 : vp_in (nI i + 1) L := lw_in (j := 1) (by omega) hL
  obtain ⟨z1, hz1, ez1⟩ := lw_z (xs (nI i + 1).toNatClampNeg)
  refine lv_aload_n hx hb dL_law_585 rfl (lv_at hl 2 rfl) ?_
  refine lv_aload_n hx hb dL_law_586 rfl (lv_at hl 3 rfl) ?_
  refine lv_iload_n hx hb dL_law_587 rfl (lv_at hl 0 rfl) ?_
  refine lv_iconst (v := 1) hx hb dL_law_588 (by decide) ?_
  refine lv_iadd hx hb dL_law_589 ?_
  refine va_sld hx hb hXs hbl hbA hS hj1 dL_law_590 ?_
  rw [ez1]
  obtain ⟨Q1, hct, hq1⟩ := st_move hR z1
  refine lw_call (g := mX5_move) (k := 0) (ci := 5) (T := TX5) (N := 13) (idx := 76) (n := 1) (as := [vI z1]) (rest := []) (ad := ad) (cA := cA) (D := D) hX dL_law_591 wm_590 mo_X5_move rfl rfl rfl ⟨Nat.le_of_ble_eq_true rfl, Nat.le_of_ble_eq_true rfl⟩ (Nat.le_of_ble_eq_true rfl) hl.1 (cVs_c (show cV (vR 0) from trivial) (cVs_c hz1 cVs_nil)) hcd hP hS hct (fun r E H locs hok hcd hq hP hS => ?_)
  obtain ⟨x, rfl, hxc⟩ : ∃ z, r = some (vI z) ∧ c32 z := hok
  refine W.eq (g2 := F0 m 594 ls [.int (Int32.ofInt x)]) rfl ?_
  obtain ⟨Q2, hct2, hq2⟩ := hq1 _ _ hq
  refine lv_aload_n hx hb dL_law_594 rfl (lv_at hl 1 rfl) ?_
  refine lv_aload_n hx hb dL_law_595 rfl (lv_at hl 3 rfl) ?_
  refine lv_iload_n hx hb dL_law_596 rfl (lv_at hl 0 rfl) ?_
  refine lv_iconst (v := 1) hx hb dL_law_597 (by decide) ?_
  refine lv_iadd hx hb dL_law_598 ?_
  refine va_sld hx hb hXs hbl hbA hS hj1 dL_law_599 ?_
  rw [ez1]
  refine lw_call (g := mX6_move) (k := 56) (ci := 6) (T := TX6) (N := 29) (idx := 79) (n := 1) (as := [vI z1]) (rest := [vI x]) (ad := ad) (cA := cA) (D := E) hX dL_law_600 wm_605 mo_X6_move rfl rfl rfl ⟨Nat.le_of_ble_eq_true rfl, Nat.le_of_ble_eq_true rfl⟩ (Nat.le_of_ble_eq_true rfl) hl.1 (cVs_c (show cV (vR 56) from trivial) (cVs_c hz1 cVs_nil)) hcd hP hS hct2 (fun r F H locs hok hcd hq hP hS => ?_)
  obtain ⟨y, rfl, hyc⟩ : ∃ z, r = some (vI z) ∧ c32 z := hok
  obtain ⟨hyx, hR⟩ := hq2 _ _ hq
  have hyx := vIj hyx
  subst hyx
  refine W.eq (g2 := F0 m 603 ls [.int (Int32.ofInt y), .int (Int32.ofInt y)]) rfl ?_
  exact lv_icmp_eq (tgt := 1161) hx hb dL_law_603 (by decide) (fun _ => kk _ _ _ ⟨hR, hcd, hP, hS⟩) (fun hne => absurd rfl hne)
set_option maxHeartbeats 4000000 in
set_option maxRecDepth 100000 in
theorem lc_16 {p : Program} {l : Launch} {e : Env} {s : State} {m : MethodId} {below : List Frame} {meth : Method} {c : Code} {H : Heap} {locs : List Loc} {ls : Array Slot} {dC : Nat → ClassId} {dI : Nat → Nat → Nat} {b L i : Nat} {xs : Nat → Int32} {ad : Nat → Nat} {cA : Nat → ClassId} {D : HP} (hX : LX p s m meth c dC dI b L xs ad cA) (hi : i + 6 ≤ L) (hl : lv_has ls 4 [(3, .int (nI i)), (2, .ref (ad 56)), (1, .ref (ad 0)), (0, .ref b)]) (hDn : LDn s dC dI ad cA D H locs) (kk : ∀ (D : HP) (H : Heap) (locs : List Loc), LDn s dC dI ad cA D H locs → W p l e room_1 s m #[Value.ref b] below meth c H locs 80 2717 (lw_Z below #[Value.ref b] s) (F0 m 1161 ls [])) : W p l e room_1 s m #[Value.ref b] below meth c H locs 80 2717 (lw_Z below #[Value.ref b] s) (F0 m 608 ls []) := by
  obtain ⟨⟨hx, hb, hr, hml, hown, hts, hXs, hbl, hlocks, hgv⟩, hGA, hAd, hK, hL⟩ := id hX
  obtain ⟨hR, hcd, hP, hS⟩ := hDn
  have hbA : ¬ (fun q : Nat => s.heap.size ≤ q) b := Nat.not_le.mpr hbl
  have hj1 : vp_in (nI i + 1) L := lw_in (j := 1) (by omega) hL
  obtain ⟨z1, hz1, ez1⟩ := lw_z (xs (nI i + 1).toNatClampNeg)
  refine lv_aload_n hx hb dL_law_608 rfl (lv_at hl 2 rfl) ?_
  refine lv_aload_n hx hb dL_law_609 rfl (lv_at hl 3 rfl) ?_
  refine lv_iload_n hx hb dL_law_610 rfl (lv_at hl 0 rfl) ?_
  refine lv_iconst (v := 1) hx hb dL_law_611 (by decide) ?_
  refine lv_iadd hx hb dL_law_612 ?_
  refine va_sld hx hb hXs hbl hbA hS hj1 dL_law_613 ?_
  rw [ez1]
  obtain ⟨Q1, hct, hq1⟩ := st_bribe hR z1
  refine lw_call (g := mX5_bribe) (k := 0) (ci := 5) (T := TX5) (N := 13) (idx := 80) (n := 1) (as := [vI z1]) (rest := []) (ad := ad) (cA := cA) (D := D) hX dL_law_614 wm_617 mo_X5_bribe rfl rfl rfl ⟨Nat.le_of_ble_eq_true rfl, Nat.le_of_ble_eq_true rfl⟩ (Nat.le_of_ble_eq_true rfl) hl.1 (cVs_c (show cV (vR 0) from trivial) (cVs_c hz1 cVs_nil)) hcd hP hS hct (fun r E H locs hok hcd hq hP hS => ?_)
  obtain ⟨x, rfl, hxc⟩ : ∃ z, r = some (vI z) ∧ c32 z := hok
  refine W.eq (g2 := F0 m 617 ls [.int (Int32.ofInt x)]) rfl ?_
  obtain ⟨Q2, hct2, hq2⟩ := hq1 _ _ hq
  refine lv_aload_n hx hb dL_law_617 rfl (lv_at hl 1 rfl) ?_
  refine lv_aload_n hx hb dL_law_618 rfl (lv_at hl 3 rfl) ?_
  refine lv_iload_n hx hb dL_law_619 rfl (lv_at hl 0 rfl) ?_
  refine lv_iconst (v := 1) hx hb dL_law_620 (by decide) ?_
  refine lv_iadd hx hb dL_law_621 ?_
  refine va_sld hx hb hXs hbl hbA hS hj1 dL_law_622 ?_
  rw [ez1]
  refine lw_call (g := mX6_bribe) (k := 56) (ci := 6) (T := TX6) (N := 29) (idx := 83) (n := 1) (as := [vI z1]) (rest := [vI x]) (ad := ad) (cA := cA) (D := E) hX dL_law_623 wm_621 mo_X6_bribe rfl rfl rfl ⟨Nat.le_of_ble_eq_true rfl, Nat.le_of_ble_eq_true rfl⟩ (Nat.le_of_ble_eq_true rfl) hl.1 (cVs_c (show cV (vR 56) from trivial) (cVs_c hz1 cVs_nil)) hcd hP hS hct2 (fun r F H locs hok hcd hq hP hS => ?_)
  obtain ⟨y, rfl, hyc⟩ : ∃ z, r = some (vI z) ∧ c32 z := hok
  obtain ⟨hyx, hR⟩ := hq2 _ _ hq
  have hyx := vIj hyx
  subst hyx
  refine W.eq (g2 := F0 m 626 ls [.int (Int32.ofInt y), .int (Int32.ofInt y)]) rfl ?_
  exact lv_icmp_eq (tgt := 1161) hx hb dL_law_626 (by decide) (fun _ => kk _ _ _ ⟨hR, hcd, hP, hS⟩) (fun hne => absurd rfl hne)
set_option maxHeartbeats 4000000 in
set_option maxRecDepth 100000 in
theorem lc_17 {p : Program} {l : Launch} {e : Env} {s : State} {m : MethodId} {below : List Frame} {meth : Method} {c : Code} {H : Heap} {locs : List Loc} {ls : Array Slot} {dC : Nat → ClassId} {dI : Nat → Nat → Nat} {b L i : Nat} {xs : Nat → Int32} {ad : Nat → Nat} {cA : Nat → ClassId} {D : HP} (hX : LX p s m meth c dC dI b L xs ad cA) (hi : i + 6 ≤ L) (hl : lv_has ls 4 [(3, .int (nI i)), (2, .ref (ad 56)), (1, .ref (ad 0)), (0, .ref b)]) (hDn : LDn s dC dI ad cA D H locs) (kk : ∀ (D : HP) (H : Heap) (locs : List Loc), LDn s dC dI ad cA D H locs → W p l e room_1 s m #[Value.ref b] below meth c H locs 80 2717 (lw_Z below #[Value.ref b] s) (F0 m 1161 ls [])) : W p l e room_1 s m #[Value.ref b] below meth c H locs 80 2717 (lw_Z below #[Value.ref b] s) (F0 m 631 ls []) := by
  obtain ⟨⟨hx, hb, hr, hml, hown, hts, hXs, hbl, hlocks, hgv⟩, hGA, hAd, hK, hL⟩ := id hX
  obtain ⟨hR, hcd, hP, hS⟩ := hDn
  have hbA : ¬ (fun q : Nat => s.heap.size ≤ q) b := Nat.not_le.mpr hbl
  have hj1 : vp_in (nI i + 1) L := lw_in (j := 1) (by omega) hL
  obtain ⟨z1, hz1, ez1⟩ := lw_z (xs (nI i + 1).toNatClampNeg)
  have hj2 : vp_in (nI i + 2) L := lw_in (j := 2) (by omega) hL
  obtain ⟨z2, hz2, ez2⟩ := lw_z (xs (nI i + 2).toNatClampNeg)
  refine lv_aload_n hx hb dL_law_631 rfl (lv_at hl 2 rfl) ?_
  refine lv_aload_n hx hb dL_law_632 rfl (lv_at hl 3 rfl) ?_
  refine lv_iload_n hx hb dL_law_633 rfl (lv_at hl 0 rfl) ?_
  refine lv_iconst (v := 1) hx hb dL_law_634 (by decide) ?_
  refine lv_iadd hx hb dL_law_635 ?_
  refine va_sld hx hb hXs hbl hbA hS hj1 dL_law_636 ?_
  rw [ez1]
  refine lv_aload_n hx hb dL_law_637 rfl (lv_at hl 3 rfl) ?_
  refine lv_iload_n hx hb dL_law_638 rfl (lv_at hl 0 rfl) ?_
  refine lv_iconst (v := 2) hx hb dL_law_639 (by decide) ?_
  refine lv_iadd hx hb dL_law_640 ?_
  refine va_sld hx hb hXs hbl hbA hS hj2 dL_law_641 ?_
  rw [ez2]
  obtain ⟨Q1, hct, hq1⟩ := st_seen hR z1 z2
  refine lw_call (g := mX5_seen) (k := 0) (ci := 5) (T := TX5) (N := 13) (idx := 84) (n := 2) (as := [vI z1, vI z2]) (rest := []) (ad := ad) (cA := cA) (D := D) hX dL_law_642 wm_629 mo_X5_seen rfl rfl rfl ⟨Nat.le_of_ble_eq_true rfl, Nat.le_of_ble_eq_true rfl⟩ (Nat.le_of_ble_eq_true rfl) hl.1 (cVs_c (show cV (vR 0) from trivial) (cVs_c hz1 (cVs_c hz2 cVs_nil))) hcd hP hS hct (fun r E H locs hok hcd hq hP hS => ?_)
  obtain ⟨x, rfl, hxc⟩ : ∃ z, r = some (vI z) ∧ c32 z := hok
  refine W.eq (g2 := F0 m 645 ls [.int (Int32.ofInt x)]) rfl ?_
  obtain ⟨Q2, hct2, hq2⟩ := hq1 _ _ hq
  refine lv_aload_n hx hb dL_law_645 rfl (lv_at hl 1 rfl) ?_
  refine lv_aload_n hx hb dL_law_646 rfl (lv_at hl 3 rfl) ?_
  refine lv_iload_n hx hb dL_law_647 rfl (lv_at hl 0 rfl) ?_
  refine lv_iconst (v := 1) hx hb dL_law_648 (by decide) ?_
  refine lv_iadd hx hb dL_law_649 ?_
  refine va_sld hx hb hXs hbl hbA hS hj1 dL_law_650 ?_
  rw [ez1]
  refine lv_aload_n hx hb dL_law_651 rfl (lv_at hl 3 rfl) ?_
  refine lv_iload_n hx hb dL_law_652 rfl (lv_at hl 0 rfl) ?_
  refine lv_iconst (v := 2) hx hb dL_law_653 (by decide) ?_
  refine lv_iadd hx hb dL_law_654 ?_
  refine va_sld hx hb hXs hbl hbA hS hj2 dL_law_655 ?_
  rw [ez2]
  refine lw_call (g := mX6_seen) (k := 56) (ci := 6) (T := TX6) (N := 29) (idx := 87) (n := 2) (as := [vI z1, vI z2]) (rest := [vI x]) (ad := ad) (cA := cA) (D := E) hX dL_law_656 wm_646 mo_X6_seen rfl rfl rfl ⟨Nat.le_of_ble_eq_true rfl, Nat.le_of_ble_eq_true rfl⟩ (Nat.le_of_ble_eq_true rfl) hl.1 (cVs_c (show cV (vR 56) from trivial) (cVs_c hz1 (cVs_c hz2 cVs_nil))) hcd hP hS hct2 (fun r F H locs hok hcd hq hP hS => ?_)
  obtain ⟨y, rfl, hyc⟩ : ∃ z, r = some (vI z) ∧ c32 z := hok
  obtain ⟨hyx, hR⟩ := hq2 _ _ hq
  have hyx := vIj hyx
  subst hyx
  refine W.eq (g2 := F0 m 659 ls [.int (Int32.ofInt y), .int (Int32.ofInt y)]) rfl ?_
  exact lv_icmp_eq (tgt := 1161) hx hb dL_law_659 (by decide) (fun _ => kk _ _ _ ⟨hR, hcd, hP, hS⟩) (fun hne => absurd rfl hne)
set_option maxHeartbeats 4000000 in
set_option maxRecDepth 100000 in
theorem lc_18 {p : Program} {l : Launch} {e : Env} {s : State} {m : MethodId} {below : List Frame} {meth : Method} {c : Code} {H : Heap} {locs : List Loc} {ls : Array Slot} {dC : Nat → ClassId} {dI : Nat → Nat → Nat} {b L i : Nat} {xs : Nat → Int32} {ad : Nat → Nat} {cA : Nat → ClassId} {D : HP} (hX : LX p s m meth c dC dI b L xs ad cA) (hi : i + 6 ≤ L) (hl : lv_has ls 4 [(3, .int (nI i)), (2, .ref (ad 56)), (1, .ref (ad 0)), (0, .ref b)]) (hDn : LDn s dC dI ad cA D H locs) (kk : ∀ (D : HP) (H : Heap) (locs : List Loc), LDn s dC dI ad cA D H locs → W p l e room_1 s m #[Value.ref b] below meth c H locs 80 2717 (lw_Z below #[Value.ref b] s) (F0 m 1161 ls [])) : W p l e room_1 s m #[Value.ref b] below meth c H locs 80 2717 (lw_Z below #[Value.ref b] s) (F0 m 664 ls []) := by
  obtain ⟨⟨hx, hb, hr, hml, hown, hts, hXs, hbl, hlocks, hgv⟩, hGA, hAd, hK, hL⟩ := id hX
  obtain ⟨hR, hcd, hP, hS⟩ := hDn
  have hbA : ¬ (fun q : Nat => s.heap.size ≤ q) b := Nat.not_le.mpr hbl
  refine lv_aload_n hx hb dL_law_664 rfl (lv_at hl 2 rfl) ?_
  obtain ⟨Q1, hct, hq1⟩ := st_forget hR
  refine lw_call (g := mX5_forget) (k := 0) (ci := 5) (T := TX5) (N := 13) (idx := 88) (n := 0) (as := []) (rest := []) (ad := ad) (cA := cA) (D := D) hX dL_law_665 wm_651 mo_X5_forget rfl rfl rfl ⟨Nat.le_of_ble_eq_true rfl, Nat.le_of_ble_eq_true rfl⟩ (Nat.le_of_ble_eq_true rfl) hl.1 (cVs_c (show cV (vR 0) from trivial) cVs_nil) hcd hP hS hct (fun r E H locs hok hcd hq hP hS => ?_)
  obtain ⟨x, rfl, hxc⟩ : ∃ z, r = some (vI z) ∧ c32 z := hok
  refine W.eq (g2 := F0 m 668 ls [.int (Int32.ofInt x)]) rfl ?_
  obtain ⟨Q2, hct2, hq2⟩ := hq1 _ _ hq
  refine lv_aload_n hx hb dL_law_668 rfl (lv_at hl 1 rfl) ?_
  refine lw_call (g := mX6_forget) (k := 56) (ci := 6) (T := TX6) (N := 29) (idx := 91) (n := 0) (as := []) (rest := [vI x]) (ad := ad) (cA := cA) (D := E) hX dL_law_669 wm_655 mo_X6_forget rfl rfl rfl ⟨Nat.le_of_ble_eq_true rfl, Nat.le_of_ble_eq_true rfl⟩ (Nat.le_of_ble_eq_true rfl) hl.1 (cVs_c (show cV (vR 56) from trivial) cVs_nil) hcd hP hS hct2 (fun r F H locs hok hcd hq hP hS => ?_)
  obtain ⟨y, rfl, hyc⟩ : ∃ z, r = some (vI z) ∧ c32 z := hok
  obtain ⟨hyx, hR⟩ := hq2 _ _ hq
  have hyx := vIj hyx
  subst hyx
  refine W.eq (g2 := F0 m 672 ls [.int (Int32.ofInt y), .int (Int32.ofInt y)]) rfl ?_
  exact lv_icmp_eq (tgt := 1161) hx hb dL_law_672 (by decide) (fun _ => kk _ _ _ ⟨hR, hcd, hP, hS⟩) (fun hne => absurd rfl hne)
set_option maxHeartbeats 4000000 in
set_option maxRecDepth 100000 in
theorem lc_19 {p : Program} {l : Launch} {e : Env} {s : State} {m : MethodId} {below : List Frame} {meth : Method} {c : Code} {H : Heap} {locs : List Loc} {ls : Array Slot} {dC : Nat → ClassId} {dI : Nat → Nat → Nat} {b L i : Nat} {xs : Nat → Int32} {ad : Nat → Nat} {cA : Nat → ClassId} {D : HP} (hX : LX p s m meth c dC dI b L xs ad cA) (hi : i + 6 ≤ L) (hl : lv_has ls 4 [(3, .int (nI i)), (2, .ref (ad 56)), (1, .ref (ad 0)), (0, .ref b)]) (hDn : LDn s dC dI ad cA D H locs) (kk : ∀ (D : HP) (H : Heap) (locs : List Loc), LDn s dC dI ad cA D H locs → W p l e room_1 s m #[Value.ref b] below meth c H locs 80 2717 (lw_Z below #[Value.ref b] s) (F0 m 1161 ls [])) : W p l e room_1 s m #[Value.ref b] below meth c H locs 80 2717 (lw_Z below #[Value.ref b] s) (F0 m 677 ls []) := by
  obtain ⟨⟨hx, hb, hr, hml, hown, hts, hXs, hbl, hlocks, hgv⟩, hGA, hAd, hK, hL⟩ := id hX
  obtain ⟨hR, hcd, hP, hS⟩ := hDn
  have hbA : ¬ (fun q : Nat => s.heap.size ≤ q) b := Nat.not_le.mpr hbl
  have hj1 : vp_in (nI i + 1) L := lw_in (j := 1) (by omega) hL
  obtain ⟨z1, hz1, ez1⟩ := lw_z (xs (nI i + 1).toNatClampNeg)
  refine lv_aload_n hx hb dL_law_677 rfl (lv_at hl 2 rfl) ?_
  refine lv_aload_n hx hb dL_law_678 rfl (lv_at hl 3 rfl) ?_
  refine lv_iload_n hx hb dL_law_679 rfl (lv_at hl 0 rfl) ?_
  refine lv_iconst (v := 1) hx hb dL_law_680 (by decide) ?_
  refine lv_iadd hx hb dL_law_681 ?_
  refine va_sld hx hb hXs hbl hbA hS hj1 dL_law_682 ?_
  rw [ez1]
  obtain ⟨Q1, hct, hq1⟩ := st_read hR z1
  refine lw_call (g := mX5_read) (k := 0) (ci := 5) (T := TX5) (N := 13) (idx := 92) (n := 1) (as := [vI z1]) (rest := []) (ad := ad) (cA := cA) (D := D) hX dL_law_683 wm_659 mo_X5_read rfl rfl rfl ⟨Nat.le_of_ble_eq_true rfl, Nat.le_of_ble_eq_true rfl⟩ (Nat.le_of_ble_eq_true rfl) hl.1 (cVs_c (show cV (vR 0) from trivial) (cVs_c hz1 cVs_nil)) hcd hP hS hct (fun r E H locs hok hcd hq hP hS => ?_)
  obtain ⟨x, rfl, hxc⟩ : ∃ z, r = some (vI z) ∧ c32 z := hok
  refine W.eq (g2 := F0 m 686 ls [.int (Int32.ofInt x)]) rfl ?_
  obtain ⟨Q2, hct2, hq2⟩ := hq1 _ _ hq
  refine lv_aload_n hx hb dL_law_686 rfl (lv_at hl 1 rfl) ?_
  refine lv_aload_n hx hb dL_law_687 rfl (lv_at hl 3 rfl) ?_
  refine lv_iload_n hx hb dL_law_688 rfl (lv_at hl 0 rfl) ?_
  refine lv_iconst (v := 1) hx hb dL_law_689 (by decide) ?_
  refine lv_iadd hx hb dL_law_690 ?_
  refine va_sld hx hb hXs hbl hbA hS hj1 dL_law_691 ?_
  rw [ez1]
  refine lw_call (g := mX6_read) (k := 56) (ci := 6) (T := TX6) (N := 29) (idx := 95) (n := 1) (as := [vI z1]) (rest := [vI x]) (ad := ad) (cA := cA) (D := E) hX dL_law_692 wm_680 mo_X6_read rfl rfl rfl ⟨Nat.le_of_ble_eq_true rfl, Nat.le_of_ble_eq_true rfl⟩ (Nat.le_of_ble_eq_true rfl) hl.1 (cVs_c (show cV (vR 56) from trivial) (cVs_c hz1 cVs_nil)) hcd hP hS hct2 (fun r F H locs hok hcd hq hP hS => ?_)
  obtain ⟨y, rfl, hyc⟩ : ∃ z, r = some (vI z) ∧ c32 z := hok
  obtain ⟨hyx, hR⟩ := hq2 _ _ hq
  have hyx := vIj hyx
  subst hyx
  refine W.eq (g2 := F0 m 695 ls [.int (Int32.ofInt y), .int (Int32.ofInt y)]) rfl ?_
  exact lv_icmp_eq (tgt := 1161) hx hb dL_law_695 (by decide) (fun _ => kk _ _ _ ⟨hR, hcd, hP, hS⟩) (fun hne => absurd rfl hne)
set_option maxHeartbeats 4000000 in
set_option maxRecDepth 100000 in
theorem lc_20 {p : Program} {l : Launch} {e : Env} {s : State} {m : MethodId} {below : List Frame} {meth : Method} {c : Code} {H : Heap} {locs : List Loc} {ls : Array Slot} {dC : Nat → ClassId} {dI : Nat → Nat → Nat} {b L i : Nat} {xs : Nat → Int32} {ad : Nat → Nat} {cA : Nat → ClassId} {D : HP} (hX : LX p s m meth c dC dI b L xs ad cA) (hi : i + 6 ≤ L) (hl : lv_has ls 4 [(3, .int (nI i)), (2, .ref (ad 56)), (1, .ref (ad 0)), (0, .ref b)]) (hDn : LDn s dC dI ad cA D H locs) (kk : ∀ (D : HP) (H : Heap) (locs : List Loc), LDn s dC dI ad cA D H locs → W p l e room_1 s m #[Value.ref b] below meth c H locs 80 2717 (lw_Z below #[Value.ref b] s) (F0 m 1161 ls [])) : W p l e room_1 s m #[Value.ref b] below meth c H locs 80 2717 (lw_Z below #[Value.ref b] s) (F0 m 700 ls []) := by
  obtain ⟨⟨hx, hb, hr, hml, hown, hts, hXs, hbl, hlocks, hgv⟩, hGA, hAd, hK, hL⟩ := id hX
  obtain ⟨hR, hcd, hP, hS⟩ := hDn
  have hbA : ¬ (fun q : Nat => s.heap.size ≤ q) b := Nat.not_le.mpr hbl
  have hj1 : vp_in (nI i + 1) L := lw_in (j := 1) (by omega) hL
  obtain ⟨z1, hz1, ez1⟩ := lw_z (xs (nI i + 1).toNatClampNeg)
  have hj2 : vp_in (nI i + 2) L := lw_in (j := 2) (by omega) hL
  obtain ⟨z2, hz2, ez2⟩ := lw_z (xs (nI i + 2).toNatClampNeg)
  refine lv_aload_n hx hb dL_law_700 rfl (lv_at hl 2 rfl) ?_
  refine lv_aload_n hx hb dL_law_701 rfl (lv_at hl 3 rfl) ?_
  refine lv_iload_n hx hb dL_law_702 rfl (lv_at hl 0 rfl) ?_
  refine lv_iconst (v := 1) hx hb dL_law_703 (by decide) ?_
  refine lv_iadd hx hb dL_law_704 ?_
  refine va_sld hx hb hXs hbl hbA hS hj1 dL_law_705 ?_
  rw [ez1]
  refine lv_aload_n hx hb dL_law_706 rfl (lv_at hl 3 rfl) ?_
  refine lv_iload_n hx hb dL_law_707 rfl (lv_at hl 0 rfl) ?_
  refine lv_iconst (v := 2) hx hb dL_law_708 (by decide) ?_
  refine lv_iadd hx hb dL_law_709 ?_
  refine va_sld hx hb hXs hbl hbA hS hj2 dL_law_710 ?_
  rw [ez2]
  obtain ⟨Q1, hct, hq1⟩ := st_blew hR z1 z2
  refine lw_call (g := mX5_blew) (k := 0) (ci := 5) (T := TX5) (N := 13) (idx := 96) (n := 2) (as := [vI z1, vI z2]) (rest := []) (ad := ad) (cA := cA) (D := D) hX dL_law_711 wm_693 mo_X5_blew rfl rfl rfl ⟨Nat.le_of_ble_eq_true rfl, Nat.le_of_ble_eq_true rfl⟩ (Nat.le_of_ble_eq_true rfl) hl.1 (cVs_c (show cV (vR 0) from trivial) (cVs_c hz1 (cVs_c hz2 cVs_nil))) hcd hP hS hct (fun r E H locs hok hcd hq hP hS => ?_)
  obtain ⟨x, rfl, hxc⟩ : ∃ z, r = some (vI z) ∧ c32 z := hok
  refine W.eq (g2 := F0 m 714 ls [.int (Int32.ofInt x)]) rfl ?_
  obtain ⟨Q2, hct2, hq2⟩ := hq1 _ _ hq
  refine lv_aload_n hx hb dL_law_714 rfl (lv_at hl 1 rfl) ?_
  refine lv_aload_n hx hb dL_law_715 rfl (lv_at hl 3 rfl) ?_
  refine lv_iload_n hx hb dL_law_716 rfl (lv_at hl 0 rfl) ?_
  refine lv_iconst (v := 1) hx hb dL_law_717 (by decide) ?_
  refine lv_iadd hx hb dL_law_718 ?_
  refine va_sld hx hb hXs hbl hbA hS hj1 dL_law_719 ?_
  rw [ez1]
  refine lv_aload_n hx hb dL_law_720 rfl (lv_at hl 3 rfl) ?_
  refine lv_iload_n hx hb dL_law_721 rfl (lv_at hl 0 rfl) ?_
  refine lv_iconst (v := 2) hx hb dL_law_722 (by decide) ?_
  refine lv_iadd hx hb dL_law_723 ?_
  refine va_sld hx hb hXs hbl hbA hS hj2 dL_law_724 ?_
  rw [ez2]
  refine lw_call (g := mX6_blew) (k := 56) (ci := 6) (T := TX6) (N := 29) (idx := 99) (n := 2) (as := [vI z1, vI z2]) (rest := [vI x]) (ad := ad) (cA := cA) (D := E) hX dL_law_725 wm_715 mo_X6_blew rfl rfl rfl ⟨Nat.le_of_ble_eq_true rfl, Nat.le_of_ble_eq_true rfl⟩ (Nat.le_of_ble_eq_true rfl) hl.1 (cVs_c (show cV (vR 56) from trivial) (cVs_c hz1 (cVs_c hz2 cVs_nil))) hcd hP hS hct2 (fun r F H locs hok hcd hq hP hS => ?_)
  obtain ⟨y, rfl, hyc⟩ : ∃ z, r = some (vI z) ∧ c32 z := hok
  obtain ⟨hyx, hR⟩ := hq2 _ _ hq
  have hyx := vIj hyx
  subst hyx
  refine W.eq (g2 := F0 m 728 ls [.int (Int32.ofInt y), .int (Int32.ofInt y)]) rfl ?_
  exact lv_icmp_eq (tgt := 1161) hx hb dL_law_728 (by decide) (fun _ => kk _ _ _ ⟨hR, hcd, hP, hS⟩) (fun hne => absurd rfl hne)
set_option maxHeartbeats 4000000 in
set_option maxRecDepth 100000 in
theorem lc_21 {p : Program} {l : Launch} {e : Env} {s : State} {m : MethodId} {below : List Frame} {meth : Method} {c : Code} {H : Heap} {locs : List Loc} {ls : Array Slot} {dC : Nat → ClassId} {dI : Nat → Nat → Nat} {b L i : Nat} {xs : Nat → Int32} {ad : Nat → Nat} {cA : Nat → ClassId} {D : HP} (hX : LX p s m meth c dC dI b L xs ad cA) (hi : i + 6 ≤ L) (hl : lv_has ls 4 [(3, .int (nI i)), (2, .ref (ad 56)), (1, .ref (ad 0)), (0, .ref b)]) (hDn : LDn s dC dI ad cA D H locs) (kk : ∀ (D : HP) (H : Heap) (locs : List Loc), LDn s dC dI ad cA D H locs → W p l e room_1 s m #[Value.ref b] below meth c H locs 80 2717 (lw_Z below #[Value.ref b] s) (F0 m 1161 ls [])) : W p l e room_1 s m #[Value.ref b] below meth c H locs 80 2717 (lw_Z below #[Value.ref b] s) (F0 m 733 ls []) := by
  obtain ⟨⟨hx, hb, hr, hml, hown, hts, hXs, hbl, hlocks, hgv⟩, hGA, hAd, hK, hL⟩ := id hX
  obtain ⟨hR, hcd, hP, hS⟩ := hDn
  have hbA : ¬ (fun q : Nat => s.heap.size ≤ q) b := Nat.not_le.mpr hbl
  have hj1 : vp_in (nI i + 1) L := lw_in (j := 1) (by omega) hL
  obtain ⟨z1, hz1, ez1⟩ := lw_z (xs (nI i + 1).toNatClampNeg)
  refine lv_aload_n hx hb dL_law_733 rfl (lv_at hl 2 rfl) ?_
  refine lv_aload_n hx hb dL_law_734 rfl (lv_at hl 3 rfl) ?_
  refine lv_iload_n hx hb dL_law_735 rfl (lv_at hl 0 rfl) ?_
  refine lv_iconst (v := 1) hx hb dL_law_736 (by decide) ?_
  refine lv_iadd hx hb dL_law_737 ?_
  refine va_sld hx hb hXs hbl hbA hS hj1 dL_law_738 ?_
  rw [ez1]
  obtain ⟨Q1, hct, hq1⟩ := st_had hR z1
  refine lw_call (g := mX5_had) (k := 0) (ci := 5) (T := TX5) (N := 13) (idx := 100) (n := 1) (as := [vI z1]) (rest := []) (ad := ad) (cA := cA) (D := D) hX dL_law_739 wm_731 mo_X5_had rfl rfl rfl ⟨Nat.le_of_ble_eq_true rfl, Nat.le_of_ble_eq_true rfl⟩ (Nat.le_of_ble_eq_true rfl) hl.1 (cVs_c (show cV (vR 0) from trivial) (cVs_c hz1 cVs_nil)) hcd hP hS hct (fun r E H locs hok hcd hq hP hS => ?_)
  obtain ⟨x, rfl, hxc⟩ : ∃ z, r = some (vI z) ∧ c32 z := hok
  refine W.eq (g2 := F0 m 742 ls [.int (Int32.ofInt x)]) rfl ?_
  obtain ⟨Q2, hct2, hq2⟩ := hq1 _ _ hq
  refine lv_aload_n hx hb dL_law_742 rfl (lv_at hl 1 rfl) ?_
  refine lv_aload_n hx hb dL_law_743 rfl (lv_at hl 3 rfl) ?_
  refine lv_iload_n hx hb dL_law_744 rfl (lv_at hl 0 rfl) ?_
  refine lv_iconst (v := 1) hx hb dL_law_745 (by decide) ?_
  refine lv_iadd hx hb dL_law_746 ?_
  refine va_sld hx hb hXs hbl hbA hS hj1 dL_law_747 ?_
  rw [ez1]
  refine lw_call (g := mX6_had) (k := 56) (ci := 6) (T := TX6) (N := 29) (idx := 103) (n := 1) (as := [vI z1]) (rest := [vI x]) (ad := ad) (cA := cA) (D := E) hX dL_law_748 wm_735 mo_X6_had rfl rfl rfl ⟨Nat.le_of_ble_eq_true rfl, Nat.le_of_ble_eq_true rfl⟩ (Nat.le_of_ble_eq_true rfl) hl.1 (cVs_c (show cV (vR 56) from trivial) (cVs_c hz1 cVs_nil)) hcd hP hS hct2 (fun r F H locs hok hcd hq hP hS => ?_)
  obtain ⟨y, rfl, hyc⟩ : ∃ z, r = some (vI z) ∧ c32 z := hok
  obtain ⟨hyx, hR⟩ := hq2 _ _ hq
  have hyx := vIj hyx
  subst hyx
  refine W.eq (g2 := F0 m 751 ls [.int (Int32.ofInt y), .int (Int32.ofInt y)]) rfl ?_
  exact lv_icmp_eq (tgt := 1161) hx hb dL_law_751 (by decide) (fun _ => kk _ _ _ ⟨hR, hcd, hP, hS⟩) (fun hne => absurd rfl hne)
set_option maxHeartbeats 4000000 in
set_option maxRecDepth 100000 in
theorem lc_22 {p : Program} {l : Launch} {e : Env} {s : State} {m : MethodId} {below : List Frame} {meth : Method} {c : Code} {H : Heap} {locs : List Loc} {ls : Array Slot} {dC : Nat → ClassId} {dI : Nat → Nat → Nat} {b L i : Nat} {xs : Nat → Int32} {ad : Nat → Nat} {cA : Nat → ClassId} {D : HP} (hX : LX p s m meth c dC dI b L xs ad cA) (hi : i + 6 ≤ L) (hl : lv_has ls 4 [(3, .int (nI i)), (2, .ref (ad 56)), (1, .ref (ad 0)), (0, .ref b)]) (hDn : LDn s dC dI ad cA D H locs) (kk : ∀ (D : HP) (H : Heap) (locs : List Loc), LDn s dC dI ad cA D H locs → W p l e room_1 s m #[Value.ref b] below meth c H locs 80 2717 (lw_Z below #[Value.ref b] s) (F0 m 1161 ls [])) : W p l e room_1 s m #[Value.ref b] below meth c H locs 80 2717 (lw_Z below #[Value.ref b] s) (F0 m 756 ls []) := by
  obtain ⟨⟨hx, hb, hr, hml, hown, hts, hXs, hbl, hlocks, hgv⟩, hGA, hAd, hK, hL⟩ := id hX
  obtain ⟨hR, hcd, hP, hS⟩ := hDn
  have hbA : ¬ (fun q : Nat => s.heap.size ≤ q) b := Nat.not_le.mpr hbl
  have hj1 : vp_in (nI i + 1) L := lw_in (j := 1) (by omega) hL
  obtain ⟨z1, hz1, ez1⟩ := lw_z (xs (nI i + 1).toNatClampNeg)
  refine lv_aload_n hx hb dL_law_756 rfl (lv_at hl 2 rfl) ?_
  refine lv_aload_n hx hb dL_law_757 rfl (lv_at hl 3 rfl) ?_
  refine lv_iload_n hx hb dL_law_758 rfl (lv_at hl 0 rfl) ?_
  refine lv_iconst (v := 1) hx hb dL_law_759 (by decide) ?_
  refine lv_iadd hx hb dL_law_760 ?_
  refine va_sld hx hb hXs hbl hbA hS hj1 dL_law_761 ?_
  rw [ez1]
  obtain ⟨Q1, hct, hq1⟩ := st_ask hR z1
  refine lw_call (g := mX5_ask) (k := 0) (ci := 5) (T := TX5) (N := 13) (idx := 104) (n := 1) (as := [vI z1]) (rest := []) (ad := ad) (cA := cA) (D := D) hX dL_law_762 wm_743 mo_X5_ask rfl rfl rfl ⟨Nat.le_of_ble_eq_true rfl, Nat.le_of_ble_eq_true rfl⟩ (Nat.le_of_ble_eq_true rfl) hl.1 (cVs_c (show cV (vR 0) from trivial) (cVs_c hz1 cVs_nil)) hcd hP hS hct (fun r E H locs hok hcd hq hP hS => ?_)
  obtain ⟨x, rfl, hxc⟩ : ∃ z, r = some (vI z) ∧ c32 z := hok
  refine W.eq (g2 := F0 m 765 ls [.int (Int32.ofInt x)]) rfl ?_
  obtain ⟨Q2, hct2, hq2⟩ := hq1 _ _ hq
  refine lv_aload_n hx hb dL_law_765 rfl (lv_at hl 1 rfl) ?_
  refine lv_aload_n hx hb dL_law_766 rfl (lv_at hl 3 rfl) ?_
  refine lv_iload_n hx hb dL_law_767 rfl (lv_at hl 0 rfl) ?_
  refine lv_iconst (v := 1) hx hb dL_law_768 (by decide) ?_
  refine lv_iadd hx hb dL_law_769 ?_
  refine va_sld hx hb hXs hbl hbA hS hj1 dL_law_770 ?_
  rw [ez1]
  refine lw_call (g := mX6_ask) (k := 56) (ci := 6) (T := TX6) (N := 29) (idx := 107) (n := 1) (as := [vI z1]) (rest := [vI x]) (ad := ad) (cA := cA) (D := E) hX dL_law_771 wm_752 mo_X6_ask rfl rfl rfl ⟨Nat.le_of_ble_eq_true rfl, Nat.le_of_ble_eq_true rfl⟩ (Nat.le_of_ble_eq_true rfl) hl.1 (cVs_c (show cV (vR 56) from trivial) (cVs_c hz1 cVs_nil)) hcd hP hS hct2 (fun r F H locs hok hcd hq hP hS => ?_)
  obtain ⟨y, rfl, hyc⟩ : ∃ z, r = some (vI z) ∧ c32 z := hok
  obtain ⟨hyx, hR⟩ := hq2 _ _ hq
  have hyx := vIj hyx
  subst hyx
  refine W.eq (g2 := F0 m 774 ls [.int (Int32.ofInt y), .int (Int32.ofInt y)]) rfl ?_
  exact lv_icmp_eq (tgt := 1161) hx hb dL_law_774 (by decide) (fun _ => kk _ _ _ ⟨hR, hcd, hP, hS⟩) (fun hne => absurd rfl hne)
set_option maxHeartbeats 4000000 in
set_option maxRecDepth 100000 in
theorem lc_23 {p : Program} {l : Launch} {e : Env} {s : State} {m : MethodId} {below : List Frame} {meth : Method} {c : Code} {H : Heap} {locs : List Loc} {ls : Array Slot} {dC : Nat → ClassId} {dI : Nat → Nat → Nat} {b L i : Nat} {xs : Nat → Int32} {ad : Nat → Nat} {cA : Nat → ClassId} {D : HP} (hX : LX p s m meth c dC dI b L xs ad cA) (hi : i + 6 ≤ L) (hl : lv_has ls 4 [(3, .int (nI i)), (2, .ref (ad 56)), (1, .ref (ad 0)), (0, .ref b)]) (hDn : LDn s dC dI ad cA D H locs) (kk : ∀ (D : HP) (H : Heap) (locs : List Loc), LDn s dC dI ad cA D H locs → W p l e room_1 s m #[Value.ref b] below meth c H locs 80 2717 (lw_Z below #[Value.ref b] s) (F0 m 1161 ls [])) : W p l e room_1 s m #[Value.ref b] below meth c H locs 80 2717 (lw_Z below #[Value.ref b] s) (F0 m 779 ls []) := by
  obtain ⟨⟨hx, hb, hr, hml, hown, hts, hXs, hbl, hlocks, hgv⟩, hGA, hAd, hK, hL⟩ := id hX
  obtain ⟨hR, hcd, hP, hS⟩ := hDn
  have hbA : ¬ (fun q : Nat => s.heap.size ≤ q) b := Nat.not_le.mpr hbl
  have hj1 : vp_in (nI i + 1) L := lw_in (j := 1) (by omega) hL
  obtain ⟨z1, hz1, ez1⟩ := lw_z (xs (nI i + 1).toNatClampNeg)
  have hj2 : vp_in (nI i + 2) L := lw_in (j := 2) (by omega) hL
  obtain ⟨z2, hz2, ez2⟩ := lw_z (xs (nI i + 2).toNatClampNeg)
  have hj3 : vp_in (nI i + 3) L := lw_in (j := 3) (by omega) hL
  obtain ⟨z3, hz3, ez3⟩ := lw_z (xs (nI i + 3).toNatClampNeg)
  refine lv_aload_n hx hb dL_law_779 rfl (lv_at hl 2 rfl) ?_
  refine lv_aload_n hx hb dL_law_780 rfl (lv_at hl 3 rfl) ?_
  refine lv_iload_n hx hb dL_law_781 rfl (lv_at hl 0 rfl) ?_
  refine lv_iconst (v := 1) hx hb dL_law_782 (by decide) ?_
  refine lv_iadd hx hb dL_law_783 ?_
  refine va_sld hx hb hXs hbl hbA hS hj1 dL_law_784 ?_
  rw [ez1]
  refine lv_aload_n hx hb dL_law_785 rfl (lv_at hl 3 rfl) ?_
  refine lv_iload_n hx hb dL_law_786 rfl (lv_at hl 0 rfl) ?_
  refine lv_iconst (v := 2) hx hb dL_law_787 (by decide) ?_
  refine lv_iadd hx hb dL_law_788 ?_
  refine va_sld hx hb hXs hbl hbA hS hj2 dL_law_789 ?_
  rw [ez2]
  refine lv_aload_n hx hb dL_law_790 rfl (lv_at hl 3 rfl) ?_
  refine lv_iload_n hx hb dL_law_791 rfl (lv_at hl 0 rfl) ?_
  refine lv_iconst (v := 3) hx hb dL_law_792 (by decide) ?_
  refine lv_iadd hx hb dL_law_793 ?_
  refine va_sld hx hb hXs hbl hbA hS hj3 dL_law_794 ?_
  rw [ez3]
  obtain ⟨Q1, hct, hq1⟩ := st_calm hR z1 z2 z3
  refine lw_call (g := mX5_calm) (k := 0) (ci := 5) (T := TX5) (N := 13) (idx := 108) (n := 3) (as := [vI z1, vI z2, vI z3]) (rest := []) (ad := ad) (cA := cA) (D := D) hX dL_law_795 wm_760 mo_X5_calm rfl rfl rfl ⟨Nat.le_of_ble_eq_true rfl, Nat.le_of_ble_eq_true rfl⟩ (Nat.le_of_ble_eq_true rfl) hl.1 (cVs_c (show cV (vR 0) from trivial) (cVs_c hz1 (cVs_c hz2 (cVs_c hz3 cVs_nil)))) hcd hP hS hct (fun r E H locs hok hcd hq hP hS => ?_)
  obtain ⟨x, rfl, hxc⟩ : ∃ z, r = some (vL z) ∧ c64 z := hok
  refine W.eq (g2 := F0 m 798 ls [.long (Int64.ofInt x)]) rfl ?_
  obtain ⟨Q2, hct2, hq2⟩ := hq1 _ _ hq
  refine lv_aload_n hx hb dL_law_798 rfl (lv_at hl 1 rfl) ?_
  refine lv_aload_n hx hb dL_law_799 rfl (lv_at hl 3 rfl) ?_
  refine lv_iload_n hx hb dL_law_800 rfl (lv_at hl 0 rfl) ?_
  refine lv_iconst (v := 1) hx hb dL_law_801 (by decide) ?_
  refine lv_iadd hx hb dL_law_802 ?_
  refine va_sld hx hb hXs hbl hbA hS hj1 dL_law_803 ?_
  rw [ez1]
  refine lv_aload_n hx hb dL_law_804 rfl (lv_at hl 3 rfl) ?_
  refine lv_iload_n hx hb dL_law_805 rfl (lv_at hl 0 rfl) ?_
  refine lv_iconst (v := 2) hx hb dL_law_806 (by decide) ?_
  refine lv_iadd hx hb dL_law_807 ?_
  refine va_sld hx hb hXs hbl hbA hS hj2 dL_law_808 ?_
  rw [ez2]
  refine lv_aload_n hx hb dL_law_809 rfl (lv_at hl 3 rfl) ?_
  refine lv_iload_n hx hb dL_law_810 rfl (lv_at hl 0 rfl) ?_
  refine lv_iconst (v := 3) hx hb dL_law_811 (by decide) ?_
  refine lv_iadd hx hb dL_law_812 ?_
  refine va_sld hx hb hXs hbl hbA hS hj3 dL_law_813 ?_
  rw [ez3]
  refine lw_call (g := mX6_calm) (k := 56) (ci := 6) (T := TX6) (N := 29) (idx := 112) (n := 3) (as := [vI z1, vI z2, vI z3]) (rest := [vL x]) (ad := ad) (cA := cA) (D := E) hX dL_law_814 wm_785 mo_X6_calm rfl rfl rfl ⟨Nat.le_of_ble_eq_true rfl, Nat.le_of_ble_eq_true rfl⟩ (Nat.le_of_ble_eq_true rfl) hl.1 (cVs_c (show cV (vR 56) from trivial) (cVs_c hz1 (cVs_c hz2 (cVs_c hz3 cVs_nil)))) hcd hP hS hct2 (fun r F H locs hok hcd hq hP hS => ?_)
  obtain ⟨y, rfl, hyc⟩ : ∃ z, r = some (vL z) ∧ c64 z := hok
  obtain ⟨hyx, hR⟩ := hq2 _ _ hq
  have hyx := vLj hyx
  subst hyx
  refine W.eq (g2 := F0 m 817 ls [.long (Int64.ofInt y), .long (Int64.ofInt y)]) rfl ?_
  refine W.lcmp hx hb dL_law_817 ?_
  exact lv_if_eq (tgt := 1161) hx hb dL_law_818 (by decide) (fun _ => kk _ _ _ ⟨hR, hcd, hP, hS⟩) (fun hne => absurd lg_same hne)
set_option maxHeartbeats 4000000 in
set_option maxRecDepth 100000 in
theorem lc_24 {p : Program} {l : Launch} {e : Env} {s : State} {m : MethodId} {below : List Frame} {meth : Method} {c : Code} {H : Heap} {locs : List Loc} {ls : Array Slot} {dC : Nat → ClassId} {dI : Nat → Nat → Nat} {b L i : Nat} {xs : Nat → Int32} {ad : Nat → Nat} {cA : Nat → ClassId} {D : HP} (hX : LX p s m meth c dC dI b L xs ad cA) (hi : i + 6 ≤ L) (hl : lv_has ls 4 [(3, .int (nI i)), (2, .ref (ad 56)), (1, .ref (ad 0)), (0, .ref b)]) (hDn : LDn s dC dI ad cA D H locs) (kk : ∀ (D : HP) (H : Heap) (locs : List Loc), LDn s dC dI ad cA D H locs → W p l e room_1 s m #[Value.ref b] below meth c H locs 80 2717 (lw_Z below #[Value.ref b] s) (F0 m 1161 ls [])) : W p l e room_1 s m #[Value.ref b] below meth c H locs 80 2717 (lw_Z below #[Value.ref b] s) (F0 m 823 ls []) := by
  obtain ⟨⟨hx, hb, hr, hml, hown, hts, hXs, hbl, hlocks, hgv⟩, hGA, hAd, hK, hL⟩ := id hX
  obtain ⟨hR, hcd, hP, hS⟩ := hDn
  have hbA : ¬ (fun q : Nat => s.heap.size ≤ q) b := Nat.not_le.mpr hbl
  have hj1 : vp_in (nI i + 1) L := lw_in (j := 1) (by omega) hL
  obtain ⟨z1, hz1, ez1⟩ := lw_z (xs (nI i + 1).toNatClampNeg)
  have hj2 : vp_in (nI i + 2) L := lw_in (j := 2) (by omega) hL
  obtain ⟨z2, hz2, ez2⟩ := lw_z (xs (nI i + 2).toNatClampNeg)
  have hj3 : vp_in (nI i + 3) L := lw_in (j := 3) (by omega) hL
  obtain ⟨z3, hz3, ez3⟩ := lw_z (xs (nI i + 3).toNatClampNeg)
  refine lv_aload_n hx hb dL_law_823 rfl (lv_at hl 2 rfl) ?_
  refine lv_aload_n hx hb dL_law_824 rfl (lv_at hl 3 rfl) ?_
  refine lv_iload_n hx hb dL_law_825 rfl (lv_at hl 0 rfl) ?_
  refine lv_iconst (v := 1) hx hb dL_law_826 (by decide) ?_
  refine lv_iadd hx hb dL_law_827 ?_
  refine va_sld hx hb hXs hbl hbA hS hj1 dL_law_828 ?_
  rw [ez1]
  refine lv_aload_n hx hb dL_law_829 rfl (lv_at hl 3 rfl) ?_
  refine lv_iload_n hx hb dL_law_830 rfl (lv_at hl 0 rfl) ?_
  refine lv_iconst (v := 2) hx hb dL_law_831 (by decide) ?_
  refine lv_iadd hx hb dL_law_832 ?_
  refine va_sld hx hb hXs hbl hbA hS hj2 dL_law_833 ?_
  rw [ez2]
  refine lv_aload_n hx hb dL_law_834 rfl (lv_at hl 3 rfl) ?_
  refine lv_iload_n hx hb dL_law_835 rfl (lv_at hl 0 rfl) ?_
  refine lv_iconst (v := 3) hx hb dL_law_836 (by decide) ?_
  refine lv_iadd hx hb dL_law_837 ?_
  refine va_sld hx hb hXs hbl hbA hS hj3 dL_law_838 ?_
  rw [ez3]
  obtain ⟨Q1, hct, hq1⟩ := st_weather hR z1 z2 z3
  refine lw_call (g := mX5_weather) (k := 0) (ci := 5) (T := TX5) (N := 13) (idx := 113) (n := 3) (as := [vI z1, vI z2, vI z3]) (rest := []) (ad := ad) (cA := cA) (D := D) hX dL_law_839 wm_803 mo_X5_weather rfl rfl rfl ⟨Nat.le_of_ble_eq_true rfl, Nat.le_of_ble_eq_true rfl⟩ (Nat.le_of_ble_eq_true rfl) hl.1 (cVs_c (show cV (vR 0) from trivial) (cVs_c hz1 (cVs_c hz2 (cVs_c hz3 cVs_nil)))) hcd hP hS hct (fun r E H locs hok hcd hq hP hS => ?_)
  obtain ⟨x, rfl, hxc⟩ : ∃ z, r = some (vI z) ∧ c32 z := hok
  refine W.eq (g2 := F0 m 842 ls [.int (Int32.ofInt x)]) rfl ?_
  obtain ⟨Q2, hct2, hq2⟩ := hq1 _ _ hq
  refine lv_aload_n hx hb dL_law_842 rfl (lv_at hl 1 rfl) ?_
  refine lv_aload_n hx hb dL_law_843 rfl (lv_at hl 3 rfl) ?_
  refine lv_iload_n hx hb dL_law_844 rfl (lv_at hl 0 rfl) ?_
  refine lv_iconst (v := 1) hx hb dL_law_845 (by decide) ?_
  refine lv_iadd hx hb dL_law_846 ?_
  refine va_sld hx hb hXs hbl hbA hS hj1 dL_law_847 ?_
  rw [ez1]
  refine lv_aload_n hx hb dL_law_848 rfl (lv_at hl 3 rfl) ?_
  refine lv_iload_n hx hb dL_law_849 rfl (lv_at hl 0 rfl) ?_
  refine lv_iconst (v := 2) hx hb dL_law_850 (by decide) ?_
  refine lv_iadd hx hb dL_law_851 ?_
  refine va_sld hx hb hXs hbl hbA hS hj2 dL_law_852 ?_
  rw [ez2]
  refine lv_aload_n hx hb dL_law_853 rfl (lv_at hl 3 rfl) ?_
  refine lv_iload_n hx hb dL_law_854 rfl (lv_at hl 0 rfl) ?_
  refine lv_iconst (v := 3) hx hb dL_law_855 (by decide) ?_
  refine lv_iadd hx hb dL_law_856 ?_
  refine va_sld hx hb hXs hbl hbA hS hj3 dL_law_857 ?_
  rw [ez3]
  refine lw_call (g := mX6_weather) (k := 56) (ci := 6) (T := TX6) (N := 29) (idx := 117) (n := 3) (as := [vI z1, vI z2, vI z3]) (rest := [vI x]) (ad := ad) (cA := cA) (D := E) hX dL_law_858 wm_816 mo_X6_weather rfl rfl rfl ⟨Nat.le_of_ble_eq_true rfl, Nat.le_of_ble_eq_true rfl⟩ (Nat.le_of_ble_eq_true rfl) hl.1 (cVs_c (show cV (vR 56) from trivial) (cVs_c hz1 (cVs_c hz2 (cVs_c hz3 cVs_nil)))) hcd hP hS hct2 (fun r F H locs hok hcd hq hP hS => ?_)
  obtain ⟨y, rfl, hyc⟩ : ∃ z, r = some (vI z) ∧ c32 z := hok
  obtain ⟨hyx, hR⟩ := hq2 _ _ hq
  have hyx := vIj hyx
  subst hyx
  refine W.eq (g2 := F0 m 861 ls [.int (Int32.ofInt y), .int (Int32.ofInt y)]) rfl ?_
  exact lv_icmp_eq (tgt := 1161) hx hb dL_law_861 (by decide) (fun _ => kk _ _ _ ⟨hR, hcd, hP, hS⟩) (fun hne => absurd rfl hne)
set_option maxHeartbeats 4000000 in
set_option maxRecDepth 100000 in
theorem lc_25 {p : Program} {l : Launch} {e : Env} {s : State} {m : MethodId} {below : List Frame} {meth : Method} {c : Code} {H : Heap} {locs : List Loc} {ls : Array Slot} {dC : Nat → ClassId} {dI : Nat → Nat → Nat} {b L i : Nat} {xs : Nat → Int32} {ad : Nat → Nat} {cA : Nat → ClassId} {D : HP} (hX : LX p s m meth c dC dI b L xs ad cA) (hi : i + 6 ≤ L) (hl : lv_has ls 4 [(3, .int (nI i)), (2, .ref (ad 56)), (1, .ref (ad 0)), (0, .ref b)]) (hDn : LDn s dC dI ad cA D H locs) (kk : ∀ (D : HP) (H : Heap) (locs : List Loc), LDn s dC dI ad cA D H locs → W p l e room_1 s m #[Value.ref b] below meth c H locs 80 2717 (lw_Z below #[Value.ref b] s) (F0 m 1161 ls [])) : W p l e room_1 s m #[Value.ref b] below meth c H locs 80 2717 (lw_Z below #[Value.ref b] s) (F0 m 866 ls []) := by
  obtain ⟨⟨hx, hb, hr, hml, hown, hts, hXs, hbl, hlocks, hgv⟩, hGA, hAd, hK, hL⟩ := id hX
  obtain ⟨hR, hcd, hP, hS⟩ := hDn
  have hbA : ¬ (fun q : Nat => s.heap.size ≤ q) b := Nat.not_le.mpr hbl
  have hj1 : vp_in (nI i + 1) L := lw_in (j := 1) (by omega) hL
  obtain ⟨z1, hz1, ez1⟩ := lw_z (xs (nI i + 1).toNatClampNeg)
  have hj2 : vp_in (nI i + 2) L := lw_in (j := 2) (by omega) hL
  obtain ⟨z2, hz2, ez2⟩ := lw_z (xs (nI i + 2).toNatClampNeg)
  have hj3 : vp_in (nI i + 3) L := lw_in (j := 3) (by omega) hL
  obtain ⟨z3, hz3, ez3⟩ := lw_z (xs (nI i + 3).toNatClampNeg)
  refine lv_aload_n hx hb dL_law_866 rfl (lv_at hl 2 rfl) ?_
  refine lv_aload_n hx hb dL_law_867 rfl (lv_at hl 3 rfl) ?_
  refine lv_iload_n hx hb dL_law_868 rfl (lv_at hl 0 rfl) ?_
  refine lv_iconst (v := 1) hx hb dL_law_869 (by decide) ?_
  refine lv_iadd hx hb dL_law_870 ?_
  refine va_sld hx hb hXs hbl hbA hS hj1 dL_law_871 ?_
  rw [ez1]
  refine lv_aload_n hx hb dL_law_872 rfl (lv_at hl 3 rfl) ?_
  refine lv_iload_n hx hb dL_law_873 rfl (lv_at hl 0 rfl) ?_
  refine lv_iconst (v := 2) hx hb dL_law_874 (by decide) ?_
  refine lv_iadd hx hb dL_law_875 ?_
  refine va_sld hx hb hXs hbl hbA hS hj2 dL_law_876 ?_
  rw [ez2]
  refine lv_aload_n hx hb dL_law_877 rfl (lv_at hl 3 rfl) ?_
  refine lv_iload_n hx hb dL_law_878 rfl (lv_at hl 0 rfl) ?_
  refine lv_iconst (v := 3) hx hb dL_law_879 (by decide) ?_
  refine lv_iadd hx hb dL_law_880 ?_
  refine va_sld hx hb hXs hbl hbA hS hj3 dL_law_881 ?_
  rw [ez3]
  obtain ⟨Q1, hct, hq1⟩ := st_sheet hR z1 z2 z3
  refine lw_call (g := mX5_sheet) (k := 0) (ci := 5) (T := TX5) (N := 13) (idx := 118) (n := 3) (as := [vI z1, vI z2, vI z3]) (rest := []) (ad := ad) (cA := cA) (D := D) hX dL_law_882 wm_829 mo_X5_sheet rfl rfl rfl ⟨Nat.le_of_ble_eq_true rfl, Nat.le_of_ble_eq_true rfl⟩ (Nat.le_of_ble_eq_true rfl) hl.1 (cVs_c (show cV (vR 0) from trivial) (cVs_c hz1 (cVs_c hz2 (cVs_c hz3 cVs_nil)))) hcd hP hS hct (fun r E H locs hok hcd hq hP hS => ?_)
  obtain ⟨x, rfl, hxc⟩ : ∃ z, r = some (vI z) ∧ c32 z := hok
  refine W.eq (g2 := F0 m 885 ls [.int (Int32.ofInt x)]) rfl ?_
  obtain ⟨Q2, hct2, hq2⟩ := hq1 _ _ hq
  refine lv_aload_n hx hb dL_law_885 rfl (lv_at hl 1 rfl) ?_
  refine lv_aload_n hx hb dL_law_886 rfl (lv_at hl 3 rfl) ?_
  refine lv_iload_n hx hb dL_law_887 rfl (lv_at hl 0 rfl) ?_
  refine lv_iconst (v := 1) hx hb dL_law_888 (by decide) ?_
  refine lv_iadd hx hb dL_law_889 ?_
  refine va_sld hx hb hXs hbl hbA hS hj1 dL_law_890 ?_
  rw [ez1]
  refine lv_aload_n hx hb dL_law_891 rfl (lv_at hl 3 rfl) ?_
  refine lv_iload_n hx hb dL_law_892 rfl (lv_at hl 0 rfl) ?_
  refine lv_iconst (v := 2) hx hb dL_law_893 (by decide) ?_
  refine lv_iadd hx hb dL_law_894 ?_
  refine va_sld hx hb hXs hbl hbA hS hj2 dL_law_895 ?_
  rw [ez2]
  refine lv_aload_n hx hb dL_law_896 rfl (lv_at hl 3 rfl) ?_
  refine lv_iload_n hx hb dL_law_897 rfl (lv_at hl 0 rfl) ?_
  refine lv_iconst (v := 3) hx hb dL_law_898 (by decide) ?_
  refine lv_iadd hx hb dL_law_899 ?_
  refine va_sld hx hb hXs hbl hbA hS hj3 dL_law_900 ?_
  rw [ez3]
  refine lw_call (g := mX6_sheet) (k := 56) (ci := 6) (T := TX6) (N := 29) (idx := 121) (n := 3) (as := [vI z1, vI z2, vI z3]) (rest := [vI x]) (ad := ad) (cA := cA) (D := E) hX dL_law_901 wm_843 mo_X6_sheet rfl rfl rfl ⟨Nat.le_of_ble_eq_true rfl, Nat.le_of_ble_eq_true rfl⟩ (Nat.le_of_ble_eq_true rfl) hl.1 (cVs_c (show cV (vR 56) from trivial) (cVs_c hz1 (cVs_c hz2 (cVs_c hz3 cVs_nil)))) hcd hP hS hct2 (fun r F H locs hok hcd hq hP hS => ?_)
  obtain ⟨y, rfl, hyc⟩ : ∃ z, r = some (vI z) ∧ c32 z := hok
  obtain ⟨hyx, hR⟩ := hq2 _ _ hq
  have hyx := vIj hyx
  subst hyx
  refine W.eq (g2 := F0 m 904 ls [.int (Int32.ofInt y), .int (Int32.ofInt y)]) rfl ?_
  exact lv_icmp_eq (tgt := 1161) hx hb dL_law_904 (by decide) (fun _ => kk _ _ _ ⟨hR, hcd, hP, hS⟩) (fun hne => absurd rfl hne)
set_option maxHeartbeats 4000000 in
set_option maxRecDepth 100000 in
theorem lc_26 {p : Program} {l : Launch} {e : Env} {s : State} {m : MethodId} {below : List Frame} {meth : Method} {c : Code} {H : Heap} {locs : List Loc} {ls : Array Slot} {dC : Nat → ClassId} {dI : Nat → Nat → Nat} {b L i : Nat} {xs : Nat → Int32} {ad : Nat → Nat} {cA : Nat → ClassId} {D : HP} (hX : LX p s m meth c dC dI b L xs ad cA) (hi : i + 6 ≤ L) (hl : lv_has ls 4 [(3, .int (nI i)), (2, .ref (ad 56)), (1, .ref (ad 0)), (0, .ref b)]) (hDn : LDn s dC dI ad cA D H locs) (kk : ∀ (D : HP) (H : Heap) (locs : List Loc), LDn s dC dI ad cA D H locs → W p l e room_1 s m #[Value.ref b] below meth c H locs 80 2717 (lw_Z below #[Value.ref b] s) (F0 m 1161 ls [])) : W p l e room_1 s m #[Value.ref b] below meth c H locs 80 2717 (lw_Z below #[Value.ref b] s) (F0 m 909 ls []) := by
  obtain ⟨⟨hx, hb, hr, hml, hown, hts, hXs, hbl, hlocks, hgv⟩, hGA, hAd, hK, hL⟩ := id hX
  obtain ⟨hR, hcd, hP, hS⟩ := hDn
  have hbA : ¬ (fun q : Nat => s.heap.size ≤ q) b := Nat.not_le.mpr hbl
  have hj1 : vp_in (nI i + 1) L := lw_in (j := 1) (by omega) hL
  obtain ⟨z1, hz1, ez1⟩ := lw_z (xs (nI i + 1).toNatClampNeg)
  refine lv_aload_n hx hb dL_law_909 rfl (lv_at hl 2 rfl) ?_
  refine lv_aload_n hx hb dL_law_910 rfl (lv_at hl 3 rfl) ?_
  refine lv_iload_n hx hb dL_law_911 rfl (lv_at hl 0 rfl) ?_
  refine lv_iconst (v := 1) hx hb dL_law_912 (by decide) ?_
  refine lv_iadd hx hb dL_law_913 ?_
  refine va_sld hx hb hXs hbl hbA hS hj1 dL_law_914 ?_
  rw [ez1]
  obtain ⟨Q1, hct, hq1⟩ := st_lose hR z1
  refine lw_call (g := mX5_lose) (k := 0) (ci := 5) (T := TX5) (N := 13) (idx := 122) (n := 1) (as := [vI z1]) (rest := []) (ad := ad) (cA := cA) (D := D) hX dL_law_915 wm_847 mo_X5_lose rfl rfl rfl ⟨Nat.le_of_ble_eq_true rfl, Nat.le_of_ble_eq_true rfl⟩ (Nat.le_of_ble_eq_true rfl) hl.1 (cVs_c (show cV (vR 0) from trivial) (cVs_c hz1 cVs_nil)) hcd hP hS hct (fun r E H locs hok hcd hq hP hS => ?_)
  obtain ⟨x, rfl, hxc⟩ : ∃ z, r = some (vI z) ∧ c32 z := hok
  refine W.eq (g2 := F0 m 918 ls [.int (Int32.ofInt x)]) rfl ?_
  obtain ⟨Q2, hct2, hq2⟩ := hq1 _ _ hq
  refine lv_aload_n hx hb dL_law_918 rfl (lv_at hl 1 rfl) ?_
  refine lv_aload_n hx hb dL_law_919 rfl (lv_at hl 3 rfl) ?_
  refine lv_iload_n hx hb dL_law_920 rfl (lv_at hl 0 rfl) ?_
  refine lv_iconst (v := 1) hx hb dL_law_921 (by decide) ?_
  refine lv_iadd hx hb dL_law_922 ?_
  refine va_sld hx hb hXs hbl hbA hS hj1 dL_law_923 ?_
  rw [ez1]
  refine lw_call (g := mX6_lose) (k := 56) (ci := 6) (T := TX6) (N := 29) (idx := 125) (n := 1) (as := [vI z1]) (rest := [vI x]) (ad := ad) (cA := cA) (D := E) hX dL_law_924 wm_855 mo_X6_lose rfl rfl rfl ⟨Nat.le_of_ble_eq_true rfl, Nat.le_of_ble_eq_true rfl⟩ (Nat.le_of_ble_eq_true rfl) hl.1 (cVs_c (show cV (vR 56) from trivial) (cVs_c hz1 cVs_nil)) hcd hP hS hct2 (fun r F H locs hok hcd hq hP hS => ?_)
  obtain ⟨y, rfl, hyc⟩ : ∃ z, r = some (vI z) ∧ c32 z := hok
  obtain ⟨hyx, hR⟩ := hq2 _ _ hq
  have hyx := vIj hyx
  subst hyx
  refine W.eq (g2 := F0 m 927 ls [.int (Int32.ofInt y), .int (Int32.ofInt y)]) rfl ?_
  exact lv_icmp_eq (tgt := 1161) hx hb dL_law_927 (by decide) (fun _ => kk _ _ _ ⟨hR, hcd, hP, hS⟩) (fun hne => absurd rfl hne)
set_option maxHeartbeats 4000000 in
set_option maxRecDepth 100000 in
theorem lc_27 {p : Program} {l : Launch} {e : Env} {s : State} {m : MethodId} {below : List Frame} {meth : Method} {c : Code} {H : Heap} {locs : List Loc} {ls : Array Slot} {dC : Nat → ClassId} {dI : Nat → Nat → Nat} {b L i : Nat} {xs : Nat → Int32} {ad : Nat → Nat} {cA : Nat → ClassId} {D : HP} (hX : LX p s m meth c dC dI b L xs ad cA) (hi : i + 6 ≤ L) (hl : lv_has ls 4 [(3, .int (nI i)), (2, .ref (ad 56)), (1, .ref (ad 0)), (0, .ref b)]) (hDn : LDn s dC dI ad cA D H locs) (kk : ∀ (D : HP) (H : Heap) (locs : List Loc), LDn s dC dI ad cA D H locs → W p l e room_1 s m #[Value.ref b] below meth c H locs 80 2717 (lw_Z below #[Value.ref b] s) (F0 m 1161 ls [])) : W p l e room_1 s m #[Value.ref b] below meth c H locs 80 2717 (lw_Z below #[Value.ref b] s) (F0 m 932 ls []) := by
  obtain ⟨⟨hx, hb, hr, hml, hown, hts, hXs, hbl, hlocks, hgv⟩, hGA, hAd, hK, hL⟩ := id hX
  obtain ⟨hR, hcd, hP, hS⟩ := hDn
  have hbA : ¬ (fun q : Nat => s.heap.size ≤ q) b := Nat.not_le.mpr hbl
  have hj1 : vp_in (nI i + 1) L := lw_in (j := 1) (by omega) hL
  obtain ⟨z1, hz1, ez1⟩ := lw_z (xs (nI i + 1).toNatClampNeg)
  have hj2 : vp_in (nI i + 2) L := lw_in (j := 2) (by omega) hL
  obtain ⟨z2, hz2, ez2⟩ := lw_z (xs (nI i + 2).toNatClampNeg)
  have hj3 : vp_in (nI i + 3) L := lw_in (j := 3) (by omega) hL
  obtain ⟨z3, hz3, ez3⟩ := lw_z (xs (nI i + 3).toNatClampNeg)
  have hj4 : vp_in (nI i + 4) L := lw_in (j := 4) (by omega) hL
  obtain ⟨z4, hz4, ez4⟩ := lw_z (xs (nI i + 4).toNatClampNeg)
  refine lv_aload_n hx hb dL_law_932 rfl (lv_at hl 2 rfl) ?_
  refine lv_aload_n hx hb dL_law_933 rfl (lv_at hl 3 rfl) ?_
  refine lv_iload_n hx hb dL_law_934 rfl (lv_at hl 0 rfl) ?_
  refine lv_iconst (v := 1) hx hb dL_law_935 (by decide) ?_
  refine lv_iadd hx hb dL_law_936 ?_
  refine va_sld hx hb hXs hbl hbA hS hj1 dL_law_937 ?_
  rw [ez1]
  refine lv_aload_n hx hb dL_law_938 rfl (lv_at hl 3 rfl) ?_
  refine lv_iload_n hx hb dL_law_939 rfl (lv_at hl 0 rfl) ?_
  refine lv_iconst (v := 2) hx hb dL_law_940 (by decide) ?_
  refine lv_iadd hx hb dL_law_941 ?_
  refine va_sld hx hb hXs hbl hbA hS hj2 dL_law_942 ?_
  rw [ez2]
  refine lv_aload_n hx hb dL_law_943 rfl (lv_at hl 3 rfl) ?_
  refine lv_iload_n hx hb dL_law_944 rfl (lv_at hl 0 rfl) ?_
  refine lv_iconst (v := 3) hx hb dL_law_945 (by decide) ?_
  refine lv_iadd hx hb dL_law_946 ?_
  refine va_sld hx hb hXs hbl hbA hS hj3 dL_law_947 ?_
  rw [ez3]
  refine lv_aload_n hx hb dL_law_948 rfl (lv_at hl 3 rfl) ?_
  refine lv_iload_n hx hb dL_law_949 rfl (lv_at hl 0 rfl) ?_
  refine lv_iconst (v := 4) hx hb dL_law_950 (by decide) ?_
  refine lv_iadd hx hb dL_law_951 ?_
  refine va_sld hx hb hXs hbl hbA hS hj4 dL_law_952 ?_
  rw [ez4]
  obtain ⟨Q1, hct, hq1⟩ := st_put hR z1 z2 z3 z4
  refine lw_call (g := mX5_put) (k := 0) (ci := 5) (T := TX5) (N := 13) (idx := 126) (n := 4) (as := [vI z1, vI z2, vI z3, vI z4]) (rest := []) (ad := ad) (cA := cA) (D := D) hX dL_law_953 wm_859 mo_X5_put rfl rfl rfl ⟨Nat.le_of_ble_eq_true rfl, Nat.le_of_ble_eq_true rfl⟩ (Nat.le_of_ble_eq_true rfl) hl.1 (cVs_c (show cV (vR 0) from trivial) (cVs_c hz1 (cVs_c hz2 (cVs_c hz3 (cVs_c hz4 cVs_nil))))) hcd hP hS hct (fun r E H locs hok hcd hq hP hS => ?_)
  obtain ⟨x, rfl, hxc⟩ : ∃ z, r = some (vI z) ∧ c32 z := hok
  refine W.eq (g2 := F0 m 956 ls [.int (Int32.ofInt x)]) rfl ?_
  obtain ⟨Q2, hct2, hq2⟩ := hq1 _ _ hq
  refine lv_aload_n hx hb dL_law_956 rfl (lv_at hl 1 rfl) ?_
  refine lv_aload_n hx hb dL_law_957 rfl (lv_at hl 3 rfl) ?_
  refine lv_iload_n hx hb dL_law_958 rfl (lv_at hl 0 rfl) ?_
  refine lv_iconst (v := 1) hx hb dL_law_959 (by decide) ?_
  refine lv_iadd hx hb dL_law_960 ?_
  refine va_sld hx hb hXs hbl hbA hS hj1 dL_law_961 ?_
  rw [ez1]
  refine lv_aload_n hx hb dL_law_962 rfl (lv_at hl 3 rfl) ?_
  refine lv_iload_n hx hb dL_law_963 rfl (lv_at hl 0 rfl) ?_
  refine lv_iconst (v := 2) hx hb dL_law_964 (by decide) ?_
  refine lv_iadd hx hb dL_law_965 ?_
  refine va_sld hx hb hXs hbl hbA hS hj2 dL_law_966 ?_
  rw [ez2]
  refine lv_aload_n hx hb dL_law_967 rfl (lv_at hl 3 rfl) ?_
  refine lv_iload_n hx hb dL_law_968 rfl (lv_at hl 0 rfl) ?_
  refine lv_iconst (v := 3) hx hb dL_law_969 (by decide) ?_
  refine lv_iadd hx hb dL_law_970 ?_
  refine va_sld hx hb hXs hbl hbA hS hj3 dL_law_971 ?_
  rw [ez3]
  refine lv_aload_n hx hb dL_law_972 rfl (lv_at hl 3 rfl) ?_
  refine lv_iload_n hx hb dL_law_973 rfl (lv_at hl 0 rfl) ?_
  refine lv_iconst (v := 4) hx hb dL_law_974 (by decide) ?_
  refine lv_iadd hx hb dL_law_975 ?_
  refine va_sld hx hb hXs hbl hbA hS hj4 dL_law_976 ?_
  rw [ez4]
  refine lw_call (g := mX6_put) (k := 56) (ci := 6) (T := TX6) (N := 29) (idx := 130) (n := 4) (as := [vI z1, vI z2, vI z3, vI z4]) (rest := [vI x]) (ad := ad) (cA := cA) (D := E) hX dL_law_977 wm_872 mo_X6_put rfl rfl rfl ⟨Nat.le_of_ble_eq_true rfl, Nat.le_of_ble_eq_true rfl⟩ (Nat.le_of_ble_eq_true rfl) hl.1 (cVs_c (show cV (vR 56) from trivial) (cVs_c hz1 (cVs_c hz2 (cVs_c hz3 (cVs_c hz4 cVs_nil))))) hcd hP hS hct2 (fun r F H locs hok hcd hq hP hS => ?_)
  obtain ⟨y, rfl, hyc⟩ : ∃ z, r = some (vI z) ∧ c32 z := hok
  obtain ⟨hyx, hR⟩ := hq2 _ _ hq
  have hyx := vIj hyx
  subst hyx
  refine W.eq (g2 := F0 m 980 ls [.int (Int32.ofInt y), .int (Int32.ofInt y)]) rfl ?_
  exact lv_icmp_eq (tgt := 1161) hx hb dL_law_980 (by decide) (fun _ => kk _ _ _ ⟨hR, hcd, hP, hS⟩) (fun hne => absurd rfl hne)
set_option maxHeartbeats 4000000 in
set_option maxRecDepth 100000 in
theorem lc_28 {p : Program} {l : Launch} {e : Env} {s : State} {m : MethodId} {below : List Frame} {meth : Method} {c : Code} {H : Heap} {locs : List Loc} {ls : Array Slot} {dC : Nat → ClassId} {dI : Nat → Nat → Nat} {b L i : Nat} {xs : Nat → Int32} {ad : Nat → Nat} {cA : Nat → ClassId} {D : HP} (hX : LX p s m meth c dC dI b L xs ad cA) (hi : i + 6 ≤ L) (hl : lv_has ls 4 [(3, .int (nI i)), (2, .ref (ad 56)), (1, .ref (ad 0)), (0, .ref b)]) (hDn : LDn s dC dI ad cA D H locs) (kk : ∀ (D : HP) (H : Heap) (locs : List Loc), LDn s dC dI ad cA D H locs → W p l e room_1 s m #[Value.ref b] below meth c H locs 80 2717 (lw_Z below #[Value.ref b] s) (F0 m 1161 ls [])) : W p l e room_1 s m #[Value.ref b] below meth c H locs 80 2717 (lw_Z below #[Value.ref b] s) (F0 m 985 ls []) := by
  obtain ⟨⟨hx, hb, hr, hml, hown, hts, hXs, hbl, hlocks, hgv⟩, hGA, hAd, hK, hL⟩ := id hX
  obtain ⟨hR, hcd, hP, hS⟩ := hDn
  have hbA : ¬ (fun q : Nat => s.heap.size ≤ q) b := Nat.not_le.mpr hbl
  have hj1 : vp_in (nI i + 1) L := lw_in (j := 1) (by omega) hL
  obtain ⟨z1, hz1, ez1⟩ := lw_z (xs (nI i + 1).toNatClampNeg)
  have hj2 : vp_in (nI i + 2) L := lw_in (j := 2) (by omega) hL
  obtain ⟨z2, hz2, ez2⟩ := lw_z (xs (nI i + 2).toNatClampNeg)
  have hj3 : vp_in (nI i + 3) L := lw_in (j := 3) (by omega) hL
  obtain ⟨z3, hz3, ez3⟩ := lw_z (xs (nI i + 3).toNatClampNeg)
  refine lv_aload_n hx hb dL_law_985 rfl (lv_at hl 2 rfl) ?_
  refine lv_aload_n hx hb dL_law_986 rfl (lv_at hl 3 rfl) ?_
  refine lv_iload_n hx hb dL_law_987 rfl (lv_at hl 0 rfl) ?_
  refine lv_iconst (v := 1) hx hb dL_law_988 (by decide) ?_
  refine lv_iadd hx hb dL_law_989 ?_
  refine va_sld hx hb hXs hbl hbA hS hj1 dL_law_990 ?_
  rw [ez1]
  refine lv_aload_n hx hb dL_law_991 rfl (lv_at hl 3 rfl) ?_
  refine lv_iload_n hx hb dL_law_992 rfl (lv_at hl 0 rfl) ?_
  refine lv_iconst (v := 2) hx hb dL_law_993 (by decide) ?_
  refine lv_iadd hx hb dL_law_994 ?_
  refine va_sld hx hb hXs hbl hbA hS hj2 dL_law_995 ?_
  rw [ez2]
  refine lv_aload_n hx hb dL_law_996 rfl (lv_at hl 3 rfl) ?_
  refine lv_iload_n hx hb dL_law_997 rfl (lv_at hl 0 rfl) ?_
  refine lv_iconst (v := 3) hx hb dL_law_998 (by decide) ?_
  refine lv_iadd hx hb dL_law_999 ?_
  refine va_sld hx hb hXs hbl hbA hS hj3 dL_law_1000 ?_
  rw [ez3]
  obtain ⟨Q1, hct, hq1⟩ := st_get hR z1 z2 z3
  refine lw_call (g := mX5_get) (k := 0) (ci := 5) (T := TX5) (N := 13) (idx := 131) (n := 3) (as := [vI z1, vI z2, vI z3]) (rest := []) (ad := ad) (cA := cA) (D := D) hX dL_law_1001 wm_884 mo_X5_get rfl rfl rfl ⟨Nat.le_of_ble_eq_true rfl, Nat.le_of_ble_eq_true rfl⟩ (Nat.le_of_ble_eq_true rfl) hl.1 (cVs_c (show cV (vR 0) from trivial) (cVs_c hz1 (cVs_c hz2 (cVs_c hz3 cVs_nil)))) hcd hP hS hct (fun r E H locs hok hcd hq hP hS => ?_)
  obtain ⟨x, rfl, hxc⟩ : ∃ z, r = some (vI z) ∧ c32 z := hok
  refine W.eq (g2 := F0 m 1004 ls [.int (Int32.ofInt x)]) rfl ?_
  obtain ⟨Q2, hct2, hq2⟩ := hq1 _ _ hq
  refine lv_aload_n hx hb dL_law_1004 rfl (lv_at hl 1 rfl) ?_
  refine lv_aload_n hx hb dL_law_1005 rfl (lv_at hl 3 rfl) ?_
  refine lv_iload_n hx hb dL_law_1006 rfl (lv_at hl 0 rfl) ?_
  refine lv_iconst (v := 1) hx hb dL_law_1007 (by decide) ?_
  refine lv_iadd hx hb dL_law_1008 ?_
  refine va_sld hx hb hXs hbl hbA hS hj1 dL_law_1009 ?_
  rw [ez1]
  refine lv_aload_n hx hb dL_law_1010 rfl (lv_at hl 3 rfl) ?_
  refine lv_iload_n hx hb dL_law_1011 rfl (lv_at hl 0 rfl) ?_
  refine lv_iconst (v := 2) hx hb dL_law_1012 (by decide) ?_
  refine lv_iadd hx hb dL_law_1013 ?_
  refine va_sld hx hb hXs hbl hbA hS hj2 dL_law_1014 ?_
  rw [ez2]
  refine lv_aload_n hx hb dL_law_1015 rfl (lv_at hl 3 rfl) ?_
  refine lv_iload_n hx hb dL_law_1016 rfl (lv_at hl 0 rfl) ?_
  refine lv_iconst (v := 3) hx hb dL_law_1017 (by decide) ?_
  refine lv_iadd hx hb dL_law_1018 ?_
  refine va_sld hx hb hXs hbl hbA hS hj3 dL_law_1019 ?_
  rw [ez3]
  refine lw_call (g := mX6_get) (k := 56) (ci := 6) (T := TX6) (N := 29) (idx := 134) (n := 3) (as := [vI z1, vI z2, vI z3]) (rest := [vI x]) (ad := ad) (cA := cA) (D := E) hX dL_law_1020 wm_889 mo_X6_get rfl rfl rfl ⟨Nat.le_of_ble_eq_true rfl, Nat.le_of_ble_eq_true rfl⟩ (Nat.le_of_ble_eq_true rfl) hl.1 (cVs_c (show cV (vR 56) from trivial) (cVs_c hz1 (cVs_c hz2 (cVs_c hz3 cVs_nil)))) hcd hP hS hct2 (fun r F H locs hok hcd hq hP hS => ?_)
  obtain ⟨y, rfl, hyc⟩ : ∃ z, r = some (vI z) ∧ c32 z := hok
  obtain ⟨hyx, hR⟩ := hq2 _ _ hq
  have hyx := vIj hyx
  subst hyx
  refine W.eq (g2 := F0 m 1023 ls [.int (Int32.ofInt y), .int (Int32.ofInt y)]) rfl ?_
  exact lv_icmp_eq (tgt := 1161) hx hb dL_law_1023 (by decide) (fun _ => kk _ _ _ ⟨hR, hcd, hP, hS⟩) (fun hne => absurd rfl hne)
set_option maxHeartbeats 4000000 in
set_option maxRecDepth 100000 in
theorem lc_29 {p : Program} {l : Launch} {e : Env} {s : State} {m : MethodId} {below : List Frame} {meth : Method} {c : Code} {H : Heap} {locs : List Loc} {ls : Array Slot} {dC : Nat → ClassId} {dI : Nat → Nat → Nat} {b L i : Nat} {xs : Nat → Int32} {ad : Nat → Nat} {cA : Nat → ClassId} {D : HP} (hX : LX p s m meth c dC dI b L xs ad cA) (hi : i + 6 ≤ L) (hl : lv_has ls 4 [(3, .int (nI i)), (2, .ref (ad 56)), (1, .ref (ad 0)), (0, .ref b)]) (hDn : LDn s dC dI ad cA D H locs) (kk : ∀ (D : HP) (H : Heap) (locs : List Loc), LDn s dC dI ad cA D H locs → W p l e room_1 s m #[Value.ref b] below meth c H locs 80 2717 (lw_Z below #[Value.ref b] s) (F0 m 1161 ls [])) : W p l e room_1 s m #[Value.ref b] below meth c H locs 80 2717 (lw_Z below #[Value.ref b] s) (F0 m 1028 ls []) := by
  obtain ⟨⟨hx, hb, hr, hml, hown, hts, hXs, hbl, hlocks, hgv⟩, hGA, hAd, hK, hL⟩ := id hX
  obtain ⟨hR, hcd, hP, hS⟩ := hDn
  have hbA : ¬ (fun q : Nat => s.heap.size ≤ q) b := Nat.not_le.mpr hbl
  have hj1 : vp_in (nI i + 1) L := lw_in (j := 1) (by omega) hL
  obtain ⟨z1, hz1, ez1⟩ := lw_z (xs (nI i + 1).toNatClampNeg)
  have hj2 : vp_in (nI i + 2) L := lw_in (j := 2) (by omega) hL
  obtain ⟨z2, hz2, ez2⟩ := lw_z (xs (nI i + 2).toNatClampNeg)
  have hj3 : vp_in (nI i + 3) L := lw_in (j := 3) (by omega) hL
  obtain ⟨z3, hz3, ez3⟩ := lw_z (xs (nI i + 3).toNatClampNeg)
  have hj4 : vp_in (nI i + 4) L := lw_in (j := 4) (by omega) hL
  obtain ⟨z4, hz4, ez4⟩ := lw_z (xs (nI i + 4).toNatClampNeg)
  have hj5 : vp_in (nI i + 5) L := lw_in (j := 5) (by omega) hL
  obtain ⟨z5, hz5, ez5⟩ := lw_z (xs (nI i + 5).toNatClampNeg)
  refine lv_aload_n hx hb dL_law_1028 rfl (lv_at hl 2 rfl) ?_
  refine lv_aload_n hx hb dL_law_1029 rfl (lv_at hl 3 rfl) ?_
  refine lv_iload_n hx hb dL_law_1030 rfl (lv_at hl 0 rfl) ?_
  refine lv_iconst (v := 1) hx hb dL_law_1031 (by decide) ?_
  refine lv_iadd hx hb dL_law_1032 ?_
  refine va_sld hx hb hXs hbl hbA hS hj1 dL_law_1033 ?_
  rw [ez1]
  refine lv_aload_n hx hb dL_law_1034 rfl (lv_at hl 3 rfl) ?_
  refine lv_iload_n hx hb dL_law_1035 rfl (lv_at hl 0 rfl) ?_
  refine lv_iconst (v := 2) hx hb dL_law_1036 (by decide) ?_
  refine lv_iadd hx hb dL_law_1037 ?_
  refine va_sld hx hb hXs hbl hbA hS hj2 dL_law_1038 ?_
  rw [ez2]
  refine lv_aload_n hx hb dL_law_1039 rfl (lv_at hl 3 rfl) ?_
  refine lv_iload_n hx hb dL_law_1040 rfl (lv_at hl 0 rfl) ?_
  refine lv_iconst (v := 3) hx hb dL_law_1041 (by decide) ?_
  refine lv_iadd hx hb dL_law_1042 ?_
  refine va_sld hx hb hXs hbl hbA hS hj3 dL_law_1043 ?_
  rw [ez3]
  refine lv_aload_n hx hb dL_law_1044 rfl (lv_at hl 3 rfl) ?_
  refine lv_iload_n hx hb dL_law_1045 rfl (lv_at hl 0 rfl) ?_
  refine lv_iconst (v := 4) hx hb dL_law_1046 (by decide) ?_
  refine lv_iadd hx hb dL_law_1047 ?_
  refine va_sld hx hb hXs hbl hbA hS hj4 dL_law_1048 ?_
  rw [ez4]
  refine lv_aload_n hx hb dL_law_1049 rfl (lv_at hl 3 rfl) ?_
  refine lv_iload_n hx hb dL_law_1050 rfl (lv_at hl 0 rfl) ?_
  refine lv_iconst (v := 5) hx hb dL_law_1051 (by decide) ?_
  refine lv_iadd hx hb dL_law_1052 ?_
  refine va_sld hx hb hXs hbl hbA hS hj5 dL_law_1053 ?_
  rw [ez5]
  obtain ⟨Q1, hct, hq1⟩ := st_copy hR z1 z2 z3 z4 z5
  refine lw_call (g := mX5_copy) (k := 0) (ci := 5) (T := TX5) (N := 13) (idx := 135) (n := 5) (as := [vI z1, vI z2, vI z3, vI z4, vI z5]) (rest := []) (ad := ad) (cA := cA) (D := D) hX dL_law_1054 wm_894 mo_X5_copy rfl rfl rfl ⟨Nat.le_of_ble_eq_true rfl, Nat.le_of_ble_eq_true rfl⟩ (Nat.le_of_ble_eq_true rfl) hl.1 (cVs_c (show cV (vR 0) from trivial) (cVs_c hz1 (cVs_c hz2 (cVs_c hz3 (cVs_c hz4 (cVs_c hz5 cVs_nil)))))) hcd hP hS hct (fun r E H locs hok hcd hq hP hS => ?_)
  obtain ⟨x, rfl, hxc⟩ : ∃ z, r = some (vI z) ∧ c32 z := hok
  refine W.eq (g2 := F0 m 1057 ls [.int (Int32.ofInt x)]) rfl ?_
  obtain ⟨Q2, hct2, hq2⟩ := hq1 _ _ hq
  refine lv_aload_n hx hb dL_law_1057 rfl (lv_at hl 1 rfl) ?_
  refine lv_aload_n hx hb dL_law_1058 rfl (lv_at hl 3 rfl) ?_
  refine lv_iload_n hx hb dL_law_1059 rfl (lv_at hl 0 rfl) ?_
  refine lv_iconst (v := 1) hx hb dL_law_1060 (by decide) ?_
  refine lv_iadd hx hb dL_law_1061 ?_
  refine va_sld hx hb hXs hbl hbA hS hj1 dL_law_1062 ?_
  rw [ez1]
  refine lv_aload_n hx hb dL_law_1063 rfl (lv_at hl 3 rfl) ?_
  refine lv_iload_n hx hb dL_law_1064 rfl (lv_at hl 0 rfl) ?_
  refine lv_iconst (v := 2) hx hb dL_law_1065 (by decide) ?_
  refine lv_iadd hx hb dL_law_1066 ?_
  refine va_sld hx hb hXs hbl hbA hS hj2 dL_law_1067 ?_
  rw [ez2]
  refine lv_aload_n hx hb dL_law_1068 rfl (lv_at hl 3 rfl) ?_
  refine lv_iload_n hx hb dL_law_1069 rfl (lv_at hl 0 rfl) ?_
  refine lv_iconst (v := 3) hx hb dL_law_1070 (by decide) ?_
  refine lv_iadd hx hb dL_law_1071 ?_
  refine va_sld hx hb hXs hbl hbA hS hj3 dL_law_1072 ?_
  rw [ez3]
  refine lv_aload_n hx hb dL_law_1073 rfl (lv_at hl 3 rfl) ?_
  refine lv_iload_n hx hb dL_law_1074 rfl (lv_at hl 0 rfl) ?_
  refine lv_iconst (v := 4) hx hb dL_law_1075 (by decide) ?_
  refine lv_iadd hx hb dL_law_1076 ?_
  refine va_sld hx hb hXs hbl hbA hS hj4 dL_law_1077 ?_
  rw [ez4]
  refine lv_aload_n hx hb dL_law_1078 rfl (lv_at hl 3 rfl) ?_
  refine lv_iload_n hx hb dL_law_1079 rfl (lv_at hl 0 rfl) ?_
  refine lv_iconst (v := 5) hx hb dL_law_1080 (by decide) ?_
  refine lv_iadd hx hb dL_law_1081 ?_
  refine va_sld hx hb hXs hbl hbA hS hj5 dL_law_1082 ?_
  rw [ez5]
  refine lw_call (g := mX6_copy) (k := 56) (ci := 6) (T := TX6) (N := 29) (idx := 139) (n := 5) (as := [vI z1, vI z2, vI z3, vI z4, vI z5]) (rest := [vI x]) (ad := ad) (cA := cA) (D := E) hX dL_law_1083 wm_905 mo_X6_copy rfl rfl rfl ⟨Nat.le_of_ble_eq_true rfl, Nat.le_of_ble_eq_true rfl⟩ (Nat.le_of_ble_eq_true rfl) hl.1 (cVs_c (show cV (vR 56) from trivial) (cVs_c hz1 (cVs_c hz2 (cVs_c hz3 (cVs_c hz4 (cVs_c hz5 cVs_nil)))))) hcd hP hS hct2 (fun r F H locs hok hcd hq hP hS => ?_)
  obtain ⟨y, rfl, hyc⟩ : ∃ z, r = some (vI z) ∧ c32 z := hok
  obtain ⟨hyx, hR⟩ := hq2 _ _ hq
  have hyx := vIj hyx
  subst hyx
  refine W.eq (g2 := F0 m 1086 ls [.int (Int32.ofInt y), .int (Int32.ofInt y)]) rfl ?_
  exact lv_icmp_eq (tgt := 1161) hx hb dL_law_1086 (by decide) (fun _ => kk _ _ _ ⟨hR, hcd, hP, hS⟩) (fun hne => absurd rfl hne)
set_option maxHeartbeats 4000000 in
set_option maxRecDepth 100000 in
theorem lc_30 {p : Program} {l : Launch} {e : Env} {s : State} {m : MethodId} {below : List Frame} {meth : Method} {c : Code} {H : Heap} {locs : List Loc} {ls : Array Slot} {dC : Nat → ClassId} {dI : Nat → Nat → Nat} {b L i : Nat} {xs : Nat → Int32} {ad : Nat → Nat} {cA : Nat → ClassId} {D : HP} (hX : LX p s m meth c dC dI b L xs ad cA) (hi : i + 6 ≤ L) (hl : lv_has ls 4 [(3, .int (nI i)), (2, .ref (ad 56)), (1, .ref (ad 0)), (0, .ref b)]) (hDn : LDn s dC dI ad cA D H locs) (kk : ∀ (D : HP) (H : Heap) (locs : List Loc), LDn s dC dI ad cA D H locs → W p l e room_1 s m #[Value.ref b] below meth c H locs 80 2717 (lw_Z below #[Value.ref b] s) (F0 m 1161 ls [])) : W p l e room_1 s m #[Value.ref b] below meth c H locs 80 2717 (lw_Z below #[Value.ref b] s) (F0 m 1091 ls []) := by
  obtain ⟨⟨hx, hb, hr, hml, hown, hts, hXs, hbl, hlocks, hgv⟩, hGA, hAd, hK, hL⟩ := id hX
  obtain ⟨hR, hcd, hP, hS⟩ := hDn
  have hbA : ¬ (fun q : Nat => s.heap.size ≤ q) b := Nat.not_le.mpr hbl
  have hj1 : vp_in (nI i + 1) L := lw_in (j := 1) (by omega) hL
  obtain ⟨z1, hz1, ez1⟩ := lw_z (xs (nI i + 1).toNatClampNeg)
  have hj2 : vp_in (nI i + 2) L := lw_in (j := 2) (by omega) hL
  obtain ⟨z2, hz2, ez2⟩ := lw_z (xs (nI i + 2).toNatClampNeg)
  refine lv_aload_n hx hb dL_law_1091 rfl (lv_at hl 2 rfl) ?_
  refine lv_aload_n hx hb dL_law_1092 rfl (lv_at hl 3 rfl) ?_
  refine lv_iload_n hx hb dL_law_1093 rfl (lv_at hl 0 rfl) ?_
  refine lv_iconst (v := 1) hx hb dL_law_1094 (by decide) ?_
  refine lv_iadd hx hb dL_law_1095 ?_
  refine va_sld hx hb hXs hbl hbA hS hj1 dL_law_1096 ?_
  rw [ez1]
  refine lv_aload_n hx hb dL_law_1097 rfl (lv_at hl 3 rfl) ?_
  refine lv_iload_n hx hb dL_law_1098 rfl (lv_at hl 0 rfl) ?_
  refine lv_iconst (v := 2) hx hb dL_law_1099 (by decide) ?_
  refine lv_iadd hx hb dL_law_1100 ?_
  refine va_sld hx hb hXs hbl hbA hS hj2 dL_law_1101 ?_
  rw [ez2]
  obtain ⟨Q1, hct, hq1⟩ := st_write hR z1 z2
  refine lw_call (g := mX5_write) (k := 0) (ci := 5) (T := TX5) (N := 13) (idx := 140) (n := 2) (as := [vI z1, vI z2]) (rest := []) (ad := ad) (cA := cA) (D := D) hX dL_law_1102 wm_909 mo_X5_write rfl rfl rfl ⟨Nat.le_of_ble_eq_true rfl, Nat.le_of_ble_eq_true rfl⟩ (Nat.le_of_ble_eq_true rfl) hl.1 (cVs_c (show cV (vR 0) from trivial) (cVs_c hz1 (cVs_c hz2 cVs_nil))) hcd hP hS hct (fun r E H locs hok hcd hq hP hS => ?_)
  obtain ⟨x, rfl, hxc⟩ : ∃ z, r = some (vI z) ∧ c32 z := hok
  refine W.eq (g2 := F0 m 1105 ls [.int (Int32.ofInt x)]) rfl ?_
  obtain ⟨Q2, hct2, hq2⟩ := hq1 _ _ hq
  refine lv_aload_n hx hb dL_law_1105 rfl (lv_at hl 1 rfl) ?_
  refine lv_aload_n hx hb dL_law_1106 rfl (lv_at hl 3 rfl) ?_
  refine lv_iload_n hx hb dL_law_1107 rfl (lv_at hl 0 rfl) ?_
  refine lv_iconst (v := 1) hx hb dL_law_1108 (by decide) ?_
  refine lv_iadd hx hb dL_law_1109 ?_
  refine va_sld hx hb hXs hbl hbA hS hj1 dL_law_1110 ?_
  rw [ez1]
  refine lv_aload_n hx hb dL_law_1111 rfl (lv_at hl 3 rfl) ?_
  refine lv_iload_n hx hb dL_law_1112 rfl (lv_at hl 0 rfl) ?_
  refine lv_iconst (v := 2) hx hb dL_law_1113 (by decide) ?_
  refine lv_iadd hx hb dL_law_1114 ?_
  refine va_sld hx hb hXs hbl hbA hS hj2 dL_law_1115 ?_
  rw [ez2]
  refine lw_call (g := mX6_write) (k := 56) (ci := 6) (T := TX6) (N := 29) (idx := 143) (n := 2) (as := [vI z1, vI z2]) (rest := [vI x]) (ad := ad) (cA := cA) (D := E) hX dL_law_1116 wm_913 mo_X6_write rfl rfl rfl ⟨Nat.le_of_ble_eq_true rfl, Nat.le_of_ble_eq_true rfl⟩ (Nat.le_of_ble_eq_true rfl) hl.1 (cVs_c (show cV (vR 56) from trivial) (cVs_c hz1 (cVs_c hz2 cVs_nil))) hcd hP hS hct2 (fun r F H locs hok hcd hq hP hS => ?_)
  obtain ⟨y, rfl, hyc⟩ : ∃ z, r = some (vI z) ∧ c32 z := hok
  obtain ⟨hyx, hR⟩ := hq2 _ _ hq
  have hyx := vIj hyx
  subst hyx
  refine W.eq (g2 := F0 m 1119 ls [.int (Int32.ofInt y), .int (Int32.ofInt y)]) rfl ?_
  exact lv_icmp_eq (tgt := 1161) hx hb dL_law_1119 (by decide) (fun _ => kk _ _ _ ⟨hR, hcd, hP, hS⟩) (fun hne => absurd rfl hne)
set_option maxHeartbeats 4000000 in
set_option maxRecDepth 100000 in
theorem lc_31 {p : Program} {l : Launch} {e : Env} {s : State} {m : MethodId} {below : List Frame} {meth : Method} {c : Code} {H : Heap} {locs : List Loc} {ls : Array Slot} {dC : Nat → ClassId} {dI : Nat → Nat → Nat} {b L i : Nat} {xs : Nat → Int32} {ad : Nat → Nat} {cA : Nat → ClassId} {D : HP} (hX : LX p s m meth c dC dI b L xs ad cA) (hi : i + 6 ≤ L) (hl : lv_has ls 4 [(3, .int (nI i)), (2, .ref (ad 56)), (1, .ref (ad 0)), (0, .ref b)]) (hDn : LDn s dC dI ad cA D H locs) (kk : ∀ (D : HP) (H : Heap) (locs : List Loc), LDn s dC dI ad cA D H locs → W p l e room_1 s m #[Value.ref b] below meth c H locs 80 2717 (lw_Z below #[Value.ref b] s) (F0 m 1161 ls [])) : W p l e room_1 s m #[Value.ref b] below meth c H locs 80 2717 (lw_Z below #[Value.ref b] s) (F0 m 1124 ls []) := by
  obtain ⟨⟨hx, hb, hr, hml, hown, hts, hXs, hbl, hlocks, hgv⟩, hGA, hAd, hK, hL⟩ := id hX
  obtain ⟨hR, hcd, hP, hS⟩ := hDn
  have hbA : ¬ (fun q : Nat => s.heap.size ≤ q) b := Nat.not_le.mpr hbl
  have hj1 : vp_in (nI i + 1) L := lw_in (j := 1) (by omega) hL
  obtain ⟨z1, hz1, ez1⟩ := lw_z (xs (nI i + 1).toNatClampNeg)
  refine lv_aload_n hx hb dL_law_1124 rfl (lv_at hl 2 rfl) ?_
  refine lv_aload_n hx hb dL_law_1125 rfl (lv_at hl 3 rfl) ?_
  refine lv_iload_n hx hb dL_law_1126 rfl (lv_at hl 0 rfl) ?_
  refine lv_iconst (v := 1) hx hb dL_law_1127 (by decide) ?_
  refine lv_iadd hx hb dL_law_1128 ?_
  refine va_sld hx hb hXs hbl hbA hS hj1 dL_law_1129 ?_
  rw [ez1]
  obtain ⟨Q1, hct, hq1⟩ := st_count hR z1
  refine lw_call (g := mX5_count) (k := 0) (ci := 5) (T := TX5) (N := 13) (idx := 144) (n := 1) (as := [vI z1]) (rest := []) (ad := ad) (cA := cA) (D := D) hX dL_law_1130 wm_917 mo_X5_count rfl rfl rfl ⟨Nat.le_of_ble_eq_true rfl, Nat.le_of_ble_eq_true rfl⟩ (Nat.le_of_ble_eq_true rfl) hl.1 (cVs_c (show cV (vR 0) from trivial) (cVs_c hz1 cVs_nil)) hcd hP hS hct (fun r E H locs hok hcd hq hP hS => ?_)
  obtain ⟨x, rfl, hxc⟩ : ∃ z, r = some (vI z) ∧ c32 z := hok
  refine W.eq (g2 := F0 m 1133 ls [.int (Int32.ofInt x)]) rfl ?_
  obtain ⟨Q2, hct2, hq2⟩ := hq1 _ _ hq
  refine lv_aload_n hx hb dL_law_1133 rfl (lv_at hl 1 rfl) ?_
  refine lv_aload_n hx hb dL_law_1134 rfl (lv_at hl 3 rfl) ?_
  refine lv_iload_n hx hb dL_law_1135 rfl (lv_at hl 0 rfl) ?_
  refine lv_iconst (v := 1) hx hb dL_law_1136 (by decide) ?_
  refine lv_iadd hx hb dL_law_1137 ?_
  refine va_sld hx hb hXs hbl hbA hS hj1 dL_law_1138 ?_
  rw [ez1]
  refine lw_call (g := mX6_count) (k := 56) (ci := 6) (T := TX6) (N := 29) (idx := 147) (n := 1) (as := [vI z1]) (rest := [vI x]) (ad := ad) (cA := cA) (D := E) hX dL_law_1139 wm_921 mo_X6_count rfl rfl rfl ⟨Nat.le_of_ble_eq_true rfl, Nat.le_of_ble_eq_true rfl⟩ (Nat.le_of_ble_eq_true rfl) hl.1 (cVs_c (show cV (vR 56) from trivial) (cVs_c hz1 cVs_nil)) hcd hP hS hct2 (fun r F H locs hok hcd hq hP hS => ?_)
  obtain ⟨y, rfl, hyc⟩ : ∃ z, r = some (vI z) ∧ c32 z := hok
  obtain ⟨hyx, hR⟩ := hq2 _ _ hq
  have hyx := vIj hyx
  subst hyx
  refine W.eq (g2 := F0 m 1142 ls [.int (Int32.ofInt y), .int (Int32.ofInt y)]) rfl ?_
  exact lv_icmp_eq (tgt := 1161) hx hb dL_law_1142 (by decide) (fun _ => kk _ _ _ ⟨hR, hcd, hP, hS⟩) (fun hne => absurd rfl hne)
set_option maxHeartbeats 4000000 in
set_option maxRecDepth 100000 in
theorem lc_32 {p : Program} {l : Launch} {e : Env} {s : State} {m : MethodId} {below : List Frame} {meth : Method} {c : Code} {H : Heap} {locs : List Loc} {ls : Array Slot} {dC : Nat → ClassId} {dI : Nat → Nat → Nat} {b L i : Nat} {xs : Nat → Int32} {ad : Nat → Nat} {cA : Nat → ClassId} {D : HP} (hX : LX p s m meth c dC dI b L xs ad cA) (hi : i + 6 ≤ L) (hl : lv_has ls 4 [(3, .int (nI i)), (2, .ref (ad 56)), (1, .ref (ad 0)), (0, .ref b)]) (hDn : LDn s dC dI ad cA D H locs) (kk : ∀ (D : HP) (H : Heap) (locs : List Loc), LDn s dC dI ad cA D H locs → W p l e room_1 s m #[Value.ref b] below meth c H locs 80 2717 (lw_Z below #[Value.ref b] s) (F0 m 1161 ls [])) : W p l e room_1 s m #[Value.ref b] below meth c H locs 80 2717 (lw_Z below #[Value.ref b] s) (F0 m 1147 ls []) := by
  obtain ⟨⟨hx, hb, hr, hml, hown, hts, hXs, hbl, hlocks, hgv⟩, hGA, hAd, hK, hL⟩ := id hX
  obtain ⟨hR, hcd, hP, hS⟩ := hDn
  have hbA : ¬ (fun q : Nat => s.heap.size ≤ q) b := Nat.not_le.mpr hbl
  refine lv_aload_n hx hb dL_law_1147 rfl (lv_at hl 2 rfl) ?_
  obtain ⟨Q1, hct, hq1⟩ := st_digest hR
  refine lw_call (g := mX5_digest) (k := 0) (ci := 5) (T := TX5) (N := 13) (idx := 148) (n := 0) (as := []) (rest := []) (ad := ad) (cA := cA) (D := D) hX dL_law_1148 wm_929 mo_X5_digest rfl rfl rfl ⟨Nat.le_of_ble_eq_true rfl, Nat.le_of_ble_eq_true rfl⟩ (Nat.le_of_ble_eq_true rfl) hl.1 (cVs_c (show cV (vR 0) from trivial) cVs_nil) hcd hP hS hct (fun r E H locs hok hcd hq hP hS => ?_)
  obtain ⟨x, rfl, hxc⟩ : ∃ z, r = some (vL z) ∧ c64 z := hok
  refine W.eq (g2 := F0 m 1151 ls [.long (Int64.ofInt x)]) rfl ?_
  obtain ⟨Q2, hct2, hq2⟩ := hq1 _ _ hq
  refine lv_aload_n hx hb dL_law_1151 rfl (lv_at hl 1 rfl) ?_
  refine lw_call (g := mX6_digest) (k := 56) (ci := 6) (T := TX6) (N := 29) (idx := 152) (n := 0) (as := []) (rest := [vL x]) (ad := ad) (cA := cA) (D := E) hX dL_law_1152 wm_963 mo_X6_digest rfl rfl rfl ⟨Nat.le_of_ble_eq_true rfl, Nat.le_of_ble_eq_true rfl⟩ (Nat.le_of_ble_eq_true rfl) hl.1 (cVs_c (show cV (vR 56) from trivial) cVs_nil) hcd hP hS hct2 (fun r F H locs hok hcd hq hP hS => ?_)
  obtain ⟨y, rfl, hyc⟩ : ∃ z, r = some (vL z) ∧ c64 z := hok
  obtain ⟨hyx, hR⟩ := hq2 _ _ hq
  have hyx := vLj hyx
  subst hyx
  refine W.eq (g2 := F0 m 1155 ls [.long (Int64.ofInt y), .long (Int64.ofInt y)]) rfl ?_
  refine W.lcmp hx hb dL_law_1155 ?_
  exact lv_if_eq (tgt := 1161) hx hb dL_law_1156 (by decide) (fun _ => kk _ _ _ ⟨hR, hcd, hP, hS⟩) (fun hne => absurd lg_same hne)
