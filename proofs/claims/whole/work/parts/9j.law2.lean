/-! ===== the law's loop and its entry (made by wip/whole/genloop.py) ===== -/
theorem and63 (w : Int32) : 0 ≤ (w &&& 63).toInt ∧ (w &&& 63).toInt ≤ 63 := by
  have h1 : (w &&& 63).toBitVec.toNat ≤ 63 := by
    rw [Int32.toBitVec_and, BitVec.toNat_and]
    exact Nat.and_le_right
  have h2 : (w &&& 63).toInt = ((w &&& 63).toBitVec.toNat : Int) := by
    show (w &&& 63).toBitVec.toInt = _
    exact BitVec.toInt_eq_toNat_of_lt (by omega)
  omega
theorem sub6 {L : Nat} : Int32.ofNat L - 6 = Int32.ofInt ((L : Int) - 6) := by
  rw [Int32.ofInt_sub]
  rfl
theorem nI_of6 {i L : Nat} (hi : i < 4000) (hL : L ≤ 3072) : Int32.ofNat L - 6 < nI i ↔ ((L : Int) - 6 < i) := by
  rw [sub6, show nI i = Int32.ofInt (i : Int) from rfl, lt32 ⟨by omega, by omega⟩ ⟨by omega, by omega⟩]
set_option maxHeartbeats 4000000 in
set_option maxRecDepth 100000 in
theorem law_loop {p : Program} {l : Launch} {e : Env} {s : State} {m : MethodId} {below : List Frame} {meth : Method} {c : Code} {dC : Nat → ClassId} {dI : Nat → Nat → Nat} {b L : Nat} {xs : Nat → Int32} {ad : Nat → Nat} {cA : Nat → ClassId} (hX : LX p s m meth c dC dI b L xs ad cA) : ∀ (n i : Nat), i ≤ L + 6 → L + 1 ≤ i + n → ∀ (D : HP) (H : Heap) (locs : List Loc) (ls : Array Slot), LDn s dC dI ad cA D H locs → lv_has ls 4 [(3, .int (nI i)), (2, .ref (ad 56)), (1, .ref (ad 0)), (0, .ref b)] → W p l e room_1 s m #[Value.ref b] below meth c H locs 80 2717 (lw_Z below #[Value.ref b] s) (F0 m 18 ls []) := by
  obtain ⟨⟨hx, hb, hr, hml, hown, hts, hXs, hbl, hlocks, hgv⟩, hGA, hAd, hK, hL⟩ := id hX
  have hbA : ¬ (fun q : Nat => s.heap.size ≤ q) b := Nat.not_le.mpr hbl
  intro n
  induction n with
  | zero =>
    intro i hi hin D H locs ls hDn hl
    obtain ⟨hR, hcd, hP, hS⟩ := hDn
    refine lv_iload_n hx hb dL_law_18 rfl (lv_at hl 0 rfl) ?_
    refine lv_aload_n hx hb dL_law_19 rfl (lv_at hl 3 rfl) ?_
    refine va_slen hx hb hXs hbl hbA hS dL_law_20 ?_
    refine lv_bipush (v := 6) hx hb dL_law_21 (by decide) ?_
    refine lv_isub hx hb dL_law_23 ?_
    refine lv_icmp_gt (tgt := 1167) hx hb dL_law_24 (by decide) (fun _ => ?_) (fun hc => absurd ((nI_of6 (by omega) hL).2 (by omega)) hc)
    refine lv_iconst (v := 1) hx hb dL_law_1167 (by decide) ?_
    refine va_forget (fun q hq => hS.2.2 q hq) ?_
    refine W.widen (k := 600000) (n := 7302250) (Nat.le_of_ble_eq_true rfl) (Nat.le_of_ble_eq_true rfl) ?_
    exact lw_ret hx hb hr hlocks dL_law_1168
  | succ n ih =>
    intro i hi hin D H locs ls hDn hl
    obtain ⟨hR, hcd, hP, hS⟩ := id hDn
    refine lv_iload_n hx hb dL_law_18 rfl (lv_at hl 0 rfl) ?_
    refine lv_aload_n hx hb dL_law_19 rfl (lv_at hl 3 rfl) ?_
    refine va_slen hx hb hXs hbl hbA hS dL_law_20 ?_
    refine lv_bipush (v := 6) hx hb dL_law_21 (by decide) ?_
    refine lv_isub hx hb dL_law_23 ?_
    refine lv_icmp_gt (tgt := 1167) hx hb dL_law_24 (by decide) (fun _ => ?_) (fun hc => ?_)
    · refine lv_iconst (v := 1) hx hb dL_law_1167 (by decide) ?_
      refine va_forget (fun q hq => hS.2.2 q hq) ?_
      refine W.widen (k := 600000) (n := 7302250) (Nat.le_of_ble_eq_true rfl) (Nat.le_of_ble_eq_true rfl) ?_
      exact lw_ret hx hb hr hlocks dL_law_1168
    have hi6 : i + 6 ≤ L := by
      rcases Nat.lt_or_ge L (i + 6) with q | q
      · exact absurd ((nI_of6 (by omega) hL).2 (by omega)) hc
      · exact q
    have kk : ∀ (D : HP) (H : Heap) (locs : List Loc), LDn s dC dI ad cA D H locs → W p l e room_1 s m #[Value.ref b] below meth c H locs 80 2717 (lw_Z below #[Value.ref b] s) (F0 m 1161 ls []) := by
      intro D H locs hDn
      refine lv_iinc (v := nI (i + 6)) (lv' := [(3, .int (nI (i + 6))), (2, .ref (ad 56)), (1, .ref (ad 0)), (0, .ref b)]) hx hb dL_law_1161 hl (k := 0) rfl (nI_add i 6) (by decide) rfl (fun ls hl => ?_)
      refine lv_goto (tgt := 18) hx hb dL_law_1164 (by decide) ?_
      exact ih (i + 6) (by omega) (by omega) D H locs ls hDn hl
    refine lv_aload_n hx hb dL_law_27 rfl (lv_at hl 3 rfl) ?_
    refine lv_iload_n hx hb dL_law_28 rfl (lv_at hl 0 rfl) ?_
    refine va_sld hx hb hXs hbl hbA hS (vp_in_nI (by omega) (by omega)) dL_law_29 ?_
    refine lv_bipush (v := 63) hx hb dL_law_30 (by decide) ?_
    refine lv_iand hx hb dL_law_32 ?_
    generalize hw : xs (nI i).toNatClampNeg = w
    have hb63 := and63 w
    generalize w &&& 63 = t at hb63 ⊢
    by_cases h32 : 32 < t.toInt
    · refine lv_tableOut (tgt := 1161) hx hb dL_law_33 (Or.inr h32) (by decide) (kk D H locs hDn)
    rcases (show t.toInt = 0 ∨ t.toInt = 1 ∨ t.toInt = 2 ∨ t.toInt = 3 ∨ t.toInt = 4 ∨ t.toInt = 5 ∨ t.toInt = 6 ∨ t.toInt = 7 ∨ t.toInt = 8 ∨ t.toInt = 9 ∨ t.toInt = 10 ∨ t.toInt = 11 ∨ t.toInt = 12 ∨ t.toInt = 13 ∨ t.toInt = 14 ∨ t.toInt = 15 ∨ t.toInt = 16 ∨ t.toInt = 17 ∨ t.toInt = 18 ∨ t.toInt = 19 ∨ t.toInt = 20 ∨ t.toInt = 21 ∨ t.toInt = 22 ∨ t.toInt = 23 ∨ t.toInt = 24 ∨ t.toInt = 25 ∨ t.toInt = 26 ∨ t.toInt = 27 ∨ t.toInt = 28 ∨ t.toInt = 29 ∨ t.toInt = 30 ∨ t.toInt = 31 ∨ t.toInt = 32 by omega) with hk | hk | hk | hk | hk | hk | hk | hk | hk | hk | hk | hk | hk | hk | hk | hk | hk | hk | hk | hk | hk | hk | hk | hk | hk | hk | hk | hk | hk | hk | hk | hk | hk
    · exact lv_tableIn (off := 147) (tgt := 180) hx hb dL_law_33 (by rw [hk]; decide) (by rw [hk]; decide) (by rw [hk]; rfl) (by decide) (lc_0 hX hi6 hl hDn kk)
    · exact lv_tableIn (off := 180) (tgt := 213) hx hb dL_law_33 (by rw [hk]; decide) (by rw [hk]; decide) (by rw [hk]; rfl) (by decide) (lc_1 hX hi6 hl hDn kk)
    · exact lv_tableIn (off := 203) (tgt := 236) hx hb dL_law_33 (by rw [hk]; decide) (by rw [hk]; decide) (by rw [hk]; rfl) (by decide) (lc_2 hX hi6 hl hDn kk)
    · exact lv_tableIn (off := 226) (tgt := 259) hx hb dL_law_33 (by rw [hk]; decide) (by rw [hk]; decide) (by rw [hk]; rfl) (by decide) (lc_3 hX hi6 hl hDn kk)
    · exact lv_tableIn (off := 249) (tgt := 282) hx hb dL_law_33 (by rw [hk]; decide) (by rw [hk]; decide) (by rw [hk]; rfl) (by decide) (lc_4 hX hi6 hl hDn kk)
    · exact lv_tableIn (off := 272) (tgt := 305) hx hb dL_law_33 (by rw [hk]; decide) (by rw [hk]; decide) (by rw [hk]; rfl) (by decide) (lc_5 hX hi6 hl hDn kk)
    · exact lv_tableIn (off := 305) (tgt := 338) hx hb dL_law_33 (by rw [hk]; decide) (by rw [hk]; decide) (by rw [hk]; rfl) (by decide) (lc_6 hX hi6 hl hDn kk)
    · exact lv_tableIn (off := 338) (tgt := 371) hx hb dL_law_33 (by rw [hk]; decide) (by rw [hk]; decide) (by rw [hk]; rfl) (by decide) (lc_7 hX hi6 hl hDn kk)
    · exact lv_tableIn (off := 371) (tgt := 404) hx hb dL_law_33 (by rw [hk]; decide) (by rw [hk]; decide) (by rw [hk]; rfl) (by decide) (lc_8 hX hi6 hl hDn kk)
    · exact lv_tableIn (off := 404) (tgt := 437) hx hb dL_law_33 (by rw [hk]; decide) (by rw [hk]; decide) (by rw [hk]; rfl) (by decide) (lc_9 hX hi6 hl hDn kk)
    · exact lv_tableIn (off := 437) (tgt := 470) hx hb dL_law_33 (by rw [hk]; decide) (by rw [hk]; decide) (by rw [hk]; rfl) (by decide) (lc_10 hX hi6 hl hDn kk)
    · exact lv_tableIn (off := 460) (tgt := 493) hx hb dL_law_33 (by rw [hk]; decide) (by rw [hk]; decide) (by rw [hk]; rfl) (by decide) (lc_11 hX hi6 hl hDn kk)
    · exact lv_tableIn (off := 483) (tgt := 516) hx hb dL_law_33 (by rw [hk]; decide) (by rw [hk]; decide) (by rw [hk]; rfl) (by decide) (lc_12 hX hi6 hl hDn kk)
    · exact lv_tableIn (off := 496) (tgt := 529) hx hb dL_law_33 (by rw [hk]; decide) (by rw [hk]; decide) (by rw [hk]; rfl) (by decide) (lc_13 hX hi6 hl hDn kk)
    · exact lv_tableIn (off := 529) (tgt := 562) hx hb dL_law_33 (by rw [hk]; decide) (by rw [hk]; decide) (by rw [hk]; rfl) (by decide) (lc_14 hX hi6 hl hDn kk)
    · exact lv_tableIn (off := 552) (tgt := 585) hx hb dL_law_33 (by rw [hk]; decide) (by rw [hk]; decide) (by rw [hk]; rfl) (by decide) (lc_15 hX hi6 hl hDn kk)
    · exact lv_tableIn (off := 575) (tgt := 608) hx hb dL_law_33 (by rw [hk]; decide) (by rw [hk]; decide) (by rw [hk]; rfl) (by decide) (lc_16 hX hi6 hl hDn kk)
    · exact lv_tableIn (off := 598) (tgt := 631) hx hb dL_law_33 (by rw [hk]; decide) (by rw [hk]; decide) (by rw [hk]; rfl) (by decide) (lc_17 hX hi6 hl hDn kk)
    · exact lv_tableIn (off := 631) (tgt := 664) hx hb dL_law_33 (by rw [hk]; decide) (by rw [hk]; decide) (by rw [hk]; rfl) (by decide) (lc_18 hX hi6 hl hDn kk)
    · exact lv_tableIn (off := 644) (tgt := 677) hx hb dL_law_33 (by rw [hk]; decide) (by rw [hk]; decide) (by rw [hk]; rfl) (by decide) (lc_19 hX hi6 hl hDn kk)
    · exact lv_tableIn (off := 667) (tgt := 700) hx hb dL_law_33 (by rw [hk]; decide) (by rw [hk]; decide) (by rw [hk]; rfl) (by decide) (lc_20 hX hi6 hl hDn kk)
    · exact lv_tableIn (off := 700) (tgt := 733) hx hb dL_law_33 (by rw [hk]; decide) (by rw [hk]; decide) (by rw [hk]; rfl) (by decide) (lc_21 hX hi6 hl hDn kk)
    · exact lv_tableIn (off := 723) (tgt := 756) hx hb dL_law_33 (by rw [hk]; decide) (by rw [hk]; decide) (by rw [hk]; rfl) (by decide) (lc_22 hX hi6 hl hDn kk)
    · exact lv_tableIn (off := 746) (tgt := 779) hx hb dL_law_33 (by rw [hk]; decide) (by rw [hk]; decide) (by rw [hk]; rfl) (by decide) (lc_23 hX hi6 hl hDn kk)
    · exact lv_tableIn (off := 790) (tgt := 823) hx hb dL_law_33 (by rw [hk]; decide) (by rw [hk]; decide) (by rw [hk]; rfl) (by decide) (lc_24 hX hi6 hl hDn kk)
    · exact lv_tableIn (off := 833) (tgt := 866) hx hb dL_law_33 (by rw [hk]; decide) (by rw [hk]; decide) (by rw [hk]; rfl) (by decide) (lc_25 hX hi6 hl hDn kk)
    · exact lv_tableIn (off := 876) (tgt := 909) hx hb dL_law_33 (by rw [hk]; decide) (by rw [hk]; decide) (by rw [hk]; rfl) (by decide) (lc_26 hX hi6 hl hDn kk)
    · exact lv_tableIn (off := 899) (tgt := 932) hx hb dL_law_33 (by rw [hk]; decide) (by rw [hk]; decide) (by rw [hk]; rfl) (by decide) (lc_27 hX hi6 hl hDn kk)
    · exact lv_tableIn (off := 952) (tgt := 985) hx hb dL_law_33 (by rw [hk]; decide) (by rw [hk]; decide) (by rw [hk]; rfl) (by decide) (lc_28 hX hi6 hl hDn kk)
    · exact lv_tableIn (off := 995) (tgt := 1028) hx hb dL_law_33 (by rw [hk]; decide) (by rw [hk]; decide) (by rw [hk]; rfl) (by decide) (lc_29 hX hi6 hl hDn kk)
    · exact lv_tableIn (off := 1058) (tgt := 1091) hx hb dL_law_33 (by rw [hk]; decide) (by rw [hk]; decide) (by rw [hk]; rfl) (by decide) (lc_30 hX hi6 hl hDn kk)
    · exact lv_tableIn (off := 1091) (tgt := 1124) hx hb dL_law_33 (by rw [hk]; decide) (by rw [hk]; decide) (by rw [hk]; rfl) (by decide) (lc_31 hX hi6 hl hDn kk)
    · exact lv_tableIn (off := 1114) (tgt := 1147) hx hb dL_law_33 (by rw [hk]; decide) (by rw [hk]; decide) (by rw [hk]; rfl) (by decide) (lc_32 hX hi6 hl hDn kk)
theorem arr_known {s : State} {A : Array Value} {ty : FieldType} (hp : ty = .int ∨ ty = .boolean ∨ ty = .long) (h : (Cond.arrayClass ty).before A s = true) : ∃ cA : ClassId, ArrOfT s cA ty ∧ va_RA s cA ty := by
  obtain ⟨cA, kA, comp, h1, h2, h3⟩ := Cond.arrayClass_spec h
  refine ⟨cA, fun n z => ⟨fun k h => (by cases h), kA, h2, comp, h3⟩, ?_⟩
  rcases hp with rfl | rfl | rfl <;> exact h1
set_option maxHeartbeats 4000000 in
set_option maxRecDepth 100000 in
theorem whole_start {p : Program} {e : Env} {s : State} {m : MethodId} {below : List Frame} {meth : Method} {c : Code} (l : Launch) (hflags : l.flags = flags0) {b L : Nat} {xs : Nat → Int32} (hL : L ≤ 3072) (C0 : lw_At p s m meth c b L xs) : W p l e room_1 s m #[Value.ref b] below meth c s.heap [] 0 0 (lw_Z below #[Value.ref b] s) (entryFrame m ([Value.ref b] : List Value).toArray 4) := by
  obtain ⟨hx, hb, hr, hml, hown, hts, hXs, hbl, hlocks, hgv⟩ := id C0
  have hown : s.vm.findClass RL = some m.cls := hown
  have htl : ∀ w ∈ wsL_law, w.before #[Value.ref b] s = true := fun w hw => hts w (wsL_law_in w hw)
  have hA : ∀ q : Nat, s.heap.size ≤ q → (fun q : Nat => s.heap.size ≤ q) q := fun _ h => h
  obtain ⟨c0, iS0, hKn0⟩ := u_known (C := RX0) (T := TX0) (N := 8) (n := 8) htl inlX0 (htl _ wm_17)
  obtain ⟨c1, iS1, hKn1⟩ := u_known (C := RX1) (T := TX1) (N := 12) (n := 12) htl inlX1 (htl _ wm_43)
  obtain ⟨c2, iS2, hKn2⟩ := u_known (C := RX2) (T := TX2) (N := 3) (n := 3) htl inlX2 (htl _ wm_35)
  obtain ⟨c3, iS3, hKn3⟩ := u_known (C := RX3) (T := TX3) (N := 3) (n := 3) htl inlX3 (htl _ wm_37)
  obtain ⟨c4, iS4, hKn4⟩ := u_known (C := RX4) (T := TX4) (N := 3) (n := 3) htl inlX4 (htl _ wm_22)
  obtain ⟨c5, iS5, hKn5⟩ := u_known (C := RX5) (T := TX5) (N := 13) (n := 13) htl inlX5 (htl _ wm_1)
  obtain ⟨c6, iS6, hKn6⟩ := u_known (C := RX6) (T := TX6) (N := 29) (n := 29) htl inlX6 (htl _ wm_4)
  obtain ⟨dC, dI, hKc⟩ : ∃ (dC : Nat → ClassId) (dI : Nat → Nat → Nat), ∀ (k : Nat) (q : vw_C), vwCl[k]? = some q → u_Kn s q.1 q.2.1 q.2.2 (dC k) (dI k) := by
    refine ⟨fun k => if k = 0 then c0 else if k = 1 then c1 else if k = 2 then c2 else if k = 3 then c3 else if k = 4 then c4 else if k = 5 then c5 else c6, fun k => if k = 0 then iS0 else if k = 1 then iS1 else if k = 2 then iS2 else if k = 3 then iS3 else if k = 4 then iS4 else if k = 5 then iS5 else iS6, ?_⟩
    intro k q hq
    match k, hq with
    | 0, hq => cases hq; exact hKn0
    | 1, hq => cases hq; exact hKn1
    | 2, hq => cases hq; exact hKn2
    | 3, hq => cases hq; exact hKn3
    | 4, hq => cases hq; exact hKn4
    | 5, hq => cases hq; exact hKn5
    | 6, hq => cases hq; exact hKn6
    | k + 7, hq => simp [vwCl] at hq
  obtain ⟨cI, hcI⟩ := arr_known (Or.inl rfl) (htl _ wm_14)
  obtain ⟨cB, hcB⟩ := arr_known (Or.inr (Or.inl rfl)) (htl _ wm_97)
  obtain ⟨cL, hcL⟩ := arr_known (Or.inr (Or.inr rfl)) (htl _ wm_32)
  have hK : va_K (dC, dI) vwCl (tys3 cI cB cL) s := ⟨hKc, fun k x hx => by
    match k, hx with
    | 0, hx => cases hx; exact hcI
    | 1, hx => cases hx; exact hcB
    | 2, hx => cases hx; exact hcL
    | k + 3, hx => simp [tys3] at hx⟩
  have hXA : XAO s := ⟨⟨va_AO.of (hts _ (tb_in 21 (by decide +kernel))), va_AO.of (hts _ (tb_in 137 (by decide +kernel)))⟩, va_Nw.of rfl (hts _ (tb_in 24 (by decide +kernel))), va_Nw.of rfl (hts _ (tb_in 121 (by decide +kernel))), va_Nw.of rfl (hts _ (tb_in 158 (by decide +kernel))), va_Nw.of rfl (hts _ (tb_in 30 (by decide +kernel)))⟩
  have hS : va_S (fun q : Nat => s.heap.size ≤ q) s.heap s.heap [] := va_S.rf
  have hP : va_P (dC, dI) vwCl [] s.heap := fun k q h => by simp at h
  have hD : va_D (fun q : Nat => s.heap.size ≤ q) [] := ⟨fun i j p q h => by simp at h, fun k q h => by simp at h⟩
  have hl := lv_entry ([.ref b]) (n := 4) (Nat.le_of_ble_eq_true rfl)
  rw [lg_entry_eq]
  generalize (lg_sl ([.ref b]) ++ List.replicate (4 - (lg_sl ([.ref b])).length) Slot.unset).toArray = ls at hl ⊢
  have hl : lv_has ls 4 [(0, .ref b)] := hl
  refine va_new (ci := 5) (fs := [.null, .null, .null, .null, .null, .null, .int 0, .int 0, .long 0, .null, .int 0, .null, .null]) (C := RX5) (T := TX5) (N := 13) hx hb htl inlX5 tyX5 tyX5_ok hown (htl _ wm_0) (htl _ wm_1) (htl _ wm_2) hK hP hD hS hA rfl (fun j hj => by rcases (show j = 0 ∨ j = 1 ∨ j = 2 ∨ j = 3 ∨ j = 4 ∨ j = 5 ∨ j = 6 ∨ j = 7 ∨ j = 8 ∨ j = 9 ∨ j = 10 ∨ j = 11 ∨ j = 12 by omega) with rfl | rfl | rfl | rfl | rfl | rfl | rfl | rfl | rfl | rfl | rfl | rfl | rfl <;> rfl) (Nat.le_of_ble_eq_true rfl) (Nat.le_of_ble_eq_true rfl) dL_law_0 (fun q0 H hP hD hS => ?_)
  refine lv_dup hx hb dL_law_3 rfl ?_
  refine nw_call (own := RL) (n := 0) (idx := 9) (as := []) (rest := [.ref q0]) (q := q0) (e0 := eO 5 [.null, .null, .null, .null, .null, .null, .int 0, .int 0, .long 0, .null, .int 0, .null, .null]) (pre := []) (tyr := []) ⟨hx, hb, hml, hown, htl⟩ (nX5_init cI cB cL) wm_8 wm_2 wm_6 wm_7 rfl (by decide +kernel) ⟨Nat.le_of_ble_eq_true rfl, Nat.le_of_ble_eq_true rfl⟩ rfl hl.1 (Nat.le_of_ble_eq_true rfl) dL_law_4 ⟨Nat.le_of_ble_eq_true rfl, Nat.le_of_ble_eq_true rfl⟩ hK hXA hP hD hS hA (fun uE d4 d5 H locs hE hP hD hS hK45 => ?_)
  have hP : va_P (dC, dI) vwCl uE H := hP
  have hD : va_D (fun q : Nat => s.heap.size ≤ q) uE := hD
  refine lv_astore_n (lv' := [(1, .ref q0), (0, .ref b)]) hx hb dL_law_7 rfl hl (by decide) rfl (fun ls hl => ?_)
  refine va_new (ci := 6) (fs := [.null, .null, .int 0, .int 0, .null, .int 0, .null, .null, .int 0, .null, .null, .null, .null, .null, .null, .null, .null, .int 0, .null, .null, .null, .null, .null, .null, .null, .null, .null, .null, .int 0]) (C := RX6) (T := TX6) (N := 29) hx hb htl inlX6 tyX6 tyX6_ok hown (htl _ wm_3) (htl _ wm_4) (htl _ wm_5) hK hP hD hS hA rfl (fun j hj => by rcases (show j = 0 ∨ j = 1 ∨ j = 2 ∨ j = 3 ∨ j = 4 ∨ j = 5 ∨ j = 6 ∨ j = 7 ∨ j = 8 ∨ j = 9 ∨ j = 10 ∨ j = 11 ∨ j = 12 ∨ j = 13 ∨ j = 14 ∨ j = 15 ∨ j = 16 ∨ j = 17 ∨ j = 18 ∨ j = 19 ∨ j = 20 ∨ j = 21 ∨ j = 22 ∨ j = 23 ∨ j = 24 ∨ j = 25 ∨ j = 26 ∨ j = 27 ∨ j = 28 by omega) with rfl | rfl | rfl | rfl | rfl | rfl | rfl | rfl | rfl | rfl | rfl | rfl | rfl | rfl | rfl | rfl | rfl | rfl | rfl | rfl | rfl | rfl | rfl | rfl | rfl | rfl | rfl | rfl | rfl <;> rfl) (Nat.le_of_ble_eq_true rfl) (Nat.le_of_ble_eq_true rfl) dL_law_8 (fun q1 H hP hD hS => ?_)
  refine lv_dup hx hb dL_law_11 rfl ?_
  refine nw_call (own := RL) (n := 0) (idx := 12) (as := []) (rest := [.ref q1]) (q := q1) (e0 := eO 6 [.null, .null, .int 0, .int 0, .null, .int 0, .null, .null, .int 0, .null, .null, .null, .null, .null, .null, .null, .null, .int 0, .null, .null, .null, .null, .null, .null, .null, .null, .null, .null, .int 0]) (pre := uE) (tyr := []) ⟨hx, hb, hml, hown, htl⟩ (nX6_init cI cB cL) wm_93 wm_5 wm_91 wm_92 rfl (by decide +kernel) ⟨Nat.le_of_ble_eq_true rfl, Nat.le_of_ble_eq_true rfl⟩ rfl hl.1 (Nat.le_of_ble_eq_true rfl) dL_law_12 ⟨Nat.le_of_ble_eq_true rfl, Nat.le_of_ble_eq_true rfl⟩ hK hXA hP hD hS hA (fun uM d6 d7 H locs hM hP hD hS _ => ?_)
  obtain ⟨ad, ha0, ha56, hGA, hW, hAd⟩ := WD_0 hE hM hP hD
  subst ha0
  subst ha56
  refine lv_astore_n (lv' := [(2, .ref (ad 56)), (1, .ref (ad 0)), (0, .ref b)]) hx hb dL_law_15 rfl hl (by decide) rfl (fun ls hl => ?_)
  refine lv_iconst (v := 0) hx hb dL_law_16 (by decide) ?_
  refine lv_istore_n (lv' := [(3, .int 0), (2, .ref (ad 56)), (1, .ref (ad 0)), (0, .ref b)]) hx hb dL_law_17 rfl hl (by decide) rfl (fun ls hl => ?_)
  have hK5 : va_K (dC, dI) vwCl (tysOf (cA5 cI cB cL d4 d5)) s := hK.app hK45
  refine W.widen (k := 80) (n := 2717) (Nat.le_of_ble_eq_true rfl) (Nat.le_of_ble_eq_true rfl) ?_
  exact law_loop (cA := cA5 cI cB cL d4 d5) ⟨C0, hGA, hAd, hK5, hL⟩ (L + 1) 0 (Nat.zero_le _) (by omega) D0 H locs ls ⟨RLB_0, D0_c, hW, hS⟩ (by rw [nI_0]; exact hl)
