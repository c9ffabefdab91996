set_option maxRecDepth 20000 in
theorem allGood : wsL_law.all goodWord = true := by decide +kernel
/-! calls -/
def MOv (g : MI) (n : Nat) : Prop := Cond.instanceMethod g.1 ∈ wsL_law ∧ Cond.selects g.1.cls g.1 g.1 ∈ wsL_law ∧ Cond.initialized g.1.cls ∈ wsL_law ∧ Cond.code g.1 g.2.1 g.2.2.1 g.2.2.2.1 ∈ wsL_law ∧ (g.1.cls ≠ "java/lang/invoke/MethodHandle" ∧ g.1.cls ≠ "java/lang/invoke/VarHandle" ∧ (parseMethodDescriptor g.1.desc).map (fun d => d.parameters.length) = some n)
def MOs (g : MI) (n : Nat) : Prop := Cond.static g.1 ∈ wsL_law ∧ Cond.initialized g.1.cls ∈ wsL_law ∧ Cond.code g.1 g.2.1 g.2.2.1 g.2.2.2.1 ∈ wsL_law ∧ (g.1.cls ≠ "java/lang/invoke/MethodHandle" ∧ g.1.cls ≠ "java/lang/invoke/VarHandle" ∧ (parseMethodDescriptor g.1.desc).map (fun d => d.parameters.length) = some n)
theorem wsO_mem {g : MI} (h : Cond.code g.1 g.2.1 g.2.2.1 g.2.2.2.1 ∈ wsL_law) : ∀ w ∈ wsO g, w ∈ wsL_law := fun w hw => (List.mem_cons.mp hw).elim (fun e => e ▸ h) id
theorem good_mem {ws : List Cond} (h : ∀ w ∈ ws, w ∈ wsL_law) : GoodIn wsL_law ws := fun w hw => ⟨h w hw, good_of_word (List.all_eq_true.mp allGood w (h w hw))⟩
/-- the callee's frames and words fit the caller's -/
def RMok (mi g : MI) : Prop := g.2.2.2.2.1 + 1 ≤ mi.2.2.2.2.1 ∧ 8 + (g.2.2.1 + 11) + g.2.2.2.2.2 ≤ mi.2.2.2.2.2
theorem callU {p : Program} {l : Launch} {e : Env} {R : Room} {s : State} {m : MethodId} {args : Array Value} {below : List Frame} {meth : Method} {c : Code} {H : Heap} {locs : List Loc} {Q : State → Prop} {pc : Nat} {ls : Array Slot} {rest st0 : List Value} {a : Array Value} {ret : Option FieldType} {Qg : Option MV → HP → Prop} {ad : Nat → Nat} {cA dC : Nat → ClassId} {dI : Nat → Nat → Nat} {H0 : Heap}
    (hr : va_Run p l e R s m args below meth c H locs 0 0 0 0 (F0 m pc ls st0) rest (QX ret Qg ad cA dC dI a) (AW ad)) (hS : va_S (AW ad) H0 H locs)
    (kk : ∀ (r : Option MV) (D' : HP) (H1 : Heap) (locs1 : List Loc), okR ret r → cD D' → Qg r D' → va_P (dC, dI) vwCl (WD ad cA D') H1 → va_S (AW ad) H0 H1 locs1 → W p l e R s m args below meth c H1 locs1 0 0 Q (F0 m (pc + 3) ls ((r.map (reV ad)).toList ++ rest))) : W p l e R s m args below meth c H locs 0 0 Q (F0 m pc ls st0) := by
  intro T hT X
  obtain ⟨v, st₀, t, T', L, h0, X', hL, e1, e2, ⟨⟨r, D', hv, hok, hcd, hq, hp⟩, hz, hk⟩, st⟩ := hr T hT X
  cases hv
  rw [h0] at hz hk
  obtain ⟨t2, a1, b1⟩ := kk r D' T'.heap (locs ++ L) hok hcd hq (by rw [e1]; exact hp)
    ⟨Nat.le_trans hS.1 (by rw [e1]; exact hz), fun q h1 h2 => by rw [e1, hk q (Nat.lt_of_lt_of_le h1 hS.1) h2]; exact hS.2.1 q h1 h2, fun q hq => by
      rcases List.mem_append.mp hq with h | h
      · exact hS.2.2 q h
      · exact hL q h⟩ T' rfl X'
  exact ⟨t2, st t2 a1, b1⟩
theorem PX_blind {ad : Nat → Nat} {cA dC : Nat → ClassId} {dI : Nat → Nat → Nat} {as : List MV} {D : HP} : FrameBlind (PX ad cA dC dI as D) := fun a U g mk q => by
  obtain ⟨q0, qP, qK⟩ := q
  exact ⟨q0, qP, va_K.moved (u := U) (U := U.calling g mk a) (Vm.Alike.refl U.vm) qK⟩
section CALLS
variable {mi g : MI} {Q Qg : Option MV → HP → Prop} {pc idx n : Nat} {ls st rest as : List MV} {D : HP}
theorem cVs_back {r : Option MV} {ret : Option FieldType} (h : okR ret r) (hr : cVs rest) : cVs (r.toList ++ rest) := by
  refine cVs_app (fun w hw => ?_) hr
  cases r with
  | none => cases hw
  | some v =>
    have hw : w = v := by simpa using hw
    subst hw
    match ret, h with
    | none, h => cases h
    | some .long, ⟨z, h1, h2⟩ => cases h1; exact h2
    | some .int, ⟨z, h1, h2⟩ => cases h1; exact h2
    | some .boolean, ⟨z, h1, h2⟩ => cases h1; exact h2
    | some .byte, ⟨z, h1, h2⟩ => cases h1; exact h2
    | some .char, ⟨z, h1, h2⟩ => cases h1; exact h2
    | some .short, ⟨z, h1, h2⟩ => cases h1; exact h2
    | some .float, ⟨z, h1, h2⟩ => cases h1; exact h2
    | some .double, ⟨z, h1, h2⟩ => cases h1; exact h2
    | some (.object _), ⟨z, h1, h2⟩ => cases h1; exact h2
    | some (.array _), ⟨z, h1, h2⟩ => cases h1; exact h2
theorem toL_map {ad : Nat → Nat} {r : Option MV} : (r.map (reV ad)).toList ++ rest.map (reV ad) = (r.toList ++ rest).map (reV ad) := by cases r <;> rfl
theorem cat_sum {ad : Nat → Nat} (h : (rest.map (fun v => if v.1 = 1 then 2 else 1)).sum ≤ 8) : ((rest.map (reV ad)).map fun v => v.category).sum ≤ 8 := by
  rw [List.map_map, show (fun v : Value => v.category) ∘ reV ad = fun v => if v.1 = 1 then 2 else 1 from funext fun v => reV_cat]
  exact h
theorem WP_callV {k ci : Nat} {T : u_T} {N : Nat} (hd : decode mi.2.1 pc = .ok (.invokevirtual idx, 3)) (hl0 : Cond.methodLink mi.1.cls idx g.1 ∈ wsL_law) (hm : MOv g n) (hk : kc k = (0, ci)) (hci : vwCl[ci]? = some (g.1.cls, T, N)) (hst : as.reverse ++ vR k :: rest = st) (hlen : as.length = n) (hR : RMok mi g) (hrest : (rest.map (fun v => if v.1 = 1 then 2 else 1)).sum ≤ 8)
    (hct : CT g (vR k :: as) D Qg) (hn : ∀ r D', Qg r D' → okR g.2.2.2.1 r → cD D' → WP mi Q (pc + 3) ls (r.toList ++ rest) D') : WP mi Q pc ls st D := by
  subst hst
  intro hl hs hD ad cA dC dI p l e s m args below meth c H lsR locs hA hG hK hP hS hL
  have hsr : cVs rest := fun w hw => hs w (List.mem_append_right _ (List.mem_cons_of_mem _ hw))
  have hsa : cVs (vR k :: as) := cVs_c (show cV (vR k) from trivial) (fun w hw => hs w (List.mem_append_left _ (List.mem_reverse.mpr hw)))
  have h80 := kc_lt hk (by decide)
  have hgood : GoodIn wsL_law (wsV mi.1.cls idx g.1.cls g.1 (wsO g)) := good_mem (fun w hw => by
    rcases List.mem_append.mp hw with h | h
    · simp only [List.mem_cons, List.not_mem_nil, or_false] at h
      rcases h with rfl | rfl | rfl | rfl
      · exact hl0
      · exact hm.1
      · exact hm.2.1
      · exact hm.2.2.1
    · exact wsO_mem hm.2.2.2.1 w h)
  have hrun := va_runV (p := p) (l := l) (e := e) (R := rmO mi) (s := s) (m := m) (args := args) (below := below) (meth := meth) (c := c) (H := H) (locs := locs) (cells := 0) (slots := 0) (As := as.map (reV ad)) (rest := rest.map (reV ad)) (b := ad k) (g := F0 m pc lsR ((as.map (reV ad)).reverse ++ .ref (ad k) :: rest.map (reV ad))) ⟨hG.1, hG.2.1, hG.2.2.2.2.2.2, hG.2.2.2.2.1, hG.2.2.2.1⟩ (hct hsa hD l ad cA dC dI hA) (cwV n hG.2.2.2.1 hgood rfl rfl rfl ⟨rfl, hm.2.2.2.2⟩ hR)
    ⟨PX_blind, va_recv hK hP (ci := ci) (q0 := k) (fs := (List.range (nf ci)).map (fV ad D k ci)) hci (by rw [WD_at _ _ _ h80]; simp only [cellOf, hk]), fun U hU hW => ⟨rfl, by rw [hU]; exact hP, va_K.moved hW.alike hK⟩⟩ rfl (by rw [List.length_map]; exact hlen) hL.1 rfl (lv_room (cat_sum hrest)) hd ⟨Nat.le_refl _, Nat.le_refl _⟩
  rw [List.map_append, List.map_cons, reV_R, List.map_reverse]
  refine callU hrun hS (fun r D' H1 locs1 hok hcd hq hp hS1 => ?_)
  rw [toL_map]
  exact hn r D' hq hok hcd hl (cVs_back hok hsr) hcd ad cA dC dI p l e s m args below meth c H1 lsR locs1 hA hG hK hp hS1 hL
theorem WP_callS (hd : decode mi.2.1 pc = .ok (.invokestatic idx, 3)) (hl0 : Cond.methodLink mi.1.cls idx g.1 ∈ wsL_law) (hm : MOs g n) (hst : as.reverse ++ rest = st) (hlen : as.length = n) (hR : RMok mi g) (hrest : (rest.map (fun v => if v.1 = 1 then 2 else 1)).sum ≤ 8)
    (hct : CT g as D Qg) (hn : ∀ r D', Qg r D' → okR g.2.2.2.1 r → cD D' → WP mi Q (pc + 3) ls (r.toList ++ rest) D') : WP mi Q pc ls st D := by
  subst hst
  intro hl hs hD ad cA dC dI p l e s m args below meth c H lsR locs hA hG hK hP hS hL
  have hsr : cVs rest := fun w hw => hs w (List.mem_append_right _ hw)
  have hsa : cVs as := fun w hw => hs w (List.mem_append_left _ (List.mem_reverse.mpr hw))
  have hgood : GoodIn wsL_law (va_wsS mi.1.cls idx g.1 (wsO g)) := good_mem (fun w hw => by
    rcases List.mem_append.mp hw with h | h
    · simp only [List.mem_cons, List.not_mem_nil, or_false] at h
      rcases h with rfl | rfl | rfl
      · exact hl0
      · exact hm.1
      · exact hm.2.1
    · exact wsO_mem hm.2.2.1 w h)
  have hrun := va_runS (p := p) (l := l) (e := e) (R := rmO mi) (s := s) (m := m) (args := args) (below := below) (meth := meth) (c := c) (H := H) (locs := locs) (cells := 0) (slots := 0) (As := as.map (reV ad)) (rest := rest.map (reV ad)) (g := F0 m pc lsR ((as.map (reV ad)).reverse ++ rest.map (reV ad))) ⟨hG.1, hG.2.1, hG.2.2.2.2.2.2, hG.2.2.2.2.1, hG.2.2.2.1⟩ (hct hsa hD l ad cA dC dI hA) (va_cwS n hG.2.2.2.1 hgood rfl rfl rfl hm.2.2.2 hR)
    ⟨PX_blind, fun U hU hW => ⟨rfl, by rw [hU]; exact hP, va_K.moved hW.alike hK⟩⟩ rfl (by rw [List.length_map]; exact hlen) hL.1 rfl (lv_room (cat_sum hrest)) hd ⟨Nat.le_refl _, Nat.le_refl _⟩
  rw [List.map_append, List.map_reverse]
  refine callU hrun hS (fun r D' H1 locs1 hok hcd hq hp hS1 => ?_)
  rw [toL_map]
  exact hn r D' hq hok hcd hl (cVs_back hok hsr) hcd ad cA dC dI p l e s m args below meth c H1 lsR locs1 hA hG hK hp hS1 hL
/-- Math.max, Math.min -/
theorem WP_max {a b z : Int} (hd : decode mi.2.1 pc = .ok (.invokestatic idx, 3)) (hl0 : Cond.methodLink mi.1.cls idx Lib.Math.max.name ∈ wsL_law) (hw : Cond.static Lib.Math.max.name ∈ wsL_law ∧ Cond.initialized "java/lang/Math" ∈ wsL_law ∧ Cond.code Lib.Math.max.name Lib.Math.max.code 2 (some .int) ∈ wsL_law) (hR : 1 ≤ mi.2.2.2.2.1 ∧ 8 + 13 ≤ mi.2.2.2.2.2) (hrest : (st.map (fun v => if v.1 = 1 then 2 else 1)).sum ≤ 8) (hz : (if a < b then b else a) = z) (hn : WP mi Q (pc + 3) ls (vI z :: st) D) : WP mi Q pc ls (vI b :: vI a :: st) D := by
  subst hz
  intro hl hs hD ad cA dC dI p l e s m args below meth c H lsR locs hA hG hK hP hS hL
  have ca : c32 a := cVs_h (cVs_t hs)
  have cb : c32 b := cVs_h hs
  show W p l e (rmO mi) s m args below meth c H locs 0 0 _ (F0 m pc lsR (.int (Int32.ofInt b) :: .int (Int32.ofInt a) :: st.map (reV ad)))
  have h4 := cat_sum (ad := ad) hrest
  refine va_mmax hG.1 hG.2.1 (hG.2.2.2.2.2.2.trans hL.1.symm) hG.2.2.2.2.1 (hG.2.2.2.1 _ hl0) (hG.2.2.2.1 _ hw.1) (hG.2.2.2.1 _ hw.2.1) (hG.2.2.2.1 _ hw.2.2) hR.1 (Nat.le_trans (Nat.add_le_add_right h4 13) hR.2) (Nat.zero_le _) (Nat.zero_le _) hd ?_
  have e1 : (if Int32.ofInt a < Int32.ofInt b then Int32.ofInt b else Int32.ofInt a) = Int32.ofInt (if a < b then b else a) := by
    by_cases q : a < b
    · rw [if_pos ((lt32 ca cb).mpr q), if_pos q]
    · rw [if_neg (fun r => q ((lt32 ca cb).mp r)), if_neg q]
  rw [e1]
  exact hn hl (cVs_c (by show c32 (if a < b then b else a); split <;> assumption) (cVs_t (cVs_t hs))) hD ad cA dC dI p l e s m args below meth c H lsR locs hA hG hK hP hS hL
theorem WP_min {a b z : Int} (hd : decode mi.2.1 pc = .ok (.invokestatic idx, 3)) (hl0 : Cond.methodLink mi.1.cls idx Lib.Math.min.name ∈ wsL_law) (hw : Cond.static Lib.Math.min.name ∈ wsL_law ∧ Cond.initialized "java/lang/Math" ∈ wsL_law ∧ Cond.code Lib.Math.min.name Lib.Math.min.code 2 (some .int) ∈ wsL_law) (hR : 1 ≤ mi.2.2.2.2.1 ∧ 8 + 13 ≤ mi.2.2.2.2.2) (hrest : (st.map (fun v => if v.1 = 1 then 2 else 1)).sum ≤ 8) (hz : (if b < a then b else a) = z) (hn : WP mi Q (pc + 3) ls (vI z :: st) D) : WP mi Q pc ls (vI b :: vI a :: st) D := by
  subst hz
  intro hl hs hD ad cA dC dI p l e s m args below meth c H lsR locs hA hG hK hP hS hL
  have ca : c32 a := cVs_h (cVs_t hs)
  have cb : c32 b := cVs_h hs
  show W p l e (rmO mi) s m args below meth c H locs 0 0 _ (F0 m pc lsR (.int (Int32.ofInt b) :: .int (Int32.ofInt a) :: st.map (reV ad)))
  have h4 := cat_sum (ad := ad) hrest
  refine va_mmin hG.1 hG.2.1 (hG.2.2.2.2.2.2.trans hL.1.symm) hG.2.2.2.2.1 (hG.2.2.2.1 _ hl0) (hG.2.2.2.1 _ hw.1) (hG.2.2.2.1 _ hw.2.1) (hG.2.2.2.1 _ hw.2.2) hR.1 (Nat.le_trans (Nat.add_le_add_right h4 13) hR.2) (Nat.zero_le _) (Nat.zero_le _) hd ?_
  have e1 : (if Int32.ofInt b < Int32.ofInt a then Int32.ofInt b else Int32.ofInt a) = Int32.ofInt (if b < a then b else a) := by
    by_cases q : b < a
    · rw [if_pos ((lt32 cb ca).mpr q), if_pos q]
    · rw [if_neg (fun r => q ((lt32 cb ca).mp r)), if_neg q]
  rw [e1]
  exact hn hl (cVs_c (by show c32 (if b < a then b else a); split <;> assumption) (cVs_t (cVs_t hs))) hD ad cA dC dI p l e s m args below meth c H lsR locs hA hG hK hP hS hL
/-- System.arraycopy between int arrays -/
def hc (D : HP) (k0 sp k1 dp n : Nat) : HP := fun a b => if a = k1 ∧ dp ≤ b ∧ b < dp + n then D k0 (sp + (b - dp)) else D a b
theorem hc_ne {D : HP} {k0 sp k1 dp n a : Nat} (h : a ≠ k1) (b : Nat) : hc D k0 sp k1 dp n a b = D a b := by simp [hc, h]
theorem cellOf_hc {ad : Nat → Nat} {cA : Nat → ClassId} {D : HP} {k0 sp k1 dp n a : Nat} (h : a ≠ k1) : cellOf ad cA (hc D k0 sp k1 dp n) a = cellOf ad cA D a := by
  have h1 : ∀ j, hc D k0 sp k1 dp n a j = D a j := fun j => hc_ne h j
  have h2 : ∀ c j, fV ad (hc D k0 sp k1 dp n) a c j = fV ad D a c j := fun c j => by unfold fV; rw [h1]
  unfold cellOf
  rw [show (fun j => Int32.ofInt (hc D k0 sp k1 dp n a j)) = (fun j => Int32.ofInt (D a j)) from funext fun j => by rw [h1], show (fun j => Int64.ofInt (hc D k0 sp k1 dp n a j)) = (fun j => Int64.ofInt (D a j)) from funext fun j => by rw [h1], show fV ad (hc D k0 sp k1 dp n) a (kc a).2 = fV ad D a (kc a).2 from funext fun j => h2 _ j]
theorem WP_copy {k0 k1 n0 n1 : Nat} {sp dp n : Int} (hd : decode mi.2.1 pc = .ok (.invokestatic idx, 3)) (hl0 : Cond.methodLink mi.1.cls idx arraycopyName ∈ wsL_law) (hw : Cond.native arraycopyName ∈ wsL_law ∧ Cond.static arraycopyName ∈ wsL_law ∧ Cond.initialized "java/lang/System" ∈ wsL_law) (hR : 1 ≤ mi.2.2.2.2.1 ∧ 8 + (nativeFrameWords "java/lang/System" "arraycopy" 5 + 11) ≤ mi.2.2.2.2.2) (hrest : (st.map (fun v => if v.1 = 1 then 2 else 1)).sum ≤ 8)
    (hk0 : kc k0 = (1, n0)) (hk1 : kc k1 = (1, n1)) (h1 : 0 ≤ sp) (h2 : 0 ≤ dp) (h3 : 0 ≤ n) (h4 : sp + n ≤ n0) (h5 : dp + n ≤ n1) (hn : WP mi Q (pc + 3) ls st (hc D k0 sp.toNat k1 dp.toNat n.toNat)) : WP mi Q pc ls (vI n :: vI dp :: vR k1 :: vI sp :: vR k0 :: st) D := by
  intro hl hs hD ad cA dC dI p l e s m args below meth c H lsR locs hA hG hK hP hS hL
  have cn : c32 n := cVs_h hs
  have cd : c32 dp := cVs_h (cVs_t hs)
  have cs : c32 sp := cVs_h (cVs_t (cVs_t (cVs_t hs)))
  have e80 := kc_lt hk0 (by decide)
  have f80 := kc_lt hk1 (by decide)
  show W p l e (rmO mi) s m args below meth c H locs 0 0 _ (F0 m pc lsR (.int (Int32.ofInt n) :: .int (Int32.ofInt dp) :: .ref (ad k1) :: .int (Int32.ofInt sp) :: .ref (ad k0) :: st.map (reV ad)))
  have h7 := cat_sum (ad := ad) hrest
  refine va_copyi hG.1 hG.2.1 (hG.2.2.2.2.2.2.trans hL.1.symm) hG.2.2.2.2.1 (hG.2.2.2.1 _ hl0) (hG.2.2.2.1 _ hw.1) (hG.2.2.2.1 _ hw.2.1) (hG.2.2.2.1 _ hw.2.2) hK hP (WD_D hA) hS k0 k1 0 0 (a0 := ad k0) (c0 := cA 1) (c1 := cA 1) (n0 := n0) (n1 := n1) (f := fun j => Int32.ofInt (D k0 j)) (g := fun j => Int32.ofInt (D k1 j)) (ty := .int) ?_ ?_ rfl rfl rfl (fun q => absurd ((lt32 cs c0).mp q) (by omega)) (fun q => absurd ((lt32 cd c0).mp q) (by omega)) (fun q => absurd ((lt32 cn c0).mp q) (by omega)) ?_ ?_ (fun i _ => rfl) hR.1 (Nat.le_trans (Nat.add_le_add_right h7 _) hR.2) hd ?_
  · rw [WD_at _ _ _ e80]; simp only [cellOf, hk0]
  · rw [WD_at _ _ _ f80]; simp only [cellOf, hk1]
  · rw [cl32 h1 cs, cl32 h3 cn]; omega
  · rw [cl32 h2 cd, cl32 h3 cn]; omega
  · intro H1 locs1 hP1 _ hS1
    rw [cl32 h1 cs, cl32 h2 cd, cl32 h3 cn] at hP1
    rw [WD_set (D' := hc D k0 sp.toNat k1 dp.toNat n.toNat) f80 (by
      simp only [cellOf, hk1]
      congr 4
      funext j
      unfold hc va_cpy
      by_cases q : dp.toNat ≤ j ∧ j < dp.toNat + n.toNat
      · simp [q]
      · rw [if_neg (fun r => q r.2), if_neg q]) (fun a h => cellOf_hc h)] at hP1
    refine hn hl (cVs_t (cVs_t (cVs_t (cVs_t (cVs_t hs))))) (fun a b => ?_) ad cA dC dI p l e s m args below meth c H1 lsR locs1 hA hG hK hP1 hS1 hL
    unfold hc
    split
    · rename_i q
      have z1 := hD k0 (sp.toNat + (b - dp.toNat))
      rw [show isL k0 (sp.toNat + (b - dp.toNat)) = false from by simp [isL, hk0]] at z1
      rw [q.1, show isL k1 b = false from by simp [isL, hk1]]
      exact z1
    · exact hD a b
end CALLS
