/-! ===== constructors: a world that grows ===== -/
abbrev eI (c : ClassId) (n : Nat) : va_E := .inl (c, n, .inl (fun _ => 0))
abbrev eL (c : ClassId) (n : Nat) : va_E := .inl (c, n, .inr (.inl (fun _ => 0)))
abbrev eO (ci : Nat) (fs : List Value) : va_E := .inr (ci, fs)
abbrev eQ (c : ClassId) (n : Nat) (f : Nat → Option Nat) : va_E := .inl (c, n, .inr (.inr (.inr (.inr f))))
def tys3 (cI cB cL : ClassId) : List (ClassId × FieldType) := [(cI, .int), (cB, .boolean), (cL, .long)]
def XAO (U : State) : Prop := (va_AO RX2 U ∧ va_AO RX3 U) ∧ va_Nw (.methodLinkNest RX5 21 yX0_init RX5) U ∧ va_Nw (.methodLinkNest RX5 31 yX4_init RX5) U ∧ va_Nw (.methodLinkNest RX5 69 yX3_init RX5) U ∧ va_Nw (.methodLinkNest RX0 11 yX1_init RX5) U
theorem XAO_warm {s U : State} (hW : s.WarmedH U.vm) (h : XAO s) : XAO U := ⟨⟨h.1.1.moved hW.alike, h.1.2.moved hW.alike⟩, h.2.1.warmM hW, h.2.2.1.warmM hW, h.2.2.2.1.warmM hW, h.2.2.2.2.warmM hW⟩
theorem va_AO_same {C : String} {u U : State} (h : u.vm = U.vm) (hA : va_AO C u) : va_AO C U := hA.moved (by rw [← h]; exact Vm.Alike.refl u.vm)
theorem XAO_same {u U : State} (hv : u.vm = U.vm) (h : XAO u) : XAO U := ⟨⟨va_AO_same hv h.1.1, va_AO_same hv h.1.2⟩, h.2.1.same rfl hv, h.2.2.1.same rfl hv, h.2.2.2.1.same rfl hv, h.2.2.2.2.same rfl hv⟩
/-- a constructor's contract: from its object alone to the world that it makes -/
def NC (y : MethodName) (cc : ByteArray) (maxL fr lo mc ms : Nat) (as : List Value) (e0 : va_E) (cI cB cL : ClassId) (Y : ClassId × ClassId → List (ClassId × FieldType)) (post : Nat → va_W × ClassId × ClassId → Prop) : Prop :=
  ∀ (l : Launch) (dC : Nat → ClassId) (dI : Nat → Nat → Nat) (h0 sz : Nat), Met l y (.code y cc maxL none :: wsL_law) { frames := fr, cells := mc, slots := ms, locals := lo }
    (va_Pc (.ref h0 :: as) (fun U => U.heap.size = sz ∧ va_P (dC, dI) vwCl [(h0, e0)] U.heap ∧ va_K (dC, dI) vwCl (tys3 cI cB cL) U ∧ va_D (fun _ => True) [(h0, e0)] ∧ XAO U))
    (va_Qv (post h0) (fun u t => va_P (dC, dI) vwCl u.1 t.heap ∧ va_D (va_A [(h0, e0)] sz) u.1 ∧ va_K (dC, dI) vwCl (Y u.2) t) (va_A [(h0, e0)] sz)) mc ms (va_A [(h0, e0)] sz)
/-- what stands in a constructor's frame -/
def CF (p : Program) (s : State) (m : MethodId) (args : Array Value) (meth : Method) (c : Code) (y : MethodName) (cc : ByteArray) (maxL : Nat) : Prop :=
  p.tables.exec = Jvm.exec ∧ c.code = cc ∧ meth.sig.returnType = none ∧ (∀ w ∈ wsL_law, w.before args s = true) ∧ s.vm.findClass y.cls = some m.cls ∧ meth.locks = false ∧ c.maxLocals = maxL ∧ meth.name = "<init>"
theorem NC_of {y : MethodName} {cc : ByteArray} {maxL fr lo mc ms : Nat} {as : List Value} {e0 : va_E} {cI cB cL : ClassId} {Y : ClassId × ClassId → List (ClassId × FieldType)} {post : Nat → va_W × ClassId × ClassId → Prop} (hy : plainName y.cls = true) (hn : ∀ h0, (lg_sl (.ref h0 :: as)).length ≤ maxL) (hnm : y.name = "<init>")
    (h : ∀ (l : Launch) (dC : Nat → ClassId) (dI : Nat → Nat → Nat) (h0 : Nat) (p : Program) (e : Env) (s : State) (m : MethodId) (args : Array Value) (below : List Frame) (meth : Method) (c : Code) (ls : Array Slot) (A : Nat → Prop),
      CF p s m args meth c y cc maxL → va_K (dC, dI) vwCl (tys3 cI cB cL) s → XAO s → va_P (dC, dI) vwCl [(h0, e0)] s.heap → va_D A [(h0, e0)] → (∀ q, s.heap.size ≤ q → A q) → va_S A s.heap s.heap [] → lv_has ls maxL (lv_args 0 (.ref h0 :: as)) →
      W p l e { frames := fr, cells := mc, slots := ms, locals := lo } s m args below meth c s.heap [] 0 0 (MQ below (va_Qv (post h0) (fun u t => va_P (dC, dI) vwCl u.1 t.heap ∧ va_D A u.1 ∧ va_K (dC, dI) vwCl (Y u.2) t) A) args s mc ms A) (F0 m 0 ls [])) : NC y cc maxL fr lo mc ms as e0 cI cB cL Y post := by
  intro l dC dI h0 sz
  refine Met.ofW (cc := cc) (maxL := maxL) (ret := none) hy rfl ?_
  intro p e s m args below meth c s₁ B hml hv
  obtain ⟨rfl, hsz, hP, hK, hD0, hX⟩ := hv
  have hts := atoms_spec (ws := .code y cc maxL none :: wsL_law) B.pre
  have hown : s.vm.findClass y.cls = some m.cls := findClass_of_methodNamed B.named
  have hin : meth.name = "<init>" := (name_of_methodNamed B.named B.method).1.trans hnm
  subst hsz
  have hD := hD0.self (sz := s.heap.size)
  have hA : ∀ q : Nat, s.heap.size ≤ q → va_A [(h0, e0)] s.heap.size q := fun q h => Or.inr h
  have hl := lv_entry (.ref h0 :: as) (n := maxL) (hn h0)
  rw [lg_entry_eq]
  exact h l dC dI h0 p e s m _ below meth c _ _ ⟨B.exec, B.bytes, B.returns, fun w hw => hts w (List.mem_cons_of_mem _ hw), hown, B.notSynchronized, hml, hin⟩ hK hX hP hD hA va_S.rf hl
theorem ra_inj {s : State} {c1 c2 : ClassId} : ∀ {ty : FieldType}, (ty = .int ∨ ty = .boolean ∨ ty = .long) → va_RA s c1 ty → va_RA s c2 ty → c1 = c2 := by
  rintro _ (rfl | rfl | rfl) h1 h2 <;> exact Option.some.inj (h1.symm.trans h2)
theorem nd_range' : ∀ (n a : Nat), va_nd (List.range' a n) = true
  | 0, _ => rfl
  | n + 1, a => by
    rw [List.range'_succ]
    have ih := nd_range' n (a + 1)
    have : a ∉ List.range' (a + 1) n := fun h => by
      have := (List.mem_range'_1.mp h).1
      omega
    simp [va_nd, this, ih]
theorem nd_range (n : Nat) : va_nd (List.range n) = true := by
  rw [List.range_eq_range']
  exact nd_range' n 0
section NW
variable {p : Program} {l : Launch} {e : Env} {R : Room} {s : State} {m : MethodId} {args : Array Value} {below : List Frame} {meth : Method} {c : Code} {H : Heap} {locs : List Loc} {cells slots : Nat} {Q : State → Prop}
variable {pc : Nat} {ls : Array Slot} {rest : List Value} {A : Nat → Prop} {H0 : Heap} {dC : Nat → ClassId} {dI : Nat → Nat → Nat} {ws : va_W} {cI cB cL : ClassId} {tys tyr : List (ClassId × FieldType)} {cc : ByteArray}
theorem nw_arr (hx : p.tables.exec = Jvm.exec) (hb : c.code = cc) {atype : ArrayType} {ty : FieldType} (hprim : ty = .int ∨ ty = .boolean ∨ ty = .long) (hty : newarray.typeOf atype = ty) (harr : (Cond.arrayClass (newarray.typeOf atype)).before args s = true) (hK : va_K (dC, dI) vwCl tys s) (t0 : Nat) {cA : ClassId} (ht : tys[t0]? = some (cA, ty)) (hP : va_P (dC, dI) vwCl ws H) (hD : va_D A ws) (hS : va_S A H0 H locs) (hA : ∀ q, H0.size ≤ q → A q)
    {n : Int32} {N' : Nat} {a0 : vp_A} (ha : ∀ cA : ClassId, vp_cell cA a0 = arrV cA N' (fun _ => defaultValue ty)) (hn : ¬ n < 0) (hN : n.toNatClampNeg = N') (hbytes : N' * componentBytes ty ≤ 536870912) (hcells : cells + 1 ≤ R.cells) (hslots : slots + N' ≤ R.slots) (hdg : decode cc pc = .ok (.newarray atype, 2))
    (kk : ∀ (q : Nat) (H1 : Heap), va_P (dC, dI) vwCl (ws ++ [(q, .inl (cA, a0))]) H1 → va_D A (ws ++ [(q, .inl (cA, a0))]) → va_S A H0 H1 locs → W p l e R s m args below meth c H1 locs (cells + 1) (slots + N') Q (F0 m (pc + 2) ls (.ref q :: rest))) : W p l e R s m args below meth c H locs cells slots Q (F0 m pc ls (.int n :: rest)) := by
  refine va_newa hx hb harr hty hK hP hD hS hA ha hn hN hbytes hcells hslots hdg (fun q cA' H1 hK' hP' hD' hS' => ?_)
  have e1 := (hK.2 t0 _ ht).2
  have e2 := (hK'.2 tys.length (cA', ty) (by simp)).2
  have e : cA' = cA := ra_inj hprim e2 e1
  subst e
  exact kk q H1 hP' hD' hS'
/-- what a constructor's call needs of the state -/
theorem nw_pre {q : Nat} {as : List Value} {e0 : va_E} {pre : va_W} (hK : va_K (dC, dI) vwCl (tys3 cI cB cL ++ tyr) s) (hX : XAO s) (hP : va_P (dC, dI) vwCl (pre ++ [(q, e0)]) H) : PreS s H (va_Pc (.ref q :: as) (fun U => U.heap.size = H.size ∧ va_P (dC, dI) vwCl [(q, e0)] U.heap ∧ va_K (dC, dI) vwCl (tys3 cI cB cL) U ∧ va_D (fun _ => True) [(q, e0)] ∧ XAO U)) (.ref q :: as) := by
  have hK3 : va_K (dC, dI) vwCl (tys3 cI cB cL) s := ⟨hK.1, fun k x hx => hK.2 k x (by rw [List.getElem?_append_left (List.getElem?_eq_some_iff.mp hx).1]; exact hx)⟩
  have hlast : (pre ++ [(q, e0)])[pre.length]? = some (q, e0) := by simp
  have hPc : va_P (dC, dI) vwCl [(q, e0)] H := fun k x hx => by
    have hk : k < 1 := (List.getElem?_eq_some_iff.mp hx).1
    rw [show k = 0 by omega] at hx
    exact hP pre.length x (by rw [hlast]; exact hx)
  have hDc : va_D (fun _ => True) [(q, e0)] := ⟨fun i j a b hi hj _ => by
    have h1 : i < 1 := (List.getElem?_eq_some_iff.mp hi).1
    have h2 : j < 1 := (List.getElem?_eq_some_iff.mp hj).1
    omega, fun _ _ _ => trivial⟩
  exact ⟨fun a U g mk z => by
      obtain ⟨z0, z1, zP, zK, zD, zX⟩ := z
      exact ⟨z0, z1, zP, va_K.moved (u := U) (U := U.calling g mk a) (Vm.Alike.refl U.vm) zK, zD, XAO_same (u := U) (U := U.calling g mk a) rfl zX⟩, fun U hU hW => ⟨rfl, by rw [hU], by rw [hU]; exact hPc, va_K.moved hW.alike hK3, hDc, XAO_warm hW hX⟩⟩
theorem nw_back {mc ms q : Nat} {st0 : List Value} {e0 : va_E} {Y : ClassId × ClassId → List (ClassId × FieldType)} {post : Nat → va_W × ClassId × ClassId → Prop} {pre : va_W} {av : Array Value}
    (hrun : va_Run p l e R s m args below meth c H locs cells slots mc ms (F0 m pc ls st0) rest (va_Qv (post q) (fun u t => va_P (dC, dI) vwCl u.1 t.heap ∧ va_D (va_A [(q, e0)] H.size) u.1 ∧ va_K (dC, dI) vwCl (Y u.2) t) (va_A [(q, e0)] H.size) av) (va_A [(q, e0)] H.size))
    (hP : va_P (dC, dI) vwCl (pre ++ [(q, e0)]) H) (hD : va_D A (pre ++ [(q, e0)])) (hS : va_S A H0 H locs) (hA : ∀ q, H0.size ≤ q → A q)
    (kk : ∀ (u : va_W) (c4 c5 : ClassId) (H1 : Heap) (locs1 : List Loc), post q (u, c4, c5) → va_P (dC, dI) vwCl (pre ++ u) H1 → va_D A (pre ++ u) → va_S A H0 H1 locs1 → va_K (dC, dI) vwCl (Y (c4, c5)) s → W p l e R s m args below meth c H1 locs1 (cells + mc) (slots + ms) Q (F0 m (pc + 3) ls rest)) : W p l e R s m args below meth c H locs cells slots Q (F0 m pc ls st0) := by
  have hFc := va_free (wc := [(q, e0)]) hD hS hA [pre.length] (by simp)
  refine va_callv hrun hS (fun q _ h => hFc q h) hFc (fun u t H1 locs1 ht hvm hw2 hB hz1 hk1 hS1 => ?_)
  obtain ⟨u, c4, c5⟩ := u
  obtain ⟨hP1, hD1, hK1⟩ := hB
  rw [ht] at hP1
  obtain ⟨hP2, hD2⟩ := va_join (wr := pre) (w1 := u) hP hD [pre.length] (List.range pre.length) (by simp) (by
    refine List.ext_getElem? fun i => ?_
    simp only [List.getElem?_map]
    by_cases hi : i < pre.length
    · rw [List.getElem?_range hi]
      show some ((pre ++ [(q, e0)])[i]?) = Option.map some pre[i]?
      rw [List.getElem?_append_left hi, List.getElem?_eq_getElem hi]
      rfl
    · simp [hi]) (nd_range pre.length) (fun i hi => by
    have := List.mem_range.mp hi
    simp only [List.mem_singleton]
    omega) hk1 hFc hP1 hD1
  exact kk u c4 c5 H1 locs1 hw2 hP2 hD2 hS1 (va_K.moved hvm.symm hK1)
/-- the call of a constructor on the object that was made last -/
theorem nw_call {own : String} {nL n idx : Nat} {y : MethodName} {bytes : ByteArray} {maxL fr lo mc ms q : Nat} {as : List Value} {e0 : va_E} {Y : ClassId × ClassId → List (ClassId × FieldType)} {post : Nat → va_W × ClassId × ClassId → Prop} {pre : va_W}
    (hfix : CallFix p m c cc nL s args wsL_law own) (hnc : NC y bytes maxL fr lo mc ms as e0 cI cB cL Y post) (hw : Cond.code y bytes maxL none ∈ wsL_law) (hini : Cond.initialized y.cls ∈ wsL_law) (hlk : Cond.methodLink own idx y ∈ wsL_law) (hin : Cond.instanceMethod y ∈ wsL_law) (hy1 : y.name = "<init>") (hd : y.cls ≠ "java/lang/invoke/MethodHandle" ∧ y.cls ≠ "java/lang/invoke/VarHandle" ∧ (parseMethodDescriptor y.desc).map (fun d => d.parameters.length) = some n) (hR : fr + 1 ≤ R.frames ∧ 8 + (maxL + 11) + lo ≤ R.locals)
    (hn : as.length = n) (hsz : ls.size = nL) (hrest : (rest.map fun v => v.category).sum ≤ 8) (hdg : decode cc pc = .ok (.invokespecial idx, 3)) (hcs : cells + mc ≤ R.cells ∧ slots + ms ≤ R.slots)
    (hK : va_K (dC, dI) vwCl (tys3 cI cB cL ++ tyr) s) (hX : XAO s) (hP : va_P (dC, dI) vwCl (pre ++ [(q, e0)]) H) (hD : va_D A (pre ++ [(q, e0)])) (hS : va_S A H0 H locs) (hA : ∀ q, H0.size ≤ q → A q)
    (kk : ∀ (u : va_W) (c4 c5 : ClassId) (H1 : Heap) (locs1 : List Loc), post q (u, c4, c5) → va_P (dC, dI) vwCl (pre ++ u) H1 → va_D A (pre ++ u) → va_S A H0 H1 locs1 → va_K (dC, dI) vwCl (Y (c4, c5)) s → W p l e R s m args below meth c H1 locs1 (cells + mc) (slots + ms) Q (F0 m (pc + 3) ls rest)) : W p l e R s m args below meth c H locs cells slots Q (F0 m pc ls (as.reverse ++ .ref q :: rest)) := by
  have hgood : GoodIn wsL_law (.code y bytes maxL none :: wsL_law) := good_mem (fun w h => (List.mem_cons.mp h).elim (fun e => by rw [e]; exact hw) id)
  exact nw_back (va_runI (p := p) (l := l) (e := e) (R := R) (s := s) (m := m) (args := args) (below := below) (meth := meth) (c := c) (H := H) (locs := locs) (cells := cells) (slots := slots) (As := as) (rest := rest) (b := q) (g := F0 m pc ls (as.reverse ++ .ref q :: rest)) hfix (hnc l dC dI q H.size) (cwI n hfix.2.2.2.2 hgood rfl rfl rfl (hfix.2.2.2.2 _ hini) (hfix.2.2.2.2 _ hlk) (hfix.2.2.2.2 _ hin) hy1 hd hR) (nw_pre hK hX hP) rfl hn hsz rfl (lv_room hrest) hdg hcs) hP hD hS hA kk
/-- the same, of a class of one nest -/
theorem nw_callN {own host : String} {nL n idx : Nat} {y : MethodName} {bytes : ByteArray} {maxL fr lo mc ms q : Nat} {as : List Value} {e0 : va_E} {Y : ClassId × ClassId → List (ClassId × FieldType)} {post : Nat → va_W × ClassId × ClassId → Prop} {pre : va_W}
    (hfix : CallFix p m c cc nL s args wsL_law own) (hnc : NC y bytes maxL fr lo mc ms as e0 cI cB cL Y post) (hw : Cond.code y bytes maxL none ∈ wsL_law) (hini : Cond.initialized y.cls ∈ wsL_law) (hlk : va_Nw (.methodLinkNest own idx y host) s) (hin : Cond.instanceMethod y ∈ wsL_law) (hy1 : y.name = "<init>") (hd : y.cls ≠ "java/lang/invoke/MethodHandle" ∧ y.cls ≠ "java/lang/invoke/VarHandle" ∧ (parseMethodDescriptor y.desc).map (fun d => d.parameters.length) = some n) (hR : fr + 1 ≤ R.frames ∧ 8 + (maxL + 11) + lo ≤ R.locals)
    (hn : as.length = n) (hsz : ls.size = nL) (hrest : (rest.map fun v => v.category).sum ≤ 8) (hdg : decode cc pc = .ok (.invokespecial idx, 3)) (hcs : cells + mc ≤ R.cells ∧ slots + ms ≤ R.slots)
    (hK : va_K (dC, dI) vwCl (tys3 cI cB cL ++ tyr) s) (hX : XAO s) (hP : va_P (dC, dI) vwCl (pre ++ [(q, e0)]) H) (hD : va_D A (pre ++ [(q, e0)])) (hS : va_S A H0 H locs) (hA : ∀ q, H0.size ≤ q → A q)
    (kk : ∀ (u : va_W) (c4 c5 : ClassId) (H1 : Heap) (locs1 : List Loc), post q (u, c4, c5) → va_P (dC, dI) vwCl (pre ++ u) H1 → va_D A (pre ++ u) → va_S A H0 H1 locs1 → va_K (dC, dI) vwCl (Y (c4, c5)) s → W p l e R s m args below meth c H1 locs1 (cells + mc) (slots + ms) Q (F0 m (pc + 3) ls rest)) : W p l e R s m args below meth c H locs cells slots Q (F0 m pc ls (as.reverse ++ .ref q :: rest)) := by
  have hgood : GoodIn wsL_law (.code y bytes maxL none :: wsL_law) := good_mem (fun w h => (List.mem_cons.mp h).elim (fun e => by rw [e]; exact hw) id)
  exact nw_back (va_runIN (p := p) (l := l) (e := e) (R := R) (s := s) (m := m) (args := args) (below := below) (meth := meth) (c := c) (H := H) (locs := locs) (cells := cells) (slots := slots) (As := as) (rest := rest) (b := q) (g := F0 m pc ls (as.reverse ++ .ref q :: rest)) hfix (hnc l dC dI q H.size) ⟨va_cnB n hfix.2.2.2.2 hgood rfl rfl rfl hlk (hfix.2.2.2.2 _ hini) hd hR, hy1, hfix.2.2.2.2 _ hin⟩ (nw_pre hK hX hP) rfl hn hsz rfl (lv_room hrest) hdg hcs) hP hD hS hA kk
end NW
