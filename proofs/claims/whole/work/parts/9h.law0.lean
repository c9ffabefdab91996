/-! THE CLAIM OUT OF ONE WALK OF THE LAW'S BODY. Your part is whole_start (and what it stands on); all else here is the same for every law, but numbers. -/
def R_law : String := "ElectingWindLaw"
def lw_P (b : Addr) (xs : List Int32) (args : Array Value) (s : State) : Prop := args = #[.ref b] ∧ s.IntsAt b xs ∧ xs.length ≤ 3072 ∧ (Jvm.Cond.and given_1 narrow_1).before args s = true
def lw_Q (_ : Array Value) (s : State) (o : Outcome) (t : State) : Prop := o = .returned (some (.int 1)) ∧ Framed s o t [] 600000 7302250
def lw_Z (below : List Frame) (a : Array Value) (s : State) : State → Prop := fun t => ∃ o, t.status = .running ∧ Ended t below o ∧ lw_Q a s o t
/-- the law's own end, with 1 on the stack, nothing written that was there before, its room as the claim has it -/
theorem lw_ret {p : Program} {l : Launch} {e : Env} {s : State} {m : MethodId} {below : List Frame} {meth : Method} {c : Code} {b : Nat} (hx : p.tables.exec = Jvm.exec) (hb : c.code = code) (hr : meth.sig.returnType = ret) (hlocks : meth.locks = false) {pc : Nat} {H : Heap} {ls : Array Slot} (hdg : decode code pc = .ok (.ireturn, 1)) : W p l e room_1 s m #[Value.ref b] below meth c H [] 600000 7302250 (lw_Z below #[Value.ref b] s) (F0 m pc ls [.int 1]) := by
  intro T hT X
  obtain ⟨fs, hret, hrun, hended, hW, hframe⟩ := X.leave (v := some (.int 1)) (hlocks := hlocks) (fun h => by rw [hr] at h; cases h)
  have hmeth' : T.vm.method? m = some meth := X.method'
  refine ⟨T.setFrames fs, ?_, .returned (some (.int 1)), hrun, hended, rfl, ⟨_, rfl⟩, hW, hframe⟩
  jvm_step X.here [X.here.top, hx, hb, hdg, hmeth', hr, ret, narrow_b1]
  (try refine ⟨rfl, ?_⟩); (try refine ⟨rfl, ?_⟩)
  first | (intro acts; rw [hret _ acts rfl rfl rfl]) | rw [hret _ _ rfl rfl rfl]
  exact Steps.refl _
/-- what holds at the law's entry: the machine, the code, the tables' words (any of lw_tbl by 'hts w (by decide +kernel)'), the script of L ints xs at the cell b, what the Statement gives of the start (any of its parts by flat_of_before) -/
def lw_At (p : Program) (s : State) (m : MethodId) (meth : Method) (c : Code) (b L : Nat) (xs : Nat → Int32) : Prop :=
  p.tables.exec = Jvm.exec ∧ c.code = code ∧ meth.sig.returnType = ret ∧ c.maxLocals = 4 ∧ s.vm.findClass R_law = some m.cls ∧ (∀ w ∈ lw_tbl, w.before #[Value.ref b] s = true) ∧ va_X b L xs s s.heap ∧ b < s.heap.size ∧ meth.locks = false ∧ (Jvm.Cond.and given_1 narrow_1).before #[Value.ref b] s = true
/-! ===== the law's calls ===== -/
/-- what stands at the law's entry, and its two objects, at script place i -/
def LX (p : Program) (s : State) (m : MethodId) (meth : Method) (c : Code) (dC : Nat → ClassId) (dI : Nat → Nat → Nat) (b L : Nat) (xs : Nat → Int32) (ad : Nat → Nat) (cA : Nat → ClassId) : Prop :=
  lw_At p s m meth c b L xs ∧ GA ad ∧ (∀ k, k < 80 → s.heap.size ≤ ad k) ∧ va_K (dC, dI) vwCl (tysOf cA) s ∧ L ≤ 3072
/-- the two programs in the heap -/
def LDn (s : State) (dC : Nat → ClassId) (dI : Nat → Nat → Nat) (ad : Nat → Nat) (cA : Nat → ClassId) (D : HP) (H : Heap) (locs : List Loc) : Prop :=
  RLB D ∧ cD D ∧ va_P (dC, dI) vwCl (WD ad cA D) H ∧ va_S (fun q => s.heap.size ≤ q) s.heap H locs
section LAWC
variable {p : Program} {l : Launch} {e : Env} {s : State} {m : MethodId} {below : List Frame} {meth : Method} {c : Code} {H : Heap} {locs : List Loc} {Q : State → Prop} {pc : Nat} {ls : Array Slot}
variable {dC : Nat → ClassId} {dI : Nat → Nat → Nat} {b L : Nat} {xs : Nat → Int32} {ad : Nat → Nat} {cA : Nat → ClassId} {D : HP}
theorem lw_call {g : MI} {k ci idx n : Nat} {T : u_T} {N : Nat} {as rest : List MV} {Qg : Option MV → HP → Prop} (hX : LX p s m meth c dC dI b L xs ad cA) (hd : decode code pc = .ok (.invokevirtual idx, 3)) (hl0 : Cond.methodLink RL idx g.1 ∈ wsL_law) (hm : MOv g n) (hk : kc k = (0, ci)) (hci : vwCl[ci]? = some (g.1.cls, T, N)) (hlen : as.length = n) (hR : g.2.2.2.2.1 + 1 ≤ 13 ∧ 8 + (g.2.2.1 + 11) + g.2.2.2.2.2 ≤ 538) (hrest : (rest.map (fun v => if v.1 = 1 then 2 else 1)).sum ≤ 8)
    (hsz : ls.size = 4) (has : cVs (vR k :: as)) (hcd : cD D) (hP : va_P (dC, dI) vwCl (WD ad cA D) H) (hS : va_S (fun q => s.heap.size ≤ q) s.heap H locs) (hct : CT g (vR k :: as) D Qg)
    (hn : ∀ (r : Option MV) (D' : HP) (H1 : Heap) (locs1 : List Loc), okR g.2.2.2.1 r → cD D' → Qg r D' → va_P (dC, dI) vwCl (WD ad cA D') H1 → va_S (fun q => s.heap.size ≤ q) s.heap H1 locs1 → W p l e room_1 s m #[Value.ref b] below meth c H1 locs1 80 2717 Q (F0 m (pc + 3) ls ((r.map (reV ad)).toList ++ rest.map (reV ad)))) : W p l e room_1 s m #[Value.ref b] below meth c H locs 80 2717 Q (F0 m pc ls ((as.map (reV ad)).reverse ++ .ref (ad k) :: rest.map (reV ad))) := by
  obtain ⟨⟨hx, hb, hr, hml, hown, hts, hXs, hbl, hlocks, hgv⟩, hGA, hAd, hK, hL⟩ := hX
  have h80 := kc_lt hk (by decide)
  have htl : ∀ w ∈ wsL_law, w.before #[Value.ref b] s = true := fun w hw => hts w (wsL_law_in w hw)
  have hgood : GoodIn wsL_law (wsV RL idx g.1.cls g.1 (wsO g)) := good_mem (fun w hw => by
    rcases List.mem_append.mp hw with h | h
    · simp only [List.mem_cons, List.not_mem_nil, or_false] at h
      rcases h with rfl | rfl | rfl | rfl
      · exact hl0
      · exact hm.1
      · exact hm.2.1
      · exact hm.2.2.1
    · exact wsO_mem hm.2.2.2.1 w h)
  have hrun := va_runV (p := p) (l := l) (e := e) (R := room_1) (s := s) (m := m) (args := #[Value.ref b]) (below := below) (meth := meth) (c := c) (H := H) (locs := locs) (cells := 80) (slots := 2717) (As := as.map (reV ad)) (rest := rest.map (reV ad)) (b := ad k) (g := F0 m pc ls ((as.map (reV ad)).reverse ++ .ref (ad k) :: rest.map (reV ad))) ⟨hx, hb, hml, hown, htl⟩ (hct has hcd l ad cA dC dI hGA) (cwV n htl hgood rfl rfl rfl ⟨rfl, hm.2.2.2.2⟩ hR)
    ⟨PX_blind, va_recv hK hP (ci := ci) (q0 := k) (fs := (List.range (nf ci)).map (fV ad D k ci)) hci (by rw [WD_at _ _ _ h80]; simp only [cellOf, hk]), fun U hU hW => ⟨rfl, by rw [hU]; exact hP, va_K.moved hW.alike hK⟩⟩ rfl (by rw [List.length_map]; exact hlen) hsz rfl (lv_room (cat_sum hrest)) hd ⟨Nat.le_of_ble_eq_true rfl, Nat.le_of_ble_eq_true rfl⟩
  intro T hT X
  obtain ⟨v, st₀, t, T', L', h0, X', hL', e1, e2, ⟨⟨r, D', hv, hok, hcd', hq, hp⟩, hz, hkk⟩, st⟩ := hrun T hT X
  cases hv
  rw [h0] at hz hkk
  have hAW : ∀ q, AW ad q → s.heap.size ≤ q := fun q ⟨k, hk, e⟩ => by rw [e]; exact hAd k hk
  obtain ⟨t2, a1, b1⟩ := hn r D' T'.heap (locs ++ L') hok hcd' hq (by rw [e1]; exact hp)
    ⟨Nat.le_trans hS.1 (by rw [e1]; exact hz), fun q h1 h2 => by rw [e1, hkk q (Nat.lt_of_lt_of_le h1 hS.1) (fun h => h2 (hAW q h))]; exact hS.2.1 q h1 h2, fun q hq => by
      rcases List.mem_append.mp hq with h | h
      · exact hS.2.2 q h
      · exact hAW _ (hL' q h)⟩ T' rfl X'
  exact ⟨t2, st t2 a1, b1⟩
/-- a word of the script -/
theorem lw_z (x : Int32) : ∃ z : Int, c32 z ∧ x = Int32.ofInt z := ⟨x.toInt, ⟨by have := Int32.le_toInt x; omega, by have := Int32.toInt_lt x; omega⟩, (ofInt_toInt32 x).symm⟩
theorem lw_in {i j : Nat} (h : i + j < L) (hL : L ≤ 3072) : vp_in (nI i + nI j) L := by
  rw [nI_add]
  exact vp_in_nI h (by omega)
end LAWC
