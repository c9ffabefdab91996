/-! ===== bytes beyond a text's end tell nothing ===== -/
theorem cst_cg {b b' : Nat → Int} : ∀ {k : Nat}, (∀ i, i < k → b i = b' i) → cst b k = cst b' k
  | 0, _ => rfl
  | k + 1, h => by
    have ih := cst_cg (b := b) (b' := b') (k := k) (fun i hi => h i (by omega))
    rw [cst, cst, ih, h k (by omega)]
theorem cbad_cg {b b' : Nat → Int} {k : Nat} (h : ∀ i, i < k + 1 → b i = b' i) : cbad b k = cbad b' k := by
  unfold cbad cR cC cM
  rw [cst_cg (fun i hi => h i (by omega)), h k (by omega)]
theorem cend_cg {b b' : Nat → Int} {n : Nat} (h : ∀ i, i < n → b i = b' i) : cend b n = cend b' n := by
  unfold cend cR cC cM
  rw [cst_cg h]
theorem cfl_cg {b b' : Nat → Int} {n : Nat} (h : ∀ i, i < n → b i = b' i) : cfl b n = cfl b' n := by
  unfold cfl
  rw [fsN_congr (q := cbad b') (fun k hk => cbad_cg (fun i hi => h i (by omega))), cend_cg h]
theorem cwd_cg {b b' : Nat → Int} {n : Nat} (h : ∀ i, i < n → b i = b' i) : cwd b n = cwd b' n := by
  unfold cwd cR cC cM
  rw [cfl_cg h, cst_cg h]
theorem ccl_cg {b b' : Nat → Int} {n : Nat} (h : ∀ i, i < n → b i = b' i) : ccl b n = ccl b' n := by
  unfold ccl cN
  rw [cfl_cg h, cst_cg h]
theorem cW_cg {b b' : Nat → Int} {n : Nat} (h : ∀ i, i < n → b i = b' i) : cW b n = cW b' n := by
  unfold cW
  rw [cst_cg h]
theorem gbad_cg {b b' : Nat → Int} {k : Nat} (h : b k = b' k) : gbad b k = gbad b' k := by unfold gbad; rw [h]
theorem gfl_cg {b b' : Nat → Int} {n : Nat} (h : ∀ i, i < n → b i = b' i) : gfl b n = gfl b' n := by
  unfold gfl
  rw [fsN_congr (q := gbad b') (fun k hk => gbad_cg (h k hk))]
theorem gmn_cg {b b' : Nat → Int} {n : Nat} (h : ∀ i, i < n → b i = b' i) : gmn b n = gmn b' n := by
  unfold gmn
  rw [gfl_cg h]
theorem kbad_cg {b b' : Nat → Int} {k : Nat} (h : b k = b' k) : kbad b k = kbad b' k := by unfold kbad; rw [h]
theorem kfl_cg {b b' : Nat → Int} {n : Nat} (h : ∀ i, i < n → b i = b' i) : kfl b n = kfl b' n := by
  unfold kfl
  rw [fsN_congr (q := kbad b') (fun k hk => kbad_cg (h k hk))]
theorem kcn_cg {b b' : Nat → Int} {n : Nat} (h : ∀ i, i < n → b i = b' i) : kcn b n = kcn b' n := by
  unfold kcn
  rw [kfl_cg h]
theorem gmn_le {b : Nat → Int} {n : Nat} : gmn b n ≤ ((n / 2 : Nat) : Int) := by unfold gmn; split <;> omega
theorem kcn_le {b : Nat → Int} {n : Nat} : kcn b n ≤ (((n + 1) / 5 : Nat) : Int) := by unfold kcn; split <;> omega
theorem CSa_cg {D : HP} {o n : Nat} {b b' : Nat → Int} (h : ∀ i, i < n → b i = b' i) (q : CSa D o n b) : CSa D o n b' := by
  unfold CSa at *
  rw [← ccl_cg h, ← cwd_cg h, ← cW_cg h]
  exact q
theorem CSb_cg {D : HP} {o n : Nat} {b b' : Nat → Int} (h : ∀ i, i < n → b i = b' i) (q : CSb D o n b) : CSb D o n b' := by
  unfold CSb at *
  rw [← gmn_cg h]
  refine ⟨q.1, fun m hm => ?_⟩
  have := gmn_le (b := b) (n := n)
  rw [← h (2 * m) (by omega), ← h (2 * m + 1) (by omega)]
  exact q.2 m hm
theorem CSc_cg {D : HP} {o n : Nat} {b b' : Nat → Int} (h : ∀ i, i < n → b i = b' i) (q : CSc D o n b) : CSc D o n b' := by
  unfold CSc at *
  rw [← kcn_cg h]
  refine ⟨q.1, fun k hk => ?_⟩
  have := kcn_le (b := b) (n := n)
  rw [← h (5 * k) (by omega), ← h (5 * k + 1) (by omega), ← h (5 * k + 2) (by omega), ← h (5 * k + 3) (by omega)]
  exact q.2 k hk
theorem SV_cg {D : HP} {o : Nat} {S T : SC} (h0 : S 0 0 = T 0 0) (h1 : S 0 1 = T 0 1) (hw : ∀ j, S 1 j = T 1 j) (q : SV D o S) : SV D o T := fun w hw' c hc => by
  have b : ∀ c w, bes T c w = bes S c w := fun c w => by unfold bes; rw [h0, h1]
  have l : ∀ c, wal T c = wal S c := fun c => by unfold wal; rw [hw]
  have g := q w hw' c (by rw [h1]; exact hc)
  unfold layS at *
  simp only [b, l]
  exact g
theorem TD3_cg {D : HP} {n0 n1 n2 : Nat} {b0 b1 b2 d0 d1 d2 : Nat → Int} (h0 : ∀ i, i < n0 → b0 i = d0 i) (h1 : ∀ i, i < n1 → b1 i = d1 i) (h2 : ∀ i, i < n2 → b2 i = d2 i) (q : TD3 D n0 n1 n2 b0 b1 b2) : TD3 D n0 n1 n2 d0 d1 d2 := by
  obtain ⟨hM, hV, f0, f1, f2⟩ := q
  refine ⟨CS_abc (CSa_cg h0 (CS_a hM)) (CSb_cg h1 (CS_b hM)) (CSc_cg h2 (CS_c hM)), SV_cg ?_ ?_ ?_ hV, ?_, ?_, ?_⟩
  · exact cwd_cg h0
  · exact ccl_cg h0
  · intro j; exact congrFun (cW_cg h0) j
  · rw [f0, cfl_cg h0]
  · rw [f1, gfl_cg h1]
  · rw [f2, kfl_cg h2]
/-! ===== the class: type, wipe, undo ===== -/
def mxC (a : Nat) : Nat := if a = 0 then 29 else if a = 1 then 24 else 39
theorem isTx {D : HP} {a : Int} : fX5_isText D a = 0 ↔ ¬ (0 ≤ a ∧ a ≤ 2) := by
  unfold fX5_isText
  repeat' split
  all_goals omega
theorem ho3 {a : Int} (h : 0 ≤ a ∧ a ≤ 2) : 2 + a.toNat = 2 ∨ 2 + a.toNat = 3 ∨ 2 + a.toNat = 4 := by omega
theorem C_appendT {D : HP} {o : Nat} (ho : o = 2 ∨ o = 3 ∨ o = 4) {b : Int} (h : 0 ≤ D o 2 ∧ D o 2 < D o 1 ∧ D o 1 ≤ 39) : CT mX2_append [vR o, vI b] D (fun v E => v = none ∧ E = hu (hu D (o + 3) (D o 2).toNat b) o 2 (D o 2 + 1)) := by
  refine V_X2_append ho b (fun _ _ => ⟨fun q => absurd q (by omega), fun _ => ⟨fun q => absurd q (by omega), fun _ => ⟨by omega, fun E3 e3 => ?_⟩⟩⟩)
  have e : E3 o 2 = D o 2 := by rw [e3, hu_k _ _ (by omega)]
  rw [e]
  exact ⟨by unfold c32; omega, fun E5 e5 => ⟨rfl, by rw [e5, e3]⟩⟩
theorem C_shorten {D : HP} {o : Nat} (ho : o = 2 ∨ o = 3 ∨ o = 4) {b : Int} (h : 0 ≤ D o 2 ∧ D o 2 ≤ 39) (hb : 0 ≤ b ∧ b ≤ D o 2) : CT mX2_shorten [vR o, vI b] D (fun v E => v = none ∧ E = hu D o 2 (D o 2 - b)) := by
  refine V_X2_shorten ho b (fun _ _ => ⟨by unfold c32; omega, fun E1 e1 => ⟨rfl, ?_⟩⟩)
  rw [e1]
  congr 1
  split <;> omega
