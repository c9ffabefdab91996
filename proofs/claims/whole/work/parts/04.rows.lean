theorem c32_ti (x : Int32) : c32 x.toInt := ⟨x.le_toInt, by have := x.toInt_lt; omega⟩
theorem c64_ti (x : Int64) : c64 x.toInt := ⟨x.le_toInt, by have := x.toInt_lt; omega⟩
theorem bip {z : Int} (h : -128 ≤ z ∧ z ≤ 127) : (Int8.ofInt z).toInt32 = Int32.ofInt z := by
  rw [← Int32.toInt_inj, Int8.toInt_toInt32, ti32 ⟨by omega, by omega⟩, Int8.toInt_ofInt]
  exact Int.bmod_eq_of_le (by have : (Int8.size : Int) = 256 := rfl; omega) (by have : (Int8.size : Int) = 256 := rfl; omega)
theorem sip {z : Int} (h : -32768 ≤ z ∧ z ≤ 32767) : (Int16.ofInt z).toInt32 = Int32.ofInt z := by
  rw [← Int32.toInt_inj, Int16.toInt_toInt32, ti32 ⟨by omega, by omega⟩, Int16.toInt_ofInt]
  exact Int.bmod_eq_of_le (by have : (Int16.size : Int) = 65536 := rfl; omega) (by have : (Int16.size : Int) = 65536 := rfl; omega)
theorem i2l32 {a : Int} (h : c32 a) : (Int32.ofInt a).toInt64 = Int64.ofInt a := by
  rw [← Int64.toInt_inj, Int32.toInt_toInt64, ti32 h, ti64 ⟨by have := h.1; omega, by have := h.2; omega⟩]
theorem div_c {a b : Int} (h : c32 a) (h0 : 0 ≤ a) (h1 : 0 < b) : c32 (a / b) := ⟨by have := Int.ediv_nonneg h0 (Int.le_of_lt h1); omega, by have := Int.ediv_le_self b h0; have := h.2; omega⟩
theorem rem_c {a b : Int} (h : c32 a) (h0 : 0 ≤ a) (h1 : 0 < b) : c32 (a % b) := ⟨by have := Int.emod_nonneg a (Int.ne_of_gt h1); omega, by have := Int.emod_def a b; have := Int.ediv_nonneg h0 (Int.le_of_lt h1); have := Int.mul_nonneg (Int.le_of_lt h1) this; have := h.2; omega⟩
theorem divl_c {a b : Int} (h : c64 a) (h0 : 0 ≤ a) (h1 : 0 < b) : c64 (a / b) := ⟨by have := Int.ediv_nonneg h0 (Int.le_of_lt h1); omega, by have := Int.ediv_le_self b h0; have := h.2; omega⟩
theorem reml_c {a b : Int} (h : c64 a) (h0 : 0 ≤ a) (h1 : 0 < b) : c64 (a % b) := ⟨by have := Int.emod_nonneg a (Int.ne_of_gt h1); omega, by have := Int.emod_def a b; have := Int.ediv_nonneg h0 (Int.le_of_lt h1); have := Int.mul_nonneg (Int.le_of_lt h1) this; have := h.2; omega⟩
theorem div32 {a b : Int} (ha : c32 a) (hb : c32 b) (h0 : 0 ≤ a) (h1 : 0 < b) : Int32.ofInt a / Int32.ofInt b = Int32.ofInt (a / b) := by
  rw [← Int32.toInt_inj, Int32.toInt_div, ti32 ha, ti32 hb, ti32 (div_c ha h0 h1), Int.tdiv_eq_ediv_of_nonneg h0]
  exact w32_id (div_c ha h0 h1)
theorem rem32 {a b : Int} (ha : c32 a) (hb : c32 b) (h0 : 0 ≤ a) (h1 : 0 < b) : Int32.ofInt a - Int32.ofInt a / Int32.ofInt b * Int32.ofInt b = Int32.ofInt (a % b) := by
  rw [div32 ha hb h0 h1, ← Int32.ofInt_mul, ← Int32.ofInt_sub, Int.emod_def, Int.mul_comm]
theorem div64 {a b : Int} (ha : c64 a) (hb : c64 b) (h0 : 0 ≤ a) (h1 : 0 < b) : Int64.ofInt a / Int64.ofInt b = Int64.ofInt (a / b) := by
  rw [← Int64.toInt_inj, Int64.toInt_div, ti64 ha, ti64 hb, ti64 (divl_c ha h0 h1), Int.tdiv_eq_ediv_of_nonneg h0]
  exact w64_id (divl_c ha h0 h1)
theorem rem64 {a b : Int} (ha : c64 a) (hb : c64 b) (h0 : 0 ≤ a) (h1 : 0 < b) : Int64.ofInt a - Int64.ofInt a / Int64.ofInt b * Int64.ofInt b = Int64.ofInt (a % b) := by
  rw [div64 ha hb h0 h1, ← Int64.ofInt_mul, ← Int64.ofInt_sub, Int.emod_def, Int.mul_comm]
theorem ne32 {b : Int} (hb : c32 b) (h1 : 0 < b) : ¬ Int32.ofInt b = 0 := fun q => by
  have := (eq32 hb c0).mp q
  omega
theorem ne64 {b : Int} (hb : c64 b) (h1 : 0 < b) : ¬ Int64.ofInt b = 0 := fun q => by
  have := (eq64 hb (show c64 0 from ⟨by decide, by decide⟩)).mp q
  omega
theorem cmp_c (a b : Int) : c32 (if b < a then 1 else if a = b then 0 else -1) := by
  unfold c32
  split
  · decide
  · split <;> decide
theorem cmp64 {a b : Int} (ha : c64 a) (hb : c64 b) : lg_cmp (Int64.ofInt a) (Int64.ofInt b) = Int32.ofInt (if b < a then 1 else if a = b then 0 else -1) := by
  unfold lg_cmp
  by_cases h1 : b < a
  · rw [if_pos ((lt64 hb ha).mpr h1), if_pos h1]; rfl
  · rw [if_neg (fun q => h1 ((lt64 hb ha).mp q)), if_neg h1]
    by_cases h2 : a = b
    · rw [if_pos (by rw [h2]), if_pos h2]; rfl
    · rw [if_neg (fun q => h2 ((eq64 ha hb).mp q)), if_neg h2]; rfl
theorem nar_z {z : Int} (h : z = 0 ∨ z = 1) : vp_nar .boolean (Int32.ofInt z) = Int32.ofInt z := by rcases h with rfl | rfl <;> rfl
theorem upd_hu {D : HP} {k i : Nat} {z : Int} : (fun j => Int32.ofInt (hu D k i z k j)) = upd (fun j => Int32.ofInt (D k j)) i (Int32.ofInt z) := by
  funext j
  unfold upd hu
  by_cases h : j = i <;> simp [h]
theorem updL_hu {D : HP} {k i : Nat} {z : Int} : (fun j => Int64.ofInt (hu D k i z k j)) = vp_updL (fun j => Int64.ofInt (D k j)) i (Int64.ofInt z) := by
  funext j
  unfold vp_updL hu
  by_cases h : j = i <;> simp [h]
theorem fV_set {ad : Nat → Nat} {D : HP} {k ci j : Nat} {z : Int} {v : Value} (hj : v = fV ad (hu D k j z) k ci j) (h2 : j < nf ci) : (List.range (nf ci)).map (fV ad (hu D k j z) k ci) = ((List.range (nf ci)).map (fV ad D k ci)).set j v := by
  refine List.ext_getElem? fun i => ?_
  rw [List.getElem?_set]
  by_cases h : j = i
  · subst h
    simp [h2, hj]
  · rw [if_neg h]
    by_cases h3 : i < nf ci
    · simp only [List.getElem?_map, List.getElem?_range h3, Option.map_some]
      congr 1
      unfold fV
      rw [hu_i D z (fun q => h q.symm)]
    · simp [h3]
/-! fields by their words -/
def CLok (ci : Nat) (C : String) (T : u_T) (N : Nat) (ty : Nat → FieldType) : Prop := vwCl[ci]? = some (C, T, N) ∧ (∀ w ∈ u_ws C T N, w ∈ wsL_law) ∧ N = nf ci ∧ (∀ k, k < N → parseFieldDescriptor (T k).2.2.1 = some (ty k)) ∧ (∀ a, a < N → ∀ b, b < N → a ≠ b → (T a).2.1 ≠ (T b).2.1)
def FLok (own : String) (idx ci j : Nat) : Prop := ∃ (C : String) (T : u_T) (N : Nat) (ty : Nat → FieldType), CLok ci C T N ty ∧ j < N ∧ Cond.fieldLink own idx (T j).1 (T j).2.1 (T j).2.2.1 ∈ wsL_law
def FPok (own : String) (idx ci j : Nat) (t : FieldType) : Prop := ∃ (C : String) (T : u_T) (N : Nat) (ty : Nat → FieldType), CLok ci C T N ty ∧ j < N ∧ Cond.fieldLink own idx (T j).1 (T j).2.1 (T j).2.2.1 ∈ wsL_law ∧ (T j).2.2.2 = false ∧ parseFieldDescriptor (T j).2.2.1 = some t
section ROWS
variable {mi : MI} {Q : Option MV → HP → Prop} {pc : Nat} {ls st : List MV} {D : HP}
theorem WP_iconst {n z : Int} (hd : decode mi.2.1 pc = .ok (.iconst n, 1)) (hz : n = z) (hc : c32 z) (hn : WP mi Q (pc + 1) ls (vI z :: st) D) : WP mi Q pc ls st D := by
  subst hz
  intro hl hs hD ad cA dC dI p l e s m args below meth c H lsR locs hA hG hK hP hS hL
  exact lv_iconst hG.1 hG.2.1 hd rfl (hn hl (cVs_c hc hs) hD ad cA dC dI p l e s m args below meth c H lsR locs hA hG hK hP hS hL)
theorem WP_bipush {n z : Int} (hd : decode mi.2.1 pc = .ok (.bipush n, 2)) (hz : n = z) (hc : -128 ≤ z ∧ z ≤ 127) (hn : WP mi Q (pc + 2) ls (vI z :: st) D) : WP mi Q pc ls st D := by
  subst hz
  intro hl hs hD ad cA dC dI p l e s m args below meth c H lsR locs hA hG hK hP hS hL
  exact lv_bipush hG.1 hG.2.1 hd (bip hc) (hn hl (cVs_c (show c32 n from ⟨by omega, by omega⟩) hs) hD ad cA dC dI p l e s m args below meth c H lsR locs hA hG hK hP hS hL)
theorem WP_sipush {n z : Int} (hd : decode mi.2.1 pc = .ok (.sipush n, 3)) (hz : n = z) (hc : -32768 ≤ z ∧ z ≤ 32767) (hn : WP mi Q (pc + 3) ls (vI z :: st) D) : WP mi Q pc ls st D := by
  subst hz
  intro hl hs hD ad cA dC dI p l e s m args below meth c H lsR locs hA hG hK hP hS hL
  exact lv_sipush hG.1 hG.2.1 hd (sip hc) (hn hl (cVs_c (show c32 n from ⟨by omega, by omega⟩) hs) hD ad cA dC dI p l e s m args below meth c H lsR locs hA hG hK hP hS hL)
theorem WP_lconst {n : Fin 2} {z : Int} (hd : decode mi.2.1 pc = .ok (.lconst n, 1)) (hz : (n : Nat) = z) (hn : WP mi Q (pc + 1) ls (vL z :: st) D) : WP mi Q pc ls st D := by
  subst hz
  intro hl hs hD ad cA dC dI p l e s m args below meth c H lsR locs hA hG hK hP hS hL
  refine lv_lconst hG.1 hG.2.1 hd (v := Int64.ofInt ((n : Nat) : Int)) rfl (hn hl (cVs_c ?_ hs) hD ad cA dC dI p l e s m args below meth c H lsR locs hA hG hK hP hS hL)
  show c64 ((n : Nat) : Int)
  have := n.isLt
  exact ⟨by omega, by omega⟩
theorem WP_ldc {i : Nat} {v : Int32} {z : Int} (hw : Cond.constant mi.1.cls i v ∈ wsL_law) (hd : decode mi.2.1 pc = .ok (.ldc i, 2)) (hz : v.toInt = z) (hn : WP mi Q (pc + 2) ls (vI z :: st) D) : WP mi Q pc ls st D := by
  subst hz
  intro hl hs hD ad cA dC dI p l e s m args below meth c H lsR locs hA hG hK hP hS hL
  refine lv_ldc hG.1 hG.2.1 hG.2.2.2.2.1 (hG.2.2.2.1 _ hw) hd ?_
  have h := hn hl (cVs_c (c32_ti v) hs) hD ad cA dC dI p l e s m args below meth c H lsR locs hA hG hK hP hS hL
  rw [List.map_cons, reV_I, ofInt_toInt32] at h
  exact h
theorem WP_ldcw {i : Nat} {v : Int32} {z : Int} (hw : Cond.constant mi.1.cls i v ∈ wsL_law) (hd : decode mi.2.1 pc = .ok (.ldc_w i, 3)) (hz : v.toInt = z) (hn : WP mi Q (pc + 3) ls (vI z :: st) D) : WP mi Q pc ls st D := by
  subst hz
  intro hl hs hD ad cA dC dI p l e s m args below meth c H lsR locs hA hG hK hP hS hL
  refine lv_ldcw hG.1 hG.2.1 hG.2.2.2.2.1 (hG.2.2.2.1 _ hw) hd ?_
  have h := hn hl (cVs_c (c32_ti v) hs) hD ad cA dC dI p l e s m args below meth c H lsR locs hA hG hK hP hS hL
  rw [List.map_cons, reV_I, ofInt_toInt32] at h
  exact h
theorem WP_ldc2 {i : Nat} {v : Int64} {z : Int} (hw : Cond.constantLong mi.1.cls i v ∈ wsL_law) (hd : decode mi.2.1 pc = .ok (.ldc2_w i, 3)) (hz : v.toInt = z) (hn : WP mi Q (pc + 3) ls (vL z :: st) D) : WP mi Q pc ls st D := by
  subst hz
  intro hl hs hD ad cA dC dI p l e s m args below meth c H lsR locs hA hG hK hP hS hL
  refine lv_ldc2 hG.1 hG.2.1 hG.2.2.2.2.1 (hG.2.2.2.1 _ hw) hd ?_
  have h := hn hl (cVs_c (c64_ti v) hs) hD ad cA dC dI p l e s m args below meth c H lsR locs hA hG hK hP hS hL
  rw [List.map_cons, reV_L, ofInt_toInt64] at h
  exact h
theorem WP_iload_n {k : Fin 4} {z : Int} (hd : decode mi.2.1 pc = .ok (.iload_n k, 1)) (hz : ls[(k : Nat)]? = some (vI z)) (hn : WP mi Q (pc + 1) ls (vI z :: st) D) : WP mi Q pc ls st D := by
  intro hl hs hD ad cA dC dI p l e s m args below meth c H lsR locs hA hG hK hP hS hL
  exact lv_iload_n hG.1 hG.2.1 hd rfl (LR_at hL hz (Nat.le_of_ble_eq_true rfl)) (hn hl (cVs_c (cVs_g hl hz) hs) hD ad cA dC dI p l e s m args below meth c H lsR locs hA hG hK hP hS hL)
theorem WP_iload {k : Nat} {z : Int} (hd : decode mi.2.1 pc = .ok (.iload k, 2)) (hz : ls[k]? = some (vI z)) (hn : WP mi Q (pc + 2) ls (vI z :: st) D) : WP mi Q pc ls st D := by
  intro hl hs hD ad cA dC dI p l e s m args below meth c H lsR locs hA hG hK hP hS hL
  exact lv_iload hG.1 hG.2.1 hd (LR_at hL hz (Nat.le_of_ble_eq_true rfl)) (hn hl (cVs_c (cVs_g hl hz) hs) hD ad cA dC dI p l e s m args below meth c H lsR locs hA hG hK hP hS hL)
theorem WP_lload_n {k : Fin 4} {z : Int} (hd : decode mi.2.1 pc = .ok (.lload_n k, 1)) (hz : ls[(k : Nat)]? = some (vL z)) (hn : WP mi Q (pc + 1) ls (vL z :: st) D) : WP mi Q pc ls st D := by
  intro hl hs hD ad cA dC dI p l e s m args below meth c H lsR locs hA hG hK hP hS hL
  exact lv_lload_n hG.1 hG.2.1 hd rfl (LR_at hL hz (Nat.le_of_ble_eq_true rfl)) (hn hl (cVs_c (cVs_g hl hz) hs) hD ad cA dC dI p l e s m args below meth c H lsR locs hA hG hK hP hS hL)
theorem WP_lload {k : Nat} {z : Int} (hd : decode mi.2.1 pc = .ok (.lload k, 2)) (hz : ls[k]? = some (vL z)) (hn : WP mi Q (pc + 2) ls (vL z :: st) D) : WP mi Q pc ls st D := by
  intro hl hs hD ad cA dC dI p l e s m args below meth c H lsR locs hA hG hK hP hS hL
  exact lv_lload hG.1 hG.2.1 hd (LR_at hL hz (Nat.le_of_ble_eq_true rfl)) (hn hl (cVs_c (cVs_g hl hz) hs) hD ad cA dC dI p l e s m args below meth c H lsR locs hA hG hK hP hS hL)
theorem WP_aload_n {k : Fin 4} {z : Nat} (hd : decode mi.2.1 pc = .ok (.aload_n k, 1)) (hz : ls[(k : Nat)]? = some (vR z)) (hn : WP mi Q (pc + 1) ls (vR z :: st) D) : WP mi Q pc ls st D := by
  intro hl hs hD ad cA dC dI p l e s m args below meth c H lsR locs hA hG hK hP hS hL
  exact lv_aload_n hG.1 hG.2.1 hd rfl (LR_at hL hz (Nat.le_of_ble_eq_true rfl)) (hn hl (cVs_c (cVs_g hl hz) hs) hD ad cA dC dI p l e s m args below meth c H lsR locs hA hG hK hP hS hL)
theorem WP_aload {k : Nat} {z : Nat} (hd : decode mi.2.1 pc = .ok (.aload k, 2)) (hz : ls[k]? = some (vR z)) (hn : WP mi Q (pc + 2) ls (vR z :: st) D) : WP mi Q pc ls st D := by
  intro hl hs hD ad cA dC dI p l e s m args below meth c H lsR locs hA hG hK hP hS hL
  exact lv_aload hG.1 hG.2.1 hd (LR_at hL hz (Nat.le_of_ble_eq_true rfl)) (hn hl (cVs_c (cVs_g hl hz) hs) hD ad cA dC dI p l e s m args below meth c H lsR locs hA hG hK hP hS hL)
theorem WP_istore_n {k : Fin 4} {z : Int} {ls1 : List MV} (hd : decode mi.2.1 pc = .ok (.istore_n k, 1)) (hb : (k : Nat) < mi.2.2.1) (hz : st1 ls (k : Nat) (vI z) = ls1) (hn : WP mi Q (pc + 1) ls1 st D) : WP mi Q pc ls (vI z :: st) D := by
  subst hz
  intro hl hs hD ad cA dC dI p l e s m args below meth c H lsR locs hA hG hK hP hS hL
  refine lv_istore_n hG.1 hG.2.1 hd rfl hL hb rfl (fun ls' hL' => ?_)
  exact hn (cVs_st1 hl _ (cVs_h hs)) (cVs_t hs) hD ad cA dC dI p l e s m args below meth c H ls' locs hA hG hK hP hS (LR_st1 hL')
theorem WP_istore {k : Nat} {z : Int} {ls1 : List MV} (hd : decode mi.2.1 pc = .ok (.istore k, 2)) (hb : k < mi.2.2.1) (hz : st1 ls k (vI z) = ls1) (hn : WP mi Q (pc + 2) ls1 st D) : WP mi Q pc ls (vI z :: st) D := by
  subst hz
  intro hl hs hD ad cA dC dI p l e s m args below meth c H lsR locs hA hG hK hP hS hL
  refine lv_istore hG.1 hG.2.1 hd hL hb rfl (fun ls' hL' => ?_)
  exact hn (cVs_st1 hl _ (cVs_h hs)) (cVs_t hs) hD ad cA dC dI p l e s m args below meth c H ls' locs hA hG hK hP hS (LR_st1 hL')
theorem WP_lstore_n {k : Fin 4} {z : Int} {ls1 : List MV} (hd : decode mi.2.1 pc = .ok (.lstore_n k, 1)) (hb : (k : Nat) + 1 < mi.2.2.1) (hz : st2 ls (k : Nat) (vL z) = ls1) (hn : WP mi Q (pc + 1) ls1 st D) : WP mi Q pc ls (vL z :: st) D := by
  subst hz
  intro hl hs hD ad cA dC dI p l e s m args below meth c H lsR locs hA hG hK hP hS hL
  refine lv_lstore_n hG.1 hG.2.1 hd rfl hL hb rfl (fun ls' hL' => ?_)
  exact hn (cVs_st2 hl _ (cVs_h hs)) (cVs_t hs) hD ad cA dC dI p l e s m args below meth c H ls' locs hA hG hK hP hS (LR_st2 hL')
theorem WP_lstore {k : Nat} {z : Int} {ls1 : List MV} (hd : decode mi.2.1 pc = .ok (.lstore k, 2)) (hb : k + 1 < mi.2.2.1) (hz : st2 ls k (vL z) = ls1) (hn : WP mi Q (pc + 2) ls1 st D) : WP mi Q pc ls (vL z :: st) D := by
  subst hz
  intro hl hs hD ad cA dC dI p l e s m args below meth c H lsR locs hA hG hK hP hS hL
  refine lv_lstore hG.1 hG.2.1 hd hL hb rfl (fun ls' hL' => ?_)
  exact hn (cVs_st2 hl _ (cVs_h hs)) (cVs_t hs) hD ad cA dC dI p l e s m args below meth c H ls' locs hA hG hK hP hS (LR_st2 hL')
theorem WP_astore_n {k : Fin 4} {z : Nat} {ls1 : List MV} (hd : decode mi.2.1 pc = .ok (.astore_n k, 1)) (hb : (k : Nat) < mi.2.2.1) (hz : st1 ls (k : Nat) (vR z) = ls1) (hn : WP mi Q (pc + 1) ls1 st D) : WP mi Q pc ls (vR z :: st) D := by
  subst hz
  intro hl hs hD ad cA dC dI p l e s m args below meth c H lsR locs hA hG hK hP hS hL
  refine lv_astore_n hG.1 hG.2.1 hd rfl hL hb rfl (fun ls' hL' => ?_)
  exact hn (cVs_st1 hl _ (cVs_h hs)) (cVs_t hs) hD ad cA dC dI p l e s m args below meth c H ls' locs hA hG hK hP hS (LR_st1 hL')
theorem WP_astore {k : Nat} {z : Nat} {ls1 : List MV} (hd : decode mi.2.1 pc = .ok (.astore k, 2)) (hb : k < mi.2.2.1) (hz : st1 ls k (vR z) = ls1) (hn : WP mi Q (pc + 2) ls1 st D) : WP mi Q pc ls (vR z :: st) D := by
  subst hz
  intro hl hs hD ad cA dC dI p l e s m args below meth c H lsR locs hA hG hK hP hS hL
  refine lv_astore hG.1 hG.2.1 hd hL hb rfl (fun ls' hL' => ?_)
  exact hn (cVs_st1 hl _ (cVs_h hs)) (cVs_t hs) hD ad cA dC dI p l e s m args below meth c H ls' locs hA hG hK hP hS (LR_st1 hL')
theorem WP_iinc {k : Nat} {n x z : Int} {ls1 : List MV} (hd : decode mi.2.1 pc = .ok (.iinc k n, 3)) (hx : ls[k]? = some (vI x)) (hz : w32 (x + n) = z) (hb : k < mi.2.2.1) (h1 : st1 ls k (vI z) = ls1) (hn : WP mi Q (pc + 3) ls1 st D) : WP mi Q pc ls st D := by
  subst hz h1
  intro hl hs hD ad cA dC dI p l e s m args below meth c H lsR locs hA hG hK hP hS hL
  obtain ⟨j, hj⟩ := List.getElem?_of_mem (lvl_mem.mpr ⟨k, vI x, hx, Nat.le_of_ble_eq_true rfl, rfl⟩ : (0 + k, reV ad (vI x)) ∈ lvl ad ls 0)
  rw [Nat.zero_add] at hj
  refine lv_iinc (v := Int32.ofInt (w32 (x + n))) hG.1 hG.2.1 hd hL hj (by rw [ofInt_w32, Int32.ofInt_add]; rfl) hb rfl (fun ls' hL' => ?_)
  exact hn (cVs_st1 hl _ (w32_c _)) hs hD ad cA dC dI p l e s m args below meth c H ls' locs hA hG hK hP hS (LR_st1 (v := vI (w32 (x + n))) hL')
theorem WP_iadd {a b z : Int} (hd : decode mi.2.1 pc = .ok (.iadd, 1)) (hz : w32 (a + b) = z) (hn : WP mi Q (pc + 1) ls (vI z :: st) D) : WP mi Q pc ls (vI b :: vI a :: st) D := by
  subst hz
  intro hl hs hD ad cA dC dI p l e s m args below meth c H lsR locs hA hG hK hP hS hL
  have ca : c32 a := cVs_h (cVs_t hs)
  have cb : c32 b := cVs_h hs
  show W p l e (rmO mi) s m args below meth c H locs 0 0 _ (F0 m pc lsR (.int (Int32.ofInt b) :: .int (Int32.ofInt a) :: st.map (reV ad)))
  refine lv_iadd hG.1 hG.2.1 hd ?_
  have h := hn hl (cVs_c (w32_c _) (cVs_t (cVs_t hs))) hD ad cA dC dI p l e s m args below meth c H lsR locs hA hG hK hP hS hL
  rw [show Int32.ofInt a + Int32.ofInt b = Int32.ofInt (w32 (a + b)) from by rw [ofInt_w32, Int32.ofInt_add]]
  exact h
theorem WP_isub {a b z : Int} (hd : decode mi.2.1 pc = .ok (.isub, 1)) (hz : w32 (a - b) = z) (hn : WP mi Q (pc + 1) ls (vI z :: st) D) : WP mi Q pc ls (vI b :: vI a :: st) D := by
  subst hz
  intro hl hs hD ad cA dC dI p l e s m args below meth c H lsR locs hA hG hK hP hS hL
  have ca : c32 a := cVs_h (cVs_t hs)
  have cb : c32 b := cVs_h hs
  show W p l e (rmO mi) s m args below meth c H locs 0 0 _ (F0 m pc lsR (.int (Int32.ofInt b) :: .int (Int32.ofInt a) :: st.map (reV ad)))
  refine lv_isub hG.1 hG.2.1 hd ?_
  have h := hn hl (cVs_c (w32_c _) (cVs_t (cVs_t hs))) hD ad cA dC dI p l e s m args below meth c H lsR locs hA hG hK hP hS hL
  rw [show Int32.ofInt a - Int32.ofInt b = Int32.ofInt (w32 (a - b)) from by rw [ofInt_w32, Int32.ofInt_sub]]
  exact h
theorem WP_imul {a b z : Int} (hd : decode mi.2.1 pc = .ok (.imul, 1)) (hz : w32 (a * b) = z) (hn : WP mi Q (pc + 1) ls (vI z :: st) D) : WP mi Q pc ls (vI b :: vI a :: st) D := by
  subst hz
  intro hl hs hD ad cA dC dI p l e s m args below meth c H lsR locs hA hG hK hP hS hL
  have ca : c32 a := cVs_h (cVs_t hs)
  have cb : c32 b := cVs_h hs
  show W p l e (rmO mi) s m args below meth c H locs 0 0 _ (F0 m pc lsR (.int (Int32.ofInt b) :: .int (Int32.ofInt a) :: st.map (reV ad)))
  refine lv_imul hG.1 hG.2.1 hd ?_
  have h := hn hl (cVs_c (w32_c _) (cVs_t (cVs_t hs))) hD ad cA dC dI p l e s m args below meth c H lsR locs hA hG hK hP hS hL
  rw [show Int32.ofInt a * Int32.ofInt b = Int32.ofInt (w32 (a * b)) from by rw [ofInt_w32, Int32.ofInt_mul]]
  exact h
def b_iand (a b : Int) : Int := (Int32.ofInt a &&& Int32.ofInt b).toInt
theorem WP_iand {a b z : Int} (hd : decode mi.2.1 pc = .ok (.iand, 1)) (hz : b_iand a b = z) (hn : WP mi Q (pc + 1) ls (vI z :: st) D) : WP mi Q pc ls (vI b :: vI a :: st) D := by
  subst hz
  intro hl hs hD ad cA dC dI p l e s m args below meth c H lsR locs hA hG hK hP hS hL
  have ca : c32 a := cVs_h (cVs_t hs)
  have cb : c32 b := cVs_h hs
  show W p l e (rmO mi) s m args below meth c H locs 0 0 _ (F0 m pc lsR (.int (Int32.ofInt b) :: .int (Int32.ofInt a) :: st.map (reV ad)))
  refine lv_iand hG.1 hG.2.1 hd ?_
  have h := hn hl (cVs_c (c32_ti _) (cVs_t (cVs_t hs))) hD ad cA dC dI p l e s m args below meth c H lsR locs hA hG hK hP hS hL
  rw [show Int32.ofInt a &&& Int32.ofInt b = Int32.ofInt (b_iand a b) from (ofInt_toInt32 _).symm]
  exact h
def b_ior (a b : Int) : Int := (Int32.ofInt a ||| Int32.ofInt b).toInt
theorem WP_ior {a b z : Int} (hd : decode mi.2.1 pc = .ok (.ior, 1)) (hz : b_ior a b = z) (hn : WP mi Q (pc + 1) ls (vI z :: st) D) : WP mi Q pc ls (vI b :: vI a :: st) D := by
  subst hz
  intro hl hs hD ad cA dC dI p l e s m args below meth c H lsR locs hA hG hK hP hS hL
  have ca : c32 a := cVs_h (cVs_t hs)
  have cb : c32 b := cVs_h hs
  show W p l e (rmO mi) s m args below meth c H locs 0 0 _ (F0 m pc lsR (.int (Int32.ofInt b) :: .int (Int32.ofInt a) :: st.map (reV ad)))
  refine lv_ior hG.1 hG.2.1 hd ?_
  have h := hn hl (cVs_c (c32_ti _) (cVs_t (cVs_t hs))) hD ad cA dC dI p l e s m args below meth c H lsR locs hA hG hK hP hS hL
  rw [show Int32.ofInt a ||| Int32.ofInt b = Int32.ofInt (b_ior a b) from (ofInt_toInt32 _).symm]
  exact h
def b_ixor (a b : Int) : Int := (Int32.ofInt a ^^^ Int32.ofInt b).toInt
theorem WP_ixor {a b z : Int} (hd : decode mi.2.1 pc = .ok (.ixor, 1)) (hz : b_ixor a b = z) (hn : WP mi Q (pc + 1) ls (vI z :: st) D) : WP mi Q pc ls (vI b :: vI a :: st) D := by
  subst hz
  intro hl hs hD ad cA dC dI p l e s m args below meth c H lsR locs hA hG hK hP hS hL
  have ca : c32 a := cVs_h (cVs_t hs)
  have cb : c32 b := cVs_h hs
  show W p l e (rmO mi) s m args below meth c H locs 0 0 _ (F0 m pc lsR (.int (Int32.ofInt b) :: .int (Int32.ofInt a) :: st.map (reV ad)))
  refine lv_ixor hG.1 hG.2.1 hd ?_
  have h := hn hl (cVs_c (c32_ti _) (cVs_t (cVs_t hs))) hD ad cA dC dI p l e s m args below meth c H lsR locs hA hG hK hP hS hL
  rw [show Int32.ofInt a ^^^ Int32.ofInt b = Int32.ofInt (b_ixor a b) from (ofInt_toInt32 _).symm]
  exact h
def b_ishl (a b : Int) : Int := (Int32.ofInt a <<< (Int32.ofInt b &&& 31)).toInt
theorem WP_ishl {a b z : Int} (hd : decode mi.2.1 pc = .ok (.ishl, 1)) (hz : b_ishl a b = z) (hn : WP mi Q (pc + 1) ls (vI z :: st) D) : WP mi Q pc ls (vI b :: vI a :: st) D := by
  subst hz
  intro hl hs hD ad cA dC dI p l e s m args below meth c H lsR locs hA hG hK hP hS hL
  have ca : c32 a := cVs_h (cVs_t hs)
  have cb : c32 b := cVs_h hs
  show W p l e (rmO mi) s m args below meth c H locs 0 0 _ (F0 m pc lsR (.int (Int32.ofInt b) :: .int (Int32.ofInt a) :: st.map (reV ad)))
  refine lv_ishl hG.1 hG.2.1 hd ?_
  have h := hn hl (cVs_c (c32_ti _) (cVs_t (cVs_t hs))) hD ad cA dC dI p l e s m args below meth c H lsR locs hA hG hK hP hS hL
  rw [show Int32.ofInt a <<< (Int32.ofInt b &&& 31) = Int32.ofInt (b_ishl a b) from (ofInt_toInt32 _).symm]
  exact h
def b_ishr (a b : Int) : Int := (Int32.ofInt a >>> (Int32.ofInt b &&& 31)).toInt
theorem WP_ishr {a b z : Int} (hd : decode mi.2.1 pc = .ok (.ishr, 1)) (hz : b_ishr a b = z) (hn : WP mi Q (pc + 1) ls (vI z :: st) D) : WP mi Q pc ls (vI b :: vI a :: st) D := by
  subst hz
  intro hl hs hD ad cA dC dI p l e s m args below meth c H lsR locs hA hG hK hP hS hL
  have ca : c32 a := cVs_h (cVs_t hs)
  have cb : c32 b := cVs_h hs
  show W p l e (rmO mi) s m args below meth c H locs 0 0 _ (F0 m pc lsR (.int (Int32.ofInt b) :: .int (Int32.ofInt a) :: st.map (reV ad)))
  refine lv_ishr hG.1 hG.2.1 hd ?_
  have h := hn hl (cVs_c (c32_ti _) (cVs_t (cVs_t hs))) hD ad cA dC dI p l e s m args below meth c H lsR locs hA hG hK hP hS hL
  rw [show Int32.ofInt a >>> (Int32.ofInt b &&& 31) = Int32.ofInt (b_ishr a b) from (ofInt_toInt32 _).symm]
  exact h
def b_iushr (a b : Int) : Int := ((Int32.ofInt a).toUInt32 >>> ((Int32.ofInt b).toUInt32 &&& Int32.toUInt32 31)).toInt32.toInt
theorem WP_iushr {a b z : Int} (hd : decode mi.2.1 pc = .ok (.iushr, 1)) (hz : b_iushr a b = z) (hn : WP mi Q (pc + 1) ls (vI z :: st) D) : WP mi Q pc ls (vI b :: vI a :: st) D := by
  subst hz
  intro hl hs hD ad cA dC dI p l e s m args below meth c H lsR locs hA hG hK hP hS hL
  have ca : c32 a := cVs_h (cVs_t hs)
  have cb : c32 b := cVs_h hs
  show W p l e (rmO mi) s m args below meth c H locs 0 0 _ (F0 m pc lsR (.int (Int32.ofInt b) :: .int (Int32.ofInt a) :: st.map (reV ad)))
  refine lv_iushr hG.1 hG.2.1 hd rfl ?_
  have h := hn hl (cVs_c (c32_ti _) (cVs_t (cVs_t hs))) hD ad cA dC dI p l e s m args below meth c H lsR locs hA hG hK hP hS hL
  rw [show ((Int32.ofInt a).toUInt32 >>> ((Int32.ofInt b).toUInt32 &&& Int32.toUInt32 31)).toInt32 = Int32.ofInt (b_iushr a b) from (ofInt_toInt32 _).symm]
  exact h
theorem WP_idiv {a b z : Int} (hd : decode mi.2.1 pc = .ok (.idiv, 1)) (h0 : 0 ≤ a) (h1 : 0 < b) (hz : a / b = z) (hn : WP mi Q (pc + 1) ls (vI z :: st) D) : WP mi Q pc ls (vI b :: vI a :: st) D := by
  subst hz
  intro hl hs hD ad cA dC dI p l e s m args below meth c H lsR locs hA hG hK hP hS hL
  have ca : c32 a := cVs_h (cVs_t hs)
  have cb : c32 b := cVs_h hs
  show W p l e (rmO mi) s m args below meth c H locs 0 0 _ (F0 m pc lsR (.int (Int32.ofInt b) :: .int (Int32.ofInt a) :: st.map (reV ad)))
  refine lv_idiv hG.1 hG.2.1 hd (ne32 cb h1) ?_
  have h := hn hl (cVs_c (div_c ca h0 h1) (cVs_t (cVs_t hs))) hD ad cA dC dI p l e s m args below meth c H lsR locs hA hG hK hP hS hL
  rw [show Int32.ofInt a / Int32.ofInt b = Int32.ofInt (a / b) from div32 ca cb h0 h1]
  exact h
theorem WP_irem {a b z : Int} (hd : decode mi.2.1 pc = .ok (.irem, 1)) (h0 : 0 ≤ a) (h1 : 0 < b) (hz : a % b = z) (hn : WP mi Q (pc + 1) ls (vI z :: st) D) : WP mi Q pc ls (vI b :: vI a :: st) D := by
  subst hz
  intro hl hs hD ad cA dC dI p l e s m args below meth c H lsR locs hA hG hK hP hS hL
  have ca : c32 a := cVs_h (cVs_t hs)
  have cb : c32 b := cVs_h hs
  show W p l e (rmO mi) s m args below meth c H locs 0 0 _ (F0 m pc lsR (.int (Int32.ofInt b) :: .int (Int32.ofInt a) :: st.map (reV ad)))
  refine lv_irem hG.1 hG.2.1 hd (ne32 cb h1) ?_
  have h := hn hl (cVs_c (rem_c ca h0 h1) (cVs_t (cVs_t hs))) hD ad cA dC dI p l e s m args below meth c H lsR locs hA hG hK hP hS hL
  rw [show Int32.ofInt a - Int32.ofInt a / Int32.ofInt b * Int32.ofInt b = Int32.ofInt (a % b) from rem32 ca cb h0 h1]
  exact h
theorem WP_ineg {a z : Int} (hd : decode mi.2.1 pc = .ok (.ineg, 1)) (hz : w32 (-a) = z) (hn : WP mi Q (pc + 1) ls (vI z :: st) D) : WP mi Q pc ls (vI a :: st) D := by
  subst hz
  intro hl hs hD ad cA dC dI p l e s m args below meth c H lsR locs hA hG hK hP hS hL
  show W p l e (rmO mi) s m args below meth c H locs 0 0 _ (F0 m pc lsR (.int (Int32.ofInt a) :: st.map (reV ad)))
  refine lv_ineg hG.1 hG.2.1 hd ?_
  have h := hn hl (cVs_c (w32_c _) (cVs_t hs)) hD ad cA dC dI p l e s m args below meth c H lsR locs hA hG hK hP hS hL
  rw [show -Int32.ofInt a = Int32.ofInt (w32 (-a)) from by rw [ofInt_w32, Int32.ofInt_neg]]
  exact h
theorem WP_ladd {a b z : Int} (hd : decode mi.2.1 pc = .ok (.ladd, 1)) (hz : w64 (a + b) = z) (hn : WP mi Q (pc + 1) ls (vL z :: st) D) : WP mi Q pc ls (vL b :: vL a :: st) D := by
  subst hz
  intro hl hs hD ad cA dC dI p l e s m args below meth c H lsR locs hA hG hK hP hS hL
  have ca : c64 a := cVs_h (cVs_t hs)
  have cb : c64 b := cVs_h hs
  show W p l e (rmO mi) s m args below meth c H locs 0 0 _ (F0 m pc lsR (.long (Int64.ofInt b) :: .long (Int64.ofInt a) :: st.map (reV ad)))
  refine lv_ladd hG.1 hG.2.1 hd ?_
  have h := hn hl (cVs_c (w64_c _) (cVs_t (cVs_t hs))) hD ad cA dC dI p l e s m args below meth c H lsR locs hA hG hK hP hS hL
  rw [show Int64.ofInt a + Int64.ofInt b = Int64.ofInt (w64 (a + b)) from by rw [ofInt_w64, Int64.ofInt_add]]
  exact h
theorem WP_lsub {a b z : Int} (hd : decode mi.2.1 pc = .ok (.lsub, 1)) (hz : w64 (a - b) = z) (hn : WP mi Q (pc + 1) ls (vL z :: st) D) : WP mi Q pc ls (vL b :: vL a :: st) D := by
  subst hz
  intro hl hs hD ad cA dC dI p l e s m args below meth c H lsR locs hA hG hK hP hS hL
  have ca : c64 a := cVs_h (cVs_t hs)
  have cb : c64 b := cVs_h hs
  show W p l e (rmO mi) s m args below meth c H locs 0 0 _ (F0 m pc lsR (.long (Int64.ofInt b) :: .long (Int64.ofInt a) :: st.map (reV ad)))
  refine lv_lsub hG.1 hG.2.1 hd ?_
  have h := hn hl (cVs_c (w64_c _) (cVs_t (cVs_t hs))) hD ad cA dC dI p l e s m args below meth c H lsR locs hA hG hK hP hS hL
  rw [show Int64.ofInt a - Int64.ofInt b = Int64.ofInt (w64 (a - b)) from by rw [ofInt_w64, Int64.ofInt_sub]]
  exact h
theorem WP_lmul {a b z : Int} (hd : decode mi.2.1 pc = .ok (.lmul, 1)) (hz : w64 (a * b) = z) (hn : WP mi Q (pc + 1) ls (vL z :: st) D) : WP mi Q pc ls (vL b :: vL a :: st) D := by
  subst hz
  intro hl hs hD ad cA dC dI p l e s m args below meth c H lsR locs hA hG hK hP hS hL
  have ca : c64 a := cVs_h (cVs_t hs)
  have cb : c64 b := cVs_h hs
  show W p l e (rmO mi) s m args below meth c H locs 0 0 _ (F0 m pc lsR (.long (Int64.ofInt b) :: .long (Int64.ofInt a) :: st.map (reV ad)))
  refine lv_lmul hG.1 hG.2.1 hd ?_
  have h := hn hl (cVs_c (w64_c _) (cVs_t (cVs_t hs))) hD ad cA dC dI p l e s m args below meth c H lsR locs hA hG hK hP hS hL
  rw [show Int64.ofInt a * Int64.ofInt b = Int64.ofInt (w64 (a * b)) from by rw [ofInt_w64, Int64.ofInt_mul]]
  exact h
def b_land (a b : Int) : Int := (Int64.ofInt a &&& Int64.ofInt b).toInt
theorem WP_land {a b z : Int} (hd : decode mi.2.1 pc = .ok (.land, 1)) (hz : b_land a b = z) (hn : WP mi Q (pc + 1) ls (vL z :: st) D) : WP mi Q pc ls (vL b :: vL a :: st) D := by
  subst hz
  intro hl hs hD ad cA dC dI p l e s m args below meth c H lsR locs hA hG hK hP hS hL
  have ca : c64 a := cVs_h (cVs_t hs)
  have cb : c64 b := cVs_h hs
  show W p l e (rmO mi) s m args below meth c H locs 0 0 _ (F0 m pc lsR (.long (Int64.ofInt b) :: .long (Int64.ofInt a) :: st.map (reV ad)))
  refine lv_land hG.1 hG.2.1 hd ?_
  have h := hn hl (cVs_c (c64_ti _) (cVs_t (cVs_t hs))) hD ad cA dC dI p l e s m args below meth c H lsR locs hA hG hK hP hS hL
  rw [show Int64.ofInt a &&& Int64.ofInt b = Int64.ofInt (b_land a b) from (ofInt_toInt64 _).symm]
  exact h
def b_lor (a b : Int) : Int := (Int64.ofInt a ||| Int64.ofInt b).toInt
theorem WP_lor {a b z : Int} (hd : decode mi.2.1 pc = .ok (.lor, 1)) (hz : b_lor a b = z) (hn : WP mi Q (pc + 1) ls (vL z :: st) D) : WP mi Q pc ls (vL b :: vL a :: st) D := by
  subst hz
  intro hl hs hD ad cA dC dI p l e s m args below meth c H lsR locs hA hG hK hP hS hL
  have ca : c64 a := cVs_h (cVs_t hs)
  have cb : c64 b := cVs_h hs
  show W p l e (rmO mi) s m args below meth c H locs 0 0 _ (F0 m pc lsR (.long (Int64.ofInt b) :: .long (Int64.ofInt a) :: st.map (reV ad)))
  refine lv_lor hG.1 hG.2.1 hd ?_
  have h := hn hl (cVs_c (c64_ti _) (cVs_t (cVs_t hs))) hD ad cA dC dI p l e s m args below meth c H lsR locs hA hG hK hP hS hL
  rw [show Int64.ofInt a ||| Int64.ofInt b = Int64.ofInt (b_lor a b) from (ofInt_toInt64 _).symm]
  exact h
theorem WP_ldiv {a b z : Int} (hd : decode mi.2.1 pc = .ok (.ldiv, 1)) (h0 : 0 ≤ a) (h1 : 0 < b) (hz : a / b = z) (hn : WP mi Q (pc + 1) ls (vL z :: st) D) : WP mi Q pc ls (vL b :: vL a :: st) D := by
  subst hz
  intro hl hs hD ad cA dC dI p l e s m args below meth c H lsR locs hA hG hK hP hS hL
  have ca : c64 a := cVs_h (cVs_t hs)
  have cb : c64 b := cVs_h hs
  show W p l e (rmO mi) s m args below meth c H locs 0 0 _ (F0 m pc lsR (.long (Int64.ofInt b) :: .long (Int64.ofInt a) :: st.map (reV ad)))
  refine lv_ldiv hG.1 hG.2.1 hd (ne64 cb h1) ?_
  have h := hn hl (cVs_c (divl_c ca h0 h1) (cVs_t (cVs_t hs))) hD ad cA dC dI p l e s m args below meth c H lsR locs hA hG hK hP hS hL
  rw [show Int64.ofInt a / Int64.ofInt b = Int64.ofInt (a / b) from div64 ca cb h0 h1]
  exact h
theorem WP_lrem {a b z : Int} (hd : decode mi.2.1 pc = .ok (.lrem, 1)) (h0 : 0 ≤ a) (h1 : 0 < b) (hz : a % b = z) (hn : WP mi Q (pc + 1) ls (vL z :: st) D) : WP mi Q pc ls (vL b :: vL a :: st) D := by
  subst hz
  intro hl hs hD ad cA dC dI p l e s m args below meth c H lsR locs hA hG hK hP hS hL
  have ca : c64 a := cVs_h (cVs_t hs)
  have cb : c64 b := cVs_h hs
  show W p l e (rmO mi) s m args below meth c H locs 0 0 _ (F0 m pc lsR (.long (Int64.ofInt b) :: .long (Int64.ofInt a) :: st.map (reV ad)))
  refine lv_lrem hG.1 hG.2.1 hd (ne64 cb h1) ?_
  have h := hn hl (cVs_c (reml_c ca h0 h1) (cVs_t (cVs_t hs))) hD ad cA dC dI p l e s m args below meth c H lsR locs hA hG hK hP hS hL
  rw [show Int64.ofInt a - Int64.ofInt a / Int64.ofInt b * Int64.ofInt b = Int64.ofInt (a % b) from rem64 ca cb h0 h1]
  exact h
def b_lshl (a b : Int) : Int := (Int64.ofInt a <<< ((Int32.ofInt b).toInt64 &&& 63)).toInt
theorem WP_lshl {a b z : Int} (hd : decode mi.2.1 pc = .ok (.lshl, 1)) (hz : b_lshl a b = z) (hn : WP mi Q (pc + 1) ls (vL z :: st) D) : WP mi Q pc ls (vI b :: vL a :: st) D := by
  subst hz
  intro hl hs hD ad cA dC dI p l e s m args below meth c H lsR locs hA hG hK hP hS hL
  show W p l e (rmO mi) s m args below meth c H locs 0 0 _ (F0 m pc lsR (.int (Int32.ofInt b) :: .long (Int64.ofInt a) :: st.map (reV ad)))
  refine lv_lshl hG.1 hG.2.1 hd rfl ?_
  have h := hn hl (cVs_c (c64_ti _) (cVs_t (cVs_t hs))) hD ad cA dC dI p l e s m args below meth c H lsR locs hA hG hK hP hS hL
  rw [show Int64.ofInt a <<< ((Int32.ofInt b).toInt64 &&& 63) = Int64.ofInt (b_lshl a b) from (ofInt_toInt64 _).symm]
  exact h
def b_lshr (a b : Int) : Int := (Int64.ofInt a >>> ((Int32.ofInt b).toInt64 &&& 63)).toInt
theorem WP_lshr {a b z : Int} (hd : decode mi.2.1 pc = .ok (.lshr, 1)) (hz : b_lshr a b = z) (hn : WP mi Q (pc + 1) ls (vL z :: st) D) : WP mi Q pc ls (vI b :: vL a :: st) D := by
  subst hz
  intro hl hs hD ad cA dC dI p l e s m args below meth c H lsR locs hA hG hK hP hS hL
  show W p l e (rmO mi) s m args below meth c H locs 0 0 _ (F0 m pc lsR (.int (Int32.ofInt b) :: .long (Int64.ofInt a) :: st.map (reV ad)))
  refine lv_lshr hG.1 hG.2.1 hd rfl ?_
  have h := hn hl (cVs_c (c64_ti _) (cVs_t (cVs_t hs))) hD ad cA dC dI p l e s m args below meth c H lsR locs hA hG hK hP hS hL
  rw [show Int64.ofInt a >>> ((Int32.ofInt b).toInt64 &&& 63) = Int64.ofInt (b_lshr a b) from (ofInt_toInt64 _).symm]
  exact h
theorem WP_i2l {a : Int} (hd : decode mi.2.1 pc = .ok (.i2l, 1)) (hn : WP mi Q (pc + 1) ls (vL a :: st) D) : WP mi Q pc ls (vI a :: st) D := by
  intro hl hs hD ad cA dC dI p l e s m args below meth c H lsR locs hA hG hK hP hS hL
  have ca : c32 a := cVs_h hs
  show W p l e (rmO mi) s m args below meth c H locs 0 0 _ (F0 m pc lsR (.int (Int32.ofInt a) :: st.map (reV ad)))
  exact lv_i2l hG.1 hG.2.1 hd (i2l32 ca) (hn hl (cVs_c (show c64 a from ⟨by have := ca.1; omega, by have := ca.2; omega⟩) (cVs_t hs)) hD ad cA dC dI p l e s m args below meth c H lsR locs hA hG hK hP hS hL)
def b_i2b (a : Int) : Int := (Int32.ofInt a).toInt8.toInt32.toInt
theorem WP_i2b {a z : Int} (hd : decode mi.2.1 pc = .ok (.i2b, 1)) (hz : b_i2b a = z) (hn : WP mi Q (pc + 1) ls (vI z :: st) D) : WP mi Q pc ls (vI a :: st) D := by
  subst hz
  intro hl hs hD ad cA dC dI p l e s m args below meth c H lsR locs hA hG hK hP hS hL
  show W p l e (rmO mi) s m args below meth c H locs 0 0 _ (F0 m pc lsR (.int (Int32.ofInt a) :: st.map (reV ad)))
  refine lv_i2b hG.1 hG.2.1 hd rfl ?_
  have h := hn hl (cVs_c (c32_ti _) (cVs_t hs)) hD ad cA dC dI p l e s m args below meth c H lsR locs hA hG hK hP hS hL
  rw [show (Int32.ofInt a).toInt8.toInt32 = Int32.ofInt (b_i2b a) from (ofInt_toInt32 _).symm]
  exact h
def b_i2s (a : Int) : Int := (Int32.ofInt a).toInt16.toInt32.toInt
theorem WP_i2s {a z : Int} (hd : decode mi.2.1 pc = .ok (.i2s, 1)) (hz : b_i2s a = z) (hn : WP mi Q (pc + 1) ls (vI z :: st) D) : WP mi Q pc ls (vI a :: st) D := by
  subst hz
  intro hl hs hD ad cA dC dI p l e s m args below meth c H lsR locs hA hG hK hP hS hL
  show W p l e (rmO mi) s m args below meth c H locs 0 0 _ (F0 m pc lsR (.int (Int32.ofInt a) :: st.map (reV ad)))
  refine lv_i2s hG.1 hG.2.1 hd rfl ?_
  have h := hn hl (cVs_c (c32_ti _) (cVs_t hs)) hD ad cA dC dI p l e s m args below meth c H lsR locs hA hG hK hP hS hL
  rw [show (Int32.ofInt a).toInt16.toInt32 = Int32.ofInt (b_i2s a) from (ofInt_toInt32 _).symm]
  exact h
theorem WP_lcmp {a b z : Int} (hd : decode mi.2.1 pc = .ok (.lcmp, 1)) (hz : (if b < a then 1 else if a = b then 0 else -1) = z) (hn : WP mi Q (pc + 1) ls (vI z :: st) D) : WP mi Q pc ls (vL b :: vL a :: st) D := by
  subst hz
  intro hl hs hD ad cA dC dI p l e s m args below meth c H lsR locs hA hG hK hP hS hL
  have ca : c64 a := cVs_h (cVs_t hs)
  have cb : c64 b := cVs_h hs
  show W p l e (rmO mi) s m args below meth c H locs 0 0 _ (F0 m pc lsR (.long (Int64.ofInt b) :: .long (Int64.ofInt a) :: st.map (reV ad)))
  refine W.lcmp hG.1 hG.2.1 hd ?_
  have h := hn hl (cVs_c (cmp_c a b) (cVs_t (cVs_t hs))) hD ad cA dC dI p l e s m args below meth c H lsR locs hA hG hK hP hS hL
  rw [cmp64 ca cb]
  exact h
theorem WP_dup {v : MV} (hd : decode mi.2.1 pc = .ok (.dup, 1)) (hv : v.1 ≠ 1) (hn : WP mi Q (pc + 1) ls (v :: v :: st) D) : WP mi Q pc ls (v :: st) D := by
  intro hl hs hD ad cA dC dI p l e s m args below meth c H lsR locs hA hG hK hP hS hL
  exact lv_dup hG.1 hG.2.1 hd (by rw [reV_cat, if_neg hv]) (hn hl (cVs_c (cVs_h hs) hs) hD ad cA dC dI p l e s m args below meth c H lsR locs hA hG hK hP hS hL)
theorem WP_pop {v : MV} (hd : decode mi.2.1 pc = .ok (.pop, 1)) (hv : v.1 ≠ 1) (hn : WP mi Q (pc + 1) ls st D) : WP mi Q pc ls (v :: st) D := by
  intro hl hs hD ad cA dC dI p l e s m args below meth c H lsR locs hA hG hK hP hS hL
  exact lv_pop hG.1 hG.2.1 hd (by rw [reV_cat, if_neg hv]) (hn hl (cVs_t hs) hD ad cA dC dI p l e s m args below meth c H lsR locs hA hG hK hP hS hL)
theorem WP_dup2 {v w : MV} (hd : decode mi.2.1 pc = .ok (.dup2, 1)) (hv : v.1 ≠ 1) (hw : w.1 ≠ 1) (hn : WP mi Q (pc + 1) ls (v :: w :: v :: w :: st) D) : WP mi Q pc ls (v :: w :: st) D := by
  intro hl hs hD ad cA dC dI p l e s m args below meth c H lsR locs hA hG hK hP hS hL
  exact lv_dup2_11 hG.1 hG.2.1 hd (by rw [reV_cat, if_neg hv]) (by rw [reV_cat, if_neg hw]) (hn hl (cVs_c (cVs_h hs) (cVs_c (cVs_h (cVs_t hs)) hs)) hD ad cA dC dI p l e s m args below meth c H lsR locs hA hG hK hP hS hL)
theorem WP_goto {off : Int} {tgt : Nat} (hd : decode mi.2.1 pc = .ok (.goto off, 3)) (ht : (pc : Int) + off = (tgt : Int)) (hn : WP mi Q tgt ls st D) : WP mi Q pc ls st D := by
  intro hl hs hD ad cA dC dI p l e s m args below meth c H lsR locs hA hG hK hP hS hL
  exact lv_goto hG.1 hG.2.1 hd ht (hn hl hs hD ad cA dC dI p l e s m args below meth c H lsR locs hA hG hK hP hS hL)
theorem WP_icmp_eq {a b off : Int} {tgt : Nat} (hd : decode mi.2.1 pc = .ok (.if_icmp .eq off, 3)) (ht : (pc : Int) + off = (tgt : Int)) (hT : a = b → WP mi Q tgt ls st D) (hF : ¬ a = b → WP mi Q (pc + 3) ls st D) : WP mi Q pc ls (vI b :: vI a :: st) D := by
  intro hl hs hD ad cA dC dI p l e s m args below meth c H lsR locs hA hG hK hP hS hL
  have ca : c32 a := cVs_h (cVs_t hs)
  have cb : c32 b := cVs_h hs
  show W p l e (rmO mi) s m args below meth c H locs 0 0 _ (F0 m pc lsR (.int (Int32.ofInt b) :: .int (Int32.ofInt a) :: st.map (reV ad)))
  exact lv_icmp_eq hG.1 hG.2.1 hd ht (fun q => hT ((eq32 ca cb).mp q) hl (cVs_t (cVs_t hs)) hD ad cA dC dI p l e s m args below meth c H lsR locs hA hG hK hP hS hL) (fun q => hF (fun z => q ((eq32 ca cb).mpr z)) hl (cVs_t (cVs_t hs)) hD ad cA dC dI p l e s m args below meth c H lsR locs hA hG hK hP hS hL)
theorem WP_if_eq {a off : Int} {tgt : Nat} (hd : decode mi.2.1 pc = .ok (.ifCond .eq off, 3)) (ht : (pc : Int) + off = (tgt : Int)) (hT : a = 0 → WP mi Q tgt ls st D) (hF : ¬ a = 0 → WP mi Q (pc + 3) ls st D) : WP mi Q pc ls (vI a :: st) D := by
  intro hl hs hD ad cA dC dI p l e s m args below meth c H lsR locs hA hG hK hP hS hL
  have ca : c32 a := cVs_h hs
  show W p l e (rmO mi) s m args below meth c H locs 0 0 _ (F0 m pc lsR (.int (Int32.ofInt a) :: st.map (reV ad)))
  exact lv_if_eq hG.1 hG.2.1 hd ht (fun q => hT ((eq32 ca c0).mp q) hl (cVs_t hs) hD ad cA dC dI p l e s m args below meth c H lsR locs hA hG hK hP hS hL) (fun q => hF (fun z => q ((eq32 ca c0).mpr z)) hl (cVs_t hs) hD ad cA dC dI p l e s m args below meth c H lsR locs hA hG hK hP hS hL)
theorem WP_icmp_ne {a b off : Int} {tgt : Nat} (hd : decode mi.2.1 pc = .ok (.if_icmp .ne off, 3)) (ht : (pc : Int) + off = (tgt : Int)) (hT : ¬ a = b → WP mi Q tgt ls st D) (hF : a = b → WP mi Q (pc + 3) ls st D) : WP mi Q pc ls (vI b :: vI a :: st) D := by
  intro hl hs hD ad cA dC dI p l e s m args below meth c H lsR locs hA hG hK hP hS hL
  have ca : c32 a := cVs_h (cVs_t hs)
  have cb : c32 b := cVs_h hs
  show W p l e (rmO mi) s m args below meth c H locs 0 0 _ (F0 m pc lsR (.int (Int32.ofInt b) :: .int (Int32.ofInt a) :: st.map (reV ad)))
  exact lv_icmp_ne hG.1 hG.2.1 hd ht (fun q => hT (fun z => q ((eq32 ca cb).mpr z)) hl (cVs_t (cVs_t hs)) hD ad cA dC dI p l e s m args below meth c H lsR locs hA hG hK hP hS hL) (fun q => hF ((eq32 ca cb).mp q) hl (cVs_t (cVs_t hs)) hD ad cA dC dI p l e s m args below meth c H lsR locs hA hG hK hP hS hL)
theorem WP_if_ne {a off : Int} {tgt : Nat} (hd : decode mi.2.1 pc = .ok (.ifCond .ne off, 3)) (ht : (pc : Int) + off = (tgt : Int)) (hT : ¬ a = 0 → WP mi Q tgt ls st D) (hF : a = 0 → WP mi Q (pc + 3) ls st D) : WP mi Q pc ls (vI a :: st) D := by
  intro hl hs hD ad cA dC dI p l e s m args below meth c H lsR locs hA hG hK hP hS hL
  have ca : c32 a := cVs_h hs
  show W p l e (rmO mi) s m args below meth c H locs 0 0 _ (F0 m pc lsR (.int (Int32.ofInt a) :: st.map (reV ad)))
  exact lv_if_ne hG.1 hG.2.1 hd ht (fun q => hT (fun z => q ((eq32 ca c0).mpr z)) hl (cVs_t hs) hD ad cA dC dI p l e s m args below meth c H lsR locs hA hG hK hP hS hL) (fun q => hF ((eq32 ca c0).mp q) hl (cVs_t hs) hD ad cA dC dI p l e s m args below meth c H lsR locs hA hG hK hP hS hL)
theorem WP_icmp_lt {a b off : Int} {tgt : Nat} (hd : decode mi.2.1 pc = .ok (.if_icmp .lt off, 3)) (ht : (pc : Int) + off = (tgt : Int)) (hT : a < b → WP mi Q tgt ls st D) (hF : ¬ a < b → WP mi Q (pc + 3) ls st D) : WP mi Q pc ls (vI b :: vI a :: st) D := by
  intro hl hs hD ad cA dC dI p l e s m args below meth c H lsR locs hA hG hK hP hS hL
  have ca : c32 a := cVs_h (cVs_t hs)
  have cb : c32 b := cVs_h hs
  show W p l e (rmO mi) s m args below meth c H locs 0 0 _ (F0 m pc lsR (.int (Int32.ofInt b) :: .int (Int32.ofInt a) :: st.map (reV ad)))
  exact lv_icmp_lt hG.1 hG.2.1 hd ht (fun q => hT ((lt32 ca cb).mp q) hl (cVs_t (cVs_t hs)) hD ad cA dC dI p l e s m args below meth c H lsR locs hA hG hK hP hS hL) (fun q => hF (fun z => q ((lt32 ca cb).mpr z)) hl (cVs_t (cVs_t hs)) hD ad cA dC dI p l e s m args below meth c H lsR locs hA hG hK hP hS hL)
theorem WP_if_lt {a off : Int} {tgt : Nat} (hd : decode mi.2.1 pc = .ok (.ifCond .lt off, 3)) (ht : (pc : Int) + off = (tgt : Int)) (hT : a < 0 → WP mi Q tgt ls st D) (hF : ¬ a < 0 → WP mi Q (pc + 3) ls st D) : WP mi Q pc ls (vI a :: st) D := by
  intro hl hs hD ad cA dC dI p l e s m args below meth c H lsR locs hA hG hK hP hS hL
  have ca : c32 a := cVs_h hs
  show W p l e (rmO mi) s m args below meth c H locs 0 0 _ (F0 m pc lsR (.int (Int32.ofInt a) :: st.map (reV ad)))
  exact lv_if_lt hG.1 hG.2.1 hd ht (fun q => hT ((lt32 ca c0).mp q) hl (cVs_t hs) hD ad cA dC dI p l e s m args below meth c H lsR locs hA hG hK hP hS hL) (fun q => hF (fun z => q ((lt32 ca c0).mpr z)) hl (cVs_t hs) hD ad cA dC dI p l e s m args below meth c H lsR locs hA hG hK hP hS hL)
theorem WP_icmp_ge {a b off : Int} {tgt : Nat} (hd : decode mi.2.1 pc = .ok (.if_icmp .ge off, 3)) (ht : (pc : Int) + off = (tgt : Int)) (hT : b ≤ a → WP mi Q tgt ls st D) (hF : ¬ b ≤ a → WP mi Q (pc + 3) ls st D) : WP mi Q pc ls (vI b :: vI a :: st) D := by
  intro hl hs hD ad cA dC dI p l e s m args below meth c H lsR locs hA hG hK hP hS hL
  have ca : c32 a := cVs_h (cVs_t hs)
  have cb : c32 b := cVs_h hs
  show W p l e (rmO mi) s m args below meth c H locs 0 0 _ (F0 m pc lsR (.int (Int32.ofInt b) :: .int (Int32.ofInt a) :: st.map (reV ad)))
  exact lv_icmp_ge hG.1 hG.2.1 hd ht (fun q => hT ((le32 cb ca).mp q) hl (cVs_t (cVs_t hs)) hD ad cA dC dI p l e s m args below meth c H lsR locs hA hG hK hP hS hL) (fun q => hF (fun z => q ((le32 cb ca).mpr z)) hl (cVs_t (cVs_t hs)) hD ad cA dC dI p l e s m args below meth c H lsR locs hA hG hK hP hS hL)
theorem WP_if_ge {a off : Int} {tgt : Nat} (hd : decode mi.2.1 pc = .ok (.ifCond .ge off, 3)) (ht : (pc : Int) + off = (tgt : Int)) (hT : 0 ≤ a → WP mi Q tgt ls st D) (hF : ¬ 0 ≤ a → WP mi Q (pc + 3) ls st D) : WP mi Q pc ls (vI a :: st) D := by
  intro hl hs hD ad cA dC dI p l e s m args below meth c H lsR locs hA hG hK hP hS hL
  have ca : c32 a := cVs_h hs
  show W p l e (rmO mi) s m args below meth c H locs 0 0 _ (F0 m pc lsR (.int (Int32.ofInt a) :: st.map (reV ad)))
  exact lv_if_ge hG.1 hG.2.1 hd ht (fun q => hT ((le32 c0 ca).mp q) hl (cVs_t hs) hD ad cA dC dI p l e s m args below meth c H lsR locs hA hG hK hP hS hL) (fun q => hF (fun z => q ((le32 c0 ca).mpr z)) hl (cVs_t hs) hD ad cA dC dI p l e s m args below meth c H lsR locs hA hG hK hP hS hL)
theorem WP_icmp_gt {a b off : Int} {tgt : Nat} (hd : decode mi.2.1 pc = .ok (.if_icmp .gt off, 3)) (ht : (pc : Int) + off = (tgt : Int)) (hT : b < a → WP mi Q tgt ls st D) (hF : ¬ b < a → WP mi Q (pc + 3) ls st D) : WP mi Q pc ls (vI b :: vI a :: st) D := by
  intro hl hs hD ad cA dC dI p l e s m args below meth c H lsR locs hA hG hK hP hS hL
  have ca : c32 a := cVs_h (cVs_t hs)
  have cb : c32 b := cVs_h hs
  show W p l e (rmO mi) s m args below meth c H locs 0 0 _ (F0 m pc lsR (.int (Int32.ofInt b) :: .int (Int32.ofInt a) :: st.map (reV ad)))
  exact lv_icmp_gt hG.1 hG.2.1 hd ht (fun q => hT ((lt32 cb ca).mp q) hl (cVs_t (cVs_t hs)) hD ad cA dC dI p l e s m args below meth c H lsR locs hA hG hK hP hS hL) (fun q => hF (fun z => q ((lt32 cb ca).mpr z)) hl (cVs_t (cVs_t hs)) hD ad cA dC dI p l e s m args below meth c H lsR locs hA hG hK hP hS hL)
theorem WP_if_gt {a off : Int} {tgt : Nat} (hd : decode mi.2.1 pc = .ok (.ifCond .gt off, 3)) (ht : (pc : Int) + off = (tgt : Int)) (hT : 0 < a → WP mi Q tgt ls st D) (hF : ¬ 0 < a → WP mi Q (pc + 3) ls st D) : WP mi Q pc ls (vI a :: st) D := by
  intro hl hs hD ad cA dC dI p l e s m args below meth c H lsR locs hA hG hK hP hS hL
  have ca : c32 a := cVs_h hs
  show W p l e (rmO mi) s m args below meth c H locs 0 0 _ (F0 m pc lsR (.int (Int32.ofInt a) :: st.map (reV ad)))
  exact lv_if_gt hG.1 hG.2.1 hd ht (fun q => hT ((lt32 c0 ca).mp q) hl (cVs_t hs) hD ad cA dC dI p l e s m args below meth c H lsR locs hA hG hK hP hS hL) (fun q => hF (fun z => q ((lt32 c0 ca).mpr z)) hl (cVs_t hs) hD ad cA dC dI p l e s m args below meth c H lsR locs hA hG hK hP hS hL)
theorem WP_icmp_le {a b off : Int} {tgt : Nat} (hd : decode mi.2.1 pc = .ok (.if_icmp .le off, 3)) (ht : (pc : Int) + off = (tgt : Int)) (hT : a ≤ b → WP mi Q tgt ls st D) (hF : ¬ a ≤ b → WP mi Q (pc + 3) ls st D) : WP mi Q pc ls (vI b :: vI a :: st) D := by
  intro hl hs hD ad cA dC dI p l e s m args below meth c H lsR locs hA hG hK hP hS hL
  have ca : c32 a := cVs_h (cVs_t hs)
  have cb : c32 b := cVs_h hs
  show W p l e (rmO mi) s m args below meth c H locs 0 0 _ (F0 m pc lsR (.int (Int32.ofInt b) :: .int (Int32.ofInt a) :: st.map (reV ad)))
  exact lv_icmp_le hG.1 hG.2.1 hd ht (fun q => hT ((le32 ca cb).mp q) hl (cVs_t (cVs_t hs)) hD ad cA dC dI p l e s m args below meth c H lsR locs hA hG hK hP hS hL) (fun q => hF (fun z => q ((le32 ca cb).mpr z)) hl (cVs_t (cVs_t hs)) hD ad cA dC dI p l e s m args below meth c H lsR locs hA hG hK hP hS hL)
theorem WP_if_le {a off : Int} {tgt : Nat} (hd : decode mi.2.1 pc = .ok (.ifCond .le off, 3)) (ht : (pc : Int) + off = (tgt : Int)) (hT : a ≤ 0 → WP mi Q tgt ls st D) (hF : ¬ a ≤ 0 → WP mi Q (pc + 3) ls st D) : WP mi Q pc ls (vI a :: st) D := by
  intro hl hs hD ad cA dC dI p l e s m args below meth c H lsR locs hA hG hK hP hS hL
  have ca : c32 a := cVs_h hs
  show W p l e (rmO mi) s m args below meth c H locs 0 0 _ (F0 m pc lsR (.int (Int32.ofInt a) :: st.map (reV ad)))
  exact lv_if_le hG.1 hG.2.1 hd ht (fun q => hT ((le32 ca c0).mp q) hl (cVs_t hs) hD ad cA dC dI p l e s m args below meth c H lsR locs hA hG hK hP hS hL) (fun q => hF (fun z => q ((le32 ca c0).mpr z)) hl (cVs_t hs) hD ad cA dC dI p l e s m args below meth c H lsR locs hA hG hK hP hS hL)
theorem WP_tabOut {a dflt lo hi : Int} {offs : Array Int} {len tgt : Nat} (hd : decode mi.2.1 pc = .ok (.tableswitch dflt lo hi offs, len)) (h : a < lo ∨ hi < a) (ht : (pc : Int) + dflt = (tgt : Int)) (hn : WP mi Q tgt ls st D) : WP mi Q pc ls (vI a :: st) D := by
  intro hl hs hD ad cA dC dI p l e s m args below meth c H lsR locs hA hG hK hP hS hL
  have ca : c32 a := cVs_h hs
  show W p l e (rmO mi) s m args below meth c H locs 0 0 _ (F0 m pc lsR (.int (Int32.ofInt a) :: st.map (reV ad)))
  exact lv_tableOut hG.1 hG.2.1 hd (by rw [ti32 ca]; exact h) ht (hn hl (cVs_t hs) hD ad cA dC dI p l e s m args below meth c H lsR locs hA hG hK hP hS hL)
theorem WP_tabIn {a dflt lo hi off : Int} {offs : Array Int} {len tgt : Nat} (hd : decode mi.2.1 pc = .ok (.tableswitch dflt lo hi offs, len)) (h1 : ¬ a < lo) (h2 : ¬ hi < a) (ho : offs[(a - lo).toNat]? = some off) (ht : (pc : Int) + off = (tgt : Int)) (hn : WP mi Q tgt ls st D) : WP mi Q pc ls (vI a :: st) D := by
  intro hl hs hD ad cA dC dI p l e s m args below meth c H lsR locs hA hG hK hP hS hL
  have ca : c32 a := cVs_h hs
  show W p l e (rmO mi) s m args below meth c H locs 0 0 _ (F0 m pc lsR (.int (Int32.ofInt a) :: st.map (reV ad)))
  exact lv_tableIn hG.1 hG.2.1 hd (by rw [ti32 ca]; exact h1) (by rw [ti32 ca]; exact h2) (by rw [ti32 ca]; exact ho) ht (hn hl (cVs_t hs) hD ad cA dC dI p l e s m args below meth c H lsR locs hA hG hK hP hS hL)
theorem WP_look {a dflt off : Int} {ps : Array (Int × Int)} {len tgt : Nat} (hd : decode mi.2.1 pc = .ok (.lookupswitch dflt ps, len)) (hp : (ps.toList.zip (ps.toList.drop 1)).all (fun (a, next) => a.1 < next.1) = true) (ho : Op.lookupswitch.offset ps.toList dflt a = off) (ht : (pc : Int) + off = (tgt : Int)) (hn : WP mi Q tgt ls st D) : WP mi Q pc ls (vI a :: st) D := by
  intro hl hs hD ad cA dC dI p l e s m args below meth c H lsR locs hA hG hK hP hS hL
  have ca : c32 a := cVs_h hs
  show W p l e (rmO mi) s m args below meth c H locs 0 0 _ (F0 m pc lsR (.int (Int32.ofInt a) :: st.map (reV ad)))
  exact lv_lookup hG.1 hG.2.1 hd hp (by rw [ti32 ca]; exact ho) ht (hn hl (cVs_t hs) hD ad cA dC dI p l e s m args below meth c H lsR locs hA hG hK hP hS hL)
theorem WP_cD (h : cD D → WP mi Q pc ls st D) : WP mi Q pc ls st D := fun a b c => h c a b c
theorem WP_cl (h : cVs ls → WP mi Q pc ls st D) : WP mi Q pc ls st D := fun a b c => h a a b c
theorem WP_cs (h : cVs st → WP mi Q pc ls st D) : WP mi Q pc ls st D := fun a b c => h b a b c
theorem WP_getI {k j idx ci : Nat} {z : Int} (hd : decode mi.2.1 pc = .ok (.getfield idx, 3)) (hf : FLok mi.1.cls idx ci j) (hk : kc k = (0, ci)) (hj : fk ci j = 0) (hz : D k j = z) (hn : WP mi Q (pc + 3) ls (vI z :: st) D) : WP mi Q pc ls (vR k :: st) D := by
  subst hz
  intro hl hs hD ad cA dC dI p l e s m args below meth c H lsR locs hA hG hK hP hS hL
  obtain ⟨C, T, N, ty, hc, hjN, hm⟩ := hf
  show W p l e (rmO mi) s m args below meth c H locs 0 0 _ (F0 m pc lsR (.ref (ad k) :: st.map (reV ad)))
  refine va_get hG.1 hG.2.1 hG.2.2.2.1 hc.2.1 hG.2.2.2.2.1 hK hP k (fs := (List.range (nf ci)).map (fV ad D k ci)) ?_ hc.1 j hjN (hG.2.2.2.1 _ hm) (fun x h => h) (v := .int (Int32.ofInt (D k j))) ?_ hd ?_
  · rw [WD_at _ _ _ (kc_lt hk (by decide))]; simp only [cellOf, hk]
  · have hj2 : j < nf ci := hc.2.2.1 ▸ hjN
    simp [hj2, fV, hj]
  · exact hn hl (cVs_c (cD_i hD (by simp [isL, hk, hj])) (cVs_t hs)) hD ad cA dC dI p l e s m args below meth c H lsR locs hA hG hK hP hS hL
theorem WP_getL {k j idx ci : Nat} {z : Int} (hd : decode mi.2.1 pc = .ok (.getfield idx, 3)) (hf : FLok mi.1.cls idx ci j) (hk : kc k = (0, ci)) (hj : fk ci j = 1) (hz : D k j = z) (hn : WP mi Q (pc + 3) ls (vL z :: st) D) : WP mi Q pc ls (vR k :: st) D := by
  subst hz
  intro hl hs hD ad cA dC dI p l e s m args below meth c H lsR locs hA hG hK hP hS hL
  obtain ⟨C, T, N, ty, hc, hjN, hm⟩ := hf
  show W p l e (rmO mi) s m args below meth c H locs 0 0 _ (F0 m pc lsR (.ref (ad k) :: st.map (reV ad)))
  refine va_get hG.1 hG.2.1 hG.2.2.2.1 hc.2.1 hG.2.2.2.2.1 hK hP k (fs := (List.range (nf ci)).map (fV ad D k ci)) ?_ hc.1 j hjN (hG.2.2.2.1 _ hm) (fun x h => h) (v := .long (Int64.ofInt (D k j))) ?_ hd ?_
  · rw [WD_at _ _ _ (kc_lt hk (by decide))]; simp only [cellOf, hk]
  · have hj2 : j < nf ci := hc.2.2.1 ▸ hjN
    simp [hj2, fV, hj]
  · exact hn hl (cVs_c (cD_l hD (by simp [isL, hk, hj])) (cVs_t hs)) hD ad cA dC dI p l e s m args below meth c H lsR locs hA hG hK hP hS hL
theorem WP_getR {k j idx ci z : Nat} (hd : decode mi.2.1 pc = .ok (.getfield idx, 3)) (hf : FLok mi.1.cls idx ci j) (hk : kc k = (0, ci)) (hj : fk ci j = 2) (hz : sr k j = z) (hn : WP mi Q (pc + 3) ls (vR z :: st) D) : WP mi Q pc ls (vR k :: st) D := by
  subst hz
  intro hl hs hD ad cA dC dI p l e s m args below meth c H lsR locs hA hG hK hP hS hL
  obtain ⟨C, T, N, ty, hc, hjN, hm⟩ := hf
  show W p l e (rmO mi) s m args below meth c H locs 0 0 _ (F0 m pc lsR (.ref (ad k) :: st.map (reV ad)))
  refine va_get hG.1 hG.2.1 hG.2.2.2.1 hc.2.1 hG.2.2.2.2.1 hK hP k (fs := (List.range (nf ci)).map (fV ad D k ci)) ?_ hc.1 j hjN (hG.2.2.2.1 _ hm) (fun x h => h) (v := .ref (ad (sr k j))) ?_ hd ?_
  · rw [WD_at _ _ _ (kc_lt hk (by decide))]; simp only [cellOf, hk]
  · have hj2 : j < nf ci := hc.2.2.1 ▸ hjN
    simp [hj2, fV, hj]
  · exact hn hl (cVs_c (show cV (vR _) from trivial) (cVs_t hs)) hD ad cA dC dI p l e s m args below meth c H lsR locs hA hG hK hP hS hL
theorem WP_putI {k j idx ci : Nat} {z : Int} (hd : decode mi.2.1 pc = .ok (.putfield idx, 3)) (hf : FPok mi.1.cls idx ci j .int) (hk : kc k = (0, ci)) (hj : fk ci j = 0) (hn : WP mi Q (pc + 3) ls st (hu D k j z)) : WP mi Q pc ls (vI z :: vR k :: st) D := by
  intro hl hs hD ad cA dC dI p l e s m args below meth c H lsR locs hA hG hK hP hS hL
  obtain ⟨C, T, N, ty, hc, hjN, hm, hfin, hty⟩ := hf
  show W p l e (rmO mi) s m args below meth c H locs 0 0 _ (F0 m pc lsR (.int (Int32.ofInt z) :: .ref (ad k) :: st.map (reV ad)))
  have hj2 : j < nf ci := hc.2.2.1 ▸ hjN
  have h80 := kc_lt hk (by decide)
  refine va_put hG.1 hG.2.1 hG.2.2.2.1 hc.2.1 ty hc.2.2.2.1 hc.2.2.2.2 hG.2.2.2.2.1 hK hP (WD_D hA) hS k (fs := (List.range (nf ci)).map (fV ad D k ci)) ?_ hc.1 j hjN (hG.2.2.2.1 _ hm) (fun x h => h) hfin (ty := .int) hty rfl rfl (by simpa using hj2) hd ?_
  · rw [WD_at _ _ _ h80]; simp only [cellOf, hk]
  · intro H1 locs1 hP1 _ hS1
    rw [WD_set (D' := hu D k j z) h80 (by simp only [cellOf, hk]; congr 2; exact fV_set (by simp [fV, hj, hu_s]) hj2) (fun a h => cellOf_ne h)] at hP1
    exact hn hl (cVs_t (cVs_t hs)) (cD_u hD (show cB _ _ from by rw [show isL k j = false from by simp [isL, hk, hj]]; exact cVs_h hs)) ad cA dC dI p l e s m args below meth c H1 lsR locs1 hA hG hK hP1 hS1 hL
theorem WP_putL {k j idx ci : Nat} {z : Int} (hd : decode mi.2.1 pc = .ok (.putfield idx, 3)) (hf : FPok mi.1.cls idx ci j .long) (hk : kc k = (0, ci)) (hj : fk ci j = 1) (hn : WP mi Q (pc + 3) ls st (hu D k j z)) : WP mi Q pc ls (vL z :: vR k :: st) D := by
  intro hl hs hD ad cA dC dI p l e s m args below meth c H lsR locs hA hG hK hP hS hL
  obtain ⟨C, T, N, ty, hc, hjN, hm, hfin, hty⟩ := hf
  show W p l e (rmO mi) s m args below meth c H locs 0 0 _ (F0 m pc lsR (.long (Int64.ofInt z) :: .ref (ad k) :: st.map (reV ad)))
  have hj2 : j < nf ci := hc.2.2.1 ▸ hjN
  have h80 := kc_lt hk (by decide)
  refine va_put hG.1 hG.2.1 hG.2.2.2.1 hc.2.1 ty hc.2.2.2.1 hc.2.2.2.2 hG.2.2.2.2.1 hK hP (WD_D hA) hS k (fs := (List.range (nf ci)).map (fV ad D k ci)) ?_ hc.1 j hjN (hG.2.2.2.1 _ hm) (fun x h => h) hfin (ty := .long) hty rfl rfl (by simpa using hj2) hd ?_
  · rw [WD_at _ _ _ h80]; simp only [cellOf, hk]
  · intro H1 locs1 hP1 _ hS1
    rw [WD_set (D' := hu D k j z) h80 (by simp only [cellOf, hk]; congr 2; exact fV_set (by simp [fV, hj, hu_s]) hj2) (fun a h => cellOf_ne h)] at hP1
    exact hn hl (cVs_t (cVs_t hs)) (cD_u hD (show cB _ _ from by rw [show isL k j = true from by simp [isL, hk, hj]]; exact cVs_h hs)) ad cA dC dI p l e s m args below meth c H1 lsR locs1 hA hG hK hP1 hS1 hL
theorem WP_iald {k n : Nat} {i z : Int} (hd : decode mi.2.1 pc = .ok (.iaload, 1)) (hk : kc k = (1, n)) (h0 : 0 ≤ i) (h1 : i < n) (hz : D k i.toNat = z) (hn : WP mi Q (pc + 1) ls (vI z :: st) D) : WP mi Q pc ls (vI i :: vR k :: st) D := by
  subst hz
  intro hl hs hD ad cA dC dI p l e s m args below meth c H lsR locs hA hG hK hP hS hL
  have ci : c32 i := cVs_h hs
  show W p l e (rmO mi) s m args below meth c H locs 0 0 _ (F0 m pc lsR (.int (Int32.ofInt i) :: .ref (ad k) :: st.map (reV ad)))
  refine va_iald hG.1 hG.2.1 hK hP k 0 (cA := cA 1) (n := n) (f := fun j => Int32.ofInt (D k j)) ?_ rfl (in32 h0 h1 ci) hd ?_
  · rw [WD_at _ _ _ (kc_lt hk (by decide))]; simp only [cellOf, hk]
  · rw [cl32 h0 ci]
    exact hn hl (cVs_c (cD_i hD (by simp [isL, hk])) (cVs_t (cVs_t hs))) hD ad cA dC dI p l e s m args below meth c H lsR locs hA hG hK hP hS hL
theorem WP_zald {k n : Nat} {i z : Int} (hd : decode mi.2.1 pc = .ok (.baload, 1)) (hk : kc k = (2, n)) (h0 : 0 ≤ i) (h1 : i < n) (hz : D k i.toNat = z) (hn : WP mi Q (pc + 1) ls (vI z :: st) D) : WP mi Q pc ls (vI i :: vR k :: st) D := by
  subst hz
  intro hl hs hD ad cA dC dI p l e s m args below meth c H lsR locs hA hG hK hP hS hL
  have ci : c32 i := cVs_h hs
  show W p l e (rmO mi) s m args below meth c H locs 0 0 _ (F0 m pc lsR (.int (Int32.ofInt i) :: .ref (ad k) :: st.map (reV ad)))
  refine va_zald hG.1 hG.2.1 hK hP k 1 (cA := cA 2) (n := n) (f := fun j => Int32.ofInt (D k j)) ?_ rfl (in32 h0 h1 ci) hd ?_
  · rw [WD_at _ _ _ (kc_lt hk (by decide))]; simp only [cellOf, hk]
  · rw [cl32 h0 ci]
    exact hn hl (cVs_c (cD_i hD (by simp [isL, hk])) (cVs_t (cVs_t hs))) hD ad cA dC dI p l e s m args below meth c H lsR locs hA hG hK hP hS hL
theorem WP_lald {k n : Nat} {i z : Int} (hd : decode mi.2.1 pc = .ok (.laload, 1)) (hk : kc k = (3, n)) (h0 : 0 ≤ i) (h1 : i < n) (hz : D k i.toNat = z) (hn : WP mi Q (pc + 1) ls (vL z :: st) D) : WP mi Q pc ls (vI i :: vR k :: st) D := by
  subst hz
  intro hl hs hD ad cA dC dI p l e s m args below meth c H lsR locs hA hG hK hP hS hL
  have ci : c32 i := cVs_h hs
  show W p l e (rmO mi) s m args below meth c H locs 0 0 _ (F0 m pc lsR (.int (Int32.ofInt i) :: .ref (ad k) :: st.map (reV ad)))
  refine va_lald hG.1 hG.2.1 hK hP k 2 (cA := cA 3) (n := n) (f := fun j => Int64.ofInt (D k j)) ?_ rfl (in32 h0 h1 ci) hd ?_
  · rw [WD_at _ _ _ (kc_lt hk (by decide))]; simp only [cellOf, hk]
  · rw [cl32 h0 ci]
    exact hn hl (cVs_c (cD_l hD (by simp [isL, hk])) (cVs_t (cVs_t hs))) hD ad cA dC dI p l e s m args below meth c H lsR locs hA hG hK hP hS hL
theorem WP_aald4 {k n z : Nat} {i : Int} (hd : decode mi.2.1 pc = .ok (.aaload, 1)) (hk : kc k = (4, n)) (h0 : 0 ≤ i) (h1 : i < n) (hz : sr k i.toNat = z) (hn : WP mi Q (pc + 1) ls (vR z :: st) D) : WP mi Q pc ls (vI i :: vR k :: st) D := by
  subst hz
  intro hl hs hD ad cA dC dI p l e s m args below meth c H lsR locs hA hG hK hP hS hL
  have ci : c32 i := cVs_h hs
  show W p l e (rmO mi) s m args below meth c H locs 0 0 _ (F0 m pc lsR (.int (Int32.ofInt i) :: .ref (ad k) :: st.map (reV ad)))
  refine va_aldq hG.1 hG.2.1 hK hP k 3 (cA := cA 4) (C := RX2) (n := n) (f := fun j => some (ad (sr k j))) ?_ rfl (in32 h0 h1 ci) hd ?_
  · rw [WD_at _ _ _ (kc_lt hk (by decide))]; simp only [cellOf, hk]
  · rw [cl32 h0 ci]
    exact hn hl (cVs_c (show cV (vR _) from trivial) (cVs_t (cVs_t hs))) hD ad cA dC dI p l e s m args below meth c H lsR locs hA hG hK hP hS hL
theorem WP_aald5 {k n z : Nat} {i : Int} (hd : decode mi.2.1 pc = .ok (.aaload, 1)) (hk : kc k = (5, n)) (h0 : 0 ≤ i) (h1 : i < n) (hz : sr k i.toNat = z) (hn : WP mi Q (pc + 1) ls (vR z :: st) D) : WP mi Q pc ls (vI i :: vR k :: st) D := by
  subst hz
  intro hl hs hD ad cA dC dI p l e s m args below meth c H lsR locs hA hG hK hP hS hL
  have ci : c32 i := cVs_h hs
  show W p l e (rmO mi) s m args below meth c H locs 0 0 _ (F0 m pc lsR (.int (Int32.ofInt i) :: .ref (ad k) :: st.map (reV ad)))
  refine va_aldq hG.1 hG.2.1 hK hP k 4 (cA := cA 5) (C := RX3) (n := n) (f := fun j => some (ad (sr k j))) ?_ rfl (in32 h0 h1 ci) hd ?_
  · rw [WD_at _ _ _ (kc_lt hk (by decide))]; simp only [cellOf, hk]
  · rw [cl32 h0 ci]
    exact hn hl (cVs_c (show cV (vR _) from trivial) (cVs_t (cVs_t hs))) hD ad cA dC dI p l e s m args below meth c H lsR locs hA hG hK hP hS hL
theorem WP_alen {k n kd : Nat} {z : Int} (hd : decode mi.2.1 pc = .ok (.arraylength, 1)) (hk : kc k = (kd, n)) (hkd : kd = 1 ∨ kd = 3) (hz : (n : Int) = z) (hc : c32 z) (hn : WP mi Q (pc + 1) ls (vI z :: st) D) : WP mi Q pc ls (vR k :: st) D := by
  subst hz
  intro hl hs hD ad cA dC dI p l e s m args below meth c H lsR locs hA hG hK hP hS hL
  show W p l e (rmO mi) s m args below meth c H locs 0 0 _ (F0 m pc lsR (.ref (ad k) :: st.map (reV ad)))
  rcases hkd with rfl | rfl
  · refine va_alen hG.1 hG.2.1 hK hP k 0 (cA := cA 1) (x := (n, .inl (fun j => Int32.ofInt (D k j)))) ?_ rfl (v := Int32.ofInt (n : Int)) rfl hd (hn hl (cVs_c hc (cVs_t hs)) hD ad cA dC dI p l e s m args below meth c H lsR locs hA hG hK hP hS hL)
    rw [WD_at _ _ _ (kc_lt hk (by decide))]; simp only [cellOf, hk]
  · refine va_alen hG.1 hG.2.1 hK hP k 2 (cA := cA 3) (x := (n, .inr (.inl (fun j => Int64.ofInt (D k j))))) ?_ rfl (v := Int32.ofInt (n : Int)) rfl hd (hn hl (cVs_c hc (cVs_t hs)) hD ad cA dC dI p l e s m args below meth c H lsR locs hA hG hK hP hS hL)
    rw [WD_at _ _ _ (kc_lt hk (by decide))]; simp only [cellOf, hk]
theorem WP_iast {k n : Nat} {i z : Int} (hd : decode mi.2.1 pc = .ok (.iastore, 1)) (hk : kc k = (1, n)) (h0 : 0 ≤ i) (h1 : i < n) (hn : WP mi Q (pc + 1) ls st (hu D k i.toNat z)) : WP mi Q pc ls (vI z :: vI i :: vR k :: st) D := by
  intro hl hs hD ad cA dC dI p l e s m args below meth c H lsR locs hA hG hK hP hS hL
  have ci : c32 i := cVs_h (cVs_t hs)
  have h80 := kc_lt hk (by decide)
  show W p l e (rmO mi) s m args below meth c H locs 0 0 _ (F0 m pc lsR (.int (Int32.ofInt z) :: .int (Int32.ofInt i) :: .ref (ad k) :: st.map (reV ad)))
  refine va_iast hG.1 hG.2.1 hK hP (WD_D hA) hS k 0 (cA := cA 1) (n := n) (f := fun j => Int32.ofInt (D k j)) ?_ rfl (in32 h0 h1 ci) hd ?_
  · rw [WD_at _ _ _ h80]; simp only [cellOf, hk]
  · intro H1 locs1 hP1 _ hS1
    rw [cl32 h0 ci] at hP1
    rw [WD_set (D' := hu D k i.toNat z) h80 (by simp only [cellOf, hk]; rw [upd_hu]) (fun a h => cellOf_ne h)] at hP1
    exact hn hl (cVs_t (cVs_t (cVs_t hs))) (cD_u hD (show cB _ _ from by rw [show isL k i.toNat = false from by simp [isL, hk]]; exact cVs_h hs)) ad cA dC dI p l e s m args below meth c H1 lsR locs1 hA hG hK hP1 hS1 hL
theorem WP_zast {k n : Nat} {i z : Int} (hd : decode mi.2.1 pc = .ok (.bastore, 1)) (hk : kc k = (2, n)) (h0 : 0 ≤ i) (h1 : i < n) (hb : z = 0 ∨ z = 1) (hn : WP mi Q (pc + 1) ls st (hu D k i.toNat z)) : WP mi Q pc ls (vI z :: vI i :: vR k :: st) D := by
  intro hl hs hD ad cA dC dI p l e s m args below meth c H lsR locs hA hG hK hP hS hL
  have ci : c32 i := cVs_h (cVs_t hs)
  have h80 := kc_lt hk (by decide)
  show W p l e (rmO mi) s m args below meth c H locs 0 0 _ (F0 m pc lsR (.int (Int32.ofInt z) :: .int (Int32.ofInt i) :: .ref (ad k) :: st.map (reV ad)))
  refine va_zast hG.1 hG.2.1 hK hP (WD_D hA) hS k 1 (cA := cA 2) (n := n) (f := fun j => Int32.ofInt (D k j)) ?_ rfl (in32 h0 h1 ci) hd ?_
  · rw [WD_at _ _ _ h80]; simp only [cellOf, hk]
  · intro H1 locs1 hP1 _ hS1
    rw [cl32 h0 ci, nar_z hb] at hP1
    rw [WD_set (D' := hu D k i.toNat z) h80 (by simp only [cellOf, hk]; rw [upd_hu]) (fun a h => cellOf_ne h)] at hP1
    exact hn hl (cVs_t (cVs_t (cVs_t hs))) (cD_u hD (show cB _ _ from by rw [show isL k i.toNat = false from by simp [isL, hk]]; exact cVs_h hs)) ad cA dC dI p l e s m args below meth c H1 lsR locs1 hA hG hK hP1 hS1 hL
theorem WP_last {k n : Nat} {i z : Int} (hd : decode mi.2.1 pc = .ok (.lastore, 1)) (hk : kc k = (3, n)) (h0 : 0 ≤ i) (h1 : i < n) (hn : WP mi Q (pc + 1) ls st (hu D k i.toNat z)) : WP mi Q pc ls (vL z :: vI i :: vR k :: st) D := by
  intro hl hs hD ad cA dC dI p l e s m args below meth c H lsR locs hA hG hK hP hS hL
  have ci : c32 i := cVs_h (cVs_t hs)
  have h80 := kc_lt hk (by decide)
  show W p l e (rmO mi) s m args below meth c H locs 0 0 _ (F0 m pc lsR (.long (Int64.ofInt z) :: .int (Int32.ofInt i) :: .ref (ad k) :: st.map (reV ad)))
  refine va_last hG.1 hG.2.1 hK hP (WD_D hA) hS k 2 (cA := cA 3) (n := n) (f := fun j => Int64.ofInt (D k j)) ?_ rfl (in32 h0 h1 ci) hd ?_
  · rw [WD_at _ _ _ h80]; simp only [cellOf, hk]
  · intro H1 locs1 hP1 _ hS1
    rw [cl32 h0 ci] at hP1
    rw [WD_set (D' := hu D k i.toNat z) h80 (by simp only [cellOf, hk]; rw [updL_hu]) (fun a h => cellOf_ne h)] at hP1
    exact hn hl (cVs_t (cVs_t (cVs_t hs))) (cD_u hD (show cB _ _ from by rw [show isL k i.toNat = true from by simp [isL, hk]]; exact cVs_h hs)) ad cA dC dI p l e s m args below meth c H1 lsR locs1 hA hG hK hP1 hS1 hL
theorem WP_ireturn {z : Int} (hd : decode mi.2.1 pc = .ok (.ireturn, 1)) (hr : mi.2.2.2.1 = some .int) (hq : Q (some (vI z)) D) : WP mi Q pc ls [vI z] D := by
  intro hl hs hD ad cA dC dI p l e s m args below meth c H lsR locs hA hG hK hP hS hL
  refine W.iret (v := Int32.ofInt z) hG.1 hG.2.1 (hG.2.2.1.trans hr) (fun t ht _ => ⟨⟨some (vI z), D, rfl, ?_, hD, hq, by rw [ht]; exact hP⟩, hS.F ht⟩) hS.2.2 hd hG.2.2.2.2.2.1
  rw [hr]
  exact ⟨z, rfl, cVs_h hs⟩
theorem WP_zreturn {z : Int} (hd : decode mi.2.1 pc = .ok (.ireturn, 1)) (hr : mi.2.2.2.1 = some .boolean) (hb : z = 0 ∨ z = 1) (hq : Q (some (vI z)) D) : WP mi Q pc ls [vI z] D := by
  intro hl hs hD ad cA dC dI p l e s m args below meth c H lsR locs hA hG hK hP hS hL
  refine W.zret (v := Int32.ofInt z) hG.1 hG.2.1 (hG.2.2.1.trans hr) (by rcases hb with rfl | rfl <;> rfl) (fun t ht _ => ⟨⟨some (vI z), D, rfl, ?_, hD, hq, by rw [ht]; exact hP⟩, hS.F ht⟩) hS.2.2 hd hG.2.2.2.2.2.1
  rw [hr]
  exact ⟨z, rfl, cVs_h hs⟩
theorem WP_lreturn {z : Int} (hd : decode mi.2.1 pc = .ok (.lreturn, 1)) (hr : mi.2.2.2.1 = some .long) (hq : Q (some (vL z)) D) : WP mi Q pc ls [vL z] D := by
  intro hl hs hD ad cA dC dI p l e s m args below meth c H lsR locs hA hG hK hP hS hL
  refine W.lret (v := Int64.ofInt z) hG.1 hG.2.1 (hG.2.2.1.trans hr) (fun t ht _ => ⟨⟨some (vL z), D, rfl, ?_, hD, hq, by rw [ht]; exact hP⟩, hS.F ht⟩) hS.2.2 hd hG.2.2.2.2.2.1
  rw [hr]
  exact ⟨z, rfl, cVs_h hs⟩
theorem WP_return (hd : decode mi.2.1 pc = .ok (.return_, 1)) (hr : mi.2.2.2.1 = none) (hq : Q none D) : WP mi Q pc ls [] D := by
  intro hl hs hD ad cA dC dI p l e s m args below meth c H lsR locs hA hG hK hP hS hL
  refine W.vret hG.1 hG.2.1 (hG.2.2.1.trans hr) (fun t ht _ => ⟨⟨none, D, rfl, ?_, hD, hq, by rw [ht]; exact hP⟩, hS.F ht⟩) hS.2.2 hd hG.2.2.2.2.2.1
  rw [hr]
  rfl
end ROWS
