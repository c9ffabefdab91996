/-! counting, seeking, over the first n numbers -/
def exB (p : Nat → Bool) : Nat → Bool
  | 0 => false
  | n + 1 => exB p n || p n
def cntB (p : Nat → Bool) : Nat → Int
  | 0 => 0
  | n + 1 => cntB p n + if p n then 1 else 0
/-- the first, or -1 -/
def fsN (p : Nat → Bool) : Nat → Int
  | 0 => -1
  | n + 1 => if fsN p n ≠ -1 then fsN p n else if p n then n else -1
def mxN (g : Nat → Int) : Nat → Int
  | 0 => 0
  | n + 1 => if mxN g n < g n then g n else mxN g n
theorem fsN_no {p : Nat → Bool} : ∀ {n : Nat}, (∀ k, k < n → p k = false) → fsN p n = -1
  | 0, _ => rfl
  | n + 1, h => by
    rw [fsN, fsN_no (fun k hk => h k (by omega)), h n (by omega)]
    simp
theorem fsN_yes {p : Nat → Bool} {j : Nat} (h : ∀ k, k < j → p k = false) (hj : p j = true) : ∀ {n : Nat}, j < n → fsN p n = j
  | 0, hn => absurd hn (Nat.not_lt_zero _)
  | n + 1, hn => by
    rw [fsN]
    by_cases e : j = n
    · subst e
      rw [fsN_no h, hj]
      simp
    · rw [fsN_yes h hj (show j < n by omega)]
      rw [if_pos (by omega)]
def fJ6_bitCount_0f7a4 (D : HP) (a : Int) : Int := (b_iand (w32 ((w32 ((b_iand (w32 ((w32 ((b_iand (w32 (a - (b_iand (b_iushr a 1) 1431655765))) 858993459) + (b_iand (b_iushr (w32 (a - (b_iand (b_iushr a 1) 1431655765))) 2) 858993459))) + (b_iushr (w32 ((b_iand (w32 (a - (b_iand (b_iushr a 1) 1431655765))) 858993459) + (b_iand (b_iushr (w32 (a - (b_iand (b_iushr a 1) 1431655765))) 2) 858993459))) 4))) 252645135) + (b_iushr (b_iand (w32 ((w32 ((b_iand (w32 (a - (b_iand (b_iushr a 1) 1431655765))) 858993459) + (b_iand (b_iushr (w32 (a - (b_iand (b_iushr a 1) 1431655765))) 2) 858993459))) + (b_iushr (w32 ((b_iand (w32 (a - (b_iand (b_iushr a 1) 1431655765))) 858993459) + (b_iand (b_iushr (w32 (a - (b_iand (b_iushr a 1) 1431655765))) 2) 858993459))) 4))) 252645135) 8))) + (b_iushr (w32 ((b_iand (w32 ((w32 ((b_iand (w32 (a - (b_iand (b_iushr a 1) 1431655765))) 858993459) + (b_iand (b_iushr (w32 (a - (b_iand (b_iushr a 1) 1431655765))) 2) 858993459))) + (b_iushr (w32 ((b_iand (w32 (a - (b_iand (b_iushr a 1) 1431655765))) 858993459) + (b_iand (b_iushr (w32 (a - (b_iand (b_iushr a 1) 1431655765))) 2) 858993459))) 4))) 252645135) + (b_iushr (b_iand (w32 ((w32 ((b_iand (w32 (a - (b_iand (b_iushr a 1) 1431655765))) 858993459) + (b_iand (b_iushr (w32 (a - (b_iand (b_iushr a 1) 1431655765))) 2) 858993459))) + (b_iushr (w32 ((b_iand (w32 (a - (b_iand (b_iushr a 1) 1431655765))) 858993459) + (b_iand (b_iushr (w32 (a - (b_iand (b_iushr a 1) 1431655765))) 2) 858993459))) 4))) 252645135) 8))) 16))) 63)
def oJ6_bitCount_0f7a4 (D : HP) (a : Int) : Prop := True
set_option maxRecDepth 100000 in
set_option maxHeartbeats 4000000 in
theorem V_J6_bitCount_0f7a4 (a : Int) {D : HP} {Q : Option MV → HP → Prop}
    (h0 : cD D → c32 a → (Q (some (vI (b_iand (w32 ((w32 ((b_iand (w32 ((w32 ((b_iand (w32 (a - (b_iand (b_iushr a 1) 1431655765))) 858993459) + (b_iand (b_iushr (w32 (a - (b_iand (b_iushr a 1) 1431655765))) 2) 858993459))) + (b_iushr (w32 ((b_iand (w32 (a - (b_iand (b_iushr a 1) 1431655765))) 858993459) + (b_iand (b_iushr (w32 (a - (b_iand (b_iushr a 1) 1431655765))) 2) 858993459))) 4))) 252645135) + (b_iushr (b_iand (w32 ((w32 ((b_iand (w32 (a - (b_iand (b_iushr a 1) 1431655765))) 858993459) + (b_iand (b_iushr (w32 (a - (b_iand (b_iushr a 1) 1431655765))) 2) 858993459))) + (b_iushr (w32 ((b_iand (w32 (a - (b_iand (b_iushr a 1) 1431655765))) 858993459) + (b_iand (b_iushr (w32 (a - (b_iand (b_iushr a 1) 1431655765))) 2) 858993459))) 4))) 252645135) 8))) + (b_iushr (w32 ((b_iand (w32 ((w32 ((b_iand (w32 (a - (b_iand (b_iushr a 1) 1431655765))) 858993459) + (b_iand (b_iushr (w32 (a - (b_iand (b_iushr a 1) 1431655765))) 2) 858993459))) + (b_iushr (w32 ((b_iand (w32 (a - (b_iand (b_iushr a 1) 1431655765))) 858993459) + (b_iand (b_iushr (w32 (a - (b_iand (b_iushr a 1) 1431655765))) 2) 858993459))) 4))) 252645135) + (b_iushr (b_iand (w32 ((w32 ((b_iand (w32 (a - (b_iand (b_iushr a 1) 1431655765))) 858993459) + (b_iand (b_iushr (w32 (a - (b_iand (b_iushr a 1) 1431655765))) 2) 858993459))) + (b_iushr (w32 ((b_iand (w32 (a - (b_iand (b_iushr a 1) 1431655765))) 858993459) + (b_iand (b_iushr (w32 (a - (b_iand (b_iushr a 1) 1431655765))) 2) 858993459))) 4))) 252645135) 8))) 16))) 63))) D))
    : CT mJ6_bitCount_0f7a4 [vI a] D Q := by
  refine CT.of 0 (by decide) (Nat.le_of_ble_eq_true rfl) ?_
  show WP mJ6_bitCount_0f7a4 Q 0 [vI a] [] D
  refine WP_cD (fun hcD => ?_)
  refine WP_cl (fun hcl => ?_)
  have h := h0 hcD (cVs_g hcl (i := 0) (v := vI a) rfl)
  refine WP_iload_n (z := a) dJ6_bitCount_0f7a4_0 rfl ?_
  refine WP_iload_n (z := a) dJ6_bitCount_0f7a4_1 rfl ?_
  refine WP_iconst (z := 1) dJ6_bitCount_0f7a4_2 rfl ⟨by decide, by decide⟩ ?_
  refine WP_iushr dJ6_bitCount_0f7a4_3 rfl ?_
  refine WP_ldcw (z := 1431655765) wm_780 dJ6_bitCount_0f7a4_4 (by decide +kernel) ?_
  refine WP_iand dJ6_bitCount_0f7a4_7 rfl ?_
  refine WP_isub dJ6_bitCount_0f7a4_8 rfl ?_
  refine WP_istore_n (ls1 := [vI (w32 (a - (b_iand (b_iushr a 1) 1431655765)))]) dJ6_bitCount_0f7a4_9 (by decide) rfl ?_
  refine WP_iload_n (z := (w32 (a - (b_iand (b_iushr a 1) 1431655765)))) dJ6_bitCount_0f7a4_10 rfl ?_
  refine WP_ldcw (z := 858993459) wm_781 dJ6_bitCount_0f7a4_11 (by decide +kernel) ?_
  refine WP_iand dJ6_bitCount_0f7a4_14 rfl ?_
  refine WP_iload_n (z := (w32 (a - (b_iand (b_iushr a 1) 1431655765)))) dJ6_bitCount_0f7a4_15 rfl ?_
  refine WP_iconst (z := 2) dJ6_bitCount_0f7a4_16 rfl ⟨by decide, by decide⟩ ?_
  refine WP_iushr dJ6_bitCount_0f7a4_17 rfl ?_
  refine WP_ldcw (z := 858993459) wm_781 dJ6_bitCount_0f7a4_18 (by decide +kernel) ?_
  refine WP_iand dJ6_bitCount_0f7a4_21 rfl ?_
  refine WP_iadd dJ6_bitCount_0f7a4_22 rfl ?_
  refine WP_istore_n (ls1 := [vI (w32 ((b_iand (w32 (a - (b_iand (b_iushr a 1) 1431655765))) 858993459) + (b_iand (b_iushr (w32 (a - (b_iand (b_iushr a 1) 1431655765))) 2) 858993459)))]) dJ6_bitCount_0f7a4_23 (by decide) rfl ?_
  refine WP_iload_n (z := (w32 ((b_iand (w32 (a - (b_iand (b_iushr a 1) 1431655765))) 858993459) + (b_iand (b_iushr (w32 (a - (b_iand (b_iushr a 1) 1431655765))) 2) 858993459)))) dJ6_bitCount_0f7a4_24 rfl ?_
  refine WP_iload_n (z := (w32 ((b_iand (w32 (a - (b_iand (b_iushr a 1) 1431655765))) 858993459) + (b_iand (b_iushr (w32 (a - (b_iand (b_iushr a 1) 1431655765))) 2) 858993459)))) dJ6_bitCount_0f7a4_25 rfl ?_
  refine WP_iconst (z := 4) dJ6_bitCount_0f7a4_26 rfl ⟨by decide, by decide⟩ ?_
  refine WP_iushr dJ6_bitCount_0f7a4_27 rfl ?_
  refine WP_iadd dJ6_bitCount_0f7a4_28 rfl ?_
  refine WP_ldcw (z := 252645135) wm_782 dJ6_bitCount_0f7a4_29 (by decide +kernel) ?_
  refine WP_iand dJ6_bitCount_0f7a4_32 rfl ?_
  refine WP_istore_n (ls1 := [vI (b_iand (w32 ((w32 ((b_iand (w32 (a - (b_iand (b_iushr a 1) 1431655765))) 858993459) + (b_iand (b_iushr (w32 (a - (b_iand (b_iushr a 1) 1431655765))) 2) 858993459))) + (b_iushr (w32 ((b_iand (w32 (a - (b_iand (b_iushr a 1) 1431655765))) 858993459) + (b_iand (b_iushr (w32 (a - (b_iand (b_iushr a 1) 1431655765))) 2) 858993459))) 4))) 252645135)]) dJ6_bitCount_0f7a4_33 (by decide) rfl ?_
  refine WP_iload_n (z := (b_iand (w32 ((w32 ((b_iand (w32 (a - (b_iand (b_iushr a 1) 1431655765))) 858993459) + (b_iand (b_iushr (w32 (a - (b_iand (b_iushr a 1) 1431655765))) 2) 858993459))) + (b_iushr (w32 ((b_iand (w32 (a - (b_iand (b_iushr a 1) 1431655765))) 858993459) + (b_iand (b_iushr (w32 (a - (b_iand (b_iushr a 1) 1431655765))) 2) 858993459))) 4))) 252645135)) dJ6_bitCount_0f7a4_34 rfl ?_
  refine WP_iload_n (z := (b_iand (w32 ((w32 ((b_iand (w32 (a - (b_iand (b_iushr a 1) 1431655765))) 858993459) + (b_iand (b_iushr (w32 (a - (b_iand (b_iushr a 1) 1431655765))) 2) 858993459))) + (b_iushr (w32 ((b_iand (w32 (a - (b_iand (b_iushr a 1) 1431655765))) 858993459) + (b_iand (b_iushr (w32 (a - (b_iand (b_iushr a 1) 1431655765))) 2) 858993459))) 4))) 252645135)) dJ6_bitCount_0f7a4_35 rfl ?_
  refine WP_bipush (z := 8) dJ6_bitCount_0f7a4_36 rfl (by decide) ?_
  refine WP_iushr dJ6_bitCount_0f7a4_38 rfl ?_
  refine WP_iadd dJ6_bitCount_0f7a4_39 rfl ?_
  refine WP_istore_n (ls1 := [vI (w32 ((b_iand (w32 ((w32 ((b_iand (w32 (a - (b_iand (b_iushr a 1) 1431655765))) 858993459) + (b_iand (b_iushr (w32 (a - (b_iand (b_iushr a 1) 1431655765))) 2) 858993459))) + (b_iushr (w32 ((b_iand (w32 (a - (b_iand (b_iushr a 1) 1431655765))) 858993459) + (b_iand (b_iushr (w32 (a - (b_iand (b_iushr a 1) 1431655765))) 2) 858993459))) 4))) 252645135) + (b_iushr (b_iand (w32 ((w32 ((b_iand (w32 (a - (b_iand (b_iushr a 1) 1431655765))) 858993459) + (b_iand (b_iushr (w32 (a - (b_iand (b_iushr a 1) 1431655765))) 2) 858993459))) + (b_iushr (w32 ((b_iand (w32 (a - (b_iand (b_iushr a 1) 1431655765))) 858993459) + (b_iand (b_iushr (w32 (a - (b_iand (b_iushr a 1) 1431655765))) 2) 858993459))) 4))) 252645135) 8)))]) dJ6_bitCount_0f7a4_40 (by decide) rfl ?_
  refine WP_iload_n (z := (w32 ((b_iand (w32 ((w32 ((b_iand (w32 (a - (b_iand (b_iushr a 1) 1431655765))) 858993459) + (b_iand (b_iushr (w32 (a - (b_iand (b_iushr a 1) 1431655765))) 2) 858993459))) + (b_iushr (w32 ((b_iand (w32 (a - (b_iand (b_iushr a 1) 1431655765))) 858993459) + (b_iand (b_iushr (w32 (a - (b_iand (b_iushr a 1) 1431655765))) 2) 858993459))) 4))) 252645135) + (b_iushr (b_iand (w32 ((w32 ((b_iand (w32 (a - (b_iand (b_iushr a 1) 1431655765))) 858993459) + (b_iand (b_iushr (w32 (a - (b_iand (b_iushr a 1) 1431655765))) 2) 858993459))) + (b_iushr (w32 ((b_iand (w32 (a - (b_iand (b_iushr a 1) 1431655765))) 858993459) + (b_iand (b_iushr (w32 (a - (b_iand (b_iushr a 1) 1431655765))) 2) 858993459))) 4))) 252645135) 8)))) dJ6_bitCount_0f7a4_41 rfl ?_
  refine WP_iload_n (z := (w32 ((b_iand (w32 ((w32 ((b_iand (w32 (a - (b_iand (b_iushr a 1) 1431655765))) 858993459) + (b_iand (b_iushr (w32 (a - (b_iand (b_iushr a 1) 1431655765))) 2) 858993459))) + (b_iushr (w32 ((b_iand (w32 (a - (b_iand (b_iushr a 1) 1431655765))) 858993459) + (b_iand (b_iushr (w32 (a - (b_iand (b_iushr a 1) 1431655765))) 2) 858993459))) 4))) 252645135) + (b_iushr (b_iand (w32 ((w32 ((b_iand (w32 (a - (b_iand (b_iushr a 1) 1431655765))) 858993459) + (b_iand (b_iushr (w32 (a - (b_iand (b_iushr a 1) 1431655765))) 2) 858993459))) + (b_iushr (w32 ((b_iand (w32 (a - (b_iand (b_iushr a 1) 1431655765))) 858993459) + (b_iand (b_iushr (w32 (a - (b_iand (b_iushr a 1) 1431655765))) 2) 858993459))) 4))) 252645135) 8)))) dJ6_bitCount_0f7a4_42 rfl ?_
  refine WP_bipush (z := 16) dJ6_bitCount_0f7a4_43 rfl (by decide) ?_
  refine WP_iushr dJ6_bitCount_0f7a4_45 rfl ?_
  refine WP_iadd dJ6_bitCount_0f7a4_46 rfl ?_
  refine WP_istore_n (ls1 := [vI (w32 ((w32 ((b_iand (w32 ((w32 ((b_iand (w32 (a - (b_iand (b_iushr a 1) 1431655765))) 858993459) + (b_iand (b_iushr (w32 (a - (b_iand (b_iushr a 1) 1431655765))) 2) 858993459))) + (b_iushr (w32 ((b_iand (w32 (a - (b_iand (b_iushr a 1) 1431655765))) 858993459) + (b_iand (b_iushr (w32 (a - (b_iand (b_iushr a 1) 1431655765))) 2) 858993459))) 4))) 252645135) + (b_iushr (b_iand (w32 ((w32 ((b_iand (w32 (a - (b_iand (b_iushr a 1) 1431655765))) 858993459) + (b_iand (b_iushr (w32 (a - (b_iand (b_iushr a 1) 1431655765))) 2) 858993459))) + (b_iushr (w32 ((b_iand (w32 (a - (b_iand (b_iushr a 1) 1431655765))) 858993459) + (b_iand (b_iushr (w32 (a - (b_iand (b_iushr a 1) 1431655765))) 2) 858993459))) 4))) 252645135) 8))) + (b_iushr (w32 ((b_iand (w32 ((w32 ((b_iand (w32 (a - (b_iand (b_iushr a 1) 1431655765))) 858993459) + (b_iand (b_iushr (w32 (a - (b_iand (b_iushr a 1) 1431655765))) 2) 858993459))) + (b_iushr (w32 ((b_iand (w32 (a - (b_iand (b_iushr a 1) 1431655765))) 858993459) + (b_iand (b_iushr (w32 (a - (b_iand (b_iushr a 1) 1431655765))) 2) 858993459))) 4))) 252645135) + (b_iushr (b_iand (w32 ((w32 ((b_iand (w32 (a - (b_iand (b_iushr a 1) 1431655765))) 858993459) + (b_iand (b_iushr (w32 (a - (b_iand (b_iushr a 1) 1431655765))) 2) 858993459))) + (b_iushr (w32 ((b_iand (w32 (a - (b_iand (b_iushr a 1) 1431655765))) 858993459) + (b_iand (b_iushr (w32 (a - (b_iand (b_iushr a 1) 1431655765))) 2) 858993459))) 4))) 252645135) 8))) 16)))]) dJ6_bitCount_0f7a4_47 (by decide) rfl ?_
  refine WP_iload_n (z := (w32 ((w32 ((b_iand (w32 ((w32 ((b_iand (w32 (a - (b_iand (b_iushr a 1) 1431655765))) 858993459) + (b_iand (b_iushr (w32 (a - (b_iand (b_iushr a 1) 1431655765))) 2) 858993459))) + (b_iushr (w32 ((b_iand (w32 (a - (b_iand (b_iushr a 1) 1431655765))) 858993459) + (b_iand (b_iushr (w32 (a - (b_iand (b_iushr a 1) 1431655765))) 2) 858993459))) 4))) 252645135) + (b_iushr (b_iand (w32 ((w32 ((b_iand (w32 (a - (b_iand (b_iushr a 1) 1431655765))) 858993459) + (b_iand (b_iushr (w32 (a - (b_iand (b_iushr a 1) 1431655765))) 2) 858993459))) + (b_iushr (w32 ((b_iand (w32 (a - (b_iand (b_iushr a 1) 1431655765))) 858993459) + (b_iand (b_iushr (w32 (a - (b_iand (b_iushr a 1) 1431655765))) 2) 858993459))) 4))) 252645135) 8))) + (b_iushr (w32 ((b_iand (w32 ((w32 ((b_iand (w32 (a - (b_iand (b_iushr a 1) 1431655765))) 858993459) + (b_iand (b_iushr (w32 (a - (b_iand (b_iushr a 1) 1431655765))) 2) 858993459))) + (b_iushr (w32 ((b_iand (w32 (a - (b_iand (b_iushr a 1) 1431655765))) 858993459) + (b_iand (b_iushr (w32 (a - (b_iand (b_iushr a 1) 1431655765))) 2) 858993459))) 4))) 252645135) + (b_iushr (b_iand (w32 ((w32 ((b_iand (w32 (a - (b_iand (b_iushr a 1) 1431655765))) 858993459) + (b_iand (b_iushr (w32 (a - (b_iand (b_iushr a 1) 1431655765))) 2) 858993459))) + (b_iushr (w32 ((b_iand (w32 (a - (b_iand (b_iushr a 1) 1431655765))) 858993459) + (b_iand (b_iushr (w32 (a - (b_iand (b_iushr a 1) 1431655765))) 2) 858993459))) 4))) 252645135) 8))) 16)))) dJ6_bitCount_0f7a4_48 rfl ?_
  refine WP_bipush (z := 63) dJ6_bitCount_0f7a4_49 rfl (by decide) ?_
  refine WP_iand dJ6_bitCount_0f7a4_51 rfl ?_
  exact WP_ireturn dJ6_bitCount_0f7a4_52 rfl h
set_option maxRecDepth 100000 in
set_option maxHeartbeats 4000000 in
theorem P_J6_bitCount_0f7a4 {a : Int} {D : HP} (hob : oJ6_bitCount_0f7a4 D a) : CT mJ6_bitCount_0f7a4 [vI a] D (PF (vI (fJ6_bitCount_0f7a4 D a)) D) := by
  refine V_J6_bitCount_0f7a4 a (fun hcD hc_0 => ?_)
  obtain ⟨z, hz⟩ : ∃ z, z = fJ6_bitCount_0f7a4 D a := ⟨_, rfl⟩
  rw [← hz]
  unfold fJ6_bitCount_0f7a4 at hz
  exact ⟨by rw [hz], rfl⟩
set_option maxRecDepth 100000 in
set_option maxHeartbeats 4000000 in
theorem V_J7_fill_d0a16 {a na : Nat} (ha : kc a = (3, na)) (hcn : c32 na) (b : Int) {D : HP} {Q : Option MV → HP → Prop} (I6 : Int → Int → Int → HP → Prop) (u6 : Int → Int → Int → HP → Nat)
    (h0 : cD D → c64 b → (I6 b 0 (na : Int) D))
    (h6 : ∀ (x1 x3 x4 : Int) (D : HP), I6 x1 x3 x4 D → cD D → c64 x1 → c32 x3 → c32 x4 → ((x4 ≤ x3 → (Q none D)) ∧ (¬ (x4 ≤ x3) → ((0 ≤ x3 ∧ x3 < na) ∧ (∀ (E2 : HP), E2 = (hu D a x3.toNat x1) → ((c32 (x3 + 1)) ∧ (I6 x1 (x3 + 1) x4 E2 ∧ u6 x1 (x3 + 1) x4 E2 < u6 x1 x3 x4 D)))))))
    : CT mJ7_fill_d0a16 [vR a, vL b] D Q := by
  refine CT.of 2 (by decide) (Nat.le_of_ble_eq_true rfl) ?_
  show WP mJ7_fill_d0a16 Q 0 [vR a, vL b, vU, vU, vU] [] D
  have IH : ∀ n : Nat, (∀ (x1 x3 x4 : Int) (D : HP), I6 x1 x3 x4 D → u6 x1 x3 x4 D * 1 + 0 < n → WP mJ7_fill_d0a16 Q 6 [vR a, vL x1, vU, vI x3, vI x4] [] D) := by
    intro n
    induction n with
    | zero => exact fun _ _ _ _ _ h => absurd h (Nat.not_lt_zero _)
    | succ n ih =>
      have ih6_ := ih
      · intro x1 x3 x4 D hI hn
        refine WP_cD (fun hcD => ?_)
        refine WP_cl (fun hcl => ?_)
        have h := h6 x1 x3 x4 D hI hcD (cVs_g hcl (i := 1) (v := vL x1) rfl) (cVs_g hcl (i := 3) (v := vI x3) rfl) (cVs_g hcl (i := 4) (v := vI x4) rfl)
        refine WP_iload_n (z := x3) dJ7_fill_d0a16_6 rfl ?_
        refine WP_iload (z := x4) dJ7_fill_d0a16_7 rfl ?_
        refine WP_icmp_ge (tgt := 22) dJ7_fill_d0a16_9 (by decide) (fun c1 => ?_) (fun c1 => ?_)
        · replace h := h.1 c1
          exact WP_return dJ7_fill_d0a16_22 rfl h
        · replace h := h.2 c1
          refine WP_aload_n (z := a) dJ7_fill_d0a16_12 rfl ?_
          refine WP_iload_n (z := x3) dJ7_fill_d0a16_13 rfl ?_
          refine WP_lload_n (z := x1) dJ7_fill_d0a16_14 rfl ?_
          obtain ⟨o5, h⟩ := h
          refine WP_last dJ7_fill_d0a16_15 ha o5.1 o5.2 ?_
          obtain ⟨E2, hE3⟩ : ∃ E2 : HP, E2 = (hu D a x3.toNat x1) := ⟨_, rfl⟩
          replace h := h E2 hE3
          show WP mJ7_fill_d0a16 Q 16 [vR a, vL x1, vU, vI x3, vI x4] [] (hu D a x3.toNat x1)
          rw [← hE3]
          obtain ⟨o4, h⟩ := h
          refine WP_iinc (z := (x3 + 1)) (ls1 := [vR a, vL x1, vU, vI (x3 + 1), vI x4]) dJ7_fill_d0a16_16 rfl (w32_id o4) (by decide) rfl ?_
          refine WP_goto (tgt := 6) dJ7_fill_d0a16_19 (by decide) ?_
          exact ih6_ _ _ _ _ h.1 (by have := h.2; omega)
  have cut6_ : ∀ (x1 x3 x4 : Int) (D : HP), I6 x1 x3 x4 D → WP mJ7_fill_d0a16 Q 6 [vR a, vL x1, vU, vI x3, vI x4] [] D := fun x1 x3 x4 D hI => (IH (u6 x1 x3 x4 D * 1 + 0 + 1)) x1 x3 x4 D hI (by omega)
  refine WP_cD (fun hcD => ?_)
  refine WP_cl (fun hcl => ?_)
  have h := h0 hcD (cVs_g hcl (i := 1) (v := vL b) rfl)
  refine WP_iconst (z := 0) dJ7_fill_d0a16_0 rfl ⟨by decide, by decide⟩ ?_
  refine WP_istore_n (ls1 := [vR a, vL b, vU, vI 0, vU]) dJ7_fill_d0a16_1 (by decide) rfl ?_
  refine WP_aload_n (z := a) dJ7_fill_d0a16_2 rfl ?_
  refine WP_alen dJ7_fill_d0a16_3 ha (by decide) rfl hcn ?_
  refine WP_istore (ls1 := [vR a, vL b, vU, vI 0, vI (na : Int)]) dJ7_fill_d0a16_4 (by decide) rfl ?_
  exact cut6_ _ _ _ _ h
set_option maxRecDepth 100000 in
set_option maxHeartbeats 4000000 in
theorem V_J7_fill_53178 {a na : Nat} (ha : kc a = (1, na)) (hcn : c32 na) (b : Int) {D : HP} {Q : Option MV → HP → Prop} (I5 : Int → Int → Int → HP → Prop) (u5 : Int → Int → Int → HP → Nat)
    (h0 : cD D → c32 b → (I5 b 0 (na : Int) D))
    (h5 : ∀ (x1 x2 x3 : Int) (D : HP), I5 x1 x2 x3 D → cD D → c32 x1 → c32 x2 → c32 x3 → ((x3 ≤ x2 → (Q none D)) ∧ (¬ (x3 ≤ x2) → ((0 ≤ x2 ∧ x2 < na) ∧ (∀ (E2 : HP), E2 = (hu D a x2.toNat x1) → ((c32 (x2 + 1)) ∧ (I5 x1 (x2 + 1) x3 E2 ∧ u5 x1 (x2 + 1) x3 E2 < u5 x1 x2 x3 D)))))))
    : CT mJ7_fill_53178 [vR a, vI b] D Q := by
  refine CT.of 2 (by decide) (Nat.le_of_ble_eq_true rfl) ?_
  show WP mJ7_fill_53178 Q 0 [vR a, vI b, vU, vU] [] D
  have IH : ∀ n : Nat, (∀ (x1 x2 x3 : Int) (D : HP), I5 x1 x2 x3 D → u5 x1 x2 x3 D * 1 + 0 < n → WP mJ7_fill_53178 Q 5 [vR a, vI x1, vI x2, vI x3] [] D) := by
    intro n
    induction n with
    | zero => exact fun _ _ _ _ _ h => absurd h (Nat.not_lt_zero _)
    | succ n ih =>
      have ih5_ := ih
      · intro x1 x2 x3 D hI hn
        refine WP_cD (fun hcD => ?_)
        refine WP_cl (fun hcl => ?_)
        have h := h5 x1 x2 x3 D hI hcD (cVs_g hcl (i := 1) (v := vI x1) rfl) (cVs_g hcl (i := 2) (v := vI x2) rfl) (cVs_g hcl (i := 3) (v := vI x3) rfl)
        refine WP_iload_n (z := x2) dJ7_fill_53178_5 rfl ?_
        refine WP_iload_n (z := x3) dJ7_fill_53178_6 rfl ?_
        refine WP_icmp_ge (tgt := 20) dJ7_fill_53178_7 (by decide) (fun c1 => ?_) (fun c1 => ?_)
        · replace h := h.1 c1
          exact WP_return dJ7_fill_53178_20 rfl h
        · replace h := h.2 c1
          refine WP_aload_n (z := a) dJ7_fill_53178_10 rfl ?_
          refine WP_iload_n (z := x2) dJ7_fill_53178_11 rfl ?_
          refine WP_iload_n (z := x1) dJ7_fill_53178_12 rfl ?_
          obtain ⟨o5, h⟩ := h
          refine WP_iast dJ7_fill_53178_13 ha o5.1 o5.2 ?_
          obtain ⟨E2, hE3⟩ : ∃ E2 : HP, E2 = (hu D a x2.toNat x1) := ⟨_, rfl⟩
          replace h := h E2 hE3
          show WP mJ7_fill_53178 Q 14 [vR a, vI x1, vI x2, vI x3] [] (hu D a x2.toNat x1)
          rw [← hE3]
          obtain ⟨o4, h⟩ := h
          refine WP_iinc (z := (x2 + 1)) (ls1 := [vR a, vI x1, vI (x2 + 1), vI x3]) dJ7_fill_53178_14 rfl (w32_id o4) (by decide) rfl ?_
          refine WP_goto (tgt := 5) dJ7_fill_53178_17 (by decide) ?_
          exact ih5_ _ _ _ _ h.1 (by have := h.2; omega)
  have cut5_ : ∀ (x1 x2 x3 : Int) (D : HP), I5 x1 x2 x3 D → WP mJ7_fill_53178 Q 5 [vR a, vI x1, vI x2, vI x3] [] D := fun x1 x2 x3 D hI => (IH (u5 x1 x2 x3 D * 1 + 0 + 1)) x1 x2 x3 D hI (by omega)
  refine WP_cD (fun hcD => ?_)
  refine WP_cl (fun hcl => ?_)
  have h := h0 hcD (cVs_g hcl (i := 1) (v := vI b) rfl)
  refine WP_iconst (z := 0) dJ7_fill_53178_0 rfl ⟨by decide, by decide⟩ ?_
  refine WP_istore_n (ls1 := [vR a, vI b, vI 0, vU]) dJ7_fill_53178_1 (by decide) rfl ?_
  refine WP_aload_n (z := a) dJ7_fill_53178_2 rfl ?_
  refine WP_alen dJ7_fill_53178_3 ha (by decide) rfl hcn ?_
  refine WP_istore_n (ls1 := [vR a, vI b, vI 0, vI (na : Int)]) dJ7_fill_53178_4 (by decide) rfl ?_
  exact cut5_ _ _ _ _ h
def fX2_isFull (D : HP) (o : Nat) : Int := (if (D o 2) < (D o 1) then (0 : Int) else 1)
theorem bfX2_isFull (D : HP) (o : Nat) : fX2_isFull D o = 0 ∨ fX2_isFull D o = 1 := by unfold fX2_isFull; exact (bool_ite (Or.inl rfl) (Or.inr rfl))
def oX2_isFull (D : HP) (o : Nat) : Prop := True
set_option maxRecDepth 100000 in
set_option maxHeartbeats 4000000 in
theorem V_X2_isFull {o : Nat} (ho : o = 2 ∨ o = 3 ∨ o = 4) {D : HP} {Q : Option MV → HP → Prop}
    (h0 : cD D → (Q (some (vI (if (D o 2) < (D o 1) then (0 : Int) else 1))) D))
    : CT mX2_isFull [vR o] D Q := by
  refine CT.of 0 (by decide) (Nat.le_of_ble_eq_true rfl) ?_
  show WP mX2_isFull Q 0 [vR o] [] D
  refine WP_cD (fun hcD => ?_)
  have h := h0 hcD
  refine WP_aload_n (z := o) dX2_isFull_0 rfl ?_
  refine WP_getI dX2_isFull_1 fl_RX2_15 (kcT_0 ho) rfl rfl ?_
  refine WP_aload_n (z := o) dX2_isFull_4 rfl ?_
  refine WP_getI dX2_isFull_5 fl_RX2_25 (kcT_0 ho) rfl rfl ?_
  refine WP_via (pc1 := 16) (ls1 := [vR o]) (st1 := [vI (if (D o 2) < (D o 1) then (0 : Int) else 1)]) (D1 := D) (fun hJ1 => ?_) ?_
  · refine WP_icmp_lt (tgt := 15) dX2_isFull_8 (by decide) (fun c2 => ?_) (fun c2 => ?_)
    · replace hJ1 := ite_t (P := fun v_ : Int => WP mX2_isFull Q 16 [vR o] [vI v_] D) hJ1 c2
      refine WP_iconst (z := 0) dX2_isFull_15 rfl ⟨by decide, by decide⟩ ?_
      exact hJ1
    · replace hJ1 := ite_f (P := fun v_ : Int => WP mX2_isFull Q 16 [vR o] [vI v_] D) hJ1 c2
      refine WP_iconst (z := 1) dX2_isFull_11 rfl ⟨by decide, by decide⟩ ?_
      refine WP_goto (tgt := 16) dX2_isFull_12 (by decide) ?_
      exact hJ1
  · exact WP_zreturn dX2_isFull_16 rfl (bool_ite (Or.inl rfl) (Or.inr rfl)) h
set_option maxRecDepth 100000 in
set_option maxHeartbeats 4000000 in
theorem P_X2_isFull {o : Nat} (ho : o = 2 ∨ o = 3 ∨ o = 4) {D : HP} (hob : oX2_isFull D o) : CT mX2_isFull [vR o] D (PF (vI (fX2_isFull D o)) D) := by
  refine V_X2_isFull ho (fun hcD => ?_)
  obtain ⟨z, hz⟩ : ∃ z, z = fX2_isFull D o := ⟨_, rfl⟩
  rw [← hz]
  unfold fX2_isFull at hz
  exact ⟨by rw [hz], rfl⟩
def fX2_length (D : HP) (o : Nat) : Int := (D o 2)
def oX2_length (D : HP) (o : Nat) : Prop := True
set_option maxRecDepth 100000 in
set_option maxHeartbeats 4000000 in
theorem V_X2_length {o : Nat} (ho : o = 2 ∨ o = 3 ∨ o = 4) {D : HP} {Q : Option MV → HP → Prop}
    (h0 : cD D → (Q (some (vI (D o 2))) D))
    : CT mX2_length [vR o] D Q := by
  refine CT.of 0 (by decide) (Nat.le_of_ble_eq_true rfl) ?_
  show WP mX2_length Q 0 [vR o] [] D
  refine WP_cD (fun hcD => ?_)
  have h := h0 hcD
  refine WP_aload_n (z := o) dX2_length_0 rfl ?_
  refine WP_getI dX2_length_1 fl_RX2_15 (kcT_0 ho) rfl rfl ?_
  exact WP_ireturn dX2_length_4 rfl h
set_option maxRecDepth 100000 in
set_option maxHeartbeats 4000000 in
theorem P_X2_length {o : Nat} (ho : o = 2 ∨ o = 3 ∨ o = 4) {D : HP} (hob : oX2_length D o) : CT mX2_length [vR o] D (PF (vI (fX2_length D o)) D) := by
  refine V_X2_length ho (fun hcD => ?_)
  obtain ⟨z, hz⟩ : ∃ z, z = fX2_length D o := ⟨_, rfl⟩
  rw [← hz]
  unfold fX2_length at hz
  exact ⟨by rw [hz], rfl⟩
def fX2_at (D : HP) (o : Nat) (a : Int) : Int := (if a < 0 then ((-1) : Int) else (if (D o 2) ≤ a then ((-1) : Int) else (D (o + 3) a.toNat)))
def oX2_at (D : HP) (o : Nat) (a : Int) : Prop := ((((a < 0) → True) ∧ (¬ (a < 0) → ((((D o 2) ≤ a) → True) ∧ (¬ ((D o 2) ≤ a) → (0 ≤ a ∧ a < 39))))) ∧ True)
set_option maxRecDepth 100000 in
set_option maxHeartbeats 4000000 in
theorem V_X2_at {o : Nat} (ho : o = 2 ∨ o = 3 ∨ o = 4) (a : Int) {D : HP} {Q : Option MV → HP → Prop}
    (h0 : cD D → c32 a → ((((a < 0) → True) ∧ (¬ (a < 0) → ((((D o 2) ≤ a) → True) ∧ (¬ ((D o 2) ≤ a) → (0 ≤ a ∧ a < 39))))) ∧ (Q (some (vI (if a < 0 then ((-1) : Int) else (if (D o 2) ≤ a then ((-1) : Int) else (D (o + 3) a.toNat))))) D)))
    : CT mX2_at [vR o, vI a] D Q := by
  refine CT.of 0 (by decide) (Nat.le_of_ble_eq_true rfl) ?_
  show WP mX2_at Q 0 [vR o, vI a] [] D
  refine WP_cD (fun hcD => ?_)
  refine WP_cl (fun hcl => ?_)
  have h := h0 hcD (cVs_g hcl (i := 1) (v := vI a) rfl)
  refine WP_iload_n (z := a) dX2_at_0 rfl ?_
  obtain ⟨o1, h⟩ := h
  refine WP_via (pc1 := 22) (ls1 := [vR o, vI a]) (st1 := [vI (if a < 0 then ((-1) : Int) else (if (D o 2) ≤ a then ((-1) : Int) else (D (o + 3) a.toNat)))]) (D1 := D) (fun hJ2 => ?_) ?_
  · refine WP_if_lt (tgt := 21) dX2_at_1 (by decide) (fun c3 => ?_) (fun c3 => ?_)
    · replace hJ2 := ite_t (P := fun v_ : Int => WP mX2_at Q 22 [vR o, vI a] [vI v_] D) hJ2 c3
      have o4 := o1.1 c3
      refine WP_iconst (z := (-1)) dX2_at_21 rfl ⟨by decide, by decide⟩ ?_
      exact hJ2
    · replace hJ2 := ite_f (P := fun v_ : Int => WP mX2_at Q 22 [vR o, vI a] [vI v_] D) hJ2 c3
      have o5 := o1.2 c3
      refine WP_iload_n (z := a) dX2_at_4 rfl ?_
      refine WP_aload_n (z := o) dX2_at_5 rfl ?_
      refine WP_getI dX2_at_6 fl_RX2_15 (kcT_0 ho) rfl rfl ?_
      refine WP_via (pc1 := 22) (ls1 := [vR o, vI a]) (st1 := [vI (if (D o 2) ≤ a then ((-1) : Int) else (D (o + 3) a.toNat))]) (D1 := D) (fun hJ6 => ?_) ?_
      · refine WP_icmp_ge (tgt := 21) dX2_at_9 (by decide) (fun c7 => ?_) (fun c7 => ?_)
        · replace hJ6 := ite_t (P := fun v_ : Int => WP mX2_at Q 22 [vR o, vI a] [vI v_] D) hJ6 c7
          have o8 := o5.1 c7
          refine WP_iconst (z := (-1)) dX2_at_21 rfl ⟨by decide, by decide⟩ ?_
          exact hJ6
        · replace hJ6 := ite_f (P := fun v_ : Int => WP mX2_at Q 22 [vR o, vI a] [vI v_] D) hJ6 c7
          have o9 := o5.2 c7
          refine WP_aload_n (z := o) dX2_at_12 rfl ?_
          refine WP_getR (z := (o + 3)) dX2_at_13 fl_RX2_9 (kcT_0 ho) rfl (srT_0_0 ho) ?_
          refine WP_iload_n (z := a) dX2_at_16 rfl ?_
          refine WP_iald dX2_at_17 (kcT_3 ho) o9.1 o9.2 rfl ?_
          refine WP_goto (tgt := 22) dX2_at_18 (by decide) ?_
          exact hJ6
      exact hJ2
  · exact WP_ireturn dX2_at_22 rfl h
set_option maxRecDepth 100000 in
set_option maxHeartbeats 4000000 in
theorem P_X2_at {o : Nat} (ho : o = 2 ∨ o = 3 ∨ o = 4) {a : Int} {D : HP} (hob : oX2_at D o a) : CT mX2_at [vR o, vI a] D (PF (vI (fX2_at D o a)) D) := by
  refine V_X2_at ho a (fun hcD hc_0 => ?_)
  obtain ⟨z, hz⟩ : ∃ z, z = fX2_at D o a := ⟨_, rfl⟩
  rw [← hz]
  unfold fX2_at at hz
  unfold oX2_at at hob
  refine ⟨hob.1, ?_⟩
  replace hob := hob.2
  exact ⟨by rw [hz], rfl⟩
set_option maxRecDepth 100000 in
set_option maxHeartbeats 4000000 in
theorem V_X2_append {o : Nat} (ho : o = 2 ∨ o = 3 ∨ o = 4) (a : Int) {D : HP} {Q : Option MV → HP → Prop}
    (h0 : cD D → c32 a → (((D o 2) < 0 → (Q none D)) ∧ (¬ ((D o 2) < 0) → (((D o 1) ≤ (D o 2) → (Q none D)) ∧ (¬ ((D o 1) ≤ (D o 2)) → ((0 ≤ (D o 2) ∧ (D o 2) < 39) ∧ (∀ (E3 : HP), E3 = (hu D (o + 3) ((D o 2)).toNat a) → ((c32 ((E3 o 2) + 1)) ∧ (∀ (E5 : HP), E5 = (hu E3 o 2 ((E3 o 2) + 1)) → (Q none E5))))))))))
    : CT mX2_append [vR o, vI a] D Q := by
  refine CT.of 0 (by decide) (Nat.le_of_ble_eq_true rfl) ?_
  show WP mX2_append Q 0 [vR o, vI a] [] D
  refine WP_cD (fun hcD => ?_)
  refine WP_cl (fun hcl => ?_)
  have h := h0 hcD (cVs_g hcl (i := 1) (v := vI a) rfl)
  refine WP_aload_n (z := o) dX2_append_0 rfl ?_
  refine WP_getI dX2_append_1 fl_RX2_15 (kcT_0 ho) rfl rfl ?_
  refine WP_if_lt (tgt := 38) dX2_append_4 (by decide) (fun c1 => ?_) (fun c1 => ?_)
  · replace h := h.1 c1
    exact WP_return dX2_append_38 rfl h
  · replace h := h.2 c1
    refine WP_aload_n (z := o) dX2_append_7 rfl ?_
    refine WP_getI dX2_append_8 fl_RX2_15 (kcT_0 ho) rfl rfl ?_
    refine WP_aload_n (z := o) dX2_append_11 rfl ?_
    refine WP_getI dX2_append_12 fl_RX2_25 (kcT_0 ho) rfl rfl ?_
    refine WP_icmp_ge (tgt := 38) dX2_append_15 (by decide) (fun c2 => ?_) (fun c2 => ?_)
    · replace h := h.1 c2
      exact WP_return dX2_append_38 rfl h
    · replace h := h.2 c2
      refine WP_aload_n (z := o) dX2_append_18 rfl ?_
      refine WP_getR (z := (o + 3)) dX2_append_19 fl_RX2_9 (kcT_0 ho) rfl (srT_0_0 ho) ?_
      refine WP_aload_n (z := o) dX2_append_22 rfl ?_
      refine WP_getI dX2_append_23 fl_RX2_15 (kcT_0 ho) rfl rfl ?_
      refine WP_iload_n (z := a) dX2_append_26 rfl ?_
      obtain ⟨o8, h⟩ := h
      refine WP_iast dX2_append_27 (kcT_3 ho) o8.1 o8.2 ?_
      obtain ⟨E3, hE4⟩ : ∃ E3 : HP, E3 = (hu D (o + 3) ((D o 2)).toNat a) := ⟨_, rfl⟩
      replace h := h E3 hE4
      show WP mX2_append Q 28 [vR o, vI a] [] (hu D (o + 3) ((D o 2)).toNat a)
      rw [← hE4]
      refine WP_aload_n (z := o) dX2_append_28 rfl ?_
      refine WP_dup dX2_append_29 (Nat.ne_of_beq_eq_false rfl) ?_
      refine WP_getI dX2_append_30 fl_RX2_15 (kcT_0 ho) rfl rfl ?_
      refine WP_iconst (z := 1) dX2_append_33 rfl ⟨by decide, by decide⟩ ?_
      obtain ⟨o7, h⟩ := h
      refine WP_iadd (z := ((E3 o 2) + 1)) dX2_append_34 (w32_id o7) ?_
      refine WP_putI dX2_append_35 fp_RX2_15 (kcT_0 ho) rfl ?_
      obtain ⟨E5, hE6⟩ : ∃ E5 : HP, E5 = (hu E3 o 2 ((E3 o 2) + 1)) := ⟨_, rfl⟩
      replace h := h E5 hE6
      show WP mX2_append Q 38 [vR o, vI a] [] (hu E3 o 2 ((E3 o 2) + 1))
      rw [← hE6]
      exact WP_return dX2_append_38 rfl h
set_option maxRecDepth 100000 in
set_option maxHeartbeats 4000000 in
theorem V_X2_shorten {o : Nat} (ho : o = 2 ∨ o = 3 ∨ o = 4) (a : Int) {D : HP} {Q : Option MV → HP → Prop}
    (h0 : cD D → c32 a → ((c32 ((D o 2) - a)) ∧ (∀ (E1 : HP), E1 = (hu D o 2 (if 0 < ((D o 2) - a) then (((D o 2) - a) : Int) else 0)) → (Q none E1))))
    : CT mX2_shorten [vR o, vI a] D Q := by
  refine CT.of 0 (by decide) (Nat.le_of_ble_eq_true rfl) ?_
  show WP mX2_shorten Q 0 [vR o, vI a] [] D
  refine WP_cD (fun hcD => ?_)
  refine WP_cl (fun hcl => ?_)
  have h := h0 hcD (cVs_g hcl (i := 1) (v := vI a) rfl)
  refine WP_aload_n (z := o) dX2_shorten_0 rfl ?_
  refine WP_iconst (z := 0) dX2_shorten_1 rfl ⟨by decide, by decide⟩ ?_
  refine WP_aload_n (z := o) dX2_shorten_2 rfl ?_
  refine WP_getI dX2_shorten_3 fl_RX2_15 (kcT_0 ho) rfl rfl ?_
  refine WP_iload_n (z := a) dX2_shorten_6 rfl ?_
  obtain ⟨o3, h⟩ := h
  refine WP_isub (z := ((D o 2) - a)) dX2_shorten_7 (w32_id o3) ?_
  refine WP_max dX2_shorten_8 wm_273 w_max ⟨Nat.le_of_ble_eq_true rfl, Nat.le_of_ble_eq_true rfl⟩ (Nat.le_of_ble_eq_true rfl) rfl ?_
  refine WP_putI dX2_shorten_11 fp_RX2_15 (kcT_0 ho) rfl ?_
  obtain ⟨E1, hE2⟩ : ∃ E1 : HP, E1 = (hu D o 2 (if 0 < ((D o 2) - a) then (((D o 2) - a) : Int) else 0)) := ⟨_, rfl⟩
  replace h := h E1 hE2
  show WP mX2_shorten Q 14 [vR o, vI a] [] (hu D o 2 (if 0 < ((D o 2) - a) then (((D o 2) - a) : Int) else 0))
  rw [← hE2]
  exact WP_return dX2_shorten_14 rfl h
def fX3_isLost (D : HP) (o : Nat) : Int := (if (D o 0) = (-1) then (1 : Int) else 0)
theorem bfX3_isLost (D : HP) (o : Nat) : fX3_isLost D o = 0 ∨ fX3_isLost D o = 1 := by unfold fX3_isLost; exact (bool_ite (Or.inr rfl) (Or.inl rfl))
def oX3_isLost (D : HP) (o : Nat) : Prop := True
set_option maxRecDepth 100000 in
set_option maxHeartbeats 4000000 in
theorem V_X3_isLost {o : Nat} (ho : o = 45 ∨ o = 46 ∨ o = 47 ∨ o = 48) {D : HP} {Q : Option MV → HP → Prop}
    (h0 : cD D → (Q (some (vI (if (D o 0) = (-1) then (1 : Int) else 0))) D))
    : CT mX3_isLost [vR o] D Q := by
  refine CT.of 0 (by decide) (Nat.le_of_ble_eq_true rfl) ?_
  show WP mX3_isLost Q 0 [vR o] [] D
  refine WP_cD (fun hcD => ?_)
  have h := h0 hcD
  refine WP_aload_n (z := o) dX3_isLost_0 rfl ?_
  refine WP_getI dX3_isLost_1 fl_RX3_9 (kcS_0 ho) rfl rfl ?_
  refine WP_iconst (z := (-1)) dX3_isLost_4 rfl ⟨by decide, by decide⟩ ?_
  refine WP_via (pc1 := 13) (ls1 := [vR o]) (st1 := [vI (if (D o 0) = (-1) then (1 : Int) else 0)]) (D1 := D) (fun hJ1 => ?_) ?_
  · refine WP_icmp_ne (tgt := 12) dX3_isLost_5 (by decide) (fun c2 => ?_) (fun c2 => ?_)
    · replace hJ1 := ite_f (P := fun v_ : Int => WP mX3_isLost Q 13 [vR o] [vI v_] D) hJ1 c2
      refine WP_iconst (z := 0) dX3_isLost_12 rfl ⟨by decide, by decide⟩ ?_
      exact hJ1
    · replace hJ1 := ite_t (P := fun v_ : Int => WP mX3_isLost Q 13 [vR o] [vI v_] D) hJ1 c2
      refine WP_iconst (z := 1) dX3_isLost_8 rfl ⟨by decide, by decide⟩ ?_
      refine WP_goto (tgt := 13) dX3_isLost_9 (by decide) ?_
      exact hJ1
  · exact WP_zreturn dX3_isLost_13 rfl (bool_ite (Or.inr rfl) (Or.inl rfl)) h
set_option maxRecDepth 100000 in
set_option maxHeartbeats 4000000 in
theorem P_X3_isLost {o : Nat} (ho : o = 45 ∨ o = 46 ∨ o = 47 ∨ o = 48) {D : HP} (hob : oX3_isLost D o) : CT mX3_isLost [vR o] D (PF (vI (fX3_isLost D o)) D) := by
  refine V_X3_isLost ho (fun hcD => ?_)
  obtain ⟨z, hz⟩ : ∃ z, z = fX3_isLost D o := ⟨_, rfl⟩
  rw [← hz]
  unfold fX3_isLost at hz
  exact ⟨by rw [hz], rfl⟩
set_option maxRecDepth 100000 in
set_option maxHeartbeats 4000000 in
theorem V_X3_renew {o : Nat} (ho : o = 45 ∨ o = 46 ∨ o = 47 ∨ o = 48) (a : Int) (b : Int) {D : HP} {Q : Option MV → HP → Prop}
    (h0 : cD D → c32 a → c32 b → (∀ (E1 : HP), E1 = (hu D o 0 a) → (∀ (E3 : HP), E3 = (hu E1 o 1 (if 0 < (if 60 < b then (60 : Int) else b) then ((if 60 < b then (60 : Int) else b) : Int) else 0)) → (∃ Q5 : Option MV → HP → Prop, CT mJ7_fill_53178 [vR (o + 4), vI 0] E3 Q5 ∧ ∀ (D8 : HP), Q5 none D8 → cD D8 → (Q none D8)))))
    : CT mX3_renew [vR o, vI a, vI b] D Q := by
  refine CT.of 0 (by decide) (Nat.le_of_ble_eq_true rfl) ?_
  show WP mX3_renew Q 0 [vR o, vI a, vI b] [] D
  refine WP_cD (fun hcD => ?_)
  refine WP_cl (fun hcl => ?_)
  have h := h0 hcD (cVs_g hcl (i := 1) (v := vI a) rfl) (cVs_g hcl (i := 2) (v := vI b) rfl)
  refine WP_aload_n (z := o) dX3_renew_0 rfl ?_
  refine WP_iload_n (z := a) dX3_renew_1 rfl ?_
  refine WP_putI dX3_renew_2 fp_RX3_9 (kcS_0 ho) rfl ?_
  obtain ⟨E1, hE2⟩ : ∃ E1 : HP, E1 = (hu D o 0 a) := ⟨_, rfl⟩
  replace h := h E1 hE2
  show WP mX3_renew Q 5 [vR o, vI a, vI b] [] (hu D o 0 a)
  rw [← hE2]
  refine WP_aload_n (z := o) dX3_renew_5 rfl ?_
  refine WP_iconst (z := 0) dX3_renew_6 rfl ⟨by decide, by decide⟩ ?_
  refine WP_iload_n (z := b) dX3_renew_7 rfl ?_
  refine WP_bipush (z := 60) dX3_renew_8 rfl (by decide) ?_
  refine WP_min dX3_renew_10 wm_840 w_min ⟨Nat.le_of_ble_eq_true rfl, Nat.le_of_ble_eq_true rfl⟩ (Nat.le_of_ble_eq_true rfl) rfl ?_
  refine WP_max dX3_renew_13 wm_841 w_max ⟨Nat.le_of_ble_eq_true rfl, Nat.le_of_ble_eq_true rfl⟩ (Nat.le_of_ble_eq_true rfl) rfl ?_
  refine WP_putI dX3_renew_16 fp_RX3_15 (kcS_0 ho) rfl ?_
  obtain ⟨E3, hE4⟩ : ∃ E3 : HP, E3 = (hu E1 o 1 (if 0 < (if 60 < b then (60 : Int) else b) then ((if 60 < b then (60 : Int) else b) : Int) else 0)) := ⟨_, rfl⟩
  replace h := h E3 hE4
  show WP mX3_renew Q 19 [vR o, vI a, vI b] [] (hu E1 o 1 (if 0 < (if 60 < b then (60 : Int) else b) then ((if 60 < b then (60 : Int) else b) : Int) else 0))
  rw [← hE4]
  refine WP_aload_n (z := o) dX3_renew_19 rfl ?_
  refine WP_getR (z := (o + 4)) dX3_renew_20 fl_RX3_18 (kcS_0 ho) rfl (srS_0_2 ho) ?_
  refine WP_iconst (z := 0) dX3_renew_23 rfl ⟨by decide, by decide⟩ ?_
  obtain ⟨Q5, ct7, h⟩ := h
  refine WP_callS (g := mJ7_fill_53178) (as := [vR (o + 4), vI 0]) (rest := []) (n := 2) dX3_renew_24 wm_842 mo_J7_fill_53178 rfl rfl ⟨Nat.le_of_ble_eq_true rfl, Nat.le_of_ble_eq_true rfl⟩ (Nat.le_of_ble_eq_true rfl) ct7 (fun r_ D8 hq6 hok hD11 => ?_)
  obtain rfl := hok
  replace h := h D8 hq6 hD11
  show WP mX3_renew Q 27 [vR o, vI a, vI b] [] D8
  exact WP_return dX3_renew_27 rfl h
set_option maxRecDepth 100000 in
set_option maxHeartbeats 4000000 in
theorem V_X3_discard {o : Nat} (ho : o = 45 ∨ o = 46 ∨ o = 47 ∨ o = 48) {D : HP} {Q : Option MV → HP → Prop}
    (h0 : cD D → (∀ (E1 : HP), E1 = (hu D o 0 (-1)) → (∀ (E3 : HP), E3 = (hu E1 o 1 0) → (Q none E3))))
    : CT mX3_discard [vR o] D Q := by
  refine CT.of 0 (by decide) (Nat.le_of_ble_eq_true rfl) ?_
  show WP mX3_discard Q 0 [vR o] [] D
  refine WP_cD (fun hcD => ?_)
  have h := h0 hcD
  refine WP_aload_n (z := o) dX3_discard_0 rfl ?_
  refine WP_iconst (z := (-1)) dX3_discard_1 rfl ⟨by decide, by decide⟩ ?_
  refine WP_putI dX3_discard_2 fp_RX3_9 (kcS_0 ho) rfl ?_
  obtain ⟨E1, hE2⟩ : ∃ E1 : HP, E1 = (hu D o 0 (-1)) := ⟨_, rfl⟩
  replace h := h E1 hE2
  show WP mX3_discard Q 5 [vR o] [] (hu D o 0 (-1))
  rw [← hE2]
  refine WP_aload_n (z := o) dX3_discard_5 rfl ?_
  refine WP_iconst (z := 0) dX3_discard_6 rfl ⟨by decide, by decide⟩ ?_
  refine WP_putI dX3_discard_7 fp_RX3_15 (kcS_0 ho) rfl ?_
  obtain ⟨E3, hE4⟩ : ∃ E3 : HP, E3 = (hu E1 o 1 0) := ⟨_, rfl⟩
  replace h := h E3 hE4
  show WP mX3_discard Q 10 [vR o] [] (hu E1 o 1 0)
  rw [← hE4]
  exact WP_return dX3_discard_10 rfl h
def fX3_hindrance (D : HP) (o : Nat) (a : Int) (b : Int) : Int := (if (fX3_isLost D o) = 0 then ((if (D o 0) = a then ((if b < 0 then (2 : Int) else (if b < (D o 1) then (0 : Int) else 2)) : Int) else 3) : Int) else 1)
def oX3_hindrance (D : HP) (o : Nat) (a : Int) (b : Int) : Prop := True
set_option maxRecDepth 100000 in
set_option maxHeartbeats 4000000 in
theorem V_X3_hindrance {o : Nat} (ho : o = 45 ∨ o = 46 ∨ o = 47 ∨ o = 48) (a : Int) (b : Int) {D : HP} {Q : Option MV → HP → Prop}
    (h0 : cD D → c32 a → c32 b → (((fX3_isLost D o) = 0 → (((D o 0) = a → (Q (some (vI (if b < 0 then (2 : Int) else (if b < (D o 1) then (0 : Int) else 2)))) D)) ∧ (¬ ((D o 0) = a) → (Q (some (vI 3)) D)))) ∧ (¬ ((fX3_isLost D o) = 0) → (Q (some (vI 1)) D))))
    : CT mX3_hindrance [vR o, vI a, vI b] D Q := by
  refine CT.of 0 (by decide) (Nat.le_of_ble_eq_true rfl) ?_
  show WP mX3_hindrance Q 0 [vR o, vI a, vI b] [] D
  refine WP_cD (fun hcD => ?_)
  refine WP_cl (fun hcl => ?_)
  have h := h0 hcD (cVs_g hcl (i := 1) (v := vI a) rfl) (cVs_g hcl (i := 2) (v := vI b) rfl)
  refine WP_aload_n (z := o) dX3_hindrance_0 rfl ?_
  refine WP_pcallV (g := mX3_isLost) (as := []) (rest := []) (n := 0) (r := vI (fX3_isLost D o)) dX3_hindrance_1 wm_867 mo_X3_isLost (kcS_0 ho) rfl rfl rfl ⟨Nat.le_of_ble_eq_true rfl, Nat.le_of_ble_eq_true rfl⟩ (Nat.le_of_ble_eq_true rfl) (P_X3_isLost ho trivial) ?_
  refine WP_if_eq (tgt := 9) dX3_hindrance_4 (by decide) (fun c1 => ?_) (fun c1 => ?_)
  · replace h := h.1 c1
    refine WP_aload_n (z := o) dX3_hindrance_9 rfl ?_
    refine WP_getI dX3_hindrance_10 fl_RX3_9 (kcS_0 ho) rfl rfl ?_
    refine WP_iload_n (z := a) dX3_hindrance_13 rfl ?_
    refine WP_icmp_eq (tgt := 19) dX3_hindrance_14 (by decide) (fun c2 => ?_) (fun c2 => ?_)
    · replace h := h.1 c2
      refine WP_iload_n (z := b) dX3_hindrance_19 rfl ?_
      refine WP_via (pc1 := 36) (ls1 := [vR o, vI a, vI b]) (st1 := [vI (if b < 0 then (2 : Int) else (if b < (D o 1) then (0 : Int) else 2))]) (D1 := D) (fun hJ3 => ?_) ?_
      · refine WP_if_lt (tgt := 31) dX3_hindrance_20 (by decide) (fun c4 => ?_) (fun c4 => ?_)
        · replace hJ3 := ite_t (P := fun v_ : Int => WP mX3_hindrance Q 36 [vR o, vI a, vI b] [vI v_] D) hJ3 c4
          refine WP_iconst (z := 2) dX3_hindrance_31 rfl ⟨by decide, by decide⟩ ?_
          refine WP_goto (tgt := 36) dX3_hindrance_32 (by decide) ?_
          exact hJ3
        · replace hJ3 := ite_f (P := fun v_ : Int => WP mX3_hindrance Q 36 [vR o, vI a, vI b] [vI v_] D) hJ3 c4
          refine WP_iload_n (z := b) dX3_hindrance_23 rfl ?_
          refine WP_aload_n (z := o) dX3_hindrance_24 rfl ?_
          refine WP_getI dX3_hindrance_25 fl_RX3_15 (kcS_0 ho) rfl rfl ?_
          refine WP_via (pc1 := 36) (ls1 := [vR o, vI a, vI b]) (st1 := [vI (if b < (D o 1) then (0 : Int) else 2)]) (D1 := D) (fun hJ5 => ?_) ?_
          · refine WP_icmp_lt (tgt := 35) dX3_hindrance_28 (by decide) (fun c6 => ?_) (fun c6 => ?_)
            · replace hJ5 := ite_t (P := fun v_ : Int => WP mX3_hindrance Q 36 [vR o, vI a, vI b] [vI v_] D) hJ5 c6
              refine WP_iconst (z := 0) dX3_hindrance_35 rfl ⟨by decide, by decide⟩ ?_
              exact hJ5
            · replace hJ5 := ite_f (P := fun v_ : Int => WP mX3_hindrance Q 36 [vR o, vI a, vI b] [vI v_] D) hJ5 c6
              refine WP_iconst (z := 2) dX3_hindrance_31 rfl ⟨by decide, by decide⟩ ?_
              refine WP_goto (tgt := 36) dX3_hindrance_32 (by decide) ?_
              exact hJ5
          exact hJ3
      · exact WP_ireturn dX3_hindrance_36 rfl h
    · replace h := h.2 c2
      refine WP_iconst (z := 3) dX3_hindrance_17 rfl ⟨by decide, by decide⟩ ?_
      exact WP_ireturn dX3_hindrance_18 rfl h
  · replace h := h.2 c1
    refine WP_iconst (z := 1) dX3_hindrance_7 rfl ⟨by decide, by decide⟩ ?_
    exact WP_ireturn dX3_hindrance_8 rfl h
set_option maxRecDepth 100000 in
set_option maxHeartbeats 4000000 in
theorem P_X3_hindrance {o : Nat} (ho : o = 45 ∨ o = 46 ∨ o = 47 ∨ o = 48) {a : Int} {b : Int} {D : HP} (hob : oX3_hindrance D o a b) : CT mX3_hindrance [vR o, vI a, vI b] D (PF (vI (fX3_hindrance D o a b)) D) := by
  refine V_X3_hindrance ho a b (fun hcD hc_0 hc_1 => ?_)
  obtain ⟨z, hz⟩ : ∃ z, z = fX3_hindrance D o a b := ⟨_, rfl⟩
  rw [← hz]
  unfold fX3_hindrance at hz
  refine ⟨fun k2 => ?_, fun k2 => ?_⟩
  · replace hz := hz.trans (if_pos k2)
    refine ⟨fun k1 => ?_, fun k1 => ?_⟩
    · replace hz := hz.trans (if_pos k1)
      exact ⟨by rw [hz], rfl⟩
    · replace hz := hz.trans (if_neg k1)
      exact ⟨by rw [hz], rfl⟩
  · replace hz := hz.trans (if_neg k2)
    exact ⟨by rw [hz], rfl⟩
def fX3_hasItems (D : HP) (o : Nat) (a : Int) (b : Int) : Int := (if a < 0 then (0 : Int) else (if b < 0 then (0 : Int) else (if (D o 1) < a then (0 : Int) else (if ((D o 1) - a) < b then (0 : Int) else 1))))
theorem bfX3_hasItems (D : HP) (o : Nat) (a : Int) (b : Int) : fX3_hasItems D o a b = 0 ∨ fX3_hasItems D o a b = 1 := by unfold fX3_hasItems; exact (bool_ite (Or.inl rfl) (bool_ite (Or.inl rfl) (bool_ite (Or.inl rfl) (bool_ite (Or.inl rfl) (Or.inr rfl)))))
def oX3_hasItems (D : HP) (o : Nat) (a : Int) (b : Int) : Prop := ((((a < 0) → True) ∧ (¬ (a < 0) → (((b < 0) → True) ∧ (¬ (b < 0) → ((((D o 1) < a) → True) ∧ (¬ ((D o 1) < a) → (c32 ((D o 1) - a)))))))) ∧ True)
set_option maxRecDepth 100000 in
set_option maxHeartbeats 4000000 in
theorem V_X3_hasItems {o : Nat} (ho : o = 45 ∨ o = 46 ∨ o = 47 ∨ o = 48) (a : Int) (b : Int) {D : HP} {Q : Option MV → HP → Prop}
    (h0 : cD D → c32 a → c32 b → ((((a < 0) → True) ∧ (¬ (a < 0) → (((b < 0) → True) ∧ (¬ (b < 0) → ((((D o 1) < a) → True) ∧ (¬ ((D o 1) < a) → (c32 ((D o 1) - a)))))))) ∧ (Q (some (vI (if a < 0 then (0 : Int) else (if b < 0 then (0 : Int) else (if (D o 1) < a then (0 : Int) else (if ((D o 1) - a) < b then (0 : Int) else 1)))))) D)))
    : CT mX3_hasItems [vR o, vI a, vI b] D Q := by
  refine CT.of 0 (by decide) (Nat.le_of_ble_eq_true rfl) ?_
  show WP mX3_hasItems Q 0 [vR o, vI a, vI b] [] D
  refine WP_cD (fun hcD => ?_)
  refine WP_cl (fun hcl => ?_)
  have h := h0 hcD (cVs_g hcl (i := 1) (v := vI a) rfl) (cVs_g hcl (i := 2) (v := vI b) rfl)
  refine WP_iload_n (z := a) dX3_hasItems_0 rfl ?_
  obtain ⟨o1, h⟩ := h
  refine WP_via (pc1 := 31) (ls1 := [vR o, vI a, vI b]) (st1 := [vI (if a < 0 then (0 : Int) else (if b < 0 then (0 : Int) else (if (D o 1) < a then (0 : Int) else (if ((D o 1) - a) < b then (0 : Int) else 1))))]) (D1 := D) (fun hJ2 => ?_) ?_
  · refine WP_if_lt (tgt := 30) dX3_hasItems_1 (by decide) (fun c3 => ?_) (fun c3 => ?_)
    · replace hJ2 := ite_t (P := fun v_ : Int => WP mX3_hasItems Q 31 [vR o, vI a, vI b] [vI v_] D) hJ2 c3
      have o4 := o1.1 c3
      refine WP_iconst (z := 0) dX3_hasItems_30 rfl ⟨by decide, by decide⟩ ?_
      exact hJ2
    · replace hJ2 := ite_f (P := fun v_ : Int => WP mX3_hasItems Q 31 [vR o, vI a, vI b] [vI v_] D) hJ2 c3
      have o5 := o1.2 c3
      refine WP_iload_n (z := b) dX3_hasItems_4 rfl ?_
      refine WP_via (pc1 := 31) (ls1 := [vR o, vI a, vI b]) (st1 := [vI (if b < 0 then (0 : Int) else (if (D o 1) < a then (0 : Int) else (if ((D o 1) - a) < b then (0 : Int) else 1)))]) (D1 := D) (fun hJ6 => ?_) ?_
      · refine WP_if_lt (tgt := 30) dX3_hasItems_5 (by decide) (fun c7 => ?_) (fun c7 => ?_)
        · replace hJ6 := ite_t (P := fun v_ : Int => WP mX3_hasItems Q 31 [vR o, vI a, vI b] [vI v_] D) hJ6 c7
          have o8 := o5.1 c7
          refine WP_iconst (z := 0) dX3_hasItems_30 rfl ⟨by decide, by decide⟩ ?_
          exact hJ6
        · replace hJ6 := ite_f (P := fun v_ : Int => WP mX3_hasItems Q 31 [vR o, vI a, vI b] [vI v_] D) hJ6 c7
          have o9 := o5.2 c7
          refine WP_iload_n (z := a) dX3_hasItems_8 rfl ?_
          refine WP_aload_n (z := o) dX3_hasItems_9 rfl ?_
          refine WP_getI dX3_hasItems_10 fl_RX3_15 (kcS_0 ho) rfl rfl ?_
          refine WP_via (pc1 := 31) (ls1 := [vR o, vI a, vI b]) (st1 := [vI (if (D o 1) < a then (0 : Int) else (if ((D o 1) - a) < b then (0 : Int) else 1))]) (D1 := D) (fun hJ10 => ?_) ?_
          · refine WP_icmp_gt (tgt := 30) dX3_hasItems_13 (by decide) (fun c11 => ?_) (fun c11 => ?_)
            · replace hJ10 := ite_t (P := fun v_ : Int => WP mX3_hasItems Q 31 [vR o, vI a, vI b] [vI v_] D) hJ10 c11
              have o12 := o9.1 c11
              refine WP_iconst (z := 0) dX3_hasItems_30 rfl ⟨by decide, by decide⟩ ?_
              exact hJ10
            · replace hJ10 := ite_f (P := fun v_ : Int => WP mX3_hasItems Q 31 [vR o, vI a, vI b] [vI v_] D) hJ10 c11
              have o13 := o9.2 c11
              refine WP_iload_n (z := b) dX3_hasItems_16 rfl ?_
              refine WP_aload_n (z := o) dX3_hasItems_17 rfl ?_
              refine WP_getI dX3_hasItems_18 fl_RX3_15 (kcS_0 ho) rfl rfl ?_
              refine WP_iload_n (z := a) dX3_hasItems_21 rfl ?_
              refine WP_isub (z := ((D o 1) - a)) dX3_hasItems_22 (w32_id o13) ?_
              refine WP_via (pc1 := 31) (ls1 := [vR o, vI a, vI b]) (st1 := [vI (if ((D o 1) - a) < b then (0 : Int) else 1)]) (D1 := D) (fun hJ14 => ?_) ?_
              · refine WP_icmp_gt (tgt := 30) dX3_hasItems_23 (by decide) (fun c15 => ?_) (fun c15 => ?_)
                · replace hJ14 := ite_t (P := fun v_ : Int => WP mX3_hasItems Q 31 [vR o, vI a, vI b] [vI v_] D) hJ14 c15
                  refine WP_iconst (z := 0) dX3_hasItems_30 rfl ⟨by decide, by decide⟩ ?_
                  exact hJ14
                · replace hJ14 := ite_f (P := fun v_ : Int => WP mX3_hasItems Q 31 [vR o, vI a, vI b] [vI v_] D) hJ14 c15
                  refine WP_iconst (z := 1) dX3_hasItems_26 rfl ⟨by decide, by decide⟩ ?_
                  refine WP_goto (tgt := 31) dX3_hasItems_27 (by decide) ?_
                  exact hJ14
              exact hJ10
          exact hJ6
      exact hJ2
  · exact WP_zreturn dX3_hasItems_31 rfl (bool_ite (Or.inl rfl) (bool_ite (Or.inl rfl) (bool_ite (Or.inl rfl) (bool_ite (Or.inl rfl) (Or.inr rfl))))) h
set_option maxRecDepth 100000 in
set_option maxHeartbeats 4000000 in
theorem P_X3_hasItems {o : Nat} (ho : o = 45 ∨ o = 46 ∨ o = 47 ∨ o = 48) {a : Int} {b : Int} {D : HP} (hob : oX3_hasItems D o a b) : CT mX3_hasItems [vR o, vI a, vI b] D (PF (vI (fX3_hasItems D o a b)) D) := by
  refine V_X3_hasItems ho a b (fun hcD hc_0 hc_1 => ?_)
  obtain ⟨z, hz⟩ : ∃ z, z = fX3_hasItems D o a b := ⟨_, rfl⟩
  rw [← hz]
  unfold fX3_hasItems at hz
  unfold oX3_hasItems at hob
  refine ⟨hob.1, ?_⟩
  replace hob := hob.2
  exact ⟨by rw [hz], rfl⟩
def fX3_item (D : HP) (o : Nat) (a : Int) : Int := (if a < 0 then (0 : Int) else (if (D o 1) ≤ a then (0 : Int) else (if 60 ≤ a then (0 : Int) else (D (o + 4) a.toNat))))
def oX3_item (D : HP) (o : Nat) (a : Int) : Prop := ((((a < 0) → True) ∧ (¬ (a < 0) → ((((D o 1) ≤ a) → True) ∧ (¬ ((D o 1) ≤ a) → (((60 ≤ a) → True) ∧ (¬ (60 ≤ a) → (0 ≤ a ∧ a < 60))))))) ∧ True)
set_option maxRecDepth 100000 in
set_option maxHeartbeats 4000000 in
theorem V_X3_item {o : Nat} (ho : o = 45 ∨ o = 46 ∨ o = 47 ∨ o = 48) (a : Int) {D : HP} {Q : Option MV → HP → Prop}
    (h0 : cD D → c32 a → ((((a < 0) → True) ∧ (¬ (a < 0) → ((((D o 1) ≤ a) → True) ∧ (¬ ((D o 1) ≤ a) → (((60 ≤ a) → True) ∧ (¬ (60 ≤ a) → (0 ≤ a ∧ a < 60))))))) ∧ (Q (some (vI (if a < 0 then (0 : Int) else (if (D o 1) ≤ a then (0 : Int) else (if 60 ≤ a then (0 : Int) else (D (o + 4) a.toNat)))))) D)))
    : CT mX3_item [vR o, vI a] D Q := by
  refine CT.of 0 (by decide) (Nat.le_of_ble_eq_true rfl) ?_
  show WP mX3_item Q 0 [vR o, vI a] [] D
  refine WP_cD (fun hcD => ?_)
  refine WP_cl (fun hcl => ?_)
  have h := h0 hcD (cVs_g hcl (i := 1) (v := vI a) rfl)
  refine WP_iload_n (z := a) dX3_item_0 rfl ?_
  obtain ⟨o1, h⟩ := h
  refine WP_via (pc1 := 28) (ls1 := [vR o, vI a]) (st1 := [vI (if a < 0 then (0 : Int) else (if (D o 1) ≤ a then (0 : Int) else (if 60 ≤ a then (0 : Int) else (D (o + 4) a.toNat))))]) (D1 := D) (fun hJ2 => ?_) ?_
  · refine WP_if_lt (tgt := 27) dX3_item_1 (by decide) (fun c3 => ?_) (fun c3 => ?_)
    · replace hJ2 := ite_t (P := fun v_ : Int => WP mX3_item Q 28 [vR o, vI a] [vI v_] D) hJ2 c3
      have o4 := o1.1 c3
      refine WP_iconst (z := 0) dX3_item_27 rfl ⟨by decide, by decide⟩ ?_
      exact hJ2
    · replace hJ2 := ite_f (P := fun v_ : Int => WP mX3_item Q 28 [vR o, vI a] [vI v_] D) hJ2 c3
      have o5 := o1.2 c3
      refine WP_iload_n (z := a) dX3_item_4 rfl ?_
      refine WP_aload_n (z := o) dX3_item_5 rfl ?_
      refine WP_getI dX3_item_6 fl_RX3_15 (kcS_0 ho) rfl rfl ?_
      refine WP_via (pc1 := 28) (ls1 := [vR o, vI a]) (st1 := [vI (if (D o 1) ≤ a then (0 : Int) else (if 60 ≤ a then (0 : Int) else (D (o + 4) a.toNat)))]) (D1 := D) (fun hJ6 => ?_) ?_
      · refine WP_icmp_ge (tgt := 27) dX3_item_9 (by decide) (fun c7 => ?_) (fun c7 => ?_)
        · replace hJ6 := ite_t (P := fun v_ : Int => WP mX3_item Q 28 [vR o, vI a] [vI v_] D) hJ6 c7
          have o8 := o5.1 c7
          refine WP_iconst (z := 0) dX3_item_27 rfl ⟨by decide, by decide⟩ ?_
          exact hJ6
        · replace hJ6 := ite_f (P := fun v_ : Int => WP mX3_item Q 28 [vR o, vI a] [vI v_] D) hJ6 c7
          have o9 := o5.2 c7
          refine WP_iload_n (z := a) dX3_item_12 rfl ?_
          refine WP_bipush (z := 60) dX3_item_13 rfl (by decide) ?_
          refine WP_via (pc1 := 28) (ls1 := [vR o, vI a]) (st1 := [vI (if 60 ≤ a then (0 : Int) else (D (o + 4) a.toNat))]) (D1 := D) (fun hJ10 => ?_) ?_
          · refine WP_icmp_ge (tgt := 27) dX3_item_15 (by decide) (fun c11 => ?_) (fun c11 => ?_)
            · replace hJ10 := ite_t (P := fun v_ : Int => WP mX3_item Q 28 [vR o, vI a] [vI v_] D) hJ10 c11
              have o12 := o9.1 c11
              refine WP_iconst (z := 0) dX3_item_27 rfl ⟨by decide, by decide⟩ ?_
              exact hJ10
            · replace hJ10 := ite_f (P := fun v_ : Int => WP mX3_item Q 28 [vR o, vI a] [vI v_] D) hJ10 c11
              have o13 := o9.2 c11
              refine WP_aload_n (z := o) dX3_item_18 rfl ?_
              refine WP_getR (z := (o + 4)) dX3_item_19 fl_RX3_18 (kcS_0 ho) rfl (srS_0_2 ho) ?_
              refine WP_iload_n (z := a) dX3_item_22 rfl ?_
              refine WP_iald dX3_item_23 (kcS_4 ho) o13.1 o13.2 rfl ?_
              refine WP_goto (tgt := 28) dX3_item_24 (by decide) ?_
              exact hJ10
          exact hJ6
      exact hJ2
  · exact WP_ireturn dX3_item_28 rfl h
set_option maxRecDepth 100000 in
set_option maxHeartbeats 4000000 in
theorem P_X3_item {o : Nat} (ho : o = 45 ∨ o = 46 ∨ o = 47 ∨ o = 48) {a : Int} {D : HP} (hob : oX3_item D o a) : CT mX3_item [vR o, vI a] D (PF (vI (fX3_item D o a)) D) := by
  refine V_X3_item ho a (fun hcD hc_0 => ?_)
  obtain ⟨z, hz⟩ : ∃ z, z = fX3_item D o a := ⟨_, rfl⟩
  rw [← hz]
  unfold fX3_item at hz
  unfold oX3_item at hob
  refine ⟨hob.1, ?_⟩
  replace hob := hob.2
  exact ⟨by rw [hz], rfl⟩
set_option maxRecDepth 100000 in
set_option maxHeartbeats 4000000 in
theorem V_X3_setItem {o : Nat} (ho : o = 45 ∨ o = 46 ∨ o = 47 ∨ o = 48) (a : Int) (b : Int) {D : HP} {Q : Option MV → HP → Prop}
    (h0 : cD D → c32 a → c32 b → ((a < 0 → (Q none D)) ∧ (¬ (a < 0) → (((D o 1) ≤ a → (Q none D)) ∧ (¬ ((D o 1) ≤ a) → ((60 ≤ a → (Q none D)) ∧ (¬ (60 ≤ a) → ((0 ≤ a ∧ a < 60) ∧ (∀ (E4 : HP), E4 = (hu D (o + 4) a.toNat (if (D o 0) = 0 then ((b_i2b b) : Int) else (if (D o 0) = 1 then ((b_i2s b) : Int) else b))) → (Q none E4))))))))))
    : CT mX3_setItem [vR o, vI a, vI b] D Q := by
  refine CT.of 0 (by decide) (Nat.le_of_ble_eq_true rfl) ?_
  show WP mX3_setItem Q 0 [vR o, vI a, vI b] [] D
  refine WP_cD (fun hcD => ?_)
  refine WP_cl (fun hcl => ?_)
  have h := h0 hcD (cVs_g hcl (i := 1) (v := vI a) rfl) (cVs_g hcl (i := 2) (v := vI b) rfl)
  refine WP_iload_n (z := a) dX3_setItem_0 rfl ?_
  refine WP_if_lt (tgt := 50) dX3_setItem_1 (by decide) (fun c1 => ?_) (fun c1 => ?_)
  · replace h := h.1 c1
    exact WP_return dX3_setItem_50 rfl h
  · replace h := h.2 c1
    refine WP_iload_n (z := a) dX3_setItem_4 rfl ?_
    refine WP_aload_n (z := o) dX3_setItem_5 rfl ?_
    refine WP_getI dX3_setItem_6 fl_RX3_15 (kcS_0 ho) rfl rfl ?_
    refine WP_icmp_ge (tgt := 50) dX3_setItem_9 (by decide) (fun c2 => ?_) (fun c2 => ?_)
    · replace h := h.1 c2
      exact WP_return dX3_setItem_50 rfl h
    · replace h := h.2 c2
      refine WP_iload_n (z := a) dX3_setItem_12 rfl ?_
      refine WP_bipush (z := 60) dX3_setItem_13 rfl (by decide) ?_
      refine WP_icmp_ge (tgt := 50) dX3_setItem_15 (by decide) (fun c3 => ?_) (fun c3 => ?_)
      · replace h := h.1 c3
        exact WP_return dX3_setItem_50 rfl h
      · replace h := h.2 c3
        refine WP_aload_n (z := o) dX3_setItem_18 rfl ?_
        refine WP_getR (z := (o + 4)) dX3_setItem_19 fl_RX3_18 (kcS_0 ho) rfl (srS_0_2 ho) ?_
        refine WP_iload_n (z := a) dX3_setItem_22 rfl ?_
        refine WP_aload_n (z := o) dX3_setItem_23 rfl ?_
        refine WP_getI dX3_setItem_24 fl_RX3_9 (kcS_0 ho) rfl rfl ?_
        refine WP_via (pc1 := 49) (ls1 := [vR o, vI a, vI b]) (st1 := [vI (if (D o 0) = 0 then ((b_i2b b) : Int) else (if (D o 0) = 1 then ((b_i2s b) : Int) else b)), vI a, vR (o + 4)]) (D1 := D) (fun hJ7 => ?_) ?_
        · refine WP_if_ne (tgt := 35) dX3_setItem_27 (by decide) (fun c8 => ?_) (fun c8 => ?_)
          · replace hJ7 := ite_f (P := fun v_ : Int => WP mX3_setItem Q 49 [vR o, vI a, vI b] [vI v_, vI a, vR (o + 4)] D) hJ7 c8
            refine WP_aload_n (z := o) dX3_setItem_35 rfl ?_
            refine WP_getI dX3_setItem_36 fl_RX3_9 (kcS_0 ho) rfl rfl ?_
            refine WP_iconst (z := 1) dX3_setItem_39 rfl ⟨by decide, by decide⟩ ?_
            refine WP_via (pc1 := 49) (ls1 := [vR o, vI a, vI b]) (st1 := [vI (if (D o 0) = 1 then ((b_i2s b) : Int) else b), vI a, vR (o + 4)]) (D1 := D) (fun hJ9 => ?_) ?_
            · refine WP_icmp_ne (tgt := 48) dX3_setItem_40 (by decide) (fun c10 => ?_) (fun c10 => ?_)
              · replace hJ9 := ite_f (P := fun v_ : Int => WP mX3_setItem Q 49 [vR o, vI a, vI b] [vI v_, vI a, vR (o + 4)] D) hJ9 c10
                refine WP_iload_n (z := b) dX3_setItem_48 rfl ?_
                exact hJ9
              · replace hJ9 := ite_t (P := fun v_ : Int => WP mX3_setItem Q 49 [vR o, vI a, vI b] [vI v_, vI a, vR (o + 4)] D) hJ9 c10
                refine WP_iload_n (z := b) dX3_setItem_43 rfl ?_
                refine WP_i2s dX3_setItem_44 rfl ?_
                refine WP_goto (tgt := 49) dX3_setItem_45 (by decide) ?_
                exact hJ9
            exact hJ7
          · replace hJ7 := ite_t (P := fun v_ : Int => WP mX3_setItem Q 49 [vR o, vI a, vI b] [vI v_, vI a, vR (o + 4)] D) hJ7 c8
            refine WP_iload_n (z := b) dX3_setItem_30 rfl ?_
            refine WP_i2b dX3_setItem_31 rfl ?_
            refine WP_goto (tgt := 49) dX3_setItem_32 (by decide) ?_
            exact hJ7
        · obtain ⟨o6, h⟩ := h
          refine WP_iast dX3_setItem_49 (kcS_4 ho) o6.1 o6.2 ?_
          obtain ⟨E4, hE5⟩ : ∃ E4 : HP, E4 = (hu D (o + 4) a.toNat (if (D o 0) = 0 then ((b_i2b b) : Int) else (if (D o 0) = 1 then ((b_i2s b) : Int) else b))) := ⟨_, rfl⟩
          replace h := h E4 hE5
          show WP mX3_setItem Q 50 [vR o, vI a, vI b] [] (hu D (o + 4) a.toNat (if (D o 0) = 0 then ((b_i2b b) : Int) else (if (D o 0) = 1 then ((b_i2s b) : Int) else b)))
          rw [← hE5]
          exact WP_return dX3_setItem_50 rfl h
