def fX6_within (D : HP) (a : Int) (b : Int) (c : Int) : Int := (if a < b then (0 : Int) else (if c < a then (0 : Int) else 1))
theorem bfX6_within (D : HP) (a : Int) (b : Int) (c : Int) : fX6_within D a b c = 0 ∨ fX6_within D a b c = 1 := by unfold fX6_within; exact (bool_ite (Or.inl rfl) (bool_ite (Or.inl rfl) (Or.inr rfl)))
def oX6_within (D : HP) (a : Int) (b : Int) (c : Int) : Prop := True
set_option maxRecDepth 100000 in
set_option maxHeartbeats 4000000 in
theorem V_X6_within (a : Int) (b : Int) (c : Int) {D : HP} {Q : Option MV → HP → Prop}
    (h0 : cD D → c32 a → c32 b → c32 c → (Q (some (vI (if a < b then (0 : Int) else (if c < a then (0 : Int) else 1)))) D))
    : CT mX6_within [vI a, vI b, vI c] D Q := by
  refine CT.of 0 (by decide) (Nat.le_of_ble_eq_true rfl) ?_
  show WP mX6_within Q 0 [vI a, vI b, vI c] [] D
  refine WP_cD (fun hcD => ?_)
  refine WP_cl (fun hcl => ?_)
  have h := h0 hcD (cVs_g hcl (i := 0) (v := vI a) rfl) (cVs_g hcl (i := 1) (v := vI b) rfl) (cVs_g hcl (i := 2) (v := vI c) rfl)
  refine WP_iload_n (z := a) dX6_within_0 rfl ?_
  refine WP_iload_n (z := b) dX6_within_1 rfl ?_
  refine WP_via (pc1 := 15) (ls1 := [vI a, vI b, vI c]) (st1 := [vI (if a < b then (0 : Int) else (if c < a then (0 : Int) else 1))]) (D1 := D) (fun hJ1 => ?_) ?_
  · refine WP_icmp_lt (tgt := 14) dX6_within_2 (by decide) (fun c2 => ?_) (fun c2 => ?_)
    · replace hJ1 := ite_t (P := fun v_ : Int => WP mX6_within Q 15 [vI a, vI b, vI c] [vI v_] D) hJ1 c2
      refine WP_iconst (z := 0) dX6_within_14 rfl ⟨by decide, by decide⟩ ?_
      exact hJ1
    · replace hJ1 := ite_f (P := fun v_ : Int => WP mX6_within Q 15 [vI a, vI b, vI c] [vI v_] D) hJ1 c2
      refine WP_iload_n (z := a) dX6_within_5 rfl ?_
      refine WP_iload_n (z := c) dX6_within_6 rfl ?_
      refine WP_via (pc1 := 15) (ls1 := [vI a, vI b, vI c]) (st1 := [vI (if c < a then (0 : Int) else 1)]) (D1 := D) (fun hJ3 => ?_) ?_
      · refine WP_icmp_gt (tgt := 14) dX6_within_7 (by decide) (fun c4 => ?_) (fun c4 => ?_)
        · replace hJ3 := ite_t (P := fun v_ : Int => WP mX6_within Q 15 [vI a, vI b, vI c] [vI v_] D) hJ3 c4
          refine WP_iconst (z := 0) dX6_within_14 rfl ⟨by decide, by decide⟩ ?_
          exact hJ3
        · replace hJ3 := ite_f (P := fun v_ : Int => WP mX6_within Q 15 [vI a, vI b, vI c] [vI v_] D) hJ3 c4
          refine WP_iconst (z := 1) dX6_within_10 rfl ⟨by decide, by decide⟩ ?_
          refine WP_goto (tgt := 15) dX6_within_11 (by decide) ?_
          exact hJ3
      exact hJ1
  · exact WP_zreturn dX6_within_15 rfl (bool_ite (Or.inl rfl) (bool_ite (Or.inl rfl) (Or.inr rfl))) h
set_option maxRecDepth 100000 in
set_option maxHeartbeats 4000000 in
theorem P_X6_within {a : Int} {b : Int} {c : Int} {D : HP} (hob : oX6_within D a b c) : CT mX6_within [vI a, vI b, vI c] D (PF (vI (fX6_within D a b c)) D) := by
  refine V_X6_within a b c (fun hcD hc_0 hc_1 hc_2 => ?_)
  obtain ⟨z, hz⟩ : ∃ z, z = fX6_within D a b c := ⟨_, rfl⟩
  rw [← hz]
  unfold fX6_within at hz
  exact ⟨by rw [hz], rfl⟩
def fX6_isIn (D : HP) (a : Int) (b : Int) : Int := (if (b_iand (b_ishr a b) 1) = 1 then (1 : Int) else 0)
theorem bfX6_isIn (D : HP) (a : Int) (b : Int) : fX6_isIn D a b = 0 ∨ fX6_isIn D a b = 1 := by unfold fX6_isIn; exact (bool_ite (Or.inr rfl) (Or.inl rfl))
def oX6_isIn (D : HP) (a : Int) (b : Int) : Prop := True
set_option maxRecDepth 100000 in
set_option maxHeartbeats 4000000 in
theorem V_X6_isIn (a : Int) (b : Int) {D : HP} {Q : Option MV → HP → Prop}
    (h0 : cD D → c32 a → c32 b → (Q (some (vI (if (b_iand (b_ishr a b) 1) = 1 then (1 : Int) else 0))) D))
    : CT mX6_isIn [vI a, vI b] D Q := by
  refine CT.of 0 (by decide) (Nat.le_of_ble_eq_true rfl) ?_
  show WP mX6_isIn Q 0 [vI a, vI b] [] D
  refine WP_cD (fun hcD => ?_)
  refine WP_cl (fun hcl => ?_)
  have h := h0 hcD (cVs_g hcl (i := 0) (v := vI a) rfl) (cVs_g hcl (i := 1) (v := vI b) rfl)
  refine WP_iload_n (z := a) dX6_isIn_0 rfl ?_
  refine WP_iload_n (z := b) dX6_isIn_1 rfl ?_
  refine WP_ishr dX6_isIn_2 rfl ?_
  refine WP_iconst (z := 1) dX6_isIn_3 rfl ⟨by decide, by decide⟩ ?_
  refine WP_iand dX6_isIn_4 rfl ?_
  refine WP_iconst (z := 1) dX6_isIn_5 rfl ⟨by decide, by decide⟩ ?_
  refine WP_via (pc1 := 14) (ls1 := [vI a, vI b]) (st1 := [vI (if (b_iand (b_ishr a b) 1) = 1 then (1 : Int) else 0)]) (D1 := D) (fun hJ1 => ?_) ?_
  · refine WP_icmp_ne (tgt := 13) dX6_isIn_6 (by decide) (fun c2 => ?_) (fun c2 => ?_)
    · replace hJ1 := ite_f (P := fun v_ : Int => WP mX6_isIn Q 14 [vI a, vI b] [vI v_] D) hJ1 c2
      refine WP_iconst (z := 0) dX6_isIn_13 rfl ⟨by decide, by decide⟩ ?_
      exact hJ1
    · replace hJ1 := ite_t (P := fun v_ : Int => WP mX6_isIn Q 14 [vI a, vI b] [vI v_] D) hJ1 c2
      refine WP_iconst (z := 1) dX6_isIn_9 rfl ⟨by decide, by decide⟩ ?_
      refine WP_goto (tgt := 14) dX6_isIn_10 (by decide) ?_
      exact hJ1
  · exact WP_zreturn dX6_isIn_14 rfl (bool_ite (Or.inr rfl) (Or.inl rfl)) h
set_option maxRecDepth 100000 in
set_option maxHeartbeats 4000000 in
theorem P_X6_isIn {a : Int} {b : Int} {D : HP} (hob : oX6_isIn D a b) : CT mX6_isIn [vI a, vI b] D (PF (vI (fX6_isIn D a b)) D) := by
  refine V_X6_isIn a b (fun hcD hc_0 hc_1 => ?_)
  obtain ⟨z, hz⟩ : ∃ z, z = fX6_isIn D a b := ⟨_, rfl⟩
  rw [← hz]
  unfold fX6_isIn at hz
  exact ⟨by rw [hz], rfl⟩
def fX6_no (D : HP) (a : Int) : Int := (w64 ((-9223372036854775808) - a))
def oX6_no (D : HP) (a : Int) : Prop := True
set_option maxRecDepth 100000 in
set_option maxHeartbeats 4000000 in
theorem V_X6_no (a : Int) {D : HP} {Q : Option MV → HP → Prop}
    (h0 : cD D → c32 a → (Q (some (vL (w64 ((-9223372036854775808) - a)))) D))
    : CT mX6_no [vI a] D Q := by
  refine CT.of 0 (by decide) (Nat.le_of_ble_eq_true rfl) ?_
  show WP mX6_no Q 0 [vI a] [] D
  refine WP_cD (fun hcD => ?_)
  refine WP_cl (fun hcl => ?_)
  have h := h0 hcD (cVs_g hcl (i := 0) (v := vI a) rfl)
  refine WP_ldc2 (z := (-9223372036854775808)) wm_802 dX6_no_0 (by decide +kernel) ?_
  refine WP_iload_n (z := a) dX6_no_3 rfl ?_
  refine WP_i2l dX6_no_4 ?_
  refine WP_lsub dX6_no_5 rfl ?_
  exact WP_lreturn dX6_no_6 rfl h
set_option maxRecDepth 100000 in
set_option maxHeartbeats 4000000 in
theorem P_X6_no {a : Int} {D : HP} (hob : oX6_no D a) : CT mX6_no [vI a] D (PF (vL (fX6_no D a)) D) := by
  refine V_X6_no a (fun hcD hc_0 => ?_)
  obtain ⟨z, hz⟩ : ∃ z, z = fX6_no D a := ⟨_, rfl⟩
  rw [← hz]
  unfold fX6_no at hz
  exact ⟨by rw [hz], rfl⟩
def fX6_lowest (D : HP) (a b c : Int) : Int := if c = 0 then a / (Int.gcd a b : Int) else b / (Int.gcd a b : Int)
def oX6_lowest (D : HP) (a b c : Int) : Prop := 0 ≤ a ∧ 0 < b
set_option maxRecDepth 100000 in
set_option maxHeartbeats 4000000 in
theorem V_X6_lowest (a : Int) (b : Int) (c : Int) {D : HP} {Q : Option MV → HP → Prop} (I6 : Int → Int → Int → Int → Int → HP → Prop) (u6 : Int → Int → Int → Int → Int → HP → Nat)
    (h0 : cD D → c64 a → c64 b → c32 c → (I6 a b c a b D))
    (h6 : ∀ (x0 x2 x4 x5 x7 : Int) (D : HP), I6 x0 x2 x4 x5 x7 D → cD D → c64 x0 → c64 x2 → c32 x4 → c64 x5 → c64 x7 → (((if 0 < x7 then (1 : Int) else if x7 = 0 then 0 else -1) = 0 → ((((x4 = 0) → (0 ≤ x0 ∧ 0 < x5)) ∧ (¬ (x4 = 0) → (0 ≤ x2 ∧ 0 < x5))) ∧ (Q (some (vL (if x4 = 0 then ((x0 / x5) : Int) else (x2 / x5)))) D))) ∧ (¬ ((if 0 < x7 then (1 : Int) else if x7 = 0 then 0 else -1) = 0) → ((0 ≤ x5 ∧ 0 < x7) ∧ (I6 x0 x2 x4 x7 (x5 % x7) D ∧ u6 x0 x2 x4 x7 (x5 % x7) D < u6 x0 x2 x4 x5 x7 D)))))
    : CT mX6_lowest [vL a, vL b, vI c] D Q := by
  refine CT.of 6 (by decide) (Nat.le_of_ble_eq_true rfl) ?_
  show WP mX6_lowest Q 0 [vL a, vU, vL b, vU, vI c, vU, vU, vU, vU, vU, vU] [] D
  have IH : ∀ n : Nat, (∀ (x0 x2 x4 x5 x7 : Int) (D : HP), I6 x0 x2 x4 x5 x7 D → u6 x0 x2 x4 x5 x7 D * 1 + 0 < n → WP mX6_lowest Q 6 [vL x0, vU, vL x2, vU, vI x4, vL x5, vU, vL x7, vU, vU, vU] [] D) := by
    intro n
    induction n with
    | zero => exact fun _ _ _ _ _ _ _ h => absurd h (Nat.not_lt_zero _)
    | succ n ih =>
      have ih6_ := ih
      · intro x0 x2 x4 x5 x7 D hI hn
        refine WP_cD (fun hcD => ?_)
        refine WP_cl (fun hcl => ?_)
        have h := h6 x0 x2 x4 x5 x7 D hI hcD (cVs_g hcl (i := 0) (v := vL x0) rfl) (cVs_g hcl (i := 2) (v := vL x2) rfl) (cVs_g hcl (i := 4) (v := vI x4) rfl) (cVs_g hcl (i := 5) (v := vL x5) rfl) (cVs_g hcl (i := 7) (v := vL x7) rfl)
        refine WP_lload (z := x7) dX6_lowest_6 rfl ?_
        refine WP_lconst (z := 0) dX6_lowest_8 rfl ?_
        refine WP_lcmp dX6_lowest_9 rfl ?_
        refine WP_if_eq (tgt := 31) dX6_lowest_10 (by decide) (fun c1 => ?_) (fun c1 => ?_)
        · replace h := h.1 c1
          refine WP_iload (z := x4) dX6_lowest_31 rfl ?_
          obtain ⟨o2, h⟩ := h
          refine WP_via (pc1 := 47) (ls1 := [vL x0, vU, vL x2, vU, vI x4, vL x5, vU, vL x7, vU, vU, vU]) (st1 := [vL (if x4 = 0 then ((x0 / x5) : Int) else (x2 / x5))]) (D1 := D) (fun hJ3 => ?_) ?_
          · refine WP_if_ne (tgt := 43) dX6_lowest_33 (by decide) (fun c4 => ?_) (fun c4 => ?_)
            · replace hJ3 := ite_f (P := fun v_ : Int => WP mX6_lowest Q 47 [vL x0, vU, vL x2, vU, vI x4, vL x5, vU, vL x7, vU, vU, vU] [vL v_] D) hJ3 c4
              have o6 := o2.2 c4
              refine WP_lload_n (z := x2) dX6_lowest_43 rfl ?_
              refine WP_lload (z := x5) dX6_lowest_44 rfl ?_
              refine WP_ldiv dX6_lowest_46 o6.1 o6.2 rfl ?_
              exact hJ3
            · replace hJ3 := ite_t (P := fun v_ : Int => WP mX6_lowest Q 47 [vL x0, vU, vL x2, vU, vI x4, vL x5, vU, vL x7, vU, vU, vU] [vL v_] D) hJ3 c4
              have o5 := o2.1 c4
              refine WP_lload_n (z := x0) dX6_lowest_36 rfl ?_
              refine WP_lload (z := x5) dX6_lowest_37 rfl ?_
              refine WP_ldiv dX6_lowest_39 o5.1 o5.2 rfl ?_
              refine WP_goto (tgt := 47) dX6_lowest_40 (by decide) ?_
              exact hJ3
          · exact WP_lreturn dX6_lowest_47 rfl h
        · replace h := h.2 c1
          refine WP_lload (z := x5) dX6_lowest_13 rfl ?_
          refine WP_lload (z := x7) dX6_lowest_15 rfl ?_
          obtain ⟨o7, h⟩ := h
          refine WP_lrem dX6_lowest_17 o7.1 o7.2 rfl ?_
          refine WP_lstore (ls1 := [vL x0, vU, vL x2, vU, vI x4, vL x5, vU, vL x7, vU, vL (x5 % x7), vU]) dX6_lowest_18 (by decide) rfl ?_
          refine WP_lload (z := x7) dX6_lowest_20 rfl ?_
          refine WP_lstore (ls1 := [vL x0, vU, vL x2, vU, vI x4, vL x7, vU, vL x7, vU, vL (x5 % x7), vU]) dX6_lowest_22 (by decide) rfl ?_
          refine WP_lload (z := (x5 % x7)) dX6_lowest_24 rfl ?_
          refine WP_lstore (ls1 := [vL x0, vU, vL x2, vU, vI x4, vL x7, vU, vL (x5 % x7), vU, vL (x5 % x7), vU]) dX6_lowest_26 (by decide) rfl ?_
          refine WP_goto (tgt := 6) dX6_lowest_28 (by decide) ?_
          refine WP_fg 9 (ls1 := [vL x0, vU, vL x2, vU, vI x4, vL x7, vU, vL (x5 % x7), vU, vU, vU]) rfl ?_
          exact ih6_ _ _ _ _ _ _ h.1 (by have := h.2; omega)
  have cut6_ : ∀ (x0 x2 x4 x5 x7 : Int) (D : HP), I6 x0 x2 x4 x5 x7 D → WP mX6_lowest Q 6 [vL x0, vU, vL x2, vU, vI x4, vL x5, vU, vL x7, vU, vU, vU] [] D := fun x0 x2 x4 x5 x7 D hI => (IH (u6 x0 x2 x4 x5 x7 D * 1 + 0 + 1)) x0 x2 x4 x5 x7 D hI (by omega)
  refine WP_cD (fun hcD => ?_)
  refine WP_cl (fun hcl => ?_)
  have h := h0 hcD (cVs_g hcl (i := 0) (v := vL a) rfl) (cVs_g hcl (i := 2) (v := vL b) rfl) (cVs_g hcl (i := 4) (v := vI c) rfl)
  refine WP_lload_n (z := a) dX6_lowest_0 rfl ?_
  refine WP_lstore (ls1 := [vL a, vU, vL b, vU, vI c, vL a, vU, vU, vU, vU, vU]) dX6_lowest_1 (by decide) rfl ?_
  refine WP_lload_n (z := b) dX6_lowest_3 rfl ?_
  refine WP_lstore (ls1 := [vL a, vU, vL b, vU, vI c, vL a, vU, vL b, vU, vU, vU]) dX6_lowest_4 (by decide) rfl ?_
  exact cut6_ _ _ _ _ _ _ h
set_option maxRecDepth 100000 in
set_option maxHeartbeats 4000000 in
theorem P_X6_lowest {a : Int} {b : Int} {c : Int} {D : HP} (hob : oX6_lowest D a b c) : CT mX6_lowest [vL a, vL b, vI c] D (PF (vL (fX6_lowest D a b c)) D) := by
  unfold oX6_lowest at hob
  refine V_X6_lowest a b c (I6 := fun x0 x2 x4 x5 x7 D' => D' = D ∧ x0 = a ∧ x2 = b ∧ x4 = c ∧ 0 ≤ x5 ∧ 0 ≤ x7 ∧ (0 < x5 ∨ 0 < x7) ∧ Int.gcd x5 x7 = Int.gcd a b) (u6 := fun _ _ _ _ x7 _ => x7.toNat) (fun _ _ _ _ => ⟨rfl, rfl, rfl, rfl, hob.1, by omega, by omega, rfl⟩) ?_
  rintro x0 x2 x4 x5 x7 D' ⟨rfl, rfl, rfl, rfl, h5, h7, h57, hg⟩ hcD c0 c2 c4 c5 c7
  refine ⟨fun hc => ?_, fun hc => ?_⟩
  · have h0 : x7 = 0 := by
      by_cases q : 0 < x7
      · rw [if_pos q] at hc; omega
      · omega
    subst h0
    have hx : x5 = (Int.gcd x0 x2 : Int) := by
      rw [← hg, Int.gcd_zero_right]
      omega
    refine ⟨⟨fun _ => ⟨hob.1, by omega⟩, fun _ => ⟨by omega, by omega⟩⟩, ?_, rfl⟩
    unfold fX6_lowest
    rw [← hx]
  · have h0 : 0 < x7 := by
      by_cases q : 0 < x7
      · exact q
      · exfalso
        have : x7 = 0 := by omega
        subst this
        simp at hc
    refine ⟨⟨h5, h0⟩, ⟨rfl, rfl, rfl, rfl, h7, Int.emod_nonneg _ (by omega), Or.inl h0, ?_⟩, ?_⟩
    · rw [← hg]
      obtain ⟨m, rfl⟩ := Int.eq_ofNat_of_zero_le h5
      obtain ⟨n, rfl⟩ := Int.eq_ofNat_of_zero_le h7
      rw [← Int.natCast_emod]
      show Nat.gcd n (m % n) = Nat.gcd m n
      rw [Nat.gcd_comm m n, Nat.gcd_rec n m, Nat.gcd_comm]
    · have := Int.emod_lt_of_pos x5 h0
      have := Int.emod_nonneg x5 (Int.ne_of_gt h0)
      omega

def fX6_isText (D : HP) (a : Int) : Int := (fX6_within D a 0 2)
theorem bfX6_isText (D : HP) (a : Int) : fX6_isText D a = 0 ∨ fX6_isText D a = 1 := by unfold fX6_isText; exact (bfX6_within _ _ _ _)
def oX6_isText (D : HP) (a : Int) : Prop := True
set_option maxRecDepth 100000 in
set_option maxHeartbeats 4000000 in
theorem V_X6_isText (a : Int) {D : HP} {Q : Option MV → HP → Prop}
    (h0 : cD D → c32 a → (Q (some (vI (fX6_within D a 0 2))) D))
    : CT mX6_isText [vI a] D Q := by
  refine CT.of 0 (by decide) (Nat.le_of_ble_eq_true rfl) ?_
  show WP mX6_isText Q 0 [vI a] [] D
  refine WP_cD (fun hcD => ?_)
  refine WP_cl (fun hcl => ?_)
  have h := h0 hcD (cVs_g hcl (i := 0) (v := vI a) rfl)
  refine WP_iload_n (z := a) dX6_isText_0 rfl ?_
  refine WP_iconst (z := 0) dX6_isText_1 rfl ⟨by decide, by decide⟩ ?_
  refine WP_iconst (z := 2) dX6_isText_2 rfl ⟨by decide, by decide⟩ ?_
  refine WP_pcallS (g := mX6_within) (as := [vI a, vI 0, vI 2]) (rest := []) (n := 3) (r := vI (fX6_within D a 0 2)) dX6_isText_3 wm_262 mo_X6_within rfl rfl ⟨Nat.le_of_ble_eq_true rfl, Nat.le_of_ble_eq_true rfl⟩ (Nat.le_of_ble_eq_true rfl) (P_X6_within  trivial) ?_
  exact WP_zreturn dX6_isText_6 rfl (bfX6_within _ _ _ _) h
set_option maxRecDepth 100000 in
set_option maxHeartbeats 4000000 in
theorem P_X6_isText {a : Int} {D : HP} (hob : oX6_isText D a) : CT mX6_isText [vI a] D (PF (vI (fX6_isText D a)) D) := by
  refine V_X6_isText a (fun hcD hc_0 => ?_)
  obtain ⟨z, hz⟩ : ∃ z, z = fX6_isText D a := ⟨_, rfl⟩
  rw [← hz]
  unfold fX6_isText at hz
  exact ⟨by rw [hz], rfl⟩
set_option maxRecDepth 100000 in
set_option maxHeartbeats 4000000 in
theorem V_X6_type (a : Int) (b : Int) {D : HP} {Q : Option MV → HP → Prop}
    (h0 : cD D → c32 a → c32 b → (((fX6_isText D a) = 0 → (Q (some (vI (-2))) D)) ∧ (¬ ((fX6_isText D a) = 0) → (((fX6_within D b 0 255) = 0 → (Q (some (vI (-2))) D)) ∧ (¬ ((fX6_within D b 0 255) = 0) → ((0 ≤ a ∧ a < 3) ∧ (((D 57 a.toNat) = (if a = 0 then (29 : Int) else (if a = 1 then (24 : Int) else 39)) → (Q (some (vI (-4))) D)) ∧ (¬ ((D 57 a.toNat) = (if a = 0 then (29 : Int) else (if a = 1 then (24 : Int) else 39))) → ((c32 (39 * a)) ∧ ((0 ≤ a ∧ a < 3) ∧ ((c32 ((39 * a) + (D 57 a.toNat))) ∧ ((0 ≤ ((39 * a) + (D 57 a.toNat)) ∧ ((39 * a) + (D 57 a.toNat)) < 117) ∧ (∀ (E4 : HP), E4 = (hu D 58 (((39 * a) + (D 57 a.toNat))).toNat b) → ((0 ≤ a ∧ a < 3) ∧ ((c32 ((E4 57 a.toNat) + 1)) ∧ ((0 ≤ a ∧ a < 3) ∧ (∀ (E6 : HP), E6 = (hu E4 57 a.toNat ((E4 57 a.toNat) + 1)) → ((0 ≤ a ∧ a < 3) ∧ (Q (some (vI (E6 57 a.toNat))) E6)))))))))))))))))))
    : CT mX6_type [vR 56, vI a, vI b] D Q := by
  refine CT.of 0 (by decide) (Nat.le_of_ble_eq_true rfl) ?_
  show WP mX6_type Q 0 [vR 56, vI a, vI b] [] D
  refine WP_cD (fun hcD => ?_)
  refine WP_cl (fun hcl => ?_)
  have h := h0 hcD (cVs_g hcl (i := 1) (v := vI a) rfl) (cVs_g hcl (i := 2) (v := vI b) rfl)
  refine WP_iload_n (z := a) dX6_type_0 rfl ?_
  refine WP_pcallS (g := mX6_isText) (as := [vI a]) (rest := []) (n := 1) (r := vI (fX6_isText D a)) dX6_type_1 wm_259 mo_X6_isText rfl rfl ⟨Nat.le_of_ble_eq_true rfl, Nat.le_of_ble_eq_true rfl⟩ (Nat.le_of_ble_eq_true rfl) (P_X6_isText  trivial) ?_
  refine WP_if_eq (tgt := 18) dX6_type_4 (by decide) (fun c1 => ?_) (fun c1 => ?_)
  · replace h := h.1 c1
    refine WP_bipush (z := (-2)) dX6_type_18 rfl (by decide) ?_
    exact WP_ireturn dX6_type_20 rfl h
  · replace h := h.2 c1
    refine WP_iload_n (z := b) dX6_type_7 rfl ?_
    refine WP_iconst (z := 0) dX6_type_8 rfl ⟨by decide, by decide⟩ ?_
    refine WP_sipush (z := 255) dX6_type_9 rfl (by decide) ?_
    refine WP_pcallS (g := mX6_within) (as := [vI b, vI 0, vI 255]) (rest := []) (n := 3) (r := vI (fX6_within D b 0 255)) dX6_type_12 wm_262 mo_X6_within rfl rfl ⟨Nat.le_of_ble_eq_true rfl, Nat.le_of_ble_eq_true rfl⟩ (Nat.le_of_ble_eq_true rfl) (P_X6_within  trivial) ?_
    refine WP_if_ne (tgt := 21) dX6_type_15 (by decide) (fun c2 => ?_) (fun c2 => ?_)
    · replace h := h.2 c2
      refine WP_aload_n (z := 56) dX6_type_21 rfl ?_
      refine WP_getR (z := 57) dX6_type_22 fl_RX6_7 rfl rfl rfl ?_
      refine WP_iload_n (z := a) dX6_type_25 rfl ?_
      obtain ⟨o20, h⟩ := h
      refine WP_iald dX6_type_26 rfl o20.1 o20.2 rfl ?_
      refine WP_iload_n (z := a) dX6_type_27 rfl ?_
      refine WP_via (pc1 := 48) (ls1 := [vR 56, vI a, vI b]) (st1 := [vI (if a = 0 then (29 : Int) else (if a = 1 then (24 : Int) else 39)), vI (D 57 a.toNat)]) (D1 := D) (fun hJ16 => ?_) ?_
      · refine WP_if_ne (tgt := 36) dX6_type_28 (by decide) (fun c17 => ?_) (fun c17 => ?_)
        · replace hJ16 := ite_f (P := fun v_ : Int => WP mX6_type Q 48 [vR 56, vI a, vI b] [vI v_, vI (D 57 a.toNat)] D) hJ16 c17
          refine WP_iload_n (z := a) dX6_type_36 rfl ?_
          refine WP_iconst (z := 1) dX6_type_37 rfl ⟨by decide, by decide⟩ ?_
          refine WP_via (pc1 := 48) (ls1 := [vR 56, vI a, vI b]) (st1 := [vI (if a = 1 then (24 : Int) else 39), vI (D 57 a.toNat)]) (D1 := D) (fun hJ18 => ?_) ?_
          · refine WP_icmp_ne (tgt := 46) dX6_type_38 (by decide) (fun c19 => ?_) (fun c19 => ?_)
            · replace hJ18 := ite_f (P := fun v_ : Int => WP mX6_type Q 48 [vR 56, vI a, vI b] [vI v_, vI (D 57 a.toNat)] D) hJ18 c19
              refine WP_bipush (z := 39) dX6_type_46 rfl (by decide) ?_
              exact hJ18
            · replace hJ18 := ite_t (P := fun v_ : Int => WP mX6_type Q 48 [vR 56, vI a, vI b] [vI v_, vI (D 57 a.toNat)] D) hJ18 c19
              refine WP_bipush (z := 24) dX6_type_41 rfl (by decide) ?_
              refine WP_goto (tgt := 48) dX6_type_43 (by decide) ?_
              exact hJ18
          exact hJ16
        · replace hJ16 := ite_t (P := fun v_ : Int => WP mX6_type Q 48 [vR 56, vI a, vI b] [vI v_, vI (D 57 a.toNat)] D) hJ16 c17
          refine WP_bipush (z := 29) dX6_type_31 rfl (by decide) ?_
          refine WP_goto (tgt := 48) dX6_type_33 (by decide) ?_
          exact hJ16
      · refine WP_icmp_ne (tgt := 54) dX6_type_48 (by decide) (fun c3 => ?_) (fun c3 => ?_)
        · replace h := h.2 c3
          refine WP_aload_n (z := 56) dX6_type_54 rfl ?_
          refine WP_getR (z := 58) dX6_type_55 fl_RX6_13 rfl rfl rfl ?_
          refine WP_bipush (z := 39) dX6_type_58 rfl (by decide) ?_
          refine WP_iload_n (z := a) dX6_type_60 rfl ?_
          obtain ⟨o15, h⟩ := h
          refine WP_imul (z := (39 * a)) dX6_type_61 (w32_id o15) ?_
          refine WP_aload_n (z := 56) dX6_type_62 rfl ?_
          refine WP_getR (z := 57) dX6_type_63 fl_RX6_7 rfl rfl rfl ?_
          refine WP_iload_n (z := a) dX6_type_66 rfl ?_
          obtain ⟨o14, h⟩ := h
          refine WP_iald dX6_type_67 rfl o14.1 o14.2 rfl ?_
          obtain ⟨o13, h⟩ := h
          refine WP_iadd (z := ((39 * a) + (D 57 a.toNat))) dX6_type_68 (w32_id o13) ?_
          refine WP_iload_n (z := b) dX6_type_69 rfl ?_
          obtain ⟨o12, h⟩ := h
          refine WP_iast dX6_type_70 rfl o12.1 o12.2 ?_
          obtain ⟨E4, hE5⟩ : ∃ E4 : HP, E4 = (hu D 58 (((39 * a) + (D 57 a.toNat))).toNat b) := ⟨_, rfl⟩
          replace h := h E4 hE5
          show WP mX6_type Q 71 [vR 56, vI a, vI b] [] (hu D 58 (((39 * a) + (D 57 a.toNat))).toNat b)
          rw [← hE5]
          refine WP_aload_n (z := 56) dX6_type_71 rfl ?_
          refine WP_getR (z := 57) dX6_type_72 fl_RX6_7 rfl rfl rfl ?_
          refine WP_iload_n (z := a) dX6_type_75 rfl ?_
          refine WP_dup2 dX6_type_76 (Nat.ne_of_beq_eq_false rfl) (Nat.ne_of_beq_eq_false rfl) ?_
          obtain ⟨o11, h⟩ := h
          refine WP_iald dX6_type_77 rfl o11.1 o11.2 rfl ?_
          refine WP_iconst (z := 1) dX6_type_78 rfl ⟨by decide, by decide⟩ ?_
          obtain ⟨o10, h⟩ := h
          refine WP_iadd (z := ((E4 57 a.toNat) + 1)) dX6_type_79 (w32_id o10) ?_
          obtain ⟨o9, h⟩ := h
          refine WP_iast dX6_type_80 rfl o9.1 o9.2 ?_
          obtain ⟨E6, hE7⟩ : ∃ E6 : HP, E6 = (hu E4 57 a.toNat ((E4 57 a.toNat) + 1)) := ⟨_, rfl⟩
          replace h := h E6 hE7
          show WP mX6_type Q 81 [vR 56, vI a, vI b] [] (hu E4 57 a.toNat ((E4 57 a.toNat) + 1))
          rw [← hE7]
          refine WP_aload_n (z := 56) dX6_type_81 rfl ?_
          refine WP_getR (z := 57) dX6_type_82 fl_RX6_7 rfl rfl rfl ?_
          refine WP_iload_n (z := a) dX6_type_85 rfl ?_
          obtain ⟨o8, h⟩ := h
          refine WP_iald dX6_type_86 rfl o8.1 o8.2 rfl ?_
          exact WP_ireturn dX6_type_87 rfl h
        · replace h := h.1 c3
          refine WP_bipush (z := (-4)) dX6_type_51 rfl (by decide) ?_
          exact WP_ireturn dX6_type_53 rfl h
    · replace h := h.1 c2
      refine WP_bipush (z := (-2)) dX6_type_18 rfl (by decide) ?_
      exact WP_ireturn dX6_type_20 rfl h
set_option maxRecDepth 100000 in
set_option maxHeartbeats 4000000 in
theorem V_X6_wipe (a : Int) {D : HP} {Q : Option MV → HP → Prop}
    (h0 : cD D → c32 a → (((fX6_isText D a) = 0 → (Q (some (vI (-2))) D)) ∧ (¬ ((fX6_isText D a) = 0) → ((0 ≤ a ∧ a < 3) ∧ ((0 ≤ a ∧ a < 3) ∧ (∀ (E2 : HP), E2 = (hu D 57 a.toNat 0) → (Q (some (vI (D 57 a.toNat))) E2)))))))
    : CT mX6_wipe [vR 56, vI a] D Q := by
  refine CT.of 1 (by decide) (Nat.le_of_ble_eq_true rfl) ?_
  show WP mX6_wipe Q 0 [vR 56, vI a, vU] [] D
  refine WP_cD (fun hcD => ?_)
  refine WP_cl (fun hcl => ?_)
  have h := h0 hcD (cVs_g hcl (i := 1) (v := vI a) rfl)
  refine WP_iload_n (z := a) dX6_wipe_0 rfl ?_
  refine WP_pcallS (g := mX6_isText) (as := [vI a]) (rest := []) (n := 1) (r := vI (fX6_isText D a)) dX6_wipe_1 wm_259 mo_X6_isText rfl rfl ⟨Nat.le_of_ble_eq_true rfl, Nat.le_of_ble_eq_true rfl⟩ (Nat.le_of_ble_eq_true rfl) (P_X6_isText  trivial) ?_
  refine WP_if_ne (tgt := 10) dX6_wipe_4 (by decide) (fun c1 => ?_) (fun c1 => ?_)
  · replace h := h.2 c1
    refine WP_aload_n (z := 56) dX6_wipe_10 rfl ?_
    refine WP_getR (z := 57) dX6_wipe_11 fl_RX6_7 rfl rfl rfl ?_
    refine WP_iload_n (z := a) dX6_wipe_14 rfl ?_
    obtain ⟨o5, h⟩ := h
    refine WP_iald dX6_wipe_15 rfl o5.1 o5.2 rfl ?_
    refine WP_istore_n (ls1 := [vR 56, vI a, vI (D 57 a.toNat)]) dX6_wipe_16 (by decide) rfl ?_
    refine WP_aload_n (z := 56) dX6_wipe_17 rfl ?_
    refine WP_getR (z := 57) dX6_wipe_18 fl_RX6_7 rfl rfl rfl ?_
    refine WP_iload_n (z := a) dX6_wipe_21 rfl ?_
    refine WP_iconst (z := 0) dX6_wipe_22 rfl ⟨by decide, by decide⟩ ?_
    obtain ⟨o4, h⟩ := h
    refine WP_iast dX6_wipe_23 rfl o4.1 o4.2 ?_
    obtain ⟨E2, hE3⟩ : ∃ E2 : HP, E2 = (hu D 57 a.toNat 0) := ⟨_, rfl⟩
    replace h := h E2 hE3
    show WP mX6_wipe Q 24 [vR 56, vI a, vI (D 57 a.toNat)] [] (hu D 57 a.toNat 0)
    rw [← hE3]
    refine WP_iload_n (z := (D 57 a.toNat)) dX6_wipe_24 rfl ?_
    exact WP_ireturn dX6_wipe_25 rfl h
  · replace h := h.1 c1
    refine WP_bipush (z := (-2)) dX6_wipe_7 rfl (by decide) ?_
    exact WP_ireturn dX6_wipe_9 rfl h
set_option maxRecDepth 100000 in
set_option maxHeartbeats 4000000 in
theorem V_X6_undo (a : Int) {D : HP} {Q : Option MV → HP → Prop}
    (h0 : cD D → c32 a → (((fX6_isText D a) = 0 → (Q (some (vI (-2))) D)) ∧ (¬ ((fX6_isText D a) = 0) → ((0 ≤ a ∧ a < 3) ∧ (((D 57 a.toNat) = 0 → (Q (some (vI (-3))) D)) ∧ (¬ ((D 57 a.toNat) = 0) → ((0 ≤ a ∧ a < 3) ∧ ((c32 ((D 57 a.toNat) - 1)) ∧ ((0 ≤ a ∧ a < 3) ∧ (∀ (E3 : HP), E3 = (hu D 57 a.toNat ((D 57 a.toNat) - 1)) → ((0 ≤ a ∧ a < 3) ∧ (Q (some (vI (E3 57 a.toNat))) E3))))))))))))
    : CT mX6_undo [vR 56, vI a] D Q := by
  refine CT.of 0 (by decide) (Nat.le_of_ble_eq_true rfl) ?_
  show WP mX6_undo Q 0 [vR 56, vI a] [] D
  refine WP_cD (fun hcD => ?_)
  refine WP_cl (fun hcl => ?_)
  have h := h0 hcD (cVs_g hcl (i := 1) (v := vI a) rfl)
  refine WP_iload_n (z := a) dX6_undo_0 rfl ?_
  refine WP_pcallS (g := mX6_isText) (as := [vI a]) (rest := []) (n := 1) (r := vI (fX6_isText D a)) dX6_undo_1 wm_259 mo_X6_isText rfl rfl ⟨Nat.le_of_ble_eq_true rfl, Nat.le_of_ble_eq_true rfl⟩ (Nat.le_of_ble_eq_true rfl) (P_X6_isText  trivial) ?_
  refine WP_if_ne (tgt := 10) dX6_undo_4 (by decide) (fun c1 => ?_) (fun c1 => ?_)
  · replace h := h.2 c1
    refine WP_aload_n (z := 56) dX6_undo_10 rfl ?_
    refine WP_getR (z := 57) dX6_undo_11 fl_RX6_7 rfl rfl rfl ?_
    refine WP_iload_n (z := a) dX6_undo_14 rfl ?_
    obtain ⟨o9, h⟩ := h
    refine WP_iald dX6_undo_15 rfl o9.1 o9.2 rfl ?_
    refine WP_if_ne (tgt := 22) dX6_undo_16 (by decide) (fun c2 => ?_) (fun c2 => ?_)
    · replace h := h.2 c2
      refine WP_aload_n (z := 56) dX6_undo_22 rfl ?_
      refine WP_getR (z := 57) dX6_undo_23 fl_RX6_7 rfl rfl rfl ?_
      refine WP_iload_n (z := a) dX6_undo_26 rfl ?_
      refine WP_dup2 dX6_undo_27 (Nat.ne_of_beq_eq_false rfl) (Nat.ne_of_beq_eq_false rfl) ?_
      obtain ⟨o8, h⟩ := h
      refine WP_iald dX6_undo_28 rfl o8.1 o8.2 rfl ?_
      refine WP_iconst (z := 1) dX6_undo_29 rfl ⟨by decide, by decide⟩ ?_
      obtain ⟨o7, h⟩ := h
      refine WP_isub (z := ((D 57 a.toNat) - 1)) dX6_undo_30 (w32_id o7) ?_
      obtain ⟨o6, h⟩ := h
      refine WP_iast dX6_undo_31 rfl o6.1 o6.2 ?_
      obtain ⟨E3, hE4⟩ : ∃ E3 : HP, E3 = (hu D 57 a.toNat ((D 57 a.toNat) - 1)) := ⟨_, rfl⟩
      replace h := h E3 hE4
      show WP mX6_undo Q 32 [vR 56, vI a] [] (hu D 57 a.toNat ((D 57 a.toNat) - 1))
      rw [← hE4]
      refine WP_aload_n (z := 56) dX6_undo_32 rfl ?_
      refine WP_getR (z := 57) dX6_undo_33 fl_RX6_7 rfl rfl rfl ?_
      refine WP_iload_n (z := a) dX6_undo_36 rfl ?_
      obtain ⟨o5, h⟩ := h
      refine WP_iald dX6_undo_37 rfl o5.1 o5.2 rfl ?_
      exact WP_ireturn dX6_undo_38 rfl h
    · replace h := h.1 c2
      refine WP_bipush (z := (-3)) dX6_undo_19 rfl (by decide) ?_
      exact WP_ireturn dX6_undo_21 rfl h
  · replace h := h.1 c1
    refine WP_bipush (z := (-2)) dX6_undo_7 rfl (by decide) ?_
    exact WP_ireturn dX6_undo_9 rfl h
def fX6_byteAt (D : HP) (a : Int) (b : Int) : Int := (if (D 57 a.toNat) ≤ b then ((-1) : Int) else (D 58 (((39 * a) + b)).toNat))
def oX6_byteAt (D : HP) (a : Int) (b : Int) : Prop := ((0 ≤ a ∧ a < 3) ∧ (((((D 57 a.toNat) ≤ b) → True) ∧ (¬ ((D 57 a.toNat) ≤ b) → (c32 (39 * a)) ∧ (c32 ((39 * a) + b)) ∧ (0 ≤ ((39 * a) + b) ∧ ((39 * a) + b) < 117))) ∧ True))
set_option maxRecDepth 100000 in
set_option maxHeartbeats 4000000 in
theorem V_X6_byteAt (a : Int) (b : Int) {D : HP} {Q : Option MV → HP → Prop}
    (h0 : cD D → c32 a → c32 b → ((0 ≤ a ∧ a < 3) ∧ (((((D 57 a.toNat) ≤ b) → True) ∧ (¬ ((D 57 a.toNat) ≤ b) → (c32 (39 * a)) ∧ (c32 ((39 * a) + b)) ∧ (0 ≤ ((39 * a) + b) ∧ ((39 * a) + b) < 117))) ∧ (Q (some (vI (if (D 57 a.toNat) ≤ b then ((-1) : Int) else (D 58 (((39 * a) + b)).toNat)))) D))))
    : CT mX6_byteAt [vR 56, vI a, vI b] D Q := by
  refine CT.of 0 (by decide) (Nat.le_of_ble_eq_true rfl) ?_
  show WP mX6_byteAt Q 0 [vR 56, vI a, vI b] [] D
  refine WP_cD (fun hcD => ?_)
  refine WP_cl (fun hcl => ?_)
  have h := h0 hcD (cVs_g hcl (i := 1) (v := vI a) rfl) (cVs_g hcl (i := 2) (v := vI b) rfl)
  refine WP_iload_n (z := b) dX6_byteAt_0 rfl ?_
  refine WP_aload_n (z := 56) dX6_byteAt_1 rfl ?_
  refine WP_getR (z := 57) dX6_byteAt_2 fl_RX6_7 rfl rfl rfl ?_
  refine WP_iload_n (z := a) dX6_byteAt_5 rfl ?_
  obtain ⟨o6, h⟩ := h
  refine WP_iald dX6_byteAt_6 rfl o6.1 o6.2 rfl ?_
  obtain ⟨o1, h⟩ := h
  refine WP_via (pc1 := 25) (ls1 := [vR 56, vI a, vI b]) (st1 := [vI (if (D 57 a.toNat) ≤ b then ((-1) : Int) else (D 58 (((39 * a) + b)).toNat))]) (D1 := D) (fun hJ2 => ?_) ?_
  · refine WP_icmp_ge (tgt := 24) dX6_byteAt_7 (by decide) (fun c3 => ?_) (fun c3 => ?_)
    · replace hJ2 := ite_t (P := fun v_ : Int => WP mX6_byteAt Q 25 [vR 56, vI a, vI b] [vI v_] D) hJ2 c3
      have o4 := o1.1 c3
      refine WP_iconst (z := (-1)) dX6_byteAt_24 rfl ⟨by decide, by decide⟩ ?_
      exact hJ2
    · replace hJ2 := ite_f (P := fun v_ : Int => WP mX6_byteAt Q 25 [vR 56, vI a, vI b] [vI v_] D) hJ2 c3
      have o5 := o1.2 c3
      refine WP_aload_n (z := 56) dX6_byteAt_10 rfl ?_
      refine WP_getR (z := 58) dX6_byteAt_11 fl_RX6_13 rfl rfl rfl ?_
      refine WP_bipush (z := 39) dX6_byteAt_14 rfl (by decide) ?_
      refine WP_iload_n (z := a) dX6_byteAt_16 rfl ?_
      refine WP_imul (z := (39 * a)) dX6_byteAt_17 (w32_id o5.1) ?_
      refine WP_iload_n (z := b) dX6_byteAt_18 rfl ?_
      refine WP_iadd (z := ((39 * a) + b)) dX6_byteAt_19 (w32_id o5.2.1) ?_
      refine WP_iald dX6_byteAt_20 rfl o5.2.2.1 o5.2.2.2 rfl ?_
      refine WP_goto (tgt := 25) dX6_byteAt_21 (by decide) ?_
      exact hJ2
  · exact WP_ireturn dX6_byteAt_25 rfl h
set_option maxRecDepth 100000 in
set_option maxHeartbeats 4000000 in
theorem P_X6_byteAt {a : Int} {b : Int} {D : HP} (hob : oX6_byteAt D a b) : CT mX6_byteAt [vR 56, vI a, vI b] D (PF (vI (fX6_byteAt D a b)) D) := by
  refine V_X6_byteAt a b (fun hcD hc_0 hc_1 => ?_)
  obtain ⟨z, hz⟩ : ∃ z, z = fX6_byteAt D a b := ⟨_, rfl⟩
  rw [← hz]
  unfold fX6_byteAt at hz
  unfold oX6_byteAt at hob
  refine ⟨hob.1, ?_⟩
  replace hob := hob.2
  refine ⟨hob.1, ?_⟩
  replace hob := hob.2
  exact ⟨by rw [hz], rfl⟩
def fX6_figureAt (D : HP) (a : Int) (b : Int) (c : Int) (d : Int) : Int := (if (fX6_within D ((fX6_byteAt D a b) - 48) c d) = 0 then ((-1) : Int) else ((fX6_byteAt D a b) - 48))
def oX6_figureAt (D : HP) (a : Int) (b : Int) (c : Int) (d : Int) : Prop := ((oX6_byteAt D a b) ∧ ((c32 ((fX6_byteAt D a b) - 48)) ∧ True))
set_option maxRecDepth 100000 in
set_option maxHeartbeats 4000000 in
theorem V_X6_figureAt (a : Int) (b : Int) (c : Int) (d : Int) {D : HP} {Q : Option MV → HP → Prop}
    (h0 : cD D → c32 a → c32 b → c32 c → c32 d → ((oX6_byteAt D a b) ∧ ((c32 ((fX6_byteAt D a b) - 48)) ∧ (Q (some (vI (if (fX6_within D ((fX6_byteAt D a b) - 48) c d) = 0 then ((-1) : Int) else ((fX6_byteAt D a b) - 48)))) D))))
    : CT mX6_figureAt [vR 56, vI a, vI b, vI c, vI d] D Q := by
  refine CT.of 1 (by decide) (Nat.le_of_ble_eq_true rfl) ?_
  show WP mX6_figureAt Q 0 [vR 56, vI a, vI b, vI c, vI d, vU] [] D
  refine WP_cD (fun hcD => ?_)
  refine WP_cl (fun hcl => ?_)
  have h := h0 hcD (cVs_g hcl (i := 1) (v := vI a) rfl) (cVs_g hcl (i := 2) (v := vI b) rfl) (cVs_g hcl (i := 3) (v := vI c) rfl) (cVs_g hcl (i := 4) (v := vI d) rfl)
  refine WP_aload_n (z := 56) dX6_figureAt_0 rfl ?_
  refine WP_iload_n (z := a) dX6_figureAt_1 rfl ?_
  refine WP_iload_n (z := b) dX6_figureAt_2 rfl ?_
  obtain ⟨o4, h⟩ := h
  refine WP_pcallV (g := mX6_byteAt) (as := [vI a, vI b]) (rest := []) (n := 2) (r := vI (fX6_byteAt D a b)) dX6_figureAt_3 wm_304 mo_X6_byteAt rfl rfl rfl rfl ⟨Nat.le_of_ble_eq_true rfl, Nat.le_of_ble_eq_true rfl⟩ (Nat.le_of_ble_eq_true rfl) (P_X6_byteAt  o4) ?_
  refine WP_bipush (z := 48) dX6_figureAt_6 rfl (by decide) ?_
  obtain ⟨o3, h⟩ := h
  refine WP_isub (z := ((fX6_byteAt D a b) - 48)) dX6_figureAt_8 (w32_id o3) ?_
  refine WP_istore (ls1 := [vR 56, vI a, vI b, vI c, vI d, vI ((fX6_byteAt D a b) - 48)]) dX6_figureAt_9 (by decide) rfl ?_
  refine WP_iload (z := ((fX6_byteAt D a b) - 48)) dX6_figureAt_11 rfl ?_
  refine WP_iload_n (z := c) dX6_figureAt_13 rfl ?_
  refine WP_iload (z := d) dX6_figureAt_14 rfl ?_
  refine WP_pcallS (g := mX6_within) (as := [vI ((fX6_byteAt D a b) - 48), vI c, vI d]) (rest := []) (n := 3) (r := vI (fX6_within D ((fX6_byteAt D a b) - 48) c d)) dX6_figureAt_16 wm_262 mo_X6_within rfl rfl ⟨Nat.le_of_ble_eq_true rfl, Nat.le_of_ble_eq_true rfl⟩ (Nat.le_of_ble_eq_true rfl) (P_X6_within  trivial) ?_
  refine WP_via (pc1 := 28) (ls1 := [vR 56, vI a, vI b, vI c, vI d, vI ((fX6_byteAt D a b) - 48)]) (st1 := [vI (if (fX6_within D ((fX6_byteAt D a b) - 48) c d) = 0 then ((-1) : Int) else ((fX6_byteAt D a b) - 48))]) (D1 := D) (fun hJ1 => ?_) ?_
  · refine WP_if_eq (tgt := 27) dX6_figureAt_19 (by decide) (fun c2 => ?_) (fun c2 => ?_)
    · replace hJ1 := ite_t (P := fun v_ : Int => WP mX6_figureAt Q 28 [vR 56, vI a, vI b, vI c, vI d, vI ((fX6_byteAt D a b) - 48)] [vI v_] D) hJ1 c2
      refine WP_iconst (z := (-1)) dX6_figureAt_27 rfl ⟨by decide, by decide⟩ ?_
      exact hJ1
    · replace hJ1 := ite_f (P := fun v_ : Int => WP mX6_figureAt Q 28 [vR 56, vI a, vI b, vI c, vI d, vI ((fX6_byteAt D a b) - 48)] [vI v_] D) hJ1 c2
      refine WP_iload (z := ((fX6_byteAt D a b) - 48)) dX6_figureAt_22 rfl ?_
      refine WP_goto (tgt := 28) dX6_figureAt_24 (by decide) ?_
      exact hJ1
  · exact WP_ireturn dX6_figureAt_28 rfl h
set_option maxRecDepth 100000 in
set_option maxHeartbeats 4000000 in
theorem P_X6_figureAt {a : Int} {b : Int} {c : Int} {d : Int} {D : HP} (hob : oX6_figureAt D a b c d) : CT mX6_figureAt [vR 56, vI a, vI b, vI c, vI d] D (PF (vI (fX6_figureAt D a b c d)) D) := by
  refine V_X6_figureAt a b c d (fun hcD hc_0 hc_1 hc_2 hc_3 => ?_)
  obtain ⟨z, hz⟩ : ∃ z, z = fX6_figureAt D a b c d := ⟨_, rfl⟩
  rw [← hz]
  unfold fX6_figureAt at hz
  unfold oX6_figureAt at hob
  refine ⟨hob.1, ?_⟩
  replace hob := hob.2
  refine ⟨hob.1, ?_⟩
  replace hob := hob.2
  exact ⟨by rw [hz], rfl⟩
set_option maxRecDepth 100000 in
set_option maxHeartbeats 4000000 in
theorem V_X6_readsCorner  {D : HP} {Q : Option MV → HP → Prop} (I22 : Int → Int → Int → Int → Int → HP → Prop) (u22 : Int → Int → Int → Int → Int → HP → Nat)
    (h0 : cD D → (∀ (E1 : HP), E1 = (hu D 56 3 0) → (∀ (E3 : HP), E3 = (hu E1 56 2 1) → (I22 0 0 0 5 0 E3))))
    (h22 : ∀ (x1 x2 x3 x4 x5 : Int) (D : HP), I22 x1 x2 x3 x4 x5 D → cD D → c32 x1 → c32 x2 → c32 x3 → c32 x4 → c32 x5 → (((D 57 0) ≤ x5 → (((D 57 0) ≤ 0 → (∀ (E7 : HP), E7 = (hu D 56 2 (if x1 = 0 then ((if x2 ≤ 0 then ((if x1 ≤ 0 then (1 : Int) else x4) : Int) else x2) : Int) else (if x1 ≤ 0 then (1 : Int) else x4))) → (∀ (E9 : HP), E9 = (hu E7 56 3 x3) → (Q (some (vI (-1))) E9)))) ∧ (¬ ((D 57 0) ≤ 0) → ((x2 = 0 → (Q (some (vI (D 57 0))) D)) ∧ (¬ (x2 = 0) → ((x1 ≤ 0 → (∀ (E21 : HP), E21 = (hu D 56 2 (if x1 = 0 then ((if x2 ≤ 0 then ((if x1 ≤ 0 then (1 : Int) else x4) : Int) else x2) : Int) else (if x1 ≤ 0 then (1 : Int) else x4))) → (∀ (E23 : HP), E23 = (hu E21 56 3 x3) → (Q (some (vI (-1))) E23)))) ∧ (¬ (x1 ≤ 0) → ((x4 ≤ x2 → (∀ (E34 : HP), E34 = (hu D 56 2 (if x1 = 0 then ((if x2 ≤ 0 then ((if x1 ≤ 0 then (1 : Int) else x4) : Int) else x2) : Int) else (if x1 ≤ 0 then (1 : Int) else x4))) → (∀ (E36 : HP), E36 = (hu E34 56 3 x3) → (Q (some (vI (-1))) E36)))) ∧ (¬ (x4 ≤ x2) → (Q (some (vI (D 57 0))) D)))))))))) ∧ (¬ ((D 57 0) ≤ x5) → ((oX6_byteAt D 0 x5) ∧ ((x1 = 5 → (Q (some (vI x5)) D)) ∧ (¬ (x1 = 5) → (((fX6_byteAt D 0 x5) = 59 → ((x2 = 0 → (Q (some (vI x5)) D)) ∧ (¬ (x2 = 0) → ((x1 ≤ 0 → ((c32 (x1 + 1)) ∧ ((c32 (x5 + 1)) ∧ (I22 (x1 + 1) 0 x3 (if x1 = 0 then (x2 : Int) else x4) (x5 + 1) D ∧ u22 (x1 + 1) 0 x3 (if x1 = 0 then (x2 : Int) else x4) (x5 + 1) D < u22 x1 x2 x3 x4 x5 D)))) ∧ (¬ (x1 ≤ 0) → ((x4 ≤ x2 → ((c32 (x1 + 1)) ∧ ((c32 (x5 + 1)) ∧ (I22 (x1 + 1) 0 x3 (if x1 = 0 then (x2 : Int) else x4) (x5 + 1) D ∧ u22 (x1 + 1) 0 x3 (if x1 = 0 then (x2 : Int) else x4) (x5 + 1) D < u22 x1 x2 x3 x4 x5 D)))) ∧ (¬ (x4 ≤ x2) → (Q (some (vI x5)) D)))))))) ∧ (¬ ((fX6_byteAt D 0 x5) = 59) → (((fX6_byteAt D 0 x5) = 46 → ((x2 = x4 → (Q (some (vI x5)) D)) ∧ (¬ (x2 = x4) → ((0 ≤ x3 ∧ x3 < 26) ∧ (∀ (E61 : HP), E61 = (hu D 59 x3.toNat (if (fX6_byteAt D 0 x5) = 35 then (1 : Int) else 0)) → ((c32 (x3 + 1)) ∧ ((c32 (x2 + 1)) ∧ ((c32 (x5 + 1)) ∧ (I22 x1 (x2 + 1) (x3 + 1) x4 (x5 + 1) E61 ∧ u22 x1 (x2 + 1) (x3 + 1) x4 (x5 + 1) E61 < u22 x1 x2 x3 x4 x5 D))))))))) ∧ (¬ ((fX6_byteAt D 0 x5) = 46) → (((fX6_byteAt D 0 x5) = 35 → ((x2 = x4 → (Q (some (vI x5)) D)) ∧ (¬ (x2 = x4) → ((0 ≤ x3 ∧ x3 < 26) ∧ (∀ (E71 : HP), E71 = (hu D 59 x3.toNat (if (fX6_byteAt D 0 x5) = 35 then (1 : Int) else 0)) → ((c32 (x3 + 1)) ∧ ((c32 (x2 + 1)) ∧ ((c32 (x5 + 1)) ∧ (I22 x1 (x2 + 1) (x3 + 1) x4 (x5 + 1) E71 ∧ u22 x1 (x2 + 1) (x3 + 1) x4 (x5 + 1) E71 < u22 x1 x2 x3 x4 x5 D))))))))) ∧ (¬ ((fX6_byteAt D 0 x5) = 35) → (Q (some (vI x5)) D)))))))))))))
    : CT mX6_readsCorner [vR 56] D Q := by
  refine CT.of 6 (by decide) (Nat.le_of_ble_eq_true rfl) ?_
  show WP mX6_readsCorner Q 0 [vR 56, vU, vU, vU, vU, vU, vU] [] D
  have IH : ∀ n : Nat, (∀ (x1 x2 x3 x4 x5 : Int) (D : HP), I22 x1 x2 x3 x4 x5 D → u22 x1 x2 x3 x4 x5 D * 1 + 0 < n → WP mX6_readsCorner Q 22 [vR 56, vI x1, vI x2, vI x3, vI x4, vI x5, vU] [] D) := by
    intro n
    induction n with
    | zero => exact fun _ _ _ _ _ _ _ h => absurd h (Nat.not_lt_zero _)
    | succ n ih =>
      have ih22_ := ih
      · intro x1 x2 x3 x4 x5 D hI hn
        refine WP_cD (fun hcD => ?_)
        refine WP_cl (fun hcl => ?_)
        have h := h22 x1 x2 x3 x4 x5 D hI hcD (cVs_g hcl (i := 1) (v := vI x1) rfl) (cVs_g hcl (i := 2) (v := vI x2) rfl) (cVs_g hcl (i := 3) (v := vI x3) rfl) (cVs_g hcl (i := 4) (v := vI x4) rfl) (cVs_g hcl (i := 5) (v := vI x5) rfl)
        refine WP_iload (z := x5) dX6_readsCorner_22 rfl ?_
        refine WP_aload_n (z := 56) dX6_readsCorner_24 rfl ?_
        refine WP_getR (z := 57) dX6_readsCorner_25 fl_RX6_7 rfl rfl rfl ?_
        refine WP_iconst (z := 0) dX6_readsCorner_28 rfl ⟨by decide, by decide⟩ ?_
        refine WP_iald dX6_readsCorner_29 rfl (by decide) (by decide) rfl ?_
        refine WP_icmp_ge (tgt := 147) dX6_readsCorner_30 (by decide) (fun c5 => ?_) (fun c5 => ?_)
        · replace h := h.1 c5
          refine WP_aload_n (z := 56) dX6_readsCorner_147 rfl ?_
          refine WP_getR (z := 57) dX6_readsCorner_148 fl_RX6_7 rfl rfl rfl ?_
          refine WP_iconst (z := 0) dX6_readsCorner_151 rfl ⟨by decide, by decide⟩ ?_
          refine WP_iald dX6_readsCorner_152 rfl (by decide) (by decide) rfl ?_
          refine WP_if_le (tgt := 177) dX6_readsCorner_153 (by decide) (fun c6 => ?_) (fun c6 => ?_)
          · replace h := h.1 c6
            refine WP_aload_n (z := 56) dX6_readsCorner_177 rfl ?_
            refine WP_iload_n (z := x1) dX6_readsCorner_178 rfl ?_
            refine WP_via (pc1 := 200) (ls1 := [vR 56, vI x1, vI x2, vI x3, vI x4, vI x5, vU]) (st1 := [vI (if x1 = 0 then ((if x2 ≤ 0 then ((if x1 ≤ 0 then (1 : Int) else x4) : Int) else x2) : Int) else (if x1 ≤ 0 then (1 : Int) else x4)), vR 56]) (D1 := D) (fun hJ11 => ?_) ?_
            · refine WP_if_ne (tgt := 190) dX6_readsCorner_179 (by decide) (fun c12 => ?_) (fun c12 => ?_)
              · replace hJ11 := ite_f (P := fun v_ : Int => WP mX6_readsCorner Q 200 [vR 56, vI x1, vI x2, vI x3, vI x4, vI x5, vU] [vI v_, vR 56] D) hJ11 c12
                refine WP_iload_n (z := x1) dX6_readsCorner_190 rfl ?_
                refine WP_via (pc1 := 200) (ls1 := [vR 56, vI x1, vI x2, vI x3, vI x4, vI x5, vU]) (st1 := [vI (if x1 ≤ 0 then (1 : Int) else x4), vR 56]) (D1 := D) (fun hJ17 => ?_) ?_
                · refine WP_if_le (tgt := 199) dX6_readsCorner_191 (by decide) (fun c18 => ?_) (fun c18 => ?_)
                  · replace hJ17 := ite_t (P := fun v_ : Int => WP mX6_readsCorner Q 200 [vR 56, vI x1, vI x2, vI x3, vI x4, vI x5, vU] [vI v_, vR 56] D) hJ17 c18
                    refine WP_iconst (z := 1) dX6_readsCorner_199 rfl ⟨by decide, by decide⟩ ?_
                    exact hJ17
                  · replace hJ17 := ite_f (P := fun v_ : Int => WP mX6_readsCorner Q 200 [vR 56, vI x1, vI x2, vI x3, vI x4, vI x5, vU] [vI v_, vR 56] D) hJ17 c18
                    refine WP_iload (z := x4) dX6_readsCorner_194 rfl ?_
                    refine WP_goto (tgt := 200) dX6_readsCorner_196 (by decide) ?_
                    exact hJ17
                exact hJ11
              · replace hJ11 := ite_t (P := fun v_ : Int => WP mX6_readsCorner Q 200 [vR 56, vI x1, vI x2, vI x3, vI x4, vI x5, vU] [vI v_, vR 56] D) hJ11 c12
                refine WP_iload_n (z := x2) dX6_readsCorner_182 rfl ?_
                refine WP_via (pc1 := 200) (ls1 := [vR 56, vI x1, vI x2, vI x3, vI x4, vI x5, vU]) (st1 := [vI (if x2 ≤ 0 then ((if x1 ≤ 0 then (1 : Int) else x4) : Int) else x2), vR 56]) (D1 := D) (fun hJ13 => ?_) ?_
                · refine WP_if_le (tgt := 190) dX6_readsCorner_183 (by decide) (fun c14 => ?_) (fun c14 => ?_)
                  · replace hJ13 := ite_t (P := fun v_ : Int => WP mX6_readsCorner Q 200 [vR 56, vI x1, vI x2, vI x3, vI x4, vI x5, vU] [vI v_, vR 56] D) hJ13 c14
                    refine WP_iload_n (z := x1) dX6_readsCorner_190 rfl ?_
                    refine WP_via (pc1 := 200) (ls1 := [vR 56, vI x1, vI x2, vI x3, vI x4, vI x5, vU]) (st1 := [vI (if x1 ≤ 0 then (1 : Int) else x4), vR 56]) (D1 := D) (fun hJ15 => ?_) ?_
                    · refine WP_if_le (tgt := 199) dX6_readsCorner_191 (by decide) (fun c16 => ?_) (fun c16 => ?_)
                      · replace hJ15 := ite_t (P := fun v_ : Int => WP mX6_readsCorner Q 200 [vR 56, vI x1, vI x2, vI x3, vI x4, vI x5, vU] [vI v_, vR 56] D) hJ15 c16
                        refine WP_iconst (z := 1) dX6_readsCorner_199 rfl ⟨by decide, by decide⟩ ?_
                        exact hJ15
                      · replace hJ15 := ite_f (P := fun v_ : Int => WP mX6_readsCorner Q 200 [vR 56, vI x1, vI x2, vI x3, vI x4, vI x5, vU] [vI v_, vR 56] D) hJ15 c16
                        refine WP_iload (z := x4) dX6_readsCorner_194 rfl ?_
                        refine WP_goto (tgt := 200) dX6_readsCorner_196 (by decide) ?_
                        exact hJ15
                    exact hJ13
                  · replace hJ13 := ite_f (P := fun v_ : Int => WP mX6_readsCorner Q 200 [vR 56, vI x1, vI x2, vI x3, vI x4, vI x5, vU] [vI v_, vR 56] D) hJ13 c14
                    refine WP_iload_n (z := x2) dX6_readsCorner_186 rfl ?_
                    refine WP_goto (tgt := 200) dX6_readsCorner_187 (by decide) ?_
                    exact hJ13
                exact hJ11
            · refine WP_putI dX6_readsCorner_200 fp_RX6_98 rfl rfl ?_
              obtain ⟨E7, hE8⟩ : ∃ E7 : HP, E7 = (hu D 56 2 (if x1 = 0 then ((if x2 ≤ 0 then ((if x1 ≤ 0 then (1 : Int) else x4) : Int) else x2) : Int) else (if x1 ≤ 0 then (1 : Int) else x4))) := ⟨_, rfl⟩
              replace h := h E7 hE8
              show WP mX6_readsCorner Q 203 [vR 56, vI x1, vI x2, vI x3, vI x4, vI x5, vU] [] (hu D 56 2 (if x1 = 0 then ((if x2 ≤ 0 then ((if x1 ≤ 0 then (1 : Int) else x4) : Int) else x2) : Int) else (if x1 ≤ 0 then (1 : Int) else x4)))
              rw [← hE8]
              refine WP_aload_n (z := 56) dX6_readsCorner_203 rfl ?_
              refine WP_iload_n (z := x3) dX6_readsCorner_204 rfl ?_
              refine WP_putI dX6_readsCorner_205 fp_RX6_94 rfl rfl ?_
              obtain ⟨E9, hE10⟩ : ∃ E9 : HP, E9 = (hu E7 56 3 x3) := ⟨_, rfl⟩
              replace h := h E9 hE10
              show WP mX6_readsCorner Q 208 [vR 56, vI x1, vI x2, vI x3, vI x4, vI x5, vU] [] (hu E7 56 3 x3)
              rw [← hE10]
              refine WP_iconst (z := (-1)) dX6_readsCorner_208 rfl ⟨by decide, by decide⟩ ?_
              exact WP_ireturn dX6_readsCorner_209 rfl h
          · replace h := h.2 c6
            refine WP_iload_n (z := x2) dX6_readsCorner_156 rfl ?_
            refine WP_if_eq (tgt := 170) dX6_readsCorner_157 (by decide) (fun c19 => ?_) (fun c19 => ?_)
            · replace h := h.1 c19
              refine WP_aload_n (z := 56) dX6_readsCorner_170 rfl ?_
              refine WP_getR (z := 57) dX6_readsCorner_171 fl_RX6_7 rfl rfl rfl ?_
              refine WP_iconst (z := 0) dX6_readsCorner_174 rfl ⟨by decide, by decide⟩ ?_
              refine WP_iald dX6_readsCorner_175 rfl (by decide) (by decide) rfl ?_
              exact WP_ireturn dX6_readsCorner_176 rfl h
            · replace h := h.2 c19
              refine WP_iload_n (z := x1) dX6_readsCorner_160 rfl ?_
              refine WP_if_le (tgt := 177) dX6_readsCorner_161 (by decide) (fun c20 => ?_) (fun c20 => ?_)
              · replace h := h.1 c20
                refine WP_aload_n (z := 56) dX6_readsCorner_177 rfl ?_
                refine WP_iload_n (z := x1) dX6_readsCorner_178 rfl ?_
                refine WP_via (pc1 := 200) (ls1 := [vR 56, vI x1, vI x2, vI x3, vI x4, vI x5, vU]) (st1 := [vI (if x1 = 0 then ((if x2 ≤ 0 then ((if x1 ≤ 0 then (1 : Int) else x4) : Int) else x2) : Int) else (if x1 ≤ 0 then (1 : Int) else x4)), vR 56]) (D1 := D) (fun hJ25 => ?_) ?_
                · refine WP_if_ne (tgt := 190) dX6_readsCorner_179 (by decide) (fun c26 => ?_) (fun c26 => ?_)
                  · replace hJ25 := ite_f (P := fun v_ : Int => WP mX6_readsCorner Q 200 [vR 56, vI x1, vI x2, vI x3, vI x4, vI x5, vU] [vI v_, vR 56] D) hJ25 c26
                    refine WP_iload_n (z := x1) dX6_readsCorner_190 rfl ?_
                    refine WP_via (pc1 := 200) (ls1 := [vR 56, vI x1, vI x2, vI x3, vI x4, vI x5, vU]) (st1 := [vI (if x1 ≤ 0 then (1 : Int) else x4), vR 56]) (D1 := D) (fun hJ31 => ?_) ?_
                    · refine WP_if_le (tgt := 199) dX6_readsCorner_191 (by decide) (fun c32 => ?_) (fun c32 => ?_)
                      · replace hJ31 := ite_t (P := fun v_ : Int => WP mX6_readsCorner Q 200 [vR 56, vI x1, vI x2, vI x3, vI x4, vI x5, vU] [vI v_, vR 56] D) hJ31 c32
                        refine WP_iconst (z := 1) dX6_readsCorner_199 rfl ⟨by decide, by decide⟩ ?_
                        exact hJ31
                      · replace hJ31 := ite_f (P := fun v_ : Int => WP mX6_readsCorner Q 200 [vR 56, vI x1, vI x2, vI x3, vI x4, vI x5, vU] [vI v_, vR 56] D) hJ31 c32
                        refine WP_iload (z := x4) dX6_readsCorner_194 rfl ?_
                        refine WP_goto (tgt := 200) dX6_readsCorner_196 (by decide) ?_
                        exact hJ31
                    exact hJ25
                  · replace hJ25 := ite_t (P := fun v_ : Int => WP mX6_readsCorner Q 200 [vR 56, vI x1, vI x2, vI x3, vI x4, vI x5, vU] [vI v_, vR 56] D) hJ25 c26
                    refine WP_iload_n (z := x2) dX6_readsCorner_182 rfl ?_
                    refine WP_via (pc1 := 200) (ls1 := [vR 56, vI x1, vI x2, vI x3, vI x4, vI x5, vU]) (st1 := [vI (if x2 ≤ 0 then ((if x1 ≤ 0 then (1 : Int) else x4) : Int) else x2), vR 56]) (D1 := D) (fun hJ27 => ?_) ?_
                    · refine WP_if_le (tgt := 190) dX6_readsCorner_183 (by decide) (fun c28 => ?_) (fun c28 => ?_)
                      · replace hJ27 := ite_t (P := fun v_ : Int => WP mX6_readsCorner Q 200 [vR 56, vI x1, vI x2, vI x3, vI x4, vI x5, vU] [vI v_, vR 56] D) hJ27 c28
                        refine WP_iload_n (z := x1) dX6_readsCorner_190 rfl ?_
                        refine WP_via (pc1 := 200) (ls1 := [vR 56, vI x1, vI x2, vI x3, vI x4, vI x5, vU]) (st1 := [vI (if x1 ≤ 0 then (1 : Int) else x4), vR 56]) (D1 := D) (fun hJ29 => ?_) ?_
                        · refine WP_if_le (tgt := 199) dX6_readsCorner_191 (by decide) (fun c30 => ?_) (fun c30 => ?_)
                          · replace hJ29 := ite_t (P := fun v_ : Int => WP mX6_readsCorner Q 200 [vR 56, vI x1, vI x2, vI x3, vI x4, vI x5, vU] [vI v_, vR 56] D) hJ29 c30
                            refine WP_iconst (z := 1) dX6_readsCorner_199 rfl ⟨by decide, by decide⟩ ?_
                            exact hJ29
                          · replace hJ29 := ite_f (P := fun v_ : Int => WP mX6_readsCorner Q 200 [vR 56, vI x1, vI x2, vI x3, vI x4, vI x5, vU] [vI v_, vR 56] D) hJ29 c30
                            refine WP_iload (z := x4) dX6_readsCorner_194 rfl ?_
                            refine WP_goto (tgt := 200) dX6_readsCorner_196 (by decide) ?_
                            exact hJ29
                        exact hJ27
                      · replace hJ27 := ite_f (P := fun v_ : Int => WP mX6_readsCorner Q 200 [vR 56, vI x1, vI x2, vI x3, vI x4, vI x5, vU] [vI v_, vR 56] D) hJ27 c28
                        refine WP_iload_n (z := x2) dX6_readsCorner_186 rfl ?_
                        refine WP_goto (tgt := 200) dX6_readsCorner_187 (by decide) ?_
                        exact hJ27
                    exact hJ25
                · refine WP_putI dX6_readsCorner_200 fp_RX6_98 rfl rfl ?_
                  obtain ⟨E21, hE22⟩ : ∃ E21 : HP, E21 = (hu D 56 2 (if x1 = 0 then ((if x2 ≤ 0 then ((if x1 ≤ 0 then (1 : Int) else x4) : Int) else x2) : Int) else (if x1 ≤ 0 then (1 : Int) else x4))) := ⟨_, rfl⟩
                  replace h := h E21 hE22
                  show WP mX6_readsCorner Q 203 [vR 56, vI x1, vI x2, vI x3, vI x4, vI x5, vU] [] (hu D 56 2 (if x1 = 0 then ((if x2 ≤ 0 then ((if x1 ≤ 0 then (1 : Int) else x4) : Int) else x2) : Int) else (if x1 ≤ 0 then (1 : Int) else x4)))
                  rw [← hE22]
                  refine WP_aload_n (z := 56) dX6_readsCorner_203 rfl ?_
                  refine WP_iload_n (z := x3) dX6_readsCorner_204 rfl ?_
                  refine WP_putI dX6_readsCorner_205 fp_RX6_94 rfl rfl ?_
                  obtain ⟨E23, hE24⟩ : ∃ E23 : HP, E23 = (hu E21 56 3 x3) := ⟨_, rfl⟩
                  replace h := h E23 hE24
                  show WP mX6_readsCorner Q 208 [vR 56, vI x1, vI x2, vI x3, vI x4, vI x5, vU] [] (hu E21 56 3 x3)
                  rw [← hE24]
                  refine WP_iconst (z := (-1)) dX6_readsCorner_208 rfl ⟨by decide, by decide⟩ ?_
                  exact WP_ireturn dX6_readsCorner_209 rfl h
              · replace h := h.2 c20
                refine WP_iload_n (z := x2) dX6_readsCorner_164 rfl ?_
                refine WP_iload (z := x4) dX6_readsCorner_165 rfl ?_
                refine WP_icmp_ge (tgt := 177) dX6_readsCorner_167 (by decide) (fun c33 => ?_) (fun c33 => ?_)
                · replace h := h.1 c33
                  refine WP_aload_n (z := 56) dX6_readsCorner_177 rfl ?_
                  refine WP_iload_n (z := x1) dX6_readsCorner_178 rfl ?_
                  refine WP_via (pc1 := 200) (ls1 := [vR 56, vI x1, vI x2, vI x3, vI x4, vI x5, vU]) (st1 := [vI (if x1 = 0 then ((if x2 ≤ 0 then ((if x1 ≤ 0 then (1 : Int) else x4) : Int) else x2) : Int) else (if x1 ≤ 0 then (1 : Int) else x4)), vR 56]) (D1 := D) (fun hJ38 => ?_) ?_
                  · refine WP_if_ne (tgt := 190) dX6_readsCorner_179 (by decide) (fun c39 => ?_) (fun c39 => ?_)
                    · replace hJ38 := ite_f (P := fun v_ : Int => WP mX6_readsCorner Q 200 [vR 56, vI x1, vI x2, vI x3, vI x4, vI x5, vU] [vI v_, vR 56] D) hJ38 c39
                      refine WP_iload_n (z := x1) dX6_readsCorner_190 rfl ?_
                      refine WP_via (pc1 := 200) (ls1 := [vR 56, vI x1, vI x2, vI x3, vI x4, vI x5, vU]) (st1 := [vI (if x1 ≤ 0 then (1 : Int) else x4), vR 56]) (D1 := D) (fun hJ44 => ?_) ?_
                      · refine WP_if_le (tgt := 199) dX6_readsCorner_191 (by decide) (fun c45 => ?_) (fun c45 => ?_)
                        · replace hJ44 := ite_t (P := fun v_ : Int => WP mX6_readsCorner Q 200 [vR 56, vI x1, vI x2, vI x3, vI x4, vI x5, vU] [vI v_, vR 56] D) hJ44 c45
                          refine WP_iconst (z := 1) dX6_readsCorner_199 rfl ⟨by decide, by decide⟩ ?_
                          exact hJ44
                        · replace hJ44 := ite_f (P := fun v_ : Int => WP mX6_readsCorner Q 200 [vR 56, vI x1, vI x2, vI x3, vI x4, vI x5, vU] [vI v_, vR 56] D) hJ44 c45
                          refine WP_iload (z := x4) dX6_readsCorner_194 rfl ?_
                          refine WP_goto (tgt := 200) dX6_readsCorner_196 (by decide) ?_
                          exact hJ44
                      exact hJ38
                    · replace hJ38 := ite_t (P := fun v_ : Int => WP mX6_readsCorner Q 200 [vR 56, vI x1, vI x2, vI x3, vI x4, vI x5, vU] [vI v_, vR 56] D) hJ38 c39
                      refine WP_iload_n (z := x2) dX6_readsCorner_182 rfl ?_
                      refine WP_via (pc1 := 200) (ls1 := [vR 56, vI x1, vI x2, vI x3, vI x4, vI x5, vU]) (st1 := [vI (if x2 ≤ 0 then ((if x1 ≤ 0 then (1 : Int) else x4) : Int) else x2), vR 56]) (D1 := D) (fun hJ40 => ?_) ?_
                      · refine WP_if_le (tgt := 190) dX6_readsCorner_183 (by decide) (fun c41 => ?_) (fun c41 => ?_)
                        · replace hJ40 := ite_t (P := fun v_ : Int => WP mX6_readsCorner Q 200 [vR 56, vI x1, vI x2, vI x3, vI x4, vI x5, vU] [vI v_, vR 56] D) hJ40 c41
                          refine WP_iload_n (z := x1) dX6_readsCorner_190 rfl ?_
                          refine WP_via (pc1 := 200) (ls1 := [vR 56, vI x1, vI x2, vI x3, vI x4, vI x5, vU]) (st1 := [vI (if x1 ≤ 0 then (1 : Int) else x4), vR 56]) (D1 := D) (fun hJ42 => ?_) ?_
                          · refine WP_if_le (tgt := 199) dX6_readsCorner_191 (by decide) (fun c43 => ?_) (fun c43 => ?_)
                            · replace hJ42 := ite_t (P := fun v_ : Int => WP mX6_readsCorner Q 200 [vR 56, vI x1, vI x2, vI x3, vI x4, vI x5, vU] [vI v_, vR 56] D) hJ42 c43
                              refine WP_iconst (z := 1) dX6_readsCorner_199 rfl ⟨by decide, by decide⟩ ?_
                              exact hJ42
                            · replace hJ42 := ite_f (P := fun v_ : Int => WP mX6_readsCorner Q 200 [vR 56, vI x1, vI x2, vI x3, vI x4, vI x5, vU] [vI v_, vR 56] D) hJ42 c43
                              refine WP_iload (z := x4) dX6_readsCorner_194 rfl ?_
                              refine WP_goto (tgt := 200) dX6_readsCorner_196 (by decide) ?_
                              exact hJ42
                          exact hJ40
                        · replace hJ40 := ite_f (P := fun v_ : Int => WP mX6_readsCorner Q 200 [vR 56, vI x1, vI x2, vI x3, vI x4, vI x5, vU] [vI v_, vR 56] D) hJ40 c41
                          refine WP_iload_n (z := x2) dX6_readsCorner_186 rfl ?_
                          refine WP_goto (tgt := 200) dX6_readsCorner_187 (by decide) ?_
                          exact hJ40
                      exact hJ38
                  · refine WP_putI dX6_readsCorner_200 fp_RX6_98 rfl rfl ?_
                    obtain ⟨E34, hE35⟩ : ∃ E34 : HP, E34 = (hu D 56 2 (if x1 = 0 then ((if x2 ≤ 0 then ((if x1 ≤ 0 then (1 : Int) else x4) : Int) else x2) : Int) else (if x1 ≤ 0 then (1 : Int) else x4))) := ⟨_, rfl⟩
                    replace h := h E34 hE35
                    show WP mX6_readsCorner Q 203 [vR 56, vI x1, vI x2, vI x3, vI x4, vI x5, vU] [] (hu D 56 2 (if x1 = 0 then ((if x2 ≤ 0 then ((if x1 ≤ 0 then (1 : Int) else x4) : Int) else x2) : Int) else (if x1 ≤ 0 then (1 : Int) else x4)))
                    rw [← hE35]
                    refine WP_aload_n (z := 56) dX6_readsCorner_203 rfl ?_
                    refine WP_iload_n (z := x3) dX6_readsCorner_204 rfl ?_
                    refine WP_putI dX6_readsCorner_205 fp_RX6_94 rfl rfl ?_
                    obtain ⟨E36, hE37⟩ : ∃ E36 : HP, E36 = (hu E34 56 3 x3) := ⟨_, rfl⟩
                    replace h := h E36 hE37
                    show WP mX6_readsCorner Q 208 [vR 56, vI x1, vI x2, vI x3, vI x4, vI x5, vU] [] (hu E34 56 3 x3)
                    rw [← hE37]
                    refine WP_iconst (z := (-1)) dX6_readsCorner_208 rfl ⟨by decide, by decide⟩ ?_
                    exact WP_ireturn dX6_readsCorner_209 rfl h
                · replace h := h.2 c33
                  refine WP_aload_n (z := 56) dX6_readsCorner_170 rfl ?_
                  refine WP_getR (z := 57) dX6_readsCorner_171 fl_RX6_7 rfl rfl rfl ?_
                  refine WP_iconst (z := 0) dX6_readsCorner_174 rfl ⟨by decide, by decide⟩ ?_
                  refine WP_iald dX6_readsCorner_175 rfl (by decide) (by decide) rfl ?_
                  exact WP_ireturn dX6_readsCorner_176 rfl h
        · replace h := h.2 c5
          refine WP_aload_n (z := 56) dX6_readsCorner_33 rfl ?_
          refine WP_iconst (z := 0) dX6_readsCorner_34 rfl ⟨by decide, by decide⟩ ?_
          refine WP_iload (z := x5) dX6_readsCorner_35 rfl ?_
          obtain ⟨o79, h⟩ := h
          refine WP_pcallV (g := mX6_byteAt) (as := [vI 0, vI x5]) (rest := []) (n := 2) (r := vI (fX6_byteAt D 0 x5)) dX6_readsCorner_37 wm_304 mo_X6_byteAt rfl rfl rfl rfl ⟨Nat.le_of_ble_eq_true rfl, Nat.le_of_ble_eq_true rfl⟩ (Nat.le_of_ble_eq_true rfl) (P_X6_byteAt  o79) ?_
          refine WP_istore (ls1 := [vR 56, vI x1, vI x2, vI x3, vI x4, vI x5, vI (fX6_byteAt D 0 x5)]) dX6_readsCorner_40 (by decide) rfl ?_
          refine WP_iload_n (z := x1) dX6_readsCorner_42 rfl ?_
          refine WP_iconst (z := 5) dX6_readsCorner_43 rfl ⟨by decide, by decide⟩ ?_
          refine WP_icmp_ne (tgt := 50) dX6_readsCorner_44 (by decide) (fun c46 => ?_) (fun c46 => ?_)
          · replace h := h.2 c46
            refine WP_iload (z := (fX6_byteAt D 0 x5)) dX6_readsCorner_50 rfl ?_
            refine WP_bipush (z := 59) dX6_readsCorner_52 rfl (by decide) ?_
            refine WP_icmp_ne (tgt := 94) dX6_readsCorner_54 (by decide) (fun c47 => ?_) (fun c47 => ?_)
            · replace h := h.2 c47
              refine WP_iload (z := (fX6_byteAt D 0 x5)) dX6_readsCorner_94 rfl ?_
              refine WP_bipush (z := 46) dX6_readsCorner_96 rfl (by decide) ?_
              refine WP_icmp_eq (tgt := 108) dX6_readsCorner_98 (by decide) (fun c59 => ?_) (fun c59 => ?_)
              · replace h := h.1 c59
                refine WP_iload_n (z := x2) dX6_readsCorner_108 rfl ?_
                refine WP_iload (z := x4) dX6_readsCorner_109 rfl ?_
                refine WP_icmp_ne (tgt := 117) dX6_readsCorner_111 (by decide) (fun c60 => ?_) (fun c60 => ?_)
                · replace h := h.2 c60
                  refine WP_aload_n (z := 56) dX6_readsCorner_117 rfl ?_
                  refine WP_getR (z := 59) dX6_readsCorner_118 fl_RX6_16 rfl rfl rfl ?_
                  refine WP_iload_n (z := x3) dX6_readsCorner_121 rfl ?_
                  refine WP_iload (z := (fX6_byteAt D 0 x5)) dX6_readsCorner_122 rfl ?_
                  refine WP_bipush (z := 35) dX6_readsCorner_124 rfl (by decide) ?_
                  refine WP_via (pc1 := 134) (ls1 := [vR 56, vI x1, vI x2, vI x3, vI x4, vI x5, vI (fX6_byteAt D 0 x5)]) (st1 := [vI (if (fX6_byteAt D 0 x5) = 35 then (1 : Int) else 0), vI x3, vR 59]) (D1 := D) (fun hJ67 => ?_) ?_
                  · refine WP_icmp_ne (tgt := 133) dX6_readsCorner_126 (by decide) (fun c68 => ?_) (fun c68 => ?_)
                    · replace hJ67 := ite_f (P := fun v_ : Int => WP mX6_readsCorner Q 134 [vR 56, vI x1, vI x2, vI x3, vI x4, vI x5, vI (fX6_byteAt D 0 x5)] [vI v_, vI x3, vR 59] D) hJ67 c68
                      refine WP_iconst (z := 0) dX6_readsCorner_133 rfl ⟨by decide, by decide⟩ ?_
                      exact hJ67
                    · replace hJ67 := ite_t (P := fun v_ : Int => WP mX6_readsCorner Q 134 [vR 56, vI x1, vI x2, vI x3, vI x4, vI x5, vI (fX6_byteAt D 0 x5)] [vI v_, vI x3, vR 59] D) hJ67 c68
                      refine WP_iconst (z := 1) dX6_readsCorner_129 rfl ⟨by decide, by decide⟩ ?_
                      refine WP_goto (tgt := 134) dX6_readsCorner_130 (by decide) ?_
                      exact hJ67
                  · obtain ⟨o66, h⟩ := h
                    refine WP_zast dX6_readsCorner_134 rfl o66.1 o66.2 (bool_ite (Or.inr rfl) (Or.inl rfl)) ?_
                    obtain ⟨E61, hE62⟩ : ∃ E61 : HP, E61 = (hu D 59 x3.toNat (if (fX6_byteAt D 0 x5) = 35 then (1 : Int) else 0)) := ⟨_, rfl⟩
                    replace h := h E61 hE62
                    show WP mX6_readsCorner Q 135 [vR 56, vI x1, vI x2, vI x3, vI x4, vI x5, vI (fX6_byteAt D 0 x5)] [] (hu D 59 x3.toNat (if (fX6_byteAt D 0 x5) = 35 then (1 : Int) else 0))
                    rw [← hE62]
                    obtain ⟨o65, h⟩ := h
                    refine WP_iinc (z := (x3 + 1)) (ls1 := [vR 56, vI x1, vI x2, vI (x3 + 1), vI x4, vI x5, vI (fX6_byteAt D 0 x5)]) dX6_readsCorner_135 rfl (w32_id o65) (by decide) rfl ?_
                    obtain ⟨o64, h⟩ := h
                    refine WP_iinc (z := (x2 + 1)) (ls1 := [vR 56, vI x1, vI (x2 + 1), vI (x3 + 1), vI x4, vI x5, vI (fX6_byteAt D 0 x5)]) dX6_readsCorner_138 rfl (w32_id o64) (by decide) rfl ?_
                    obtain ⟨o63, h⟩ := h
                    refine WP_iinc (z := (x5 + 1)) (ls1 := [vR 56, vI x1, vI (x2 + 1), vI (x3 + 1), vI x4, vI (x5 + 1), vI (fX6_byteAt D 0 x5)]) dX6_readsCorner_141 rfl (w32_id o63) (by decide) rfl ?_
                    refine WP_goto (tgt := 22) dX6_readsCorner_144 (by decide) ?_
                    refine WP_fg 6 (ls1 := [vR 56, vI x1, vI (x2 + 1), vI (x3 + 1), vI x4, vI (x5 + 1), vU]) rfl ?_
                    exact ih22_ _ _ _ _ _ _ h.1 (by have := h.2; omega)
                · replace h := h.1 c60
                  refine WP_iload (z := x5) dX6_readsCorner_114 rfl ?_
                  exact WP_ireturn dX6_readsCorner_116 rfl h
              · replace h := h.2 c59
                refine WP_iload (z := (fX6_byteAt D 0 x5)) dX6_readsCorner_101 rfl ?_
                refine WP_bipush (z := 35) dX6_readsCorner_103 rfl (by decide) ?_
                refine WP_icmp_ne (tgt := 114) dX6_readsCorner_105 (by decide) (fun c69 => ?_) (fun c69 => ?_)
                · replace h := h.2 c69
                  refine WP_iload (z := x5) dX6_readsCorner_114 rfl ?_
                  exact WP_ireturn dX6_readsCorner_116 rfl h
                · replace h := h.1 c69
                  refine WP_iload_n (z := x2) dX6_readsCorner_108 rfl ?_
                  refine WP_iload (z := x4) dX6_readsCorner_109 rfl ?_
                  refine WP_icmp_ne (tgt := 117) dX6_readsCorner_111 (by decide) (fun c70 => ?_) (fun c70 => ?_)
                  · replace h := h.2 c70
                    refine WP_aload_n (z := 56) dX6_readsCorner_117 rfl ?_
                    refine WP_getR (z := 59) dX6_readsCorner_118 fl_RX6_16 rfl rfl rfl ?_
                    refine WP_iload_n (z := x3) dX6_readsCorner_121 rfl ?_
                    refine WP_iload (z := (fX6_byteAt D 0 x5)) dX6_readsCorner_122 rfl ?_
                    refine WP_bipush (z := 35) dX6_readsCorner_124 rfl (by decide) ?_
                    refine WP_via (pc1 := 134) (ls1 := [vR 56, vI x1, vI x2, vI x3, vI x4, vI x5, vI (fX6_byteAt D 0 x5)]) (st1 := [vI (if (fX6_byteAt D 0 x5) = 35 then (1 : Int) else 0), vI x3, vR 59]) (D1 := D) (fun hJ77 => ?_) ?_
                    · refine WP_icmp_ne (tgt := 133) dX6_readsCorner_126 (by decide) (fun c78 => ?_) (fun c78 => ?_)
                      · replace hJ77 := ite_f (P := fun v_ : Int => WP mX6_readsCorner Q 134 [vR 56, vI x1, vI x2, vI x3, vI x4, vI x5, vI (fX6_byteAt D 0 x5)] [vI v_, vI x3, vR 59] D) hJ77 c78
                        refine WP_iconst (z := 0) dX6_readsCorner_133 rfl ⟨by decide, by decide⟩ ?_
                        exact hJ77
                      · replace hJ77 := ite_t (P := fun v_ : Int => WP mX6_readsCorner Q 134 [vR 56, vI x1, vI x2, vI x3, vI x4, vI x5, vI (fX6_byteAt D 0 x5)] [vI v_, vI x3, vR 59] D) hJ77 c78
                        refine WP_iconst (z := 1) dX6_readsCorner_129 rfl ⟨by decide, by decide⟩ ?_
                        refine WP_goto (tgt := 134) dX6_readsCorner_130 (by decide) ?_
                        exact hJ77
                    · obtain ⟨o76, h⟩ := h
                      refine WP_zast dX6_readsCorner_134 rfl o76.1 o76.2 (bool_ite (Or.inr rfl) (Or.inl rfl)) ?_
                      obtain ⟨E71, hE72⟩ : ∃ E71 : HP, E71 = (hu D 59 x3.toNat (if (fX6_byteAt D 0 x5) = 35 then (1 : Int) else 0)) := ⟨_, rfl⟩
                      replace h := h E71 hE72
                      show WP mX6_readsCorner Q 135 [vR 56, vI x1, vI x2, vI x3, vI x4, vI x5, vI (fX6_byteAt D 0 x5)] [] (hu D 59 x3.toNat (if (fX6_byteAt D 0 x5) = 35 then (1 : Int) else 0))
                      rw [← hE72]
                      obtain ⟨o75, h⟩ := h
                      refine WP_iinc (z := (x3 + 1)) (ls1 := [vR 56, vI x1, vI x2, vI (x3 + 1), vI x4, vI x5, vI (fX6_byteAt D 0 x5)]) dX6_readsCorner_135 rfl (w32_id o75) (by decide) rfl ?_
                      obtain ⟨o74, h⟩ := h
                      refine WP_iinc (z := (x2 + 1)) (ls1 := [vR 56, vI x1, vI (x2 + 1), vI (x3 + 1), vI x4, vI x5, vI (fX6_byteAt D 0 x5)]) dX6_readsCorner_138 rfl (w32_id o74) (by decide) rfl ?_
                      obtain ⟨o73, h⟩ := h
                      refine WP_iinc (z := (x5 + 1)) (ls1 := [vR 56, vI x1, vI (x2 + 1), vI (x3 + 1), vI x4, vI (x5 + 1), vI (fX6_byteAt D 0 x5)]) dX6_readsCorner_141 rfl (w32_id o73) (by decide) rfl ?_
                      refine WP_goto (tgt := 22) dX6_readsCorner_144 (by decide) ?_
                      refine WP_fg 6 (ls1 := [vR 56, vI x1, vI (x2 + 1), vI (x3 + 1), vI x4, vI (x5 + 1), vU]) rfl ?_
                      exact ih22_ _ _ _ _ _ _ h.1 (by have := h.2; omega)
                  · replace h := h.1 c70
                    refine WP_iload (z := x5) dX6_readsCorner_114 rfl ?_
                    exact WP_ireturn dX6_readsCorner_116 rfl h
            · replace h := h.1 c47
              refine WP_iload_n (z := x2) dX6_readsCorner_57 rfl ?_
              refine WP_if_eq (tgt := 71) dX6_readsCorner_58 (by decide) (fun c48 => ?_) (fun c48 => ?_)
              · replace h := h.1 c48
                refine WP_iload (z := x5) dX6_readsCorner_71 rfl ?_
                exact WP_ireturn dX6_readsCorner_73 rfl h
              · replace h := h.2 c48
                refine WP_iload_n (z := x1) dX6_readsCorner_61 rfl ?_
                refine WP_if_le (tgt := 74) dX6_readsCorner_62 (by decide) (fun c49 => ?_) (fun c49 => ?_)
                · replace h := h.1 c49
                  refine WP_iload_n (z := x1) dX6_readsCorner_74 rfl ?_
                  refine WP_via (pc1 := 84) (ls1 := [vR 56, vI x1, vI x2, vI x3, vI x4, vI x5, vI (fX6_byteAt D 0 x5)]) (st1 := [vI (if x1 = 0 then (x2 : Int) else x4)]) (D1 := D) (fun hJ52 => ?_) ?_
                  · refine WP_if_ne (tgt := 82) dX6_readsCorner_75 (by decide) (fun c53 => ?_) (fun c53 => ?_)
                    · replace hJ52 := ite_f (P := fun v_ : Int => WP mX6_readsCorner Q 84 [vR 56, vI x1, vI x2, vI x3, vI x4, vI x5, vI (fX6_byteAt D 0 x5)] [vI v_] D) hJ52 c53
                      refine WP_iload (z := x4) dX6_readsCorner_82 rfl ?_
                      exact hJ52
                    · replace hJ52 := ite_t (P := fun v_ : Int => WP mX6_readsCorner Q 84 [vR 56, vI x1, vI x2, vI x3, vI x4, vI x5, vI (fX6_byteAt D 0 x5)] [vI v_] D) hJ52 c53
                      refine WP_iload_n (z := x2) dX6_readsCorner_78 rfl ?_
                      refine WP_goto (tgt := 84) dX6_readsCorner_79 (by decide) ?_
                      exact hJ52
                  · refine WP_istore (ls1 := [vR 56, vI x1, vI x2, vI x3, vI (if x1 = 0 then (x2 : Int) else x4), vI x5, vI (fX6_byteAt D 0 x5)]) dX6_readsCorner_84 (by decide) rfl ?_
                    obtain ⟨o51, h⟩ := h
                    refine WP_iinc (z := (x1 + 1)) (ls1 := [vR 56, vI (x1 + 1), vI x2, vI x3, vI (if x1 = 0 then (x2 : Int) else x4), vI x5, vI (fX6_byteAt D 0 x5)]) dX6_readsCorner_86 rfl (w32_id o51) (by decide) rfl ?_
                    refine WP_iconst (z := 0) dX6_readsCorner_89 rfl ⟨by decide, by decide⟩ ?_
                    refine WP_istore_n (ls1 := [vR 56, vI (x1 + 1), vI 0, vI x3, vI (if x1 = 0 then (x2 : Int) else x4), vI x5, vI (fX6_byteAt D 0 x5)]) dX6_readsCorner_90 (by decide) rfl ?_
                    refine WP_goto (tgt := 141) dX6_readsCorner_91 (by decide) ?_
                    obtain ⟨o50, h⟩ := h
                    refine WP_iinc (z := (x5 + 1)) (ls1 := [vR 56, vI (x1 + 1), vI 0, vI x3, vI (if x1 = 0 then (x2 : Int) else x4), vI (x5 + 1), vI (fX6_byteAt D 0 x5)]) dX6_readsCorner_141 rfl (w32_id o50) (by decide) rfl ?_
                    refine WP_goto (tgt := 22) dX6_readsCorner_144 (by decide) ?_
                    refine WP_fg 6 (ls1 := [vR 56, vI (x1 + 1), vI 0, vI x3, vI (if x1 = 0 then (x2 : Int) else x4), vI (x5 + 1), vU]) rfl ?_
                    exact ih22_ _ _ _ _ _ _ h.1 (by have := h.2; omega)
                · replace h := h.2 c49
                  refine WP_iload_n (z := x2) dX6_readsCorner_65 rfl ?_
                  refine WP_iload (z := x4) dX6_readsCorner_66 rfl ?_
                  refine WP_icmp_ge (tgt := 74) dX6_readsCorner_68 (by decide) (fun c54 => ?_) (fun c54 => ?_)
                  · replace h := h.1 c54
                    refine WP_iload_n (z := x1) dX6_readsCorner_74 rfl ?_
                    refine WP_via (pc1 := 84) (ls1 := [vR 56, vI x1, vI x2, vI x3, vI x4, vI x5, vI (fX6_byteAt D 0 x5)]) (st1 := [vI (if x1 = 0 then (x2 : Int) else x4)]) (D1 := D) (fun hJ57 => ?_) ?_
                    · refine WP_if_ne (tgt := 82) dX6_readsCorner_75 (by decide) (fun c58 => ?_) (fun c58 => ?_)
                      · replace hJ57 := ite_f (P := fun v_ : Int => WP mX6_readsCorner Q 84 [vR 56, vI x1, vI x2, vI x3, vI x4, vI x5, vI (fX6_byteAt D 0 x5)] [vI v_] D) hJ57 c58
                        refine WP_iload (z := x4) dX6_readsCorner_82 rfl ?_
                        exact hJ57
                      · replace hJ57 := ite_t (P := fun v_ : Int => WP mX6_readsCorner Q 84 [vR 56, vI x1, vI x2, vI x3, vI x4, vI x5, vI (fX6_byteAt D 0 x5)] [vI v_] D) hJ57 c58
                        refine WP_iload_n (z := x2) dX6_readsCorner_78 rfl ?_
                        refine WP_goto (tgt := 84) dX6_readsCorner_79 (by decide) ?_
                        exact hJ57
                    · refine WP_istore (ls1 := [vR 56, vI x1, vI x2, vI x3, vI (if x1 = 0 then (x2 : Int) else x4), vI x5, vI (fX6_byteAt D 0 x5)]) dX6_readsCorner_84 (by decide) rfl ?_
                      obtain ⟨o56, h⟩ := h
                      refine WP_iinc (z := (x1 + 1)) (ls1 := [vR 56, vI (x1 + 1), vI x2, vI x3, vI (if x1 = 0 then (x2 : Int) else x4), vI x5, vI (fX6_byteAt D 0 x5)]) dX6_readsCorner_86 rfl (w32_id o56) (by decide) rfl ?_
                      refine WP_iconst (z := 0) dX6_readsCorner_89 rfl ⟨by decide, by decide⟩ ?_
                      refine WP_istore_n (ls1 := [vR 56, vI (x1 + 1), vI 0, vI x3, vI (if x1 = 0 then (x2 : Int) else x4), vI x5, vI (fX6_byteAt D 0 x5)]) dX6_readsCorner_90 (by decide) rfl ?_
                      refine WP_goto (tgt := 141) dX6_readsCorner_91 (by decide) ?_
                      obtain ⟨o55, h⟩ := h
                      refine WP_iinc (z := (x5 + 1)) (ls1 := [vR 56, vI (x1 + 1), vI 0, vI x3, vI (if x1 = 0 then (x2 : Int) else x4), vI (x5 + 1), vI (fX6_byteAt D 0 x5)]) dX6_readsCorner_141 rfl (w32_id o55) (by decide) rfl ?_
                      refine WP_goto (tgt := 22) dX6_readsCorner_144 (by decide) ?_
                      refine WP_fg 6 (ls1 := [vR 56, vI (x1 + 1), vI 0, vI x3, vI (if x1 = 0 then (x2 : Int) else x4), vI (x5 + 1), vU]) rfl ?_
                      exact ih22_ _ _ _ _ _ _ h.1 (by have := h.2; omega)
                  · replace h := h.2 c54
                    refine WP_iload (z := x5) dX6_readsCorner_71 rfl ?_
                    exact WP_ireturn dX6_readsCorner_73 rfl h
          · replace h := h.1 c46
            refine WP_iload (z := x5) dX6_readsCorner_47 rfl ?_
            exact WP_ireturn dX6_readsCorner_49 rfl h
  have cut22_ : ∀ (x1 x2 x3 x4 x5 : Int) (D : HP), I22 x1 x2 x3 x4 x5 D → WP mX6_readsCorner Q 22 [vR 56, vI x1, vI x2, vI x3, vI x4, vI x5, vU] [] D := fun x1 x2 x3 x4 x5 D hI => (IH (u22 x1 x2 x3 x4 x5 D * 1 + 0 + 1)) x1 x2 x3 x4 x5 D hI (by omega)
  refine WP_cD (fun hcD => ?_)
  have h := h0 hcD
  refine WP_iconst (z := 0) dX6_readsCorner_0 rfl ⟨by decide, by decide⟩ ?_
  refine WP_istore_n (ls1 := [vR 56, vI 0, vU, vU, vU, vU, vU]) dX6_readsCorner_1 (by decide) rfl ?_
  refine WP_iconst (z := 0) dX6_readsCorner_2 rfl ⟨by decide, by decide⟩ ?_
  refine WP_istore_n (ls1 := [vR 56, vI 0, vI 0, vU, vU, vU, vU]) dX6_readsCorner_3 (by decide) rfl ?_
  refine WP_iconst (z := 0) dX6_readsCorner_4 rfl ⟨by decide, by decide⟩ ?_
  refine WP_istore_n (ls1 := [vR 56, vI 0, vI 0, vI 0, vU, vU, vU]) dX6_readsCorner_5 (by decide) rfl ?_
  refine WP_iconst (z := 5) dX6_readsCorner_6 rfl ⟨by decide, by decide⟩ ?_
  refine WP_istore (ls1 := [vR 56, vI 0, vI 0, vI 0, vI 5, vU, vU]) dX6_readsCorner_7 (by decide) rfl ?_
  refine WP_aload_n (z := 56) dX6_readsCorner_9 rfl ?_
  refine WP_iconst (z := 0) dX6_readsCorner_10 rfl ⟨by decide, by decide⟩ ?_
  refine WP_putI dX6_readsCorner_11 fp_RX6_94 rfl rfl ?_
  obtain ⟨E1, hE2⟩ : ∃ E1 : HP, E1 = (hu D 56 3 0) := ⟨_, rfl⟩
  replace h := h E1 hE2
  show WP mX6_readsCorner Q 14 [vR 56, vI 0, vI 0, vI 0, vI 5, vU, vU] [] (hu D 56 3 0)
  rw [← hE2]
  refine WP_aload_n (z := 56) dX6_readsCorner_14 rfl ?_
  refine WP_iconst (z := 1) dX6_readsCorner_15 rfl ⟨by decide, by decide⟩ ?_
  refine WP_putI dX6_readsCorner_16 fp_RX6_98 rfl rfl ?_
  obtain ⟨E3, hE4⟩ : ∃ E3 : HP, E3 = (hu E1 56 2 1) := ⟨_, rfl⟩
  replace h := h E3 hE4
  show WP mX6_readsCorner Q 19 [vR 56, vI 0, vI 0, vI 0, vI 5, vU, vU] [] (hu E1 56 2 1)
  rw [← hE4]
  refine WP_iconst (z := 0) dX6_readsCorner_19 rfl ⟨by decide, by decide⟩ ?_
  refine WP_istore (ls1 := [vR 56, vI 0, vI 0, vI 0, vI 5, vI 0, vU]) dX6_readsCorner_20 (by decide) rfl ?_
  exact cut22_ _ _ _ _ _ _ h
def fX6_wayOf (D : HP) (a : Int) : Int := (if a = 110 then (0 : Int) else (if a = 101 then (1 : Int) else (if a = 115 then (2 : Int) else (if a = 119 then (3 : Int) else (-1)))))
def oX6_wayOf (D : HP) (a : Int) : Prop := True
set_option maxRecDepth 100000 in
set_option maxHeartbeats 4000000 in
theorem V_X6_wayOf (a : Int) {D : HP} {Q : Option MV → HP → Prop}
    (h0 : cD D → c32 a → (Q (some (vI (if a = 110 then (0 : Int) else (if a = 101 then (1 : Int) else (if a = 115 then (2 : Int) else (if a = 119 then (3 : Int) else (-1))))))) D))
    : CT mX6_wayOf [vI a] D Q := by
  refine CT.of 0 (by decide) (Nat.le_of_ble_eq_true rfl) ?_
  show WP mX6_wayOf Q 0 [vI a] [] D
  refine WP_cD (fun hcD => ?_)
  refine WP_cl (fun hcl => ?_)
  have h := h0 hcD (cVs_g hcl (i := 0) (v := vI a) rfl)
  refine WP_iload_n (z := a) dX6_wayOf_0 rfl ?_
  refine WP_bipush (z := 110) dX6_wayOf_1 rfl (by decide) ?_
  refine WP_via (pc1 := 41) (ls1 := [vI a]) (st1 := [vI (if a = 110 then (0 : Int) else (if a = 101 then (1 : Int) else (if a = 115 then (2 : Int) else (if a = 119 then (3 : Int) else (-1)))))]) (D1 := D) (fun hJ1 => ?_) ?_
  · refine WP_icmp_ne (tgt := 10) dX6_wayOf_3 (by decide) (fun c2 => ?_) (fun c2 => ?_)
    · replace hJ1 := ite_f (P := fun v_ : Int => WP mX6_wayOf Q 41 [vI a] [vI v_] D) hJ1 c2
      refine WP_iload_n (z := a) dX6_wayOf_10 rfl ?_
      refine WP_bipush (z := 101) dX6_wayOf_11 rfl (by decide) ?_
      refine WP_via (pc1 := 41) (ls1 := [vI a]) (st1 := [vI (if a = 101 then (1 : Int) else (if a = 115 then (2 : Int) else (if a = 119 then (3 : Int) else (-1))))]) (D1 := D) (fun hJ3 => ?_) ?_
      · refine WP_icmp_ne (tgt := 20) dX6_wayOf_13 (by decide) (fun c4 => ?_) (fun c4 => ?_)
        · replace hJ3 := ite_f (P := fun v_ : Int => WP mX6_wayOf Q 41 [vI a] [vI v_] D) hJ3 c4
          refine WP_iload_n (z := a) dX6_wayOf_20 rfl ?_
          refine WP_bipush (z := 115) dX6_wayOf_21 rfl (by decide) ?_
          refine WP_via (pc1 := 41) (ls1 := [vI a]) (st1 := [vI (if a = 115 then (2 : Int) else (if a = 119 then (3 : Int) else (-1)))]) (D1 := D) (fun hJ5 => ?_) ?_
          · refine WP_icmp_ne (tgt := 30) dX6_wayOf_23 (by decide) (fun c6 => ?_) (fun c6 => ?_)
            · replace hJ5 := ite_f (P := fun v_ : Int => WP mX6_wayOf Q 41 [vI a] [vI v_] D) hJ5 c6
              refine WP_iload_n (z := a) dX6_wayOf_30 rfl ?_
              refine WP_bipush (z := 119) dX6_wayOf_31 rfl (by decide) ?_
              refine WP_via (pc1 := 41) (ls1 := [vI a]) (st1 := [vI (if a = 119 then (3 : Int) else (-1))]) (D1 := D) (fun hJ7 => ?_) ?_
              · refine WP_icmp_ne (tgt := 40) dX6_wayOf_33 (by decide) (fun c8 => ?_) (fun c8 => ?_)
                · replace hJ7 := ite_f (P := fun v_ : Int => WP mX6_wayOf Q 41 [vI a] [vI v_] D) hJ7 c8
                  refine WP_iconst (z := (-1)) dX6_wayOf_40 rfl ⟨by decide, by decide⟩ ?_
                  exact hJ7
                · replace hJ7 := ite_t (P := fun v_ : Int => WP mX6_wayOf Q 41 [vI a] [vI v_] D) hJ7 c8
                  refine WP_iconst (z := 3) dX6_wayOf_36 rfl ⟨by decide, by decide⟩ ?_
                  refine WP_goto (tgt := 41) dX6_wayOf_37 (by decide) ?_
                  exact hJ7
              exact hJ5
            · replace hJ5 := ite_t (P := fun v_ : Int => WP mX6_wayOf Q 41 [vI a] [vI v_] D) hJ5 c6
              refine WP_iconst (z := 2) dX6_wayOf_26 rfl ⟨by decide, by decide⟩ ?_
              refine WP_goto (tgt := 41) dX6_wayOf_27 (by decide) ?_
              exact hJ5
          exact hJ3
        · replace hJ3 := ite_t (P := fun v_ : Int => WP mX6_wayOf Q 41 [vI a] [vI v_] D) hJ3 c4
          refine WP_iconst (z := 1) dX6_wayOf_16 rfl ⟨by decide, by decide⟩ ?_
          refine WP_goto (tgt := 41) dX6_wayOf_17 (by decide) ?_
          exact hJ3
      exact hJ1
    · replace hJ1 := ite_t (P := fun v_ : Int => WP mX6_wayOf Q 41 [vI a] [vI v_] D) hJ1 c2
      refine WP_iconst (z := 0) dX6_wayOf_6 rfl ⟨by decide, by decide⟩ ?_
      refine WP_goto (tgt := 41) dX6_wayOf_7 (by decide) ?_
      exact hJ1
  · exact WP_ireturn dX6_wayOf_41 rfl h
set_option maxRecDepth 100000 in
set_option maxHeartbeats 4000000 in
theorem P_X6_wayOf {a : Int} {D : HP} (hob : oX6_wayOf D a) : CT mX6_wayOf [vI a] D (PF (vI (fX6_wayOf D a)) D) := by
  refine V_X6_wayOf a (fun hcD hc_0 => ?_)
  obtain ⟨z, hz⟩ : ∃ z, z = fX6_wayOf D a := ⟨_, rfl⟩
  rw [← hz]
  unfold fX6_wayOf at hz
  exact ⟨by rw [hz], rfl⟩
set_option maxRecDepth 100000 in
set_option maxHeartbeats 4000000 in
theorem V_X6_readsGusts  {D : HP} {Q : Option MV → HP → Prop} (I7 : Int → HP → Prop) (u7 : Int → HP → Nat)
    (h0 : cD D → (∀ (E1 : HP), E1 = (hu D 56 5 0) → (I7 0 E1)))
    (h7 : ∀ (x1 : Int) (D : HP), I7 x1 D → cD D → c32 x1 → (((D 57 1) ≤ x1 → ((0 ≤ (D 57 1)) ∧ ((((D 57 1) % 2) = 1 → (Q (some (vI (D 57 1))) D)) ∧ (¬ (((D 57 1) % 2) = 1) → ((0 ≤ (D 57 1)) ∧ (∀ (E5 : HP), E5 = (hu D 56 5 ((D 57 1) / 2)) → (Q (some (vI (-1))) E5))))))) ∧ (¬ ((D 57 1) ≤ x1) → ((oX6_byteAt D 1 x1) ∧ ((oX6_figureAt D 1 x1 0 9) ∧ ((0 ≤ x1) ∧ (((x1 % 2) = 0 → (((fX6_wayOf D (fX6_byteAt D 1 x1)) = (-1) → (Q (some (vI x1)) D)) ∧ (¬ ((fX6_wayOf D (fX6_byteAt D 1 x1)) = (-1)) → ((0 ≤ x1) ∧ (((x1 % 2) = 0 → ((0 ≤ x1) ∧ ((0 ≤ (x1 / 2) ∧ (x1 / 2) < 12) ∧ (∀ (E12 : HP), E12 = (hu D 60 ((x1 / 2)).toNat (fX6_wayOf D (fX6_byteAt D 1 x1))) → ((c32 (x1 + 1)) ∧ (I7 (x1 + 1) E12 ∧ u7 (x1 + 1) E12 < u7 x1 D)))))) ∧ (¬ ((x1 % 2) = 0) → ((0 ≤ x1) ∧ ((0 ≤ (x1 / 2) ∧ (x1 / 2) < 12) ∧ (∀ (E17 : HP), E17 = (hu D 61 ((x1 / 2)).toNat (fX6_figureAt D 1 x1 0 9)) → ((c32 (x1 + 1)) ∧ (I7 (x1 + 1) E17 ∧ u7 (x1 + 1) E17 < u7 x1 D))))))))))) ∧ (¬ ((x1 % 2) = 0) → (((fX6_figureAt D 1 x1 0 9) = (-1) → (Q (some (vI x1)) D)) ∧ (¬ ((fX6_figureAt D 1 x1 0 9) = (-1)) → ((0 ≤ x1) ∧ (((x1 % 2) = 0 → ((0 ≤ x1) ∧ ((0 ≤ (x1 / 2) ∧ (x1 / 2) < 12) ∧ (∀ (E25 : HP), E25 = (hu D 60 ((x1 / 2)).toNat (fX6_wayOf D (fX6_byteAt D 1 x1))) → ((c32 (x1 + 1)) ∧ (I7 (x1 + 1) E25 ∧ u7 (x1 + 1) E25 < u7 x1 D)))))) ∧ (¬ ((x1 % 2) = 0) → ((0 ≤ x1) ∧ ((0 ≤ (x1 / 2) ∧ (x1 / 2) < 12) ∧ (∀ (E30 : HP), E30 = (hu D 61 ((x1 / 2)).toNat (fX6_figureAt D 1 x1 0 9)) → ((c32 (x1 + 1)) ∧ (I7 (x1 + 1) E30 ∧ u7 (x1 + 1) E30 < u7 x1 D))))))))))))))))))
    : CT mX6_readsGusts [vR 56] D Q := by
  refine CT.of 3 (by decide) (Nat.le_of_ble_eq_true rfl) ?_
  show WP mX6_readsGusts Q 0 [vR 56, vU, vU, vU] [] D
  have IH : ∀ n : Nat, (∀ (x1 : Int) (D : HP), I7 x1 D → u7 x1 D * 1 + 0 < n → WP mX6_readsGusts Q 7 [vR 56, vI x1, vU, vU] [] D) := by
    intro n
    induction n with
    | zero => exact fun _ _ _ h => absurd h (Nat.not_lt_zero _)
    | succ n ih =>
      have ih7_ := ih
      · intro x1 D hI hn
        refine WP_cD (fun hcD => ?_)
        refine WP_cl (fun hcl => ?_)
        have h := h7 x1 D hI hcD (cVs_g hcl (i := 1) (v := vI x1) rfl)
        refine WP_iload_n (z := x1) dX6_readsGusts_7 rfl ?_
        refine WP_aload_n (z := 56) dX6_readsGusts_8 rfl ?_
        refine WP_getR (z := 57) dX6_readsGusts_9 fl_RX6_7 rfl rfl rfl ?_
        refine WP_iconst (z := 1) dX6_readsGusts_12 rfl ⟨by decide, by decide⟩ ?_
        refine WP_iald dX6_readsGusts_13 rfl (by decide) (by decide) rfl ?_
        refine WP_icmp_ge (tgt := 91) dX6_readsGusts_14 (by decide) (fun c3 => ?_) (fun c3 => ?_)
        · replace h := h.1 c3
          refine WP_aload_n (z := 56) dX6_readsGusts_91 rfl ?_
          refine WP_getR (z := 57) dX6_readsGusts_92 fl_RX6_7 rfl rfl rfl ?_
          refine WP_iconst (z := 1) dX6_readsGusts_95 rfl ⟨by decide, by decide⟩ ?_
          refine WP_iald dX6_readsGusts_96 rfl (by decide) (by decide) rfl ?_
          refine WP_iconst (z := 2) dX6_readsGusts_97 rfl ⟨by decide, by decide⟩ ?_
          obtain ⟨o8, h⟩ := h
          refine WP_irem dX6_readsGusts_98 o8 (by decide) rfl ?_
          refine WP_iconst (z := 1) dX6_readsGusts_99 rfl ⟨by decide, by decide⟩ ?_
          refine WP_icmp_ne (tgt := 110) dX6_readsGusts_100 (by decide) (fun c4 => ?_) (fun c4 => ?_)
          · replace h := h.2 c4
            refine WP_aload_n (z := 56) dX6_readsGusts_110 rfl ?_
            refine WP_aload_n (z := 56) dX6_readsGusts_111 rfl ?_
            refine WP_getR (z := 57) dX6_readsGusts_112 fl_RX6_7 rfl rfl rfl ?_
            refine WP_iconst (z := 1) dX6_readsGusts_115 rfl ⟨by decide, by decide⟩ ?_
            refine WP_iald dX6_readsGusts_116 rfl (by decide) (by decide) rfl ?_
            refine WP_iconst (z := 2) dX6_readsGusts_117 rfl ⟨by decide, by decide⟩ ?_
            obtain ⟨o7, h⟩ := h
            refine WP_idiv dX6_readsGusts_118 o7 (by decide) rfl ?_
            refine WP_putI dX6_readsGusts_119 fp_RX6_101 rfl rfl ?_
            obtain ⟨E5, hE6⟩ : ∃ E5 : HP, E5 = (hu D 56 5 ((D 57 1) / 2)) := ⟨_, rfl⟩
            replace h := h E5 hE6
            show WP mX6_readsGusts Q 122 [vR 56, vI x1, vU, vU] [] (hu D 56 5 ((D 57 1) / 2))
            rw [← hE6]
            refine WP_iconst (z := (-1)) dX6_readsGusts_122 rfl ⟨by decide, by decide⟩ ?_
            exact WP_ireturn dX6_readsGusts_123 rfl h
          · replace h := h.1 c4
            refine WP_aload_n (z := 56) dX6_readsGusts_103 rfl ?_
            refine WP_getR (z := 57) dX6_readsGusts_104 fl_RX6_7 rfl rfl rfl ?_
            refine WP_iconst (z := 1) dX6_readsGusts_107 rfl ⟨by decide, by decide⟩ ?_
            refine WP_iald dX6_readsGusts_108 rfl (by decide) (by decide) rfl ?_
            exact WP_ireturn dX6_readsGusts_109 rfl h
        · replace h := h.2 c3
          refine WP_aload_n (z := 56) dX6_readsGusts_17 rfl ?_
          refine WP_iconst (z := 1) dX6_readsGusts_18 rfl ⟨by decide, by decide⟩ ?_
          refine WP_iload_n (z := x1) dX6_readsGusts_19 rfl ?_
          obtain ⟨o38, h⟩ := h
          refine WP_pcallV (g := mX6_byteAt) (as := [vI 1, vI x1]) (rest := []) (n := 2) (r := vI (fX6_byteAt D 1 x1)) dX6_readsGusts_20 wm_304 mo_X6_byteAt rfl rfl rfl rfl ⟨Nat.le_of_ble_eq_true rfl, Nat.le_of_ble_eq_true rfl⟩ (Nat.le_of_ble_eq_true rfl) (P_X6_byteAt  o38) ?_
          refine WP_pcallS (g := mX6_wayOf) (as := [vI (fX6_byteAt D 1 x1)]) (rest := []) (n := 1) (r := vI (fX6_wayOf D (fX6_byteAt D 1 x1))) dX6_readsGusts_23 wm_313 mo_X6_wayOf rfl rfl ⟨Nat.le_of_ble_eq_true rfl, Nat.le_of_ble_eq_true rfl⟩ (Nat.le_of_ble_eq_true rfl) (P_X6_wayOf  trivial) ?_
          refine WP_istore_n (ls1 := [vR 56, vI x1, vI (fX6_wayOf D (fX6_byteAt D 1 x1)), vU]) dX6_readsGusts_26 (by decide) rfl ?_
          refine WP_aload_n (z := 56) dX6_readsGusts_27 rfl ?_
          refine WP_iconst (z := 1) dX6_readsGusts_28 rfl ⟨by decide, by decide⟩ ?_
          refine WP_iload_n (z := x1) dX6_readsGusts_29 rfl ?_
          refine WP_iconst (z := 0) dX6_readsGusts_30 rfl ⟨by decide, by decide⟩ ?_
          refine WP_bipush (z := 9) dX6_readsGusts_31 rfl (by decide) ?_
          obtain ⟨o37, h⟩ := h
          refine WP_pcallV (g := mX6_figureAt) (as := [vI 1, vI x1, vI 0, vI 9]) (rest := []) (n := 4) (r := vI (fX6_figureAt D 1 x1 0 9)) dX6_readsGusts_33 wm_316 mo_X6_figureAt rfl rfl rfl rfl ⟨Nat.le_of_ble_eq_true rfl, Nat.le_of_ble_eq_true rfl⟩ (Nat.le_of_ble_eq_true rfl) (P_X6_figureAt  o37) ?_
          refine WP_istore_n (ls1 := [vR 56, vI x1, vI (fX6_wayOf D (fX6_byteAt D 1 x1)), vI (fX6_figureAt D 1 x1 0 9)]) dX6_readsGusts_36 (by decide) rfl ?_
          refine WP_iload_n (z := x1) dX6_readsGusts_37 rfl ?_
          refine WP_iconst (z := 2) dX6_readsGusts_38 rfl ⟨by decide, by decide⟩ ?_
          obtain ⟨o36, h⟩ := h
          refine WP_irem dX6_readsGusts_39 o36 (by decide) rfl ?_
          refine WP_if_ne (tgt := 51) dX6_readsGusts_40 (by decide) (fun c9 => ?_) (fun c9 => ?_)
          · replace h := h.2 c9
            refine WP_iload_n (z := (fX6_figureAt D 1 x1 0 9)) dX6_readsGusts_51 rfl ?_
            refine WP_iconst (z := (-1)) dX6_readsGusts_52 rfl ⟨by decide, by decide⟩ ?_
            refine WP_icmp_ne (tgt := 58) dX6_readsGusts_53 (by decide) (fun c23 => ?_) (fun c23 => ?_)
            · replace h := h.2 c23
              refine WP_iload_n (z := x1) dX6_readsGusts_58 rfl ?_
              refine WP_iconst (z := 2) dX6_readsGusts_59 rfl ⟨by decide, by decide⟩ ?_
              obtain ⟨o35, h⟩ := h
              refine WP_irem dX6_readsGusts_60 o35 (by decide) rfl ?_
              refine WP_if_ne (tgt := 76) dX6_readsGusts_61 (by decide) (fun c24 => ?_) (fun c24 => ?_)
              · replace h := h.2 c24
                refine WP_aload_n (z := 56) dX6_readsGusts_76 rfl ?_
                refine WP_getR (z := 61) dX6_readsGusts_77 fl_RX6_23 rfl rfl rfl ?_
                refine WP_iload_n (z := x1) dX6_readsGusts_80 rfl ?_
                refine WP_iconst (z := 2) dX6_readsGusts_81 rfl ⟨by decide, by decide⟩ ?_
                obtain ⟨o34, h⟩ := h
                refine WP_idiv dX6_readsGusts_82 o34 (by decide) rfl ?_
                refine WP_iload_n (z := (fX6_figureAt D 1 x1 0 9)) dX6_readsGusts_83 rfl ?_
                obtain ⟨o33, h⟩ := h
                refine WP_iast dX6_readsGusts_84 rfl o33.1 o33.2 ?_
                obtain ⟨E30, hE31⟩ : ∃ E30 : HP, E30 = (hu D 61 ((x1 / 2)).toNat (fX6_figureAt D 1 x1 0 9)) := ⟨_, rfl⟩
                replace h := h E30 hE31
                show WP mX6_readsGusts Q 85 [vR 56, vI x1, vI (fX6_wayOf D (fX6_byteAt D 1 x1)), vI (fX6_figureAt D 1 x1 0 9)] [] (hu D 61 ((x1 / 2)).toNat (fX6_figureAt D 1 x1 0 9))
                rw [← hE31]
                obtain ⟨o32, h⟩ := h
                refine WP_iinc (z := (x1 + 1)) (ls1 := [vR 56, vI (x1 + 1), vI (fX6_wayOf D (fX6_byteAt D 1 x1)), vI (fX6_figureAt D 1 x1 0 9)]) dX6_readsGusts_85 rfl (w32_id o32) (by decide) rfl ?_
                refine WP_goto (tgt := 7) dX6_readsGusts_88 (by decide) ?_
                refine WP_fg 2 (ls1 := [vR 56, vI (x1 + 1), vU, vI (fX6_figureAt D 1 x1 0 9)]) rfl ?_
                refine WP_fg 3 (ls1 := [vR 56, vI (x1 + 1), vU, vU]) rfl ?_
                exact ih7_ _ _ h.1 (by have := h.2; omega)
              · replace h := h.1 c24
                refine WP_aload_n (z := 56) dX6_readsGusts_64 rfl ?_
                refine WP_getR (z := 60) dX6_readsGusts_65 fl_RX6_20 rfl rfl rfl ?_
                refine WP_iload_n (z := x1) dX6_readsGusts_68 rfl ?_
                refine WP_iconst (z := 2) dX6_readsGusts_69 rfl ⟨by decide, by decide⟩ ?_
                obtain ⟨o29, h⟩ := h
                refine WP_idiv dX6_readsGusts_70 o29 (by decide) rfl ?_
                refine WP_iload_n (z := (fX6_wayOf D (fX6_byteAt D 1 x1))) dX6_readsGusts_71 rfl ?_
                obtain ⟨o28, h⟩ := h
                refine WP_iast dX6_readsGusts_72 rfl o28.1 o28.2 ?_
                obtain ⟨E25, hE26⟩ : ∃ E25 : HP, E25 = (hu D 60 ((x1 / 2)).toNat (fX6_wayOf D (fX6_byteAt D 1 x1))) := ⟨_, rfl⟩
                replace h := h E25 hE26
                show WP mX6_readsGusts Q 73 [vR 56, vI x1, vI (fX6_wayOf D (fX6_byteAt D 1 x1)), vI (fX6_figureAt D 1 x1 0 9)] [] (hu D 60 ((x1 / 2)).toNat (fX6_wayOf D (fX6_byteAt D 1 x1)))
                rw [← hE26]
                refine WP_goto (tgt := 85) dX6_readsGusts_73 (by decide) ?_
                obtain ⟨o27, h⟩ := h
                refine WP_iinc (z := (x1 + 1)) (ls1 := [vR 56, vI (x1 + 1), vI (fX6_wayOf D (fX6_byteAt D 1 x1)), vI (fX6_figureAt D 1 x1 0 9)]) dX6_readsGusts_85 rfl (w32_id o27) (by decide) rfl ?_
                refine WP_goto (tgt := 7) dX6_readsGusts_88 (by decide) ?_
                refine WP_fg 2 (ls1 := [vR 56, vI (x1 + 1), vU, vI (fX6_figureAt D 1 x1 0 9)]) rfl ?_
                refine WP_fg 3 (ls1 := [vR 56, vI (x1 + 1), vU, vU]) rfl ?_
                exact ih7_ _ _ h.1 (by have := h.2; omega)
            · replace h := h.1 c23
              refine WP_iload_n (z := x1) dX6_readsGusts_56 rfl ?_
              exact WP_ireturn dX6_readsGusts_57 rfl h
          · replace h := h.1 c9
            refine WP_iload_n (z := (fX6_wayOf D (fX6_byteAt D 1 x1))) dX6_readsGusts_43 rfl ?_
            refine WP_iconst (z := (-1)) dX6_readsGusts_44 rfl ⟨by decide, by decide⟩ ?_
            refine WP_icmp_ne (tgt := 58) dX6_readsGusts_45 (by decide) (fun c10 => ?_) (fun c10 => ?_)
            · replace h := h.2 c10
              refine WP_iload_n (z := x1) dX6_readsGusts_58 rfl ?_
              refine WP_iconst (z := 2) dX6_readsGusts_59 rfl ⟨by decide, by decide⟩ ?_
              obtain ⟨o22, h⟩ := h
              refine WP_irem dX6_readsGusts_60 o22 (by decide) rfl ?_
              refine WP_if_ne (tgt := 76) dX6_readsGusts_61 (by decide) (fun c11 => ?_) (fun c11 => ?_)
              · replace h := h.2 c11
                refine WP_aload_n (z := 56) dX6_readsGusts_76 rfl ?_
                refine WP_getR (z := 61) dX6_readsGusts_77 fl_RX6_23 rfl rfl rfl ?_
                refine WP_iload_n (z := x1) dX6_readsGusts_80 rfl ?_
                refine WP_iconst (z := 2) dX6_readsGusts_81 rfl ⟨by decide, by decide⟩ ?_
                obtain ⟨o21, h⟩ := h
                refine WP_idiv dX6_readsGusts_82 o21 (by decide) rfl ?_
                refine WP_iload_n (z := (fX6_figureAt D 1 x1 0 9)) dX6_readsGusts_83 rfl ?_
                obtain ⟨o20, h⟩ := h
                refine WP_iast dX6_readsGusts_84 rfl o20.1 o20.2 ?_
                obtain ⟨E17, hE18⟩ : ∃ E17 : HP, E17 = (hu D 61 ((x1 / 2)).toNat (fX6_figureAt D 1 x1 0 9)) := ⟨_, rfl⟩
                replace h := h E17 hE18
                show WP mX6_readsGusts Q 85 [vR 56, vI x1, vI (fX6_wayOf D (fX6_byteAt D 1 x1)), vI (fX6_figureAt D 1 x1 0 9)] [] (hu D 61 ((x1 / 2)).toNat (fX6_figureAt D 1 x1 0 9))
                rw [← hE18]
                obtain ⟨o19, h⟩ := h
                refine WP_iinc (z := (x1 + 1)) (ls1 := [vR 56, vI (x1 + 1), vI (fX6_wayOf D (fX6_byteAt D 1 x1)), vI (fX6_figureAt D 1 x1 0 9)]) dX6_readsGusts_85 rfl (w32_id o19) (by decide) rfl ?_
                refine WP_goto (tgt := 7) dX6_readsGusts_88 (by decide) ?_
                refine WP_fg 2 (ls1 := [vR 56, vI (x1 + 1), vU, vI (fX6_figureAt D 1 x1 0 9)]) rfl ?_
                refine WP_fg 3 (ls1 := [vR 56, vI (x1 + 1), vU, vU]) rfl ?_
                exact ih7_ _ _ h.1 (by have := h.2; omega)
              · replace h := h.1 c11
                refine WP_aload_n (z := 56) dX6_readsGusts_64 rfl ?_
                refine WP_getR (z := 60) dX6_readsGusts_65 fl_RX6_20 rfl rfl rfl ?_
                refine WP_iload_n (z := x1) dX6_readsGusts_68 rfl ?_
                refine WP_iconst (z := 2) dX6_readsGusts_69 rfl ⟨by decide, by decide⟩ ?_
                obtain ⟨o16, h⟩ := h
                refine WP_idiv dX6_readsGusts_70 o16 (by decide) rfl ?_
                refine WP_iload_n (z := (fX6_wayOf D (fX6_byteAt D 1 x1))) dX6_readsGusts_71 rfl ?_
                obtain ⟨o15, h⟩ := h
                refine WP_iast dX6_readsGusts_72 rfl o15.1 o15.2 ?_
                obtain ⟨E12, hE13⟩ : ∃ E12 : HP, E12 = (hu D 60 ((x1 / 2)).toNat (fX6_wayOf D (fX6_byteAt D 1 x1))) := ⟨_, rfl⟩
                replace h := h E12 hE13
                show WP mX6_readsGusts Q 73 [vR 56, vI x1, vI (fX6_wayOf D (fX6_byteAt D 1 x1)), vI (fX6_figureAt D 1 x1 0 9)] [] (hu D 60 ((x1 / 2)).toNat (fX6_wayOf D (fX6_byteAt D 1 x1)))
                rw [← hE13]
                refine WP_goto (tgt := 85) dX6_readsGusts_73 (by decide) ?_
                obtain ⟨o14, h⟩ := h
                refine WP_iinc (z := (x1 + 1)) (ls1 := [vR 56, vI (x1 + 1), vI (fX6_wayOf D (fX6_byteAt D 1 x1)), vI (fX6_figureAt D 1 x1 0 9)]) dX6_readsGusts_85 rfl (w32_id o14) (by decide) rfl ?_
                refine WP_goto (tgt := 7) dX6_readsGusts_88 (by decide) ?_
                refine WP_fg 2 (ls1 := [vR 56, vI (x1 + 1), vU, vI (fX6_figureAt D 1 x1 0 9)]) rfl ?_
                refine WP_fg 3 (ls1 := [vR 56, vI (x1 + 1), vU, vU]) rfl ?_
                exact ih7_ _ _ h.1 (by have := h.2; omega)
            · replace h := h.1 c10
              refine WP_goto (tgt := 56) dX6_readsGusts_48 (by decide) ?_
              refine WP_iload_n (z := x1) dX6_readsGusts_56 rfl ?_
              exact WP_ireturn dX6_readsGusts_57 rfl h
  have cut7_ : ∀ (x1 : Int) (D : HP), I7 x1 D → WP mX6_readsGusts Q 7 [vR 56, vI x1, vU, vU] [] D := fun x1 D hI => (IH (u7 x1 D * 1 + 0 + 1)) x1 D hI (by omega)
  refine WP_cD (fun hcD => ?_)
  have h := h0 hcD
  refine WP_aload_n (z := 56) dX6_readsGusts_0 rfl ?_
  refine WP_iconst (z := 0) dX6_readsGusts_1 rfl ⟨by decide, by decide⟩ ?_
  refine WP_putI dX6_readsGusts_2 fp_RX6_101 rfl rfl ?_
  obtain ⟨E1, hE2⟩ : ∃ E1 : HP, E1 = (hu D 56 5 0) := ⟨_, rfl⟩
  replace h := h E1 hE2
  show WP mX6_readsGusts Q 5 [vR 56, vU, vU, vU] [] (hu D 56 5 0)
  rw [← hE2]
  refine WP_iconst (z := 0) dX6_readsGusts_5 rfl ⟨by decide, by decide⟩ ?_
  refine WP_istore_n (ls1 := [vR 56, vI 0, vU, vU]) dX6_readsGusts_6 (by decide) rfl ?_
  exact cut7_ _ _ h
set_option maxRecDepth 100000 in
set_option maxHeartbeats 4000000 in
theorem V_X6_readsCandidate (a : Int) (b : Int) {D : HP} {Q : Option MV → HP → Prop}
    (h0 : cD D → c32 a → c32 b → ((oX6_figureAt D 2 b 0 2) ∧ ((c32 (b + 1)) ∧ ((oX6_figureAt D 2 (b + 1) 0 9) ∧ ((c32 (b + 2)) ∧ ((oX6_figureAt D 2 (b + 2) 1 9) ∧ ((c32 (b + 3)) ∧ ((oX6_byteAt D 2 (b + 3)) ∧ (∀ (v1 : Int), v1 = (if (fX6_byteAt D 2 (b + 3)) = 104 then (0 : Int) else (if (fX6_byteAt D 2 (b + 3)) = 111 then (1 : Int) else (if (fX6_byteAt D 2 (b + 3)) = 120 then (2 : Int) else (-1)))) → (((fX6_figureAt D 2 b 0 2) = (-1) → (Q (some (vI 0)) D)) ∧ (¬ ((fX6_figureAt D 2 b 0 2) = (-1)) → (((fX6_figureAt D 2 (b + 1) 0 9) = (-1) → (Q (some (vI 1)) D)) ∧ (¬ ((fX6_figureAt D 2 (b + 1) 0 9) = (-1)) → (((fX6_figureAt D 2 (b + 2) 1 9) = (-1) → (Q (some (vI 2)) D)) ∧ (¬ ((fX6_figureAt D 2 (b + 2) 1 9) = (-1)) → ((v1 = (-1) → (Q (some (vI 3)) D)) ∧ (¬ (v1 = (-1)) → ((c32 (10 * (fX6_figureAt D 2 b 0 2))) ∧ ((c32 ((10 * (fX6_figureAt D 2 b 0 2)) + (fX6_figureAt D 2 (b + 1) 0 9))) ∧ ((0 ≤ a ∧ a < 9) ∧ (∀ (E7 : HP), E7 = (hu D 62 a.toNat ((10 * (fX6_figureAt D 2 b 0 2)) + (fX6_figureAt D 2 (b + 1) 0 9))) → ((0 ≤ a ∧ a < 9) ∧ (∀ (E9 : HP), E9 = (hu E7 63 a.toNat (fX6_figureAt D 2 (b + 2) 1 9)) → ((0 ≤ a ∧ a < 9) ∧ (∀ (E11 : HP), E11 = (hu E9 64 a.toNat v1) → (Q (some (vI 4)) E11))))))))))))))))))))))))))
    : CT mX6_readsCandidate [vR 56, vI a, vI b] D Q := by
  refine CT.of 5 (by decide) (Nat.le_of_ble_eq_true rfl) ?_
  show WP mX6_readsCandidate Q 0 [vR 56, vI a, vI b, vU, vU, vU, vU, vU] [] D
  refine WP_cD (fun hcD => ?_)
  refine WP_cl (fun hcl => ?_)
  have h := h0 hcD (cVs_g hcl (i := 1) (v := vI a) rfl) (cVs_g hcl (i := 2) (v := vI b) rfl)
  refine WP_aload_n (z := 56) dX6_readsCandidate_0 rfl ?_
  refine WP_iconst (z := 2) dX6_readsCandidate_1 rfl ⟨by decide, by decide⟩ ?_
  refine WP_iload_n (z := b) dX6_readsCandidate_2 rfl ?_
  refine WP_iconst (z := 0) dX6_readsCandidate_3 rfl ⟨by decide, by decide⟩ ?_
  refine WP_iconst (z := 2) dX6_readsCandidate_4 rfl ⟨by decide, by decide⟩ ?_
  obtain ⟨o30, h⟩ := h
  refine WP_pcallV (g := mX6_figureAt) (as := [vI 2, vI b, vI 0, vI 2]) (rest := []) (n := 4) (r := vI (fX6_figureAt D 2 b 0 2)) dX6_readsCandidate_5 wm_316 mo_X6_figureAt rfl rfl rfl rfl ⟨Nat.le_of_ble_eq_true rfl, Nat.le_of_ble_eq_true rfl⟩ (Nat.le_of_ble_eq_true rfl) (P_X6_figureAt  o30) ?_
  refine WP_istore_n (ls1 := [vR 56, vI a, vI b, vI (fX6_figureAt D 2 b 0 2), vU, vU, vU, vU]) dX6_readsCandidate_8 (by decide) rfl ?_
  refine WP_aload_n (z := 56) dX6_readsCandidate_9 rfl ?_
  refine WP_iconst (z := 2) dX6_readsCandidate_10 rfl ⟨by decide, by decide⟩ ?_
  refine WP_iload_n (z := b) dX6_readsCandidate_11 rfl ?_
  refine WP_iconst (z := 1) dX6_readsCandidate_12 rfl ⟨by decide, by decide⟩ ?_
  obtain ⟨o29, h⟩ := h
  refine WP_iadd (z := (b + 1)) dX6_readsCandidate_13 (w32_id o29) ?_
  refine WP_iconst (z := 0) dX6_readsCandidate_14 rfl ⟨by decide, by decide⟩ ?_
  refine WP_bipush (z := 9) dX6_readsCandidate_15 rfl (by decide) ?_
  obtain ⟨o28, h⟩ := h
  refine WP_pcallV (g := mX6_figureAt) (as := [vI 2, vI (b + 1), vI 0, vI 9]) (rest := []) (n := 4) (r := vI (fX6_figureAt D 2 (b + 1) 0 9)) dX6_readsCandidate_17 wm_316 mo_X6_figureAt rfl rfl rfl rfl ⟨Nat.le_of_ble_eq_true rfl, Nat.le_of_ble_eq_true rfl⟩ (Nat.le_of_ble_eq_true rfl) (P_X6_figureAt  o28) ?_
  refine WP_istore (ls1 := [vR 56, vI a, vI b, vI (fX6_figureAt D 2 b 0 2), vI (fX6_figureAt D 2 (b + 1) 0 9), vU, vU, vU]) dX6_readsCandidate_20 (by decide) rfl ?_
  refine WP_aload_n (z := 56) dX6_readsCandidate_22 rfl ?_
  refine WP_iconst (z := 2) dX6_readsCandidate_23 rfl ⟨by decide, by decide⟩ ?_
  refine WP_iload_n (z := b) dX6_readsCandidate_24 rfl ?_
  refine WP_iconst (z := 2) dX6_readsCandidate_25 rfl ⟨by decide, by decide⟩ ?_
  obtain ⟨o27, h⟩ := h
  refine WP_iadd (z := (b + 2)) dX6_readsCandidate_26 (w32_id o27) ?_
  refine WP_iconst (z := 1) dX6_readsCandidate_27 rfl ⟨by decide, by decide⟩ ?_
  refine WP_bipush (z := 9) dX6_readsCandidate_28 rfl (by decide) ?_
  obtain ⟨o26, h⟩ := h
  refine WP_pcallV (g := mX6_figureAt) (as := [vI 2, vI (b + 2), vI 1, vI 9]) (rest := []) (n := 4) (r := vI (fX6_figureAt D 2 (b + 2) 1 9)) dX6_readsCandidate_30 wm_316 mo_X6_figureAt rfl rfl rfl rfl ⟨Nat.le_of_ble_eq_true rfl, Nat.le_of_ble_eq_true rfl⟩ (Nat.le_of_ble_eq_true rfl) (P_X6_figureAt  o26) ?_
  refine WP_istore (ls1 := [vR 56, vI a, vI b, vI (fX6_figureAt D 2 b 0 2), vI (fX6_figureAt D 2 (b + 1) 0 9), vI (fX6_figureAt D 2 (b + 2) 1 9), vU, vU]) dX6_readsCandidate_33 (by decide) rfl ?_
  refine WP_aload_n (z := 56) dX6_readsCandidate_35 rfl ?_
  refine WP_iconst (z := 2) dX6_readsCandidate_36 rfl ⟨by decide, by decide⟩ ?_
  refine WP_iload_n (z := b) dX6_readsCandidate_37 rfl ?_
  refine WP_iconst (z := 3) dX6_readsCandidate_38 rfl ⟨by decide, by decide⟩ ?_
  obtain ⟨o25, h⟩ := h
  refine WP_iadd (z := (b + 3)) dX6_readsCandidate_39 (w32_id o25) ?_
  obtain ⟨o24, h⟩ := h
  refine WP_pcallV (g := mX6_byteAt) (as := [vI 2, vI (b + 3)]) (rest := []) (n := 2) (r := vI (fX6_byteAt D 2 (b + 3))) dX6_readsCandidate_40 wm_304 mo_X6_byteAt rfl rfl rfl rfl ⟨Nat.le_of_ble_eq_true rfl, Nat.le_of_ble_eq_true rfl⟩ (Nat.le_of_ble_eq_true rfl) (P_X6_byteAt  o24) ?_
  refine WP_istore (ls1 := [vR 56, vI a, vI b, vI (fX6_figureAt D 2 b 0 2), vI (fX6_figureAt D 2 (b + 1) 0 9), vI (fX6_figureAt D 2 (b + 2) 1 9), vI (fX6_byteAt D 2 (b + 3)), vU]) dX6_readsCandidate_43 (by decide) rfl ?_
  refine WP_iload (z := (fX6_byteAt D 2 (b + 3))) dX6_readsCandidate_45 rfl ?_
  refine WP_bipush (z := 104) dX6_readsCandidate_47 rfl (by decide) ?_
  refine WP_via (pc1 := 79) (ls1 := [vR 56, vI a, vI b, vI (fX6_figureAt D 2 b 0 2), vI (fX6_figureAt D 2 (b + 1) 0 9), vI (fX6_figureAt D 2 (b + 2) 1 9), vI (fX6_byteAt D 2 (b + 3)), vU]) (st1 := [vI (if (fX6_byteAt D 2 (b + 3)) = 104 then (0 : Int) else (if (fX6_byteAt D 2 (b + 3)) = 111 then (1 : Int) else (if (fX6_byteAt D 2 (b + 3)) = 120 then (2 : Int) else (-1))))]) (D1 := D) (fun hJ18 => ?_) ?_
  · refine WP_icmp_ne (tgt := 56) dX6_readsCandidate_49 (by decide) (fun c19 => ?_) (fun c19 => ?_)
    · replace hJ18 := ite_f (P := fun v_ : Int => WP mX6_readsCandidate Q 79 [vR 56, vI a, vI b, vI (fX6_figureAt D 2 b 0 2), vI (fX6_figureAt D 2 (b + 1) 0 9), vI (fX6_figureAt D 2 (b + 2) 1 9), vI (fX6_byteAt D 2 (b + 3)), vU] [vI v_] D) hJ18 c19
      refine WP_iload (z := (fX6_byteAt D 2 (b + 3))) dX6_readsCandidate_56 rfl ?_
      refine WP_bipush (z := 111) dX6_readsCandidate_58 rfl (by decide) ?_
      refine WP_via (pc1 := 79) (ls1 := [vR 56, vI a, vI b, vI (fX6_figureAt D 2 b 0 2), vI (fX6_figureAt D 2 (b + 1) 0 9), vI (fX6_figureAt D 2 (b + 2) 1 9), vI (fX6_byteAt D 2 (b + 3)), vU]) (st1 := [vI (if (fX6_byteAt D 2 (b + 3)) = 111 then (1 : Int) else (if (fX6_byteAt D 2 (b + 3)) = 120 then (2 : Int) else (-1)))]) (D1 := D) (fun hJ20 => ?_) ?_
      · refine WP_icmp_ne (tgt := 67) dX6_readsCandidate_60 (by decide) (fun c21 => ?_) (fun c21 => ?_)
        · replace hJ20 := ite_f (P := fun v_ : Int => WP mX6_readsCandidate Q 79 [vR 56, vI a, vI b, vI (fX6_figureAt D 2 b 0 2), vI (fX6_figureAt D 2 (b + 1) 0 9), vI (fX6_figureAt D 2 (b + 2) 1 9), vI (fX6_byteAt D 2 (b + 3)), vU] [vI v_] D) hJ20 c21
          refine WP_iload (z := (fX6_byteAt D 2 (b + 3))) dX6_readsCandidate_67 rfl ?_
          refine WP_bipush (z := 120) dX6_readsCandidate_69 rfl (by decide) ?_
          refine WP_via (pc1 := 79) (ls1 := [vR 56, vI a, vI b, vI (fX6_figureAt D 2 b 0 2), vI (fX6_figureAt D 2 (b + 1) 0 9), vI (fX6_figureAt D 2 (b + 2) 1 9), vI (fX6_byteAt D 2 (b + 3)), vU]) (st1 := [vI (if (fX6_byteAt D 2 (b + 3)) = 120 then (2 : Int) else (-1))]) (D1 := D) (fun hJ22 => ?_) ?_
          · refine WP_icmp_ne (tgt := 78) dX6_readsCandidate_71 (by decide) (fun c23 => ?_) (fun c23 => ?_)
            · replace hJ22 := ite_f (P := fun v_ : Int => WP mX6_readsCandidate Q 79 [vR 56, vI a, vI b, vI (fX6_figureAt D 2 b 0 2), vI (fX6_figureAt D 2 (b + 1) 0 9), vI (fX6_figureAt D 2 (b + 2) 1 9), vI (fX6_byteAt D 2 (b + 3)), vU] [vI v_] D) hJ22 c23
              refine WP_iconst (z := (-1)) dX6_readsCandidate_78 rfl ⟨by decide, by decide⟩ ?_
              exact hJ22
            · replace hJ22 := ite_t (P := fun v_ : Int => WP mX6_readsCandidate Q 79 [vR 56, vI a, vI b, vI (fX6_figureAt D 2 b 0 2), vI (fX6_figureAt D 2 (b + 1) 0 9), vI (fX6_figureAt D 2 (b + 2) 1 9), vI (fX6_byteAt D 2 (b + 3)), vU] [vI v_] D) hJ22 c23
              refine WP_iconst (z := 2) dX6_readsCandidate_74 rfl ⟨by decide, by decide⟩ ?_
              refine WP_goto (tgt := 79) dX6_readsCandidate_75 (by decide) ?_
              exact hJ22
          exact hJ20
        · replace hJ20 := ite_t (P := fun v_ : Int => WP mX6_readsCandidate Q 79 [vR 56, vI a, vI b, vI (fX6_figureAt D 2 b 0 2), vI (fX6_figureAt D 2 (b + 1) 0 9), vI (fX6_figureAt D 2 (b + 2) 1 9), vI (fX6_byteAt D 2 (b + 3)), vU] [vI v_] D) hJ20 c21
          refine WP_iconst (z := 1) dX6_readsCandidate_63 rfl ⟨by decide, by decide⟩ ?_
          refine WP_goto (tgt := 79) dX6_readsCandidate_64 (by decide) ?_
          exact hJ20
      exact hJ18
    · replace hJ18 := ite_t (P := fun v_ : Int => WP mX6_readsCandidate Q 79 [vR 56, vI a, vI b, vI (fX6_figureAt D 2 b 0 2), vI (fX6_figureAt D 2 (b + 1) 0 9), vI (fX6_figureAt D 2 (b + 2) 1 9), vI (fX6_byteAt D 2 (b + 3)), vU] [vI v_] D) hJ18 c19
      refine WP_iconst (z := 0) dX6_readsCandidate_52 rfl ⟨by decide, by decide⟩ ?_
      refine WP_goto (tgt := 79) dX6_readsCandidate_53 (by decide) ?_
      exact hJ18
  · refine WP_istore (ls1 := [vR 56, vI a, vI b, vI (fX6_figureAt D 2 b 0 2), vI (fX6_figureAt D 2 (b + 1) 0 9), vI (fX6_figureAt D 2 (b + 2) 1 9), vI (fX6_byteAt D 2 (b + 3)), vI (if (fX6_byteAt D 2 (b + 3)) = 104 then (0 : Int) else (if (fX6_byteAt D 2 (b + 3)) = 111 then (1 : Int) else (if (fX6_byteAt D 2 (b + 3)) = 120 then (2 : Int) else (-1))))]) dX6_readsCandidate_79 (by decide) rfl ?_
    obtain ⟨v1, hv2⟩ : ∃ v1 : Int, v1 = (if (fX6_byteAt D 2 (b + 3)) = 104 then (0 : Int) else (if (fX6_byteAt D 2 (b + 3)) = 111 then (1 : Int) else (if (fX6_byteAt D 2 (b + 3)) = 120 then (2 : Int) else (-1)))) := ⟨_, rfl⟩
    replace h := h v1 hv2
    rw [← hv2]
    refine WP_iload_n (z := (fX6_figureAt D 2 b 0 2)) dX6_readsCandidate_81 rfl ?_
    refine WP_iconst (z := (-1)) dX6_readsCandidate_82 rfl ⟨by decide, by decide⟩ ?_
    refine WP_icmp_ne (tgt := 88) dX6_readsCandidate_83 (by decide) (fun c3 => ?_) (fun c3 => ?_)
    · replace h := h.2 c3
      refine WP_iload (z := (fX6_figureAt D 2 (b + 1) 0 9)) dX6_readsCandidate_88 rfl ?_
      refine WP_iconst (z := (-1)) dX6_readsCandidate_90 rfl ⟨by decide, by decide⟩ ?_
      refine WP_icmp_ne (tgt := 96) dX6_readsCandidate_91 (by decide) (fun c4 => ?_) (fun c4 => ?_)
      · replace h := h.2 c4
        refine WP_iload (z := (fX6_figureAt D 2 (b + 2) 1 9)) dX6_readsCandidate_96 rfl ?_
        refine WP_iconst (z := (-1)) dX6_readsCandidate_98 rfl ⟨by decide, by decide⟩ ?_
        refine WP_icmp_ne (tgt := 104) dX6_readsCandidate_99 (by decide) (fun c5 => ?_) (fun c5 => ?_)
        · replace h := h.2 c5
          refine WP_iload (z := v1) dX6_readsCandidate_104 rfl ?_
          refine WP_iconst (z := (-1)) dX6_readsCandidate_106 rfl ⟨by decide, by decide⟩ ?_
          refine WP_icmp_ne (tgt := 112) dX6_readsCandidate_107 (by decide) (fun c6 => ?_) (fun c6 => ?_)
          · replace h := h.2 c6
            refine WP_aload_n (z := 56) dX6_readsCandidate_112 rfl ?_
            refine WP_getR (z := 62) dX6_readsCandidate_113 fl_RX6_26 rfl rfl rfl ?_
            refine WP_iload_n (z := a) dX6_readsCandidate_116 rfl ?_
            refine WP_bipush (z := 10) dX6_readsCandidate_117 rfl (by decide) ?_
            refine WP_iload_n (z := (fX6_figureAt D 2 b 0 2)) dX6_readsCandidate_119 rfl ?_
            obtain ⟨o17, h⟩ := h
            refine WP_imul (z := (10 * (fX6_figureAt D 2 b 0 2))) dX6_readsCandidate_120 (w32_id o17) ?_
            refine WP_iload (z := (fX6_figureAt D 2 (b + 1) 0 9)) dX6_readsCandidate_121 rfl ?_
            obtain ⟨o16, h⟩ := h
            refine WP_iadd (z := ((10 * (fX6_figureAt D 2 b 0 2)) + (fX6_figureAt D 2 (b + 1) 0 9))) dX6_readsCandidate_123 (w32_id o16) ?_
            obtain ⟨o15, h⟩ := h
            refine WP_iast dX6_readsCandidate_124 rfl o15.1 o15.2 ?_
            obtain ⟨E7, hE8⟩ : ∃ E7 : HP, E7 = (hu D 62 a.toNat ((10 * (fX6_figureAt D 2 b 0 2)) + (fX6_figureAt D 2 (b + 1) 0 9))) := ⟨_, rfl⟩
            replace h := h E7 hE8
            show WP mX6_readsCandidate Q 125 [vR 56, vI a, vI b, vI (fX6_figureAt D 2 b 0 2), vI (fX6_figureAt D 2 (b + 1) 0 9), vI (fX6_figureAt D 2 (b + 2) 1 9), vI (fX6_byteAt D 2 (b + 3)), vI v1] [] (hu D 62 a.toNat ((10 * (fX6_figureAt D 2 b 0 2)) + (fX6_figureAt D 2 (b + 1) 0 9)))
            rw [← hE8]
            refine WP_aload_n (z := 56) dX6_readsCandidate_125 rfl ?_
            refine WP_getR (z := 63) dX6_readsCandidate_126 fl_RX6_29 rfl rfl rfl ?_
            refine WP_iload_n (z := a) dX6_readsCandidate_129 rfl ?_
            refine WP_iload (z := (fX6_figureAt D 2 (b + 2) 1 9)) dX6_readsCandidate_130 rfl ?_
            obtain ⟨o14, h⟩ := h
            refine WP_iast dX6_readsCandidate_132 rfl o14.1 o14.2 ?_
            obtain ⟨E9, hE10⟩ : ∃ E9 : HP, E9 = (hu E7 63 a.toNat (fX6_figureAt D 2 (b + 2) 1 9)) := ⟨_, rfl⟩
            replace h := h E9 hE10
            show WP mX6_readsCandidate Q 133 [vR 56, vI a, vI b, vI (fX6_figureAt D 2 b 0 2), vI (fX6_figureAt D 2 (b + 1) 0 9), vI (fX6_figureAt D 2 (b + 2) 1 9), vI (fX6_byteAt D 2 (b + 3)), vI v1] [] (hu E7 63 a.toNat (fX6_figureAt D 2 (b + 2) 1 9))
            rw [← hE10]
            refine WP_aload_n (z := 56) dX6_readsCandidate_133 rfl ?_
            refine WP_getR (z := 64) dX6_readsCandidate_134 fl_RX6_32 rfl rfl rfl ?_
            refine WP_iload_n (z := a) dX6_readsCandidate_137 rfl ?_
            refine WP_iload (z := v1) dX6_readsCandidate_138 rfl ?_
            obtain ⟨o13, h⟩ := h
            refine WP_iast dX6_readsCandidate_140 rfl o13.1 o13.2 ?_
            obtain ⟨E11, hE12⟩ : ∃ E11 : HP, E11 = (hu E9 64 a.toNat v1) := ⟨_, rfl⟩
            replace h := h E11 hE12
            show WP mX6_readsCandidate Q 141 [vR 56, vI a, vI b, vI (fX6_figureAt D 2 b 0 2), vI (fX6_figureAt D 2 (b + 1) 0 9), vI (fX6_figureAt D 2 (b + 2) 1 9), vI (fX6_byteAt D 2 (b + 3)), vI v1] [] (hu E9 64 a.toNat v1)
            rw [← hE12]
            refine WP_iconst (z := 4) dX6_readsCandidate_141 rfl ⟨by decide, by decide⟩ ?_
            exact WP_ireturn dX6_readsCandidate_142 rfl h
          · replace h := h.1 c6
            refine WP_iconst (z := 3) dX6_readsCandidate_110 rfl ⟨by decide, by decide⟩ ?_
            exact WP_ireturn dX6_readsCandidate_111 rfl h
        · replace h := h.1 c5
          refine WP_iconst (z := 2) dX6_readsCandidate_102 rfl ⟨by decide, by decide⟩ ?_
          exact WP_ireturn dX6_readsCandidate_103 rfl h
      · replace h := h.1 c4
        refine WP_iconst (z := 1) dX6_readsCandidate_94 rfl ⟨by decide, by decide⟩ ?_
        exact WP_ireturn dX6_readsCandidate_95 rfl h
    · replace h := h.1 c3
      refine WP_iconst (z := 0) dX6_readsCandidate_86 rfl ⟨by decide, by decide⟩ ?_
      exact WP_ireturn dX6_readsCandidate_87 rfl h
set_option maxRecDepth 100000 in
set_option maxHeartbeats 4000000 in
theorem V_X6_readsCandidates  {D : HP} {Q : Option MV → HP → Prop} (I9 : Int → Int → HP → Prop) (u9 : Int → Int → HP → Nat)
    (h0 : cD D → (∀ (E1 : HP), E1 = (hu D 56 8 0) → (I9 0 0 E1)))
    (h9 : ∀ (x1 x2 : Int) (D : HP), I9 x1 x2 D → cD D → c32 x1 → c32 x2 → ((x2 < (D 57 2) → ((x1 = 8 → ((c32 (x2 + 0)) ∧ (Q (some (vI (x2 + 0))) D))) ∧ (¬ (x1 = 8) → (∃ Q7 : Option MV → HP → Prop, CT mX6_readsCandidate [vR 56, vI x1, vI x2] D Q7 ∧ ∀ (r11 : Int) (D10 : HP), Q7 (some (vI r11)) D10 → c32 r11 → cD D10 → ((4 ≤ r11 → ((c32 (x1 + 1)) ∧ ((c32 (x2 + 4)) ∧ (((x2 + 4) = (D10 57 2) → (∀ (E16 : HP), E16 = (hu D10 56 8 (x1 + 1)) → (Q (some (vI (-1))) E16))) ∧ (¬ ((x2 + 4) = (D10 57 2)) → ((oX6_byteAt D10 2 (x2 + 4)) ∧ (((fX6_byteAt D10 2 (x2 + 4)) = 59 → ((c32 ((x2 + 4) + 1)) ∧ (I9 (x1 + 1) ((x2 + 4) + 1) D10 ∧ u9 (x1 + 1) ((x2 + 4) + 1) D10 < u9 x1 x2 D))) ∧ (¬ ((fX6_byteAt D10 2 (x2 + 4)) = 59) → (Q (some (vI (x2 + 4))) D10))))))))) ∧ (¬ (4 ≤ r11) → ((c32 (x2 + r11)) ∧ (Q (some (vI (x2 + r11))) D10)))))))) ∧ (¬ (x2 < (D 57 2)) → ((x2 ≤ 0 → (Q (some (vI (-1))) D)) ∧ (¬ (x2 ≤ 0) → ((x1 = 8 → ((c32 (x2 + 0)) ∧ (Q (some (vI (x2 + 0))) D))) ∧ (¬ (x1 = 8) → (∃ Q28 : Option MV → HP → Prop, CT mX6_readsCandidate [vR 56, vI x1, vI x2] D Q28 ∧ ∀ (r32 : Int) (D31 : HP), Q28 (some (vI r32)) D31 → c32 r32 → cD D31 → ((4 ≤ r32 → ((c32 (x1 + 1)) ∧ ((c32 (x2 + 4)) ∧ (((x2 + 4) = (D31 57 2) → (∀ (E37 : HP), E37 = (hu D31 56 8 (x1 + 1)) → (Q (some (vI (-1))) E37))) ∧ (¬ ((x2 + 4) = (D31 57 2)) → ((oX6_byteAt D31 2 (x2 + 4)) ∧ (((fX6_byteAt D31 2 (x2 + 4)) = 59 → ((c32 ((x2 + 4) + 1)) ∧ (I9 (x1 + 1) ((x2 + 4) + 1) D31 ∧ u9 (x1 + 1) ((x2 + 4) + 1) D31 < u9 x1 x2 D))) ∧ (¬ ((fX6_byteAt D31 2 (x2 + 4)) = 59) → (Q (some (vI (x2 + 4))) D31))))))))) ∧ (¬ (4 ≤ r32) → ((c32 (x2 + r32)) ∧ (Q (some (vI (x2 + r32))) D31))))))))))))
    : CT mX6_readsCandidates [vR 56] D Q := by
  refine CT.of 3 (by decide) (Nat.le_of_ble_eq_true rfl) ?_
  show WP mX6_readsCandidates Q 0 [vR 56, vU, vU, vU] [] D
  have IH : ∀ n : Nat, (∀ (x1 x2 : Int) (D : HP), I9 x1 x2 D → u9 x1 x2 D * 1 + 0 < n → WP mX6_readsCandidates Q 9 [vR 56, vI x1, vI x2, vU] [] D) := by
    intro n
    induction n with
    | zero => exact fun _ _ _ _ h => absurd h (Nat.not_lt_zero _)
    | succ n ih =>
      have ih9_ := ih
      · intro x1 x2 D hI hn
        refine WP_cD (fun hcD => ?_)
        refine WP_cl (fun hcl => ?_)
        have h := h9 x1 x2 D hI hcD (cVs_g hcl (i := 1) (v := vI x1) rfl) (cVs_g hcl (i := 2) (v := vI x2) rfl)
        refine WP_iload_n (z := x2) dX6_readsCandidates_9 rfl ?_
        refine WP_aload_n (z := 56) dX6_readsCandidates_10 rfl ?_
        refine WP_getR (z := 57) dX6_readsCandidates_11 fl_RX6_7 rfl rfl rfl ?_
        refine WP_iconst (z := 2) dX6_readsCandidates_14 rfl ⟨by decide, by decide⟩ ?_
        refine WP_iald dX6_readsCandidates_15 rfl (by decide) (by decide) rfl ?_
        refine WP_icmp_lt (tgt := 23) dX6_readsCandidates_16 (by decide) (fun c3 => ?_) (fun c3 => ?_)
        · replace h := h.1 c3
          refine WP_iload_n (z := x1) dX6_readsCandidates_23 rfl ?_
          refine WP_bipush (z := 8) dX6_readsCandidates_24 rfl (by decide) ?_
          refine WP_icmp_ne (tgt := 33) dX6_readsCandidates_26 (by decide) (fun c4 => ?_) (fun c4 => ?_)
          · replace h := h.2 c4
            refine WP_aload_n (z := 56) dX6_readsCandidates_33 rfl ?_
            refine WP_iload_n (z := x1) dX6_readsCandidates_34 rfl ?_
            refine WP_iload_n (z := x2) dX6_readsCandidates_35 rfl ?_
            obtain ⟨Q7, ct9, h⟩ := h
            refine WP_callV (g := mX6_readsCandidate) (as := [vI x1, vI x2]) (rest := []) (n := 2) dX6_readsCandidates_36 wm_325 mo_X6_readsCandidate rfl rfl rfl rfl ⟨Nat.le_of_ble_eq_true rfl, Nat.le_of_ble_eq_true rfl⟩ (Nat.le_of_ble_eq_true rfl) ct9 (fun r_ D10 hq8 hok hD13 => ?_)
            obtain ⟨r11, rfl, hr12⟩ := hok
            replace h := h r11 D10 hq8 hr12 hD13
            show WP mX6_readsCandidates Q 39 [vR 56, vI x1, vI x2, vU] [vI r11] D10
            refine WP_istore_n (ls1 := [vR 56, vI x1, vI x2, vI r11]) dX6_readsCandidates_39 (by decide) rfl ?_
            refine WP_iload_n (z := r11) dX6_readsCandidates_40 rfl ?_
            refine WP_iconst (z := 4) dX6_readsCandidates_41 rfl ⟨by decide, by decide⟩ ?_
            refine WP_icmp_ge (tgt := 49) dX6_readsCandidates_42 (by decide) (fun c14 => ?_) (fun c14 => ?_)
            · replace h := h.1 c14
              obtain ⟨o22, h⟩ := h
              refine WP_iinc (z := (x1 + 1)) (ls1 := [vR 56, vI (x1 + 1), vI x2, vI r11]) dX6_readsCandidates_49 rfl (w32_id o22) (by decide) rfl ?_
              obtain ⟨o21, h⟩ := h
              refine WP_iinc (z := (x2 + 4)) (ls1 := [vR 56, vI (x1 + 1), vI (x2 + 4), vI r11]) dX6_readsCandidates_52 rfl (w32_id o21) (by decide) rfl ?_
              refine WP_iload_n (z := (x2 + 4)) dX6_readsCandidates_55 rfl ?_
              refine WP_aload_n (z := 56) dX6_readsCandidates_56 rfl ?_
              refine WP_getR (z := 57) dX6_readsCandidates_57 fl_RX6_7 rfl rfl rfl ?_
              refine WP_iconst (z := 2) dX6_readsCandidates_60 rfl ⟨by decide, by decide⟩ ?_
              refine WP_iald dX6_readsCandidates_61 rfl (by decide) (by decide) rfl ?_
              refine WP_icmp_ne (tgt := 72) dX6_readsCandidates_62 (by decide) (fun c15 => ?_) (fun c15 => ?_)
              · replace h := h.2 c15
                refine WP_aload_n (z := 56) dX6_readsCandidates_72 rfl ?_
                refine WP_iconst (z := 2) dX6_readsCandidates_73 rfl ⟨by decide, by decide⟩ ?_
                refine WP_iload_n (z := (x2 + 4)) dX6_readsCandidates_74 rfl ?_
                obtain ⟨o20, h⟩ := h
                refine WP_pcallV (g := mX6_byteAt) (as := [vI 2, vI (x2 + 4)]) (rest := []) (n := 2) (r := vI (fX6_byteAt D10 2 (x2 + 4))) dX6_readsCandidates_75 wm_304 mo_X6_byteAt rfl rfl rfl rfl ⟨Nat.le_of_ble_eq_true rfl, Nat.le_of_ble_eq_true rfl⟩ (Nat.le_of_ble_eq_true rfl) (P_X6_byteAt  o20) ?_
                refine WP_bipush (z := 59) dX6_readsCandidates_78 rfl (by decide) ?_
                refine WP_icmp_eq (tgt := 85) dX6_readsCandidates_80 (by decide) (fun c18 => ?_) (fun c18 => ?_)
                · replace h := h.1 c18
                  obtain ⟨o19, h⟩ := h
                  refine WP_iinc (z := ((x2 + 4) + 1)) (ls1 := [vR 56, vI (x1 + 1), vI ((x2 + 4) + 1), vI r11]) dX6_readsCandidates_85 rfl (w32_id o19) (by decide) rfl ?_
                  refine WP_goto (tgt := 9) dX6_readsCandidates_88 (by decide) ?_
                  refine WP_fg 3 (ls1 := [vR 56, vI (x1 + 1), vI ((x2 + 4) + 1), vU]) rfl ?_
                  exact ih9_ _ _ _ h.1 (by have := h.2; omega)
                · replace h := h.2 c18
                  refine WP_iload_n (z := (x2 + 4)) dX6_readsCandidates_83 rfl ?_
                  exact WP_ireturn dX6_readsCandidates_84 rfl h
              · replace h := h.1 c15
                refine WP_aload_n (z := 56) dX6_readsCandidates_65 rfl ?_
                refine WP_iload_n (z := (x1 + 1)) dX6_readsCandidates_66 rfl ?_
                refine WP_putI dX6_readsCandidates_67 fp_RX6_112 rfl rfl ?_
                obtain ⟨E16, hE17⟩ : ∃ E16 : HP, E16 = (hu D10 56 8 (x1 + 1)) := ⟨_, rfl⟩
                replace h := h E16 hE17
                show WP mX6_readsCandidates Q 70 [vR 56, vI (x1 + 1), vI (x2 + 4), vI r11] [] (hu D10 56 8 (x1 + 1))
                rw [← hE17]
                refine WP_iconst (z := (-1)) dX6_readsCandidates_70 rfl ⟨by decide, by decide⟩ ?_
                exact WP_ireturn dX6_readsCandidates_71 rfl h
            · replace h := h.2 c14
              refine WP_iload_n (z := x2) dX6_readsCandidates_45 rfl ?_
              refine WP_iload_n (z := r11) dX6_readsCandidates_46 rfl ?_
              obtain ⟨o23, h⟩ := h
              refine WP_iadd (z := (x2 + r11)) dX6_readsCandidates_47 (w32_id o23) ?_
              exact WP_ireturn dX6_readsCandidates_48 rfl h
          · replace h := h.1 c4
            refine WP_iconst (z := 0) dX6_readsCandidates_29 rfl ⟨by decide, by decide⟩ ?_
            refine WP_goto (tgt := 39) dX6_readsCandidates_30 (by decide) ?_
            refine WP_istore_n (ls1 := [vR 56, vI x1, vI x2, vI 0]) dX6_readsCandidates_39 (by decide) rfl ?_
            refine WP_iload_n (z := 0) dX6_readsCandidates_40 rfl ?_
            refine WP_iconst (z := 4) dX6_readsCandidates_41 rfl ⟨by decide, by decide⟩ ?_
            refine WP_icmp_ge (tgt := 49) dX6_readsCandidates_42 (by decide) (fun c5 => absurd c5 (by decide)) (fun _ => ?_)
            · refine WP_iload_n (z := x2) dX6_readsCandidates_45 rfl ?_
              refine WP_iload_n (z := 0) dX6_readsCandidates_46 rfl ?_
              obtain ⟨o6, h⟩ := h
              refine WP_iadd (z := (x2 + 0)) dX6_readsCandidates_47 (w32_id o6) ?_
              exact WP_ireturn dX6_readsCandidates_48 rfl h
        · replace h := h.2 c3
          refine WP_iload_n (z := x2) dX6_readsCandidates_19 rfl ?_
          refine WP_if_le (tgt := 91) dX6_readsCandidates_20 (by decide) (fun c24 => ?_) (fun c24 => ?_)
          · replace h := h.1 c24
            refine WP_iconst (z := (-1)) dX6_readsCandidates_91 rfl ⟨by decide, by decide⟩ ?_
            exact WP_ireturn dX6_readsCandidates_92 rfl h
          · replace h := h.2 c24
            refine WP_iload_n (z := x1) dX6_readsCandidates_23 rfl ?_
            refine WP_bipush (z := 8) dX6_readsCandidates_24 rfl (by decide) ?_
            refine WP_icmp_ne (tgt := 33) dX6_readsCandidates_26 (by decide) (fun c25 => ?_) (fun c25 => ?_)
            · replace h := h.2 c25
              refine WP_aload_n (z := 56) dX6_readsCandidates_33 rfl ?_
              refine WP_iload_n (z := x1) dX6_readsCandidates_34 rfl ?_
              refine WP_iload_n (z := x2) dX6_readsCandidates_35 rfl ?_
              obtain ⟨Q28, ct30, h⟩ := h
              refine WP_callV (g := mX6_readsCandidate) (as := [vI x1, vI x2]) (rest := []) (n := 2) dX6_readsCandidates_36 wm_325 mo_X6_readsCandidate rfl rfl rfl rfl ⟨Nat.le_of_ble_eq_true rfl, Nat.le_of_ble_eq_true rfl⟩ (Nat.le_of_ble_eq_true rfl) ct30 (fun r_ D31 hq29 hok hD34 => ?_)
              obtain ⟨r32, rfl, hr33⟩ := hok
              replace h := h r32 D31 hq29 hr33 hD34
              show WP mX6_readsCandidates Q 39 [vR 56, vI x1, vI x2, vU] [vI r32] D31
              refine WP_istore_n (ls1 := [vR 56, vI x1, vI x2, vI r32]) dX6_readsCandidates_39 (by decide) rfl ?_
              refine WP_iload_n (z := r32) dX6_readsCandidates_40 rfl ?_
              refine WP_iconst (z := 4) dX6_readsCandidates_41 rfl ⟨by decide, by decide⟩ ?_
              refine WP_icmp_ge (tgt := 49) dX6_readsCandidates_42 (by decide) (fun c35 => ?_) (fun c35 => ?_)
              · replace h := h.1 c35
                obtain ⟨o43, h⟩ := h
                refine WP_iinc (z := (x1 + 1)) (ls1 := [vR 56, vI (x1 + 1), vI x2, vI r32]) dX6_readsCandidates_49 rfl (w32_id o43) (by decide) rfl ?_
                obtain ⟨o42, h⟩ := h
                refine WP_iinc (z := (x2 + 4)) (ls1 := [vR 56, vI (x1 + 1), vI (x2 + 4), vI r32]) dX6_readsCandidates_52 rfl (w32_id o42) (by decide) rfl ?_
                refine WP_iload_n (z := (x2 + 4)) dX6_readsCandidates_55 rfl ?_
                refine WP_aload_n (z := 56) dX6_readsCandidates_56 rfl ?_
                refine WP_getR (z := 57) dX6_readsCandidates_57 fl_RX6_7 rfl rfl rfl ?_
                refine WP_iconst (z := 2) dX6_readsCandidates_60 rfl ⟨by decide, by decide⟩ ?_
                refine WP_iald dX6_readsCandidates_61 rfl (by decide) (by decide) rfl ?_
                refine WP_icmp_ne (tgt := 72) dX6_readsCandidates_62 (by decide) (fun c36 => ?_) (fun c36 => ?_)
                · replace h := h.2 c36
                  refine WP_aload_n (z := 56) dX6_readsCandidates_72 rfl ?_
                  refine WP_iconst (z := 2) dX6_readsCandidates_73 rfl ⟨by decide, by decide⟩ ?_
                  refine WP_iload_n (z := (x2 + 4)) dX6_readsCandidates_74 rfl ?_
                  obtain ⟨o41, h⟩ := h
                  refine WP_pcallV (g := mX6_byteAt) (as := [vI 2, vI (x2 + 4)]) (rest := []) (n := 2) (r := vI (fX6_byteAt D31 2 (x2 + 4))) dX6_readsCandidates_75 wm_304 mo_X6_byteAt rfl rfl rfl rfl ⟨Nat.le_of_ble_eq_true rfl, Nat.le_of_ble_eq_true rfl⟩ (Nat.le_of_ble_eq_true rfl) (P_X6_byteAt  o41) ?_
                  refine WP_bipush (z := 59) dX6_readsCandidates_78 rfl (by decide) ?_
                  refine WP_icmp_eq (tgt := 85) dX6_readsCandidates_80 (by decide) (fun c39 => ?_) (fun c39 => ?_)
                  · replace h := h.1 c39
                    obtain ⟨o40, h⟩ := h
                    refine WP_iinc (z := ((x2 + 4) + 1)) (ls1 := [vR 56, vI (x1 + 1), vI ((x2 + 4) + 1), vI r32]) dX6_readsCandidates_85 rfl (w32_id o40) (by decide) rfl ?_
                    refine WP_goto (tgt := 9) dX6_readsCandidates_88 (by decide) ?_
                    refine WP_fg 3 (ls1 := [vR 56, vI (x1 + 1), vI ((x2 + 4) + 1), vU]) rfl ?_
                    exact ih9_ _ _ _ h.1 (by have := h.2; omega)
                  · replace h := h.2 c39
                    refine WP_iload_n (z := (x2 + 4)) dX6_readsCandidates_83 rfl ?_
                    exact WP_ireturn dX6_readsCandidates_84 rfl h
                · replace h := h.1 c36
                  refine WP_aload_n (z := 56) dX6_readsCandidates_65 rfl ?_
                  refine WP_iload_n (z := (x1 + 1)) dX6_readsCandidates_66 rfl ?_
                  refine WP_putI dX6_readsCandidates_67 fp_RX6_112 rfl rfl ?_
                  obtain ⟨E37, hE38⟩ : ∃ E37 : HP, E37 = (hu D31 56 8 (x1 + 1)) := ⟨_, rfl⟩
                  replace h := h E37 hE38
                  show WP mX6_readsCandidates Q 70 [vR 56, vI (x1 + 1), vI (x2 + 4), vI r32] [] (hu D31 56 8 (x1 + 1))
                  rw [← hE38]
                  refine WP_iconst (z := (-1)) dX6_readsCandidates_70 rfl ⟨by decide, by decide⟩ ?_
                  exact WP_ireturn dX6_readsCandidates_71 rfl h
              · replace h := h.2 c35
                refine WP_iload_n (z := x2) dX6_readsCandidates_45 rfl ?_
                refine WP_iload_n (z := r32) dX6_readsCandidates_46 rfl ?_
                obtain ⟨o44, h⟩ := h
                refine WP_iadd (z := (x2 + r32)) dX6_readsCandidates_47 (w32_id o44) ?_
                exact WP_ireturn dX6_readsCandidates_48 rfl h
            · replace h := h.1 c25
              refine WP_iconst (z := 0) dX6_readsCandidates_29 rfl ⟨by decide, by decide⟩ ?_
              refine WP_goto (tgt := 39) dX6_readsCandidates_30 (by decide) ?_
              refine WP_istore_n (ls1 := [vR 56, vI x1, vI x2, vI 0]) dX6_readsCandidates_39 (by decide) rfl ?_
              refine WP_iload_n (z := 0) dX6_readsCandidates_40 rfl ?_
              refine WP_iconst (z := 4) dX6_readsCandidates_41 rfl ⟨by decide, by decide⟩ ?_
              refine WP_icmp_ge (tgt := 49) dX6_readsCandidates_42 (by decide) (fun c26 => absurd c26 (by decide)) (fun _ => ?_)
              · refine WP_iload_n (z := x2) dX6_readsCandidates_45 rfl ?_
                refine WP_iload_n (z := 0) dX6_readsCandidates_46 rfl ?_
                obtain ⟨o27, h⟩ := h
                refine WP_iadd (z := (x2 + 0)) dX6_readsCandidates_47 (w32_id o27) ?_
                exact WP_ireturn dX6_readsCandidates_48 rfl h
  have cut9_ : ∀ (x1 x2 : Int) (D : HP), I9 x1 x2 D → WP mX6_readsCandidates Q 9 [vR 56, vI x1, vI x2, vU] [] D := fun x1 x2 D hI => (IH (u9 x1 x2 D * 1 + 0 + 1)) x1 x2 D hI (by omega)
  refine WP_cD (fun hcD => ?_)
  have h := h0 hcD
  refine WP_iconst (z := 0) dX6_readsCandidates_0 rfl ⟨by decide, by decide⟩ ?_
  refine WP_istore_n (ls1 := [vR 56, vI 0, vU, vU]) dX6_readsCandidates_1 (by decide) rfl ?_
  refine WP_iconst (z := 0) dX6_readsCandidates_2 rfl ⟨by decide, by decide⟩ ?_
  refine WP_istore_n (ls1 := [vR 56, vI 0, vI 0, vU]) dX6_readsCandidates_3 (by decide) rfl ?_
  refine WP_aload_n (z := 56) dX6_readsCandidates_4 rfl ?_
  refine WP_iconst (z := 0) dX6_readsCandidates_5 rfl ⟨by decide, by decide⟩ ?_
  refine WP_putI dX6_readsCandidates_6 fp_RX6_112 rfl rfl ?_
  obtain ⟨E1, hE2⟩ : ∃ E1 : HP, E1 = (hu D 56 8 0) := ⟨_, rfl⟩
  replace h := h E1 hE2
  show WP mX6_readsCandidates Q 9 [vR 56, vI 0, vI 0, vU] [] (hu D 56 8 0)
  rw [← hE2]
  exact cut9_ _ _ _ h
set_option maxRecDepth 100000 in
set_option maxHeartbeats 4000000 in
theorem V_X6_faultOf (a : Int) {D : HP} {Q : Option MV → HP → Prop}
    (h0 : cD D → c32 a → (∃ Q1 : Option MV → HP → Prop, CT mX6_readsCorner [vR 56] D Q1 ∧ ∀ (r5 : Int) (D4 : HP), Q1 (some (vI r5)) D4 → c32 r5 → cD D4 → (∃ Q8 : Option MV → HP → Prop, CT mX6_readsGusts [vR 56] D4 Q8 ∧ ∀ (r12 : Int) (D11 : HP), Q8 (some (vI r12)) D11 → c32 r12 → cD D11 → (∃ Q15 : Option MV → HP → Prop, CT mX6_readsCandidates [vR 56] D11 Q15 ∧ ∀ (r19 : Int) (D18 : HP), Q15 (some (vI r19)) D18 → c32 r19 → cD D18 → (Q (some (vI (if a = 0 then (r5 : Int) else (if a = 1 then (r12 : Int) else r19)))) D18)))))
    : CT mX6_faultOf [vR 56, vI a] D Q := by
  refine CT.of 3 (by decide) (Nat.le_of_ble_eq_true rfl) ?_
  show WP mX6_faultOf Q 0 [vR 56, vI a, vU, vU, vU] [] D
  refine WP_cD (fun hcD => ?_)
  refine WP_cl (fun hcl => ?_)
  have h := h0 hcD (cVs_g hcl (i := 1) (v := vI a) rfl)
  refine WP_aload_n (z := 56) dX6_faultOf_0 rfl ?_
  obtain ⟨Q1, ct3, h⟩ := h
  refine WP_callV (g := mX6_readsCorner) (as := []) (rest := []) (n := 0) dX6_faultOf_1 wm_298 mo_X6_readsCorner rfl rfl rfl rfl ⟨Nat.le_of_ble_eq_true rfl, Nat.le_of_ble_eq_true rfl⟩ (Nat.le_of_ble_eq_true rfl) ct3 (fun r_ D4 hq2 hok hD7 => ?_)
  obtain ⟨r5, rfl, hr6⟩ := hok
  replace h := h r5 D4 hq2 hr6 hD7
  show WP mX6_faultOf Q 4 [vR 56, vI a, vU, vU, vU] [vI r5] D4
  refine WP_istore_n (ls1 := [vR 56, vI a, vI r5, vU, vU]) dX6_faultOf_4 (by decide) rfl ?_
  refine WP_aload_n (z := 56) dX6_faultOf_5 rfl ?_
  obtain ⟨Q8, ct10, h⟩ := h
  refine WP_callV (g := mX6_readsGusts) (as := []) (rest := []) (n := 0) dX6_faultOf_6 wm_308 mo_X6_readsGusts rfl rfl rfl rfl ⟨Nat.le_of_ble_eq_true rfl, Nat.le_of_ble_eq_true rfl⟩ (Nat.le_of_ble_eq_true rfl) ct10 (fun r_ D11 hq9 hok hD14 => ?_)
  obtain ⟨r12, rfl, hr13⟩ := hok
  replace h := h r12 D11 hq9 hr13 hD14
  show WP mX6_faultOf Q 9 [vR 56, vI a, vI r5, vU, vU] [vI r12] D11
  refine WP_istore_n (ls1 := [vR 56, vI a, vI r5, vI r12, vU]) dX6_faultOf_9 (by decide) rfl ?_
  refine WP_aload_n (z := 56) dX6_faultOf_10 rfl ?_
  obtain ⟨Q15, ct17, h⟩ := h
  refine WP_callV (g := mX6_readsCandidates) (as := []) (rest := []) (n := 0) dX6_faultOf_11 wm_320 mo_X6_readsCandidates rfl rfl rfl rfl ⟨Nat.le_of_ble_eq_true rfl, Nat.le_of_ble_eq_true rfl⟩ (Nat.le_of_ble_eq_true rfl) ct17 (fun r_ D18 hq16 hok hD21 => ?_)
  obtain ⟨r19, rfl, hr20⟩ := hok
  replace h := h r19 D18 hq16 hr20 hD21
  show WP mX6_faultOf Q 14 [vR 56, vI a, vI r5, vI r12, vU] [vI r19] D18
  refine WP_istore (ls1 := [vR 56, vI a, vI r5, vI r12, vI r19]) dX6_faultOf_14 (by decide) rfl ?_
  refine WP_iload_n (z := a) dX6_faultOf_16 rfl ?_
  refine WP_via (pc1 := 35) (ls1 := [vR 56, vI a, vI r5, vI r12, vI r19]) (st1 := [vI (if a = 0 then (r5 : Int) else (if a = 1 then (r12 : Int) else r19))]) (D1 := D18) (fun hJ22 => ?_) ?_
  · refine WP_if_ne (tgt := 24) dX6_faultOf_17 (by decide) (fun c23 => ?_) (fun c23 => ?_)
    · replace hJ22 := ite_f (P := fun v_ : Int => WP mX6_faultOf Q 35 [vR 56, vI a, vI r5, vI r12, vI r19] [vI v_] D18) hJ22 c23
      refine WP_iload_n (z := a) dX6_faultOf_24 rfl ?_
      refine WP_iconst (z := 1) dX6_faultOf_25 rfl ⟨by decide, by decide⟩ ?_
      refine WP_via (pc1 := 35) (ls1 := [vR 56, vI a, vI r5, vI r12, vI r19]) (st1 := [vI (if a = 1 then (r12 : Int) else r19)]) (D1 := D18) (fun hJ24 => ?_) ?_
      · refine WP_icmp_ne (tgt := 33) dX6_faultOf_26 (by decide) (fun c25 => ?_) (fun c25 => ?_)
        · replace hJ24 := ite_f (P := fun v_ : Int => WP mX6_faultOf Q 35 [vR 56, vI a, vI r5, vI r12, vI r19] [vI v_] D18) hJ24 c25
          refine WP_iload (z := r19) dX6_faultOf_33 rfl ?_
          exact hJ24
        · replace hJ24 := ite_t (P := fun v_ : Int => WP mX6_faultOf Q 35 [vR 56, vI a, vI r5, vI r12, vI r19] [vI v_] D18) hJ24 c25
          refine WP_iload_n (z := r12) dX6_faultOf_29 rfl ?_
          refine WP_goto (tgt := 35) dX6_faultOf_30 (by decide) ?_
          exact hJ24
      exact hJ22
    · replace hJ22 := ite_t (P := fun v_ : Int => WP mX6_faultOf Q 35 [vR 56, vI a, vI r5, vI r12, vI r19] [vI v_] D18) hJ22 c23
      refine WP_iload_n (z := r5) dX6_faultOf_20 rfl ?_
      refine WP_goto (tgt := 35) dX6_faultOf_21 (by decide) ?_
      exact hJ22
  · exact WP_ireturn dX6_faultOf_35 rfl h
set_option maxRecDepth 100000 in
set_option maxHeartbeats 4000000 in
theorem V_X6_reads  {D : HP} {Q : Option MV → HP → Prop}
    (h0 : cD D → (∃ Q1 : Option MV → HP → Prop, CT mX6_faultOf [vR 56, vI 0] D Q1 ∧ ∀ (r5 : Int) (D4 : HP), Q1 (some (vI r5)) D4 → c32 r5 → cD D4 → (Q none D4)))
    : CT mX6_reads [vR 56] D Q := by
  refine CT.of 1 (by decide) (Nat.le_of_ble_eq_true rfl) ?_
  show WP mX6_reads Q 0 [vR 56, vU] [] D
  refine WP_cD (fun hcD => ?_)
  have h := h0 hcD
  refine WP_aload_n (z := 56) dX6_reads_0 rfl ?_
  refine WP_iconst (z := 0) dX6_reads_1 rfl ⟨by decide, by decide⟩ ?_
  obtain ⟨Q1, ct3, h⟩ := h
  refine WP_callV (g := mX6_faultOf) (as := [vI 0]) (rest := []) (n := 1) dX6_reads_2 wm_294 mo_X6_faultOf rfl rfl rfl rfl ⟨Nat.le_of_ble_eq_true rfl, Nat.le_of_ble_eq_true rfl⟩ (Nat.le_of_ble_eq_true rfl) ct3 (fun r_ D4 hq2 hok hD7 => ?_)
  obtain ⟨r5, rfl, hr6⟩ := hok
  replace h := h r5 D4 hq2 hr6 hD7
  show WP mX6_reads Q 5 [vR 56, vU] [vI r5] D4
  refine WP_istore_n (ls1 := [vR 56, vI r5]) dX6_reads_5 (by decide) rfl ?_
  exact WP_return dX6_reads_6 rfl h
set_option maxRecDepth 100000 in
set_option maxHeartbeats 4000000 in
theorem V_X6_fault (a : Int) {D : HP} {Q : Option MV → HP → Prop}
    (h0 : cD D → c32 a → (((fX6_isText D a) = 0 → (Q (some (vI (-2))) D)) ∧ (¬ ((fX6_isText D a) = 0) → (∃ Q2 : Option MV → HP → Prop, CT mX6_faultOf [vR 56, vI a] D Q2 ∧ ∀ (r6 : Int) (D5 : HP), Q2 (some (vI r6)) D5 → c32 r6 → cD D5 → (Q (some (vI r6)) D5)))))
    : CT mX6_fault [vR 56, vI a] D Q := by
  refine CT.of 0 (by decide) (Nat.le_of_ble_eq_true rfl) ?_
  show WP mX6_fault Q 0 [vR 56, vI a] [] D
  refine WP_cD (fun hcD => ?_)
  refine WP_cl (fun hcl => ?_)
  have h := h0 hcD (cVs_g hcl (i := 1) (v := vI a) rfl)
  refine WP_iload_n (z := a) dX6_fault_0 rfl ?_
  refine WP_pcallS (g := mX6_isText) (as := [vI a]) (rest := []) (n := 1) (r := vI (fX6_isText D a)) dX6_fault_1 wm_259 mo_X6_isText rfl rfl ⟨Nat.le_of_ble_eq_true rfl, Nat.le_of_ble_eq_true rfl⟩ (Nat.le_of_ble_eq_true rfl) (P_X6_isText  trivial) ?_
  refine WP_if_eq (tgt := 15) dX6_fault_4 (by decide) (fun c1 => ?_) (fun c1 => ?_)
  · replace h := h.1 c1
    refine WP_bipush (z := (-2)) dX6_fault_15 rfl (by decide) ?_
    exact WP_ireturn dX6_fault_17 rfl h
  · replace h := h.2 c1
    refine WP_aload_n (z := 56) dX6_fault_7 rfl ?_
    refine WP_iload_n (z := a) dX6_fault_8 rfl ?_
    obtain ⟨Q2, ct4, h⟩ := h
    refine WP_callV (g := mX6_faultOf) (as := [vI a]) (rest := []) (n := 1) dX6_fault_9 wm_294 mo_X6_faultOf rfl rfl rfl rfl ⟨Nat.le_of_ble_eq_true rfl, Nat.le_of_ble_eq_true rfl⟩ (Nat.le_of_ble_eq_true rfl) ct4 (fun r_ D5 hq3 hok hD8 => ?_)
    obtain ⟨r6, rfl, hr7⟩ := hok
    replace h := h r6 D5 hq3 hr7 hD8
    show WP mX6_fault Q 12 [vR 56, vI a] [vI r6] D5
    refine WP_goto (tgt := 17) dX6_fault_12 (by decide) ?_
    exact WP_ireturn dX6_fault_17 rfl h
set_option maxRecDepth 100000 in
set_option maxHeartbeats 4000000 in
theorem V_X6_isMinute (a : Int) {D : HP} {Q : Option MV → HP → Prop}
    (h0 : cD D → c32 a → (∃ Q1 : Option MV → HP → Prop, CT mX6_reads [vR 56] D Q1 ∧ ∀ (D4 : HP), Q1 none D4 → cD D4 → ((c32 ((D4 56 5) - 1)) ∧ (Q (some (vI (fX6_within D4 a 0 ((D4 56 5) - 1)))) D4))))
    : CT mX6_isMinute [vR 56, vI a] D Q := by
  refine CT.of 0 (by decide) (Nat.le_of_ble_eq_true rfl) ?_
  show WP mX6_isMinute Q 0 [vR 56, vI a] [] D
  refine WP_cD (fun hcD => ?_)
  refine WP_cl (fun hcl => ?_)
  have h := h0 hcD (cVs_g hcl (i := 1) (v := vI a) rfl)
  refine WP_aload_n (z := 56) dX6_isMinute_0 rfl ?_
  obtain ⟨Q1, ct3, h⟩ := h
  refine WP_callV (g := mX6_reads) (as := []) (rest := []) (n := 0) dX6_isMinute_1 wm_343 mo_X6_reads rfl rfl rfl rfl ⟨Nat.le_of_ble_eq_true rfl, Nat.le_of_ble_eq_true rfl⟩ (Nat.le_of_ble_eq_true rfl) ct3 (fun r_ D4 hq2 hok hD7 => ?_)
  obtain rfl := hok
  replace h := h D4 hq2 hD7
  show WP mX6_isMinute Q 4 [vR 56, vI a] [] D4
  refine WP_iload_n (z := a) dX6_isMinute_4 rfl ?_
  refine WP_iconst (z := 0) dX6_isMinute_5 rfl ⟨by decide, by decide⟩ ?_
  refine WP_aload_n (z := 56) dX6_isMinute_6 rfl ?_
  refine WP_getI dX6_isMinute_7 fl_RX6_101 rfl rfl rfl ?_
  refine WP_iconst (z := 1) dX6_isMinute_10 rfl ⟨by decide, by decide⟩ ?_
  obtain ⟨o8, h⟩ := h
  refine WP_isub (z := ((D4 56 5) - 1)) dX6_isMinute_11 (w32_id o8) ?_
  refine WP_pcallS (g := mX6_within) (as := [vI a, vI 0, vI ((D4 56 5) - 1)]) (rest := []) (n := 3) (r := vI (fX6_within D4 a 0 ((D4 56 5) - 1))) dX6_isMinute_12 wm_262 mo_X6_within rfl rfl ⟨Nat.le_of_ble_eq_true rfl, Nat.le_of_ble_eq_true rfl⟩ (Nat.le_of_ble_eq_true rfl) (P_X6_within  trivial) ?_
  exact WP_zreturn dX6_isMinute_15 rfl (bfX6_within _ _ _ _) h
set_option maxRecDepth 100000 in
set_option maxHeartbeats 4000000 in
theorem V_X6_isCell (a : Int) {D : HP} {Q : Option MV → HP → Prop}
    (h0 : cD D → c32 a → (∃ Q1 : Option MV → HP → Prop, CT mX6_reads [vR 56] D Q1 ∧ ∀ (D4 : HP), Q1 none D4 → cD D4 → ((c32 ((D4 56 3) - 1)) ∧ (Q (some (vI (fX6_within D4 a 0 ((D4 56 3) - 1)))) D4))))
    : CT mX6_isCell [vR 56, vI a] D Q := by
  refine CT.of 0 (by decide) (Nat.le_of_ble_eq_true rfl) ?_
  show WP mX6_isCell Q 0 [vR 56, vI a] [] D
  refine WP_cD (fun hcD => ?_)
  refine WP_cl (fun hcl => ?_)
  have h := h0 hcD (cVs_g hcl (i := 1) (v := vI a) rfl)
  refine WP_aload_n (z := 56) dX6_isCell_0 rfl ?_
  obtain ⟨Q1, ct3, h⟩ := h
  refine WP_callV (g := mX6_reads) (as := []) (rest := []) (n := 0) dX6_isCell_1 wm_343 mo_X6_reads rfl rfl rfl rfl ⟨Nat.le_of_ble_eq_true rfl, Nat.le_of_ble_eq_true rfl⟩ (Nat.le_of_ble_eq_true rfl) ct3 (fun r_ D4 hq2 hok hD7 => ?_)
  obtain rfl := hok
  replace h := h D4 hq2 hD7
  show WP mX6_isCell Q 4 [vR 56, vI a] [] D4
  refine WP_iload_n (z := a) dX6_isCell_4 rfl ?_
  refine WP_iconst (z := 0) dX6_isCell_5 rfl ⟨by decide, by decide⟩ ?_
  refine WP_aload_n (z := 56) dX6_isCell_6 rfl ?_
  refine WP_getI dX6_isCell_7 fl_RX6_94 rfl rfl rfl ?_
  refine WP_iconst (z := 1) dX6_isCell_10 rfl ⟨by decide, by decide⟩ ?_
  obtain ⟨o8, h⟩ := h
  refine WP_isub (z := ((D4 56 3) - 1)) dX6_isCell_11 (w32_id o8) ?_
  refine WP_pcallS (g := mX6_within) (as := [vI a, vI 0, vI ((D4 56 3) - 1)]) (rest := []) (n := 3) (r := vI (fX6_within D4 a 0 ((D4 56 3) - 1))) dX6_isCell_12 wm_262 mo_X6_within rfl rfl ⟨Nat.le_of_ble_eq_true rfl, Nat.le_of_ble_eq_true rfl⟩ (Nat.le_of_ble_eq_true rfl) (P_X6_within  trivial) ?_
  exact WP_zreturn dX6_isCell_15 rfl (bfX6_within _ _ _ _) h
set_option maxRecDepth 100000 in
set_option maxHeartbeats 4000000 in
theorem V_X6_isCandidate (a : Int) {D : HP} {Q : Option MV → HP → Prop}
    (h0 : cD D → c32 a → (∃ Q1 : Option MV → HP → Prop, CT mX6_reads [vR 56] D Q1 ∧ ∀ (D4 : HP), Q1 none D4 → cD D4 → ((c32 ((D4 56 8) - 1)) ∧ (Q (some (vI (fX6_within D4 a 0 ((D4 56 8) - 1)))) D4))))
    : CT mX6_isCandidate [vR 56, vI a] D Q := by
  refine CT.of 0 (by decide) (Nat.le_of_ble_eq_true rfl) ?_
  show WP mX6_isCandidate Q 0 [vR 56, vI a] [] D
  refine WP_cD (fun hcD => ?_)
  refine WP_cl (fun hcl => ?_)
  have h := h0 hcD (cVs_g hcl (i := 1) (v := vI a) rfl)
  refine WP_aload_n (z := 56) dX6_isCandidate_0 rfl ?_
  obtain ⟨Q1, ct3, h⟩ := h
  refine WP_callV (g := mX6_reads) (as := []) (rest := []) (n := 0) dX6_isCandidate_1 wm_343 mo_X6_reads rfl rfl rfl rfl ⟨Nat.le_of_ble_eq_true rfl, Nat.le_of_ble_eq_true rfl⟩ (Nat.le_of_ble_eq_true rfl) ct3 (fun r_ D4 hq2 hok hD7 => ?_)
  obtain rfl := hok
  replace h := h D4 hq2 hD7
  show WP mX6_isCandidate Q 4 [vR 56, vI a] [] D4
  refine WP_iload_n (z := a) dX6_isCandidate_4 rfl ?_
  refine WP_iconst (z := 0) dX6_isCandidate_5 rfl ⟨by decide, by decide⟩ ?_
  refine WP_aload_n (z := 56) dX6_isCandidate_6 rfl ?_
  refine WP_getI dX6_isCandidate_7 fl_RX6_112 rfl rfl rfl ?_
  refine WP_iconst (z := 1) dX6_isCandidate_10 rfl ⟨by decide, by decide⟩ ?_
  obtain ⟨o8, h⟩ := h
  refine WP_isub (z := ((D4 56 8) - 1)) dX6_isCandidate_11 (w32_id o8) ?_
  refine WP_pcallS (g := mX6_within) (as := [vI a, vI 0, vI ((D4 56 8) - 1)]) (rest := []) (n := 3) (r := vI (fX6_within D4 a 0 ((D4 56 8) - 1))) dX6_isCandidate_12 wm_262 mo_X6_within rfl rfl ⟨Nat.le_of_ble_eq_true rfl, Nat.le_of_ble_eq_true rfl⟩ (Nat.le_of_ble_eq_true rfl) (P_X6_within  trivial) ?_
  exact WP_zreturn dX6_isCandidate_15 rfl (bfX6_within _ _ _ _) h
set_option maxRecDepth 100000 in
set_option maxHeartbeats 4000000 in
theorem V_X6_cell (a : Int) {D : HP} {Q : Option MV → HP → Prop}
    (h0 : cD D → c32 a → (((fX6_within D a 0 24) = 0 → (Q (some (vI (-2))) D)) ∧ (¬ ((fX6_within D a 0 24) = 0) → (∃ Q2 : Option MV → HP → Prop, CT mX6_isCell [vR 56, vI a] D Q2 ∧ ∀ (r6 : Int) (D5 : HP), Q2 (some (vI r6)) D5 → c32 r6 → cD D5 → ((((r6 = 0) → True) ∧ (¬ (r6 = 0) → (0 ≤ a ∧ a < 26))) ∧ (Q (some (vI (if r6 = 0 then ((-1) : Int) else (if (D5 59 a.toNat) = 0 then (0 : Int) else 1)))) D5))))))
    : CT mX6_cell [vR 56, vI a] D Q := by
  refine CT.of 0 (by decide) (Nat.le_of_ble_eq_true rfl) ?_
  show WP mX6_cell Q 0 [vR 56, vI a] [] D
  refine WP_cD (fun hcD => ?_)
  refine WP_cl (fun hcl => ?_)
  have h := h0 hcD (cVs_g hcl (i := 1) (v := vI a) rfl)
  refine WP_iload_n (z := a) dX6_cell_0 rfl ?_
  refine WP_iconst (z := 0) dX6_cell_1 rfl ⟨by decide, by decide⟩ ?_
  refine WP_bipush (z := 24) dX6_cell_2 rfl (by decide) ?_
  refine WP_pcallS (g := mX6_within) (as := [vI a, vI 0, vI 24]) (rest := []) (n := 3) (r := vI (fX6_within D a 0 24)) dX6_cell_4 wm_262 mo_X6_within rfl rfl ⟨Nat.le_of_ble_eq_true rfl, Nat.le_of_ble_eq_true rfl⟩ (Nat.le_of_ble_eq_true rfl) (P_X6_within  trivial) ?_
  refine WP_if_eq (tgt := 39) dX6_cell_7 (by decide) (fun c1 => ?_) (fun c1 => ?_)
  · replace h := h.1 c1
    refine WP_bipush (z := (-2)) dX6_cell_39 rfl (by decide) ?_
    exact WP_ireturn dX6_cell_41 rfl h
  · replace h := h.2 c1
    refine WP_aload_n (z := 56) dX6_cell_10 rfl ?_
    refine WP_iload_n (z := a) dX6_cell_11 rfl ?_
    obtain ⟨Q2, ct4, h⟩ := h
    refine WP_callV (g := mX6_isCell) (as := [vI a]) (rest := []) (n := 1) dX6_cell_12 wm_339 mo_X6_isCell rfl rfl rfl rfl ⟨Nat.le_of_ble_eq_true rfl, Nat.le_of_ble_eq_true rfl⟩ (Nat.le_of_ble_eq_true rfl) ct4 (fun r_ D5 hq3 hok hD8 => ?_)
    obtain ⟨r6, rfl, hr7⟩ := hok
    replace h := h r6 D5 hq3 hr7 hD8
    show WP mX6_cell Q 15 [vR 56, vI a] [vI r6] D5
    obtain ⟨o9, h⟩ := h
    refine WP_via (pc1 := 41) (ls1 := [vR 56, vI a]) (st1 := [vI (if r6 = 0 then ((-1) : Int) else (if (D5 59 a.toNat) = 0 then (0 : Int) else 1))]) (D1 := D5) (fun hJ10 => ?_) ?_
    · refine WP_if_eq (tgt := 35) dX6_cell_15 (by decide) (fun c11 => ?_) (fun c11 => ?_)
      · replace hJ10 := ite_t (P := fun v_ : Int => WP mX6_cell Q 41 [vR 56, vI a] [vI v_] D5) hJ10 c11
        have o12 := o9.1 c11
        refine WP_iconst (z := (-1)) dX6_cell_35 rfl ⟨by decide, by decide⟩ ?_
        refine WP_goto (tgt := 41) dX6_cell_36 (by decide) ?_
        exact hJ10
      · replace hJ10 := ite_f (P := fun v_ : Int => WP mX6_cell Q 41 [vR 56, vI a] [vI v_] D5) hJ10 c11
        have o13 := o9.2 c11
        refine WP_aload_n (z := 56) dX6_cell_18 rfl ?_
        refine WP_getR (z := 59) dX6_cell_19 fl_RX6_16 rfl rfl rfl ?_
        refine WP_iload_n (z := a) dX6_cell_22 rfl ?_
        refine WP_zald dX6_cell_23 rfl o13.1 o13.2 rfl ?_
        refine WP_via (pc1 := 41) (ls1 := [vR 56, vI a]) (st1 := [vI (if (D5 59 a.toNat) = 0 then (0 : Int) else 1)]) (D1 := D5) (fun hJ14 => ?_) ?_
        · refine WP_if_eq (tgt := 31) dX6_cell_24 (by decide) (fun c15 => ?_) (fun c15 => ?_)
          · replace hJ14 := ite_t (P := fun v_ : Int => WP mX6_cell Q 41 [vR 56, vI a] [vI v_] D5) hJ14 c15
            refine WP_iconst (z := 0) dX6_cell_31 rfl ⟨by decide, by decide⟩ ?_
            refine WP_goto (tgt := 41) dX6_cell_32 (by decide) ?_
            exact hJ14
          · replace hJ14 := ite_f (P := fun v_ : Int => WP mX6_cell Q 41 [vR 56, vI a] [vI v_] D5) hJ14 c15
            refine WP_iconst (z := 1) dX6_cell_27 rfl ⟨by decide, by decide⟩ ?_
            refine WP_goto (tgt := 41) dX6_cell_28 (by decide) ?_
            exact hJ14
        exact hJ10
    · exact WP_ireturn dX6_cell_41 rfl h
set_option maxRecDepth 100000 in
set_option maxHeartbeats 4000000 in
theorem V_X6_gust (a : Int) (b : Int) {D : HP} {Q : Option MV → HP → Prop}
    (h0 : cD D → c32 a → c32 b → (∃ Q1 : Option MV → HP → Prop, CT mX6_isMinute [vR 56, vI a] D Q1 ∧ ∀ (r5 : Int) (D4 : HP), Q1 (some (vI r5)) D4 → c32 r5 → cD D4 → ((((r5 = 0) → True) ∧ (¬ (r5 = 0) → ((((fX6_within D4 b 0 1) = 0) → True) ∧ (¬ ((fX6_within D4 b 0 1) = 0) → (((b = 0) → (0 ≤ a ∧ a < 12)) ∧ (¬ (b = 0) → (0 ≤ a ∧ a < 12))))))) ∧ (Q (some (vI (if r5 = 0 then ((-2) : Int) else (if (fX6_within D4 b 0 1) = 0 then ((-2) : Int) else (if b = 0 then ((D4 60 a.toNat) : Int) else (D4 61 a.toNat)))))) D4))))
    : CT mX6_gust [vR 56, vI a, vI b] D Q := by
  refine CT.of 0 (by decide) (Nat.le_of_ble_eq_true rfl) ?_
  show WP mX6_gust Q 0 [vR 56, vI a, vI b] [] D
  refine WP_cD (fun hcD => ?_)
  refine WP_cl (fun hcl => ?_)
  have h := h0 hcD (cVs_g hcl (i := 1) (v := vI a) rfl) (cVs_g hcl (i := 2) (v := vI b) rfl)
  refine WP_aload_n (z := 56) dX6_gust_0 rfl ?_
  refine WP_iload_n (z := a) dX6_gust_1 rfl ?_
  obtain ⟨Q1, ct3, h⟩ := h
  refine WP_callV (g := mX6_isMinute) (as := [vI a]) (rest := []) (n := 1) dX6_gust_2 wm_362 mo_X6_isMinute rfl rfl rfl rfl ⟨Nat.le_of_ble_eq_true rfl, Nat.le_of_ble_eq_true rfl⟩ (Nat.le_of_ble_eq_true rfl) ct3 (fun r_ D4 hq2 hok hD7 => ?_)
  obtain ⟨r5, rfl, hr6⟩ := hok
  replace h := h r5 D4 hq2 hr6 hD7
  show WP mX6_gust Q 5 [vR 56, vI a, vI b] [vI r5] D4
  obtain ⟨o8, h⟩ := h
  refine WP_via (pc1 := 41) (ls1 := [vR 56, vI a, vI b]) (st1 := [vI (if r5 = 0 then ((-2) : Int) else (if (fX6_within D4 b 0 1) = 0 then ((-2) : Int) else (if b = 0 then ((D4 60 a.toNat) : Int) else (D4 61 a.toNat))))]) (D1 := D4) (fun hJ9 => ?_) ?_
  · refine WP_if_eq (tgt := 39) dX6_gust_5 (by decide) (fun c10 => ?_) (fun c10 => ?_)
    · replace hJ9 := ite_t (P := fun v_ : Int => WP mX6_gust Q 41 [vR 56, vI a, vI b] [vI v_] D4) hJ9 c10
      have o11 := o8.1 c10
      refine WP_bipush (z := (-2)) dX6_gust_39 rfl (by decide) ?_
      exact hJ9
    · replace hJ9 := ite_f (P := fun v_ : Int => WP mX6_gust Q 41 [vR 56, vI a, vI b] [vI v_] D4) hJ9 c10
      have o12 := o8.2 c10
      refine WP_iload_n (z := b) dX6_gust_8 rfl ?_
      refine WP_iconst (z := 0) dX6_gust_9 rfl ⟨by decide, by decide⟩ ?_
      refine WP_iconst (z := 1) dX6_gust_10 rfl ⟨by decide, by decide⟩ ?_
      refine WP_pcallS (g := mX6_within) (as := [vI b, vI 0, vI 1]) (rest := []) (n := 3) (r := vI (fX6_within D4 b 0 1)) dX6_gust_11 wm_262 mo_X6_within rfl rfl ⟨Nat.le_of_ble_eq_true rfl, Nat.le_of_ble_eq_true rfl⟩ (Nat.le_of_ble_eq_true rfl) (P_X6_within  trivial) ?_
      refine WP_via (pc1 := 41) (ls1 := [vR 56, vI a, vI b]) (st1 := [vI (if (fX6_within D4 b 0 1) = 0 then ((-2) : Int) else (if b = 0 then ((D4 60 a.toNat) : Int) else (D4 61 a.toNat)))]) (D1 := D4) (fun hJ13 => ?_) ?_
      · refine WP_if_eq (tgt := 39) dX6_gust_14 (by decide) (fun c14 => ?_) (fun c14 => ?_)
        · replace hJ13 := ite_t (P := fun v_ : Int => WP mX6_gust Q 41 [vR 56, vI a, vI b] [vI v_] D4) hJ13 c14
          have o15 := o12.1 c14
          refine WP_bipush (z := (-2)) dX6_gust_39 rfl (by decide) ?_
          exact hJ13
        · replace hJ13 := ite_f (P := fun v_ : Int => WP mX6_gust Q 41 [vR 56, vI a, vI b] [vI v_] D4) hJ13 c14
          have o16 := o12.2 c14
          refine WP_iload_n (z := b) dX6_gust_17 rfl ?_
          refine WP_via (pc1 := 41) (ls1 := [vR 56, vI a, vI b]) (st1 := [vI (if b = 0 then ((D4 60 a.toNat) : Int) else (D4 61 a.toNat))]) (D1 := D4) (fun hJ17 => ?_) ?_
          · refine WP_if_ne (tgt := 30) dX6_gust_18 (by decide) (fun c18 => ?_) (fun c18 => ?_)
            · replace hJ17 := ite_f (P := fun v_ : Int => WP mX6_gust Q 41 [vR 56, vI a, vI b] [vI v_] D4) hJ17 c18
              have o20 := o16.2 c18
              refine WP_aload_n (z := 56) dX6_gust_30 rfl ?_
              refine WP_getR (z := 61) dX6_gust_31 fl_RX6_23 rfl rfl rfl ?_
              refine WP_iload_n (z := a) dX6_gust_34 rfl ?_
              refine WP_iald dX6_gust_35 rfl o20.1 o20.2 rfl ?_
              refine WP_goto (tgt := 41) dX6_gust_36 (by decide) ?_
              exact hJ17
            · replace hJ17 := ite_t (P := fun v_ : Int => WP mX6_gust Q 41 [vR 56, vI a, vI b] [vI v_] D4) hJ17 c18
              have o19 := o16.1 c18
              refine WP_aload_n (z := 56) dX6_gust_21 rfl ?_
              refine WP_getR (z := 60) dX6_gust_22 fl_RX6_20 rfl rfl rfl ?_
              refine WP_iload_n (z := a) dX6_gust_25 rfl ?_
              refine WP_iald dX6_gust_26 rfl o19.1 o19.2 rfl ?_
              refine WP_goto (tgt := 41) dX6_gust_27 (by decide) ?_
              exact hJ17
          exact hJ13
      exact hJ9
  · exact WP_ireturn dX6_gust_41 rfl h
def fX6_isSomewhere (D : HP) (a : Int) : Int := (if (D 56 3) ≤ (D 62 a.toNat) then (0 : Int) else (if (D 59 ((D 62 a.toNat)).toNat) = 0 then (1 : Int) else 0))
theorem bfX6_isSomewhere (D : HP) (a : Int) : fX6_isSomewhere D a = 0 ∨ fX6_isSomewhere D a = 1 := by unfold fX6_isSomewhere; exact (bool_ite (Or.inl rfl) (bool_ite (Or.inr rfl) (Or.inl rfl)))
def oX6_isSomewhere (D : HP) (a : Int) : Prop := ((0 ≤ a ∧ a < 9) ∧ (((((D 56 3) ≤ (D 62 a.toNat)) → True) ∧ (¬ ((D 56 3) ≤ (D 62 a.toNat)) → (0 ≤ a ∧ a < 9) ∧ (0 ≤ (D 62 a.toNat) ∧ (D 62 a.toNat) < 26))) ∧ True))
set_option maxRecDepth 100000 in
set_option maxHeartbeats 4000000 in
theorem V_X6_isSomewhere (a : Int) {D : HP} {Q : Option MV → HP → Prop}
    (h0 : cD D → c32 a → ((0 ≤ a ∧ a < 9) ∧ (((((D 56 3) ≤ (D 62 a.toNat)) → True) ∧ (¬ ((D 56 3) ≤ (D 62 a.toNat)) → (0 ≤ a ∧ a < 9) ∧ (0 ≤ (D 62 a.toNat) ∧ (D 62 a.toNat) < 26))) ∧ (Q (some (vI (if (D 56 3) ≤ (D 62 a.toNat) then (0 : Int) else (if (D 59 ((D 62 a.toNat)).toNat) = 0 then (1 : Int) else 0)))) D))))
    : CT mX6_isSomewhere [vR 56, vI a] D Q := by
  refine CT.of 0 (by decide) (Nat.le_of_ble_eq_true rfl) ?_
  show WP mX6_isSomewhere Q 0 [vR 56, vI a] [] D
  refine WP_cD (fun hcD => ?_)
  refine WP_cl (fun hcl => ?_)
  have h := h0 hcD (cVs_g hcl (i := 1) (v := vI a) rfl)
  refine WP_aload_n (z := 56) dX6_isSomewhere_0 rfl ?_
  refine WP_getR (z := 62) dX6_isSomewhere_1 fl_RX6_26 rfl rfl rfl ?_
  refine WP_iload_n (z := a) dX6_isSomewhere_4 rfl ?_
  obtain ⟨o8, h⟩ := h
  refine WP_iald dX6_isSomewhere_5 rfl o8.1 o8.2 rfl ?_
  refine WP_aload_n (z := 56) dX6_isSomewhere_6 rfl ?_
  refine WP_getI dX6_isSomewhere_7 fl_RX6_94 rfl rfl rfl ?_
  obtain ⟨o1, h⟩ := h
  refine WP_via (pc1 := 32) (ls1 := [vR 56, vI a]) (st1 := [vI (if (D 56 3) ≤ (D 62 a.toNat) then (0 : Int) else (if (D 59 ((D 62 a.toNat)).toNat) = 0 then (1 : Int) else 0))]) (D1 := D) (fun hJ2 => ?_) ?_
  · refine WP_icmp_ge (tgt := 31) dX6_isSomewhere_10 (by decide) (fun c3 => ?_) (fun c3 => ?_)
    · replace hJ2 := ite_t (P := fun v_ : Int => WP mX6_isSomewhere Q 32 [vR 56, vI a] [vI v_] D) hJ2 c3
      have o4 := o1.1 c3
      refine WP_iconst (z := 0) dX6_isSomewhere_31 rfl ⟨by decide, by decide⟩ ?_
      exact hJ2
    · replace hJ2 := ite_f (P := fun v_ : Int => WP mX6_isSomewhere Q 32 [vR 56, vI a] [vI v_] D) hJ2 c3
      have o5 := o1.2 c3
      refine WP_aload_n (z := 56) dX6_isSomewhere_13 rfl ?_
      refine WP_getR (z := 59) dX6_isSomewhere_14 fl_RX6_16 rfl rfl rfl ?_
      refine WP_aload_n (z := 56) dX6_isSomewhere_17 rfl ?_
      refine WP_getR (z := 62) dX6_isSomewhere_18 fl_RX6_26 rfl rfl rfl ?_
      refine WP_iload_n (z := a) dX6_isSomewhere_21 rfl ?_
      refine WP_iald dX6_isSomewhere_22 rfl o5.1.1 o5.1.2 rfl ?_
      refine WP_zald dX6_isSomewhere_23 rfl o5.2.1 o5.2.2 rfl ?_
      refine WP_via (pc1 := 32) (ls1 := [vR 56, vI a]) (st1 := [vI (if (D 59 ((D 62 a.toNat)).toNat) = 0 then (1 : Int) else 0)]) (D1 := D) (fun hJ6 => ?_) ?_
      · refine WP_if_ne (tgt := 31) dX6_isSomewhere_24 (by decide) (fun c7 => ?_) (fun c7 => ?_)
        · replace hJ6 := ite_f (P := fun v_ : Int => WP mX6_isSomewhere Q 32 [vR 56, vI a] [vI v_] D) hJ6 c7
          refine WP_iconst (z := 0) dX6_isSomewhere_31 rfl ⟨by decide, by decide⟩ ?_
          exact hJ6
        · replace hJ6 := ite_t (P := fun v_ : Int => WP mX6_isSomewhere Q 32 [vR 56, vI a] [vI v_] D) hJ6 c7
          refine WP_iconst (z := 1) dX6_isSomewhere_27 rfl ⟨by decide, by decide⟩ ?_
          refine WP_goto (tgt := 32) dX6_isSomewhere_28 (by decide) ?_
          exact hJ6
      exact hJ2
  · exact WP_zreturn dX6_isSomewhere_32 rfl (bool_ite (Or.inl rfl) (bool_ite (Or.inr rfl) (Or.inl rfl))) h
set_option maxRecDepth 100000 in
set_option maxHeartbeats 4000000 in
theorem P_X6_isSomewhere {a : Int} {D : HP} (hob : oX6_isSomewhere D a) : CT mX6_isSomewhere [vR 56, vI a] D (PF (vI (fX6_isSomewhere D a)) D) := by
  refine V_X6_isSomewhere a (fun hcD hc_0 => ?_)
  obtain ⟨z, hz⟩ : ∃ z, z = fX6_isSomewhere D a := ⟨_, rfl⟩
  rw [← hz]
  unfold fX6_isSomewhere at hz
  unfold oX6_isSomewhere at hob
  refine ⟨hob.1, ?_⟩
  replace hob := hob.2
  refine ⟨hob.1, ?_⟩
  replace hob := hob.2
  exact ⟨by rw [hz], rfl⟩
def fX6_candidateOf (D : HP) (a : Int) (b : Int) : Int := (if b = 0 then ((D 62 a.toNat) : Int) else (if b = 1 then ((D 63 a.toNat) : Int) else (if b = 2 then ((D 64 a.toNat) : Int) else (if (fX6_isSomewhere D a) = 0 then (0 : Int) else 1))))
def oX6_candidateOf (D : HP) (a : Int) (b : Int) : Prop := ((((b = 0) → (0 ≤ a ∧ a < 9)) ∧ (¬ (b = 0) → (((b = 1) → (0 ≤ a ∧ a < 9)) ∧ (¬ (b = 1) → (((b = 2) → (0 ≤ a ∧ a < 9)) ∧ (¬ (b = 2) → (oX6_isSomewhere D a))))))) ∧ True)
set_option maxRecDepth 100000 in
set_option maxHeartbeats 4000000 in
theorem V_X6_candidateOf (a : Int) (b : Int) {D : HP} {Q : Option MV → HP → Prop}
    (h0 : cD D → c32 a → c32 b → ((((b = 0) → (0 ≤ a ∧ a < 9)) ∧ (¬ (b = 0) → (((b = 1) → (0 ≤ a ∧ a < 9)) ∧ (¬ (b = 1) → (((b = 2) → (0 ≤ a ∧ a < 9)) ∧ (¬ (b = 2) → (oX6_isSomewhere D a))))))) ∧ (Q (some (vI (if b = 0 then ((D 62 a.toNat) : Int) else (if b = 1 then ((D 63 a.toNat) : Int) else (if b = 2 then ((D 64 a.toNat) : Int) else (if (fX6_isSomewhere D a) = 0 then (0 : Int) else 1)))))) D)))
    : CT mX6_candidateOf [vR 56, vI a, vI b] D Q := by
  refine CT.of 0 (by decide) (Nat.le_of_ble_eq_true rfl) ?_
  show WP mX6_candidateOf Q 0 [vR 56, vI a, vI b] [] D
  refine WP_cD (fun hcD => ?_)
  refine WP_cl (fun hcl => ?_)
  have h := h0 hcD (cVs_g hcl (i := 1) (v := vI a) rfl) (cVs_g hcl (i := 2) (v := vI b) rfl)
  refine WP_iload_n (z := b) dX6_candidateOf_0 rfl ?_
  obtain ⟨o1, h⟩ := h
  refine WP_via (pc1 := 54) (ls1 := [vR 56, vI a, vI b]) (st1 := [vI (if b = 0 then ((D 62 a.toNat) : Int) else (if b = 1 then ((D 63 a.toNat) : Int) else (if b = 2 then ((D 64 a.toNat) : Int) else (if (fX6_isSomewhere D a) = 0 then (0 : Int) else 1))))]) (D1 := D) (fun hJ2 => ?_) ?_
  · refine WP_if_ne (tgt := 13) dX6_candidateOf_1 (by decide) (fun c3 => ?_) (fun c3 => ?_)
    · replace hJ2 := ite_f (P := fun v_ : Int => WP mX6_candidateOf Q 54 [vR 56, vI a, vI b] [vI v_] D) hJ2 c3
      have o5 := o1.2 c3
      refine WP_iload_n (z := b) dX6_candidateOf_13 rfl ?_
      refine WP_iconst (z := 1) dX6_candidateOf_14 rfl ⟨by decide, by decide⟩ ?_
      refine WP_via (pc1 := 54) (ls1 := [vR 56, vI a, vI b]) (st1 := [vI (if b = 1 then ((D 63 a.toNat) : Int) else (if b = 2 then ((D 64 a.toNat) : Int) else (if (fX6_isSomewhere D a) = 0 then (0 : Int) else 1)))]) (D1 := D) (fun hJ6 => ?_) ?_
      · refine WP_icmp_ne (tgt := 27) dX6_candidateOf_15 (by decide) (fun c7 => ?_) (fun c7 => ?_)
        · replace hJ6 := ite_f (P := fun v_ : Int => WP mX6_candidateOf Q 54 [vR 56, vI a, vI b] [vI v_] D) hJ6 c7
          have o9 := o5.2 c7
          refine WP_iload_n (z := b) dX6_candidateOf_27 rfl ?_
          refine WP_iconst (z := 2) dX6_candidateOf_28 rfl ⟨by decide, by decide⟩ ?_
          refine WP_via (pc1 := 54) (ls1 := [vR 56, vI a, vI b]) (st1 := [vI (if b = 2 then ((D 64 a.toNat) : Int) else (if (fX6_isSomewhere D a) = 0 then (0 : Int) else 1))]) (D1 := D) (fun hJ10 => ?_) ?_
          · refine WP_icmp_ne (tgt := 41) dX6_candidateOf_29 (by decide) (fun c11 => ?_) (fun c11 => ?_)
            · replace hJ10 := ite_f (P := fun v_ : Int => WP mX6_candidateOf Q 54 [vR 56, vI a, vI b] [vI v_] D) hJ10 c11
              have o13 := o9.2 c11
              refine WP_aload_n (z := 56) dX6_candidateOf_41 rfl ?_
              refine WP_iload_n (z := a) dX6_candidateOf_42 rfl ?_
              refine WP_pcallV (g := mX6_isSomewhere) (as := [vI a]) (rest := []) (n := 1) (r := vI (fX6_isSomewhere D a)) dX6_candidateOf_43 wm_394 mo_X6_isSomewhere rfl rfl rfl rfl ⟨Nat.le_of_ble_eq_true rfl, Nat.le_of_ble_eq_true rfl⟩ (Nat.le_of_ble_eq_true rfl) (P_X6_isSomewhere  o13) ?_
              refine WP_via (pc1 := 54) (ls1 := [vR 56, vI a, vI b]) (st1 := [vI (if (fX6_isSomewhere D a) = 0 then (0 : Int) else 1)]) (D1 := D) (fun hJ14 => ?_) ?_
              · refine WP_if_eq (tgt := 53) dX6_candidateOf_46 (by decide) (fun c15 => ?_) (fun c15 => ?_)
                · replace hJ14 := ite_t (P := fun v_ : Int => WP mX6_candidateOf Q 54 [vR 56, vI a, vI b] [vI v_] D) hJ14 c15
                  refine WP_iconst (z := 0) dX6_candidateOf_53 rfl ⟨by decide, by decide⟩ ?_
                  exact hJ14
                · replace hJ14 := ite_f (P := fun v_ : Int => WP mX6_candidateOf Q 54 [vR 56, vI a, vI b] [vI v_] D) hJ14 c15
                  refine WP_iconst (z := 1) dX6_candidateOf_49 rfl ⟨by decide, by decide⟩ ?_
                  refine WP_goto (tgt := 54) dX6_candidateOf_50 (by decide) ?_
                  exact hJ14
              exact hJ10
            · replace hJ10 := ite_t (P := fun v_ : Int => WP mX6_candidateOf Q 54 [vR 56, vI a, vI b] [vI v_] D) hJ10 c11
              have o12 := o9.1 c11
              refine WP_aload_n (z := 56) dX6_candidateOf_32 rfl ?_
              refine WP_getR (z := 64) dX6_candidateOf_33 fl_RX6_32 rfl rfl rfl ?_
              refine WP_iload_n (z := a) dX6_candidateOf_36 rfl ?_
              refine WP_iald dX6_candidateOf_37 rfl o12.1 o12.2 rfl ?_
              refine WP_goto (tgt := 54) dX6_candidateOf_38 (by decide) ?_
              exact hJ10
          exact hJ6
        · replace hJ6 := ite_t (P := fun v_ : Int => WP mX6_candidateOf Q 54 [vR 56, vI a, vI b] [vI v_] D) hJ6 c7
          have o8 := o5.1 c7
          refine WP_aload_n (z := 56) dX6_candidateOf_18 rfl ?_
          refine WP_getR (z := 63) dX6_candidateOf_19 fl_RX6_29 rfl rfl rfl ?_
          refine WP_iload_n (z := a) dX6_candidateOf_22 rfl ?_
          refine WP_iald dX6_candidateOf_23 rfl o8.1 o8.2 rfl ?_
          refine WP_goto (tgt := 54) dX6_candidateOf_24 (by decide) ?_
          exact hJ6
      exact hJ2
    · replace hJ2 := ite_t (P := fun v_ : Int => WP mX6_candidateOf Q 54 [vR 56, vI a, vI b] [vI v_] D) hJ2 c3
      have o4 := o1.1 c3
      refine WP_aload_n (z := 56) dX6_candidateOf_4 rfl ?_
      refine WP_getR (z := 62) dX6_candidateOf_5 fl_RX6_26 rfl rfl rfl ?_
      refine WP_iload_n (z := a) dX6_candidateOf_8 rfl ?_
      refine WP_iald dX6_candidateOf_9 rfl o4.1 o4.2 rfl ?_
      refine WP_goto (tgt := 54) dX6_candidateOf_10 (by decide) ?_
      exact hJ2
  · exact WP_ireturn dX6_candidateOf_54 rfl h
set_option maxRecDepth 100000 in
set_option maxHeartbeats 4000000 in
theorem P_X6_candidateOf {a : Int} {b : Int} {D : HP} (hob : oX6_candidateOf D a b) : CT mX6_candidateOf [vR 56, vI a, vI b] D (PF (vI (fX6_candidateOf D a b)) D) := by
  refine V_X6_candidateOf a b (fun hcD hc_0 hc_1 => ?_)
  obtain ⟨z, hz⟩ : ∃ z, z = fX6_candidateOf D a b := ⟨_, rfl⟩
  rw [← hz]
  unfold fX6_candidateOf at hz
  unfold oX6_candidateOf at hob
  refine ⟨hob.1, ?_⟩
  replace hob := hob.2
  exact ⟨by rw [hz], rfl⟩
set_option maxRecDepth 100000 in
set_option maxHeartbeats 4000000 in
theorem V_X6_candidate (a : Int) (b : Int) {D : HP} {Q : Option MV → HP → Prop}
    (h0 : cD D → c32 a → c32 b → (∃ Q1 : Option MV → HP → Prop, CT mX6_isCandidate [vR 56, vI a] D Q1 ∧ ∀ (r5 : Int) (D4 : HP), Q1 (some (vI r5)) D4 → c32 r5 → cD D4 → ((((r5 = 0) → True) ∧ (¬ (r5 = 0) → ((((fX6_within D4 b 0 3) = 0) → True) ∧ (¬ ((fX6_within D4 b 0 3) = 0) → (oX6_candidateOf D4 a b))))) ∧ (Q (some (vI (if r5 = 0 then ((-2) : Int) else (if (fX6_within D4 b 0 3) = 0 then ((-2) : Int) else (fX6_candidateOf D4 a b))))) D4))))
    : CT mX6_candidate [vR 56, vI a, vI b] D Q := by
  refine CT.of 0 (by decide) (Nat.le_of_ble_eq_true rfl) ?_
  show WP mX6_candidate Q 0 [vR 56, vI a, vI b] [] D
  refine WP_cD (fun hcD => ?_)
  refine WP_cl (fun hcl => ?_)
  have h := h0 hcD (cVs_g hcl (i := 1) (v := vI a) rfl) (cVs_g hcl (i := 2) (v := vI b) rfl)
  refine WP_aload_n (z := 56) dX6_candidate_0 rfl ?_
  refine WP_iload_n (z := a) dX6_candidate_1 rfl ?_
  obtain ⟨Q1, ct3, h⟩ := h
  refine WP_callV (g := mX6_isCandidate) (as := [vI a]) (rest := []) (n := 1) dX6_candidate_2 wm_386 mo_X6_isCandidate rfl rfl rfl rfl ⟨Nat.le_of_ble_eq_true rfl, Nat.le_of_ble_eq_true rfl⟩ (Nat.le_of_ble_eq_true rfl) ct3 (fun r_ D4 hq2 hok hD7 => ?_)
  obtain ⟨r5, rfl, hr6⟩ := hok
  replace h := h r5 D4 hq2 hr6 hD7
  show WP mX6_candidate Q 5 [vR 56, vI a, vI b] [vI r5] D4
  obtain ⟨o8, h⟩ := h
  refine WP_via (pc1 := 28) (ls1 := [vR 56, vI a, vI b]) (st1 := [vI (if r5 = 0 then ((-2) : Int) else (if (fX6_within D4 b 0 3) = 0 then ((-2) : Int) else (fX6_candidateOf D4 a b)))]) (D1 := D4) (fun hJ9 => ?_) ?_
  · refine WP_if_eq (tgt := 26) dX6_candidate_5 (by decide) (fun c10 => ?_) (fun c10 => ?_)
    · replace hJ9 := ite_t (P := fun v_ : Int => WP mX6_candidate Q 28 [vR 56, vI a, vI b] [vI v_] D4) hJ9 c10
      have o11 := o8.1 c10
      refine WP_bipush (z := (-2)) dX6_candidate_26 rfl (by decide) ?_
      exact hJ9
    · replace hJ9 := ite_f (P := fun v_ : Int => WP mX6_candidate Q 28 [vR 56, vI a, vI b] [vI v_] D4) hJ9 c10
      have o12 := o8.2 c10
      refine WP_iload_n (z := b) dX6_candidate_8 rfl ?_
      refine WP_iconst (z := 0) dX6_candidate_9 rfl ⟨by decide, by decide⟩ ?_
      refine WP_iconst (z := 3) dX6_candidate_10 rfl ⟨by decide, by decide⟩ ?_
      refine WP_pcallS (g := mX6_within) (as := [vI b, vI 0, vI 3]) (rest := []) (n := 3) (r := vI (fX6_within D4 b 0 3)) dX6_candidate_11 wm_262 mo_X6_within rfl rfl ⟨Nat.le_of_ble_eq_true rfl, Nat.le_of_ble_eq_true rfl⟩ (Nat.le_of_ble_eq_true rfl) (P_X6_within  trivial) ?_
      refine WP_via (pc1 := 28) (ls1 := [vR 56, vI a, vI b]) (st1 := [vI (if (fX6_within D4 b 0 3) = 0 then ((-2) : Int) else (fX6_candidateOf D4 a b))]) (D1 := D4) (fun hJ13 => ?_) ?_
      · refine WP_if_eq (tgt := 26) dX6_candidate_14 (by decide) (fun c14 => ?_) (fun c14 => ?_)
        · replace hJ13 := ite_t (P := fun v_ : Int => WP mX6_candidate Q 28 [vR 56, vI a, vI b] [vI v_] D4) hJ13 c14
          have o15 := o12.1 c14
          refine WP_bipush (z := (-2)) dX6_candidate_26 rfl (by decide) ?_
          exact hJ13
        · replace hJ13 := ite_f (P := fun v_ : Int => WP mX6_candidate Q 28 [vR 56, vI a, vI b] [vI v_] D4) hJ13 c14
          have o16 := o12.2 c14
          refine WP_aload_n (z := 56) dX6_candidate_17 rfl ?_
          refine WP_iload_n (z := a) dX6_candidate_18 rfl ?_
          refine WP_iload_n (z := b) dX6_candidate_19 rfl ?_
          refine WP_pcallV (g := mX6_candidateOf) (as := [vI a, vI b]) (rest := []) (n := 2) (r := vI (fX6_candidateOf D4 a b)) dX6_candidate_20 wm_390 mo_X6_candidateOf rfl rfl rfl rfl ⟨Nat.le_of_ble_eq_true rfl, Nat.le_of_ble_eq_true rfl⟩ (Nat.le_of_ble_eq_true rfl) (P_X6_candidateOf  o16) ?_
          refine WP_goto (tgt := 28) dX6_candidate_23 (by decide) ?_
          exact hJ13
      exact hJ9
  · exact WP_ireturn dX6_candidate_28 rfl h
def fX6_beside (D : HP) (a : Int) (b : Int) : Int := (if (fX6_within D (if b = 0 then ((a - (D 56 2)) : Int) else (if b = 1 then ((if ((D 56 2) - 1) ≤ (a % (D 56 2)) then ((-1) : Int) else (a + 1)) : Int) else (if b = 2 then ((a + (D 56 2)) : Int) else (if (a % (D 56 2)) ≤ 0 then ((-1) : Int) else (a - 1))))) 0 ((D 56 3) - 1)) = 0 then ((-1) : Int) else (if b = 0 then ((a - (D 56 2)) : Int) else (if b = 1 then ((if ((D 56 2) - 1) ≤ (a % (D 56 2)) then ((-1) : Int) else (a + 1)) : Int) else (if b = 2 then ((a + (D 56 2)) : Int) else (if (a % (D 56 2)) ≤ 0 then ((-1) : Int) else (a - 1))))))
def oX6_beside (D : HP) (a : Int) (b : Int) : Prop := ((((b = 0) → (c32 (a - (D 56 2)))) ∧ (¬ (b = 0) → (((b = 1) → (0 ≤ a ∧ 0 < (D 56 2)) ∧ (c32 ((D 56 2) - 1)) ∧ (((((D 56 2) - 1) ≤ (a % (D 56 2))) → True) ∧ (¬ (((D 56 2) - 1) ≤ (a % (D 56 2))) → (c32 (a + 1))))) ∧ (¬ (b = 1) → (((b = 2) → (c32 (a + (D 56 2)))) ∧ (¬ (b = 2) → (0 ≤ a ∧ 0 < (D 56 2)) ∧ ((((a % (D 56 2)) ≤ 0) → True) ∧ (¬ ((a % (D 56 2)) ≤ 0) → (c32 (a - 1)))))))))) ∧ ((c32 ((D 56 3) - 1)) ∧ True))
set_option maxRecDepth 100000 in
set_option maxHeartbeats 4000000 in
theorem V_X6_beside (a : Int) (b : Int) {D : HP} {Q : Option MV → HP → Prop}
    (h0 : cD D → c32 a → c32 b → ((((b = 0) → (c32 (a - (D 56 2)))) ∧ (¬ (b = 0) → (((b = 1) → (0 ≤ a ∧ 0 < (D 56 2)) ∧ (c32 ((D 56 2) - 1)) ∧ (((((D 56 2) - 1) ≤ (a % (D 56 2))) → True) ∧ (¬ (((D 56 2) - 1) ≤ (a % (D 56 2))) → (c32 (a + 1))))) ∧ (¬ (b = 1) → (((b = 2) → (c32 (a + (D 56 2)))) ∧ (¬ (b = 2) → (0 ≤ a ∧ 0 < (D 56 2)) ∧ ((((a % (D 56 2)) ≤ 0) → True) ∧ (¬ ((a % (D 56 2)) ≤ 0) → (c32 (a - 1)))))))))) ∧ ((c32 ((D 56 3) - 1)) ∧ (Q (some (vI (if (fX6_within D (if b = 0 then ((a - (D 56 2)) : Int) else (if b = 1 then ((if ((D 56 2) - 1) ≤ (a % (D 56 2)) then ((-1) : Int) else (a + 1)) : Int) else (if b = 2 then ((a + (D 56 2)) : Int) else (if (a % (D 56 2)) ≤ 0 then ((-1) : Int) else (a - 1))))) 0 ((D 56 3) - 1)) = 0 then ((-1) : Int) else (if b = 0 then ((a - (D 56 2)) : Int) else (if b = 1 then ((if ((D 56 2) - 1) ≤ (a % (D 56 2)) then ((-1) : Int) else (a + 1)) : Int) else (if b = 2 then ((a + (D 56 2)) : Int) else (if (a % (D 56 2)) ≤ 0 then ((-1) : Int) else (a - 1)))))))) D))))
    : CT mX6_beside [vR 56, vI a, vI b] D Q := by
  refine CT.of 1 (by decide) (Nat.le_of_ble_eq_true rfl) ?_
  show WP mX6_beside Q 0 [vR 56, vI a, vI b, vU] [] D
  refine WP_cD (fun hcD => ?_)
  refine WP_cl (fun hcl => ?_)
  have h := h0 hcD (cVs_g hcl (i := 1) (v := vI a) rfl) (cVs_g hcl (i := 2) (v := vI b) rfl)
  refine WP_iload_n (z := b) dX6_beside_0 rfl ?_
  obtain ⟨o1, h⟩ := h
  refine WP_via (pc1 := 73) (ls1 := [vR 56, vI a, vI b, vU]) (st1 := [vI (if b = 0 then ((a - (D 56 2)) : Int) else (if b = 1 then ((if ((D 56 2) - 1) ≤ (a % (D 56 2)) then ((-1) : Int) else (a + 1)) : Int) else (if b = 2 then ((a + (D 56 2)) : Int) else (if (a % (D 56 2)) ≤ 0 then ((-1) : Int) else (a - 1)))))]) (D1 := D) (fun hJ5 => ?_) ?_
  · refine WP_if_ne (tgt := 13) dX6_beside_1 (by decide) (fun c6 => ?_) (fun c6 => ?_)
    · replace hJ5 := ite_f (P := fun v_ : Int => WP mX6_beside Q 73 [vR 56, vI a, vI b, vU] [vI v_] D) hJ5 c6
      have o8 := o1.2 c6
      refine WP_iload_n (z := b) dX6_beside_13 rfl ?_
      refine WP_iconst (z := 1) dX6_beside_14 rfl ⟨by decide, by decide⟩ ?_
      refine WP_via (pc1 := 73) (ls1 := [vR 56, vI a, vI b, vU]) (st1 := [vI (if b = 1 then ((if ((D 56 2) - 1) ≤ (a % (D 56 2)) then ((-1) : Int) else (a + 1)) : Int) else (if b = 2 then ((a + (D 56 2)) : Int) else (if (a % (D 56 2)) ≤ 0 then ((-1) : Int) else (a - 1))))]) (D1 := D) (fun hJ9 => ?_) ?_
      · refine WP_icmp_ne (tgt := 43) dX6_beside_15 (by decide) (fun c10 => ?_) (fun c10 => ?_)
        · replace hJ9 := ite_f (P := fun v_ : Int => WP mX6_beside Q 73 [vR 56, vI a, vI b, vU] [vI v_] D) hJ9 c10
          have o16 := o8.2 c10
          refine WP_iload_n (z := b) dX6_beside_43 rfl ?_
          refine WP_iconst (z := 2) dX6_beside_44 rfl ⟨by decide, by decide⟩ ?_
          refine WP_via (pc1 := 73) (ls1 := [vR 56, vI a, vI b, vU]) (st1 := [vI (if b = 2 then ((a + (D 56 2)) : Int) else (if (a % (D 56 2)) ≤ 0 then ((-1) : Int) else (a - 1)))]) (D1 := D) (fun hJ17 => ?_) ?_
          · refine WP_icmp_ne (tgt := 57) dX6_beside_45 (by decide) (fun c18 => ?_) (fun c18 => ?_)
            · replace hJ17 := ite_f (P := fun v_ : Int => WP mX6_beside Q 73 [vR 56, vI a, vI b, vU] [vI v_] D) hJ17 c18
              have o20 := o16.2 c18
              refine WP_iload_n (z := a) dX6_beside_57 rfl ?_
              refine WP_aload_n (z := 56) dX6_beside_58 rfl ?_
              refine WP_getI dX6_beside_59 fl_RX6_98 rfl rfl rfl ?_
              refine WP_irem dX6_beside_62 o20.1.1 o20.1.2 rfl ?_
              refine WP_via (pc1 := 73) (ls1 := [vR 56, vI a, vI b, vU]) (st1 := [vI (if (a % (D 56 2)) ≤ 0 then ((-1) : Int) else (a - 1))]) (D1 := D) (fun hJ21 => ?_) ?_
              · refine WP_if_le (tgt := 72) dX6_beside_63 (by decide) (fun c22 => ?_) (fun c22 => ?_)
                · replace hJ21 := ite_t (P := fun v_ : Int => WP mX6_beside Q 73 [vR 56, vI a, vI b, vU] [vI v_] D) hJ21 c22
                  have o23 := o20.2.1 c22
                  refine WP_iconst (z := (-1)) dX6_beside_72 rfl ⟨by decide, by decide⟩ ?_
                  exact hJ21
                · replace hJ21 := ite_f (P := fun v_ : Int => WP mX6_beside Q 73 [vR 56, vI a, vI b, vU] [vI v_] D) hJ21 c22
                  have o24 := o20.2.2 c22
                  refine WP_iload_n (z := a) dX6_beside_66 rfl ?_
                  refine WP_iconst (z := 1) dX6_beside_67 rfl ⟨by decide, by decide⟩ ?_
                  refine WP_isub (z := (a - 1)) dX6_beside_68 (w32_id o24) ?_
                  refine WP_goto (tgt := 73) dX6_beside_69 (by decide) ?_
                  exact hJ21
              exact hJ17
            · replace hJ17 := ite_t (P := fun v_ : Int => WP mX6_beside Q 73 [vR 56, vI a, vI b, vU] [vI v_] D) hJ17 c18
              have o19 := o16.1 c18
              refine WP_iload_n (z := a) dX6_beside_48 rfl ?_
              refine WP_aload_n (z := 56) dX6_beside_49 rfl ?_
              refine WP_getI dX6_beside_50 fl_RX6_98 rfl rfl rfl ?_
              refine WP_iadd (z := (a + (D 56 2))) dX6_beside_53 (w32_id o19) ?_
              refine WP_goto (tgt := 73) dX6_beside_54 (by decide) ?_
              exact hJ17
          exact hJ9
        · replace hJ9 := ite_t (P := fun v_ : Int => WP mX6_beside Q 73 [vR 56, vI a, vI b, vU] [vI v_] D) hJ9 c10
          have o11 := o8.1 c10
          refine WP_iload_n (z := a) dX6_beside_18 rfl ?_
          refine WP_aload_n (z := 56) dX6_beside_19 rfl ?_
          refine WP_getI dX6_beside_20 fl_RX6_98 rfl rfl rfl ?_
          refine WP_irem dX6_beside_23 o11.1.1 o11.1.2 rfl ?_
          refine WP_aload_n (z := 56) dX6_beside_24 rfl ?_
          refine WP_getI dX6_beside_25 fl_RX6_98 rfl rfl rfl ?_
          refine WP_iconst (z := 1) dX6_beside_28 rfl ⟨by decide, by decide⟩ ?_
          refine WP_isub (z := ((D 56 2) - 1)) dX6_beside_29 (w32_id o11.2.1) ?_
          refine WP_via (pc1 := 73) (ls1 := [vR 56, vI a, vI b, vU]) (st1 := [vI (if ((D 56 2) - 1) ≤ (a % (D 56 2)) then ((-1) : Int) else (a + 1))]) (D1 := D) (fun hJ12 => ?_) ?_
          · refine WP_icmp_ge (tgt := 39) dX6_beside_30 (by decide) (fun c13 => ?_) (fun c13 => ?_)
            · replace hJ12 := ite_t (P := fun v_ : Int => WP mX6_beside Q 73 [vR 56, vI a, vI b, vU] [vI v_] D) hJ12 c13
              have o14 := o11.2.2.1 c13
              refine WP_iconst (z := (-1)) dX6_beside_39 rfl ⟨by decide, by decide⟩ ?_
              refine WP_goto (tgt := 73) dX6_beside_40 (by decide) ?_
              exact hJ12
            · replace hJ12 := ite_f (P := fun v_ : Int => WP mX6_beside Q 73 [vR 56, vI a, vI b, vU] [vI v_] D) hJ12 c13
              have o15 := o11.2.2.2 c13
              refine WP_iload_n (z := a) dX6_beside_33 rfl ?_
              refine WP_iconst (z := 1) dX6_beside_34 rfl ⟨by decide, by decide⟩ ?_
              refine WP_iadd (z := (a + 1)) dX6_beside_35 (w32_id o15) ?_
              refine WP_goto (tgt := 73) dX6_beside_36 (by decide) ?_
              exact hJ12
          exact hJ9
      exact hJ5
    · replace hJ5 := ite_t (P := fun v_ : Int => WP mX6_beside Q 73 [vR 56, vI a, vI b, vU] [vI v_] D) hJ5 c6
      have o7 := o1.1 c6
      refine WP_iload_n (z := a) dX6_beside_4 rfl ?_
      refine WP_aload_n (z := 56) dX6_beside_5 rfl ?_
      refine WP_getI dX6_beside_6 fl_RX6_98 rfl rfl rfl ?_
      refine WP_isub (z := (a - (D 56 2))) dX6_beside_9 (w32_id o7) ?_
      refine WP_goto (tgt := 73) dX6_beside_10 (by decide) ?_
      exact hJ5
  · refine WP_istore_n (ls1 := [vR 56, vI a, vI b, vI (if b = 0 then ((a - (D 56 2)) : Int) else (if b = 1 then ((if ((D 56 2) - 1) ≤ (a % (D 56 2)) then ((-1) : Int) else (a + 1)) : Int) else (if b = 2 then ((a + (D 56 2)) : Int) else (if (a % (D 56 2)) ≤ 0 then ((-1) : Int) else (a - 1)))))]) dX6_beside_73 (by decide) rfl ?_
    refine WP_iload_n (z := (if b = 0 then ((a - (D 56 2)) : Int) else (if b = 1 then ((if ((D 56 2) - 1) ≤ (a % (D 56 2)) then ((-1) : Int) else (a + 1)) : Int) else (if b = 2 then ((a + (D 56 2)) : Int) else (if (a % (D 56 2)) ≤ 0 then ((-1) : Int) else (a - 1)))))) dX6_beside_74 rfl ?_
    refine WP_iconst (z := 0) dX6_beside_75 rfl ⟨by decide, by decide⟩ ?_
    refine WP_aload_n (z := 56) dX6_beside_76 rfl ?_
    refine WP_getI dX6_beside_77 fl_RX6_94 rfl rfl rfl ?_
    refine WP_iconst (z := 1) dX6_beside_80 rfl ⟨by decide, by decide⟩ ?_
    obtain ⟨o4, h⟩ := h
    refine WP_isub (z := ((D 56 3) - 1)) dX6_beside_81 (w32_id o4) ?_
    refine WP_pcallS (g := mX6_within) (as := [vI (if b = 0 then ((a - (D 56 2)) : Int) else (if b = 1 then ((if ((D 56 2) - 1) ≤ (a % (D 56 2)) then ((-1) : Int) else (a + 1)) : Int) else (if b = 2 then ((a + (D 56 2)) : Int) else (if (a % (D 56 2)) ≤ 0 then ((-1) : Int) else (a - 1))))), vI 0, vI ((D 56 3) - 1)]) (rest := []) (n := 3) (r := vI (fX6_within D (if b = 0 then ((a - (D 56 2)) : Int) else (if b = 1 then ((if ((D 56 2) - 1) ≤ (a % (D 56 2)) then ((-1) : Int) else (a + 1)) : Int) else (if b = 2 then ((a + (D 56 2)) : Int) else (if (a % (D 56 2)) ≤ 0 then ((-1) : Int) else (a - 1))))) 0 ((D 56 3) - 1))) dX6_beside_82 wm_262 mo_X6_within rfl rfl ⟨Nat.le_of_ble_eq_true rfl, Nat.le_of_ble_eq_true rfl⟩ (Nat.le_of_ble_eq_true rfl) (P_X6_within  trivial) ?_
    refine WP_via (pc1 := 93) (ls1 := [vR 56, vI a, vI b, vI (if b = 0 then ((a - (D 56 2)) : Int) else (if b = 1 then ((if ((D 56 2) - 1) ≤ (a % (D 56 2)) then ((-1) : Int) else (a + 1)) : Int) else (if b = 2 then ((a + (D 56 2)) : Int) else (if (a % (D 56 2)) ≤ 0 then ((-1) : Int) else (a - 1)))))]) (st1 := [vI (if (fX6_within D (if b = 0 then ((a - (D 56 2)) : Int) else (if b = 1 then ((if ((D 56 2) - 1) ≤ (a % (D 56 2)) then ((-1) : Int) else (a + 1)) : Int) else (if b = 2 then ((a + (D 56 2)) : Int) else (if (a % (D 56 2)) ≤ 0 then ((-1) : Int) else (a - 1))))) 0 ((D 56 3) - 1)) = 0 then ((-1) : Int) else (if b = 0 then ((a - (D 56 2)) : Int) else (if b = 1 then ((if ((D 56 2) - 1) ≤ (a % (D 56 2)) then ((-1) : Int) else (a + 1)) : Int) else (if b = 2 then ((a + (D 56 2)) : Int) else (if (a % (D 56 2)) ≤ 0 then ((-1) : Int) else (a - 1))))))]) (D1 := D) (fun hJ2 => ?_) ?_
    · refine WP_if_eq (tgt := 92) dX6_beside_85 (by decide) (fun c3 => ?_) (fun c3 => ?_)
      · replace hJ2 := ite_t (P := fun v_ : Int => WP mX6_beside Q 93 [vR 56, vI a, vI b, vI (if b = 0 then ((a - (D 56 2)) : Int) else (if b = 1 then ((if ((D 56 2) - 1) ≤ (a % (D 56 2)) then ((-1) : Int) else (a + 1)) : Int) else (if b = 2 then ((a + (D 56 2)) : Int) else (if (a % (D 56 2)) ≤ 0 then ((-1) : Int) else (a - 1)))))] [vI v_] D) hJ2 c3
        refine WP_iconst (z := (-1)) dX6_beside_92 rfl ⟨by decide, by decide⟩ ?_
        exact hJ2
      · replace hJ2 := ite_f (P := fun v_ : Int => WP mX6_beside Q 93 [vR 56, vI a, vI b, vI (if b = 0 then ((a - (D 56 2)) : Int) else (if b = 1 then ((if ((D 56 2) - 1) ≤ (a % (D 56 2)) then ((-1) : Int) else (a + 1)) : Int) else (if b = 2 then ((a + (D 56 2)) : Int) else (if (a % (D 56 2)) ≤ 0 then ((-1) : Int) else (a - 1)))))] [vI v_] D) hJ2 c3
        refine WP_iload_n (z := (if b = 0 then ((a - (D 56 2)) : Int) else (if b = 1 then ((if ((D 56 2) - 1) ≤ (a % (D 56 2)) then ((-1) : Int) else (a + 1)) : Int) else (if b = 2 then ((a + (D 56 2)) : Int) else (if (a % (D 56 2)) ≤ 0 then ((-1) : Int) else (a - 1)))))) dX6_beside_88 rfl ?_
        refine WP_goto (tgt := 93) dX6_beside_89 (by decide) ?_
        exact hJ2
    · exact WP_ireturn dX6_beside_93 rfl h
set_option maxRecDepth 100000 in
set_option maxHeartbeats 4000000 in
theorem P_X6_beside {a : Int} {b : Int} {D : HP} (hob : oX6_beside D a b) : CT mX6_beside [vR 56, vI a, vI b] D (PF (vI (fX6_beside D a b)) D) := by
  refine V_X6_beside a b (fun hcD hc_0 hc_1 => ?_)
  obtain ⟨z, hz⟩ : ∃ z, z = fX6_beside D a b := ⟨_, rfl⟩
  rw [← hz]
  unfold fX6_beside at hz
  unfold oX6_beside at hob
  refine ⟨hob.1, ?_⟩
  replace hob := hob.2
  refine ⟨hob.1, ?_⟩
  replace hob := hob.2
  exact ⟨by rw [hz], rfl⟩
def fX6_isWallAt (D : HP) (a : Int) : Int := (if a = (-1) then (0 : Int) else (if (D 59 a.toNat) = 0 then (0 : Int) else 1))
theorem bfX6_isWallAt (D : HP) (a : Int) : fX6_isWallAt D a = 0 ∨ fX6_isWallAt D a = 1 := by unfold fX6_isWallAt; exact (bool_ite (Or.inl rfl) (bool_ite (Or.inl rfl) (Or.inr rfl)))
def oX6_isWallAt (D : HP) (a : Int) : Prop := ((((a = (-1)) → True) ∧ (¬ (a = (-1)) → (0 ≤ a ∧ a < 26))) ∧ True)
set_option maxRecDepth 100000 in
set_option maxHeartbeats 4000000 in
theorem V_X6_isWallAt (a : Int) {D : HP} {Q : Option MV → HP → Prop}
    (h0 : cD D → c32 a → ((((a = (-1)) → True) ∧ (¬ (a = (-1)) → (0 ≤ a ∧ a < 26))) ∧ (Q (some (vI (if a = (-1) then (0 : Int) else (if (D 59 a.toNat) = 0 then (0 : Int) else 1)))) D)))
    : CT mX6_isWallAt [vR 56, vI a] D Q := by
  refine CT.of 0 (by decide) (Nat.le_of_ble_eq_true rfl) ?_
  show WP mX6_isWallAt Q 0 [vR 56, vI a] [] D
  refine WP_cD (fun hcD => ?_)
  refine WP_cl (fun hcl => ?_)
  have h := h0 hcD (cVs_g hcl (i := 1) (v := vI a) rfl)
  refine WP_iload_n (z := a) dX6_isWallAt_0 rfl ?_
  refine WP_iconst (z := (-1)) dX6_isWallAt_1 rfl ⟨by decide, by decide⟩ ?_
  obtain ⟨o1, h⟩ := h
  refine WP_via (pc1 := 19) (ls1 := [vR 56, vI a]) (st1 := [vI (if a = (-1) then (0 : Int) else (if (D 59 a.toNat) = 0 then (0 : Int) else 1))]) (D1 := D) (fun hJ2 => ?_) ?_
  · refine WP_icmp_eq (tgt := 18) dX6_isWallAt_2 (by decide) (fun c3 => ?_) (fun c3 => ?_)
    · replace hJ2 := ite_t (P := fun v_ : Int => WP mX6_isWallAt Q 19 [vR 56, vI a] [vI v_] D) hJ2 c3
      have o4 := o1.1 c3
      refine WP_iconst (z := 0) dX6_isWallAt_18 rfl ⟨by decide, by decide⟩ ?_
      exact hJ2
    · replace hJ2 := ite_f (P := fun v_ : Int => WP mX6_isWallAt Q 19 [vR 56, vI a] [vI v_] D) hJ2 c3
      have o5 := o1.2 c3
      refine WP_aload_n (z := 56) dX6_isWallAt_5 rfl ?_
      refine WP_getR (z := 59) dX6_isWallAt_6 fl_RX6_16 rfl rfl rfl ?_
      refine WP_iload_n (z := a) dX6_isWallAt_9 rfl ?_
      refine WP_zald dX6_isWallAt_10 rfl o5.1 o5.2 rfl ?_
      refine WP_via (pc1 := 19) (ls1 := [vR 56, vI a]) (st1 := [vI (if (D 59 a.toNat) = 0 then (0 : Int) else 1)]) (D1 := D) (fun hJ6 => ?_) ?_
      · refine WP_if_eq (tgt := 18) dX6_isWallAt_11 (by decide) (fun c7 => ?_) (fun c7 => ?_)
        · replace hJ6 := ite_t (P := fun v_ : Int => WP mX6_isWallAt Q 19 [vR 56, vI a] [vI v_] D) hJ6 c7
          refine WP_iconst (z := 0) dX6_isWallAt_18 rfl ⟨by decide, by decide⟩ ?_
          exact hJ6
        · replace hJ6 := ite_f (P := fun v_ : Int => WP mX6_isWallAt Q 19 [vR 56, vI a] [vI v_] D) hJ6 c7
          refine WP_iconst (z := 1) dX6_isWallAt_14 rfl ⟨by decide, by decide⟩ ?_
          refine WP_goto (tgt := 19) dX6_isWallAt_15 (by decide) ?_
          exact hJ6
      exact hJ2
  · exact WP_zreturn dX6_isWallAt_19 rfl (bool_ite (Or.inl rfl) (bool_ite (Or.inl rfl) (Or.inr rfl))) h
set_option maxRecDepth 100000 in
set_option maxHeartbeats 4000000 in
theorem P_X6_isWallAt {a : Int} {D : HP} (hob : oX6_isWallAt D a) : CT mX6_isWallAt [vR 56, vI a] D (PF (vI (fX6_isWallAt D a)) D) := by
  refine V_X6_isWallAt a (fun hcD hc_0 => ?_)
  obtain ⟨z, hz⟩ : ∃ z, z = fX6_isWallAt D a := ⟨_, rfl⟩
  rw [← hz]
  unfold fX6_isWallAt at hz
  unfold oX6_isWallAt at hob
  refine ⟨hob.1, ?_⟩
  replace hob := hob.2
  exact ⟨by rw [hz], rfl⟩
def fX6_isLee (D : HP) (a b : Int) : Int := if exB (fun k => decide (b ≠ -1 ∧ D 62 k = b ∧ D 59 b.toNat = 0 ∧ (D 66 k = -1 ∨ a ≤ D 66 k))) (D 56 8).toNat then 1 else 0
def oX6_isLee (D : HP) (a b : Int) : Prop := D 56 8 ≤ 8 ∧ (b = -1 ∨ (0 ≤ b ∧ b < 26))
theorem bfX6_isLee (D : HP) (a : Int) (b : Int) : fX6_isLee D a b = 0 ∨ fX6_isLee D a b = 1 := by unfold fX6_isLee; split <;> simp
set_option maxRecDepth 100000 in
set_option maxHeartbeats 4000000 in
theorem V_X6_isLee (a : Int) (b : Int) {D : HP} {Q : Option MV → HP → Prop} (I5 : Int → Int → Int → Int → HP → Prop) (u5 : Int → Int → Int → Int → HP → Nat)
    (h0 : cD D → c32 a → c32 b → (I5 a b 0 0 D))
    (h5 : ∀ (x1 x2 x3 x4 : Int) (D : HP), I5 x1 x2 x3 x4 D → cD D → c32 x1 → c32 x2 → c32 x3 → c32 x4 → (((D 56 8) ≤ x4 → ((x3 = 0 ∨ x3 = 1) ∧ Q (some (vI x3)) D)) ∧ (¬ ((D 56 8) ≤ x4) → ((((x3 = 0) → (((x2 = (-1)) → True) ∧ (¬ (x2 = (-1)) → (0 ≤ x4 ∧ x4 < 9) ∧ ((((D 62 x4.toNat) = x2) → (0 ≤ x2 ∧ x2 < 26) ∧ ((((D 59 x2.toNat) = 0) → (0 ≤ x4 ∧ x4 < 8) ∧ ((((D 66 x4.toNat) = (-1)) → True) ∧ (¬ ((D 66 x4.toNat) = (-1)) → (0 ≤ x4 ∧ x4 < 8)))) ∧ (¬ ((D 59 x2.toNat) = 0) → True))) ∧ (¬ ((D 62 x4.toNat) = x2) → True))))) ∧ (¬ (x3 = 0) → True)) ∧ ((c32 (x4 + 1)) ∧ (I5 x1 x2 (if x3 = 0 then ((if x2 = (-1) then (0 : Int) else (if (D 62 x4.toNat) = x2 then ((if (D 59 x2.toNat) = 0 then ((if (D 66 x4.toNat) = (-1) then (1 : Int) else (if (D 66 x4.toNat) < x1 then (0 : Int) else 1)) : Int) else 0) : Int) else 0)) : Int) else 1) (x4 + 1) D ∧ u5 x1 x2 (if x3 = 0 then ((if x2 = (-1) then (0 : Int) else (if (D 62 x4.toNat) = x2 then ((if (D 59 x2.toNat) = 0 then ((if (D 66 x4.toNat) = (-1) then (1 : Int) else (if (D 66 x4.toNat) < x1 then (0 : Int) else 1)) : Int) else 0) : Int) else 0)) : Int) else 1) (x4 + 1) D < u5 x1 x2 x3 x4 D))))))
    : CT mX6_isLee [vR 56, vI a, vI b] D Q := by
  refine CT.of 2 (by decide) (Nat.le_of_ble_eq_true rfl) ?_
  show WP mX6_isLee Q 0 [vR 56, vI a, vI b, vU, vU] [] D
  have IH : ∀ n : Nat, (∀ (x1 x2 x3 x4 : Int) (D : HP), I5 x1 x2 x3 x4 D → u5 x1 x2 x3 x4 D * 1 + 0 < n → WP mX6_isLee Q 5 [vR 56, vI x1, vI x2, vI x3, vI x4] [] D) := by
    intro n
    induction n with
    | zero => exact fun _ _ _ _ _ _ h => absurd h (Nat.not_lt_zero _)
    | succ n ih =>
      have ih5_ := ih
      · intro x1 x2 x3 x4 D hI hn
        refine WP_cD (fun hcD => ?_)
        refine WP_cl (fun hcl => ?_)
        have h := h5 x1 x2 x3 x4 D hI hcD (cVs_g hcl (i := 1) (v := vI x1) rfl) (cVs_g hcl (i := 2) (v := vI x2) rfl) (cVs_g hcl (i := 3) (v := vI x3) rfl) (cVs_g hcl (i := 4) (v := vI x4) rfl)
        refine WP_iload (z := x4) dX6_isLee_5 rfl ?_
        refine WP_aload_n (z := 56) dX6_isLee_7 rfl ?_
        refine WP_getI dX6_isLee_8 fl_RX6_112 rfl rfl rfl ?_
        refine WP_icmp_ge (tgt := 77) dX6_isLee_11 (by decide) (fun c1 => ?_) (fun c1 => ?_)
        · replace h := h.1 c1
          refine WP_iload_n (z := x3) dX6_isLee_77 rfl ?_
          exact WP_zreturn dX6_isLee_78 rfl h.1 h.2
        · replace h := h.2 c1
          refine WP_iload_n (z := x3) dX6_isLee_14 rfl ?_
          obtain ⟨o2, h⟩ := h
          refine WP_via (pc1 := 70) (ls1 := [vR 56, vI x1, vI x2, vI x3, vI x4]) (st1 := [vI (if x3 = 0 then ((if x2 = (-1) then (0 : Int) else (if (D 62 x4.toNat) = x2 then ((if (D 59 x2.toNat) = 0 then ((if (D 66 x4.toNat) = (-1) then (1 : Int) else (if (D 66 x4.toNat) < x1 then (0 : Int) else 1)) : Int) else 0) : Int) else 0)) : Int) else 1)]) (D1 := D) (fun hJ4 => ?_) ?_
          · refine WP_if_ne (tgt := 65) dX6_isLee_15 (by decide) (fun c5 => ?_) (fun c5 => ?_)
            · replace hJ4 := ite_f (P := fun v_ : Int => WP mX6_isLee Q 70 [vR 56, vI x1, vI x2, vI x3, vI x4] [vI v_] D) hJ4 c5
              have o25 := o2.2 c5
              refine WP_iconst (z := 1) dX6_isLee_65 rfl ⟨by decide, by decide⟩ ?_
              refine WP_goto (tgt := 70) dX6_isLee_66 (by decide) ?_
              exact hJ4
            · replace hJ4 := ite_t (P := fun v_ : Int => WP mX6_isLee Q 70 [vR 56, vI x1, vI x2, vI x3, vI x4] [vI v_] D) hJ4 c5
              have o6 := o2.1 c5
              refine WP_iload_n (z := x2) dX6_isLee_18 rfl ?_
              refine WP_iconst (z := (-1)) dX6_isLee_19 rfl ⟨by decide, by decide⟩ ?_
              refine WP_via (pc1 := 70) (ls1 := [vR 56, vI x1, vI x2, vI x3, vI x4]) (st1 := [vI (if x2 = (-1) then (0 : Int) else (if (D 62 x4.toNat) = x2 then ((if (D 59 x2.toNat) = 0 then ((if (D 66 x4.toNat) = (-1) then (1 : Int) else (if (D 66 x4.toNat) < x1 then (0 : Int) else 1)) : Int) else 0) : Int) else 0))]) (D1 := D) (fun hJ7 => ?_) ?_
              · refine WP_icmp_eq (tgt := 69) dX6_isLee_20 (by decide) (fun c8 => ?_) (fun c8 => ?_)
                · replace hJ7 := ite_t (P := fun v_ : Int => WP mX6_isLee Q 70 [vR 56, vI x1, vI x2, vI x3, vI x4] [vI v_] D) hJ7 c8
                  have o9 := o6.1 c8
                  refine WP_iconst (z := 0) dX6_isLee_69 rfl ⟨by decide, by decide⟩ ?_
                  exact hJ7
                · replace hJ7 := ite_f (P := fun v_ : Int => WP mX6_isLee Q 70 [vR 56, vI x1, vI x2, vI x3, vI x4] [vI v_] D) hJ7 c8
                  have o10 := o6.2 c8
                  refine WP_aload_n (z := 56) dX6_isLee_23 rfl ?_
                  refine WP_getR (z := 62) dX6_isLee_24 fl_RX6_26 rfl rfl rfl ?_
                  refine WP_iload (z := x4) dX6_isLee_27 rfl ?_
                  refine WP_iald dX6_isLee_29 rfl o10.1.1 o10.1.2 rfl ?_
                  refine WP_iload_n (z := x2) dX6_isLee_30 rfl ?_
                  refine WP_via (pc1 := 70) (ls1 := [vR 56, vI x1, vI x2, vI x3, vI x4]) (st1 := [vI (if (D 62 x4.toNat) = x2 then ((if (D 59 x2.toNat) = 0 then ((if (D 66 x4.toNat) = (-1) then (1 : Int) else (if (D 66 x4.toNat) < x1 then (0 : Int) else 1)) : Int) else 0) : Int) else 0)]) (D1 := D) (fun hJ11 => ?_) ?_
                  · refine WP_icmp_ne (tgt := 69) dX6_isLee_31 (by decide) (fun c12 => ?_) (fun c12 => ?_)
                    · replace hJ11 := ite_f (P := fun v_ : Int => WP mX6_isLee Q 70 [vR 56, vI x1, vI x2, vI x3, vI x4] [vI v_] D) hJ11 c12
                      have o24 := o10.2.2 c12
                      refine WP_iconst (z := 0) dX6_isLee_69 rfl ⟨by decide, by decide⟩ ?_
                      exact hJ11
                    · replace hJ11 := ite_t (P := fun v_ : Int => WP mX6_isLee Q 70 [vR 56, vI x1, vI x2, vI x3, vI x4] [vI v_] D) hJ11 c12
                      have o13 := o10.2.1 c12
                      refine WP_aload_n (z := 56) dX6_isLee_34 rfl ?_
                      refine WP_getR (z := 59) dX6_isLee_35 fl_RX6_16 rfl rfl rfl ?_
                      refine WP_iload_n (z := x2) dX6_isLee_38 rfl ?_
                      refine WP_zald dX6_isLee_39 rfl o13.1.1 o13.1.2 rfl ?_
                      refine WP_via (pc1 := 70) (ls1 := [vR 56, vI x1, vI x2, vI x3, vI x4]) (st1 := [vI (if (D 59 x2.toNat) = 0 then ((if (D 66 x4.toNat) = (-1) then (1 : Int) else (if (D 66 x4.toNat) < x1 then (0 : Int) else 1)) : Int) else 0)]) (D1 := D) (fun hJ14 => ?_) ?_
                      · refine WP_if_ne (tgt := 69) dX6_isLee_40 (by decide) (fun c15 => ?_) (fun c15 => ?_)
                        · replace hJ14 := ite_f (P := fun v_ : Int => WP mX6_isLee Q 70 [vR 56, vI x1, vI x2, vI x3, vI x4] [vI v_] D) hJ14 c15
                          have o23 := o13.2.2 c15
                          refine WP_iconst (z := 0) dX6_isLee_69 rfl ⟨by decide, by decide⟩ ?_
                          exact hJ14
                        · replace hJ14 := ite_t (P := fun v_ : Int => WP mX6_isLee Q 70 [vR 56, vI x1, vI x2, vI x3, vI x4] [vI v_] D) hJ14 c15
                          have o16 := o13.2.1 c15
                          refine WP_aload_n (z := 56) dX6_isLee_43 rfl ?_
                          refine WP_getR (z := 66) dX6_isLee_44 fl_RX6_38 rfl rfl rfl ?_
                          refine WP_iload (z := x4) dX6_isLee_47 rfl ?_
                          refine WP_iald dX6_isLee_49 rfl o16.1.1 o16.1.2 rfl ?_
                          refine WP_iconst (z := (-1)) dX6_isLee_50 rfl ⟨by decide, by decide⟩ ?_
                          refine WP_via (pc1 := 70) (ls1 := [vR 56, vI x1, vI x2, vI x3, vI x4]) (st1 := [vI (if (D 66 x4.toNat) = (-1) then (1 : Int) else (if (D 66 x4.toNat) < x1 then (0 : Int) else 1))]) (D1 := D) (fun hJ17 => ?_) ?_
                          · refine WP_icmp_eq (tgt := 65) dX6_isLee_51 (by decide) (fun c18 => ?_) (fun c18 => ?_)
                            · replace hJ17 := ite_t (P := fun v_ : Int => WP mX6_isLee Q 70 [vR 56, vI x1, vI x2, vI x3, vI x4] [vI v_] D) hJ17 c18
                              have o19 := o16.2.1 c18
                              refine WP_iconst (z := 1) dX6_isLee_65 rfl ⟨by decide, by decide⟩ ?_
                              refine WP_goto (tgt := 70) dX6_isLee_66 (by decide) ?_
                              exact hJ17
                            · replace hJ17 := ite_f (P := fun v_ : Int => WP mX6_isLee Q 70 [vR 56, vI x1, vI x2, vI x3, vI x4] [vI v_] D) hJ17 c18
                              have o20 := o16.2.2 c18
                              refine WP_aload_n (z := 56) dX6_isLee_54 rfl ?_
                              refine WP_getR (z := 66) dX6_isLee_55 fl_RX6_38 rfl rfl rfl ?_
                              refine WP_iload (z := x4) dX6_isLee_58 rfl ?_
                              refine WP_iald dX6_isLee_60 rfl o20.1 o20.2 rfl ?_
                              refine WP_iload_n (z := x1) dX6_isLee_61 rfl ?_
                              refine WP_via (pc1 := 70) (ls1 := [vR 56, vI x1, vI x2, vI x3, vI x4]) (st1 := [vI (if (D 66 x4.toNat) < x1 then (0 : Int) else 1)]) (D1 := D) (fun hJ21 => ?_) ?_
                              · refine WP_icmp_lt (tgt := 69) dX6_isLee_62 (by decide) (fun c22 => ?_) (fun c22 => ?_)
                                · replace hJ21 := ite_t (P := fun v_ : Int => WP mX6_isLee Q 70 [vR 56, vI x1, vI x2, vI x3, vI x4] [vI v_] D) hJ21 c22
                                  refine WP_iconst (z := 0) dX6_isLee_69 rfl ⟨by decide, by decide⟩ ?_
                                  exact hJ21
                                · replace hJ21 := ite_f (P := fun v_ : Int => WP mX6_isLee Q 70 [vR 56, vI x1, vI x2, vI x3, vI x4] [vI v_] D) hJ21 c22
                                  refine WP_iconst (z := 1) dX6_isLee_65 rfl ⟨by decide, by decide⟩ ?_
                                  refine WP_goto (tgt := 70) dX6_isLee_66 (by decide) ?_
                                  exact hJ21
                              exact hJ17
                          exact hJ14
                      exact hJ11
                  exact hJ7
              exact hJ4
          · refine WP_istore_n (ls1 := [vR 56, vI x1, vI x2, vI (if x3 = 0 then ((if x2 = (-1) then (0 : Int) else (if (D 62 x4.toNat) = x2 then ((if (D 59 x2.toNat) = 0 then ((if (D 66 x4.toNat) = (-1) then (1 : Int) else (if (D 66 x4.toNat) < x1 then (0 : Int) else 1)) : Int) else 0) : Int) else 0)) : Int) else 1), vI x4]) dX6_isLee_70 (by decide) rfl ?_
            obtain ⟨o3, h⟩ := h
            refine WP_iinc (z := (x4 + 1)) (ls1 := [vR 56, vI x1, vI x2, vI (if x3 = 0 then ((if x2 = (-1) then (0 : Int) else (if (D 62 x4.toNat) = x2 then ((if (D 59 x2.toNat) = 0 then ((if (D 66 x4.toNat) = (-1) then (1 : Int) else (if (D 66 x4.toNat) < x1 then (0 : Int) else 1)) : Int) else 0) : Int) else 0)) : Int) else 1), vI (x4 + 1)]) dX6_isLee_71 rfl (w32_id o3) (by decide) rfl ?_
            refine WP_goto (tgt := 5) dX6_isLee_74 (by decide) ?_
            exact ih5_ _ _ _ _ _ h.1 (by have := h.2; omega)
  have cut5_ : ∀ (x1 x2 x3 x4 : Int) (D : HP), I5 x1 x2 x3 x4 D → WP mX6_isLee Q 5 [vR 56, vI x1, vI x2, vI x3, vI x4] [] D := fun x1 x2 x3 x4 D hI => (IH (u5 x1 x2 x3 x4 D * 1 + 0 + 1)) x1 x2 x3 x4 D hI (by omega)
  refine WP_cD (fun hcD => ?_)
  refine WP_cl (fun hcl => ?_)
  have h := h0 hcD (cVs_g hcl (i := 1) (v := vI a) rfl) (cVs_g hcl (i := 2) (v := vI b) rfl)
  refine WP_iconst (z := 0) dX6_isLee_0 rfl ⟨by decide, by decide⟩ ?_
  refine WP_istore_n (ls1 := [vR 56, vI a, vI b, vI 0, vU]) dX6_isLee_1 (by decide) rfl ?_
  refine WP_iconst (z := 0) dX6_isLee_2 rfl ⟨by decide, by decide⟩ ?_
  refine WP_istore (ls1 := [vR 56, vI a, vI b, vI 0, vI 0]) dX6_isLee_3 (by decide) rfl ?_
  exact cut5_ _ _ _ _ _ h
set_option maxRecDepth 100000 in
set_option maxHeartbeats 4000000 in
theorem P_X6_isLee {a : Int} {b : Int} {D : HP} (hob : oX6_isLee D a b) : CT mX6_isLee [vR 56, vI a, vI b] D (PF (vI (fX6_isLee D a b)) D) := by
  refine V_X6_isLee a b (I5 := fun x1 x2 x3 x4 D' => D' = D ∧ x1 = a ∧ x2 = b ∧ ∃ j : Nat, x4 = j ∧ j ≤ (D 56 8).toNat ∧ x3 = if exB (fun k => decide (b ≠ -1 ∧ D 62 k = b ∧ D 59 b.toNat = 0 ∧ (D 66 k = -1 ∨ a ≤ D 66 k))) j then 1 else 0) (u5 := fun _ _ _ x4 D' => (D' 56 8 - x4).toNat) (fun _ _ _ => ⟨rfl, rfl, rfl, 0, rfl, Nat.zero_le _, rfl⟩) ?_
  rintro x1 x2 x3 x4 D' ⟨rfl, rfl, rfl, j, rfl, hj, h3⟩ hcD c1 c2 c3 c4
  unfold oX6_isLee at hob
  refine ⟨fun hc => ⟨?_, ?_, rfl⟩, fun hc => ⟨?_, ?_, ⟨rfl, rfl, rfl, j + 1, by omega, by omega, ?_⟩, by omega⟩⟩
  · rw [h3]; split <;> simp
  · have : j = (D' 56 8).toNat := by omega
    subst this
    rw [h3]
    rfl
  · refine ⟨fun _ => ⟨fun _ => trivial, fun _ => ⟨by omega, fun _ => ⟨by omega, fun _ => ⟨by omega, fun _ => trivial, fun _ => by omega⟩, fun _ => trivial⟩, fun _ => trivial⟩⟩, fun _ => trivial⟩
  · unfold c32 at *; omega
  · rw [h3]
    simp only [exB, Int.toNat_natCast]
    grind

def fX6_windNow (D : HP) (a : Int) (b : Int) : Int := (if (fX6_isLee D a (fX6_beside D b (D 60 a.toNat))) = 0 then (((if (D 59 b.toNat) = 0 then ((if (fX6_isWallAt D (fX6_beside D b (D 60 a.toNat))) = 0 then ((if (fX6_isWallAt D (if (fX6_beside D b (D 60 a.toNat)) = (-1) then ((-1) : Int) else (fX6_beside D (fX6_beside D b (D 60 a.toNat)) (D 60 a.toNat)))) = 0 then ((D 61 a.toNat) : Int) else ((D 61 a.toNat) / 2)) : Int) else 0) : Int) else 0) + (if (if (D 59 b.toNat) = 0 then ((if (fX6_isWallAt D (fX6_beside D b (D 60 a.toNat))) = 0 then ((if (fX6_isWallAt D (if (fX6_beside D b (D 60 a.toNat)) = (-1) then ((-1) : Int) else (fX6_beside D (fX6_beside D b (D 60 a.toNat)) (D 60 a.toNat)))) = 0 then ((D 61 a.toNat) : Int) else ((D 61 a.toNat) / 2)) : Int) else 0) : Int) else 0) ≤ 0 then (0 : Int) else (if (if (fX6_isWallAt D (fX6_beside D b (((D 60 a.toNat) + 1) % 4))) = 0 then (0 : Int) else (if (fX6_isWallAt D (fX6_beside D b (((D 60 a.toNat) + 3) % 4))) = 0 then (0 : Int) else 1)) = 0 then (0 : Int) else 3))) : Int) else (((if (D 59 b.toNat) = 0 then ((if (fX6_isWallAt D (fX6_beside D b (D 60 a.toNat))) = 0 then ((if (fX6_isWallAt D (if (fX6_beside D b (D 60 a.toNat)) = (-1) then ((-1) : Int) else (fX6_beside D (fX6_beside D b (D 60 a.toNat)) (D 60 a.toNat)))) = 0 then ((D 61 a.toNat) : Int) else ((D 61 a.toNat) / 2)) : Int) else 0) : Int) else 0) + (if (if (D 59 b.toNat) = 0 then ((if (fX6_isWallAt D (fX6_beside D b (D 60 a.toNat))) = 0 then ((if (fX6_isWallAt D (if (fX6_beside D b (D 60 a.toNat)) = (-1) then ((-1) : Int) else (fX6_beside D (fX6_beside D b (D 60 a.toNat)) (D 60 a.toNat)))) = 0 then ((D 61 a.toNat) : Int) else ((D 61 a.toNat) / 2)) : Int) else 0) : Int) else 0) ≤ 0 then (0 : Int) else (if (if (fX6_isWallAt D (fX6_beside D b (((D 60 a.toNat) + 1) % 4))) = 0 then (0 : Int) else (if (fX6_isWallAt D (fX6_beside D b (((D 60 a.toNat) + 3) % 4))) = 0 then (0 : Int) else 1)) = 0 then (0 : Int) else 3))) / 2))
def oX6_windNow (D : HP) (a : Int) (b : Int) : Prop := ((0 ≤ a ∧ a < 12) ∧ ((oX6_beside D b (D 60 a.toNat)) ∧ (((((fX6_beside D b (D 60 a.toNat)) = (-1)) → True) ∧ (¬ ((fX6_beside D b (D 60 a.toNat)) = (-1)) → (oX6_beside D (fX6_beside D b (D 60 a.toNat)) (D 60 a.toNat)))) ∧ ((0 ≤ b ∧ b < 26) ∧ (((((D 59 b.toNat) = 0) → (oX6_isWallAt D (fX6_beside D b (D 60 a.toNat))) ∧ ((((fX6_isWallAt D (fX6_beside D b (D 60 a.toNat))) = 0) → (oX6_isWallAt D (if (fX6_beside D b (D 60 a.toNat)) = (-1) then ((-1) : Int) else (fX6_beside D (fX6_beside D b (D 60 a.toNat)) (D 60 a.toNat)))) ∧ ((((fX6_isWallAt D (if (fX6_beside D b (D 60 a.toNat)) = (-1) then ((-1) : Int) else (fX6_beside D (fX6_beside D b (D 60 a.toNat)) (D 60 a.toNat)))) = 0) → (0 ≤ a ∧ a < 12)) ∧ (¬ ((fX6_isWallAt D (if (fX6_beside D b (D 60 a.toNat)) = (-1) then ((-1) : Int) else (fX6_beside D (fX6_beside D b (D 60 a.toNat)) (D 60 a.toNat)))) = 0) → (0 ≤ a ∧ a < 12) ∧ (0 ≤ (D 61 a.toNat))))) ∧ (¬ ((fX6_isWallAt D (fX6_beside D b (D 60 a.toNat))) = 0) → True))) ∧ (¬ ((D 59 b.toNat) = 0) → True)) ∧ ((c32 ((D 60 a.toNat) + 1)) ∧ ((0 ≤ ((D 60 a.toNat) + 1)) ∧ ((oX6_beside D b (((D 60 a.toNat) + 1) % 4)) ∧ ((oX6_isWallAt D (fX6_beside D b (((D 60 a.toNat) + 1) % 4))) ∧ (((((fX6_isWallAt D (fX6_beside D b (((D 60 a.toNat) + 1) % 4))) = 0) → True) ∧ (¬ ((fX6_isWallAt D (fX6_beside D b (((D 60 a.toNat) + 1) % 4))) = 0) → (c32 ((D 60 a.toNat) + 3)) ∧ (0 ≤ ((D 60 a.toNat) + 3)) ∧ (oX6_beside D b (((D 60 a.toNat) + 3) % 4)) ∧ (oX6_isWallAt D (fX6_beside D b (((D 60 a.toNat) + 3) % 4))))) ∧ ((c32 ((if (D 59 b.toNat) = 0 then ((if (fX6_isWallAt D (fX6_beside D b (D 60 a.toNat))) = 0 then ((if (fX6_isWallAt D (if (fX6_beside D b (D 60 a.toNat)) = (-1) then ((-1) : Int) else (fX6_beside D (fX6_beside D b (D 60 a.toNat)) (D 60 a.toNat)))) = 0 then ((D 61 a.toNat) : Int) else ((D 61 a.toNat) / 2)) : Int) else 0) : Int) else 0) + (if (if (D 59 b.toNat) = 0 then ((if (fX6_isWallAt D (fX6_beside D b (D 60 a.toNat))) = 0 then ((if (fX6_isWallAt D (if (fX6_beside D b (D 60 a.toNat)) = (-1) then ((-1) : Int) else (fX6_beside D (fX6_beside D b (D 60 a.toNat)) (D 60 a.toNat)))) = 0 then ((D 61 a.toNat) : Int) else ((D 61 a.toNat) / 2)) : Int) else 0) : Int) else 0) ≤ 0 then (0 : Int) else (if (if (fX6_isWallAt D (fX6_beside D b (((D 60 a.toNat) + 1) % 4))) = 0 then (0 : Int) else (if (fX6_isWallAt D (fX6_beside D b (((D 60 a.toNat) + 3) % 4))) = 0 then (0 : Int) else 1)) = 0 then (0 : Int) else 3)))) ∧ ((oX6_isLee D a (fX6_beside D b (D 60 a.toNat))) ∧ (((fX6_isLee D a (fX6_beside D b (D 60 a.toNat))) = 0 → True) ∧ (¬ ((fX6_isLee D a (fX6_beside D b (D 60 a.toNat))) = 0) → ((0 ≤ ((if (D 59 b.toNat) = 0 then ((if (fX6_isWallAt D (fX6_beside D b (D 60 a.toNat))) = 0 then ((if (fX6_isWallAt D (if (fX6_beside D b (D 60 a.toNat)) = (-1) then ((-1) : Int) else (fX6_beside D (fX6_beside D b (D 60 a.toNat)) (D 60 a.toNat)))) = 0 then ((D 61 a.toNat) : Int) else ((D 61 a.toNat) / 2)) : Int) else 0) : Int) else 0) + (if (if (D 59 b.toNat) = 0 then ((if (fX6_isWallAt D (fX6_beside D b (D 60 a.toNat))) = 0 then ((if (fX6_isWallAt D (if (fX6_beside D b (D 60 a.toNat)) = (-1) then ((-1) : Int) else (fX6_beside D (fX6_beside D b (D 60 a.toNat)) (D 60 a.toNat)))) = 0 then ((D 61 a.toNat) : Int) else ((D 61 a.toNat) / 2)) : Int) else 0) : Int) else 0) ≤ 0 then (0 : Int) else (if (if (fX6_isWallAt D (fX6_beside D b (((D 60 a.toNat) + 1) % 4))) = 0 then (0 : Int) else (if (fX6_isWallAt D (fX6_beside D b (((D 60 a.toNat) + 3) % 4))) = 0 then (0 : Int) else 1)) = 0 then (0 : Int) else 3)))) ∧ True)))))))))))))))
set_option maxRecDepth 100000 in
set_option maxHeartbeats 4000000 in
theorem V_X6_windNow (a : Int) (b : Int) {D : HP} {Q : Option MV → HP → Prop}
    (h0 : cD D → c32 a → c32 b → ((0 ≤ a ∧ a < 12) ∧ ((oX6_beside D b (D 60 a.toNat)) ∧ (((((fX6_beside D b (D 60 a.toNat)) = (-1)) → True) ∧ (¬ ((fX6_beside D b (D 60 a.toNat)) = (-1)) → (oX6_beside D (fX6_beside D b (D 60 a.toNat)) (D 60 a.toNat)))) ∧ ((0 ≤ b ∧ b < 26) ∧ (((((D 59 b.toNat) = 0) → (oX6_isWallAt D (fX6_beside D b (D 60 a.toNat))) ∧ ((((fX6_isWallAt D (fX6_beside D b (D 60 a.toNat))) = 0) → (oX6_isWallAt D (if (fX6_beside D b (D 60 a.toNat)) = (-1) then ((-1) : Int) else (fX6_beside D (fX6_beside D b (D 60 a.toNat)) (D 60 a.toNat)))) ∧ ((((fX6_isWallAt D (if (fX6_beside D b (D 60 a.toNat)) = (-1) then ((-1) : Int) else (fX6_beside D (fX6_beside D b (D 60 a.toNat)) (D 60 a.toNat)))) = 0) → (0 ≤ a ∧ a < 12)) ∧ (¬ ((fX6_isWallAt D (if (fX6_beside D b (D 60 a.toNat)) = (-1) then ((-1) : Int) else (fX6_beside D (fX6_beside D b (D 60 a.toNat)) (D 60 a.toNat)))) = 0) → (0 ≤ a ∧ a < 12) ∧ (0 ≤ (D 61 a.toNat))))) ∧ (¬ ((fX6_isWallAt D (fX6_beside D b (D 60 a.toNat))) = 0) → True))) ∧ (¬ ((D 59 b.toNat) = 0) → True)) ∧ ((c32 ((D 60 a.toNat) + 1)) ∧ ((0 ≤ ((D 60 a.toNat) + 1)) ∧ ((oX6_beside D b (((D 60 a.toNat) + 1) % 4)) ∧ ((oX6_isWallAt D (fX6_beside D b (((D 60 a.toNat) + 1) % 4))) ∧ (((((fX6_isWallAt D (fX6_beside D b (((D 60 a.toNat) + 1) % 4))) = 0) → True) ∧ (¬ ((fX6_isWallAt D (fX6_beside D b (((D 60 a.toNat) + 1) % 4))) = 0) → (c32 ((D 60 a.toNat) + 3)) ∧ (0 ≤ ((D 60 a.toNat) + 3)) ∧ (oX6_beside D b (((D 60 a.toNat) + 3) % 4)) ∧ (oX6_isWallAt D (fX6_beside D b (((D 60 a.toNat) + 3) % 4))))) ∧ ((c32 ((if (D 59 b.toNat) = 0 then ((if (fX6_isWallAt D (fX6_beside D b (D 60 a.toNat))) = 0 then ((if (fX6_isWallAt D (if (fX6_beside D b (D 60 a.toNat)) = (-1) then ((-1) : Int) else (fX6_beside D (fX6_beside D b (D 60 a.toNat)) (D 60 a.toNat)))) = 0 then ((D 61 a.toNat) : Int) else ((D 61 a.toNat) / 2)) : Int) else 0) : Int) else 0) + (if (if (D 59 b.toNat) = 0 then ((if (fX6_isWallAt D (fX6_beside D b (D 60 a.toNat))) = 0 then ((if (fX6_isWallAt D (if (fX6_beside D b (D 60 a.toNat)) = (-1) then ((-1) : Int) else (fX6_beside D (fX6_beside D b (D 60 a.toNat)) (D 60 a.toNat)))) = 0 then ((D 61 a.toNat) : Int) else ((D 61 a.toNat) / 2)) : Int) else 0) : Int) else 0) ≤ 0 then (0 : Int) else (if (if (fX6_isWallAt D (fX6_beside D b (((D 60 a.toNat) + 1) % 4))) = 0 then (0 : Int) else (if (fX6_isWallAt D (fX6_beside D b (((D 60 a.toNat) + 3) % 4))) = 0 then (0 : Int) else 1)) = 0 then (0 : Int) else 3)))) ∧ ((oX6_isLee D a (fX6_beside D b (D 60 a.toNat))) ∧ (((fX6_isLee D a (fX6_beside D b (D 60 a.toNat))) = 0 → (Q (some (vI ((if (D 59 b.toNat) = 0 then ((if (fX6_isWallAt D (fX6_beside D b (D 60 a.toNat))) = 0 then ((if (fX6_isWallAt D (if (fX6_beside D b (D 60 a.toNat)) = (-1) then ((-1) : Int) else (fX6_beside D (fX6_beside D b (D 60 a.toNat)) (D 60 a.toNat)))) = 0 then ((D 61 a.toNat) : Int) else ((D 61 a.toNat) / 2)) : Int) else 0) : Int) else 0) + (if (if (D 59 b.toNat) = 0 then ((if (fX6_isWallAt D (fX6_beside D b (D 60 a.toNat))) = 0 then ((if (fX6_isWallAt D (if (fX6_beside D b (D 60 a.toNat)) = (-1) then ((-1) : Int) else (fX6_beside D (fX6_beside D b (D 60 a.toNat)) (D 60 a.toNat)))) = 0 then ((D 61 a.toNat) : Int) else ((D 61 a.toNat) / 2)) : Int) else 0) : Int) else 0) ≤ 0 then (0 : Int) else (if (if (fX6_isWallAt D (fX6_beside D b (((D 60 a.toNat) + 1) % 4))) = 0 then (0 : Int) else (if (fX6_isWallAt D (fX6_beside D b (((D 60 a.toNat) + 3) % 4))) = 0 then (0 : Int) else 1)) = 0 then (0 : Int) else 3))))) D)) ∧ (¬ ((fX6_isLee D a (fX6_beside D b (D 60 a.toNat))) = 0) → ((0 ≤ ((if (D 59 b.toNat) = 0 then ((if (fX6_isWallAt D (fX6_beside D b (D 60 a.toNat))) = 0 then ((if (fX6_isWallAt D (if (fX6_beside D b (D 60 a.toNat)) = (-1) then ((-1) : Int) else (fX6_beside D (fX6_beside D b (D 60 a.toNat)) (D 60 a.toNat)))) = 0 then ((D 61 a.toNat) : Int) else ((D 61 a.toNat) / 2)) : Int) else 0) : Int) else 0) + (if (if (D 59 b.toNat) = 0 then ((if (fX6_isWallAt D (fX6_beside D b (D 60 a.toNat))) = 0 then ((if (fX6_isWallAt D (if (fX6_beside D b (D 60 a.toNat)) = (-1) then ((-1) : Int) else (fX6_beside D (fX6_beside D b (D 60 a.toNat)) (D 60 a.toNat)))) = 0 then ((D 61 a.toNat) : Int) else ((D 61 a.toNat) / 2)) : Int) else 0) : Int) else 0) ≤ 0 then (0 : Int) else (if (if (fX6_isWallAt D (fX6_beside D b (((D 60 a.toNat) + 1) % 4))) = 0 then (0 : Int) else (if (fX6_isWallAt D (fX6_beside D b (((D 60 a.toNat) + 3) % 4))) = 0 then (0 : Int) else 1)) = 0 then (0 : Int) else 3)))) ∧ (Q (some (vI (((if (D 59 b.toNat) = 0 then ((if (fX6_isWallAt D (fX6_beside D b (D 60 a.toNat))) = 0 then ((if (fX6_isWallAt D (if (fX6_beside D b (D 60 a.toNat)) = (-1) then ((-1) : Int) else (fX6_beside D (fX6_beside D b (D 60 a.toNat)) (D 60 a.toNat)))) = 0 then ((D 61 a.toNat) : Int) else ((D 61 a.toNat) / 2)) : Int) else 0) : Int) else 0) + (if (if (D 59 b.toNat) = 0 then ((if (fX6_isWallAt D (fX6_beside D b (D 60 a.toNat))) = 0 then ((if (fX6_isWallAt D (if (fX6_beside D b (D 60 a.toNat)) = (-1) then ((-1) : Int) else (fX6_beside D (fX6_beside D b (D 60 a.toNat)) (D 60 a.toNat)))) = 0 then ((D 61 a.toNat) : Int) else ((D 61 a.toNat) / 2)) : Int) else 0) : Int) else 0) ≤ 0 then (0 : Int) else (if (if (fX6_isWallAt D (fX6_beside D b (((D 60 a.toNat) + 1) % 4))) = 0 then (0 : Int) else (if (fX6_isWallAt D (fX6_beside D b (((D 60 a.toNat) + 3) % 4))) = 0 then (0 : Int) else 1)) = 0 then (0 : Int) else 3))) / 2))) D)))))))))))))))))
    : CT mX6_windNow [vR 56, vI a, vI b] D Q := by
  refine CT.of 5 (by decide) (Nat.le_of_ble_eq_true rfl) ?_
  show WP mX6_windNow Q 0 [vR 56, vI a, vI b, vU, vU, vU, vU, vU] [] D
  refine WP_cD (fun hcD => ?_)
  refine WP_cl (fun hcl => ?_)
  have h := h0 hcD (cVs_g hcl (i := 1) (v := vI a) rfl) (cVs_g hcl (i := 2) (v := vI b) rfl)
  refine WP_aload_n (z := 56) dX6_windNow_0 rfl ?_
  refine WP_getR (z := 60) dX6_windNow_1 fl_RX6_20 rfl rfl rfl ?_
  refine WP_iload_n (z := a) dX6_windNow_4 rfl ?_
  obtain ⟨o40, h⟩ := h
  refine WP_iald dX6_windNow_5 rfl o40.1 o40.2 rfl ?_
  refine WP_istore_n (ls1 := [vR 56, vI a, vI b, vI (D 60 a.toNat), vU, vU, vU, vU]) dX6_windNow_6 (by decide) rfl ?_
  refine WP_aload_n (z := 56) dX6_windNow_7 rfl ?_
  refine WP_iload_n (z := b) dX6_windNow_8 rfl ?_
  refine WP_iload_n (z := (D 60 a.toNat)) dX6_windNow_9 rfl ?_
  obtain ⟨o39, h⟩ := h
  refine WP_pcallV (g := mX6_beside) (as := [vI b, vI (D 60 a.toNat)]) (rest := []) (n := 2) (r := vI (fX6_beside D b (D 60 a.toNat))) dX6_windNow_10 wm_427 mo_X6_beside rfl rfl rfl rfl ⟨Nat.le_of_ble_eq_true rfl, Nat.le_of_ble_eq_true rfl⟩ (Nat.le_of_ble_eq_true rfl) (P_X6_beside  o39) ?_
  refine WP_istore (ls1 := [vR 56, vI a, vI b, vI (D 60 a.toNat), vI (fX6_beside D b (D 60 a.toNat)), vU, vU, vU]) dX6_windNow_13 (by decide) rfl ?_
  refine WP_iload (z := (fX6_beside D b (D 60 a.toNat))) dX6_windNow_15 rfl ?_
  refine WP_iconst (z := (-1)) dX6_windNow_17 rfl ⟨by decide, by decide⟩ ?_
  obtain ⟨o1, h⟩ := h
  refine WP_via (pc1 := 32) (ls1 := [vR 56, vI a, vI b, vI (D 60 a.toNat), vI (fX6_beside D b (D 60 a.toNat)), vU, vU, vU]) (st1 := [vI (if (fX6_beside D b (D 60 a.toNat)) = (-1) then ((-1) : Int) else (fX6_beside D (fX6_beside D b (D 60 a.toNat)) (D 60 a.toNat)))]) (D1 := D) (fun hJ35 => ?_) ?_
  · refine WP_icmp_ne (tgt := 25) dX6_windNow_18 (by decide) (fun c36 => ?_) (fun c36 => ?_)
    · replace hJ35 := ite_f (P := fun v_ : Int => WP mX6_windNow Q 32 [vR 56, vI a, vI b, vI (D 60 a.toNat), vI (fX6_beside D b (D 60 a.toNat)), vU, vU, vU] [vI v_] D) hJ35 c36
      have o38 := o1.2 c36
      refine WP_aload_n (z := 56) dX6_windNow_25 rfl ?_
      refine WP_iload (z := (fX6_beside D b (D 60 a.toNat))) dX6_windNow_26 rfl ?_
      refine WP_iload_n (z := (D 60 a.toNat)) dX6_windNow_28 rfl ?_
      refine WP_pcallV (g := mX6_beside) (as := [vI (fX6_beside D b (D 60 a.toNat)), vI (D 60 a.toNat)]) (rest := []) (n := 2) (r := vI (fX6_beside D (fX6_beside D b (D 60 a.toNat)) (D 60 a.toNat))) dX6_windNow_29 wm_427 mo_X6_beside rfl rfl rfl rfl ⟨Nat.le_of_ble_eq_true rfl, Nat.le_of_ble_eq_true rfl⟩ (Nat.le_of_ble_eq_true rfl) (P_X6_beside  o38) ?_
      exact hJ35
    · replace hJ35 := ite_t (P := fun v_ : Int => WP mX6_windNow Q 32 [vR 56, vI a, vI b, vI (D 60 a.toNat), vI (fX6_beside D b (D 60 a.toNat)), vU, vU, vU] [vI v_] D) hJ35 c36
      have o37 := o1.1 c36
      refine WP_iconst (z := (-1)) dX6_windNow_21 rfl ⟨by decide, by decide⟩ ?_
      refine WP_goto (tgt := 32) dX6_windNow_22 (by decide) ?_
      exact hJ35
  · refine WP_istore (ls1 := [vR 56, vI a, vI b, vI (D 60 a.toNat), vI (fX6_beside D b (D 60 a.toNat)), vI (if (fX6_beside D b (D 60 a.toNat)) = (-1) then ((-1) : Int) else (fX6_beside D (fX6_beside D b (D 60 a.toNat)) (D 60 a.toNat))), vU, vU]) dX6_windNow_32 (by decide) rfl ?_
    refine WP_aload_n (z := 56) dX6_windNow_34 rfl ?_
    refine WP_getR (z := 59) dX6_windNow_35 fl_RX6_16 rfl rfl rfl ?_
    refine WP_iload_n (z := b) dX6_windNow_38 rfl ?_
    obtain ⟨o34, h⟩ := h
    refine WP_zald dX6_windNow_39 rfl o34.1 o34.2 rfl ?_
    obtain ⟨o2, h⟩ := h
    refine WP_via (pc1 := 82) (ls1 := [vR 56, vI a, vI b, vI (D 60 a.toNat), vI (fX6_beside D b (D 60 a.toNat)), vI (if (fX6_beside D b (D 60 a.toNat)) = (-1) then ((-1) : Int) else (fX6_beside D (fX6_beside D b (D 60 a.toNat)) (D 60 a.toNat))), vU, vU]) (st1 := [vI (if (D 59 b.toNat) = 0 then ((if (fX6_isWallAt D (fX6_beside D b (D 60 a.toNat))) = 0 then ((if (fX6_isWallAt D (if (fX6_beside D b (D 60 a.toNat)) = (-1) then ((-1) : Int) else (fX6_beside D (fX6_beside D b (D 60 a.toNat)) (D 60 a.toNat)))) = 0 then ((D 61 a.toNat) : Int) else ((D 61 a.toNat) / 2)) : Int) else 0) : Int) else 0)]) (D1 := D) (fun hJ22 => ?_) ?_
    · refine WP_if_ne (tgt := 52) dX6_windNow_40 (by decide) (fun c23 => ?_) (fun c23 => ?_)
      · replace hJ22 := ite_f (P := fun v_ : Int => WP mX6_windNow Q 82 [vR 56, vI a, vI b, vI (D 60 a.toNat), vI (fX6_beside D b (D 60 a.toNat)), vI (if (fX6_beside D b (D 60 a.toNat)) = (-1) then ((-1) : Int) else (fX6_beside D (fX6_beside D b (D 60 a.toNat)) (D 60 a.toNat))), vU, vU] [vI v_] D) hJ22 c23
        have o33 := o2.2 c23
        refine WP_iconst (z := 0) dX6_windNow_52 rfl ⟨by decide, by decide⟩ ?_
        refine WP_goto (tgt := 82) dX6_windNow_53 (by decide) ?_
        exact hJ22
      · replace hJ22 := ite_t (P := fun v_ : Int => WP mX6_windNow Q 82 [vR 56, vI a, vI b, vI (D 60 a.toNat), vI (fX6_beside D b (D 60 a.toNat)), vI (if (fX6_beside D b (D 60 a.toNat)) = (-1) then ((-1) : Int) else (fX6_beside D (fX6_beside D b (D 60 a.toNat)) (D 60 a.toNat))), vU, vU] [vI v_] D) hJ22 c23
        have o24 := o2.1 c23
        refine WP_aload_n (z := 56) dX6_windNow_43 rfl ?_
        refine WP_iload (z := (fX6_beside D b (D 60 a.toNat))) dX6_windNow_44 rfl ?_
        refine WP_pcallV (g := mX6_isWallAt) (as := [vI (fX6_beside D b (D 60 a.toNat))]) (rest := []) (n := 1) (r := vI (fX6_isWallAt D (fX6_beside D b (D 60 a.toNat)))) dX6_windNow_46 wm_431 mo_X6_isWallAt rfl rfl rfl rfl ⟨Nat.le_of_ble_eq_true rfl, Nat.le_of_ble_eq_true rfl⟩ (Nat.le_of_ble_eq_true rfl) (P_X6_isWallAt  o24.1) ?_
        refine WP_via (pc1 := 82) (ls1 := [vR 56, vI a, vI b, vI (D 60 a.toNat), vI (fX6_beside D b (D 60 a.toNat)), vI (if (fX6_beside D b (D 60 a.toNat)) = (-1) then ((-1) : Int) else (fX6_beside D (fX6_beside D b (D 60 a.toNat)) (D 60 a.toNat))), vU, vU]) (st1 := [vI (if (fX6_isWallAt D (fX6_beside D b (D 60 a.toNat))) = 0 then ((if (fX6_isWallAt D (if (fX6_beside D b (D 60 a.toNat)) = (-1) then ((-1) : Int) else (fX6_beside D (fX6_beside D b (D 60 a.toNat)) (D 60 a.toNat)))) = 0 then ((D 61 a.toNat) : Int) else ((D 61 a.toNat) / 2)) : Int) else 0)]) (D1 := D) (fun hJ25 => ?_) ?_
        · refine WP_if_eq (tgt := 56) dX6_windNow_49 (by decide) (fun c26 => ?_) (fun c26 => ?_)
          · replace hJ25 := ite_t (P := fun v_ : Int => WP mX6_windNow Q 82 [vR 56, vI a, vI b, vI (D 60 a.toNat), vI (fX6_beside D b (D 60 a.toNat)), vI (if (fX6_beside D b (D 60 a.toNat)) = (-1) then ((-1) : Int) else (fX6_beside D (fX6_beside D b (D 60 a.toNat)) (D 60 a.toNat))), vU, vU] [vI v_] D) hJ25 c26
            have o27 := o24.2.1 c26
            refine WP_aload_n (z := 56) dX6_windNow_56 rfl ?_
            refine WP_iload (z := (if (fX6_beside D b (D 60 a.toNat)) = (-1) then ((-1) : Int) else (fX6_beside D (fX6_beside D b (D 60 a.toNat)) (D 60 a.toNat)))) dX6_windNow_57 rfl ?_
            refine WP_pcallV (g := mX6_isWallAt) (as := [vI (if (fX6_beside D b (D 60 a.toNat)) = (-1) then ((-1) : Int) else (fX6_beside D (fX6_beside D b (D 60 a.toNat)) (D 60 a.toNat)))]) (rest := []) (n := 1) (r := vI (fX6_isWallAt D (if (fX6_beside D b (D 60 a.toNat)) = (-1) then ((-1) : Int) else (fX6_beside D (fX6_beside D b (D 60 a.toNat)) (D 60 a.toNat))))) dX6_windNow_59 wm_431 mo_X6_isWallAt rfl rfl rfl rfl ⟨Nat.le_of_ble_eq_true rfl, Nat.le_of_ble_eq_true rfl⟩ (Nat.le_of_ble_eq_true rfl) (P_X6_isWallAt  o27.1) ?_
            refine WP_via (pc1 := 82) (ls1 := [vR 56, vI a, vI b, vI (D 60 a.toNat), vI (fX6_beside D b (D 60 a.toNat)), vI (if (fX6_beside D b (D 60 a.toNat)) = (-1) then ((-1) : Int) else (fX6_beside D (fX6_beside D b (D 60 a.toNat)) (D 60 a.toNat))), vU, vU]) (st1 := [vI (if (fX6_isWallAt D (if (fX6_beside D b (D 60 a.toNat)) = (-1) then ((-1) : Int) else (fX6_beside D (fX6_beside D b (D 60 a.toNat)) (D 60 a.toNat)))) = 0 then ((D 61 a.toNat) : Int) else ((D 61 a.toNat) / 2))]) (D1 := D) (fun hJ28 => ?_) ?_
            · refine WP_if_eq (tgt := 76) dX6_windNow_62 (by decide) (fun c29 => ?_) (fun c29 => ?_)
              · replace hJ28 := ite_t (P := fun v_ : Int => WP mX6_windNow Q 82 [vR 56, vI a, vI b, vI (D 60 a.toNat), vI (fX6_beside D b (D 60 a.toNat)), vI (if (fX6_beside D b (D 60 a.toNat)) = (-1) then ((-1) : Int) else (fX6_beside D (fX6_beside D b (D 60 a.toNat)) (D 60 a.toNat))), vU, vU] [vI v_] D) hJ28 c29
                have o30 := o27.2.1 c29
                refine WP_aload_n (z := 56) dX6_windNow_76 rfl ?_
                refine WP_getR (z := 61) dX6_windNow_77 fl_RX6_23 rfl rfl rfl ?_
                refine WP_iload_n (z := a) dX6_windNow_80 rfl ?_
                refine WP_iald dX6_windNow_81 rfl o30.1 o30.2 rfl ?_
                exact hJ28
              · replace hJ28 := ite_f (P := fun v_ : Int => WP mX6_windNow Q 82 [vR 56, vI a, vI b, vI (D 60 a.toNat), vI (fX6_beside D b (D 60 a.toNat)), vI (if (fX6_beside D b (D 60 a.toNat)) = (-1) then ((-1) : Int) else (fX6_beside D (fX6_beside D b (D 60 a.toNat)) (D 60 a.toNat))), vU, vU] [vI v_] D) hJ28 c29
                have o31 := o27.2.2 c29
                refine WP_aload_n (z := 56) dX6_windNow_65 rfl ?_
                refine WP_getR (z := 61) dX6_windNow_66 fl_RX6_23 rfl rfl rfl ?_
                refine WP_iload_n (z := a) dX6_windNow_69 rfl ?_
                refine WP_iald dX6_windNow_70 rfl o31.1.1 o31.1.2 rfl ?_
                refine WP_iconst (z := 2) dX6_windNow_71 rfl ⟨by decide, by decide⟩ ?_
                refine WP_idiv dX6_windNow_72 o31.2 (by decide) rfl ?_
                refine WP_goto (tgt := 82) dX6_windNow_73 (by decide) ?_
                exact hJ28
            exact hJ25
          · replace hJ25 := ite_f (P := fun v_ : Int => WP mX6_windNow Q 82 [vR 56, vI a, vI b, vI (D 60 a.toNat), vI (fX6_beside D b (D 60 a.toNat)), vI (if (fX6_beside D b (D 60 a.toNat)) = (-1) then ((-1) : Int) else (fX6_beside D (fX6_beside D b (D 60 a.toNat)) (D 60 a.toNat))), vU, vU] [vI v_] D) hJ25 c26
            have o32 := o24.2.2 c26
            refine WP_iconst (z := 0) dX6_windNow_52 rfl ⟨by decide, by decide⟩ ?_
            refine WP_goto (tgt := 82) dX6_windNow_53 (by decide) ?_
            exact hJ25
        exact hJ22
    · refine WP_istore (ls1 := [vR 56, vI a, vI b, vI (D 60 a.toNat), vI (fX6_beside D b (D 60 a.toNat)), vI (if (fX6_beside D b (D 60 a.toNat)) = (-1) then ((-1) : Int) else (fX6_beside D (fX6_beside D b (D 60 a.toNat)) (D 60 a.toNat))), vI (if (D 59 b.toNat) = 0 then ((if (fX6_isWallAt D (fX6_beside D b (D 60 a.toNat))) = 0 then ((if (fX6_isWallAt D (if (fX6_beside D b (D 60 a.toNat)) = (-1) then ((-1) : Int) else (fX6_beside D (fX6_beside D b (D 60 a.toNat)) (D 60 a.toNat)))) = 0 then ((D 61 a.toNat) : Int) else ((D 61 a.toNat) / 2)) : Int) else 0) : Int) else 0), vU]) dX6_windNow_82 (by decide) rfl ?_
      refine WP_aload_n (z := 56) dX6_windNow_84 rfl ?_
      refine WP_aload_n (z := 56) dX6_windNow_85 rfl ?_
      refine WP_iload_n (z := b) dX6_windNow_86 rfl ?_
      refine WP_iload_n (z := (D 60 a.toNat)) dX6_windNow_87 rfl ?_
      refine WP_iconst (z := 1) dX6_windNow_88 rfl ⟨by decide, by decide⟩ ?_
      obtain ⟨o21, h⟩ := h
      refine WP_iadd (z := ((D 60 a.toNat) + 1)) dX6_windNow_89 (w32_id o21) ?_
      refine WP_iconst (z := 4) dX6_windNow_90 rfl ⟨by decide, by decide⟩ ?_
      obtain ⟨o20, h⟩ := h
      refine WP_irem dX6_windNow_91 o20 (by decide) rfl ?_
      obtain ⟨o19, h⟩ := h
      refine WP_pcallV (g := mX6_beside) (as := [vI b, vI (((D 60 a.toNat) + 1) % 4)]) (rest := [vR 56]) (n := 2) (r := vI (fX6_beside D b (((D 60 a.toNat) + 1) % 4))) dX6_windNow_92 wm_427 mo_X6_beside rfl rfl rfl rfl ⟨Nat.le_of_ble_eq_true rfl, Nat.le_of_ble_eq_true rfl⟩ (Nat.le_of_ble_eq_true rfl) (P_X6_beside  o19) ?_
      obtain ⟨o18, h⟩ := h
      refine WP_pcallV (g := mX6_isWallAt) (as := [vI (fX6_beside D b (((D 60 a.toNat) + 1) % 4))]) (rest := []) (n := 1) (r := vI (fX6_isWallAt D (fX6_beside D b (((D 60 a.toNat) + 1) % 4)))) dX6_windNow_95 wm_431 mo_X6_isWallAt rfl rfl rfl rfl ⟨Nat.le_of_ble_eq_true rfl, Nat.le_of_ble_eq_true rfl⟩ (Nat.le_of_ble_eq_true rfl) (P_X6_isWallAt  o18) ?_
      obtain ⟨o3, h⟩ := h
      refine WP_via (pc1 := 123) (ls1 := [vR 56, vI a, vI b, vI (D 60 a.toNat), vI (fX6_beside D b (D 60 a.toNat)), vI (if (fX6_beside D b (D 60 a.toNat)) = (-1) then ((-1) : Int) else (fX6_beside D (fX6_beside D b (D 60 a.toNat)) (D 60 a.toNat))), vI (if (D 59 b.toNat) = 0 then ((if (fX6_isWallAt D (fX6_beside D b (D 60 a.toNat))) = 0 then ((if (fX6_isWallAt D (if (fX6_beside D b (D 60 a.toNat)) = (-1) then ((-1) : Int) else (fX6_beside D (fX6_beside D b (D 60 a.toNat)) (D 60 a.toNat)))) = 0 then ((D 61 a.toNat) : Int) else ((D 61 a.toNat) / 2)) : Int) else 0) : Int) else 0), vU]) (st1 := [vI (if (fX6_isWallAt D (fX6_beside D b (((D 60 a.toNat) + 1) % 4))) = 0 then (0 : Int) else (if (fX6_isWallAt D (fX6_beside D b (((D 60 a.toNat) + 3) % 4))) = 0 then (0 : Int) else 1))]) (D1 := D) (fun hJ12 => ?_) ?_
      · refine WP_if_eq (tgt := 122) dX6_windNow_98 (by decide) (fun c13 => ?_) (fun c13 => ?_)
        · replace hJ12 := ite_t (P := fun v_ : Int => WP mX6_windNow Q 123 [vR 56, vI a, vI b, vI (D 60 a.toNat), vI (fX6_beside D b (D 60 a.toNat)), vI (if (fX6_beside D b (D 60 a.toNat)) = (-1) then ((-1) : Int) else (fX6_beside D (fX6_beside D b (D 60 a.toNat)) (D 60 a.toNat))), vI (if (D 59 b.toNat) = 0 then ((if (fX6_isWallAt D (fX6_beside D b (D 60 a.toNat))) = 0 then ((if (fX6_isWallAt D (if (fX6_beside D b (D 60 a.toNat)) = (-1) then ((-1) : Int) else (fX6_beside D (fX6_beside D b (D 60 a.toNat)) (D 60 a.toNat)))) = 0 then ((D 61 a.toNat) : Int) else ((D 61 a.toNat) / 2)) : Int) else 0) : Int) else 0), vU] [vI v_] D) hJ12 c13
          have o14 := o3.1 c13
          refine WP_iconst (z := 0) dX6_windNow_122 rfl ⟨by decide, by decide⟩ ?_
          exact hJ12
        · replace hJ12 := ite_f (P := fun v_ : Int => WP mX6_windNow Q 123 [vR 56, vI a, vI b, vI (D 60 a.toNat), vI (fX6_beside D b (D 60 a.toNat)), vI (if (fX6_beside D b (D 60 a.toNat)) = (-1) then ((-1) : Int) else (fX6_beside D (fX6_beside D b (D 60 a.toNat)) (D 60 a.toNat))), vI (if (D 59 b.toNat) = 0 then ((if (fX6_isWallAt D (fX6_beside D b (D 60 a.toNat))) = 0 then ((if (fX6_isWallAt D (if (fX6_beside D b (D 60 a.toNat)) = (-1) then ((-1) : Int) else (fX6_beside D (fX6_beside D b (D 60 a.toNat)) (D 60 a.toNat)))) = 0 then ((D 61 a.toNat) : Int) else ((D 61 a.toNat) / 2)) : Int) else 0) : Int) else 0), vU] [vI v_] D) hJ12 c13
          have o15 := o3.2 c13
          refine WP_aload_n (z := 56) dX6_windNow_101 rfl ?_
          refine WP_aload_n (z := 56) dX6_windNow_102 rfl ?_
          refine WP_iload_n (z := b) dX6_windNow_103 rfl ?_
          refine WP_iload_n (z := (D 60 a.toNat)) dX6_windNow_104 rfl ?_
          refine WP_iconst (z := 3) dX6_windNow_105 rfl ⟨by decide, by decide⟩ ?_
          refine WP_iadd (z := ((D 60 a.toNat) + 3)) dX6_windNow_106 (w32_id o15.1) ?_
          refine WP_iconst (z := 4) dX6_windNow_107 rfl ⟨by decide, by decide⟩ ?_
          refine WP_irem dX6_windNow_108 o15.2.1 (by decide) rfl ?_
          refine WP_pcallV (g := mX6_beside) (as := [vI b, vI (((D 60 a.toNat) + 3) % 4)]) (rest := [vR 56]) (n := 2) (r := vI (fX6_beside D b (((D 60 a.toNat) + 3) % 4))) dX6_windNow_109 wm_427 mo_X6_beside rfl rfl rfl rfl ⟨Nat.le_of_ble_eq_true rfl, Nat.le_of_ble_eq_true rfl⟩ (Nat.le_of_ble_eq_true rfl) (P_X6_beside  o15.2.2.1) ?_
          refine WP_pcallV (g := mX6_isWallAt) (as := [vI (fX6_beside D b (((D 60 a.toNat) + 3) % 4))]) (rest := []) (n := 1) (r := vI (fX6_isWallAt D (fX6_beside D b (((D 60 a.toNat) + 3) % 4)))) dX6_windNow_112 wm_431 mo_X6_isWallAt rfl rfl rfl rfl ⟨Nat.le_of_ble_eq_true rfl, Nat.le_of_ble_eq_true rfl⟩ (Nat.le_of_ble_eq_true rfl) (P_X6_isWallAt  o15.2.2.2) ?_
          refine WP_via (pc1 := 123) (ls1 := [vR 56, vI a, vI b, vI (D 60 a.toNat), vI (fX6_beside D b (D 60 a.toNat)), vI (if (fX6_beside D b (D 60 a.toNat)) = (-1) then ((-1) : Int) else (fX6_beside D (fX6_beside D b (D 60 a.toNat)) (D 60 a.toNat))), vI (if (D 59 b.toNat) = 0 then ((if (fX6_isWallAt D (fX6_beside D b (D 60 a.toNat))) = 0 then ((if (fX6_isWallAt D (if (fX6_beside D b (D 60 a.toNat)) = (-1) then ((-1) : Int) else (fX6_beside D (fX6_beside D b (D 60 a.toNat)) (D 60 a.toNat)))) = 0 then ((D 61 a.toNat) : Int) else ((D 61 a.toNat) / 2)) : Int) else 0) : Int) else 0), vU]) (st1 := [vI (if (fX6_isWallAt D (fX6_beside D b (((D 60 a.toNat) + 3) % 4))) = 0 then (0 : Int) else 1)]) (D1 := D) (fun hJ16 => ?_) ?_
          · refine WP_if_eq (tgt := 122) dX6_windNow_115 (by decide) (fun c17 => ?_) (fun c17 => ?_)
            · replace hJ16 := ite_t (P := fun v_ : Int => WP mX6_windNow Q 123 [vR 56, vI a, vI b, vI (D 60 a.toNat), vI (fX6_beside D b (D 60 a.toNat)), vI (if (fX6_beside D b (D 60 a.toNat)) = (-1) then ((-1) : Int) else (fX6_beside D (fX6_beside D b (D 60 a.toNat)) (D 60 a.toNat))), vI (if (D 59 b.toNat) = 0 then ((if (fX6_isWallAt D (fX6_beside D b (D 60 a.toNat))) = 0 then ((if (fX6_isWallAt D (if (fX6_beside D b (D 60 a.toNat)) = (-1) then ((-1) : Int) else (fX6_beside D (fX6_beside D b (D 60 a.toNat)) (D 60 a.toNat)))) = 0 then ((D 61 a.toNat) : Int) else ((D 61 a.toNat) / 2)) : Int) else 0) : Int) else 0), vU] [vI v_] D) hJ16 c17
              refine WP_iconst (z := 0) dX6_windNow_122 rfl ⟨by decide, by decide⟩ ?_
              exact hJ16
            · replace hJ16 := ite_f (P := fun v_ : Int => WP mX6_windNow Q 123 [vR 56, vI a, vI b, vI (D 60 a.toNat), vI (fX6_beside D b (D 60 a.toNat)), vI (if (fX6_beside D b (D 60 a.toNat)) = (-1) then ((-1) : Int) else (fX6_beside D (fX6_beside D b (D 60 a.toNat)) (D 60 a.toNat))), vI (if (D 59 b.toNat) = 0 then ((if (fX6_isWallAt D (fX6_beside D b (D 60 a.toNat))) = 0 then ((if (fX6_isWallAt D (if (fX6_beside D b (D 60 a.toNat)) = (-1) then ((-1) : Int) else (fX6_beside D (fX6_beside D b (D 60 a.toNat)) (D 60 a.toNat)))) = 0 then ((D 61 a.toNat) : Int) else ((D 61 a.toNat) / 2)) : Int) else 0) : Int) else 0), vU] [vI v_] D) hJ16 c17
              refine WP_iconst (z := 1) dX6_windNow_118 rfl ⟨by decide, by decide⟩ ?_
              refine WP_goto (tgt := 123) dX6_windNow_119 (by decide) ?_
              exact hJ16
          exact hJ12
      · refine WP_istore (ls1 := [vR 56, vI a, vI b, vI (D 60 a.toNat), vI (fX6_beside D b (D 60 a.toNat)), vI (if (fX6_beside D b (D 60 a.toNat)) = (-1) then ((-1) : Int) else (fX6_beside D (fX6_beside D b (D 60 a.toNat)) (D 60 a.toNat))), vI (if (D 59 b.toNat) = 0 then ((if (fX6_isWallAt D (fX6_beside D b (D 60 a.toNat))) = 0 then ((if (fX6_isWallAt D (if (fX6_beside D b (D 60 a.toNat)) = (-1) then ((-1) : Int) else (fX6_beside D (fX6_beside D b (D 60 a.toNat)) (D 60 a.toNat)))) = 0 then ((D 61 a.toNat) : Int) else ((D 61 a.toNat) / 2)) : Int) else 0) : Int) else 0), vI (if (fX6_isWallAt D (fX6_beside D b (((D 60 a.toNat) + 1) % 4))) = 0 then (0 : Int) else (if (fX6_isWallAt D (fX6_beside D b (((D 60 a.toNat) + 3) % 4))) = 0 then (0 : Int) else 1))]) dX6_windNow_123 (by decide) rfl ?_
        refine WP_iload (z := (if (D 59 b.toNat) = 0 then ((if (fX6_isWallAt D (fX6_beside D b (D 60 a.toNat))) = 0 then ((if (fX6_isWallAt D (if (fX6_beside D b (D 60 a.toNat)) = (-1) then ((-1) : Int) else (fX6_beside D (fX6_beside D b (D 60 a.toNat)) (D 60 a.toNat)))) = 0 then ((D 61 a.toNat) : Int) else ((D 61 a.toNat) / 2)) : Int) else 0) : Int) else 0)) dX6_windNow_125 rfl ?_
        refine WP_iload (z := (if (D 59 b.toNat) = 0 then ((if (fX6_isWallAt D (fX6_beside D b (D 60 a.toNat))) = 0 then ((if (fX6_isWallAt D (if (fX6_beside D b (D 60 a.toNat)) = (-1) then ((-1) : Int) else (fX6_beside D (fX6_beside D b (D 60 a.toNat)) (D 60 a.toNat)))) = 0 then ((D 61 a.toNat) : Int) else ((D 61 a.toNat) / 2)) : Int) else 0) : Int) else 0)) dX6_windNow_127 rfl ?_
        refine WP_via (pc1 := 142) (ls1 := [vR 56, vI a, vI b, vI (D 60 a.toNat), vI (fX6_beside D b (D 60 a.toNat)), vI (if (fX6_beside D b (D 60 a.toNat)) = (-1) then ((-1) : Int) else (fX6_beside D (fX6_beside D b (D 60 a.toNat)) (D 60 a.toNat))), vI (if (D 59 b.toNat) = 0 then ((if (fX6_isWallAt D (fX6_beside D b (D 60 a.toNat))) = 0 then ((if (fX6_isWallAt D (if (fX6_beside D b (D 60 a.toNat)) = (-1) then ((-1) : Int) else (fX6_beside D (fX6_beside D b (D 60 a.toNat)) (D 60 a.toNat)))) = 0 then ((D 61 a.toNat) : Int) else ((D 61 a.toNat) / 2)) : Int) else 0) : Int) else 0), vI (if (fX6_isWallAt D (fX6_beside D b (((D 60 a.toNat) + 1) % 4))) = 0 then (0 : Int) else (if (fX6_isWallAt D (fX6_beside D b (((D 60 a.toNat) + 3) % 4))) = 0 then (0 : Int) else 1))]) (st1 := [vI (if (if (D 59 b.toNat) = 0 then ((if (fX6_isWallAt D (fX6_beside D b (D 60 a.toNat))) = 0 then ((if (fX6_isWallAt D (if (fX6_beside D b (D 60 a.toNat)) = (-1) then ((-1) : Int) else (fX6_beside D (fX6_beside D b (D 60 a.toNat)) (D 60 a.toNat)))) = 0 then ((D 61 a.toNat) : Int) else ((D 61 a.toNat) / 2)) : Int) else 0) : Int) else 0) ≤ 0 then (0 : Int) else (if (if (fX6_isWallAt D (fX6_beside D b (((D 60 a.toNat) + 1) % 4))) = 0 then (0 : Int) else (if (fX6_isWallAt D (fX6_beside D b (((D 60 a.toNat) + 3) % 4))) = 0 then (0 : Int) else 1)) = 0 then (0 : Int) else 3)), vI (if (D 59 b.toNat) = 0 then ((if (fX6_isWallAt D (fX6_beside D b (D 60 a.toNat))) = 0 then ((if (fX6_isWallAt D (if (fX6_beside D b (D 60 a.toNat)) = (-1) then ((-1) : Int) else (fX6_beside D (fX6_beside D b (D 60 a.toNat)) (D 60 a.toNat)))) = 0 then ((D 61 a.toNat) : Int) else ((D 61 a.toNat) / 2)) : Int) else 0) : Int) else 0)]) (D1 := D) (fun hJ8 => ?_) ?_
        · refine WP_if_le (tgt := 141) dX6_windNow_129 (by decide) (fun c9 => ?_) (fun c9 => ?_)
          · replace hJ8 := ite_t (P := fun v_ : Int => WP mX6_windNow Q 142 [vR 56, vI a, vI b, vI (D 60 a.toNat), vI (fX6_beside D b (D 60 a.toNat)), vI (if (fX6_beside D b (D 60 a.toNat)) = (-1) then ((-1) : Int) else (fX6_beside D (fX6_beside D b (D 60 a.toNat)) (D 60 a.toNat))), vI (if (D 59 b.toNat) = 0 then ((if (fX6_isWallAt D (fX6_beside D b (D 60 a.toNat))) = 0 then ((if (fX6_isWallAt D (if (fX6_beside D b (D 60 a.toNat)) = (-1) then ((-1) : Int) else (fX6_beside D (fX6_beside D b (D 60 a.toNat)) (D 60 a.toNat)))) = 0 then ((D 61 a.toNat) : Int) else ((D 61 a.toNat) / 2)) : Int) else 0) : Int) else 0), vI (if (fX6_isWallAt D (fX6_beside D b (((D 60 a.toNat) + 1) % 4))) = 0 then (0 : Int) else (if (fX6_isWallAt D (fX6_beside D b (((D 60 a.toNat) + 3) % 4))) = 0 then (0 : Int) else 1))] [vI v_, vI (if (D 59 b.toNat) = 0 then ((if (fX6_isWallAt D (fX6_beside D b (D 60 a.toNat))) = 0 then ((if (fX6_isWallAt D (if (fX6_beside D b (D 60 a.toNat)) = (-1) then ((-1) : Int) else (fX6_beside D (fX6_beside D b (D 60 a.toNat)) (D 60 a.toNat)))) = 0 then ((D 61 a.toNat) : Int) else ((D 61 a.toNat) / 2)) : Int) else 0) : Int) else 0)] D) hJ8 c9
            refine WP_iconst (z := 0) dX6_windNow_141 rfl ⟨by decide, by decide⟩ ?_
            exact hJ8
          · replace hJ8 := ite_f (P := fun v_ : Int => WP mX6_windNow Q 142 [vR 56, vI a, vI b, vI (D 60 a.toNat), vI (fX6_beside D b (D 60 a.toNat)), vI (if (fX6_beside D b (D 60 a.toNat)) = (-1) then ((-1) : Int) else (fX6_beside D (fX6_beside D b (D 60 a.toNat)) (D 60 a.toNat))), vI (if (D 59 b.toNat) = 0 then ((if (fX6_isWallAt D (fX6_beside D b (D 60 a.toNat))) = 0 then ((if (fX6_isWallAt D (if (fX6_beside D b (D 60 a.toNat)) = (-1) then ((-1) : Int) else (fX6_beside D (fX6_beside D b (D 60 a.toNat)) (D 60 a.toNat)))) = 0 then ((D 61 a.toNat) : Int) else ((D 61 a.toNat) / 2)) : Int) else 0) : Int) else 0), vI (if (fX6_isWallAt D (fX6_beside D b (((D 60 a.toNat) + 1) % 4))) = 0 then (0 : Int) else (if (fX6_isWallAt D (fX6_beside D b (((D 60 a.toNat) + 3) % 4))) = 0 then (0 : Int) else 1))] [vI v_, vI (if (D 59 b.toNat) = 0 then ((if (fX6_isWallAt D (fX6_beside D b (D 60 a.toNat))) = 0 then ((if (fX6_isWallAt D (if (fX6_beside D b (D 60 a.toNat)) = (-1) then ((-1) : Int) else (fX6_beside D (fX6_beside D b (D 60 a.toNat)) (D 60 a.toNat)))) = 0 then ((D 61 a.toNat) : Int) else ((D 61 a.toNat) / 2)) : Int) else 0) : Int) else 0)] D) hJ8 c9
            refine WP_iload (z := (if (fX6_isWallAt D (fX6_beside D b (((D 60 a.toNat) + 1) % 4))) = 0 then (0 : Int) else (if (fX6_isWallAt D (fX6_beside D b (((D 60 a.toNat) + 3) % 4))) = 0 then (0 : Int) else 1))) dX6_windNow_132 rfl ?_
            refine WP_via (pc1 := 142) (ls1 := [vR 56, vI a, vI b, vI (D 60 a.toNat), vI (fX6_beside D b (D 60 a.toNat)), vI (if (fX6_beside D b (D 60 a.toNat)) = (-1) then ((-1) : Int) else (fX6_beside D (fX6_beside D b (D 60 a.toNat)) (D 60 a.toNat))), vI (if (D 59 b.toNat) = 0 then ((if (fX6_isWallAt D (fX6_beside D b (D 60 a.toNat))) = 0 then ((if (fX6_isWallAt D (if (fX6_beside D b (D 60 a.toNat)) = (-1) then ((-1) : Int) else (fX6_beside D (fX6_beside D b (D 60 a.toNat)) (D 60 a.toNat)))) = 0 then ((D 61 a.toNat) : Int) else ((D 61 a.toNat) / 2)) : Int) else 0) : Int) else 0), vI (if (fX6_isWallAt D (fX6_beside D b (((D 60 a.toNat) + 1) % 4))) = 0 then (0 : Int) else (if (fX6_isWallAt D (fX6_beside D b (((D 60 a.toNat) + 3) % 4))) = 0 then (0 : Int) else 1))]) (st1 := [vI (if (if (fX6_isWallAt D (fX6_beside D b (((D 60 a.toNat) + 1) % 4))) = 0 then (0 : Int) else (if (fX6_isWallAt D (fX6_beside D b (((D 60 a.toNat) + 3) % 4))) = 0 then (0 : Int) else 1)) = 0 then (0 : Int) else 3), vI (if (D 59 b.toNat) = 0 then ((if (fX6_isWallAt D (fX6_beside D b (D 60 a.toNat))) = 0 then ((if (fX6_isWallAt D (if (fX6_beside D b (D 60 a.toNat)) = (-1) then ((-1) : Int) else (fX6_beside D (fX6_beside D b (D 60 a.toNat)) (D 60 a.toNat)))) = 0 then ((D 61 a.toNat) : Int) else ((D 61 a.toNat) / 2)) : Int) else 0) : Int) else 0)]) (D1 := D) (fun hJ10 => ?_) ?_
            · refine WP_if_eq (tgt := 141) dX6_windNow_134 (by decide) (fun c11 => ?_) (fun c11 => ?_)
              · replace hJ10 := ite_t (P := fun v_ : Int => WP mX6_windNow Q 142 [vR 56, vI a, vI b, vI (D 60 a.toNat), vI (fX6_beside D b (D 60 a.toNat)), vI (if (fX6_beside D b (D 60 a.toNat)) = (-1) then ((-1) : Int) else (fX6_beside D (fX6_beside D b (D 60 a.toNat)) (D 60 a.toNat))), vI (if (D 59 b.toNat) = 0 then ((if (fX6_isWallAt D (fX6_beside D b (D 60 a.toNat))) = 0 then ((if (fX6_isWallAt D (if (fX6_beside D b (D 60 a.toNat)) = (-1) then ((-1) : Int) else (fX6_beside D (fX6_beside D b (D 60 a.toNat)) (D 60 a.toNat)))) = 0 then ((D 61 a.toNat) : Int) else ((D 61 a.toNat) / 2)) : Int) else 0) : Int) else 0), vI (if (fX6_isWallAt D (fX6_beside D b (((D 60 a.toNat) + 1) % 4))) = 0 then (0 : Int) else (if (fX6_isWallAt D (fX6_beside D b (((D 60 a.toNat) + 3) % 4))) = 0 then (0 : Int) else 1))] [vI v_, vI (if (D 59 b.toNat) = 0 then ((if (fX6_isWallAt D (fX6_beside D b (D 60 a.toNat))) = 0 then ((if (fX6_isWallAt D (if (fX6_beside D b (D 60 a.toNat)) = (-1) then ((-1) : Int) else (fX6_beside D (fX6_beside D b (D 60 a.toNat)) (D 60 a.toNat)))) = 0 then ((D 61 a.toNat) : Int) else ((D 61 a.toNat) / 2)) : Int) else 0) : Int) else 0)] D) hJ10 c11
                refine WP_iconst (z := 0) dX6_windNow_141 rfl ⟨by decide, by decide⟩ ?_
                exact hJ10
              · replace hJ10 := ite_f (P := fun v_ : Int => WP mX6_windNow Q 142 [vR 56, vI a, vI b, vI (D 60 a.toNat), vI (fX6_beside D b (D 60 a.toNat)), vI (if (fX6_beside D b (D 60 a.toNat)) = (-1) then ((-1) : Int) else (fX6_beside D (fX6_beside D b (D 60 a.toNat)) (D 60 a.toNat))), vI (if (D 59 b.toNat) = 0 then ((if (fX6_isWallAt D (fX6_beside D b (D 60 a.toNat))) = 0 then ((if (fX6_isWallAt D (if (fX6_beside D b (D 60 a.toNat)) = (-1) then ((-1) : Int) else (fX6_beside D (fX6_beside D b (D 60 a.toNat)) (D 60 a.toNat)))) = 0 then ((D 61 a.toNat) : Int) else ((D 61 a.toNat) / 2)) : Int) else 0) : Int) else 0), vI (if (fX6_isWallAt D (fX6_beside D b (((D 60 a.toNat) + 1) % 4))) = 0 then (0 : Int) else (if (fX6_isWallAt D (fX6_beside D b (((D 60 a.toNat) + 3) % 4))) = 0 then (0 : Int) else 1))] [vI v_, vI (if (D 59 b.toNat) = 0 then ((if (fX6_isWallAt D (fX6_beside D b (D 60 a.toNat))) = 0 then ((if (fX6_isWallAt D (if (fX6_beside D b (D 60 a.toNat)) = (-1) then ((-1) : Int) else (fX6_beside D (fX6_beside D b (D 60 a.toNat)) (D 60 a.toNat)))) = 0 then ((D 61 a.toNat) : Int) else ((D 61 a.toNat) / 2)) : Int) else 0) : Int) else 0)] D) hJ10 c11
                refine WP_iconst (z := 3) dX6_windNow_137 rfl ⟨by decide, by decide⟩ ?_
                refine WP_goto (tgt := 142) dX6_windNow_138 (by decide) ?_
                exact hJ10
            exact hJ8
        · obtain ⟨o7, h⟩ := h
          refine WP_iadd (z := ((if (D 59 b.toNat) = 0 then ((if (fX6_isWallAt D (fX6_beside D b (D 60 a.toNat))) = 0 then ((if (fX6_isWallAt D (if (fX6_beside D b (D 60 a.toNat)) = (-1) then ((-1) : Int) else (fX6_beside D (fX6_beside D b (D 60 a.toNat)) (D 60 a.toNat)))) = 0 then ((D 61 a.toNat) : Int) else ((D 61 a.toNat) / 2)) : Int) else 0) : Int) else 0) + (if (if (D 59 b.toNat) = 0 then ((if (fX6_isWallAt D (fX6_beside D b (D 60 a.toNat))) = 0 then ((if (fX6_isWallAt D (if (fX6_beside D b (D 60 a.toNat)) = (-1) then ((-1) : Int) else (fX6_beside D (fX6_beside D b (D 60 a.toNat)) (D 60 a.toNat)))) = 0 then ((D 61 a.toNat) : Int) else ((D 61 a.toNat) / 2)) : Int) else 0) : Int) else 0) ≤ 0 then (0 : Int) else (if (if (fX6_isWallAt D (fX6_beside D b (((D 60 a.toNat) + 1) % 4))) = 0 then (0 : Int) else (if (fX6_isWallAt D (fX6_beside D b (((D 60 a.toNat) + 3) % 4))) = 0 then (0 : Int) else 1)) = 0 then (0 : Int) else 3)))) dX6_windNow_142 (w32_id o7) ?_
          refine WP_istore (ls1 := [vR 56, vI a, vI b, vI (D 60 a.toNat), vI (fX6_beside D b (D 60 a.toNat)), vI (if (fX6_beside D b (D 60 a.toNat)) = (-1) then ((-1) : Int) else (fX6_beside D (fX6_beside D b (D 60 a.toNat)) (D 60 a.toNat))), vI ((if (D 59 b.toNat) = 0 then ((if (fX6_isWallAt D (fX6_beside D b (D 60 a.toNat))) = 0 then ((if (fX6_isWallAt D (if (fX6_beside D b (D 60 a.toNat)) = (-1) then ((-1) : Int) else (fX6_beside D (fX6_beside D b (D 60 a.toNat)) (D 60 a.toNat)))) = 0 then ((D 61 a.toNat) : Int) else ((D 61 a.toNat) / 2)) : Int) else 0) : Int) else 0) + (if (if (D 59 b.toNat) = 0 then ((if (fX6_isWallAt D (fX6_beside D b (D 60 a.toNat))) = 0 then ((if (fX6_isWallAt D (if (fX6_beside D b (D 60 a.toNat)) = (-1) then ((-1) : Int) else (fX6_beside D (fX6_beside D b (D 60 a.toNat)) (D 60 a.toNat)))) = 0 then ((D 61 a.toNat) : Int) else ((D 61 a.toNat) / 2)) : Int) else 0) : Int) else 0) ≤ 0 then (0 : Int) else (if (if (fX6_isWallAt D (fX6_beside D b (((D 60 a.toNat) + 1) % 4))) = 0 then (0 : Int) else (if (fX6_isWallAt D (fX6_beside D b (((D 60 a.toNat) + 3) % 4))) = 0 then (0 : Int) else 1)) = 0 then (0 : Int) else 3))), vI (if (fX6_isWallAt D (fX6_beside D b (((D 60 a.toNat) + 1) % 4))) = 0 then (0 : Int) else (if (fX6_isWallAt D (fX6_beside D b (((D 60 a.toNat) + 3) % 4))) = 0 then (0 : Int) else 1))]) dX6_windNow_143 (by decide) rfl ?_
          refine WP_aload_n (z := 56) dX6_windNow_145 rfl ?_
          refine WP_iload_n (z := a) dX6_windNow_146 rfl ?_
          refine WP_iload (z := (fX6_beside D b (D 60 a.toNat))) dX6_windNow_147 rfl ?_
          obtain ⟨o6, h⟩ := h
          refine WP_pcallV (g := mX6_isLee) (as := [vI a, vI (fX6_beside D b (D 60 a.toNat))]) (rest := []) (n := 2) (r := vI (fX6_isLee D a (fX6_beside D b (D 60 a.toNat)))) dX6_windNow_149 wm_435 mo_X6_isLee rfl rfl rfl rfl ⟨Nat.le_of_ble_eq_true rfl, Nat.le_of_ble_eq_true rfl⟩ (Nat.le_of_ble_eq_true rfl) (P_X6_isLee  o6) ?_
          refine WP_if_eq (tgt := 162) dX6_windNow_152 (by decide) (fun c4 => ?_) (fun c4 => ?_)
          · replace h := h.1 c4
            refine WP_iload (z := ((if (D 59 b.toNat) = 0 then ((if (fX6_isWallAt D (fX6_beside D b (D 60 a.toNat))) = 0 then ((if (fX6_isWallAt D (if (fX6_beside D b (D 60 a.toNat)) = (-1) then ((-1) : Int) else (fX6_beside D (fX6_beside D b (D 60 a.toNat)) (D 60 a.toNat)))) = 0 then ((D 61 a.toNat) : Int) else ((D 61 a.toNat) / 2)) : Int) else 0) : Int) else 0) + (if (if (D 59 b.toNat) = 0 then ((if (fX6_isWallAt D (fX6_beside D b (D 60 a.toNat))) = 0 then ((if (fX6_isWallAt D (if (fX6_beside D b (D 60 a.toNat)) = (-1) then ((-1) : Int) else (fX6_beside D (fX6_beside D b (D 60 a.toNat)) (D 60 a.toNat)))) = 0 then ((D 61 a.toNat) : Int) else ((D 61 a.toNat) / 2)) : Int) else 0) : Int) else 0) ≤ 0 then (0 : Int) else (if (if (fX6_isWallAt D (fX6_beside D b (((D 60 a.toNat) + 1) % 4))) = 0 then (0 : Int) else (if (fX6_isWallAt D (fX6_beside D b (((D 60 a.toNat) + 3) % 4))) = 0 then (0 : Int) else 1)) = 0 then (0 : Int) else 3)))) dX6_windNow_162 rfl ?_
            exact WP_ireturn dX6_windNow_164 rfl h
          · replace h := h.2 c4
            refine WP_iload (z := ((if (D 59 b.toNat) = 0 then ((if (fX6_isWallAt D (fX6_beside D b (D 60 a.toNat))) = 0 then ((if (fX6_isWallAt D (if (fX6_beside D b (D 60 a.toNat)) = (-1) then ((-1) : Int) else (fX6_beside D (fX6_beside D b (D 60 a.toNat)) (D 60 a.toNat)))) = 0 then ((D 61 a.toNat) : Int) else ((D 61 a.toNat) / 2)) : Int) else 0) : Int) else 0) + (if (if (D 59 b.toNat) = 0 then ((if (fX6_isWallAt D (fX6_beside D b (D 60 a.toNat))) = 0 then ((if (fX6_isWallAt D (if (fX6_beside D b (D 60 a.toNat)) = (-1) then ((-1) : Int) else (fX6_beside D (fX6_beside D b (D 60 a.toNat)) (D 60 a.toNat)))) = 0 then ((D 61 a.toNat) : Int) else ((D 61 a.toNat) / 2)) : Int) else 0) : Int) else 0) ≤ 0 then (0 : Int) else (if (if (fX6_isWallAt D (fX6_beside D b (((D 60 a.toNat) + 1) % 4))) = 0 then (0 : Int) else (if (fX6_isWallAt D (fX6_beside D b (((D 60 a.toNat) + 3) % 4))) = 0 then (0 : Int) else 1)) = 0 then (0 : Int) else 3)))) dX6_windNow_155 rfl ?_
            refine WP_iconst (z := 2) dX6_windNow_157 rfl ⟨by decide, by decide⟩ ?_
            obtain ⟨o5, h⟩ := h
            refine WP_idiv dX6_windNow_158 o5 (by decide) rfl ?_
            refine WP_goto (tgt := 164) dX6_windNow_159 (by decide) ?_
            exact WP_ireturn dX6_windNow_164 rfl h
set_option maxRecDepth 100000 in
set_option maxHeartbeats 4000000 in
theorem P_X6_windNow {a : Int} {b : Int} {D : HP} (hob : oX6_windNow D a b) : CT mX6_windNow [vR 56, vI a, vI b] D (PF (vI (fX6_windNow D a b)) D) := by
  refine V_X6_windNow a b (fun hcD hc_0 hc_1 => ?_)
  obtain ⟨z, hz⟩ : ∃ z, z = fX6_windNow D a b := ⟨_, rfl⟩
  rw [← hz]
  unfold fX6_windNow at hz
  unfold oX6_windNow at hob
  refine ⟨hob.1, ?_⟩
  replace hob := hob.2
  refine ⟨hob.1, ?_⟩
  replace hob := hob.2
  refine ⟨hob.1, ?_⟩
  replace hob := hob.2
  refine ⟨hob.1, ?_⟩
  replace hob := hob.2
  refine ⟨hob.1, ?_⟩
  replace hob := hob.2
  refine ⟨hob.1, ?_⟩
  replace hob := hob.2
  refine ⟨hob.1, ?_⟩
  replace hob := hob.2
  refine ⟨hob.1, ?_⟩
  replace hob := hob.2
  refine ⟨hob.1, ?_⟩
  replace hob := hob.2
  refine ⟨hob.1, ?_⟩
  replace hob := hob.2
  refine ⟨hob.1, ?_⟩
  replace hob := hob.2
  refine ⟨hob.1, ?_⟩
  replace hob := hob.2
  refine ⟨fun k1 => ?_, fun k1 => ?_⟩
  · replace hob := hob.1 k1
    replace hz := hz.trans (if_pos k1)
    exact ⟨by rw [hz], rfl⟩
  · replace hob := hob.2 k1
    replace hz := hz.trans (if_neg k1)
    refine ⟨hob.1, ?_⟩
    replace hob := hob.2
    exact ⟨by rw [hz], rfl⟩
def fX6_strain (D : HP) (a : Int) (b : Int) : Int := (if (D 64 a.toNat) = 0 then ((b / 2) : Int) else (if (D 64 a.toNat) = 1 then (b : Int) else (2 * b)))
def oX6_strain (D : HP) (a : Int) (b : Int) : Prop := ((0 ≤ a ∧ a < 9) ∧ (((((D 64 a.toNat) = 0) → (0 ≤ b)) ∧ (¬ ((D 64 a.toNat) = 0) → (0 ≤ a ∧ a < 9) ∧ ((((D 64 a.toNat) = 1) → True) ∧ (¬ ((D 64 a.toNat) = 1) → (c32 (2 * b)))))) ∧ True))
set_option maxRecDepth 100000 in
set_option maxHeartbeats 4000000 in
theorem V_X6_strain (a : Int) (b : Int) {D : HP} {Q : Option MV → HP → Prop}
    (h0 : cD D → c32 a → c32 b → ((0 ≤ a ∧ a < 9) ∧ (((((D 64 a.toNat) = 0) → (0 ≤ b)) ∧ (¬ ((D 64 a.toNat) = 0) → (0 ≤ a ∧ a < 9) ∧ ((((D 64 a.toNat) = 1) → True) ∧ (¬ ((D 64 a.toNat) = 1) → (c32 (2 * b)))))) ∧ (Q (some (vI (if (D 64 a.toNat) = 0 then ((b / 2) : Int) else (if (D 64 a.toNat) = 1 then (b : Int) else (2 * b))))) D))))
    : CT mX6_strain [vR 56, vI a, vI b] D Q := by
  refine CT.of 0 (by decide) (Nat.le_of_ble_eq_true rfl) ?_
  show WP mX6_strain Q 0 [vR 56, vI a, vI b] [] D
  refine WP_cD (fun hcD => ?_)
  refine WP_cl (fun hcl => ?_)
  have h := h0 hcD (cVs_g hcl (i := 1) (v := vI a) rfl) (cVs_g hcl (i := 2) (v := vI b) rfl)
  refine WP_aload_n (z := 56) dX6_strain_0 rfl ?_
  refine WP_getR (z := 64) dX6_strain_1 fl_RX6_32 rfl rfl rfl ?_
  refine WP_iload_n (z := a) dX6_strain_4 rfl ?_
  obtain ⟨o10, h⟩ := h
  refine WP_iald dX6_strain_5 rfl o10.1 o10.2 rfl ?_
  obtain ⟨o1, h⟩ := h
  refine WP_via (pc1 := 32) (ls1 := [vR 56, vI a, vI b]) (st1 := [vI (if (D 64 a.toNat) = 0 then ((b / 2) : Int) else (if (D 64 a.toNat) = 1 then (b : Int) else (2 * b)))]) (D1 := D) (fun hJ2 => ?_) ?_
  · refine WP_if_ne (tgt := 15) dX6_strain_6 (by decide) (fun c3 => ?_) (fun c3 => ?_)
    · replace hJ2 := ite_f (P := fun v_ : Int => WP mX6_strain Q 32 [vR 56, vI a, vI b] [vI v_] D) hJ2 c3
      have o5 := o1.2 c3
      refine WP_aload_n (z := 56) dX6_strain_15 rfl ?_
      refine WP_getR (z := 64) dX6_strain_16 fl_RX6_32 rfl rfl rfl ?_
      refine WP_iload_n (z := a) dX6_strain_19 rfl ?_
      refine WP_iald dX6_strain_20 rfl o5.1.1 o5.1.2 rfl ?_
      refine WP_iconst (z := 1) dX6_strain_21 rfl ⟨by decide, by decide⟩ ?_
      refine WP_via (pc1 := 32) (ls1 := [vR 56, vI a, vI b]) (st1 := [vI (if (D 64 a.toNat) = 1 then (b : Int) else (2 * b))]) (D1 := D) (fun hJ6 => ?_) ?_
      · refine WP_icmp_ne (tgt := 29) dX6_strain_22 (by decide) (fun c7 => ?_) (fun c7 => ?_)
        · replace hJ6 := ite_f (P := fun v_ : Int => WP mX6_strain Q 32 [vR 56, vI a, vI b] [vI v_] D) hJ6 c7
          have o9 := o5.2.2 c7
          refine WP_iconst (z := 2) dX6_strain_29 rfl ⟨by decide, by decide⟩ ?_
          refine WP_iload_n (z := b) dX6_strain_30 rfl ?_
          refine WP_imul (z := (2 * b)) dX6_strain_31 (w32_id o9) ?_
          exact hJ6
        · replace hJ6 := ite_t (P := fun v_ : Int => WP mX6_strain Q 32 [vR 56, vI a, vI b] [vI v_] D) hJ6 c7
          have o8 := o5.2.1 c7
          refine WP_iload_n (z := b) dX6_strain_25 rfl ?_
          refine WP_goto (tgt := 32) dX6_strain_26 (by decide) ?_
          exact hJ6
      exact hJ2
    · replace hJ2 := ite_t (P := fun v_ : Int => WP mX6_strain Q 32 [vR 56, vI a, vI b] [vI v_] D) hJ2 c3
      have o4 := o1.1 c3
      refine WP_iload_n (z := b) dX6_strain_9 rfl ?_
      refine WP_iconst (z := 2) dX6_strain_10 rfl ⟨by decide, by decide⟩ ?_
      refine WP_idiv dX6_strain_11 o4 (by decide) rfl ?_
      refine WP_goto (tgt := 32) dX6_strain_12 (by decide) ?_
      exact hJ2
  · exact WP_ireturn dX6_strain_32 rfl h
set_option maxRecDepth 100000 in
set_option maxHeartbeats 4000000 in
theorem P_X6_strain {a : Int} {b : Int} {D : HP} (hob : oX6_strain D a b) : CT mX6_strain [vR 56, vI a, vI b] D (PF (vI (fX6_strain D a b)) D) := by
  refine V_X6_strain a b (fun hcD hc_0 hc_1 => ?_)
  obtain ⟨z, hz⟩ : ∃ z, z = fX6_strain D a b := ⟨_, rfl⟩
  rw [← hz]
  unfold fX6_strain at hz
  unfold oX6_strain at hob
  refine ⟨hob.1, ?_⟩
  replace hob := hob.2
  refine ⟨hob.1, ?_⟩
  replace hob := hob.2
  exact ⟨by rw [hz], rfl⟩
set_option maxRecDepth 100000 in
set_option maxHeartbeats 4000000 in
theorem V_X6_elects (a : Int) {D : HP} {Q : Option MV → HP → Prop} (I4 : Int → Int → Int → HP → Prop) (u4 : Int → Int → Int → HP → Nat)
    (h0 : cD D → c32 a → (I4 a (-1) 0 D))
    (h4 : ∀ (x1 x2 x3 : Int) (D : HP), I4 x1 x2 x3 D → cD D → c32 x1 → c32 x2 → c32 x3 → (((D 56 8) ≤ x3 → ((((x1 = 0) → True) ∧ (¬ (x1 = 0) → (c32 (x1 - 1)) ∧ (0 ≤ (x1 - 1) ∧ (x1 - 1) < 12))) ∧ ((0 ≤ x1 ∧ x1 < 12) ∧ (∀ (E3 : HP), E3 = (hu D 69 x1.toNat (if x1 = 0 then ((-1) : Int) else (D 69 ((x1 - 1)).toNat))) → ((x2 = (-1) → (Q none E3)) ∧ (¬ (x2 = (-1)) → ((0 ≤ x2 ∧ x2 < 8) ∧ (∀ (E6 : HP), E6 = (hu E3 68 x2.toNat 1) → ((0 ≤ x1 ∧ x1 < 12) ∧ (∀ (E8 : HP), E8 = (hu E6 69 x1.toNat x2) → (Q none E8))))))))))) ∧ (¬ ((D 56 8) ≤ x3) → ((0 ≤ x3 ∧ x3 < 8) ∧ (((D 66 x3.toNat) = x1 → ((c32 (x1 + 1)) ∧ (((((D 56 5) ≤ (x1 + 1)) → True) ∧ (¬ ((D 56 5) ≤ (x1 + 1)) → (c32 (x1 + 1)) ∧ (0 ≤ x3 ∧ x3 < 9) ∧ (oX6_windNow D (x1 + 1) (D 62 x3.toNat)))) ∧ ((0 ≤ x3 ∧ x3 < 8) ∧ (∀ (E19 : HP), E19 = (hu D 67 x3.toNat (if (D 56 5) ≤ (x1 + 1) then (0 : Int) else (if (fX6_windNow D (x1 + 1) (D 62 x3.toNat)) = 0 then (1 : Int) else 0))) → ((0 ≤ x3 ∧ x3 < 8) ∧ (((((E19 67 x3.toNat) = 0) → (((x2 = (-1)) → True) ∧ (¬ (x2 = (-1)) → (c32 (8 * x1)) ∧ (c32 ((8 * x1) + x3)) ∧ (0 ≤ ((8 * x1) + x3) ∧ ((8 * x1) + x3) < 104) ∧ (c32 (8 * x1)) ∧ (c32 ((8 * x1) + x2)) ∧ (0 ≤ ((8 * x1) + x2) ∧ ((8 * x1) + x2) < 104)))) ∧ (¬ ((E19 67 x3.toNat) = 0) → True)) ∧ (∀ (v22 : Int), v22 = (if (E19 67 x3.toNat) = 0 then ((if x2 = (-1) then (1 : Int) else (if (E19 65 (((8 * x1) + x2)).toNat) ≤ (E19 65 (((8 * x1) + x3)).toNat) then (0 : Int) else 1)) : Int) else 0) → ((c32 (x3 + 1)) ∧ (I4 x1 (if v22 = 0 then (x2 : Int) else x3) (x3 + 1) E19 ∧ u4 x1 (if v22 = 0 then (x2 : Int) else x3) (x3 + 1) E19 < u4 x1 x2 x3 D)))))))))) ∧ (¬ ((D 66 x3.toNat) = x1) → ((c32 (x3 + 1)) ∧ (I4 x1 x2 (x3 + 1) D ∧ u4 x1 x2 (x3 + 1) D < u4 x1 x2 x3 D))))))))
    : CT mX6_elects [vR 56, vI a] D Q := by
  refine CT.of 3 (by decide) (Nat.le_of_ble_eq_true rfl) ?_
  show WP mX6_elects Q 0 [vR 56, vI a, vU, vU, vU] [] D
  have IH : ∀ n : Nat, (∀ (x1 x2 x3 : Int) (D : HP), I4 x1 x2 x3 D → u4 x1 x2 x3 D * 1 + 0 < n → WP mX6_elects Q 4 [vR 56, vI x1, vI x2, vI x3, vU] [] D) := by
    intro n
    induction n with
    | zero => exact fun _ _ _ _ _ h => absurd h (Nat.not_lt_zero _)
    | succ n ih =>
      have ih4_ := ih
      · intro x1 x2 x3 D hI hn
        refine WP_cD (fun hcD => ?_)
        refine WP_cl (fun hcl => ?_)
        have h := h4 x1 x2 x3 D hI hcD (cVs_g hcl (i := 1) (v := vI x1) rfl) (cVs_g hcl (i := 2) (v := vI x2) rfl) (cVs_g hcl (i := 3) (v := vI x3) rfl)
        refine WP_iload_n (z := x3) dX6_elects_4 rfl ?_
        refine WP_aload_n (z := 56) dX6_elects_5 rfl ?_
        refine WP_getI dX6_elects_6 fl_RX6_112 rfl rfl rfl ?_
        refine WP_icmp_ge (tgt := 122) dX6_elects_9 (by decide) (fun c1 => ?_) (fun c1 => ?_)
        · replace h := h.1 c1
          refine WP_aload_n (z := 56) dX6_elects_122 rfl ?_
          refine WP_getR (z := 69) dX6_elects_123 fl_RX6_47 rfl rfl rfl ?_
          refine WP_iload_n (z := x1) dX6_elects_126 rfl ?_
          refine WP_iload_n (z := x1) dX6_elects_127 rfl ?_
          obtain ⟨o2, h⟩ := h
          refine WP_via (pc1 := 143) (ls1 := [vR 56, vI x1, vI x2, vI x3, vU]) (st1 := [vI (if x1 = 0 then ((-1) : Int) else (D 69 ((x1 - 1)).toNat)), vI x1, vR 69]) (D1 := D) (fun hJ13 => ?_) ?_
          · refine WP_if_ne (tgt := 135) dX6_elects_128 (by decide) (fun c14 => ?_) (fun c14 => ?_)
            · replace hJ13 := ite_f (P := fun v_ : Int => WP mX6_elects Q 143 [vR 56, vI x1, vI x2, vI x3, vU] [vI v_, vI x1, vR 69] D) hJ13 c14
              have o16 := o2.2 c14
              refine WP_aload_n (z := 56) dX6_elects_135 rfl ?_
              refine WP_getR (z := 69) dX6_elects_136 fl_RX6_47 rfl rfl rfl ?_
              refine WP_iload_n (z := x1) dX6_elects_139 rfl ?_
              refine WP_iconst (z := 1) dX6_elects_140 rfl ⟨by decide, by decide⟩ ?_
              refine WP_isub (z := (x1 - 1)) dX6_elects_141 (w32_id o16.1) ?_
              refine WP_iald dX6_elects_142 rfl o16.2.1 o16.2.2 rfl ?_
              exact hJ13
            · replace hJ13 := ite_t (P := fun v_ : Int => WP mX6_elects Q 143 [vR 56, vI x1, vI x2, vI x3, vU] [vI v_, vI x1, vR 69] D) hJ13 c14
              have o15 := o2.1 c14
              refine WP_iconst (z := (-1)) dX6_elects_131 rfl ⟨by decide, by decide⟩ ?_
              refine WP_goto (tgt := 143) dX6_elects_132 (by decide) ?_
              exact hJ13
          · obtain ⟨o12, h⟩ := h
            refine WP_iast dX6_elects_143 rfl o12.1 o12.2 ?_
            obtain ⟨E3, hE4⟩ : ∃ E3 : HP, E3 = (hu D 69 x1.toNat (if x1 = 0 then ((-1) : Int) else (D 69 ((x1 - 1)).toNat))) := ⟨_, rfl⟩
            replace h := h E3 hE4
            show WP mX6_elects Q 144 [vR 56, vI x1, vI x2, vI x3, vU] [] (hu D 69 x1.toNat (if x1 = 0 then ((-1) : Int) else (D 69 ((x1 - 1)).toNat)))
            rw [← hE4]
            refine WP_iload_n (z := x2) dX6_elects_144 rfl ?_
            refine WP_iconst (z := (-1)) dX6_elects_145 rfl ⟨by decide, by decide⟩ ?_
            refine WP_icmp_eq (tgt := 163) dX6_elects_146 (by decide) (fun c5 => ?_) (fun c5 => ?_)
            · replace h := h.1 c5
              exact WP_return dX6_elects_163 rfl h
            · replace h := h.2 c5
              refine WP_aload_n (z := 56) dX6_elects_149 rfl ?_
              refine WP_getR (z := 68) dX6_elects_150 fl_RX6_44 rfl rfl rfl ?_
              refine WP_iload_n (z := x2) dX6_elects_153 rfl ?_
              refine WP_iconst (z := 1) dX6_elects_154 rfl ⟨by decide, by decide⟩ ?_
              obtain ⟨o11, h⟩ := h
              refine WP_zast dX6_elects_155 rfl o11.1 o11.2 (Or.inr rfl) ?_
              obtain ⟨E6, hE7⟩ : ∃ E6 : HP, E6 = (hu E3 68 x2.toNat 1) := ⟨_, rfl⟩
              replace h := h E6 hE7
              show WP mX6_elects Q 156 [vR 56, vI x1, vI x2, vI x3, vU] [] (hu E3 68 x2.toNat 1)
              rw [← hE7]
              refine WP_aload_n (z := 56) dX6_elects_156 rfl ?_
              refine WP_getR (z := 69) dX6_elects_157 fl_RX6_47 rfl rfl rfl ?_
              refine WP_iload_n (z := x1) dX6_elects_160 rfl ?_
              refine WP_iload_n (z := x2) dX6_elects_161 rfl ?_
              obtain ⟨o10, h⟩ := h
              refine WP_iast dX6_elects_162 rfl o10.1 o10.2 ?_
              obtain ⟨E8, hE9⟩ : ∃ E8 : HP, E8 = (hu E6 69 x1.toNat x2) := ⟨_, rfl⟩
              replace h := h E8 hE9
              show WP mX6_elects Q 163 [vR 56, vI x1, vI x2, vI x3, vU] [] (hu E6 69 x1.toNat x2)
              rw [← hE9]
              exact WP_return dX6_elects_163 rfl h
        · replace h := h.2 c1
          refine WP_aload_n (z := 56) dX6_elects_12 rfl ?_
          refine WP_getR (z := 66) dX6_elects_13 fl_RX6_38 rfl rfl rfl ?_
          refine WP_iload_n (z := x3) dX6_elects_16 rfl ?_
          obtain ⟨o47, h⟩ := h
          refine WP_iald dX6_elects_17 rfl o47.1 o47.2 rfl ?_
          refine WP_iload_n (z := x1) dX6_elects_18 rfl ?_
          refine WP_icmp_ne (tgt := 116) dX6_elects_19 (by decide) (fun c17 => ?_) (fun c17 => ?_)
          · replace h := h.2 c17
            obtain ⟨o46, h⟩ := h
            refine WP_iinc (z := (x3 + 1)) (ls1 := [vR 56, vI x1, vI x2, vI (x3 + 1), vU]) dX6_elects_116 rfl (w32_id o46) (by decide) rfl ?_
            refine WP_goto (tgt := 4) dX6_elects_119 (by decide) ?_
            exact ih4_ _ _ _ _ h.1 (by have := h.2; omega)
          · replace h := h.1 c17
            refine WP_aload_n (z := 56) dX6_elects_22 rfl ?_
            refine WP_getR (z := 67) dX6_elects_23 fl_RX6_41 rfl rfl rfl ?_
            refine WP_iload_n (z := x3) dX6_elects_26 rfl ?_
            refine WP_iload_n (z := x1) dX6_elects_27 rfl ?_
            refine WP_iconst (z := 1) dX6_elects_28 rfl ⟨by decide, by decide⟩ ?_
            obtain ⟨o45, h⟩ := h
            refine WP_iadd (z := (x1 + 1)) dX6_elects_29 (w32_id o45) ?_
            refine WP_aload_n (z := 56) dX6_elects_30 rfl ?_
            refine WP_getI dX6_elects_31 fl_RX6_101 rfl rfl rfl ?_
            obtain ⟨o18, h⟩ := h
            refine WP_via (pc1 := 58) (ls1 := [vR 56, vI x1, vI x2, vI x3, vU]) (st1 := [vI (if (D 56 5) ≤ (x1 + 1) then (0 : Int) else (if (fX6_windNow D (x1 + 1) (D 62 x3.toNat)) = 0 then (1 : Int) else 0)), vI x3, vR 67]) (D1 := D) (fun hJ39 => ?_) ?_
            · refine WP_icmp_ge (tgt := 57) dX6_elects_34 (by decide) (fun c40 => ?_) (fun c40 => ?_)
              · replace hJ39 := ite_t (P := fun v_ : Int => WP mX6_elects Q 58 [vR 56, vI x1, vI x2, vI x3, vU] [vI v_, vI x3, vR 67] D) hJ39 c40
                have o41 := o18.1 c40
                refine WP_iconst (z := 0) dX6_elects_57 rfl ⟨by decide, by decide⟩ ?_
                exact hJ39
              · replace hJ39 := ite_f (P := fun v_ : Int => WP mX6_elects Q 58 [vR 56, vI x1, vI x2, vI x3, vU] [vI v_, vI x3, vR 67] D) hJ39 c40
                have o42 := o18.2 c40
                refine WP_aload_n (z := 56) dX6_elects_37 rfl ?_
                refine WP_iload_n (z := x1) dX6_elects_38 rfl ?_
                refine WP_iconst (z := 1) dX6_elects_39 rfl ⟨by decide, by decide⟩ ?_
                refine WP_iadd (z := (x1 + 1)) dX6_elects_40 (w32_id o42.1) ?_
                refine WP_aload_n (z := 56) dX6_elects_41 rfl ?_
                refine WP_getR (z := 62) dX6_elects_42 fl_RX6_26 rfl rfl rfl ?_
                refine WP_iload_n (z := x3) dX6_elects_45 rfl ?_
                refine WP_iald dX6_elects_46 rfl o42.2.1.1 o42.2.1.2 rfl ?_
                refine WP_pcallV (g := mX6_windNow) (as := [vI (x1 + 1), vI (D 62 x3.toNat)]) (rest := [vI x3, vR 67]) (n := 2) (r := vI (fX6_windNow D (x1 + 1) (D 62 x3.toNat))) dX6_elects_47 wm_423 mo_X6_windNow rfl rfl rfl rfl ⟨Nat.le_of_ble_eq_true rfl, Nat.le_of_ble_eq_true rfl⟩ (Nat.le_of_ble_eq_true rfl) (P_X6_windNow  o42.2.2) ?_
                refine WP_via (pc1 := 58) (ls1 := [vR 56, vI x1, vI x2, vI x3, vU]) (st1 := [vI (if (fX6_windNow D (x1 + 1) (D 62 x3.toNat)) = 0 then (1 : Int) else 0), vI x3, vR 67]) (D1 := D) (fun hJ43 => ?_) ?_
                · refine WP_if_ne (tgt := 57) dX6_elects_50 (by decide) (fun c44 => ?_) (fun c44 => ?_)
                  · replace hJ43 := ite_f (P := fun v_ : Int => WP mX6_elects Q 58 [vR 56, vI x1, vI x2, vI x3, vU] [vI v_, vI x3, vR 67] D) hJ43 c44
                    refine WP_iconst (z := 0) dX6_elects_57 rfl ⟨by decide, by decide⟩ ?_
                    exact hJ43
                  · replace hJ43 := ite_t (P := fun v_ : Int => WP mX6_elects Q 58 [vR 56, vI x1, vI x2, vI x3, vU] [vI v_, vI x3, vR 67] D) hJ43 c44
                    refine WP_iconst (z := 1) dX6_elects_53 rfl ⟨by decide, by decide⟩ ?_
                    refine WP_goto (tgt := 58) dX6_elects_54 (by decide) ?_
                    exact hJ43
                exact hJ39
            · obtain ⟨o38, h⟩ := h
              refine WP_zast dX6_elects_58 rfl o38.1 o38.2 (bool_ite (Or.inl rfl) (bool_ite (Or.inr rfl) (Or.inl rfl))) ?_
              obtain ⟨E19, hE20⟩ : ∃ E19 : HP, E19 = (hu D 67 x3.toNat (if (D 56 5) ≤ (x1 + 1) then (0 : Int) else (if (fX6_windNow D (x1 + 1) (D 62 x3.toNat)) = 0 then (1 : Int) else 0))) := ⟨_, rfl⟩
              replace h := h E19 hE20
              show WP mX6_elects Q 59 [vR 56, vI x1, vI x2, vI x3, vU] [] (hu D 67 x3.toNat (if (D 56 5) ≤ (x1 + 1) then (0 : Int) else (if (fX6_windNow D (x1 + 1) (D 62 x3.toNat)) = 0 then (1 : Int) else 0)))
              rw [← hE20]
              refine WP_aload_n (z := 56) dX6_elects_59 rfl ?_
              refine WP_getR (z := 67) dX6_elects_60 fl_RX6_41 rfl rfl rfl ?_
              refine WP_iload_n (z := x3) dX6_elects_63 rfl ?_
              obtain ⟨o37, h⟩ := h
              refine WP_zald dX6_elects_64 rfl o37.1 o37.2 rfl ?_
              obtain ⟨o21, h⟩ := h
              refine WP_via (pc1 := 103) (ls1 := [vR 56, vI x1, vI x2, vI x3, vU]) (st1 := [vI (if (E19 67 x3.toNat) = 0 then ((if x2 = (-1) then (1 : Int) else (if (E19 65 (((8 * x1) + x2)).toNat) ≤ (E19 65 (((8 * x1) + x3)).toNat) then (0 : Int) else 1)) : Int) else 0)]) (D1 := E19) (fun hJ27 => ?_) ?_
              · refine WP_if_ne (tgt := 102) dX6_elects_65 (by decide) (fun c28 => ?_) (fun c28 => ?_)
                · replace hJ27 := ite_f (P := fun v_ : Int => WP mX6_elects Q 103 [vR 56, vI x1, vI x2, vI x3, vU] [vI v_] E19) hJ27 c28
                  have o36 := o21.2 c28
                  refine WP_iconst (z := 0) dX6_elects_102 rfl ⟨by decide, by decide⟩ ?_
                  exact hJ27
                · replace hJ27 := ite_t (P := fun v_ : Int => WP mX6_elects Q 103 [vR 56, vI x1, vI x2, vI x3, vU] [vI v_] E19) hJ27 c28
                  have o29 := o21.1 c28
                  refine WP_iload_n (z := x2) dX6_elects_68 rfl ?_
                  refine WP_iconst (z := (-1)) dX6_elects_69 rfl ⟨by decide, by decide⟩ ?_
                  refine WP_via (pc1 := 103) (ls1 := [vR 56, vI x1, vI x2, vI x3, vU]) (st1 := [vI (if x2 = (-1) then (1 : Int) else (if (E19 65 (((8 * x1) + x2)).toNat) ≤ (E19 65 (((8 * x1) + x3)).toNat) then (0 : Int) else 1))]) (D1 := E19) (fun hJ30 => ?_) ?_
                  · refine WP_icmp_eq (tgt := 98) dX6_elects_70 (by decide) (fun c31 => ?_) (fun c31 => ?_)
                    · replace hJ30 := ite_t (P := fun v_ : Int => WP mX6_elects Q 103 [vR 56, vI x1, vI x2, vI x3, vU] [vI v_] E19) hJ30 c31
                      have o32 := o29.1 c31
                      refine WP_iconst (z := 1) dX6_elects_98 rfl ⟨by decide, by decide⟩ ?_
                      refine WP_goto (tgt := 103) dX6_elects_99 (by decide) ?_
                      exact hJ30
                    · replace hJ30 := ite_f (P := fun v_ : Int => WP mX6_elects Q 103 [vR 56, vI x1, vI x2, vI x3, vU] [vI v_] E19) hJ30 c31
                      have o33 := o29.2 c31
                      refine WP_aload_n (z := 56) dX6_elects_73 rfl ?_
                      refine WP_getR (z := 65) dX6_elects_74 fl_RX6_35 rfl rfl rfl ?_
                      refine WP_bipush (z := 8) dX6_elects_77 rfl (by decide) ?_
                      refine WP_iload_n (z := x1) dX6_elects_79 rfl ?_
                      refine WP_imul (z := (8 * x1)) dX6_elects_80 (w32_id o33.1) ?_
                      refine WP_iload_n (z := x3) dX6_elects_81 rfl ?_
                      refine WP_iadd (z := ((8 * x1) + x3)) dX6_elects_82 (w32_id o33.2.1) ?_
                      refine WP_iald dX6_elects_83 rfl o33.2.2.1.1 o33.2.2.1.2 rfl ?_
                      refine WP_aload_n (z := 56) dX6_elects_84 rfl ?_
                      refine WP_getR (z := 65) dX6_elects_85 fl_RX6_35 rfl rfl rfl ?_
                      refine WP_bipush (z := 8) dX6_elects_88 rfl (by decide) ?_
                      refine WP_iload_n (z := x1) dX6_elects_90 rfl ?_
                      refine WP_imul (z := (8 * x1)) dX6_elects_91 (w32_id o33.2.2.2.1) ?_
                      refine WP_iload_n (z := x2) dX6_elects_92 rfl ?_
                      refine WP_iadd (z := ((8 * x1) + x2)) dX6_elects_93 (w32_id o33.2.2.2.2.1) ?_
                      refine WP_iald dX6_elects_94 rfl o33.2.2.2.2.2.1 o33.2.2.2.2.2.2 rfl ?_
                      refine WP_via (pc1 := 103) (ls1 := [vR 56, vI x1, vI x2, vI x3, vU]) (st1 := [vI (if (E19 65 (((8 * x1) + x2)).toNat) ≤ (E19 65 (((8 * x1) + x3)).toNat) then (0 : Int) else 1)]) (D1 := E19) (fun hJ34 => ?_) ?_
                      · refine WP_icmp_ge (tgt := 102) dX6_elects_95 (by decide) (fun c35 => ?_) (fun c35 => ?_)
                        · replace hJ34 := ite_t (P := fun v_ : Int => WP mX6_elects Q 103 [vR 56, vI x1, vI x2, vI x3, vU] [vI v_] E19) hJ34 c35
                          refine WP_iconst (z := 0) dX6_elects_102 rfl ⟨by decide, by decide⟩ ?_
                          exact hJ34
                        · replace hJ34 := ite_f (P := fun v_ : Int => WP mX6_elects Q 103 [vR 56, vI x1, vI x2, vI x3, vU] [vI v_] E19) hJ34 c35
                          refine WP_iconst (z := 1) dX6_elects_98 rfl ⟨by decide, by decide⟩ ?_
                          refine WP_goto (tgt := 103) dX6_elects_99 (by decide) ?_
                          exact hJ34
                      exact hJ30
                  exact hJ27
              · refine WP_istore (ls1 := [vR 56, vI x1, vI x2, vI x3, vI (if (E19 67 x3.toNat) = 0 then ((if x2 = (-1) then (1 : Int) else (if (E19 65 (((8 * x1) + x2)).toNat) ≤ (E19 65 (((8 * x1) + x3)).toNat) then (0 : Int) else 1)) : Int) else 0)]) dX6_elects_103 (by decide) rfl ?_
                obtain ⟨v22, hv23⟩ : ∃ v22 : Int, v22 = (if (E19 67 x3.toNat) = 0 then ((if x2 = (-1) then (1 : Int) else (if (E19 65 (((8 * x1) + x2)).toNat) ≤ (E19 65 (((8 * x1) + x3)).toNat) then (0 : Int) else 1)) : Int) else 0) := ⟨_, rfl⟩
                replace h := h v22 hv23
                rw [← hv23]
                refine WP_iload (z := v22) dX6_elects_105 rfl ?_
                refine WP_via (pc1 := 115) (ls1 := [vR 56, vI x1, vI x2, vI x3, vI v22]) (st1 := [vI (if v22 = 0 then (x2 : Int) else x3)]) (D1 := E19) (fun hJ25 => ?_) ?_
                · refine WP_if_eq (tgt := 114) dX6_elects_107 (by decide) (fun c26 => ?_) (fun c26 => ?_)
                  · replace hJ25 := ite_t (P := fun v_ : Int => WP mX6_elects Q 115 [vR 56, vI x1, vI x2, vI x3, vI v22] [vI v_] E19) hJ25 c26
                    refine WP_iload_n (z := x2) dX6_elects_114 rfl ?_
                    exact hJ25
                  · replace hJ25 := ite_f (P := fun v_ : Int => WP mX6_elects Q 115 [vR 56, vI x1, vI x2, vI x3, vI v22] [vI v_] E19) hJ25 c26
                    refine WP_iload_n (z := x3) dX6_elects_110 rfl ?_
                    refine WP_goto (tgt := 115) dX6_elects_111 (by decide) ?_
                    exact hJ25
                · refine WP_istore_n (ls1 := [vR 56, vI x1, vI (if v22 = 0 then (x2 : Int) else x3), vI x3, vI v22]) dX6_elects_115 (by decide) rfl ?_
                  obtain ⟨o24, h⟩ := h
                  refine WP_iinc (z := (x3 + 1)) (ls1 := [vR 56, vI x1, vI (if v22 = 0 then (x2 : Int) else x3), vI (x3 + 1), vI v22]) dX6_elects_116 rfl (w32_id o24) (by decide) rfl ?_
                  refine WP_goto (tgt := 4) dX6_elects_119 (by decide) ?_
                  refine WP_fg 4 (ls1 := [vR 56, vI x1, vI (if v22 = 0 then (x2 : Int) else x3), vI (x3 + 1), vU]) rfl ?_
                  exact ih4_ _ _ _ _ h.1 (by have := h.2; omega)
  have cut4_ : ∀ (x1 x2 x3 : Int) (D : HP), I4 x1 x2 x3 D → WP mX6_elects Q 4 [vR 56, vI x1, vI x2, vI x3, vU] [] D := fun x1 x2 x3 D hI => (IH (u4 x1 x2 x3 D * 1 + 0 + 1)) x1 x2 x3 D hI (by omega)
  refine WP_cD (fun hcD => ?_)
  refine WP_cl (fun hcl => ?_)
  have h := h0 hcD (cVs_g hcl (i := 1) (v := vI a) rfl)
  refine WP_iconst (z := (-1)) dX6_elects_0 rfl ⟨by decide, by decide⟩ ?_
  refine WP_istore_n (ls1 := [vR 56, vI a, vI (-1), vU, vU]) dX6_elects_1 (by decide) rfl ?_
  refine WP_iconst (z := 0) dX6_elects_2 rfl ⟨by decide, by decide⟩ ?_
  refine WP_istore_n (ls1 := [vR 56, vI a, vI (-1), vI 0, vU]) dX6_elects_3 (by decide) rfl ?_
  exact cut4_ _ _ _ _ h
set_option maxRecDepth 100000 in
set_option maxHeartbeats 4000000 in
theorem V_X6_goesBy (a : Int) {D : HP} {Q : Option MV → HP → Prop} (I2 : Int → Int → HP → Prop) (u2 : Int → Int → HP → Nat)
    (h0 : cD D → c32 a → (I2 a 0 D))
    (h2 : ∀ (x1 x2 : Int) (D : HP), I2 x1 x2 D → cD D → c32 x1 → c32 x2 → (((D 56 8) ≤ x2 → (∃ Q2 : Option MV → HP → Prop, CT mX6_elects [vR 56, vI x1] D Q2 ∧ ∀ (D5 : HP), Q2 none D5 → cD D5 → (Q none D5))) ∧ (¬ ((D 56 8) ≤ x2) → ((c32 (8 * x1)) ∧ ((c32 ((8 * x1) + x2)) ∧ ((0 ≤ ((8 * x1) + x2) ∧ ((8 * x1) + x2) < 104) ∧ ((c32 (8 * x1)) ∧ ((c32 ((8 * x1) + 8)) ∧ ((c32 (((8 * x1) + 8) + x2)) ∧ ((0 ≤ (((8 * x1) + 8) + x2) ∧ (((8 * x1) + 8) + x2) < 104) ∧ (∀ (E9 : HP), E9 = (hu D 65 ((((8 * x1) + 8) + x2)).toNat (D 65 (((8 * x1) + x2)).toNat)) → ((oX6_isSomewhere E9 x2) ∧ (((fX6_isSomewhere E9 x2) = 0 → ((c32 (x2 + 1)) ∧ (I2 x1 (x2 + 1) E9 ∧ u2 x1 (x2 + 1) E9 < u2 x1 x2 D))) ∧ (¬ ((fX6_isSomewhere E9 x2) = 0) → ((0 ≤ x2 ∧ x2 < 8) ∧ (((E9 66 x2.toNat) = (-1) → ((0 ≤ x2 ∧ x2 < 9) ∧ ((oX6_windNow E9 x1 (E9 62 x2.toNat)) ∧ ((oX6_strain E9 x2 (fX6_windNow E9 x1 (E9 62 x2.toNat))) ∧ (∀ (v14 : Int), v14 = (fX6_strain E9 x2 (fX6_windNow E9 x1 (E9 62 x2.toNat))) → ((0 ≤ x2 ∧ x2 < 8) ∧ (∀ (E16 : HP), E16 = (hu E9 66 x2.toNat (if v14 ≤ (D 65 (((8 * x1) + x2)).toNat) then ((-1) : Int) else x1)) → ((c32 (8 * x1)) ∧ ((c32 ((8 * x1) + 8)) ∧ ((c32 (((8 * x1) + 8) + x2)) ∧ ((((v14 = (D 65 (((8 * x1) + x2)).toNat)) → ((((D 65 (((8 * x1) + x2)).toNat) ≤ 1) → True) ∧ (¬ ((D 65 (((8 * x1) + x2)).toNat) ≤ 1) → (c32 ((D 65 (((8 * x1) + x2)).toNat) - 1))))) ∧ (¬ (v14 = (D 65 (((8 * x1) + x2)).toNat)) → True)) ∧ ((0 ≤ (((8 * x1) + 8) + x2) ∧ (((8 * x1) + 8) + x2) < 104) ∧ (∀ (E19 : HP), E19 = (hu E16 65 ((((8 * x1) + 8) + x2)).toNat (if v14 = (D 65 (((8 * x1) + x2)).toNat) then ((if (D 65 (((8 * x1) + x2)).toNat) ≤ 1 then ((D 65 (((8 * x1) + x2)).toNat) : Int) else ((D 65 (((8 * x1) + x2)).toNat) - 1)) : Int) else (D 65 (((8 * x1) + x2)).toNat))) → ((c32 (x2 + 1)) ∧ (I2 x1 (x2 + 1) E19 ∧ u2 x1 (x2 + 1) E19 < u2 x1 x2 D))))))))))))))) ∧ (¬ ((E9 66 x2.toNat) = (-1)) → ((c32 (x2 + 1)) ∧ (I2 x1 (x2 + 1) E9 ∧ u2 x1 (x2 + 1) E9 < u2 x1 x2 D)))))))))))))))))))
    : CT mX6_goesBy [vR 56, vI a] D Q := by
  refine CT.of 3 (by decide) (Nat.le_of_ble_eq_true rfl) ?_
  show WP mX6_goesBy Q 0 [vR 56, vI a, vU, vU, vU] [] D
  have IH : ∀ n : Nat, (∀ (x1 x2 : Int) (D : HP), I2 x1 x2 D → u2 x1 x2 D * 1 + 0 < n → WP mX6_goesBy Q 2 [vR 56, vI x1, vI x2, vU, vU] [] D) := by
    intro n
    induction n with
    | zero => exact fun _ _ _ _ h => absurd h (Nat.not_lt_zero _)
    | succ n ih =>
      have ih2_ := ih
      · intro x1 x2 D hI hn
        refine WP_cD (fun hcD => ?_)
        refine WP_cl (fun hcl => ?_)
        have h := h2 x1 x2 D hI hcD (cVs_g hcl (i := 1) (v := vI x1) rfl) (cVs_g hcl (i := 2) (v := vI x2) rfl)
        refine WP_iload_n (z := x2) dX6_goesBy_2 rfl ?_
        refine WP_aload_n (z := 56) dX6_goesBy_3 rfl ?_
        refine WP_getI dX6_goesBy_4 fl_RX6_112 rfl rfl rfl ?_
        refine WP_icmp_ge (tgt := 128) dX6_goesBy_7 (by decide) (fun c1 => ?_) (fun c1 => ?_)
        · replace h := h.1 c1
          refine WP_aload_n (z := 56) dX6_goesBy_128 rfl ?_
          refine WP_iload_n (z := x1) dX6_goesBy_129 rfl ?_
          obtain ⟨Q2, ct4, h⟩ := h
          refine WP_callV (g := mX6_elects) (as := [vI x1]) (rest := []) (n := 1) dX6_goesBy_130 wm_443 mo_X6_elects rfl rfl rfl rfl ⟨Nat.le_of_ble_eq_true rfl, Nat.le_of_ble_eq_true rfl⟩ (Nat.le_of_ble_eq_true rfl) ct4 (fun r_ D5 hq3 hok hD8 => ?_)
          obtain rfl := hok
          replace h := h D5 hq3 hD8
          show WP mX6_goesBy Q 133 [vR 56, vI x1, vI x2, vU, vU] [] D5
          exact WP_return dX6_goesBy_133 rfl h
        · replace h := h.2 c1
          refine WP_aload_n (z := 56) dX6_goesBy_10 rfl ?_
          refine WP_getR (z := 65) dX6_goesBy_11 fl_RX6_35 rfl rfl rfl ?_
          refine WP_bipush (z := 8) dX6_goesBy_14 rfl (by decide) ?_
          refine WP_iload_n (z := x1) dX6_goesBy_16 rfl ?_
          obtain ⟨o49, h⟩ := h
          refine WP_imul (z := (8 * x1)) dX6_goesBy_17 (w32_id o49) ?_
          refine WP_iload_n (z := x2) dX6_goesBy_18 rfl ?_
          obtain ⟨o48, h⟩ := h
          refine WP_iadd (z := ((8 * x1) + x2)) dX6_goesBy_19 (w32_id o48) ?_
          obtain ⟨o47, h⟩ := h
          refine WP_iald dX6_goesBy_20 rfl o47.1 o47.2 rfl ?_
          refine WP_istore_n (ls1 := [vR 56, vI x1, vI x2, vI (D 65 (((8 * x1) + x2)).toNat), vU]) dX6_goesBy_21 (by decide) rfl ?_
          refine WP_aload_n (z := 56) dX6_goesBy_22 rfl ?_
          refine WP_getR (z := 65) dX6_goesBy_23 fl_RX6_35 rfl rfl rfl ?_
          refine WP_bipush (z := 8) dX6_goesBy_26 rfl (by decide) ?_
          refine WP_iload_n (z := x1) dX6_goesBy_28 rfl ?_
          obtain ⟨o46, h⟩ := h
          refine WP_imul (z := (8 * x1)) dX6_goesBy_29 (w32_id o46) ?_
          refine WP_bipush (z := 8) dX6_goesBy_30 rfl (by decide) ?_
          obtain ⟨o45, h⟩ := h
          refine WP_iadd (z := ((8 * x1) + 8)) dX6_goesBy_32 (w32_id o45) ?_
          refine WP_iload_n (z := x2) dX6_goesBy_33 rfl ?_
          obtain ⟨o44, h⟩ := h
          refine WP_iadd (z := (((8 * x1) + 8) + x2)) dX6_goesBy_34 (w32_id o44) ?_
          refine WP_iload_n (z := (D 65 (((8 * x1) + x2)).toNat)) dX6_goesBy_35 rfl ?_
          obtain ⟨o43, h⟩ := h
          refine WP_iast dX6_goesBy_36 rfl o43.1 o43.2 ?_
          obtain ⟨E9, hE10⟩ : ∃ E9 : HP, E9 = (hu D 65 ((((8 * x1) + 8) + x2)).toNat (D 65 (((8 * x1) + x2)).toNat)) := ⟨_, rfl⟩
          replace h := h E9 hE10
          show WP mX6_goesBy Q 37 [vR 56, vI x1, vI x2, vI (D 65 (((8 * x1) + x2)).toNat), vU] [] (hu D 65 ((((8 * x1) + 8) + x2)).toNat (D 65 (((8 * x1) + x2)).toNat))
          rw [← hE10]
          refine WP_aload_n (z := 56) dX6_goesBy_37 rfl ?_
          refine WP_iload_n (z := x2) dX6_goesBy_38 rfl ?_
          obtain ⟨o42, h⟩ := h
          refine WP_pcallV (g := mX6_isSomewhere) (as := [vI x2]) (rest := []) (n := 1) (r := vI (fX6_isSomewhere E9 x2)) dX6_goesBy_39 wm_394 mo_X6_isSomewhere rfl rfl rfl rfl ⟨Nat.le_of_ble_eq_true rfl, Nat.le_of_ble_eq_true rfl⟩ (Nat.le_of_ble_eq_true rfl) (P_X6_isSomewhere  o42) ?_
          refine WP_if_eq (tgt := 122) dX6_goesBy_42 (by decide) (fun c11 => ?_) (fun c11 => ?_)
          · replace h := h.1 c11
            obtain ⟨o12, h⟩ := h
            refine WP_iinc (z := (x2 + 1)) (ls1 := [vR 56, vI x1, vI (x2 + 1), vI (D 65 (((8 * x1) + x2)).toNat), vU]) dX6_goesBy_122 rfl (w32_id o12) (by decide) rfl ?_
            refine WP_goto (tgt := 2) dX6_goesBy_125 (by decide) ?_
            refine WP_fg 3 (ls1 := [vR 56, vI x1, vI (x2 + 1), vU, vU]) rfl ?_
            exact ih2_ _ _ _ h.1 (by have := h.2; omega)
          · replace h := h.2 c11
            refine WP_aload_n (z := 56) dX6_goesBy_45 rfl ?_
            refine WP_getR (z := 66) dX6_goesBy_46 fl_RX6_38 rfl rfl rfl ?_
            refine WP_iload_n (z := x2) dX6_goesBy_49 rfl ?_
            obtain ⟨o41, h⟩ := h
            refine WP_iald dX6_goesBy_50 rfl o41.1 o41.2 rfl ?_
            refine WP_iconst (z := (-1)) dX6_goesBy_51 rfl ⟨by decide, by decide⟩ ?_
            refine WP_icmp_ne (tgt := 122) dX6_goesBy_52 (by decide) (fun c13 => ?_) (fun c13 => ?_)
            · replace h := h.2 c13
              obtain ⟨o40, h⟩ := h
              refine WP_iinc (z := (x2 + 1)) (ls1 := [vR 56, vI x1, vI (x2 + 1), vI (D 65 (((8 * x1) + x2)).toNat), vU]) dX6_goesBy_122 rfl (w32_id o40) (by decide) rfl ?_
              refine WP_goto (tgt := 2) dX6_goesBy_125 (by decide) ?_
              refine WP_fg 3 (ls1 := [vR 56, vI x1, vI (x2 + 1), vU, vU]) rfl ?_
              exact ih2_ _ _ _ h.1 (by have := h.2; omega)
            · replace h := h.1 c13
              refine WP_aload_n (z := 56) dX6_goesBy_55 rfl ?_
              refine WP_iload_n (z := x2) dX6_goesBy_56 rfl ?_
              refine WP_aload_n (z := 56) dX6_goesBy_57 rfl ?_
              refine WP_iload_n (z := x1) dX6_goesBy_58 rfl ?_
              refine WP_aload_n (z := 56) dX6_goesBy_59 rfl ?_
              refine WP_getR (z := 62) dX6_goesBy_60 fl_RX6_26 rfl rfl rfl ?_
              refine WP_iload_n (z := x2) dX6_goesBy_63 rfl ?_
              obtain ⟨o39, h⟩ := h
              refine WP_iald dX6_goesBy_64 rfl o39.1 o39.2 rfl ?_
              obtain ⟨o38, h⟩ := h
              refine WP_pcallV (g := mX6_windNow) (as := [vI x1, vI (E9 62 x2.toNat)]) (rest := [vI x2, vR 56]) (n := 2) (r := vI (fX6_windNow E9 x1 (E9 62 x2.toNat))) dX6_goesBy_65 wm_423 mo_X6_windNow rfl rfl rfl rfl ⟨Nat.le_of_ble_eq_true rfl, Nat.le_of_ble_eq_true rfl⟩ (Nat.le_of_ble_eq_true rfl) (P_X6_windNow  o38) ?_
              obtain ⟨o37, h⟩ := h
              refine WP_pcallV (g := mX6_strain) (as := [vI x2, vI (fX6_windNow E9 x1 (E9 62 x2.toNat))]) (rest := []) (n := 2) (r := vI (fX6_strain E9 x2 (fX6_windNow E9 x1 (E9 62 x2.toNat)))) dX6_goesBy_68 wm_439 mo_X6_strain rfl rfl rfl rfl ⟨Nat.le_of_ble_eq_true rfl, Nat.le_of_ble_eq_true rfl⟩ (Nat.le_of_ble_eq_true rfl) (P_X6_strain  o37) ?_
              refine WP_istore (ls1 := [vR 56, vI x1, vI x2, vI (D 65 (((8 * x1) + x2)).toNat), vI (fX6_strain E9 x2 (fX6_windNow E9 x1 (E9 62 x2.toNat)))]) dX6_goesBy_71 (by decide) rfl ?_
              obtain ⟨v14, hv15⟩ : ∃ v14 : Int, v14 = (fX6_strain E9 x2 (fX6_windNow E9 x1 (E9 62 x2.toNat))) := ⟨_, rfl⟩
              replace h := h v14 hv15
              rw [← hv15]
              refine WP_aload_n (z := 56) dX6_goesBy_73 rfl ?_
              refine WP_getR (z := 66) dX6_goesBy_74 fl_RX6_38 rfl rfl rfl ?_
              refine WP_iload_n (z := x2) dX6_goesBy_77 rfl ?_
              refine WP_iload (z := v14) dX6_goesBy_78 rfl ?_
              refine WP_iload_n (z := (D 65 (((8 * x1) + x2)).toNat)) dX6_goesBy_80 rfl ?_
              refine WP_via (pc1 := 89) (ls1 := [vR 56, vI x1, vI x2, vI (D 65 (((8 * x1) + x2)).toNat), vI v14]) (st1 := [vI (if v14 ≤ (D 65 (((8 * x1) + x2)).toNat) then ((-1) : Int) else x1), vI x2, vR 66]) (D1 := E9) (fun hJ35 => ?_) ?_
              · refine WP_icmp_le (tgt := 88) dX6_goesBy_81 (by decide) (fun c36 => ?_) (fun c36 => ?_)
                · replace hJ35 := ite_t (P := fun v_ : Int => WP mX6_goesBy Q 89 [vR 56, vI x1, vI x2, vI (D 65 (((8 * x1) + x2)).toNat), vI v14] [vI v_, vI x2, vR 66] E9) hJ35 c36
                  refine WP_iconst (z := (-1)) dX6_goesBy_88 rfl ⟨by decide, by decide⟩ ?_
                  exact hJ35
                · replace hJ35 := ite_f (P := fun v_ : Int => WP mX6_goesBy Q 89 [vR 56, vI x1, vI x2, vI (D 65 (((8 * x1) + x2)).toNat), vI v14] [vI v_, vI x2, vR 66] E9) hJ35 c36
                  refine WP_iload_n (z := x1) dX6_goesBy_84 rfl ?_
                  refine WP_goto (tgt := 89) dX6_goesBy_85 (by decide) ?_
                  exact hJ35
              · obtain ⟨o34, h⟩ := h
                refine WP_iast dX6_goesBy_89 rfl o34.1 o34.2 ?_
                obtain ⟨E16, hE17⟩ : ∃ E16 : HP, E16 = (hu E9 66 x2.toNat (if v14 ≤ (D 65 (((8 * x1) + x2)).toNat) then ((-1) : Int) else x1)) := ⟨_, rfl⟩
                replace h := h E16 hE17
                show WP mX6_goesBy Q 90 [vR 56, vI x1, vI x2, vI (D 65 (((8 * x1) + x2)).toNat), vI v14] [] (hu E9 66 x2.toNat (if v14 ≤ (D 65 (((8 * x1) + x2)).toNat) then ((-1) : Int) else x1))
                rw [← hE17]
                refine WP_aload_n (z := 56) dX6_goesBy_90 rfl ?_
                refine WP_getR (z := 65) dX6_goesBy_91 fl_RX6_35 rfl rfl rfl ?_
                refine WP_bipush (z := 8) dX6_goesBy_94 rfl (by decide) ?_
                refine WP_iload_n (z := x1) dX6_goesBy_96 rfl ?_
                obtain ⟨o33, h⟩ := h
                refine WP_imul (z := (8 * x1)) dX6_goesBy_97 (w32_id o33) ?_
                refine WP_bipush (z := 8) dX6_goesBy_98 rfl (by decide) ?_
                obtain ⟨o32, h⟩ := h
                refine WP_iadd (z := ((8 * x1) + 8)) dX6_goesBy_100 (w32_id o32) ?_
                refine WP_iload_n (z := x2) dX6_goesBy_101 rfl ?_
                obtain ⟨o31, h⟩ := h
                refine WP_iadd (z := (((8 * x1) + 8) + x2)) dX6_goesBy_102 (w32_id o31) ?_
                refine WP_iload (z := v14) dX6_goesBy_103 rfl ?_
                refine WP_iload_n (z := (D 65 (((8 * x1) + x2)).toNat)) dX6_goesBy_105 rfl ?_
                obtain ⟨o18, h⟩ := h
                refine WP_via (pc1 := 121) (ls1 := [vR 56, vI x1, vI x2, vI (D 65 (((8 * x1) + x2)).toNat), vI v14]) (st1 := [vI (if v14 = (D 65 (((8 * x1) + x2)).toNat) then ((if (D 65 (((8 * x1) + x2)).toNat) ≤ 1 then ((D 65 (((8 * x1) + x2)).toNat) : Int) else ((D 65 (((8 * x1) + x2)).toNat) - 1)) : Int) else (D 65 (((8 * x1) + x2)).toNat)), vI (((8 * x1) + 8) + x2), vR 65]) (D1 := E16) (fun hJ23 => ?_) ?_
                · refine WP_icmp_ne (tgt := 120) dX6_goesBy_106 (by decide) (fun c24 => ?_) (fun c24 => ?_)
                  · replace hJ23 := ite_f (P := fun v_ : Int => WP mX6_goesBy Q 121 [vR 56, vI x1, vI x2, vI (D 65 (((8 * x1) + x2)).toNat), vI v14] [vI v_, vI (((8 * x1) + 8) + x2), vR 65] E16) hJ23 c24
                    have o30 := o18.2 c24
                    refine WP_iload_n (z := (D 65 (((8 * x1) + x2)).toNat)) dX6_goesBy_120 rfl ?_
                    exact hJ23
                  · replace hJ23 := ite_t (P := fun v_ : Int => WP mX6_goesBy Q 121 [vR 56, vI x1, vI x2, vI (D 65 (((8 * x1) + x2)).toNat), vI v14] [vI v_, vI (((8 * x1) + 8) + x2), vR 65] E16) hJ23 c24
                    have o25 := o18.1 c24
                    refine WP_iload_n (z := (D 65 (((8 * x1) + x2)).toNat)) dX6_goesBy_109 rfl ?_
                    refine WP_iconst (z := 1) dX6_goesBy_110 rfl ⟨by decide, by decide⟩ ?_
                    refine WP_via (pc1 := 121) (ls1 := [vR 56, vI x1, vI x2, vI (D 65 (((8 * x1) + x2)).toNat), vI v14]) (st1 := [vI (if (D 65 (((8 * x1) + x2)).toNat) ≤ 1 then ((D 65 (((8 * x1) + x2)).toNat) : Int) else ((D 65 (((8 * x1) + x2)).toNat) - 1)), vI (((8 * x1) + 8) + x2), vR 65]) (D1 := E16) (fun hJ26 => ?_) ?_
                    · refine WP_icmp_le (tgt := 120) dX6_goesBy_111 (by decide) (fun c27 => ?_) (fun c27 => ?_)
                      · replace hJ26 := ite_t (P := fun v_ : Int => WP mX6_goesBy Q 121 [vR 56, vI x1, vI x2, vI (D 65 (((8 * x1) + x2)).toNat), vI v14] [vI v_, vI (((8 * x1) + 8) + x2), vR 65] E16) hJ26 c27
                        have o28 := o25.1 c27
                        refine WP_iload_n (z := (D 65 (((8 * x1) + x2)).toNat)) dX6_goesBy_120 rfl ?_
                        exact hJ26
                      · replace hJ26 := ite_f (P := fun v_ : Int => WP mX6_goesBy Q 121 [vR 56, vI x1, vI x2, vI (D 65 (((8 * x1) + x2)).toNat), vI v14] [vI v_, vI (((8 * x1) + 8) + x2), vR 65] E16) hJ26 c27
                        have o29 := o25.2 c27
                        refine WP_iload_n (z := (D 65 (((8 * x1) + x2)).toNat)) dX6_goesBy_114 rfl ?_
                        refine WP_iconst (z := 1) dX6_goesBy_115 rfl ⟨by decide, by decide⟩ ?_
                        refine WP_isub (z := ((D 65 (((8 * x1) + x2)).toNat) - 1)) dX6_goesBy_116 (w32_id o29) ?_
                        refine WP_goto (tgt := 121) dX6_goesBy_117 (by decide) ?_
                        exact hJ26
                    exact hJ23
                · obtain ⟨o22, h⟩ := h
                  refine WP_iast dX6_goesBy_121 rfl o22.1 o22.2 ?_
                  obtain ⟨E19, hE20⟩ : ∃ E19 : HP, E19 = (hu E16 65 ((((8 * x1) + 8) + x2)).toNat (if v14 = (D 65 (((8 * x1) + x2)).toNat) then ((if (D 65 (((8 * x1) + x2)).toNat) ≤ 1 then ((D 65 (((8 * x1) + x2)).toNat) : Int) else ((D 65 (((8 * x1) + x2)).toNat) - 1)) : Int) else (D 65 (((8 * x1) + x2)).toNat))) := ⟨_, rfl⟩
                  replace h := h E19 hE20
                  show WP mX6_goesBy Q 122 [vR 56, vI x1, vI x2, vI (D 65 (((8 * x1) + x2)).toNat), vI v14] [] (hu E16 65 ((((8 * x1) + 8) + x2)).toNat (if v14 = (D 65 (((8 * x1) + x2)).toNat) then ((if (D 65 (((8 * x1) + x2)).toNat) ≤ 1 then ((D 65 (((8 * x1) + x2)).toNat) : Int) else ((D 65 (((8 * x1) + x2)).toNat) - 1)) : Int) else (D 65 (((8 * x1) + x2)).toNat)))
                  rw [← hE20]
                  obtain ⟨o21, h⟩ := h
                  refine WP_iinc (z := (x2 + 1)) (ls1 := [vR 56, vI x1, vI (x2 + 1), vI (D 65 (((8 * x1) + x2)).toNat), vI v14]) dX6_goesBy_122 rfl (w32_id o21) (by decide) rfl ?_
                  refine WP_goto (tgt := 2) dX6_goesBy_125 (by decide) ?_
                  refine WP_fg 3 (ls1 := [vR 56, vI x1, vI (x2 + 1), vU, vI v14]) rfl ?_
                  refine WP_fg 4 (ls1 := [vR 56, vI x1, vI (x2 + 1), vU, vU]) rfl ?_
                  exact ih2_ _ _ _ h.1 (by have := h.2; omega)
  have cut2_ : ∀ (x1 x2 : Int) (D : HP), I2 x1 x2 D → WP mX6_goesBy Q 2 [vR 56, vI x1, vI x2, vU, vU] [] D := fun x1 x2 D hI => (IH (u2 x1 x2 D * 1 + 0 + 1)) x1 x2 D hI (by omega)
  refine WP_cD (fun hcD => ?_)
  refine WP_cl (fun hcl => ?_)
  have h := h0 hcD (cVs_g hcl (i := 1) (v := vI a) rfl)
  refine WP_iconst (z := 0) dX6_goesBy_0 rfl ⟨by decide, by decide⟩ ?_
  refine WP_istore_n (ls1 := [vR 56, vI a, vI 0, vU, vU]) dX6_goesBy_1 (by decide) rfl ?_
  exact cut2_ _ _ _ h
set_option maxRecDepth 100000 in
set_option maxHeartbeats 4000000 in
theorem V_X6_runs  {D : HP} {Q : Option MV → HP → Prop} (I2 : Int → HP → Prop) (u2 : Int → HP → Nat) (I49 : Int → HP → Prop) (u49 : Int → HP → Nat)
    (h0 : cD D → (I2 0 D))
    (h2 : ∀ (x1 : Int) (D : HP), I2 x1 D → cD D → c32 x1 → ((8 ≤ x1 → (I49 0 D ∧ u49 0 D ≤ u2 x1 D)) ∧ (¬ (8 ≤ x1) → ((0 ≤ x1 ∧ x1 < 8) ∧ (∀ (E2 : HP), E2 = (hu D 66 x1.toNat (-1)) → ((0 ≤ x1 ∧ x1 < 8) ∧ (∀ (E4 : HP), E4 = (hu E2 67 x1.toNat 0) → ((0 ≤ x1 ∧ x1 < 8) ∧ (∀ (E6 : HP), E6 = (hu E4 68 x1.toNat 0) → ((0 ≤ x1 ∧ x1 < 9) ∧ ((0 ≤ x1 ∧ x1 < 104) ∧ (∀ (E8 : HP), E8 = (hu E6 65 x1.toNat (E6 63 x1.toNat)) → ((c32 (x1 + 1)) ∧ (I2 (x1 + 1) E8 ∧ u2 (x1 + 1) E8 < u2 x1 D))))))))))))))
    (h49 : ∀ (x1 : Int) (D : HP), I49 x1 D → cD D → c32 x1 → (((D 56 5) ≤ x1 → (Q none D)) ∧ (¬ ((D 56 5) ≤ x1) → (∃ Q17 : Option MV → HP → Prop, CT mX6_goesBy [vR 56, vI x1] D Q17 ∧ ∀ (D20 : HP), Q17 none D20 → cD D20 → ((c32 (x1 + 1)) ∧ (I49 (x1 + 1) D20 ∧ u49 (x1 + 1) D20 < u49 x1 D))))))
    : CT mX6_runs [vR 56] D Q := by
  refine CT.of 1 (by decide) (Nat.le_of_ble_eq_true rfl) ?_
  show WP mX6_runs Q 0 [vR 56, vU] [] D
  have IH : ∀ n : Nat, (∀ (x1 : Int) (D : HP), I2 x1 D → u2 x1 D * 2 + 1 < n → WP mX6_runs Q 2 [vR 56, vI x1] [] D) ∧ (∀ (x1 : Int) (D : HP), I49 x1 D → u49 x1 D * 2 + 0 < n → WP mX6_runs Q 49 [vR 56, vI x1] [] D) := by
    intro n
    induction n with
    | zero => exact ⟨fun _ _ _ h => absurd h (Nat.not_lt_zero _), fun _ _ _ h => absurd h (Nat.not_lt_zero _)⟩
    | succ n ih =>
      have ih2_ := ih.1
      have ih49_ := ih.2
      refine ⟨?_, ?_⟩
      · intro x1 D hI hn
        refine WP_cD (fun hcD => ?_)
        refine WP_cl (fun hcl => ?_)
        have h := h2 x1 D hI hcD (cVs_g hcl (i := 1) (v := vI x1) rfl)
        refine WP_iload_n (z := x1) dX6_runs_2 rfl ?_
        refine WP_bipush (z := 8) dX6_runs_3 rfl (by decide) ?_
        refine WP_icmp_ge (tgt := 47) dX6_runs_5 (by decide) (fun c1 => ?_) (fun c1 => ?_)
        · replace h := h.1 c1
          refine WP_iconst (z := 0) dX6_runs_47 rfl ⟨by decide, by decide⟩ ?_
          refine WP_istore_n (ls1 := [vR 56, vI 0]) dX6_runs_48 (by decide) rfl ?_
          exact ih49_ _ _ h.1 (by have := h.2; omega)
        · replace h := h.2 c1
          refine WP_aload_n (z := 56) dX6_runs_8 rfl ?_
          refine WP_getR (z := 66) dX6_runs_9 fl_RX6_38 rfl rfl rfl ?_
          refine WP_iload_n (z := x1) dX6_runs_12 rfl ?_
          refine WP_iconst (z := (-1)) dX6_runs_13 rfl ⟨by decide, by decide⟩ ?_
          obtain ⟨o15, h⟩ := h
          refine WP_iast dX6_runs_14 rfl o15.1 o15.2 ?_
          obtain ⟨E2, hE3⟩ : ∃ E2 : HP, E2 = (hu D 66 x1.toNat (-1)) := ⟨_, rfl⟩
          replace h := h E2 hE3
          show WP mX6_runs Q 15 [vR 56, vI x1] [] (hu D 66 x1.toNat (-1))
          rw [← hE3]
          refine WP_aload_n (z := 56) dX6_runs_15 rfl ?_
          refine WP_getR (z := 67) dX6_runs_16 fl_RX6_41 rfl rfl rfl ?_
          refine WP_iload_n (z := x1) dX6_runs_19 rfl ?_
          refine WP_iconst (z := 0) dX6_runs_20 rfl ⟨by decide, by decide⟩ ?_
          obtain ⟨o14, h⟩ := h
          refine WP_zast dX6_runs_21 rfl o14.1 o14.2 (Or.inl rfl) ?_
          obtain ⟨E4, hE5⟩ : ∃ E4 : HP, E4 = (hu E2 67 x1.toNat 0) := ⟨_, rfl⟩
          replace h := h E4 hE5
          show WP mX6_runs Q 22 [vR 56, vI x1] [] (hu E2 67 x1.toNat 0)
          rw [← hE5]
          refine WP_aload_n (z := 56) dX6_runs_22 rfl ?_
          refine WP_getR (z := 68) dX6_runs_23 fl_RX6_44 rfl rfl rfl ?_
          refine WP_iload_n (z := x1) dX6_runs_26 rfl ?_
          refine WP_iconst (z := 0) dX6_runs_27 rfl ⟨by decide, by decide⟩ ?_
          obtain ⟨o13, h⟩ := h
          refine WP_zast dX6_runs_28 rfl o13.1 o13.2 (Or.inl rfl) ?_
          obtain ⟨E6, hE7⟩ : ∃ E6 : HP, E6 = (hu E4 68 x1.toNat 0) := ⟨_, rfl⟩
          replace h := h E6 hE7
          show WP mX6_runs Q 29 [vR 56, vI x1] [] (hu E4 68 x1.toNat 0)
          rw [← hE7]
          refine WP_aload_n (z := 56) dX6_runs_29 rfl ?_
          refine WP_getR (z := 65) dX6_runs_30 fl_RX6_35 rfl rfl rfl ?_
          refine WP_iload_n (z := x1) dX6_runs_33 rfl ?_
          refine WP_aload_n (z := 56) dX6_runs_34 rfl ?_
          refine WP_getR (z := 63) dX6_runs_35 fl_RX6_29 rfl rfl rfl ?_
          refine WP_iload_n (z := x1) dX6_runs_38 rfl ?_
          obtain ⟨o12, h⟩ := h
          refine WP_iald dX6_runs_39 rfl o12.1 o12.2 rfl ?_
          obtain ⟨o11, h⟩ := h
          refine WP_iast dX6_runs_40 rfl o11.1 o11.2 ?_
          obtain ⟨E8, hE9⟩ : ∃ E8 : HP, E8 = (hu E6 65 x1.toNat (E6 63 x1.toNat)) := ⟨_, rfl⟩
          replace h := h E8 hE9
          show WP mX6_runs Q 41 [vR 56, vI x1] [] (hu E6 65 x1.toNat (E6 63 x1.toNat))
          rw [← hE9]
          obtain ⟨o10, h⟩ := h
          refine WP_iinc (z := (x1 + 1)) (ls1 := [vR 56, vI (x1 + 1)]) dX6_runs_41 rfl (w32_id o10) (by decide) rfl ?_
          refine WP_goto (tgt := 2) dX6_runs_44 (by decide) ?_
          exact ih2_ _ _ h.1 (by have := h.2; omega)
      · intro x1 D hI hn
        refine WP_cD (fun hcD => ?_)
        refine WP_cl (fun hcl => ?_)
        have h := h49 x1 D hI hcD (cVs_g hcl (i := 1) (v := vI x1) rfl)
        refine WP_iload_n (z := x1) dX6_runs_49 rfl ?_
        refine WP_aload_n (z := 56) dX6_runs_50 rfl ?_
        refine WP_getI dX6_runs_51 fl_RX6_101 rfl rfl rfl ?_
        refine WP_icmp_ge (tgt := 68) dX6_runs_54 (by decide) (fun c16 => ?_) (fun c16 => ?_)
        · replace h := h.1 c16
          exact WP_return dX6_runs_68 rfl h
        · replace h := h.2 c16
          refine WP_aload_n (z := 56) dX6_runs_57 rfl ?_
          refine WP_iload_n (z := x1) dX6_runs_58 rfl ?_
          obtain ⟨Q17, ct19, h⟩ := h
          refine WP_callV (g := mX6_goesBy) (as := [vI x1]) (rest := []) (n := 1) dX6_runs_59 wm_419 mo_X6_goesBy rfl rfl rfl rfl ⟨Nat.le_of_ble_eq_true rfl, Nat.le_of_ble_eq_true rfl⟩ (Nat.le_of_ble_eq_true rfl) ct19 (fun r_ D20 hq18 hok hD23 => ?_)
          obtain rfl := hok
          replace h := h D20 hq18 hD23
          show WP mX6_runs Q 62 [vR 56, vI x1] [] D20
          obtain ⟨o24, h⟩ := h
          refine WP_iinc (z := (x1 + 1)) (ls1 := [vR 56, vI (x1 + 1)]) dX6_runs_62 rfl (w32_id o24) (by decide) rfl ?_
          refine WP_goto (tgt := 49) dX6_runs_65 (by decide) ?_
          exact ih49_ _ _ h.1 (by have := h.2; omega)
  have cut2_ : ∀ (x1 : Int) (D : HP), I2 x1 D → WP mX6_runs Q 2 [vR 56, vI x1] [] D := fun x1 D hI => (IH (u2 x1 D * 2 + 1 + 1)).1 x1 D hI (by omega)
  have cut49_ : ∀ (x1 : Int) (D : HP), I49 x1 D → WP mX6_runs Q 49 [vR 56, vI x1] [] D := fun x1 D hI => (IH (u49 x1 D * 2 + 0 + 1)).2 x1 D hI (by omega)
  refine WP_cD (fun hcD => ?_)
  have h := h0 hcD
  refine WP_iconst (z := 0) dX6_runs_0 rfl ⟨by decide, by decide⟩ ?_
  refine WP_istore_n (ls1 := [vR 56, vI 0]) dX6_runs_1 (by decide) rfl ?_
  exact cut2_ _ _ h
set_option maxRecDepth 100000 in
set_option maxHeartbeats 4000000 in
theorem V_X6_runsTold  {D : HP} {Q : Option MV → HP → Prop}
    (h0 : cD D → (∃ Q1 : Option MV → HP → Prop, CT mX6_reads [vR 56] D Q1 ∧ ∀ (D4 : HP), Q1 none D4 → cD D4 → (∃ Q8 : Option MV → HP → Prop, CT mX6_runs [vR 56] D4 Q8 ∧ ∀ (D11 : HP), Q8 none D11 → cD D11 → (Q none D11))))
    : CT mX6_runsTold [vR 56] D Q := by
  refine CT.of 0 (by decide) (Nat.le_of_ble_eq_true rfl) ?_
  show WP mX6_runsTold Q 0 [vR 56] [] D
  refine WP_cD (fun hcD => ?_)
  have h := h0 hcD
  refine WP_aload_n (z := 56) dX6_runsTold_0 rfl ?_
  obtain ⟨Q1, ct3, h⟩ := h
  refine WP_callV (g := mX6_reads) (as := []) (rest := []) (n := 0) dX6_runsTold_1 wm_343 mo_X6_reads rfl rfl rfl rfl ⟨Nat.le_of_ble_eq_true rfl, Nat.le_of_ble_eq_true rfl⟩ (Nat.le_of_ble_eq_true rfl) ct3 (fun r_ D4 hq2 hok hD7 => ?_)
  obtain rfl := hok
  replace h := h D4 hq2 hD7
  show WP mX6_runsTold Q 4 [vR 56] [] D4
  refine WP_aload_n (z := 56) dX6_runsTold_4 rfl ?_
  obtain ⟨Q8, ct10, h⟩ := h
  refine WP_callV (g := mX6_runs) (as := []) (rest := []) (n := 0) dX6_runsTold_5 wm_415 mo_X6_runs rfl rfl rfl rfl ⟨Nat.le_of_ble_eq_true rfl, Nat.le_of_ble_eq_true rfl⟩ (Nat.le_of_ble_eq_true rfl) ct10 (fun r_ D11 hq9 hok hD14 => ?_)
  obtain rfl := hok
  replace h := h D11 hq9 hD14
  show WP mX6_runsTold Q 8 [vR 56] [] D11
  exact WP_return dX6_runsTold_8 rfl h
set_option maxRecDepth 100000 in
set_option maxHeartbeats 4000000 in
theorem V_X6_windOf (a : Int) (b : Int) {D : HP} {Q : Option MV → HP → Prop}
    (h0 : cD D → c32 a → c32 b → (∃ Q1 : Option MV → HP → Prop, CT mX6_runsTold [vR 56] D Q1 ∧ ∀ (D4 : HP), Q1 none D4 → cD D4 → ((oX6_windNow D4 a b) ∧ (Q (some (vI (fX6_windNow D4 a b))) D4))))
    : CT mX6_windOf [vR 56, vI a, vI b] D Q := by
  refine CT.of 0 (by decide) (Nat.le_of_ble_eq_true rfl) ?_
  show WP mX6_windOf Q 0 [vR 56, vI a, vI b] [] D
  refine WP_cD (fun hcD => ?_)
  refine WP_cl (fun hcl => ?_)
  have h := h0 hcD (cVs_g hcl (i := 1) (v := vI a) rfl) (cVs_g hcl (i := 2) (v := vI b) rfl)
  refine WP_aload_n (z := 56) dX6_windOf_0 rfl ?_
  obtain ⟨Q1, ct3, h⟩ := h
  refine WP_callV (g := mX6_runsTold) (as := []) (rest := []) (n := 0) dX6_windOf_1 wm_411 mo_X6_runsTold rfl rfl rfl rfl ⟨Nat.le_of_ble_eq_true rfl, Nat.le_of_ble_eq_true rfl⟩ (Nat.le_of_ble_eq_true rfl) ct3 (fun r_ D4 hq2 hok hD7 => ?_)
  obtain rfl := hok
  replace h := h D4 hq2 hD7
  show WP mX6_windOf Q 4 [vR 56, vI a, vI b] [] D4
  refine WP_aload_n (z := 56) dX6_windOf_4 rfl ?_
  refine WP_iload_n (z := a) dX6_windOf_5 rfl ?_
  refine WP_iload_n (z := b) dX6_windOf_6 rfl ?_
  obtain ⟨o8, h⟩ := h
  refine WP_pcallV (g := mX6_windNow) (as := [vI a, vI b]) (rest := []) (n := 2) (r := vI (fX6_windNow D4 a b)) dX6_windOf_7 wm_423 mo_X6_windNow rfl rfl rfl rfl ⟨Nat.le_of_ble_eq_true rfl, Nat.le_of_ble_eq_true rfl⟩ (Nat.le_of_ble_eq_true rfl) (P_X6_windNow  o8) ?_
  exact WP_ireturn dX6_windOf_10 rfl h
set_option maxRecDepth 100000 in
set_option maxHeartbeats 4000000 in
theorem V_X6_wind (a : Int) (b : Int) {D : HP} {Q : Option MV → HP → Prop}
    (h0 : cD D → c32 a → c32 b → (∃ Q1 : Option MV → HP → Prop, CT mX6_isMinute [vR 56, vI a] D Q1 ∧ ∀ (r5 : Int) (D4 : HP), Q1 (some (vI r5)) D4 → c32 r5 → cD D4 → ((r5 = 0 → (Q (some (vI (-2))) D4)) ∧ (¬ (r5 = 0) → (∃ Q9 : Option MV → HP → Prop, CT mX6_isCell [vR 56, vI b] D4 Q9 ∧ ∀ (r13 : Int) (D12 : HP), Q9 (some (vI r13)) D12 → c32 r13 → cD D12 → ((r13 = 0 → (Q (some (vI (-2))) D12)) ∧ (¬ (r13 = 0) → (∃ Q17 : Option MV → HP → Prop, CT mX6_windOf [vR 56, vI a, vI b] D12 Q17 ∧ ∀ (r21 : Int) (D20 : HP), Q17 (some (vI r21)) D20 → c32 r21 → cD D20 → (Q (some (vI r21)) D20)))))))))
    : CT mX6_wind [vR 56, vI a, vI b] D Q := by
  refine CT.of 0 (by decide) (Nat.le_of_ble_eq_true rfl) ?_
  show WP mX6_wind Q 0 [vR 56, vI a, vI b] [] D
  refine WP_cD (fun hcD => ?_)
  refine WP_cl (fun hcl => ?_)
  have h := h0 hcD (cVs_g hcl (i := 1) (v := vI a) rfl) (cVs_g hcl (i := 2) (v := vI b) rfl)
  refine WP_aload_n (z := 56) dX6_wind_0 rfl ?_
  refine WP_iload_n (z := a) dX6_wind_1 rfl ?_
  obtain ⟨Q1, ct3, h⟩ := h
  refine WP_callV (g := mX6_isMinute) (as := [vI a]) (rest := []) (n := 1) dX6_wind_2 wm_362 mo_X6_isMinute rfl rfl rfl rfl ⟨Nat.le_of_ble_eq_true rfl, Nat.le_of_ble_eq_true rfl⟩ (Nat.le_of_ble_eq_true rfl) ct3 (fun r_ D4 hq2 hok hD7 => ?_)
  obtain ⟨r5, rfl, hr6⟩ := hok
  replace h := h r5 D4 hq2 hr6 hD7
  show WP mX6_wind Q 5 [vR 56, vI a, vI b] [vI r5] D4
  refine WP_if_eq (tgt := 25) dX6_wind_5 (by decide) (fun c8 => ?_) (fun c8 => ?_)
  · replace h := h.1 c8
    refine WP_bipush (z := (-2)) dX6_wind_25 rfl (by decide) ?_
    exact WP_ireturn dX6_wind_27 rfl h
  · replace h := h.2 c8
    refine WP_aload_n (z := 56) dX6_wind_8 rfl ?_
    refine WP_iload_n (z := b) dX6_wind_9 rfl ?_
    obtain ⟨Q9, ct11, h⟩ := h
    refine WP_callV (g := mX6_isCell) (as := [vI b]) (rest := []) (n := 1) dX6_wind_10 wm_339 mo_X6_isCell rfl rfl rfl rfl ⟨Nat.le_of_ble_eq_true rfl, Nat.le_of_ble_eq_true rfl⟩ (Nat.le_of_ble_eq_true rfl) ct11 (fun r_ D12 hq10 hok hD15 => ?_)
    obtain ⟨r13, rfl, hr14⟩ := hok
    replace h := h r13 D12 hq10 hr14 hD15
    show WP mX6_wind Q 13 [vR 56, vI a, vI b] [vI r13] D12
    refine WP_if_eq (tgt := 25) dX6_wind_13 (by decide) (fun c16 => ?_) (fun c16 => ?_)
    · replace h := h.1 c16
      refine WP_bipush (z := (-2)) dX6_wind_25 rfl (by decide) ?_
      exact WP_ireturn dX6_wind_27 rfl h
    · replace h := h.2 c16
      refine WP_aload_n (z := 56) dX6_wind_16 rfl ?_
      refine WP_iload_n (z := a) dX6_wind_17 rfl ?_
      refine WP_iload_n (z := b) dX6_wind_18 rfl ?_
      obtain ⟨Q17, ct19, h⟩ := h
      refine WP_callV (g := mX6_windOf) (as := [vI a, vI b]) (rest := []) (n := 2) dX6_wind_19 wm_407 mo_X6_windOf rfl rfl rfl rfl ⟨Nat.le_of_ble_eq_true rfl, Nat.le_of_ble_eq_true rfl⟩ (Nat.le_of_ble_eq_true rfl) ct19 (fun r_ D20 hq18 hok hD23 => ?_)
      obtain ⟨r21, rfl, hr22⟩ := hok
      replace h := h r21 D20 hq18 hr22 hD23
      show WP mX6_wind Q 22 [vR 56, vI a, vI b] [vI r21] D20
      refine WP_goto (tgt := 27) dX6_wind_22 (by decide) ?_
      exact WP_ireturn dX6_wind_27 rfl h
set_option maxRecDepth 100000 in
set_option maxHeartbeats 4000000 in
theorem V_X6_ribsOf (a : Int) (b : Int) {D : HP} {Q : Option MV → HP → Prop}
    (h0 : cD D → c32 a → c32 b → (∃ Q1 : Option MV → HP → Prop, CT mX6_runsTold [vR 56] D Q1 ∧ ∀ (D4 : HP), Q1 none D4 → cD D4 → ((c32 (8 * a)) ∧ ((c32 ((8 * a) + b)) ∧ ((0 ≤ ((8 * a) + b) ∧ ((8 * a) + b) < 104) ∧ (Q (some (vI (D4 65 (((8 * a) + b)).toNat))) D4))))))
    : CT mX6_ribsOf [vR 56, vI a, vI b] D Q := by
  refine CT.of 0 (by decide) (Nat.le_of_ble_eq_true rfl) ?_
  show WP mX6_ribsOf Q 0 [vR 56, vI a, vI b] [] D
  refine WP_cD (fun hcD => ?_)
  refine WP_cl (fun hcl => ?_)
  have h := h0 hcD (cVs_g hcl (i := 1) (v := vI a) rfl) (cVs_g hcl (i := 2) (v := vI b) rfl)
  refine WP_aload_n (z := 56) dX6_ribsOf_0 rfl ?_
  obtain ⟨Q1, ct3, h⟩ := h
  refine WP_callV (g := mX6_runsTold) (as := []) (rest := []) (n := 0) dX6_ribsOf_1 wm_411 mo_X6_runsTold rfl rfl rfl rfl ⟨Nat.le_of_ble_eq_true rfl, Nat.le_of_ble_eq_true rfl⟩ (Nat.le_of_ble_eq_true rfl) ct3 (fun r_ D4 hq2 hok hD7 => ?_)
  obtain rfl := hok
  replace h := h D4 hq2 hD7
  show WP mX6_ribsOf Q 4 [vR 56, vI a, vI b] [] D4
  refine WP_aload_n (z := 56) dX6_ribsOf_4 rfl ?_
  refine WP_getR (z := 65) dX6_ribsOf_5 fl_RX6_35 rfl rfl rfl ?_
  refine WP_bipush (z := 8) dX6_ribsOf_8 rfl (by decide) ?_
  refine WP_iload_n (z := a) dX6_ribsOf_10 rfl ?_
  obtain ⟨o10, h⟩ := h
  refine WP_imul (z := (8 * a)) dX6_ribsOf_11 (w32_id o10) ?_
  refine WP_iload_n (z := b) dX6_ribsOf_12 rfl ?_
  obtain ⟨o9, h⟩ := h
  refine WP_iadd (z := ((8 * a) + b)) dX6_ribsOf_13 (w32_id o9) ?_
  obtain ⟨o8, h⟩ := h
  refine WP_iald dX6_ribsOf_14 rfl o8.1 o8.2 rfl ?_
  exact WP_ireturn dX6_ribsOf_15 rfl h
set_option maxRecDepth 100000 in
set_option maxHeartbeats 4000000 in
theorem V_X6_ribs (a : Int) (b : Int) {D : HP} {Q : Option MV → HP → Prop}
    (h0 : cD D → c32 a → c32 b → (∃ Q1 : Option MV → HP → Prop, CT mX6_isMinute [vR 56, vI a] D Q1 ∧ ∀ (r5 : Int) (D4 : HP), Q1 (some (vI r5)) D4 → c32 r5 → cD D4 → ((r5 = 0 → (Q (some (vI (-2))) D4)) ∧ (¬ (r5 = 0) → (∃ Q9 : Option MV → HP → Prop, CT mX6_isCandidate [vR 56, vI b] D4 Q9 ∧ ∀ (r13 : Int) (D12 : HP), Q9 (some (vI r13)) D12 → c32 r13 → cD D12 → ((r13 = 0 → (Q (some (vI (-2))) D12)) ∧ (¬ (r13 = 0) → (∃ Q17 : Option MV → HP → Prop, CT mX6_ribsOf [vR 56, vI a, vI b] D12 Q17 ∧ ∀ (r21 : Int) (D20 : HP), Q17 (some (vI r21)) D20 → c32 r21 → cD D20 → (Q (some (vI r21)) D20)))))))))
    : CT mX6_ribs [vR 56, vI a, vI b] D Q := by
  refine CT.of 0 (by decide) (Nat.le_of_ble_eq_true rfl) ?_
  show WP mX6_ribs Q 0 [vR 56, vI a, vI b] [] D
  refine WP_cD (fun hcD => ?_)
  refine WP_cl (fun hcl => ?_)
  have h := h0 hcD (cVs_g hcl (i := 1) (v := vI a) rfl) (cVs_g hcl (i := 2) (v := vI b) rfl)
  refine WP_aload_n (z := 56) dX6_ribs_0 rfl ?_
  refine WP_iload_n (z := a) dX6_ribs_1 rfl ?_
  obtain ⟨Q1, ct3, h⟩ := h
  refine WP_callV (g := mX6_isMinute) (as := [vI a]) (rest := []) (n := 1) dX6_ribs_2 wm_362 mo_X6_isMinute rfl rfl rfl rfl ⟨Nat.le_of_ble_eq_true rfl, Nat.le_of_ble_eq_true rfl⟩ (Nat.le_of_ble_eq_true rfl) ct3 (fun r_ D4 hq2 hok hD7 => ?_)
  obtain ⟨r5, rfl, hr6⟩ := hok
  replace h := h r5 D4 hq2 hr6 hD7
  show WP mX6_ribs Q 5 [vR 56, vI a, vI b] [vI r5] D4
  refine WP_if_eq (tgt := 25) dX6_ribs_5 (by decide) (fun c8 => ?_) (fun c8 => ?_)
  · replace h := h.1 c8
    refine WP_bipush (z := (-2)) dX6_ribs_25 rfl (by decide) ?_
    exact WP_ireturn dX6_ribs_27 rfl h
  · replace h := h.2 c8
    refine WP_aload_n (z := 56) dX6_ribs_8 rfl ?_
    refine WP_iload_n (z := b) dX6_ribs_9 rfl ?_
    obtain ⟨Q9, ct11, h⟩ := h
    refine WP_callV (g := mX6_isCandidate) (as := [vI b]) (rest := []) (n := 1) dX6_ribs_10 wm_386 mo_X6_isCandidate rfl rfl rfl rfl ⟨Nat.le_of_ble_eq_true rfl, Nat.le_of_ble_eq_true rfl⟩ (Nat.le_of_ble_eq_true rfl) ct11 (fun r_ D12 hq10 hok hD15 => ?_)
    obtain ⟨r13, rfl, hr14⟩ := hok
    replace h := h r13 D12 hq10 hr14 hD15
    show WP mX6_ribs Q 13 [vR 56, vI a, vI b] [vI r13] D12
    refine WP_if_eq (tgt := 25) dX6_ribs_13 (by decide) (fun c16 => ?_) (fun c16 => ?_)
    · replace h := h.1 c16
      refine WP_bipush (z := (-2)) dX6_ribs_25 rfl (by decide) ?_
      exact WP_ireturn dX6_ribs_27 rfl h
    · replace h := h.2 c16
      refine WP_aload_n (z := 56) dX6_ribs_16 rfl ?_
      refine WP_iload_n (z := a) dX6_ribs_17 rfl ?_
      refine WP_iload_n (z := b) dX6_ribs_18 rfl ?_
      obtain ⟨Q17, ct19, h⟩ := h
      refine WP_callV (g := mX6_ribsOf) (as := [vI a, vI b]) (rest := []) (n := 2) dX6_ribs_19 wm_459 mo_X6_ribsOf rfl rfl rfl rfl ⟨Nat.le_of_ble_eq_true rfl, Nat.le_of_ble_eq_true rfl⟩ (Nat.le_of_ble_eq_true rfl) ct19 (fun r_ D20 hq18 hok hD23 => ?_)
      obtain ⟨r21, rfl, hr22⟩ := hok
      replace h := h r21 D20 hq18 hr22 hD23
      show WP mX6_ribs Q 22 [vR 56, vI a, vI b] [vI r21] D20
      refine WP_goto (tgt := 27) dX6_ribs_22 (by decide) ?_
      exact WP_ireturn dX6_ribs_27 rfl h
set_option maxRecDepth 100000 in
set_option maxHeartbeats 4000000 in
theorem V_X6_turnsOf (a : Int) (b : Int) {D : HP} {Q : Option MV → HP → Prop} (I9 : Int → Int → Int → Int → HP → Prop) (u9 : Int → Int → Int → Int → HP → Nat)
    (h0 : cD D → c32 a → c32 b → (∃ Q1 : Option MV → HP → Prop, CT mX6_runsTold [vR 56] D Q1 ∧ ∀ (D4 : HP), Q1 none D4 → cD D4 → (I9 a b 0 0 D4)))
    (h9 : ∀ (x1 x2 x3 x4 : Int) (D : HP), I9 x1 x2 x3 x4 D → cD D → c32 x1 → c32 x2 → c32 x3 → c32 x4 → (((D 56 5) ≤ x4 → ((((x2 = 0) → (0 ≤ x1 ∧ x1 < 8)) ∧ (¬ (x2 = 0) → (((x2 = 1) → (0 ≤ x1 ∧ x1 < 8)) ∧ (¬ (x2 = 1) → (((x2 = 2) → (0 ≤ x1 ∧ x1 < 8)) ∧ (¬ (x2 = 2) → True)))))) ∧ (Q (some (vI (if x2 = 0 then ((D 66 x1.toNat) : Int) else (if x2 = 1 then ((if (D 67 x1.toNat) = 0 then (0 : Int) else 1) : Int) else (if x2 = 2 then ((if (D 68 x1.toNat) = 0 then (0 : Int) else 1) : Int) else x3))))) D))) ∧ (¬ ((D 56 5) ≤ x4) → ((0 ≤ x4 ∧ x4 < 12) ∧ ((c32 (x3 + (if (D 69 x4.toNat) = x1 then (1 : Int) else 0))) ∧ (∀ (v26 : Int), v26 = (x3 + (if (D 69 x4.toNat) = x1 then (1 : Int) else 0)) → ((c32 (x4 + 1)) ∧ (I9 x1 x2 v26 (x4 + 1) D ∧ u9 x1 x2 v26 (x4 + 1) D < u9 x1 x2 x3 x4 D))))))))
    : CT mX6_turnsOf [vR 56, vI a, vI b] D Q := by
  refine CT.of 2 (by decide) (Nat.le_of_ble_eq_true rfl) ?_
  show WP mX6_turnsOf Q 0 [vR 56, vI a, vI b, vU, vU] [] D
  have IH : ∀ n : Nat, (∀ (x1 x2 x3 x4 : Int) (D : HP), I9 x1 x2 x3 x4 D → u9 x1 x2 x3 x4 D * 1 + 0 < n → WP mX6_turnsOf Q 9 [vR 56, vI x1, vI x2, vI x3, vI x4] [] D) := by
    intro n
    induction n with
    | zero => exact fun _ _ _ _ _ _ h => absurd h (Nat.not_lt_zero _)
    | succ n ih =>
      have ih9_ := ih
      · intro x1 x2 x3 x4 D hI hn
        refine WP_cD (fun hcD => ?_)
        refine WP_cl (fun hcl => ?_)
        have h := h9 x1 x2 x3 x4 D hI hcD (cVs_g hcl (i := 1) (v := vI x1) rfl) (cVs_g hcl (i := 2) (v := vI x2) rfl) (cVs_g hcl (i := 3) (v := vI x3) rfl) (cVs_g hcl (i := 4) (v := vI x4) rfl)
        refine WP_iload (z := x4) dX6_turnsOf_9 rfl ?_
        refine WP_aload_n (z := 56) dX6_turnsOf_11 rfl ?_
        refine WP_getI dX6_turnsOf_12 fl_RX6_101 rfl rfl rfl ?_
        refine WP_icmp_ge (tgt := 43) dX6_turnsOf_15 (by decide) (fun c8 => ?_) (fun c8 => ?_)
        · replace h := h.1 c8
          refine WP_iload_n (z := x2) dX6_turnsOf_43 rfl ?_
          obtain ⟨o9, h⟩ := h
          refine WP_via (pc1 := 101) (ls1 := [vR 56, vI x1, vI x2, vI x3, vI x4]) (st1 := [vI (if x2 = 0 then ((D 66 x1.toNat) : Int) else (if x2 = 1 then ((if (D 67 x1.toNat) = 0 then (0 : Int) else 1) : Int) else (if x2 = 2 then ((if (D 68 x1.toNat) = 0 then (0 : Int) else 1) : Int) else x3)))]) (D1 := D) (fun hJ10 => ?_) ?_
          · refine WP_if_ne (tgt := 56) dX6_turnsOf_44 (by decide) (fun c11 => ?_) (fun c11 => ?_)
            · replace hJ10 := ite_f (P := fun v_ : Int => WP mX6_turnsOf Q 101 [vR 56, vI x1, vI x2, vI x3, vI x4] [vI v_] D) hJ10 c11
              have o13 := o9.2 c11
              refine WP_iload_n (z := x2) dX6_turnsOf_56 rfl ?_
              refine WP_iconst (z := 1) dX6_turnsOf_57 rfl ⟨by decide, by decide⟩ ?_
              refine WP_via (pc1 := 101) (ls1 := [vR 56, vI x1, vI x2, vI x3, vI x4]) (st1 := [vI (if x2 = 1 then ((if (D 67 x1.toNat) = 0 then (0 : Int) else 1) : Int) else (if x2 = 2 then ((if (D 68 x1.toNat) = 0 then (0 : Int) else 1) : Int) else x3))]) (D1 := D) (fun hJ14 => ?_) ?_
              · refine WP_icmp_ne (tgt := 78) dX6_turnsOf_58 (by decide) (fun c15 => ?_) (fun c15 => ?_)
                · replace hJ14 := ite_f (P := fun v_ : Int => WP mX6_turnsOf Q 101 [vR 56, vI x1, vI x2, vI x3, vI x4] [vI v_] D) hJ14 c15
                  have o19 := o13.2 c15
                  refine WP_iload_n (z := x2) dX6_turnsOf_78 rfl ?_
                  refine WP_iconst (z := 2) dX6_turnsOf_79 rfl ⟨by decide, by decide⟩ ?_
                  refine WP_via (pc1 := 101) (ls1 := [vR 56, vI x1, vI x2, vI x3, vI x4]) (st1 := [vI (if x2 = 2 then ((if (D 68 x1.toNat) = 0 then (0 : Int) else 1) : Int) else x3)]) (D1 := D) (fun hJ20 => ?_) ?_
                  · refine WP_icmp_ne (tgt := 100) dX6_turnsOf_80 (by decide) (fun c21 => ?_) (fun c21 => ?_)
                    · replace hJ20 := ite_f (P := fun v_ : Int => WP mX6_turnsOf Q 101 [vR 56, vI x1, vI x2, vI x3, vI x4] [vI v_] D) hJ20 c21
                      have o25 := o19.2 c21
                      refine WP_iload_n (z := x3) dX6_turnsOf_100 rfl ?_
                      exact hJ20
                    · replace hJ20 := ite_t (P := fun v_ : Int => WP mX6_turnsOf Q 101 [vR 56, vI x1, vI x2, vI x3, vI x4] [vI v_] D) hJ20 c21
                      have o22 := o19.1 c21
                      refine WP_aload_n (z := 56) dX6_turnsOf_83 rfl ?_
                      refine WP_getR (z := 68) dX6_turnsOf_84 fl_RX6_44 rfl rfl rfl ?_
                      refine WP_iload_n (z := x1) dX6_turnsOf_87 rfl ?_
                      refine WP_zald dX6_turnsOf_88 rfl o22.1 o22.2 rfl ?_
                      refine WP_via (pc1 := 101) (ls1 := [vR 56, vI x1, vI x2, vI x3, vI x4]) (st1 := [vI (if (D 68 x1.toNat) = 0 then (0 : Int) else 1)]) (D1 := D) (fun hJ23 => ?_) ?_
                      · refine WP_if_eq (tgt := 96) dX6_turnsOf_89 (by decide) (fun c24 => ?_) (fun c24 => ?_)
                        · replace hJ23 := ite_t (P := fun v_ : Int => WP mX6_turnsOf Q 101 [vR 56, vI x1, vI x2, vI x3, vI x4] [vI v_] D) hJ23 c24
                          refine WP_iconst (z := 0) dX6_turnsOf_96 rfl ⟨by decide, by decide⟩ ?_
                          refine WP_goto (tgt := 101) dX6_turnsOf_97 (by decide) ?_
                          exact hJ23
                        · replace hJ23 := ite_f (P := fun v_ : Int => WP mX6_turnsOf Q 101 [vR 56, vI x1, vI x2, vI x3, vI x4] [vI v_] D) hJ23 c24
                          refine WP_iconst (z := 1) dX6_turnsOf_92 rfl ⟨by decide, by decide⟩ ?_
                          refine WP_goto (tgt := 101) dX6_turnsOf_93 (by decide) ?_
                          exact hJ23
                      exact hJ20
                  exact hJ14
                · replace hJ14 := ite_t (P := fun v_ : Int => WP mX6_turnsOf Q 101 [vR 56, vI x1, vI x2, vI x3, vI x4] [vI v_] D) hJ14 c15
                  have o16 := o13.1 c15
                  refine WP_aload_n (z := 56) dX6_turnsOf_61 rfl ?_
                  refine WP_getR (z := 67) dX6_turnsOf_62 fl_RX6_41 rfl rfl rfl ?_
                  refine WP_iload_n (z := x1) dX6_turnsOf_65 rfl ?_
                  refine WP_zald dX6_turnsOf_66 rfl o16.1 o16.2 rfl ?_
                  refine WP_via (pc1 := 101) (ls1 := [vR 56, vI x1, vI x2, vI x3, vI x4]) (st1 := [vI (if (D 67 x1.toNat) = 0 then (0 : Int) else 1)]) (D1 := D) (fun hJ17 => ?_) ?_
                  · refine WP_if_eq (tgt := 74) dX6_turnsOf_67 (by decide) (fun c18 => ?_) (fun c18 => ?_)
                    · replace hJ17 := ite_t (P := fun v_ : Int => WP mX6_turnsOf Q 101 [vR 56, vI x1, vI x2, vI x3, vI x4] [vI v_] D) hJ17 c18
                      refine WP_iconst (z := 0) dX6_turnsOf_74 rfl ⟨by decide, by decide⟩ ?_
                      refine WP_goto (tgt := 101) dX6_turnsOf_75 (by decide) ?_
                      exact hJ17
                    · replace hJ17 := ite_f (P := fun v_ : Int => WP mX6_turnsOf Q 101 [vR 56, vI x1, vI x2, vI x3, vI x4] [vI v_] D) hJ17 c18
                      refine WP_iconst (z := 1) dX6_turnsOf_70 rfl ⟨by decide, by decide⟩ ?_
                      refine WP_goto (tgt := 101) dX6_turnsOf_71 (by decide) ?_
                      exact hJ17
                  exact hJ14
              exact hJ10
            · replace hJ10 := ite_t (P := fun v_ : Int => WP mX6_turnsOf Q 101 [vR 56, vI x1, vI x2, vI x3, vI x4] [vI v_] D) hJ10 c11
              have o12 := o9.1 c11
              refine WP_aload_n (z := 56) dX6_turnsOf_47 rfl ?_
              refine WP_getR (z := 66) dX6_turnsOf_48 fl_RX6_38 rfl rfl rfl ?_
              refine WP_iload_n (z := x1) dX6_turnsOf_51 rfl ?_
              refine WP_iald dX6_turnsOf_52 rfl o12.1 o12.2 rfl ?_
              refine WP_goto (tgt := 101) dX6_turnsOf_53 (by decide) ?_
              exact hJ10
          · exact WP_ireturn dX6_turnsOf_101 rfl h
        · replace h := h.2 c8
          refine WP_iload_n (z := x3) dX6_turnsOf_18 rfl ?_
          refine WP_aload_n (z := 56) dX6_turnsOf_19 rfl ?_
          refine WP_getR (z := 69) dX6_turnsOf_20 fl_RX6_47 rfl rfl rfl ?_
          refine WP_iload (z := x4) dX6_turnsOf_23 rfl ?_
          obtain ⟨o32, h⟩ := h
          refine WP_iald dX6_turnsOf_25 rfl o32.1 o32.2 rfl ?_
          refine WP_iload_n (z := x1) dX6_turnsOf_26 rfl ?_
          refine WP_via (pc1 := 35) (ls1 := [vR 56, vI x1, vI x2, vI x3, vI x4]) (st1 := [vI (if (D 69 x4.toNat) = x1 then (1 : Int) else 0), vI x3]) (D1 := D) (fun hJ30 => ?_) ?_
          · refine WP_icmp_ne (tgt := 34) dX6_turnsOf_27 (by decide) (fun c31 => ?_) (fun c31 => ?_)
            · replace hJ30 := ite_f (P := fun v_ : Int => WP mX6_turnsOf Q 35 [vR 56, vI x1, vI x2, vI x3, vI x4] [vI v_, vI x3] D) hJ30 c31
              refine WP_iconst (z := 0) dX6_turnsOf_34 rfl ⟨by decide, by decide⟩ ?_
              exact hJ30
            · replace hJ30 := ite_t (P := fun v_ : Int => WP mX6_turnsOf Q 35 [vR 56, vI x1, vI x2, vI x3, vI x4] [vI v_, vI x3] D) hJ30 c31
              refine WP_iconst (z := 1) dX6_turnsOf_30 rfl ⟨by decide, by decide⟩ ?_
              refine WP_goto (tgt := 35) dX6_turnsOf_31 (by decide) ?_
              exact hJ30
          · obtain ⟨o29, h⟩ := h
            refine WP_iadd (z := (x3 + (if (D 69 x4.toNat) = x1 then (1 : Int) else 0))) dX6_turnsOf_35 (w32_id o29) ?_
            refine WP_istore_n (ls1 := [vR 56, vI x1, vI x2, vI (x3 + (if (D 69 x4.toNat) = x1 then (1 : Int) else 0)), vI x4]) dX6_turnsOf_36 (by decide) rfl ?_
            obtain ⟨v26, hv27⟩ : ∃ v26 : Int, v26 = (x3 + (if (D 69 x4.toNat) = x1 then (1 : Int) else 0)) := ⟨_, rfl⟩
            replace h := h v26 hv27
            rw [← hv27]
            obtain ⟨o28, h⟩ := h
            refine WP_iinc (z := (x4 + 1)) (ls1 := [vR 56, vI x1, vI x2, vI v26, vI (x4 + 1)]) dX6_turnsOf_37 rfl (w32_id o28) (by decide) rfl ?_
            refine WP_goto (tgt := 9) dX6_turnsOf_40 (by decide) ?_
            exact ih9_ _ _ _ _ _ h.1 (by have := h.2; omega)
  have cut9_ : ∀ (x1 x2 x3 x4 : Int) (D : HP), I9 x1 x2 x3 x4 D → WP mX6_turnsOf Q 9 [vR 56, vI x1, vI x2, vI x3, vI x4] [] D := fun x1 x2 x3 x4 D hI => (IH (u9 x1 x2 x3 x4 D * 1 + 0 + 1)) x1 x2 x3 x4 D hI (by omega)
  refine WP_cD (fun hcD => ?_)
  refine WP_cl (fun hcl => ?_)
  have h := h0 hcD (cVs_g hcl (i := 1) (v := vI a) rfl) (cVs_g hcl (i := 2) (v := vI b) rfl)
  refine WP_aload_n (z := 56) dX6_turnsOf_0 rfl ?_
  obtain ⟨Q1, ct3, h⟩ := h
  refine WP_callV (g := mX6_runsTold) (as := []) (rest := []) (n := 0) dX6_turnsOf_1 wm_411 mo_X6_runsTold rfl rfl rfl rfl ⟨Nat.le_of_ble_eq_true rfl, Nat.le_of_ble_eq_true rfl⟩ (Nat.le_of_ble_eq_true rfl) ct3 (fun r_ D4 hq2 hok hD7 => ?_)
  obtain rfl := hok
  replace h := h D4 hq2 hD7
  show WP mX6_turnsOf Q 4 [vR 56, vI a, vI b, vU, vU] [] D4
  refine WP_iconst (z := 0) dX6_turnsOf_4 rfl ⟨by decide, by decide⟩ ?_
  refine WP_istore_n (ls1 := [vR 56, vI a, vI b, vI 0, vU]) dX6_turnsOf_5 (by decide) rfl ?_
  refine WP_iconst (z := 0) dX6_turnsOf_6 rfl ⟨by decide, by decide⟩ ?_
  refine WP_istore (ls1 := [vR 56, vI a, vI b, vI 0, vI 0]) dX6_turnsOf_7 (by decide) rfl ?_
  exact cut9_ _ _ _ _ _ h
set_option maxRecDepth 100000 in
set_option maxHeartbeats 4000000 in
theorem V_X6_overturns (a : Int) (b : Int) {D : HP} {Q : Option MV → HP → Prop}
    (h0 : cD D → c32 a → c32 b → (∃ Q1 : Option MV → HP → Prop, CT mX6_isCandidate [vR 56, vI a] D Q1 ∧ ∀ (r5 : Int) (D4 : HP), Q1 (some (vI r5)) D4 → c32 r5 → cD D4 → ((r5 = 0 → (Q (some (vI (-2))) D4)) ∧ (¬ (r5 = 0) → (((fX6_within D4 b 0 3) = 0 → (Q (some (vI (-2))) D4)) ∧ (¬ ((fX6_within D4 b 0 3) = 0) → (∃ Q10 : Option MV → HP → Prop, CT mX6_turnsOf [vR 56, vI a, vI b] D4 Q10 ∧ ∀ (r14 : Int) (D13 : HP), Q10 (some (vI r14)) D13 → c32 r14 → cD D13 → (Q (some (vI r14)) D13))))))))
    : CT mX6_overturns [vR 56, vI a, vI b] D Q := by
  refine CT.of 0 (by decide) (Nat.le_of_ble_eq_true rfl) ?_
  show WP mX6_overturns Q 0 [vR 56, vI a, vI b] [] D
  refine WP_cD (fun hcD => ?_)
  refine WP_cl (fun hcl => ?_)
  have h := h0 hcD (cVs_g hcl (i := 1) (v := vI a) rfl) (cVs_g hcl (i := 2) (v := vI b) rfl)
  refine WP_aload_n (z := 56) dX6_overturns_0 rfl ?_
  refine WP_iload_n (z := a) dX6_overturns_1 rfl ?_
  obtain ⟨Q1, ct3, h⟩ := h
  refine WP_callV (g := mX6_isCandidate) (as := [vI a]) (rest := []) (n := 1) dX6_overturns_2 wm_386 mo_X6_isCandidate rfl rfl rfl rfl ⟨Nat.le_of_ble_eq_true rfl, Nat.le_of_ble_eq_true rfl⟩ (Nat.le_of_ble_eq_true rfl) ct3 (fun r_ D4 hq2 hok hD7 => ?_)
  obtain ⟨r5, rfl, hr6⟩ := hok
  replace h := h r5 D4 hq2 hr6 hD7
  show WP mX6_overturns Q 5 [vR 56, vI a, vI b] [vI r5] D4
  refine WP_if_eq (tgt := 26) dX6_overturns_5 (by decide) (fun c8 => ?_) (fun c8 => ?_)
  · replace h := h.1 c8
    refine WP_bipush (z := (-2)) dX6_overturns_26 rfl (by decide) ?_
    exact WP_ireturn dX6_overturns_28 rfl h
  · replace h := h.2 c8
    refine WP_iload_n (z := b) dX6_overturns_8 rfl ?_
    refine WP_iconst (z := 0) dX6_overturns_9 rfl ⟨by decide, by decide⟩ ?_
    refine WP_iconst (z := 3) dX6_overturns_10 rfl ⟨by decide, by decide⟩ ?_
    refine WP_pcallS (g := mX6_within) (as := [vI b, vI 0, vI 3]) (rest := []) (n := 3) (r := vI (fX6_within D4 b 0 3)) dX6_overturns_11 wm_262 mo_X6_within rfl rfl ⟨Nat.le_of_ble_eq_true rfl, Nat.le_of_ble_eq_true rfl⟩ (Nat.le_of_ble_eq_true rfl) (P_X6_within  trivial) ?_
    refine WP_if_eq (tgt := 26) dX6_overturns_14 (by decide) (fun c9 => ?_) (fun c9 => ?_)
    · replace h := h.1 c9
      refine WP_bipush (z := (-2)) dX6_overturns_26 rfl (by decide) ?_
      exact WP_ireturn dX6_overturns_28 rfl h
    · replace h := h.2 c9
      refine WP_aload_n (z := 56) dX6_overturns_17 rfl ?_
      refine WP_iload_n (z := a) dX6_overturns_18 rfl ?_
      refine WP_iload_n (z := b) dX6_overturns_19 rfl ?_
      obtain ⟨Q10, ct12, h⟩ := h
      refine WP_callV (g := mX6_turnsOf) (as := [vI a, vI b]) (rest := []) (n := 2) dX6_overturns_20 wm_492 mo_X6_turnsOf rfl rfl rfl rfl ⟨Nat.le_of_ble_eq_true rfl, Nat.le_of_ble_eq_true rfl⟩ (Nat.le_of_ble_eq_true rfl) ct12 (fun r_ D13 hq11 hok hD16 => ?_)
      obtain ⟨r14, rfl, hr15⟩ := hok
      replace h := h r14 D13 hq11 hr15 hD16
      show WP mX6_overturns Q 23 [vR 56, vI a, vI b] [vI r14] D13
      refine WP_goto (tgt := 28) dX6_overturns_23 (by decide) ?_
      exact WP_ireturn dX6_overturns_28 rfl h
set_option maxRecDepth 100000 in
set_option maxHeartbeats 4000000 in
theorem V_X6_inOf (a : Int) {D : HP} {Q : Option MV → HP → Prop}
    (h0 : cD D → c32 a → (∃ Q1 : Option MV → HP → Prop, CT mX6_runsTold [vR 56] D Q1 ∧ ∀ (D4 : HP), Q1 none D4 → cD D4 → ((0 ≤ a ∧ a < 12) ∧ (Q (some (vI (D4 69 a.toNat))) D4))))
    : CT mX6_inOf [vR 56, vI a] D Q := by
  refine CT.of 0 (by decide) (Nat.le_of_ble_eq_true rfl) ?_
  show WP mX6_inOf Q 0 [vR 56, vI a] [] D
  refine WP_cD (fun hcD => ?_)
  refine WP_cl (fun hcl => ?_)
  have h := h0 hcD (cVs_g hcl (i := 1) (v := vI a) rfl)
  refine WP_aload_n (z := 56) dX6_inOf_0 rfl ?_
  obtain ⟨Q1, ct3, h⟩ := h
  refine WP_callV (g := mX6_runsTold) (as := []) (rest := []) (n := 0) dX6_inOf_1 wm_411 mo_X6_runsTold rfl rfl rfl rfl ⟨Nat.le_of_ble_eq_true rfl, Nat.le_of_ble_eq_true rfl⟩ (Nat.le_of_ble_eq_true rfl) ct3 (fun r_ D4 hq2 hok hD7 => ?_)
  obtain rfl := hok
  replace h := h D4 hq2 hD7
  show WP mX6_inOf Q 4 [vR 56, vI a] [] D4
  refine WP_aload_n (z := 56) dX6_inOf_4 rfl ?_
  refine WP_getR (z := 69) dX6_inOf_5 fl_RX6_47 rfl rfl rfl ?_
  refine WP_iload_n (z := a) dX6_inOf_8 rfl ?_
  obtain ⟨o8, h⟩ := h
  refine WP_iald dX6_inOf_9 rfl o8.1 o8.2 rfl ?_
  exact WP_ireturn dX6_inOf_10 rfl h
set_option maxRecDepth 100000 in
set_option maxHeartbeats 4000000 in
theorem V_X6_in (a : Int) {D : HP} {Q : Option MV → HP → Prop}
    (h0 : cD D → c32 a → (∃ Q1 : Option MV → HP → Prop, CT mX6_isMinute [vR 56, vI a] D Q1 ∧ ∀ (r5 : Int) (D4 : HP), Q1 (some (vI r5)) D4 → c32 r5 → cD D4 → ((r5 = 0 → (Q (some (vI (-2))) D4)) ∧ (¬ (r5 = 0) → (∃ Q9 : Option MV → HP → Prop, CT mX6_inOf [vR 56, vI a] D4 Q9 ∧ ∀ (r13 : Int) (D12 : HP), Q9 (some (vI r13)) D12 → c32 r13 → cD D12 → (Q (some (vI r13)) D12))))))
    : CT mX6_in [vR 56, vI a] D Q := by
  refine CT.of 0 (by decide) (Nat.le_of_ble_eq_true rfl) ?_
  show WP mX6_in Q 0 [vR 56, vI a] [] D
  refine WP_cD (fun hcD => ?_)
  refine WP_cl (fun hcl => ?_)
  have h := h0 hcD (cVs_g hcl (i := 1) (v := vI a) rfl)
  refine WP_aload_n (z := 56) dX6_in_0 rfl ?_
  refine WP_iload_n (z := a) dX6_in_1 rfl ?_
  obtain ⟨Q1, ct3, h⟩ := h
  refine WP_callV (g := mX6_isMinute) (as := [vI a]) (rest := []) (n := 1) dX6_in_2 wm_362 mo_X6_isMinute rfl rfl rfl rfl ⟨Nat.le_of_ble_eq_true rfl, Nat.le_of_ble_eq_true rfl⟩ (Nat.le_of_ble_eq_true rfl) ct3 (fun r_ D4 hq2 hok hD7 => ?_)
  obtain ⟨r5, rfl, hr6⟩ := hok
  replace h := h r5 D4 hq2 hr6 hD7
  show WP mX6_in Q 5 [vR 56, vI a] [vI r5] D4
  refine WP_if_eq (tgt := 16) dX6_in_5 (by decide) (fun c8 => ?_) (fun c8 => ?_)
  · replace h := h.1 c8
    refine WP_bipush (z := (-2)) dX6_in_16 rfl (by decide) ?_
    exact WP_ireturn dX6_in_18 rfl h
  · replace h := h.2 c8
    refine WP_aload_n (z := 56) dX6_in_8 rfl ?_
    refine WP_iload_n (z := a) dX6_in_9 rfl ?_
    obtain ⟨Q9, ct11, h⟩ := h
    refine WP_callV (g := mX6_inOf) (as := [vI a]) (rest := []) (n := 1) dX6_in_10 wm_505 mo_X6_inOf rfl rfl rfl rfl ⟨Nat.le_of_ble_eq_true rfl, Nat.le_of_ble_eq_true rfl⟩ (Nat.le_of_ble_eq_true rfl) ct11 (fun r_ D12 hq10 hok hD15 => ?_)
    obtain ⟨r13, rfl, hr14⟩ := hok
    replace h := h r13 D12 hq10 hr14 hD15
    show WP mX6_in Q 13 [vR 56, vI a] [vI r13] D12
    refine WP_goto (tgt := 18) dX6_in_13 (by decide) ?_
    exact WP_ireturn dX6_in_18 rfl h
set_option maxRecDepth 100000 in
set_option maxHeartbeats 4000000 in
theorem V_X6_firstOf (a : Int) {D : HP} {Q : Option MV → HP → Prop} (I6 : Int → Int → HP → Prop) (u6 : Int → Int → HP → Nat)
    (h0 : cD D → c32 a → (∃ Q1 : Option MV → HP → Prop, CT mX6_runsTold [vR 56] D Q1 ∧ ∀ (D4 : HP), Q1 none D4 → cD D4 → (I6 a 0 D4)))
    (h6 : ∀ (x1 x2 : Int) (D : HP), I6 x1 x2 D → cD D → c32 x1 → c32 x2 → (((D 56 5) ≤ x2 → (Q (some (vI (-1))) D)) ∧ (¬ ((D 56 5) ≤ x2) → ((0 ≤ x2 ∧ x2 < 12) ∧ (((D 69 x2.toNat) = (-1) → ((c32 (x2 + 1)) ∧ (I6 x1 (x2 + 1) D ∧ u6 x1 (x2 + 1) D < u6 x1 x2 D))) ∧ (¬ ((D 69 x2.toNat) = (-1)) → ((((x1 = 0) → True) ∧ (¬ (x1 = 0) → (0 ≤ x2 ∧ x2 < 12))) ∧ (Q (some (vI (if x1 = 0 then (x2 : Int) else (D 69 x2.toNat)))) D))))))))
    : CT mX6_firstOf [vR 56, vI a] D Q := by
  refine CT.of 1 (by decide) (Nat.le_of_ble_eq_true rfl) ?_
  show WP mX6_firstOf Q 0 [vR 56, vI a, vU] [] D
  have IH : ∀ n : Nat, (∀ (x1 x2 : Int) (D : HP), I6 x1 x2 D → u6 x1 x2 D * 1 + 0 < n → WP mX6_firstOf Q 6 [vR 56, vI x1, vI x2] [] D) := by
    intro n
    induction n with
    | zero => exact fun _ _ _ _ h => absurd h (Nat.not_lt_zero _)
    | succ n ih =>
      have ih6_ := ih
      · intro x1 x2 D hI hn
        refine WP_cD (fun hcD => ?_)
        refine WP_cl (fun hcl => ?_)
        have h := h6 x1 x2 D hI hcD (cVs_g hcl (i := 1) (v := vI x1) rfl) (cVs_g hcl (i := 2) (v := vI x2) rfl)
        refine WP_iload_n (z := x2) dX6_firstOf_6 rfl ?_
        refine WP_aload_n (z := 56) dX6_firstOf_7 rfl ?_
        refine WP_getI dX6_firstOf_8 fl_RX6_101 rfl rfl rfl ?_
        refine WP_icmp_ge (tgt := 45) dX6_firstOf_11 (by decide) (fun c8 => ?_) (fun c8 => ?_)
        · replace h := h.1 c8
          refine WP_iconst (z := (-1)) dX6_firstOf_45 rfl ⟨by decide, by decide⟩ ?_
          exact WP_ireturn dX6_firstOf_46 rfl h
        · replace h := h.2 c8
          refine WP_aload_n (z := 56) dX6_firstOf_14 rfl ?_
          refine WP_getR (z := 69) dX6_firstOf_15 fl_RX6_47 rfl rfl rfl ?_
          refine WP_iload_n (z := x2) dX6_firstOf_18 rfl ?_
          obtain ⟨o16, h⟩ := h
          refine WP_iald dX6_firstOf_19 rfl o16.1 o16.2 rfl ?_
          refine WP_iconst (z := (-1)) dX6_firstOf_20 rfl ⟨by decide, by decide⟩ ?_
          refine WP_icmp_eq (tgt := 39) dX6_firstOf_21 (by decide) (fun c9 => ?_) (fun c9 => ?_)
          · replace h := h.1 c9
            obtain ⟨o10, h⟩ := h
            refine WP_iinc (z := (x2 + 1)) (ls1 := [vR 56, vI x1, vI (x2 + 1)]) dX6_firstOf_39 rfl (w32_id o10) (by decide) rfl ?_
            refine WP_goto (tgt := 6) dX6_firstOf_42 (by decide) ?_
            exact ih6_ _ _ _ h.1 (by have := h.2; omega)
          · replace h := h.2 c9
            refine WP_iload_n (z := x1) dX6_firstOf_24 rfl ?_
            obtain ⟨o11, h⟩ := h
            refine WP_via (pc1 := 38) (ls1 := [vR 56, vI x1, vI x2]) (st1 := [vI (if x1 = 0 then (x2 : Int) else (D 69 x2.toNat))]) (D1 := D) (fun hJ12 => ?_) ?_
            · refine WP_if_ne (tgt := 32) dX6_firstOf_25 (by decide) (fun c13 => ?_) (fun c13 => ?_)
              · replace hJ12 := ite_f (P := fun v_ : Int => WP mX6_firstOf Q 38 [vR 56, vI x1, vI x2] [vI v_] D) hJ12 c13
                have o15 := o11.2 c13
                refine WP_aload_n (z := 56) dX6_firstOf_32 rfl ?_
                refine WP_getR (z := 69) dX6_firstOf_33 fl_RX6_47 rfl rfl rfl ?_
                refine WP_iload_n (z := x2) dX6_firstOf_36 rfl ?_
                refine WP_iald dX6_firstOf_37 rfl o15.1 o15.2 rfl ?_
                exact hJ12
              · replace hJ12 := ite_t (P := fun v_ : Int => WP mX6_firstOf Q 38 [vR 56, vI x1, vI x2] [vI v_] D) hJ12 c13
                have o14 := o11.1 c13
                refine WP_iload_n (z := x2) dX6_firstOf_28 rfl ?_
                refine WP_goto (tgt := 38) dX6_firstOf_29 (by decide) ?_
                exact hJ12
            · exact WP_ireturn dX6_firstOf_38 rfl h
  have cut6_ : ∀ (x1 x2 : Int) (D : HP), I6 x1 x2 D → WP mX6_firstOf Q 6 [vR 56, vI x1, vI x2] [] D := fun x1 x2 D hI => (IH (u6 x1 x2 D * 1 + 0 + 1)) x1 x2 D hI (by omega)
  refine WP_cD (fun hcD => ?_)
  refine WP_cl (fun hcl => ?_)
  have h := h0 hcD (cVs_g hcl (i := 1) (v := vI a) rfl)
  refine WP_aload_n (z := 56) dX6_firstOf_0 rfl ?_
  obtain ⟨Q1, ct3, h⟩ := h
  refine WP_callV (g := mX6_runsTold) (as := []) (rest := []) (n := 0) dX6_firstOf_1 wm_411 mo_X6_runsTold rfl rfl rfl rfl ⟨Nat.le_of_ble_eq_true rfl, Nat.le_of_ble_eq_true rfl⟩ (Nat.le_of_ble_eq_true rfl) ct3 (fun r_ D4 hq2 hok hD7 => ?_)
  obtain rfl := hok
  replace h := h D4 hq2 hD7
  show WP mX6_firstOf Q 4 [vR 56, vI a, vU] [] D4
  refine WP_iconst (z := 0) dX6_firstOf_4 rfl ⟨by decide, by decide⟩ ?_
  refine WP_istore_n (ls1 := [vR 56, vI a, vI 0]) dX6_firstOf_5 (by decide) rfl ?_
  exact cut6_ _ _ _ h
set_option maxRecDepth 100000 in
set_option maxHeartbeats 4000000 in
theorem V_X6_first (a : Int) {D : HP} {Q : Option MV → HP → Prop}
    (h0 : cD D → c32 a → (((fX6_within D a 0 1) = 0 → (Q (some (vI (-2))) D)) ∧ (¬ ((fX6_within D a 0 1) = 0) → (∃ Q2 : Option MV → HP → Prop, CT mX6_firstOf [vR 56, vI a] D Q2 ∧ ∀ (r6 : Int) (D5 : HP), Q2 (some (vI r6)) D5 → c32 r6 → cD D5 → (Q (some (vI r6)) D5)))))
    : CT mX6_first [vR 56, vI a] D Q := by
  refine CT.of 0 (by decide) (Nat.le_of_ble_eq_true rfl) ?_
  show WP mX6_first Q 0 [vR 56, vI a] [] D
  refine WP_cD (fun hcD => ?_)
  refine WP_cl (fun hcl => ?_)
  have h := h0 hcD (cVs_g hcl (i := 1) (v := vI a) rfl)
  refine WP_iload_n (z := a) dX6_first_0 rfl ?_
  refine WP_iconst (z := 0) dX6_first_1 rfl ⟨by decide, by decide⟩ ?_
  refine WP_iconst (z := 1) dX6_first_2 rfl ⟨by decide, by decide⟩ ?_
  refine WP_pcallS (g := mX6_within) (as := [vI a, vI 0, vI 1]) (rest := []) (n := 3) (r := vI (fX6_within D a 0 1)) dX6_first_3 wm_262 mo_X6_within rfl rfl ⟨Nat.le_of_ble_eq_true rfl, Nat.le_of_ble_eq_true rfl⟩ (Nat.le_of_ble_eq_true rfl) (P_X6_within  trivial) ?_
  refine WP_if_eq (tgt := 17) dX6_first_6 (by decide) (fun c1 => ?_) (fun c1 => ?_)
  · replace h := h.1 c1
    refine WP_bipush (z := (-2)) dX6_first_17 rfl (by decide) ?_
    exact WP_ireturn dX6_first_19 rfl h
  · replace h := h.2 c1
    refine WP_aload_n (z := 56) dX6_first_9 rfl ?_
    refine WP_iload_n (z := a) dX6_first_10 rfl ?_
    obtain ⟨Q2, ct4, h⟩ := h
    refine WP_callV (g := mX6_firstOf) (as := [vI a]) (rest := []) (n := 1) dX6_first_11 wm_517 mo_X6_firstOf rfl rfl rfl rfl ⟨Nat.le_of_ble_eq_true rfl, Nat.le_of_ble_eq_true rfl⟩ (Nat.le_of_ble_eq_true rfl) ct4 (fun r_ D5 hq3 hok hD8 => ?_)
    obtain ⟨r6, rfl, hr7⟩ := hok
    replace h := h r6 D5 hq3 hr7 hD8
    show WP mX6_first Q 14 [vR 56, vI a] [vI r6] D5
    refine WP_goto (tgt := 19) dX6_first_14 (by decide) ?_
    exact WP_ireturn dX6_first_19 rfl h
set_option maxRecDepth 100000 in
set_option maxHeartbeats 4000000 in
theorem V_X6_lullsNow  {D : HP} {Q : Option MV → HP → Prop} (I8 : Int → Int → HP → Prop) (u8 : Int → Int → HP → Nat)
    (h0 : cD D → (∃ Q1 : Option MV → HP → Prop, CT mX6_runsTold [vR 56] D Q1 ∧ ∀ (D4 : HP), Q1 none D4 → cD D4 → (I8 0 0 D4)))
    (h8 : ∀ (x1 x2 : Int) (D : HP), I8 x1 x2 D → cD D → c32 x1 → c32 x2 → (((D 56 5) ≤ x2 → (Q (some (vI x1)) D)) ∧ (¬ ((D 56 5) ≤ x2) → ((0 ≤ x2 ∧ x2 < 12) ∧ ((c32 (x1 + (if (D 69 x2.toNat) = (-1) then (1 : Int) else 0))) ∧ (∀ (v9 : Int), v9 = (x1 + (if (D 69 x2.toNat) = (-1) then (1 : Int) else 0)) → ((c32 (x2 + 1)) ∧ (I8 v9 (x2 + 1) D ∧ u8 v9 (x2 + 1) D < u8 x1 x2 D))))))))
    : CT mX6_lullsNow [vR 56] D Q := by
  refine CT.of 2 (by decide) (Nat.le_of_ble_eq_true rfl) ?_
  show WP mX6_lullsNow Q 0 [vR 56, vU, vU] [] D
  have IH : ∀ n : Nat, (∀ (x1 x2 : Int) (D : HP), I8 x1 x2 D → u8 x1 x2 D * 1 + 0 < n → WP mX6_lullsNow Q 8 [vR 56, vI x1, vI x2] [] D) := by
    intro n
    induction n with
    | zero => exact fun _ _ _ _ h => absurd h (Nat.not_lt_zero _)
    | succ n ih =>
      have ih8_ := ih
      · intro x1 x2 D hI hn
        refine WP_cD (fun hcD => ?_)
        refine WP_cl (fun hcl => ?_)
        have h := h8 x1 x2 D hI hcD (cVs_g hcl (i := 1) (v := vI x1) rfl) (cVs_g hcl (i := 2) (v := vI x2) rfl)
        refine WP_iload_n (z := x2) dX6_lullsNow_8 rfl ?_
        refine WP_aload_n (z := 56) dX6_lullsNow_9 rfl ?_
        refine WP_getI dX6_lullsNow_10 fl_RX6_101 rfl rfl rfl ?_
        refine WP_icmp_ge (tgt := 40) dX6_lullsNow_13 (by decide) (fun c8 => ?_) (fun c8 => ?_)
        · replace h := h.1 c8
          refine WP_iload_n (z := x1) dX6_lullsNow_40 rfl ?_
          exact WP_ireturn dX6_lullsNow_41 rfl h
        · replace h := h.2 c8
          refine WP_iload_n (z := x1) dX6_lullsNow_16 rfl ?_
          refine WP_aload_n (z := 56) dX6_lullsNow_17 rfl ?_
          refine WP_getR (z := 69) dX6_lullsNow_18 fl_RX6_47 rfl rfl rfl ?_
          refine WP_iload_n (z := x2) dX6_lullsNow_21 rfl ?_
          obtain ⟨o15, h⟩ := h
          refine WP_iald dX6_lullsNow_22 rfl o15.1 o15.2 rfl ?_
          refine WP_iconst (z := (-1)) dX6_lullsNow_23 rfl ⟨by decide, by decide⟩ ?_
          refine WP_via (pc1 := 32) (ls1 := [vR 56, vI x1, vI x2]) (st1 := [vI (if (D 69 x2.toNat) = (-1) then (1 : Int) else 0), vI x1]) (D1 := D) (fun hJ13 => ?_) ?_
          · refine WP_icmp_ne (tgt := 31) dX6_lullsNow_24 (by decide) (fun c14 => ?_) (fun c14 => ?_)
            · replace hJ13 := ite_f (P := fun v_ : Int => WP mX6_lullsNow Q 32 [vR 56, vI x1, vI x2] [vI v_, vI x1] D) hJ13 c14
              refine WP_iconst (z := 0) dX6_lullsNow_31 rfl ⟨by decide, by decide⟩ ?_
              exact hJ13
            · replace hJ13 := ite_t (P := fun v_ : Int => WP mX6_lullsNow Q 32 [vR 56, vI x1, vI x2] [vI v_, vI x1] D) hJ13 c14
              refine WP_iconst (z := 1) dX6_lullsNow_27 rfl ⟨by decide, by decide⟩ ?_
              refine WP_goto (tgt := 32) dX6_lullsNow_28 (by decide) ?_
              exact hJ13
          · obtain ⟨o12, h⟩ := h
            refine WP_iadd (z := (x1 + (if (D 69 x2.toNat) = (-1) then (1 : Int) else 0))) dX6_lullsNow_32 (w32_id o12) ?_
            refine WP_istore_n (ls1 := [vR 56, vI (x1 + (if (D 69 x2.toNat) = (-1) then (1 : Int) else 0)), vI x2]) dX6_lullsNow_33 (by decide) rfl ?_
            obtain ⟨v9, hv10⟩ : ∃ v9 : Int, v9 = (x1 + (if (D 69 x2.toNat) = (-1) then (1 : Int) else 0)) := ⟨_, rfl⟩
            replace h := h v9 hv10
            rw [← hv10]
            obtain ⟨o11, h⟩ := h
            refine WP_iinc (z := (x2 + 1)) (ls1 := [vR 56, vI v9, vI (x2 + 1)]) dX6_lullsNow_34 rfl (w32_id o11) (by decide) rfl ?_
            refine WP_goto (tgt := 8) dX6_lullsNow_37 (by decide) ?_
            exact ih8_ _ _ _ h.1 (by have := h.2; omega)
  have cut8_ : ∀ (x1 x2 : Int) (D : HP), I8 x1 x2 D → WP mX6_lullsNow Q 8 [vR 56, vI x1, vI x2] [] D := fun x1 x2 D hI => (IH (u8 x1 x2 D * 1 + 0 + 1)) x1 x2 D hI (by omega)
  refine WP_cD (fun hcD => ?_)
  have h := h0 hcD
  refine WP_aload_n (z := 56) dX6_lullsNow_0 rfl ?_
  obtain ⟨Q1, ct3, h⟩ := h
  refine WP_callV (g := mX6_runsTold) (as := []) (rest := []) (n := 0) dX6_lullsNow_1 wm_411 mo_X6_runsTold rfl rfl rfl rfl ⟨Nat.le_of_ble_eq_true rfl, Nat.le_of_ble_eq_true rfl⟩ (Nat.le_of_ble_eq_true rfl) ct3 (fun r_ D4 hq2 hok hD7 => ?_)
  obtain rfl := hok
  replace h := h D4 hq2 hD7
  show WP mX6_lullsNow Q 4 [vR 56, vU, vU] [] D4
  refine WP_iconst (z := 0) dX6_lullsNow_4 rfl ⟨by decide, by decide⟩ ?_
  refine WP_istore_n (ls1 := [vR 56, vI 0, vU]) dX6_lullsNow_5 (by decide) rfl ?_
  refine WP_iconst (z := 0) dX6_lullsNow_6 rfl ⟨by decide, by decide⟩ ?_
  refine WP_istore_n (ls1 := [vR 56, vI 0, vI 0]) dX6_lullsNow_7 (by decide) rfl ?_
  exact cut8_ _ _ _ h
set_option maxRecDepth 100000 in
set_option maxHeartbeats 4000000 in
theorem V_X6_lulls  {D : HP} {Q : Option MV → HP → Prop}
    (h0 : cD D → (∃ Q1 : Option MV → HP → Prop, CT mX6_lullsNow [vR 56] D Q1 ∧ ∀ (r5 : Int) (D4 : HP), Q1 (some (vI r5)) D4 → c32 r5 → cD D4 → (Q (some (vI r5)) D4)))
    : CT mX6_lulls [vR 56] D Q := by
  refine CT.of 0 (by decide) (Nat.le_of_ble_eq_true rfl) ?_
  show WP mX6_lulls Q 0 [vR 56] [] D
  refine WP_cD (fun hcD => ?_)
  have h := h0 hcD
  refine WP_aload_n (z := 56) dX6_lulls_0 rfl ?_
  obtain ⟨Q1, ct3, h⟩ := h
  refine WP_callV (g := mX6_lullsNow) (as := []) (rest := []) (n := 0) dX6_lulls_1 wm_529 mo_X6_lullsNow rfl rfl rfl rfl ⟨Nat.le_of_ble_eq_true rfl, Nat.le_of_ble_eq_true rfl⟩ (Nat.le_of_ble_eq_true rfl) ct3 (fun r_ D4 hq2 hok hD7 => ?_)
  obtain ⟨r5, rfl, hr6⟩ := hok
  replace h := h r5 D4 hq2 hr6 hD7
  show WP mX6_lulls Q 4 [vR 56] [vI r5] D4
  exact WP_ireturn dX6_lulls_4 rfl h
def fX6_isTaken (D : HP) (a b : Int) : Int := if exB (fun k => decide ((k : Int) ≠ b ∧ D 62 k = a)) (D 56 8).toNat then 1 else 0
def oX6_isTaken (D : HP) (a b : Int) : Prop := D 56 8 ≤ 9
theorem bfX6_isTaken (D : HP) (a : Int) (b : Int) : fX6_isTaken D a b = 0 ∨ fX6_isTaken D a b = 1 := by unfold fX6_isTaken; split <;> simp
set_option maxRecDepth 100000 in
set_option maxHeartbeats 4000000 in
theorem V_X6_isTaken (a : Int) (b : Int) {D : HP} {Q : Option MV → HP → Prop} (I5 : Int → Int → Int → Int → HP → Prop) (u5 : Int → Int → Int → Int → HP → Nat)
    (h0 : cD D → c32 a → c32 b → (I5 a b 0 0 D))
    (h5 : ∀ (x1 x2 x3 x4 : Int) (D : HP), I5 x1 x2 x3 x4 D → cD D → c32 x1 → c32 x2 → c32 x3 → c32 x4 → (((D 56 8) ≤ x4 → ((x3 = 0 ∨ x3 = 1) ∧ Q (some (vI x3)) D)) ∧ (¬ ((D 56 8) ≤ x4) → ((((x3 = 0) → (((x4 = x2) → True) ∧ (¬ (x4 = x2) → (0 ≤ x4 ∧ x4 < 9)))) ∧ (¬ (x3 = 0) → True)) ∧ ((c32 (x4 + 1)) ∧ (I5 x1 x2 (if x3 = 0 then ((if x4 = x2 then (0 : Int) else (if (D 62 x4.toNat) = x1 then (1 : Int) else 0)) : Int) else 1) (x4 + 1) D ∧ u5 x1 x2 (if x3 = 0 then ((if x4 = x2 then (0 : Int) else (if (D 62 x4.toNat) = x1 then (1 : Int) else 0)) : Int) else 1) (x4 + 1) D < u5 x1 x2 x3 x4 D))))))
    : CT mX6_isTaken [vR 56, vI a, vI b] D Q := by
  refine CT.of 2 (by decide) (Nat.le_of_ble_eq_true rfl) ?_
  show WP mX6_isTaken Q 0 [vR 56, vI a, vI b, vU, vU] [] D
  have IH : ∀ n : Nat, (∀ (x1 x2 x3 x4 : Int) (D : HP), I5 x1 x2 x3 x4 D → u5 x1 x2 x3 x4 D * 1 + 0 < n → WP mX6_isTaken Q 5 [vR 56, vI x1, vI x2, vI x3, vI x4] [] D) := by
    intro n
    induction n with
    | zero => exact fun _ _ _ _ _ _ h => absurd h (Nat.not_lt_zero _)
    | succ n ih =>
      have ih5_ := ih
      · intro x1 x2 x3 x4 D hI hn
        refine WP_cD (fun hcD => ?_)
        refine WP_cl (fun hcl => ?_)
        have h := h5 x1 x2 x3 x4 D hI hcD (cVs_g hcl (i := 1) (v := vI x1) rfl) (cVs_g hcl (i := 2) (v := vI x2) rfl) (cVs_g hcl (i := 3) (v := vI x3) rfl) (cVs_g hcl (i := 4) (v := vI x4) rfl)
        refine WP_iload (z := x4) dX6_isTaken_5 rfl ?_
        refine WP_aload_n (z := 56) dX6_isTaken_7 rfl ?_
        refine WP_getI dX6_isTaken_8 fl_RX6_112 rfl rfl rfl ?_
        refine WP_icmp_ge (tgt := 47) dX6_isTaken_11 (by decide) (fun c1 => ?_) (fun c1 => ?_)
        · replace h := h.1 c1
          refine WP_iload_n (z := x3) dX6_isTaken_47 rfl ?_
          exact WP_zreturn dX6_isTaken_48 rfl h.1 h.2
        · replace h := h.2 c1
          refine WP_iload_n (z := x3) dX6_isTaken_14 rfl ?_
          obtain ⟨o2, h⟩ := h
          refine WP_via (pc1 := 40) (ls1 := [vR 56, vI x1, vI x2, vI x3, vI x4]) (st1 := [vI (if x3 = 0 then ((if x4 = x2 then (0 : Int) else (if (D 62 x4.toNat) = x1 then (1 : Int) else 0)) : Int) else 1)]) (D1 := D) (fun hJ4 => ?_) ?_
          · refine WP_if_ne (tgt := 35) dX6_isTaken_15 (by decide) (fun c5 => ?_) (fun c5 => ?_)
            · replace hJ4 := ite_f (P := fun v_ : Int => WP mX6_isTaken Q 40 [vR 56, vI x1, vI x2, vI x3, vI x4] [vI v_] D) hJ4 c5
              have o13 := o2.2 c5
              refine WP_iconst (z := 1) dX6_isTaken_35 rfl ⟨by decide, by decide⟩ ?_
              refine WP_goto (tgt := 40) dX6_isTaken_36 (by decide) ?_
              exact hJ4
            · replace hJ4 := ite_t (P := fun v_ : Int => WP mX6_isTaken Q 40 [vR 56, vI x1, vI x2, vI x3, vI x4] [vI v_] D) hJ4 c5
              have o6 := o2.1 c5
              refine WP_iload (z := x4) dX6_isTaken_18 rfl ?_
              refine WP_iload_n (z := x2) dX6_isTaken_20 rfl ?_
              refine WP_via (pc1 := 40) (ls1 := [vR 56, vI x1, vI x2, vI x3, vI x4]) (st1 := [vI (if x4 = x2 then (0 : Int) else (if (D 62 x4.toNat) = x1 then (1 : Int) else 0))]) (D1 := D) (fun hJ7 => ?_) ?_
              · refine WP_icmp_eq (tgt := 39) dX6_isTaken_21 (by decide) (fun c8 => ?_) (fun c8 => ?_)
                · replace hJ7 := ite_t (P := fun v_ : Int => WP mX6_isTaken Q 40 [vR 56, vI x1, vI x2, vI x3, vI x4] [vI v_] D) hJ7 c8
                  have o9 := o6.1 c8
                  refine WP_iconst (z := 0) dX6_isTaken_39 rfl ⟨by decide, by decide⟩ ?_
                  exact hJ7
                · replace hJ7 := ite_f (P := fun v_ : Int => WP mX6_isTaken Q 40 [vR 56, vI x1, vI x2, vI x3, vI x4] [vI v_] D) hJ7 c8
                  have o10 := o6.2 c8
                  refine WP_aload_n (z := 56) dX6_isTaken_24 rfl ?_
                  refine WP_getR (z := 62) dX6_isTaken_25 fl_RX6_26 rfl rfl rfl ?_
                  refine WP_iload (z := x4) dX6_isTaken_28 rfl ?_
                  refine WP_iald dX6_isTaken_30 rfl o10.1 o10.2 rfl ?_
                  refine WP_iload_n (z := x1) dX6_isTaken_31 rfl ?_
                  refine WP_via (pc1 := 40) (ls1 := [vR 56, vI x1, vI x2, vI x3, vI x4]) (st1 := [vI (if (D 62 x4.toNat) = x1 then (1 : Int) else 0)]) (D1 := D) (fun hJ11 => ?_) ?_
                  · refine WP_icmp_ne (tgt := 39) dX6_isTaken_32 (by decide) (fun c12 => ?_) (fun c12 => ?_)
                    · replace hJ11 := ite_f (P := fun v_ : Int => WP mX6_isTaken Q 40 [vR 56, vI x1, vI x2, vI x3, vI x4] [vI v_] D) hJ11 c12
                      refine WP_iconst (z := 0) dX6_isTaken_39 rfl ⟨by decide, by decide⟩ ?_
                      exact hJ11
                    · replace hJ11 := ite_t (P := fun v_ : Int => WP mX6_isTaken Q 40 [vR 56, vI x1, vI x2, vI x3, vI x4] [vI v_] D) hJ11 c12
                      refine WP_iconst (z := 1) dX6_isTaken_35 rfl ⟨by decide, by decide⟩ ?_
                      refine WP_goto (tgt := 40) dX6_isTaken_36 (by decide) ?_
                      exact hJ11
                  exact hJ7
              exact hJ4
          · refine WP_istore_n (ls1 := [vR 56, vI x1, vI x2, vI (if x3 = 0 then ((if x4 = x2 then (0 : Int) else (if (D 62 x4.toNat) = x1 then (1 : Int) else 0)) : Int) else 1), vI x4]) dX6_isTaken_40 (by decide) rfl ?_
            obtain ⟨o3, h⟩ := h
            refine WP_iinc (z := (x4 + 1)) (ls1 := [vR 56, vI x1, vI x2, vI (if x3 = 0 then ((if x4 = x2 then (0 : Int) else (if (D 62 x4.toNat) = x1 then (1 : Int) else 0)) : Int) else 1), vI (x4 + 1)]) dX6_isTaken_41 rfl (w32_id o3) (by decide) rfl ?_
            refine WP_goto (tgt := 5) dX6_isTaken_44 (by decide) ?_
            exact ih5_ _ _ _ _ _ h.1 (by have := h.2; omega)
  have cut5_ : ∀ (x1 x2 x3 x4 : Int) (D : HP), I5 x1 x2 x3 x4 D → WP mX6_isTaken Q 5 [vR 56, vI x1, vI x2, vI x3, vI x4] [] D := fun x1 x2 x3 x4 D hI => (IH (u5 x1 x2 x3 x4 D * 1 + 0 + 1)) x1 x2 x3 x4 D hI (by omega)
  refine WP_cD (fun hcD => ?_)
  refine WP_cl (fun hcl => ?_)
  have h := h0 hcD (cVs_g hcl (i := 1) (v := vI a) rfl) (cVs_g hcl (i := 2) (v := vI b) rfl)
  refine WP_iconst (z := 0) dX6_isTaken_0 rfl ⟨by decide, by decide⟩ ?_
  refine WP_istore_n (ls1 := [vR 56, vI a, vI b, vI 0, vU]) dX6_isTaken_1 (by decide) rfl ?_
  refine WP_iconst (z := 0) dX6_isTaken_2 rfl ⟨by decide, by decide⟩ ?_
  refine WP_istore (ls1 := [vR 56, vI a, vI b, vI 0, vI 0]) dX6_isTaken_3 (by decide) rfl ?_
  exact cut5_ _ _ _ _ _ h
set_option maxRecDepth 100000 in
set_option maxHeartbeats 4000000 in
theorem P_X6_isTaken {a : Int} {b : Int} {D : HP} (hob : oX6_isTaken D a b) : CT mX6_isTaken [vR 56, vI a, vI b] D (PF (vI (fX6_isTaken D a b)) D) := by
  refine V_X6_isTaken a b (I5 := fun x1 x2 x3 x4 D' => D' = D ∧ x1 = a ∧ x2 = b ∧ ∃ j : Nat, x4 = j ∧ j ≤ (D 56 8).toNat ∧ x3 = if exB (fun k => decide ((k : Int) ≠ b ∧ D 62 k = a)) j then 1 else 0) (u5 := fun _ _ _ x4 D' => (D' 56 8 - x4).toNat) (fun _ _ _ => ⟨rfl, rfl, rfl, 0, rfl, Nat.zero_le _, rfl⟩) ?_
  rintro x1 x2 x3 x4 D' ⟨rfl, rfl, rfl, j, rfl, hj, h3⟩ hcD c1 c2 c3 c4
  unfold oX6_isTaken at hob
  refine ⟨fun hc => ⟨?_, ?_, rfl⟩, fun hc => ⟨?_, ?_, ⟨rfl, rfl, rfl, j + 1, by omega, by omega, ?_⟩, by omega⟩⟩
  · rw [h3]; split <;> simp
  · have : j = (D' 56 8).toNat := by omega
    subst this
    rw [h3]
    rfl
  · exact ⟨fun _ => ⟨fun _ => trivial, fun _ => by omega⟩, fun _ => trivial⟩
  · unfold c32 at *; omega
  · rw [h3]
    simp only [exB, Int.toNat_natCast]
    grind

set_option maxRecDepth 100000 in
set_option maxHeartbeats 4000000 in
theorem V_X6_standOf (a : Int) (b : Int) {D : HP} {Q : Option MV → HP → Prop} (I20 : Int → Int → Int → Int → Int → Int → HP → Prop) (u20 : Int → Int → Int → Int → Int → Int → HP → Nat)
    (h0 : cD D → c32 a → c32 b → (∃ Q1 : Option MV → HP → Prop, CT mX6_reads [vR 56] D Q1 ∧ ∀ (D4 : HP), Q1 none D4 → cD D4 → ((0 ≤ a ∧ a < 9) ∧ (I20 a b (D4 62 a.toNat) (-1) (-1) 0 D4))))
    (h20 : ∀ (x1 x2 x3 x4 x5 x6 : Int) (D : HP), I20 x1 x2 x3 x4 x5 x6 D → cD D → c32 x1 → c32 x2 → c32 x3 → c32 x4 → c32 x5 → c32 x6 → (((D 56 3) ≤ x6 → ((0 ≤ x1 ∧ x1 < 9) ∧ (∀ (E10 : HP), E10 = (hu D 62 x1.toNat x3) → (Q (some (vI (if x2 = 0 then (x4 : Int) else x5))) E10)))) ∧ (¬ ((D 56 3) ≤ x6) → ((0 ≤ x6 ∧ x6 < 26) ∧ (((D 59 x6.toNat) = 0 → ((oX6_isTaken D x6 x1) ∧ (((fX6_isTaken D x6 x1) = 0 → ((0 ≤ x1 ∧ x1 < 9) ∧ (∀ (E17 : HP), E17 = (hu D 62 x1.toNat x6) → (∃ Q19 : Option MV → HP → Prop, CT mX6_runs [vR 56] E17 Q19 ∧ ∀ (D22 : HP), Q19 none D22 → cD D22 → ((0 ≤ x1 ∧ x1 < 8) ∧ (((((D22 66 x1.toNat) = (-1)) → True) ∧ (¬ ((D22 66 x1.toNat) = (-1)) → (((x4 = (-1)) → True) ∧ (¬ (x4 = (-1)) → (0 ≤ x1 ∧ x1 < 8))))) ∧ (∀ (v27 : Int), v27 = (if (D22 66 x1.toNat) = (-1) then (0 : Int) else (if x4 = (-1) then (1 : Int) else (if x5 ≤ (D22 66 x1.toNat) then (0 : Int) else 1))) → ((((v27 = 0) → True) ∧ (¬ (v27 = 0) → (0 ≤ x1 ∧ x1 < 8))) ∧ (∀ (v30 : Int), v30 = (if v27 = 0 then (x5 : Int) else (D22 66 x1.toNat)) → ((c32 (x6 + 1)) ∧ (I20 x1 x2 x3 (if v27 = 0 then (x4 : Int) else x6) v30 (x6 + 1) D22 ∧ u20 x1 x2 x3 (if v27 = 0 then (x4 : Int) else x6) v30 (x6 + 1) D22 < u20 x1 x2 x3 x4 x5 x6 D))))))))))) ∧ (¬ ((fX6_isTaken D x6 x1) = 0) → ((c32 (x6 + 1)) ∧ (I20 x1 x2 x3 x4 x5 (x6 + 1) D ∧ u20 x1 x2 x3 x4 x5 (x6 + 1) D < u20 x1 x2 x3 x4 x5 x6 D)))))) ∧ (¬ ((D 59 x6.toNat) = 0) → ((c32 (x6 + 1)) ∧ (I20 x1 x2 x3 x4 x5 (x6 + 1) D ∧ u20 x1 x2 x3 x4 x5 (x6 + 1) D < u20 x1 x2 x3 x4 x5 x6 D))))))))
    : CT mX6_standOf [vR 56, vI a, vI b] D Q := by
  refine CT.of 5 (by decide) (Nat.le_of_ble_eq_true rfl) ?_
  show WP mX6_standOf Q 0 [vR 56, vI a, vI b, vU, vU, vU, vU, vU] [] D
  have IH : ∀ n : Nat, (∀ (x1 x2 x3 x4 x5 x6 : Int) (D : HP), I20 x1 x2 x3 x4 x5 x6 D → u20 x1 x2 x3 x4 x5 x6 D * 1 + 0 < n → WP mX6_standOf Q 20 [vR 56, vI x1, vI x2, vI x3, vI x4, vI x5, vI x6, vU] [] D) := by
    intro n
    induction n with
    | zero => exact fun _ _ _ _ _ _ _ _ h => absurd h (Nat.not_lt_zero _)
    | succ n ih =>
      have ih20_ := ih
      · intro x1 x2 x3 x4 x5 x6 D hI hn
        refine WP_cD (fun hcD => ?_)
        refine WP_cl (fun hcl => ?_)
        have h := h20 x1 x2 x3 x4 x5 x6 D hI hcD (cVs_g hcl (i := 1) (v := vI x1) rfl) (cVs_g hcl (i := 2) (v := vI x2) rfl) (cVs_g hcl (i := 3) (v := vI x3) rfl) (cVs_g hcl (i := 4) (v := vI x4) rfl) (cVs_g hcl (i := 5) (v := vI x5) rfl) (cVs_g hcl (i := 6) (v := vI x6) rfl)
        refine WP_iload (z := x6) dX6_standOf_20 rfl ?_
        refine WP_aload_n (z := 56) dX6_standOf_22 rfl ?_
        refine WP_getI dX6_standOf_23 fl_RX6_94 rfl rfl rfl ?_
        refine WP_icmp_ge (tgt := 133) dX6_standOf_26 (by decide) (fun c9 => ?_) (fun c9 => ?_)
        · replace h := h.1 c9
          refine WP_aload_n (z := 56) dX6_standOf_133 rfl ?_
          refine WP_getR (z := 62) dX6_standOf_134 fl_RX6_26 rfl rfl rfl ?_
          refine WP_iload_n (z := x1) dX6_standOf_137 rfl ?_
          refine WP_iload_n (z := x3) dX6_standOf_138 rfl ?_
          obtain ⟨o14, h⟩ := h
          refine WP_iast dX6_standOf_139 rfl o14.1 o14.2 ?_
          obtain ⟨E10, hE11⟩ : ∃ E10 : HP, E10 = (hu D 62 x1.toNat x3) := ⟨_, rfl⟩
          replace h := h E10 hE11
          show WP mX6_standOf Q 140 [vR 56, vI x1, vI x2, vI x3, vI x4, vI x5, vI x6, vU] [] (hu D 62 x1.toNat x3)
          rw [← hE11]
          refine WP_iload_n (z := x2) dX6_standOf_140 rfl ?_
          refine WP_via (pc1 := 151) (ls1 := [vR 56, vI x1, vI x2, vI x3, vI x4, vI x5, vI x6, vU]) (st1 := [vI (if x2 = 0 then (x4 : Int) else x5)]) (D1 := E10) (fun hJ12 => ?_) ?_
          · refine WP_if_ne (tgt := 149) dX6_standOf_141 (by decide) (fun c13 => ?_) (fun c13 => ?_)
            · replace hJ12 := ite_f (P := fun v_ : Int => WP mX6_standOf Q 151 [vR 56, vI x1, vI x2, vI x3, vI x4, vI x5, vI x6, vU] [vI v_] E10) hJ12 c13
              refine WP_iload (z := x5) dX6_standOf_149 rfl ?_
              exact hJ12
            · replace hJ12 := ite_t (P := fun v_ : Int => WP mX6_standOf Q 151 [vR 56, vI x1, vI x2, vI x3, vI x4, vI x5, vI x6, vU] [vI v_] E10) hJ12 c13
              refine WP_iload (z := x4) dX6_standOf_144 rfl ?_
              refine WP_goto (tgt := 151) dX6_standOf_146 (by decide) ?_
              exact hJ12
          · exact WP_ireturn dX6_standOf_151 rfl h
        · replace h := h.2 c9
          refine WP_aload_n (z := 56) dX6_standOf_29 rfl ?_
          refine WP_getR (z := 59) dX6_standOf_30 fl_RX6_16 rfl rfl rfl ?_
          refine WP_iload (z := x6) dX6_standOf_33 rfl ?_
          obtain ⟨o54, h⟩ := h
          refine WP_zald dX6_standOf_35 rfl o54.1 o54.2 rfl ?_
          refine WP_if_ne (tgt := 127) dX6_standOf_36 (by decide) (fun c15 => ?_) (fun c15 => ?_)
          · replace h := h.2 c15
            obtain ⟨o53, h⟩ := h
            refine WP_iinc (z := (x6 + 1)) (ls1 := [vR 56, vI x1, vI x2, vI x3, vI x4, vI x5, vI (x6 + 1), vU]) dX6_standOf_127 rfl (w32_id o53) (by decide) rfl ?_
            refine WP_goto (tgt := 20) dX6_standOf_130 (by decide) ?_
            exact ih20_ _ _ _ _ _ _ _ h.1 (by have := h.2; omega)
          · replace h := h.1 c15
            refine WP_aload_n (z := 56) dX6_standOf_39 rfl ?_
            refine WP_iload (z := x6) dX6_standOf_40 rfl ?_
            refine WP_iload_n (z := x1) dX6_standOf_42 rfl ?_
            obtain ⟨o52, h⟩ := h
            refine WP_pcallV (g := mX6_isTaken) (as := [vI x6, vI x1]) (rest := []) (n := 2) (r := vI (fX6_isTaken D x6 x1)) dX6_standOf_43 wm_562 mo_X6_isTaken rfl rfl rfl rfl ⟨Nat.le_of_ble_eq_true rfl, Nat.le_of_ble_eq_true rfl⟩ (Nat.le_of_ble_eq_true rfl) (P_X6_isTaken  o52) ?_
            refine WP_if_ne (tgt := 127) dX6_standOf_46 (by decide) (fun c16 => ?_) (fun c16 => ?_)
            · replace h := h.2 c16
              obtain ⟨o51, h⟩ := h
              refine WP_iinc (z := (x6 + 1)) (ls1 := [vR 56, vI x1, vI x2, vI x3, vI x4, vI x5, vI (x6 + 1), vU]) dX6_standOf_127 rfl (w32_id o51) (by decide) rfl ?_
              refine WP_goto (tgt := 20) dX6_standOf_130 (by decide) ?_
              exact ih20_ _ _ _ _ _ _ _ h.1 (by have := h.2; omega)
            · replace h := h.1 c16
              refine WP_aload_n (z := 56) dX6_standOf_49 rfl ?_
              refine WP_getR (z := 62) dX6_standOf_50 fl_RX6_26 rfl rfl rfl ?_
              refine WP_iload_n (z := x1) dX6_standOf_53 rfl ?_
              refine WP_iload (z := x6) dX6_standOf_54 rfl ?_
              obtain ⟨o50, h⟩ := h
              refine WP_iast dX6_standOf_56 rfl o50.1 o50.2 ?_
              obtain ⟨E17, hE18⟩ : ∃ E17 : HP, E17 = (hu D 62 x1.toNat x6) := ⟨_, rfl⟩
              replace h := h E17 hE18
              show WP mX6_standOf Q 57 [vR 56, vI x1, vI x2, vI x3, vI x4, vI x5, vI x6, vU] [] (hu D 62 x1.toNat x6)
              rw [← hE18]
              refine WP_aload_n (z := 56) dX6_standOf_57 rfl ?_
              obtain ⟨Q19, ct21, h⟩ := h
              refine WP_callV (g := mX6_runs) (as := []) (rest := []) (n := 0) dX6_standOf_58 wm_415 mo_X6_runs rfl rfl rfl rfl ⟨Nat.le_of_ble_eq_true rfl, Nat.le_of_ble_eq_true rfl⟩ (Nat.le_of_ble_eq_true rfl) ct21 (fun r_ D22 hq20 hok hD25 => ?_)
              obtain rfl := hok
              replace h := h D22 hq20 hD25
              show WP mX6_standOf Q 61 [vR 56, vI x1, vI x2, vI x3, vI x4, vI x5, vI x6, vU] [] D22
              refine WP_aload_n (z := 56) dX6_standOf_61 rfl ?_
              refine WP_getR (z := 66) dX6_standOf_62 fl_RX6_38 rfl rfl rfl ?_
              refine WP_iload_n (z := x1) dX6_standOf_65 rfl ?_
              obtain ⟨o49, h⟩ := h
              refine WP_iald dX6_standOf_66 rfl o49.1 o49.2 rfl ?_
              refine WP_iconst (z := (-1)) dX6_standOf_67 rfl ⟨by decide, by decide⟩ ?_
              obtain ⟨o26, h⟩ := h
              refine WP_via (pc1 := 93) (ls1 := [vR 56, vI x1, vI x2, vI x3, vI x4, vI x5, vI x6, vU]) (st1 := [vI (if (D22 66 x1.toNat) = (-1) then (0 : Int) else (if x4 = (-1) then (1 : Int) else (if x5 ≤ (D22 66 x1.toNat) then (0 : Int) else 1)))]) (D1 := D22) (fun hJ39 => ?_) ?_
              · refine WP_icmp_eq (tgt := 92) dX6_standOf_68 (by decide) (fun c40 => ?_) (fun c40 => ?_)
                · replace hJ39 := ite_t (P := fun v_ : Int => WP mX6_standOf Q 93 [vR 56, vI x1, vI x2, vI x3, vI x4, vI x5, vI x6, vU] [vI v_] D22) hJ39 c40
                  have o41 := o26.1 c40
                  refine WP_iconst (z := 0) dX6_standOf_92 rfl ⟨by decide, by decide⟩ ?_
                  exact hJ39
                · replace hJ39 := ite_f (P := fun v_ : Int => WP mX6_standOf Q 93 [vR 56, vI x1, vI x2, vI x3, vI x4, vI x5, vI x6, vU] [vI v_] D22) hJ39 c40
                  have o42 := o26.2 c40
                  refine WP_iload (z := x4) dX6_standOf_71 rfl ?_
                  refine WP_iconst (z := (-1)) dX6_standOf_73 rfl ⟨by decide, by decide⟩ ?_
                  refine WP_via (pc1 := 93) (ls1 := [vR 56, vI x1, vI x2, vI x3, vI x4, vI x5, vI x6, vU]) (st1 := [vI (if x4 = (-1) then (1 : Int) else (if x5 ≤ (D22 66 x1.toNat) then (0 : Int) else 1))]) (D1 := D22) (fun hJ43 => ?_) ?_
                  · refine WP_icmp_eq (tgt := 88) dX6_standOf_74 (by decide) (fun c44 => ?_) (fun c44 => ?_)
                    · replace hJ43 := ite_t (P := fun v_ : Int => WP mX6_standOf Q 93 [vR 56, vI x1, vI x2, vI x3, vI x4, vI x5, vI x6, vU] [vI v_] D22) hJ43 c44
                      have o45 := o42.1 c44
                      refine WP_iconst (z := 1) dX6_standOf_88 rfl ⟨by decide, by decide⟩ ?_
                      refine WP_goto (tgt := 93) dX6_standOf_89 (by decide) ?_
                      exact hJ43
                    · replace hJ43 := ite_f (P := fun v_ : Int => WP mX6_standOf Q 93 [vR 56, vI x1, vI x2, vI x3, vI x4, vI x5, vI x6, vU] [vI v_] D22) hJ43 c44
                      have o46 := o42.2 c44
                      refine WP_aload_n (z := 56) dX6_standOf_77 rfl ?_
                      refine WP_getR (z := 66) dX6_standOf_78 fl_RX6_38 rfl rfl rfl ?_
                      refine WP_iload_n (z := x1) dX6_standOf_81 rfl ?_
                      refine WP_iald dX6_standOf_82 rfl o46.1 o46.2 rfl ?_
                      refine WP_iload (z := x5) dX6_standOf_83 rfl ?_
                      refine WP_via (pc1 := 93) (ls1 := [vR 56, vI x1, vI x2, vI x3, vI x4, vI x5, vI x6, vU]) (st1 := [vI (if x5 ≤ (D22 66 x1.toNat) then (0 : Int) else 1)]) (D1 := D22) (fun hJ47 => ?_) ?_
                      · refine WP_icmp_ge (tgt := 92) dX6_standOf_85 (by decide) (fun c48 => ?_) (fun c48 => ?_)
                        · replace hJ47 := ite_t (P := fun v_ : Int => WP mX6_standOf Q 93 [vR 56, vI x1, vI x2, vI x3, vI x4, vI x5, vI x6, vU] [vI v_] D22) hJ47 c48
                          refine WP_iconst (z := 0) dX6_standOf_92 rfl ⟨by decide, by decide⟩ ?_
                          exact hJ47
                        · replace hJ47 := ite_f (P := fun v_ : Int => WP mX6_standOf Q 93 [vR 56, vI x1, vI x2, vI x3, vI x4, vI x5, vI x6, vU] [vI v_] D22) hJ47 c48
                          refine WP_iconst (z := 1) dX6_standOf_88 rfl ⟨by decide, by decide⟩ ?_
                          refine WP_goto (tgt := 93) dX6_standOf_89 (by decide) ?_
                          exact hJ47
                      exact hJ43
                  exact hJ39
              · refine WP_istore (ls1 := [vR 56, vI x1, vI x2, vI x3, vI x4, vI x5, vI x6, vI (if (D22 66 x1.toNat) = (-1) then (0 : Int) else (if x4 = (-1) then (1 : Int) else (if x5 ≤ (D22 66 x1.toNat) then (0 : Int) else 1)))]) dX6_standOf_93 (by decide) rfl ?_
                obtain ⟨v27, hv28⟩ : ∃ v27 : Int, v27 = (if (D22 66 x1.toNat) = (-1) then (0 : Int) else (if x4 = (-1) then (1 : Int) else (if x5 ≤ (D22 66 x1.toNat) then (0 : Int) else 1))) := ⟨_, rfl⟩
                replace h := h v27 hv28
                rw [← hv28]
                refine WP_iload (z := v27) dX6_standOf_95 rfl ?_
                refine WP_via (pc1 := 107) (ls1 := [vR 56, vI x1, vI x2, vI x3, vI x4, vI x5, vI x6, vI v27]) (st1 := [vI (if v27 = 0 then (x4 : Int) else x6)]) (D1 := D22) (fun hJ37 => ?_) ?_
                · refine WP_if_eq (tgt := 105) dX6_standOf_97 (by decide) (fun c38 => ?_) (fun c38 => ?_)
                  · replace hJ37 := ite_t (P := fun v_ : Int => WP mX6_standOf Q 107 [vR 56, vI x1, vI x2, vI x3, vI x4, vI x5, vI x6, vI v27] [vI v_] D22) hJ37 c38
                    refine WP_iload (z := x4) dX6_standOf_105 rfl ?_
                    exact hJ37
                  · replace hJ37 := ite_f (P := fun v_ : Int => WP mX6_standOf Q 107 [vR 56, vI x1, vI x2, vI x3, vI x4, vI x5, vI x6, vI v27] [vI v_] D22) hJ37 c38
                    refine WP_iload (z := x6) dX6_standOf_100 rfl ?_
                    refine WP_goto (tgt := 107) dX6_standOf_102 (by decide) ?_
                    exact hJ37
                · refine WP_istore (ls1 := [vR 56, vI x1, vI x2, vI x3, vI (if v27 = 0 then (x4 : Int) else x6), vI x5, vI x6, vI v27]) dX6_standOf_107 (by decide) rfl ?_
                  refine WP_iload (z := v27) dX6_standOf_109 rfl ?_
                  obtain ⟨o29, h⟩ := h
                  refine WP_via (pc1 := 125) (ls1 := [vR 56, vI x1, vI x2, vI x3, vI (if v27 = 0 then (x4 : Int) else x6), vI x5, vI x6, vI v27]) (st1 := [vI (if v27 = 0 then (x5 : Int) else (D22 66 x1.toNat))]) (D1 := D22) (fun hJ33 => ?_) ?_
                  · refine WP_if_eq (tgt := 123) dX6_standOf_111 (by decide) (fun c34 => ?_) (fun c34 => ?_)
                    · replace hJ33 := ite_t (P := fun v_ : Int => WP mX6_standOf Q 125 [vR 56, vI x1, vI x2, vI x3, vI (if v27 = 0 then (x4 : Int) else x6), vI x5, vI x6, vI v27] [vI v_] D22) hJ33 c34
                      have o35 := o29.1 c34
                      refine WP_iload (z := x5) dX6_standOf_123 rfl ?_
                      exact hJ33
                    · replace hJ33 := ite_f (P := fun v_ : Int => WP mX6_standOf Q 125 [vR 56, vI x1, vI x2, vI x3, vI (if v27 = 0 then (x4 : Int) else x6), vI x5, vI x6, vI v27] [vI v_] D22) hJ33 c34
                      have o36 := o29.2 c34
                      refine WP_aload_n (z := 56) dX6_standOf_114 rfl ?_
                      refine WP_getR (z := 66) dX6_standOf_115 fl_RX6_38 rfl rfl rfl ?_
                      refine WP_iload_n (z := x1) dX6_standOf_118 rfl ?_
                      refine WP_iald dX6_standOf_119 rfl o36.1 o36.2 rfl ?_
                      refine WP_goto (tgt := 125) dX6_standOf_120 (by decide) ?_
                      exact hJ33
                  · refine WP_istore (ls1 := [vR 56, vI x1, vI x2, vI x3, vI (if v27 = 0 then (x4 : Int) else x6), vI (if v27 = 0 then (x5 : Int) else (D22 66 x1.toNat)), vI x6, vI v27]) dX6_standOf_125 (by decide) rfl ?_
                    obtain ⟨v30, hv31⟩ : ∃ v30 : Int, v30 = (if v27 = 0 then (x5 : Int) else (D22 66 x1.toNat)) := ⟨_, rfl⟩
                    replace h := h v30 hv31
                    rw [← hv31]
                    obtain ⟨o32, h⟩ := h
                    refine WP_iinc (z := (x6 + 1)) (ls1 := [vR 56, vI x1, vI x2, vI x3, vI (if v27 = 0 then (x4 : Int) else x6), vI v30, vI (x6 + 1), vI v27]) dX6_standOf_127 rfl (w32_id o32) (by decide) rfl ?_
                    refine WP_goto (tgt := 20) dX6_standOf_130 (by decide) ?_
                    refine WP_fg 7 (ls1 := [vR 56, vI x1, vI x2, vI x3, vI (if v27 = 0 then (x4 : Int) else x6), vI v30, vI (x6 + 1), vU]) rfl ?_
                    exact ih20_ _ _ _ _ _ _ _ h.1 (by have := h.2; omega)
  have cut20_ : ∀ (x1 x2 x3 x4 x5 x6 : Int) (D : HP), I20 x1 x2 x3 x4 x5 x6 D → WP mX6_standOf Q 20 [vR 56, vI x1, vI x2, vI x3, vI x4, vI x5, vI x6, vU] [] D := fun x1 x2 x3 x4 x5 x6 D hI => (IH (u20 x1 x2 x3 x4 x5 x6 D * 1 + 0 + 1)) x1 x2 x3 x4 x5 x6 D hI (by omega)
  refine WP_cD (fun hcD => ?_)
  refine WP_cl (fun hcl => ?_)
  have h := h0 hcD (cVs_g hcl (i := 1) (v := vI a) rfl) (cVs_g hcl (i := 2) (v := vI b) rfl)
  refine WP_aload_n (z := 56) dX6_standOf_0 rfl ?_
  obtain ⟨Q1, ct3, h⟩ := h
  refine WP_callV (g := mX6_reads) (as := []) (rest := []) (n := 0) dX6_standOf_1 wm_343 mo_X6_reads rfl rfl rfl rfl ⟨Nat.le_of_ble_eq_true rfl, Nat.le_of_ble_eq_true rfl⟩ (Nat.le_of_ble_eq_true rfl) ct3 (fun r_ D4 hq2 hok hD7 => ?_)
  obtain rfl := hok
  replace h := h D4 hq2 hD7
  show WP mX6_standOf Q 4 [vR 56, vI a, vI b, vU, vU, vU, vU, vU] [] D4
  refine WP_aload_n (z := 56) dX6_standOf_4 rfl ?_
  refine WP_getR (z := 62) dX6_standOf_5 fl_RX6_26 rfl rfl rfl ?_
  refine WP_iload_n (z := a) dX6_standOf_8 rfl ?_
  obtain ⟨o8, h⟩ := h
  refine WP_iald dX6_standOf_9 rfl o8.1 o8.2 rfl ?_
  refine WP_istore_n (ls1 := [vR 56, vI a, vI b, vI (D4 62 a.toNat), vU, vU, vU, vU]) dX6_standOf_10 (by decide) rfl ?_
  refine WP_iconst (z := (-1)) dX6_standOf_11 rfl ⟨by decide, by decide⟩ ?_
  refine WP_istore (ls1 := [vR 56, vI a, vI b, vI (D4 62 a.toNat), vI (-1), vU, vU, vU]) dX6_standOf_12 (by decide) rfl ?_
  refine WP_iconst (z := (-1)) dX6_standOf_14 rfl ⟨by decide, by decide⟩ ?_
  refine WP_istore (ls1 := [vR 56, vI a, vI b, vI (D4 62 a.toNat), vI (-1), vI (-1), vU, vU]) dX6_standOf_15 (by decide) rfl ?_
  refine WP_iconst (z := 0) dX6_standOf_17 rfl ⟨by decide, by decide⟩ ?_
  refine WP_istore (ls1 := [vR 56, vI a, vI b, vI (D4 62 a.toNat), vI (-1), vI (-1), vI 0, vU]) dX6_standOf_18 (by decide) rfl ?_
  exact cut20_ _ _ _ _ _ _ _ h
set_option maxRecDepth 100000 in
set_option maxHeartbeats 4000000 in
theorem V_X6_stand (a : Int) (b : Int) {D : HP} {Q : Option MV → HP → Prop}
    (h0 : cD D → c32 a → c32 b → (∃ Q1 : Option MV → HP → Prop, CT mX6_isCandidate [vR 56, vI a] D Q1 ∧ ∀ (r5 : Int) (D4 : HP), Q1 (some (vI r5)) D4 → c32 r5 → cD D4 → ((r5 = 0 → (Q (some (vI (-2))) D4)) ∧ (¬ (r5 = 0) → (((fX6_within D4 b 0 1) = 0 → (Q (some (vI (-2))) D4)) ∧ (¬ ((fX6_within D4 b 0 1) = 0) → (∃ Q10 : Option MV → HP → Prop, CT mX6_standOf [vR 56, vI a, vI b] D4 Q10 ∧ ∀ (r14 : Int) (D13 : HP), Q10 (some (vI r14)) D13 → c32 r14 → cD D13 → (Q (some (vI r14)) D13))))))))
    : CT mX6_stand [vR 56, vI a, vI b] D Q := by
  refine CT.of 0 (by decide) (Nat.le_of_ble_eq_true rfl) ?_
  show WP mX6_stand Q 0 [vR 56, vI a, vI b] [] D
  refine WP_cD (fun hcD => ?_)
  refine WP_cl (fun hcl => ?_)
  have h := h0 hcD (cVs_g hcl (i := 1) (v := vI a) rfl) (cVs_g hcl (i := 2) (v := vI b) rfl)
  refine WP_aload_n (z := 56) dX6_stand_0 rfl ?_
  refine WP_iload_n (z := a) dX6_stand_1 rfl ?_
  obtain ⟨Q1, ct3, h⟩ := h
  refine WP_callV (g := mX6_isCandidate) (as := [vI a]) (rest := []) (n := 1) dX6_stand_2 wm_386 mo_X6_isCandidate rfl rfl rfl rfl ⟨Nat.le_of_ble_eq_true rfl, Nat.le_of_ble_eq_true rfl⟩ (Nat.le_of_ble_eq_true rfl) ct3 (fun r_ D4 hq2 hok hD7 => ?_)
  obtain ⟨r5, rfl, hr6⟩ := hok
  replace h := h r5 D4 hq2 hr6 hD7
  show WP mX6_stand Q 5 [vR 56, vI a, vI b] [vI r5] D4
  refine WP_if_eq (tgt := 26) dX6_stand_5 (by decide) (fun c8 => ?_) (fun c8 => ?_)
  · replace h := h.1 c8
    refine WP_bipush (z := (-2)) dX6_stand_26 rfl (by decide) ?_
    exact WP_ireturn dX6_stand_28 rfl h
  · replace h := h.2 c8
    refine WP_iload_n (z := b) dX6_stand_8 rfl ?_
    refine WP_iconst (z := 0) dX6_stand_9 rfl ⟨by decide, by decide⟩ ?_
    refine WP_iconst (z := 1) dX6_stand_10 rfl ⟨by decide, by decide⟩ ?_
    refine WP_pcallS (g := mX6_within) (as := [vI b, vI 0, vI 1]) (rest := []) (n := 3) (r := vI (fX6_within D4 b 0 1)) dX6_stand_11 wm_262 mo_X6_within rfl rfl ⟨Nat.le_of_ble_eq_true rfl, Nat.le_of_ble_eq_true rfl⟩ (Nat.le_of_ble_eq_true rfl) (P_X6_within  trivial) ?_
    refine WP_if_eq (tgt := 26) dX6_stand_14 (by decide) (fun c9 => ?_) (fun c9 => ?_)
    · replace h := h.1 c9
      refine WP_bipush (z := (-2)) dX6_stand_26 rfl (by decide) ?_
      exact WP_ireturn dX6_stand_28 rfl h
    · replace h := h.2 c9
      refine WP_aload_n (z := 56) dX6_stand_17 rfl ?_
      refine WP_iload_n (z := a) dX6_stand_18 rfl ?_
      refine WP_iload_n (z := b) dX6_stand_19 rfl ?_
      obtain ⟨Q10, ct12, h⟩ := h
      refine WP_callV (g := mX6_standOf) (as := [vI a, vI b]) (rest := []) (n := 2) dX6_stand_20 wm_558 mo_X6_standOf rfl rfl rfl rfl ⟨Nat.le_of_ble_eq_true rfl, Nat.le_of_ble_eq_true rfl⟩ (Nat.le_of_ble_eq_true rfl) ct12 (fun r_ D13 hq11 hok hD16 => ?_)
      obtain ⟨r14, rfl, hr15⟩ := hok
      replace h := h r14 D13 hq11 hr15 hD16
      show WP mX6_stand Q 23 [vR 56, vI a, vI b] [vI r14] D13
      refine WP_goto (tgt := 28) dX6_stand_23 (by decide) ?_
      exact WP_ireturn dX6_stand_28 rfl h
set_option maxRecDepth 100000 in
set_option maxHeartbeats 4000000 in
theorem V_X6_doesStay (a : Int) (b : Int) (c : Int) {D : HP} {Q : Option MV → HP → Prop}
    (h0 : cD D → c32 a → c32 b → c32 c → ((0 ≤ b ∧ b < 9) ∧ ((0 ≤ b ∧ b < 9) ∧ (∀ (E1 : HP), E1 = (hu D 62 b.toNat c) → (∃ Q3 : Option MV → HP → Prop, CT mX6_runs [vR 56] E1 Q3 ∧ ∀ (D6 : HP), Q3 none D6 → cD D6 → ((0 ≤ b ∧ b < 9) ∧ (∀ (E10 : HP), E10 = (hu D6 62 b.toNat (D 62 b.toNat)) → ((0 ≤ a ∧ a < 8) ∧ (Q (some (vI (if (E10 66 a.toNat) = (-1) then (1 : Int) else 0))) E10)))))))))
    : CT mX6_doesStay [vR 56, vI a, vI b, vI c] D Q := by
  refine CT.of 1 (by decide) (Nat.le_of_ble_eq_true rfl) ?_
  show WP mX6_doesStay Q 0 [vR 56, vI a, vI b, vI c, vU] [] D
  refine WP_cD (fun hcD => ?_)
  refine WP_cl (fun hcl => ?_)
  have h := h0 hcD (cVs_g hcl (i := 1) (v := vI a) rfl) (cVs_g hcl (i := 2) (v := vI b) rfl) (cVs_g hcl (i := 3) (v := vI c) rfl)
  refine WP_aload_n (z := 56) dX6_doesStay_0 rfl ?_
  refine WP_getR (z := 62) dX6_doesStay_1 fl_RX6_26 rfl rfl rfl ?_
  refine WP_iload_n (z := b) dX6_doesStay_4 rfl ?_
  obtain ⟨o17, h⟩ := h
  refine WP_iald dX6_doesStay_5 rfl o17.1 o17.2 rfl ?_
  refine WP_istore (ls1 := [vR 56, vI a, vI b, vI c, vI (D 62 b.toNat)]) dX6_doesStay_6 (by decide) rfl ?_
  refine WP_aload_n (z := 56) dX6_doesStay_8 rfl ?_
  refine WP_getR (z := 62) dX6_doesStay_9 fl_RX6_26 rfl rfl rfl ?_
  refine WP_iload_n (z := b) dX6_doesStay_12 rfl ?_
  refine WP_iload_n (z := c) dX6_doesStay_13 rfl ?_
  obtain ⟨o16, h⟩ := h
  refine WP_iast dX6_doesStay_14 rfl o16.1 o16.2 ?_
  obtain ⟨E1, hE2⟩ : ∃ E1 : HP, E1 = (hu D 62 b.toNat c) := ⟨_, rfl⟩
  replace h := h E1 hE2
  show WP mX6_doesStay Q 15 [vR 56, vI a, vI b, vI c, vI (D 62 b.toNat)] [] (hu D 62 b.toNat c)
  rw [← hE2]
  refine WP_aload_n (z := 56) dX6_doesStay_15 rfl ?_
  obtain ⟨Q3, ct5, h⟩ := h
  refine WP_callV (g := mX6_runs) (as := []) (rest := []) (n := 0) dX6_doesStay_16 wm_415 mo_X6_runs rfl rfl rfl rfl ⟨Nat.le_of_ble_eq_true rfl, Nat.le_of_ble_eq_true rfl⟩ (Nat.le_of_ble_eq_true rfl) ct5 (fun r_ D6 hq4 hok hD9 => ?_)
  obtain rfl := hok
  replace h := h D6 hq4 hD9
  show WP mX6_doesStay Q 19 [vR 56, vI a, vI b, vI c, vI (D 62 b.toNat)] [] D6
  refine WP_aload_n (z := 56) dX6_doesStay_19 rfl ?_
  refine WP_getR (z := 62) dX6_doesStay_20 fl_RX6_26 rfl rfl rfl ?_
  refine WP_iload_n (z := b) dX6_doesStay_23 rfl ?_
  refine WP_iload (z := (D 62 b.toNat)) dX6_doesStay_24 rfl ?_
  obtain ⟨o15, h⟩ := h
  refine WP_iast dX6_doesStay_26 rfl o15.1 o15.2 ?_
  obtain ⟨E10, hE11⟩ : ∃ E10 : HP, E10 = (hu D6 62 b.toNat (D 62 b.toNat)) := ⟨_, rfl⟩
  replace h := h E10 hE11
  show WP mX6_doesStay Q 27 [vR 56, vI a, vI b, vI c, vI (D 62 b.toNat)] [] (hu D6 62 b.toNat (D 62 b.toNat))
  rw [← hE11]
  refine WP_aload_n (z := 56) dX6_doesStay_27 rfl ?_
  refine WP_getR (z := 66) dX6_doesStay_28 fl_RX6_38 rfl rfl rfl ?_
  refine WP_iload_n (z := a) dX6_doesStay_31 rfl ?_
  obtain ⟨o14, h⟩ := h
  refine WP_iald dX6_doesStay_32 rfl o14.1 o14.2 rfl ?_
  refine WP_iconst (z := (-1)) dX6_doesStay_33 rfl ⟨by decide, by decide⟩ ?_
  refine WP_via (pc1 := 42) (ls1 := [vR 56, vI a, vI b, vI c, vI (D 62 b.toNat)]) (st1 := [vI (if (E10 66 a.toNat) = (-1) then (1 : Int) else 0)]) (D1 := E10) (fun hJ12 => ?_) ?_
  · refine WP_icmp_ne (tgt := 41) dX6_doesStay_34 (by decide) (fun c13 => ?_) (fun c13 => ?_)
    · replace hJ12 := ite_f (P := fun v_ : Int => WP mX6_doesStay Q 42 [vR 56, vI a, vI b, vI c, vI (D 62 b.toNat)] [vI v_] E10) hJ12 c13
      refine WP_iconst (z := 0) dX6_doesStay_41 rfl ⟨by decide, by decide⟩ ?_
      exact hJ12
    · replace hJ12 := ite_t (P := fun v_ : Int => WP mX6_doesStay Q 42 [vR 56, vI a, vI b, vI c, vI (D 62 b.toNat)] [vI v_] E10) hJ12 c13
      refine WP_iconst (z := 1) dX6_doesStay_37 rfl ⟨by decide, by decide⟩ ?_
      refine WP_goto (tgt := 42) dX6_doesStay_38 (by decide) ?_
      exact hJ12
  · exact WP_zreturn dX6_doesStay_42 rfl (bool_ite (Or.inr rfl) (Or.inl rfl)) h
set_option maxRecDepth 100000 in
set_option maxHeartbeats 4000000 in
theorem V_X6_shieldOf (a : Int) {D : HP} {Q : Option MV → HP → Prop} (I19 : Int → Int → HP → Prop) (u19 : Int → Int → HP → Nat) (I29 : Int → Int → Int → HP → Prop) (u29 : Int → Int → Int → HP → Nat)
    (h0 : cD D → c32 a → (∃ Q1 : Option MV → HP → Prop, CT mX6_runsTold [vR 56] D Q1 ∧ ∀ (D4 : HP), Q1 none D4 → cD D4 → ((0 ≤ a ∧ a < 8) ∧ (((D4 66 a.toNat) = (-1) → (Q (some (vI (-3))) D4)) ∧ (¬ ((D4 66 a.toNat) = (-1)) → (I19 a 0 D4))))))
    (h19 : ∀ (x1 x2 : Int) (D : HP), I19 x1 x2 D → cD D → c32 x1 → c32 x2 → (((D 56 8) ≤ x2 → (Q (some (vI (-1))) D)) ∧ (¬ ((D 56 8) ≤ x2) → (I29 x1 x2 0 D ∧ u29 x1 x2 0 D ≤ u19 x1 x2 D))))
    (h29 : ∀ (x1 x2 x3 : Int) (D : HP), I29 x1 x2 x3 D → cD D → c32 x1 → c32 x2 → c32 x3 → (((D 56 3) ≤ x3 → ((c32 (x2 + 1)) ∧ (I19 x1 (x2 + 1) D ∧ u19 x1 (x2 + 1) D < u29 x1 x2 x3 D))) ∧ (¬ ((D 56 3) ≤ x3) → ((x2 = x1 → ((c32 (x3 + 1)) ∧ (I29 x1 x2 (x3 + 1) D ∧ u29 x1 x2 (x3 + 1) D < u29 x1 x2 x3 D))) ∧ (¬ (x2 = x1) → ((0 ≤ x3 ∧ x3 < 26) ∧ (((D 59 x3.toNat) = 0 → ((oX6_isTaken D x3 (-1)) ∧ (((fX6_isTaken D x3 (-1)) = 0 → (∃ Q17 : Option MV → HP → Prop, CT mX6_doesStay [vR 56, vI x1, vI x2, vI x3] D Q17 ∧ ∀ (r21 : Int) (D20 : HP), Q17 (some (vI r21)) D20 → c32 r21 → cD D20 → ((r21 = 0 → ((c32 (x3 + 1)) ∧ (I29 x1 x2 (x3 + 1) D20 ∧ u29 x1 x2 (x3 + 1) D20 < u29 x1 x2 x3 D))) ∧ (¬ (r21 = 0) → ((c32 (32 * x2)) ∧ ((c32 ((32 * x2) + x3)) ∧ (Q (some (vI ((32 * x2) + x3))) D20))))))) ∧ (¬ ((fX6_isTaken D x3 (-1)) = 0) → ((c32 (x3 + 1)) ∧ (I29 x1 x2 (x3 + 1) D ∧ u29 x1 x2 (x3 + 1) D < u29 x1 x2 x3 D)))))) ∧ (¬ ((D 59 x3.toNat) = 0) → ((c32 (x3 + 1)) ∧ (I29 x1 x2 (x3 + 1) D ∧ u29 x1 x2 (x3 + 1) D < u29 x1 x2 x3 D))))))))))
    : CT mX6_shieldOf [vR 56, vI a] D Q := by
  refine CT.of 2 (by decide) (Nat.le_of_ble_eq_true rfl) ?_
  show WP mX6_shieldOf Q 0 [vR 56, vI a, vU, vU] [] D
  have IH : ∀ n : Nat, (∀ (x1 x2 : Int) (D : HP), I19 x1 x2 D → u19 x1 x2 D * 2 + 1 < n → WP mX6_shieldOf Q 19 [vR 56, vI x1, vI x2, vU] [] D) ∧ (∀ (x1 x2 x3 : Int) (D : HP), I29 x1 x2 x3 D → u29 x1 x2 x3 D * 2 + 0 < n → WP mX6_shieldOf Q 29 [vR 56, vI x1, vI x2, vI x3] [] D) := by
    intro n
    induction n with
    | zero => exact ⟨fun _ _ _ _ h => absurd h (Nat.not_lt_zero _), fun _ _ _ _ _ h => absurd h (Nat.not_lt_zero _)⟩
    | succ n ih =>
      have ih19_ := ih.1
      have ih29_ := ih.2
      refine ⟨?_, ?_⟩
      · intro x1 x2 D hI hn
        refine WP_cD (fun hcD => ?_)
        refine WP_cl (fun hcl => ?_)
        have h := h19 x1 x2 D hI hcD (cVs_g hcl (i := 1) (v := vI x1) rfl) (cVs_g hcl (i := 2) (v := vI x2) rfl)
        refine WP_iload_n (z := x2) dX6_shieldOf_19 rfl ?_
        refine WP_aload_n (z := 56) dX6_shieldOf_20 rfl ?_
        refine WP_getI dX6_shieldOf_21 fl_RX6_112 rfl rfl rfl ?_
        refine WP_icmp_ge (tgt := 89) dX6_shieldOf_24 (by decide) (fun c10 => ?_) (fun c10 => ?_)
        · replace h := h.1 c10
          refine WP_iconst (z := (-1)) dX6_shieldOf_89 rfl ⟨by decide, by decide⟩ ?_
          exact WP_ireturn dX6_shieldOf_90 rfl h
        · replace h := h.2 c10
          refine WP_iconst (z := 0) dX6_shieldOf_27 rfl ⟨by decide, by decide⟩ ?_
          refine WP_istore_n (ls1 := [vR 56, vI x1, vI x2, vI 0]) dX6_shieldOf_28 (by decide) rfl ?_
          exact ih29_ _ _ _ _ h.1 (by have := h.2; omega)
      · intro x1 x2 x3 D hI hn
        refine WP_cD (fun hcD => ?_)
        refine WP_cl (fun hcl => ?_)
        have h := h29 x1 x2 x3 D hI hcD (cVs_g hcl (i := 1) (v := vI x1) rfl) (cVs_g hcl (i := 2) (v := vI x2) rfl) (cVs_g hcl (i := 3) (v := vI x3) rfl)
        refine WP_iload_n (z := x3) dX6_shieldOf_29 rfl ?_
        refine WP_aload_n (z := 56) dX6_shieldOf_30 rfl ?_
        refine WP_getI dX6_shieldOf_31 fl_RX6_94 rfl rfl rfl ?_
        refine WP_icmp_ge (tgt := 83) dX6_shieldOf_34 (by decide) (fun c11 => ?_) (fun c11 => ?_)
        · replace h := h.1 c11
          obtain ⟨o12, h⟩ := h
          refine WP_iinc (z := (x2 + 1)) (ls1 := [vR 56, vI x1, vI (x2 + 1), vI x3]) dX6_shieldOf_83 rfl (w32_id o12) (by decide) rfl ?_
          refine WP_goto (tgt := 19) dX6_shieldOf_86 (by decide) ?_
          refine WP_fg 3 (ls1 := [vR 56, vI x1, vI (x2 + 1), vU]) rfl ?_
          exact ih19_ _ _ _ h.1 (by have := h.2; omega)
        · replace h := h.2 c11
          refine WP_iload_n (z := x2) dX6_shieldOf_37 rfl ?_
          refine WP_iload_n (z := x1) dX6_shieldOf_38 rfl ?_
          refine WP_icmp_eq (tgt := 77) dX6_shieldOf_39 (by decide) (fun c13 => ?_) (fun c13 => ?_)
          · replace h := h.1 c13
            obtain ⟨o14, h⟩ := h
            refine WP_iinc (z := (x3 + 1)) (ls1 := [vR 56, vI x1, vI x2, vI (x3 + 1)]) dX6_shieldOf_77 rfl (w32_id o14) (by decide) rfl ?_
            refine WP_goto (tgt := 29) dX6_shieldOf_80 (by decide) ?_
            exact ih29_ _ _ _ _ h.1 (by have := h.2; omega)
          · replace h := h.2 c13
            refine WP_aload_n (z := 56) dX6_shieldOf_42 rfl ?_
            refine WP_getR (z := 59) dX6_shieldOf_43 fl_RX6_16 rfl rfl rfl ?_
            refine WP_iload_n (z := x3) dX6_shieldOf_46 rfl ?_
            obtain ⟨o31, h⟩ := h
            refine WP_zald dX6_shieldOf_47 rfl o31.1 o31.2 rfl ?_
            refine WP_if_ne (tgt := 77) dX6_shieldOf_48 (by decide) (fun c15 => ?_) (fun c15 => ?_)
            · replace h := h.2 c15
              obtain ⟨o30, h⟩ := h
              refine WP_iinc (z := (x3 + 1)) (ls1 := [vR 56, vI x1, vI x2, vI (x3 + 1)]) dX6_shieldOf_77 rfl (w32_id o30) (by decide) rfl ?_
              refine WP_goto (tgt := 29) dX6_shieldOf_80 (by decide) ?_
              exact ih29_ _ _ _ _ h.1 (by have := h.2; omega)
            · replace h := h.1 c15
              refine WP_aload_n (z := 56) dX6_shieldOf_51 rfl ?_
              refine WP_iload_n (z := x3) dX6_shieldOf_52 rfl ?_
              refine WP_iconst (z := (-1)) dX6_shieldOf_53 rfl ⟨by decide, by decide⟩ ?_
              obtain ⟨o29, h⟩ := h
              refine WP_pcallV (g := mX6_isTaken) (as := [vI x3, vI (-1)]) (rest := []) (n := 2) (r := vI (fX6_isTaken D x3 (-1))) dX6_shieldOf_54 wm_562 mo_X6_isTaken rfl rfl rfl rfl ⟨Nat.le_of_ble_eq_true rfl, Nat.le_of_ble_eq_true rfl⟩ (Nat.le_of_ble_eq_true rfl) (P_X6_isTaken  o29) ?_
              refine WP_if_ne (tgt := 77) dX6_shieldOf_57 (by decide) (fun c16 => ?_) (fun c16 => ?_)
              · replace h := h.2 c16
                obtain ⟨o28, h⟩ := h
                refine WP_iinc (z := (x3 + 1)) (ls1 := [vR 56, vI x1, vI x2, vI (x3 + 1)]) dX6_shieldOf_77 rfl (w32_id o28) (by decide) rfl ?_
                refine WP_goto (tgt := 29) dX6_shieldOf_80 (by decide) ?_
                exact ih29_ _ _ _ _ h.1 (by have := h.2; omega)
              · replace h := h.1 c16
                refine WP_aload_n (z := 56) dX6_shieldOf_60 rfl ?_
                refine WP_iload_n (z := x1) dX6_shieldOf_61 rfl ?_
                refine WP_iload_n (z := x2) dX6_shieldOf_62 rfl ?_
                refine WP_iload_n (z := x3) dX6_shieldOf_63 rfl ?_
                obtain ⟨Q17, ct19, h⟩ := h
                refine WP_callV (g := mX6_doesStay) (as := [vI x1, vI x2, vI x3]) (rest := []) (n := 3) dX6_shieldOf_64 wm_586 mo_X6_doesStay rfl rfl rfl rfl ⟨Nat.le_of_ble_eq_true rfl, Nat.le_of_ble_eq_true rfl⟩ (Nat.le_of_ble_eq_true rfl) ct19 (fun r_ D20 hq18 hok hD23 => ?_)
                obtain ⟨r21, rfl, hr22⟩ := hok
                replace h := h r21 D20 hq18 hr22 hD23
                show WP mX6_shieldOf Q 67 [vR 56, vI x1, vI x2, vI x3] [vI r21] D20
                refine WP_if_eq (tgt := 77) dX6_shieldOf_67 (by decide) (fun c24 => ?_) (fun c24 => ?_)
                · replace h := h.1 c24
                  obtain ⟨o25, h⟩ := h
                  refine WP_iinc (z := (x3 + 1)) (ls1 := [vR 56, vI x1, vI x2, vI (x3 + 1)]) dX6_shieldOf_77 rfl (w32_id o25) (by decide) rfl ?_
                  refine WP_goto (tgt := 29) dX6_shieldOf_80 (by decide) ?_
                  exact ih29_ _ _ _ _ h.1 (by have := h.2; omega)
                · replace h := h.2 c24
                  refine WP_bipush (z := 32) dX6_shieldOf_70 rfl (by decide) ?_
                  refine WP_iload_n (z := x2) dX6_shieldOf_72 rfl ?_
                  obtain ⟨o27, h⟩ := h
                  refine WP_imul (z := (32 * x2)) dX6_shieldOf_73 (w32_id o27) ?_
                  refine WP_iload_n (z := x3) dX6_shieldOf_74 rfl ?_
                  obtain ⟨o26, h⟩ := h
                  refine WP_iadd (z := ((32 * x2) + x3)) dX6_shieldOf_75 (w32_id o26) ?_
                  exact WP_ireturn dX6_shieldOf_76 rfl h
  have cut19_ : ∀ (x1 x2 : Int) (D : HP), I19 x1 x2 D → WP mX6_shieldOf Q 19 [vR 56, vI x1, vI x2, vU] [] D := fun x1 x2 D hI => (IH (u19 x1 x2 D * 2 + 1 + 1)).1 x1 x2 D hI (by omega)
  have cut29_ : ∀ (x1 x2 x3 : Int) (D : HP), I29 x1 x2 x3 D → WP mX6_shieldOf Q 29 [vR 56, vI x1, vI x2, vI x3] [] D := fun x1 x2 x3 D hI => (IH (u29 x1 x2 x3 D * 2 + 0 + 1)).2 x1 x2 x3 D hI (by omega)
  refine WP_cD (fun hcD => ?_)
  refine WP_cl (fun hcl => ?_)
  have h := h0 hcD (cVs_g hcl (i := 1) (v := vI a) rfl)
  refine WP_aload_n (z := 56) dX6_shieldOf_0 rfl ?_
  obtain ⟨Q1, ct3, h⟩ := h
  refine WP_callV (g := mX6_runsTold) (as := []) (rest := []) (n := 0) dX6_shieldOf_1 wm_411 mo_X6_runsTold rfl rfl rfl rfl ⟨Nat.le_of_ble_eq_true rfl, Nat.le_of_ble_eq_true rfl⟩ (Nat.le_of_ble_eq_true rfl) ct3 (fun r_ D4 hq2 hok hD7 => ?_)
  obtain rfl := hok
  replace h := h D4 hq2 hD7
  show WP mX6_shieldOf Q 4 [vR 56, vI a, vU, vU] [] D4
  refine WP_aload_n (z := 56) dX6_shieldOf_4 rfl ?_
  refine WP_getR (z := 66) dX6_shieldOf_5 fl_RX6_38 rfl rfl rfl ?_
  refine WP_iload_n (z := a) dX6_shieldOf_8 rfl ?_
  obtain ⟨o9, h⟩ := h
  refine WP_iald dX6_shieldOf_9 rfl o9.1 o9.2 rfl ?_
  refine WP_iconst (z := (-1)) dX6_shieldOf_10 rfl ⟨by decide, by decide⟩ ?_
  refine WP_icmp_ne (tgt := 17) dX6_shieldOf_11 (by decide) (fun c8 => ?_) (fun c8 => ?_)
  · replace h := h.2 c8
    refine WP_iconst (z := 0) dX6_shieldOf_17 rfl ⟨by decide, by decide⟩ ?_
    refine WP_istore_n (ls1 := [vR 56, vI a, vI 0, vU]) dX6_shieldOf_18 (by decide) rfl ?_
    exact cut19_ _ _ _ h
  · replace h := h.1 c8
    refine WP_bipush (z := (-3)) dX6_shieldOf_14 rfl (by decide) ?_
    exact WP_ireturn dX6_shieldOf_16 rfl h
set_option maxRecDepth 100000 in
set_option maxHeartbeats 4000000 in
theorem V_X6_shield (a : Int) {D : HP} {Q : Option MV → HP → Prop}
    (h0 : cD D → c32 a → (∃ Q1 : Option MV → HP → Prop, CT mX6_isCandidate [vR 56, vI a] D Q1 ∧ ∀ (r5 : Int) (D4 : HP), Q1 (some (vI r5)) D4 → c32 r5 → cD D4 → ((r5 = 0 → (Q (some (vI (-2))) D4)) ∧ (¬ (r5 = 0) → (∃ Q9 : Option MV → HP → Prop, CT mX6_shieldOf [vR 56, vI a] D4 Q9 ∧ ∀ (r13 : Int) (D12 : HP), Q9 (some (vI r13)) D12 → c32 r13 → cD D12 → (Q (some (vI r13)) D12))))))
    : CT mX6_shield [vR 56, vI a] D Q := by
  refine CT.of 0 (by decide) (Nat.le_of_ble_eq_true rfl) ?_
  show WP mX6_shield Q 0 [vR 56, vI a] [] D
  refine WP_cD (fun hcD => ?_)
  refine WP_cl (fun hcl => ?_)
  have h := h0 hcD (cVs_g hcl (i := 1) (v := vI a) rfl)
  refine WP_aload_n (z := 56) dX6_shield_0 rfl ?_
  refine WP_iload_n (z := a) dX6_shield_1 rfl ?_
  obtain ⟨Q1, ct3, h⟩ := h
  refine WP_callV (g := mX6_isCandidate) (as := [vI a]) (rest := []) (n := 1) dX6_shield_2 wm_386 mo_X6_isCandidate rfl rfl rfl rfl ⟨Nat.le_of_ble_eq_true rfl, Nat.le_of_ble_eq_true rfl⟩ (Nat.le_of_ble_eq_true rfl) ct3 (fun r_ D4 hq2 hok hD7 => ?_)
  obtain ⟨r5, rfl, hr6⟩ := hok
  replace h := h r5 D4 hq2 hr6 hD7
  show WP mX6_shield Q 5 [vR 56, vI a] [vI r5] D4
  refine WP_if_eq (tgt := 16) dX6_shield_5 (by decide) (fun c8 => ?_) (fun c8 => ?_)
  · replace h := h.1 c8
    refine WP_bipush (z := (-2)) dX6_shield_16 rfl (by decide) ?_
    exact WP_ireturn dX6_shield_18 rfl h
  · replace h := h.2 c8
    refine WP_aload_n (z := 56) dX6_shield_8 rfl ?_
    refine WP_iload_n (z := a) dX6_shield_9 rfl ?_
    obtain ⟨Q9, ct11, h⟩ := h
    refine WP_callV (g := mX6_shieldOf) (as := [vI a]) (rest := []) (n := 1) dX6_shield_10 wm_582 mo_X6_shieldOf rfl rfl rfl rfl ⟨Nat.le_of_ble_eq_true rfl, Nat.le_of_ble_eq_true rfl⟩ (Nat.le_of_ble_eq_true rfl) ct11 (fun r_ D12 hq10 hok hD15 => ?_)
    obtain ⟨r13, rfl, hr14⟩ := hok
    replace h := h r13 D12 hq10 hr14 hD15
    show WP mX6_shield Q 13 [vR 56, vI a] [vI r13] D12
    refine WP_goto (tgt := 18) dX6_shield_13 (by decide) ?_
    exact WP_ireturn dX6_shield_18 rfl h
def fX6_lastIn (D : HP)  : Int := (if (D 56 5) = 0 then ((-1) : Int) else (D 69 (((D 56 5) - 1)).toNat))
def oX6_lastIn (D : HP)  : Prop := (((((D 56 5) = 0) → True) ∧ (¬ ((D 56 5) = 0) → (c32 ((D 56 5) - 1)) ∧ (0 ≤ ((D 56 5) - 1) ∧ ((D 56 5) - 1) < 12))) ∧ True)
set_option maxRecDepth 100000 in
set_option maxHeartbeats 4000000 in
theorem V_X6_lastIn  {D : HP} {Q : Option MV → HP → Prop}
    (h0 : cD D → (((((D 56 5) = 0) → True) ∧ (¬ ((D 56 5) = 0) → (c32 ((D 56 5) - 1)) ∧ (0 ≤ ((D 56 5) - 1) ∧ ((D 56 5) - 1) < 12))) ∧ (Q (some (vI (if (D 56 5) = 0 then ((-1) : Int) else (D 69 (((D 56 5) - 1)).toNat)))) D)))
    : CT mX6_lastIn [vR 56] D Q := by
  refine CT.of 0 (by decide) (Nat.le_of_ble_eq_true rfl) ?_
  show WP mX6_lastIn Q 0 [vR 56] [] D
  refine WP_cD (fun hcD => ?_)
  have h := h0 hcD
  refine WP_aload_n (z := 56) dX6_lastIn_0 rfl ?_
  refine WP_getI dX6_lastIn_1 fl_RX6_101 rfl rfl rfl ?_
  obtain ⟨o1, h⟩ := h
  refine WP_via (pc1 := 22) (ls1 := [vR 56]) (st1 := [vI (if (D 56 5) = 0 then ((-1) : Int) else (D 69 (((D 56 5) - 1)).toNat))]) (D1 := D) (fun hJ2 => ?_) ?_
  · refine WP_if_ne (tgt := 11) dX6_lastIn_4 (by decide) (fun c3 => ?_) (fun c3 => ?_)
    · replace hJ2 := ite_f (P := fun v_ : Int => WP mX6_lastIn Q 22 [vR 56] [vI v_] D) hJ2 c3
      have o5 := o1.2 c3
      refine WP_aload_n (z := 56) dX6_lastIn_11 rfl ?_
      refine WP_getR (z := 69) dX6_lastIn_12 fl_RX6_47 rfl rfl rfl ?_
      refine WP_aload_n (z := 56) dX6_lastIn_15 rfl ?_
      refine WP_getI dX6_lastIn_16 fl_RX6_101 rfl rfl rfl ?_
      refine WP_iconst (z := 1) dX6_lastIn_19 rfl ⟨by decide, by decide⟩ ?_
      refine WP_isub (z := ((D 56 5) - 1)) dX6_lastIn_20 (w32_id o5.1) ?_
      refine WP_iald dX6_lastIn_21 rfl o5.2.1 o5.2.2 rfl ?_
      exact hJ2
    · replace hJ2 := ite_t (P := fun v_ : Int => WP mX6_lastIn Q 22 [vR 56] [vI v_] D) hJ2 c3
      have o4 := o1.1 c3
      refine WP_iconst (z := (-1)) dX6_lastIn_7 rfl ⟨by decide, by decide⟩ ?_
      refine WP_goto (tgt := 22) dX6_lastIn_8 (by decide) ?_
      exact hJ2
  · exact WP_ireturn dX6_lastIn_22 rfl h
set_option maxRecDepth 100000 in
set_option maxHeartbeats 4000000 in
theorem P_X6_lastIn  {D : HP} (hob : oX6_lastIn D) : CT mX6_lastIn [vR 56] D (PF (vI (fX6_lastIn D)) D) := by
  refine V_X6_lastIn  (fun hcD => ?_)
  obtain ⟨z, hz⟩ : ∃ z, z = fX6_lastIn D := ⟨_, rfl⟩
  rw [← hz]
  unfold fX6_lastIn at hz
  unfold oX6_lastIn at hob
  refine ⟨hob.1, ?_⟩
  replace hob := hob.2
  exact ⟨by rw [hz], rfl⟩
set_option maxRecDepth 100000 in
set_option maxHeartbeats 4000000 in
theorem V_X6_moveOf (a : Int) {D : HP} {Q : Option MV → HP → Prop} (I17 : Int → Int → Int → Int → Int → HP → Prop) (u17 : Int → Int → Int → Int → Int → HP → Nat) (I29 : Int → Int → Int → Int → Int → Int → HP → Prop) (u29 : Int → Int → Int → Int → Int → Int → HP → Nat)
    (h0 : cD D → c32 a → (∃ Q1 : Option MV → HP → Prop, CT mX6_runsTold [vR 56] D Q1 ∧ ∀ (D4 : HP), Q1 none D4 → cD D4 → ((oX6_lastIn D4) ∧ (I17 a (fX6_lastIn D4) 0 (-1) 0 D4))))
    (h17 : ∀ (x1 x2 x3 x4 x5 : Int) (D : HP), I17 x1 x2 x3 x4 x5 D → cD D → c32 x1 → c32 x2 → c32 x3 → c32 x4 → c32 x5 → (((D 56 3) ≤ x5 → (Q (some (vI (if x1 = 0 then (x3 : Int) else x4))) D)) ∧ (¬ ((D 56 3) ≤ x5) → (I29 x1 x2 x3 x4 x5 0 D ∧ u29 x1 x2 x3 x4 x5 0 D ≤ u17 x1 x2 x3 x4 x5 D))))
    (h29 : ∀ (x1 x2 x3 x4 x5 x6 : Int) (D : HP), I29 x1 x2 x3 x4 x5 x6 D → cD D → c32 x1 → c32 x2 → c32 x3 → c32 x4 → c32 x5 → c32 x6 → ((4 ≤ x6 → ((c32 (x5 + 1)) ∧ (I17 x1 x2 x3 x4 (x5 + 1) D ∧ u17 x1 x2 x3 x4 (x5 + 1) D < u29 x1 x2 x3 x4 x5 x6 D))) ∧ (¬ (4 ≤ x6) → ((oX6_beside D x5 x6) ∧ ((0 ≤ x5 ∧ x5 < 26) ∧ (((D 59 x5.toNat) = 0 → ((c32 (x6 + 1)) ∧ (I29 x1 x2 x3 x4 x5 (x6 + 1) D ∧ u29 x1 x2 x3 x4 x5 (x6 + 1) D < u29 x1 x2 x3 x4 x5 x6 D))) ∧ (¬ ((D 59 x5.toNat) = 0) → (((fX6_beside D x5 x6) = (-1) → ((c32 (x6 + 1)) ∧ (I29 x1 x2 x3 x4 x5 (x6 + 1) D ∧ u29 x1 x2 x3 x4 x5 (x6 + 1) D < u29 x1 x2 x3 x4 x5 x6 D))) ∧ (¬ ((fX6_beside D x5 x6) = (-1)) → ((0 ≤ (fX6_beside D x5 x6) ∧ (fX6_beside D x5 x6) < 26) ∧ (((D 59 ((fX6_beside D x5 x6)).toNat) = 0 → ((oX6_isTaken D (fX6_beside D x5 x6) (-1)) ∧ (((fX6_isTaken D (fX6_beside D x5 x6) (-1)) = 0 → ((0 ≤ x5 ∧ x5 < 26) ∧ (∀ (E20 : HP), E20 = (hu D 59 x5.toNat 0) → ((0 ≤ (fX6_beside D x5 x6) ∧ (fX6_beside D x5 x6) < 26) ∧ (∀ (E22 : HP), E22 = (hu E20 59 ((fX6_beside D x5 x6)).toNat 1) → (∃ Q24 : Option MV → HP → Prop, CT mX6_runs [vR 56] E22 Q24 ∧ ∀ (D27 : HP), Q24 none D27 → cD D27 → ((0 ≤ x5 ∧ x5 < 26) ∧ (∀ (E31 : HP), E31 = (hu D27 59 x5.toNat 1) → ((0 ≤ (fX6_beside D x5 x6) ∧ (fX6_beside D x5 x6) < 26) ∧ (∀ (E33 : HP), E33 = (hu E31 59 ((fX6_beside D x5 x6)).toNat 0) → ((oX6_lastIn E33) ∧ (∀ (v35 : Int), v35 = (if (fX6_lastIn E33) = x2 then (0 : Int) else 1) → ((c32 (x3 + (if v35 = 0 then (0 : Int) else 1))) ∧ (∀ (v37 : Int), v37 = (x3 + (if v35 = 0 then (0 : Int) else 1)) → ((((v35 = 0) → True) ∧ (¬ (v35 = 0) → (((x4 = (-1)) → (c32 (4 * x5)) ∧ (c32 ((4 * x5) + x6))) ∧ (¬ (x4 = (-1)) → True)))) ∧ (∀ (v40 : Int), v40 = (if v35 = 0 then (x4 : Int) else (if x4 = (-1) then (((4 * x5) + x6) : Int) else x4)) → ((c32 (x6 + 1)) ∧ (I29 x1 x2 v37 v40 x5 (x6 + 1) E33 ∧ u29 x1 x2 v37 v40 x5 (x6 + 1) E33 < u29 x1 x2 x3 x4 x5 x6 D)))))))))))))))))) ∧ (¬ ((fX6_isTaken D (fX6_beside D x5 x6) (-1)) = 0) → ((c32 (x6 + 1)) ∧ (I29 x1 x2 x3 x4 x5 (x6 + 1) D ∧ u29 x1 x2 x3 x4 x5 (x6 + 1) D < u29 x1 x2 x3 x4 x5 x6 D)))))) ∧ (¬ ((D 59 ((fX6_beside D x5 x6)).toNat) = 0) → ((c32 (x6 + 1)) ∧ (I29 x1 x2 x3 x4 x5 (x6 + 1) D ∧ u29 x1 x2 x3 x4 x5 (x6 + 1) D < u29 x1 x2 x3 x4 x5 x6 D))))))))))))))
    : CT mX6_moveOf [vR 56, vI a] D Q := by
  refine CT.of 7 (by decide) (Nat.le_of_ble_eq_true rfl) ?_
  show WP mX6_moveOf Q 0 [vR 56, vI a, vU, vU, vU, vU, vU, vU, vU] [] D
  have IH : ∀ n : Nat, (∀ (x1 x2 x3 x4 x5 : Int) (D : HP), I17 x1 x2 x3 x4 x5 D → u17 x1 x2 x3 x4 x5 D * 2 + 1 < n → WP mX6_moveOf Q 17 [vR 56, vI x1, vI x2, vI x3, vI x4, vI x5, vU, vU, vU] [] D) ∧ (∀ (x1 x2 x3 x4 x5 x6 : Int) (D : HP), I29 x1 x2 x3 x4 x5 x6 D → u29 x1 x2 x3 x4 x5 x6 D * 2 + 0 < n → WP mX6_moveOf Q 29 [vR 56, vI x1, vI x2, vI x3, vI x4, vI x5, vI x6, vU, vU] [] D) := by
    intro n
    induction n with
    | zero => exact ⟨fun _ _ _ _ _ _ _ h => absurd h (Nat.not_lt_zero _), fun _ _ _ _ _ _ _ _ h => absurd h (Nat.not_lt_zero _)⟩
    | succ n ih =>
      have ih17_ := ih.1
      have ih29_ := ih.2
      refine ⟨?_, ?_⟩
      · intro x1 x2 x3 x4 x5 D hI hn
        refine WP_cD (fun hcD => ?_)
        refine WP_cl (fun hcl => ?_)
        have h := h17 x1 x2 x3 x4 x5 D hI hcD (cVs_g hcl (i := 1) (v := vI x1) rfl) (cVs_g hcl (i := 2) (v := vI x2) rfl) (cVs_g hcl (i := 3) (v := vI x3) rfl) (cVs_g hcl (i := 4) (v := vI x4) rfl) (cVs_g hcl (i := 5) (v := vI x5) rfl)
        refine WP_iload (z := x5) dX6_moveOf_17 rfl ?_
        refine WP_aload_n (z := 56) dX6_moveOf_19 rfl ?_
        refine WP_getI dX6_moveOf_20 fl_RX6_94 rfl rfl rfl ?_
        refine WP_icmp_ge (tgt := 182) dX6_moveOf_23 (by decide) (fun c9 => ?_) (fun c9 => ?_)
        · replace h := h.1 c9
          refine WP_iload_n (z := x1) dX6_moveOf_182 rfl ?_
          refine WP_via (pc1 := 192) (ls1 := [vR 56, vI x1, vI x2, vI x3, vI x4, vI x5, vU, vU, vU]) (st1 := [vI (if x1 = 0 then (x3 : Int) else x4)]) (D1 := D) (fun hJ10 => ?_) ?_
          · refine WP_if_ne (tgt := 190) dX6_moveOf_183 (by decide) (fun c11 => ?_) (fun c11 => ?_)
            · replace hJ10 := ite_f (P := fun v_ : Int => WP mX6_moveOf Q 192 [vR 56, vI x1, vI x2, vI x3, vI x4, vI x5, vU, vU, vU] [vI v_] D) hJ10 c11
              refine WP_iload (z := x4) dX6_moveOf_190 rfl ?_
              exact hJ10
            · replace hJ10 := ite_t (P := fun v_ : Int => WP mX6_moveOf Q 192 [vR 56, vI x1, vI x2, vI x3, vI x4, vI x5, vU, vU, vU] [vI v_] D) hJ10 c11
              refine WP_iload_n (z := x3) dX6_moveOf_186 rfl ?_
              refine WP_goto (tgt := 192) dX6_moveOf_187 (by decide) ?_
              exact hJ10
          · exact WP_ireturn dX6_moveOf_192 rfl h
        · replace h := h.2 c9
          refine WP_iconst (z := 0) dX6_moveOf_26 rfl ⟨by decide, by decide⟩ ?_
          refine WP_istore (ls1 := [vR 56, vI x1, vI x2, vI x3, vI x4, vI x5, vI 0, vU, vU]) dX6_moveOf_27 (by decide) rfl ?_
          exact ih29_ _ _ _ _ _ _ _ h.1 (by have := h.2; omega)
      · intro x1 x2 x3 x4 x5 x6 D hI hn
        refine WP_cD (fun hcD => ?_)
        refine WP_cl (fun hcl => ?_)
        have h := h29 x1 x2 x3 x4 x5 x6 D hI hcD (cVs_g hcl (i := 1) (v := vI x1) rfl) (cVs_g hcl (i := 2) (v := vI x2) rfl) (cVs_g hcl (i := 3) (v := vI x3) rfl) (cVs_g hcl (i := 4) (v := vI x4) rfl) (cVs_g hcl (i := 5) (v := vI x5) rfl) (cVs_g hcl (i := 6) (v := vI x6) rfl)
        refine WP_iload (z := x6) dX6_moveOf_29 rfl ?_
        refine WP_iconst (z := 4) dX6_moveOf_31 rfl ⟨by decide, by decide⟩ ?_
        refine WP_icmp_ge (tgt := 176) dX6_moveOf_32 (by decide) (fun c12 => ?_) (fun c12 => ?_)
        · replace h := h.1 c12
          obtain ⟨o13, h⟩ := h
          refine WP_iinc (z := (x5 + 1)) (ls1 := [vR 56, vI x1, vI x2, vI x3, vI x4, vI (x5 + 1), vI x6, vU, vU]) dX6_moveOf_176 rfl (w32_id o13) (by decide) rfl ?_
          refine WP_goto (tgt := 17) dX6_moveOf_179 (by decide) ?_
          refine WP_fg 6 (ls1 := [vR 56, vI x1, vI x2, vI x3, vI x4, vI (x5 + 1), vU, vU, vU]) rfl ?_
          exact ih17_ _ _ _ _ _ _ h.1 (by have := h.2; omega)
        · replace h := h.2 c12
          refine WP_aload_n (z := 56) dX6_moveOf_35 rfl ?_
          refine WP_iload (z := x5) dX6_moveOf_36 rfl ?_
          refine WP_iload (z := x6) dX6_moveOf_38 rfl ?_
          obtain ⟨o66, h⟩ := h
          refine WP_pcallV (g := mX6_beside) (as := [vI x5, vI x6]) (rest := []) (n := 2) (r := vI (fX6_beside D x5 x6)) dX6_moveOf_40 wm_427 mo_X6_beside rfl rfl rfl rfl ⟨Nat.le_of_ble_eq_true rfl, Nat.le_of_ble_eq_true rfl⟩ (Nat.le_of_ble_eq_true rfl) (P_X6_beside  o66) ?_
          refine WP_istore (ls1 := [vR 56, vI x1, vI x2, vI x3, vI x4, vI x5, vI x6, vI (fX6_beside D x5 x6), vU]) dX6_moveOf_43 (by decide) rfl ?_
          refine WP_aload_n (z := 56) dX6_moveOf_45 rfl ?_
          refine WP_getR (z := 59) dX6_moveOf_46 fl_RX6_16 rfl rfl rfl ?_
          refine WP_iload (z := x5) dX6_moveOf_49 rfl ?_
          obtain ⟨o65, h⟩ := h
          refine WP_zald dX6_moveOf_51 rfl o65.1 o65.2 rfl ?_
          refine WP_if_eq (tgt := 170) dX6_moveOf_52 (by decide) (fun c14 => ?_) (fun c14 => ?_)
          · replace h := h.1 c14
            obtain ⟨o15, h⟩ := h
            refine WP_iinc (z := (x6 + 1)) (ls1 := [vR 56, vI x1, vI x2, vI x3, vI x4, vI x5, vI (x6 + 1), vI (fX6_beside D x5 x6), vU]) dX6_moveOf_170 rfl (w32_id o15) (by decide) rfl ?_
            refine WP_goto (tgt := 29) dX6_moveOf_173 (by decide) ?_
            refine WP_fg 7 (ls1 := [vR 56, vI x1, vI x2, vI x3, vI x4, vI x5, vI (x6 + 1), vU, vU]) rfl ?_
            exact ih29_ _ _ _ _ _ _ _ h.1 (by have := h.2; omega)
          · replace h := h.2 c14
            refine WP_iload (z := (fX6_beside D x5 x6)) dX6_moveOf_55 rfl ?_
            refine WP_iconst (z := (-1)) dX6_moveOf_57 rfl ⟨by decide, by decide⟩ ?_
            refine WP_icmp_eq (tgt := 170) dX6_moveOf_58 (by decide) (fun c16 => ?_) (fun c16 => ?_)
            · replace h := h.1 c16
              obtain ⟨o17, h⟩ := h
              refine WP_iinc (z := (x6 + 1)) (ls1 := [vR 56, vI x1, vI x2, vI x3, vI x4, vI x5, vI (x6 + 1), vI (fX6_beside D x5 x6), vU]) dX6_moveOf_170 rfl (w32_id o17) (by decide) rfl ?_
              refine WP_goto (tgt := 29) dX6_moveOf_173 (by decide) ?_
              refine WP_fg 7 (ls1 := [vR 56, vI x1, vI x2, vI x3, vI x4, vI x5, vI (x6 + 1), vU, vU]) rfl ?_
              exact ih29_ _ _ _ _ _ _ _ h.1 (by have := h.2; omega)
            · replace h := h.2 c16
              refine WP_aload_n (z := 56) dX6_moveOf_61 rfl ?_
              refine WP_getR (z := 59) dX6_moveOf_62 fl_RX6_16 rfl rfl rfl ?_
              refine WP_iload (z := (fX6_beside D x5 x6)) dX6_moveOf_65 rfl ?_
              obtain ⟨o64, h⟩ := h
              refine WP_zald dX6_moveOf_67 rfl o64.1 o64.2 rfl ?_
              refine WP_if_ne (tgt := 170) dX6_moveOf_68 (by decide) (fun c18 => ?_) (fun c18 => ?_)
              · replace h := h.2 c18
                obtain ⟨o63, h⟩ := h
                refine WP_iinc (z := (x6 + 1)) (ls1 := [vR 56, vI x1, vI x2, vI x3, vI x4, vI x5, vI (x6 + 1), vI (fX6_beside D x5 x6), vU]) dX6_moveOf_170 rfl (w32_id o63) (by decide) rfl ?_
                refine WP_goto (tgt := 29) dX6_moveOf_173 (by decide) ?_
                refine WP_fg 7 (ls1 := [vR 56, vI x1, vI x2, vI x3, vI x4, vI x5, vI (x6 + 1), vU, vU]) rfl ?_
                exact ih29_ _ _ _ _ _ _ _ h.1 (by have := h.2; omega)
              · replace h := h.1 c18
                refine WP_aload_n (z := 56) dX6_moveOf_71 rfl ?_
                refine WP_iload (z := (fX6_beside D x5 x6)) dX6_moveOf_72 rfl ?_
                refine WP_iconst (z := (-1)) dX6_moveOf_74 rfl ⟨by decide, by decide⟩ ?_
                obtain ⟨o62, h⟩ := h
                refine WP_pcallV (g := mX6_isTaken) (as := [vI (fX6_beside D x5 x6), vI (-1)]) (rest := []) (n := 2) (r := vI (fX6_isTaken D (fX6_beside D x5 x6) (-1))) dX6_moveOf_75 wm_562 mo_X6_isTaken rfl rfl rfl rfl ⟨Nat.le_of_ble_eq_true rfl, Nat.le_of_ble_eq_true rfl⟩ (Nat.le_of_ble_eq_true rfl) (P_X6_isTaken  o62) ?_
                refine WP_if_ne (tgt := 170) dX6_moveOf_78 (by decide) (fun c19 => ?_) (fun c19 => ?_)
                · replace h := h.2 c19
                  obtain ⟨o61, h⟩ := h
                  refine WP_iinc (z := (x6 + 1)) (ls1 := [vR 56, vI x1, vI x2, vI x3, vI x4, vI x5, vI (x6 + 1), vI (fX6_beside D x5 x6), vU]) dX6_moveOf_170 rfl (w32_id o61) (by decide) rfl ?_
                  refine WP_goto (tgt := 29) dX6_moveOf_173 (by decide) ?_
                  refine WP_fg 7 (ls1 := [vR 56, vI x1, vI x2, vI x3, vI x4, vI x5, vI (x6 + 1), vU, vU]) rfl ?_
                  exact ih29_ _ _ _ _ _ _ _ h.1 (by have := h.2; omega)
                · replace h := h.1 c19
                  refine WP_aload_n (z := 56) dX6_moveOf_81 rfl ?_
                  refine WP_getR (z := 59) dX6_moveOf_82 fl_RX6_16 rfl rfl rfl ?_
                  refine WP_iload (z := x5) dX6_moveOf_85 rfl ?_
                  refine WP_iconst (z := 0) dX6_moveOf_87 rfl ⟨by decide, by decide⟩ ?_
                  obtain ⟨o60, h⟩ := h
                  refine WP_zast dX6_moveOf_88 rfl o60.1 o60.2 (Or.inl rfl) ?_
                  obtain ⟨E20, hE21⟩ : ∃ E20 : HP, E20 = (hu D 59 x5.toNat 0) := ⟨_, rfl⟩
                  replace h := h E20 hE21
                  show WP mX6_moveOf Q 89 [vR 56, vI x1, vI x2, vI x3, vI x4, vI x5, vI x6, vI (fX6_beside D x5 x6), vU] [] (hu D 59 x5.toNat 0)
                  rw [← hE21]
                  refine WP_aload_n (z := 56) dX6_moveOf_89 rfl ?_
                  refine WP_getR (z := 59) dX6_moveOf_90 fl_RX6_16 rfl rfl rfl ?_
                  refine WP_iload (z := (fX6_beside D x5 x6)) dX6_moveOf_93 rfl ?_
                  refine WP_iconst (z := 1) dX6_moveOf_95 rfl ⟨by decide, by decide⟩ ?_
                  obtain ⟨o59, h⟩ := h
                  refine WP_zast dX6_moveOf_96 rfl o59.1 o59.2 (Or.inr rfl) ?_
                  obtain ⟨E22, hE23⟩ : ∃ E22 : HP, E22 = (hu E20 59 ((fX6_beside D x5 x6)).toNat 1) := ⟨_, rfl⟩
                  replace h := h E22 hE23
                  show WP mX6_moveOf Q 97 [vR 56, vI x1, vI x2, vI x3, vI x4, vI x5, vI x6, vI (fX6_beside D x5 x6), vU] [] (hu E20 59 ((fX6_beside D x5 x6)).toNat 1)
                  rw [← hE23]
                  refine WP_aload_n (z := 56) dX6_moveOf_97 rfl ?_
                  obtain ⟨Q24, ct26, h⟩ := h
                  refine WP_callV (g := mX6_runs) (as := []) (rest := []) (n := 0) dX6_moveOf_98 wm_415 mo_X6_runs rfl rfl rfl rfl ⟨Nat.le_of_ble_eq_true rfl, Nat.le_of_ble_eq_true rfl⟩ (Nat.le_of_ble_eq_true rfl) ct26 (fun r_ D27 hq25 hok hD30 => ?_)
                  obtain rfl := hok
                  replace h := h D27 hq25 hD30
                  show WP mX6_moveOf Q 101 [vR 56, vI x1, vI x2, vI x3, vI x4, vI x5, vI x6, vI (fX6_beside D x5 x6), vU] [] D27
                  refine WP_aload_n (z := 56) dX6_moveOf_101 rfl ?_
                  refine WP_getR (z := 59) dX6_moveOf_102 fl_RX6_16 rfl rfl rfl ?_
                  refine WP_iload (z := x5) dX6_moveOf_105 rfl ?_
                  refine WP_iconst (z := 1) dX6_moveOf_107 rfl ⟨by decide, by decide⟩ ?_
                  obtain ⟨o58, h⟩ := h
                  refine WP_zast dX6_moveOf_108 rfl o58.1 o58.2 (Or.inr rfl) ?_
                  obtain ⟨E31, hE32⟩ : ∃ E31 : HP, E31 = (hu D27 59 x5.toNat 1) := ⟨_, rfl⟩
                  replace h := h E31 hE32
                  show WP mX6_moveOf Q 109 [vR 56, vI x1, vI x2, vI x3, vI x4, vI x5, vI x6, vI (fX6_beside D x5 x6), vU] [] (hu D27 59 x5.toNat 1)
                  rw [← hE32]
                  refine WP_aload_n (z := 56) dX6_moveOf_109 rfl ?_
                  refine WP_getR (z := 59) dX6_moveOf_110 fl_RX6_16 rfl rfl rfl ?_
                  refine WP_iload (z := (fX6_beside D x5 x6)) dX6_moveOf_113 rfl ?_
                  refine WP_iconst (z := 0) dX6_moveOf_115 rfl ⟨by decide, by decide⟩ ?_
                  obtain ⟨o57, h⟩ := h
                  refine WP_zast dX6_moveOf_116 rfl o57.1 o57.2 (Or.inl rfl) ?_
                  obtain ⟨E33, hE34⟩ : ∃ E33 : HP, E33 = (hu E31 59 ((fX6_beside D x5 x6)).toNat 0) := ⟨_, rfl⟩
                  replace h := h E33 hE34
                  show WP mX6_moveOf Q 117 [vR 56, vI x1, vI x2, vI x3, vI x4, vI x5, vI x6, vI (fX6_beside D x5 x6), vU] [] (hu E31 59 ((fX6_beside D x5 x6)).toNat 0)
                  rw [← hE34]
                  refine WP_aload_n (z := 56) dX6_moveOf_117 rfl ?_
                  obtain ⟨o56, h⟩ := h
                  refine WP_pcallV (g := mX6_lastIn) (as := []) (rest := []) (n := 0) (r := vI (fX6_lastIn E33)) dX6_moveOf_118 wm_613 mo_X6_lastIn rfl rfl rfl rfl ⟨Nat.le_of_ble_eq_true rfl, Nat.le_of_ble_eq_true rfl⟩ (Nat.le_of_ble_eq_true rfl) (P_X6_lastIn  o56) ?_
                  refine WP_iload_n (z := x2) dX6_moveOf_121 rfl ?_
                  refine WP_via (pc1 := 130) (ls1 := [vR 56, vI x1, vI x2, vI x3, vI x4, vI x5, vI x6, vI (fX6_beside D x5 x6), vU]) (st1 := [vI (if (fX6_lastIn E33) = x2 then (0 : Int) else 1)]) (D1 := E33) (fun hJ54 => ?_) ?_
                  · refine WP_icmp_eq (tgt := 129) dX6_moveOf_122 (by decide) (fun c55 => ?_) (fun c55 => ?_)
                    · replace hJ54 := ite_t (P := fun v_ : Int => WP mX6_moveOf Q 130 [vR 56, vI x1, vI x2, vI x3, vI x4, vI x5, vI x6, vI (fX6_beside D x5 x6), vU] [vI v_] E33) hJ54 c55
                      refine WP_iconst (z := 0) dX6_moveOf_129 rfl ⟨by decide, by decide⟩ ?_
                      exact hJ54
                    · replace hJ54 := ite_f (P := fun v_ : Int => WP mX6_moveOf Q 130 [vR 56, vI x1, vI x2, vI x3, vI x4, vI x5, vI x6, vI (fX6_beside D x5 x6), vU] [vI v_] E33) hJ54 c55
                      refine WP_iconst (z := 1) dX6_moveOf_125 rfl ⟨by decide, by decide⟩ ?_
                      refine WP_goto (tgt := 130) dX6_moveOf_126 (by decide) ?_
                      exact hJ54
                  · refine WP_istore (ls1 := [vR 56, vI x1, vI x2, vI x3, vI x4, vI x5, vI x6, vI (fX6_beside D x5 x6), vI (if (fX6_lastIn E33) = x2 then (0 : Int) else 1)]) dX6_moveOf_130 (by decide) rfl ?_
                    obtain ⟨v35, hv36⟩ : ∃ v35 : Int, v35 = (if (fX6_lastIn E33) = x2 then (0 : Int) else 1) := ⟨_, rfl⟩
                    replace h := h v35 hv36
                    rw [← hv36]
                    refine WP_iload_n (z := x3) dX6_moveOf_132 rfl ?_
                    refine WP_iload (z := v35) dX6_moveOf_133 rfl ?_
                    refine WP_via (pc1 := 143) (ls1 := [vR 56, vI x1, vI x2, vI x3, vI x4, vI x5, vI x6, vI (fX6_beside D x5 x6), vI v35]) (st1 := [vI (if v35 = 0 then (0 : Int) else 1), vI x3]) (D1 := E33) (fun hJ52 => ?_) ?_
                    · refine WP_if_eq (tgt := 142) dX6_moveOf_135 (by decide) (fun c53 => ?_) (fun c53 => ?_)
                      · replace hJ52 := ite_t (P := fun v_ : Int => WP mX6_moveOf Q 143 [vR 56, vI x1, vI x2, vI x3, vI x4, vI x5, vI x6, vI (fX6_beside D x5 x6), vI v35] [vI v_, vI x3] E33) hJ52 c53
                        refine WP_iconst (z := 0) dX6_moveOf_142 rfl ⟨by decide, by decide⟩ ?_
                        exact hJ52
                      · replace hJ52 := ite_f (P := fun v_ : Int => WP mX6_moveOf Q 143 [vR 56, vI x1, vI x2, vI x3, vI x4, vI x5, vI x6, vI (fX6_beside D x5 x6), vI v35] [vI v_, vI x3] E33) hJ52 c53
                        refine WP_iconst (z := 1) dX6_moveOf_138 rfl ⟨by decide, by decide⟩ ?_
                        refine WP_goto (tgt := 143) dX6_moveOf_139 (by decide) ?_
                        exact hJ52
                    · obtain ⟨o51, h⟩ := h
                      refine WP_iadd (z := (x3 + (if v35 = 0 then (0 : Int) else 1))) dX6_moveOf_143 (w32_id o51) ?_
                      refine WP_istore_n (ls1 := [vR 56, vI x1, vI x2, vI (x3 + (if v35 = 0 then (0 : Int) else 1)), vI x4, vI x5, vI x6, vI (fX6_beside D x5 x6), vI v35]) dX6_moveOf_144 (by decide) rfl ?_
                      obtain ⟨v37, hv38⟩ : ∃ v37 : Int, v37 = (x3 + (if v35 = 0 then (0 : Int) else 1)) := ⟨_, rfl⟩
                      replace h := h v37 hv38
                      rw [← hv38]
                      refine WP_iload (z := v35) dX6_moveOf_145 rfl ?_
                      obtain ⟨o39, h⟩ := h
                      refine WP_via (pc1 := 168) (ls1 := [vR 56, vI x1, vI x2, vI v37, vI x4, vI x5, vI x6, vI (fX6_beside D x5 x6), vI v35]) (st1 := [vI (if v35 = 0 then (x4 : Int) else (if x4 = (-1) then (((4 * x5) + x6) : Int) else x4))]) (D1 := E33) (fun hJ43 => ?_) ?_
                      · refine WP_if_eq (tgt := 166) dX6_moveOf_147 (by decide) (fun c44 => ?_) (fun c44 => ?_)
                        · replace hJ43 := ite_t (P := fun v_ : Int => WP mX6_moveOf Q 168 [vR 56, vI x1, vI x2, vI v37, vI x4, vI x5, vI x6, vI (fX6_beside D x5 x6), vI v35] [vI v_] E33) hJ43 c44
                          have o45 := o39.1 c44
                          refine WP_iload (z := x4) dX6_moveOf_166 rfl ?_
                          exact hJ43
                        · replace hJ43 := ite_f (P := fun v_ : Int => WP mX6_moveOf Q 168 [vR 56, vI x1, vI x2, vI v37, vI x4, vI x5, vI x6, vI (fX6_beside D x5 x6), vI v35] [vI v_] E33) hJ43 c44
                          have o46 := o39.2 c44
                          refine WP_iload (z := x4) dX6_moveOf_150 rfl ?_
                          refine WP_iconst (z := (-1)) dX6_moveOf_152 rfl ⟨by decide, by decide⟩ ?_
                          refine WP_via (pc1 := 168) (ls1 := [vR 56, vI x1, vI x2, vI v37, vI x4, vI x5, vI x6, vI (fX6_beside D x5 x6), vI v35]) (st1 := [vI (if x4 = (-1) then (((4 * x5) + x6) : Int) else x4)]) (D1 := E33) (fun hJ47 => ?_) ?_
                          · refine WP_icmp_ne (tgt := 166) dX6_moveOf_153 (by decide) (fun c48 => ?_) (fun c48 => ?_)
                            · replace hJ47 := ite_f (P := fun v_ : Int => WP mX6_moveOf Q 168 [vR 56, vI x1, vI x2, vI v37, vI x4, vI x5, vI x6, vI (fX6_beside D x5 x6), vI v35] [vI v_] E33) hJ47 c48
                              have o50 := o46.2 c48
                              refine WP_iload (z := x4) dX6_moveOf_166 rfl ?_
                              exact hJ47
                            · replace hJ47 := ite_t (P := fun v_ : Int => WP mX6_moveOf Q 168 [vR 56, vI x1, vI x2, vI v37, vI x4, vI x5, vI x6, vI (fX6_beside D x5 x6), vI v35] [vI v_] E33) hJ47 c48
                              have o49 := o46.1 c48
                              refine WP_iconst (z := 4) dX6_moveOf_156 rfl ⟨by decide, by decide⟩ ?_
                              refine WP_iload (z := x5) dX6_moveOf_157 rfl ?_
                              refine WP_imul (z := (4 * x5)) dX6_moveOf_159 (w32_id o49.1) ?_
                              refine WP_iload (z := x6) dX6_moveOf_160 rfl ?_
                              refine WP_iadd (z := ((4 * x5) + x6)) dX6_moveOf_162 (w32_id o49.2) ?_
                              refine WP_goto (tgt := 168) dX6_moveOf_163 (by decide) ?_
                              exact hJ47
                          exact hJ43
                      · refine WP_istore (ls1 := [vR 56, vI x1, vI x2, vI v37, vI (if v35 = 0 then (x4 : Int) else (if x4 = (-1) then (((4 * x5) + x6) : Int) else x4)), vI x5, vI x6, vI (fX6_beside D x5 x6), vI v35]) dX6_moveOf_168 (by decide) rfl ?_
                        obtain ⟨v40, hv41⟩ : ∃ v40 : Int, v40 = (if v35 = 0 then (x4 : Int) else (if x4 = (-1) then (((4 * x5) + x6) : Int) else x4)) := ⟨_, rfl⟩
                        replace h := h v40 hv41
                        rw [← hv41]
                        obtain ⟨o42, h⟩ := h
                        refine WP_iinc (z := (x6 + 1)) (ls1 := [vR 56, vI x1, vI x2, vI v37, vI v40, vI x5, vI (x6 + 1), vI (fX6_beside D x5 x6), vI v35]) dX6_moveOf_170 rfl (w32_id o42) (by decide) rfl ?_
                        refine WP_goto (tgt := 29) dX6_moveOf_173 (by decide) ?_
                        refine WP_fg 7 (ls1 := [vR 56, vI x1, vI x2, vI v37, vI v40, vI x5, vI (x6 + 1), vU, vI v35]) rfl ?_
                        refine WP_fg 8 (ls1 := [vR 56, vI x1, vI x2, vI v37, vI v40, vI x5, vI (x6 + 1), vU, vU]) rfl ?_
                        exact ih29_ _ _ _ _ _ _ _ h.1 (by have := h.2; omega)
  have cut17_ : ∀ (x1 x2 x3 x4 x5 : Int) (D : HP), I17 x1 x2 x3 x4 x5 D → WP mX6_moveOf Q 17 [vR 56, vI x1, vI x2, vI x3, vI x4, vI x5, vU, vU, vU] [] D := fun x1 x2 x3 x4 x5 D hI => (IH (u17 x1 x2 x3 x4 x5 D * 2 + 1 + 1)).1 x1 x2 x3 x4 x5 D hI (by omega)
  have cut29_ : ∀ (x1 x2 x3 x4 x5 x6 : Int) (D : HP), I29 x1 x2 x3 x4 x5 x6 D → WP mX6_moveOf Q 29 [vR 56, vI x1, vI x2, vI x3, vI x4, vI x5, vI x6, vU, vU] [] D := fun x1 x2 x3 x4 x5 x6 D hI => (IH (u29 x1 x2 x3 x4 x5 x6 D * 2 + 0 + 1)).2 x1 x2 x3 x4 x5 x6 D hI (by omega)
  refine WP_cD (fun hcD => ?_)
  refine WP_cl (fun hcl => ?_)
  have h := h0 hcD (cVs_g hcl (i := 1) (v := vI a) rfl)
  refine WP_aload_n (z := 56) dX6_moveOf_0 rfl ?_
  obtain ⟨Q1, ct3, h⟩ := h
  refine WP_callV (g := mX6_runsTold) (as := []) (rest := []) (n := 0) dX6_moveOf_1 wm_411 mo_X6_runsTold rfl rfl rfl rfl ⟨Nat.le_of_ble_eq_true rfl, Nat.le_of_ble_eq_true rfl⟩ (Nat.le_of_ble_eq_true rfl) ct3 (fun r_ D4 hq2 hok hD7 => ?_)
  obtain rfl := hok
  replace h := h D4 hq2 hD7
  show WP mX6_moveOf Q 4 [vR 56, vI a, vU, vU, vU, vU, vU, vU, vU] [] D4
  refine WP_aload_n (z := 56) dX6_moveOf_4 rfl ?_
  obtain ⟨o8, h⟩ := h
  refine WP_pcallV (g := mX6_lastIn) (as := []) (rest := []) (n := 0) (r := vI (fX6_lastIn D4)) dX6_moveOf_5 wm_613 mo_X6_lastIn rfl rfl rfl rfl ⟨Nat.le_of_ble_eq_true rfl, Nat.le_of_ble_eq_true rfl⟩ (Nat.le_of_ble_eq_true rfl) (P_X6_lastIn  o8) ?_
  refine WP_istore_n (ls1 := [vR 56, vI a, vI (fX6_lastIn D4), vU, vU, vU, vU, vU, vU]) dX6_moveOf_8 (by decide) rfl ?_
  refine WP_iconst (z := 0) dX6_moveOf_9 rfl ⟨by decide, by decide⟩ ?_
  refine WP_istore_n (ls1 := [vR 56, vI a, vI (fX6_lastIn D4), vI 0, vU, vU, vU, vU, vU]) dX6_moveOf_10 (by decide) rfl ?_
  refine WP_iconst (z := (-1)) dX6_moveOf_11 rfl ⟨by decide, by decide⟩ ?_
  refine WP_istore (ls1 := [vR 56, vI a, vI (fX6_lastIn D4), vI 0, vI (-1), vU, vU, vU, vU]) dX6_moveOf_12 (by decide) rfl ?_
  refine WP_iconst (z := 0) dX6_moveOf_14 rfl ⟨by decide, by decide⟩ ?_
  refine WP_istore (ls1 := [vR 56, vI a, vI (fX6_lastIn D4), vI 0, vI (-1), vI 0, vU, vU, vU]) dX6_moveOf_15 (by decide) rfl ?_
  exact cut17_ _ _ _ _ _ _ h
set_option maxRecDepth 100000 in
set_option maxHeartbeats 4000000 in
theorem V_X6_move (a : Int) {D : HP} {Q : Option MV → HP → Prop}
    (h0 : cD D → c32 a → (((fX6_within D a 0 1) = 0 → (Q (some (vI (-2))) D)) ∧ (¬ ((fX6_within D a 0 1) = 0) → (∃ Q2 : Option MV → HP → Prop, CT mX6_moveOf [vR 56, vI a] D Q2 ∧ ∀ (r6 : Int) (D5 : HP), Q2 (some (vI r6)) D5 → c32 r6 → cD D5 → (Q (some (vI r6)) D5)))))
    : CT mX6_move [vR 56, vI a] D Q := by
  refine CT.of 0 (by decide) (Nat.le_of_ble_eq_true rfl) ?_
  show WP mX6_move Q 0 [vR 56, vI a] [] D
  refine WP_cD (fun hcD => ?_)
  refine WP_cl (fun hcl => ?_)
  have h := h0 hcD (cVs_g hcl (i := 1) (v := vI a) rfl)
  refine WP_iload_n (z := a) dX6_move_0 rfl ?_
  refine WP_iconst (z := 0) dX6_move_1 rfl ⟨by decide, by decide⟩ ?_
  refine WP_iconst (z := 1) dX6_move_2 rfl ⟨by decide, by decide⟩ ?_
  refine WP_pcallS (g := mX6_within) (as := [vI a, vI 0, vI 1]) (rest := []) (n := 3) (r := vI (fX6_within D a 0 1)) dX6_move_3 wm_262 mo_X6_within rfl rfl ⟨Nat.le_of_ble_eq_true rfl, Nat.le_of_ble_eq_true rfl⟩ (Nat.le_of_ble_eq_true rfl) (P_X6_within  trivial) ?_
  refine WP_if_eq (tgt := 17) dX6_move_6 (by decide) (fun c1 => ?_) (fun c1 => ?_)
  · replace h := h.1 c1
    refine WP_bipush (z := (-2)) dX6_move_17 rfl (by decide) ?_
    exact WP_ireturn dX6_move_19 rfl h
  · replace h := h.2 c1
    refine WP_aload_n (z := 56) dX6_move_9 rfl ?_
    refine WP_iload_n (z := a) dX6_move_10 rfl ?_
    obtain ⟨Q2, ct4, h⟩ := h
    refine WP_callV (g := mX6_moveOf) (as := [vI a]) (rest := []) (n := 1) dX6_move_11 wm_609 mo_X6_moveOf rfl rfl rfl rfl ⟨Nat.le_of_ble_eq_true rfl, Nat.le_of_ble_eq_true rfl⟩ (Nat.le_of_ble_eq_true rfl) ct4 (fun r_ D5 hq3 hok hD8 => ?_)
    obtain ⟨r6, rfl, hr7⟩ := hok
    replace h := h r6 D5 hq3 hr7 hD8
    show WP mX6_move Q 14 [vR 56, vI a] [vI r6] D5
    refine WP_goto (tgt := 19) dX6_move_14 (by decide) ?_
    exact WP_ireturn dX6_move_19 rfl h
set_option maxRecDepth 100000 in
set_option maxHeartbeats 4000000 in
theorem V_X6_bribeOf (a : Int) {D : HP} {Q : Option MV → HP → Prop} (I16 : Int → Int → Int → Int → HP → Prop) (u16 : Int → Int → Int → Int → HP → Nat)
    (h0 : cD D → c32 a → (∃ Q1 : Option MV → HP → Prop, CT mX6_reads [vR 56] D Q1 ∧ ∀ (D4 : HP), Q1 none D4 → cD D4 → ((0 ≤ a ∧ a < 9) ∧ (I16 a (D4 63 a.toNat) (-1) 0 D4))))
    (h16 : ∀ (x1 x2 x3 x4 : Int) (D : HP), I16 x1 x2 x3 x4 D → cD D → c32 x1 → c32 x2 → c32 x3 → c32 x4 → ((x2 ≤ x4 → ((0 ≤ x1 ∧ x1 < 9) ∧ (∀ (E10 : HP), E10 = (hu D 63 x1.toNat x2) → (Q (some (vI x3)) E10)))) ∧ (¬ (x2 ≤ x4) → ((x3 = (-1) → ((c32 (x2 - x4)) ∧ ((0 ≤ x1 ∧ x1 < 9) ∧ (∀ (E14 : HP), E14 = (hu D 63 x1.toNat (x2 - x4)) → (∃ Q16 : Option MV → HP → Prop, CT mX6_runs [vR 56] E14 Q16 ∧ ∀ (D19 : HP), Q16 none D19 → cD D19 → ((oX6_lastIn D19) ∧ (∀ (v23 : Int), v23 = (if (fX6_lastIn D19) = x1 then (x4 : Int) else (-1)) → ((c32 (x4 + 1)) ∧ (I16 x1 x2 v23 (x4 + 1) D19 ∧ u16 x1 x2 v23 (x4 + 1) D19 < u16 x1 x2 x3 x4 D))))))))) ∧ (¬ (x3 = (-1)) → ((0 ≤ x1 ∧ x1 < 9) ∧ (∀ (E31 : HP), E31 = (hu D 63 x1.toNat x2) → (Q (some (vI x3)) E31))))))))
    : CT mX6_bribeOf [vR 56, vI a] D Q := by
  refine CT.of 3 (by decide) (Nat.le_of_ble_eq_true rfl) ?_
  show WP mX6_bribeOf Q 0 [vR 56, vI a, vU, vU, vU] [] D
  have IH : ∀ n : Nat, (∀ (x1 x2 x3 x4 : Int) (D : HP), I16 x1 x2 x3 x4 D → u16 x1 x2 x3 x4 D * 1 + 0 < n → WP mX6_bribeOf Q 16 [vR 56, vI x1, vI x2, vI x3, vI x4] [] D) := by
    intro n
    induction n with
    | zero => exact fun _ _ _ _ _ _ h => absurd h (Nat.not_lt_zero _)
    | succ n ih =>
      have ih16_ := ih
      · intro x1 x2 x3 x4 D hI hn
        refine WP_cD (fun hcD => ?_)
        refine WP_cl (fun hcl => ?_)
        have h := h16 x1 x2 x3 x4 D hI hcD (cVs_g hcl (i := 1) (v := vI x1) rfl) (cVs_g hcl (i := 2) (v := vI x2) rfl) (cVs_g hcl (i := 3) (v := vI x3) rfl) (cVs_g hcl (i := 4) (v := vI x4) rfl)
        refine WP_iload (z := x4) dX6_bribeOf_16 rfl ?_
        refine WP_iload_n (z := x2) dX6_bribeOf_18 rfl ?_
        refine WP_icmp_ge (tgt := 62) dX6_bribeOf_19 (by decide) (fun c9 => ?_) (fun c9 => ?_)
        · replace h := h.1 c9
          refine WP_aload_n (z := 56) dX6_bribeOf_62 rfl ?_
          refine WP_getR (z := 63) dX6_bribeOf_63 fl_RX6_29 rfl rfl rfl ?_
          refine WP_iload_n (z := x1) dX6_bribeOf_66 rfl ?_
          refine WP_iload_n (z := x2) dX6_bribeOf_67 rfl ?_
          obtain ⟨o12, h⟩ := h
          refine WP_iast dX6_bribeOf_68 rfl o12.1 o12.2 ?_
          obtain ⟨E10, hE11⟩ : ∃ E10 : HP, E10 = (hu D 63 x1.toNat x2) := ⟨_, rfl⟩
          replace h := h E10 hE11
          show WP mX6_bribeOf Q 69 [vR 56, vI x1, vI x2, vI x3, vI x4] [] (hu D 63 x1.toNat x2)
          rw [← hE11]
          refine WP_iload_n (z := x3) dX6_bribeOf_69 rfl ?_
          exact WP_ireturn dX6_bribeOf_70 rfl h
        · replace h := h.2 c9
          refine WP_iload_n (z := x3) dX6_bribeOf_22 rfl ?_
          refine WP_iconst (z := (-1)) dX6_bribeOf_23 rfl ⟨by decide, by decide⟩ ?_
          refine WP_icmp_ne (tgt := 62) dX6_bribeOf_24 (by decide) (fun c13 => ?_) (fun c13 => ?_)
          · replace h := h.2 c13
            refine WP_aload_n (z := 56) dX6_bribeOf_62 rfl ?_
            refine WP_getR (z := 63) dX6_bribeOf_63 fl_RX6_29 rfl rfl rfl ?_
            refine WP_iload_n (z := x1) dX6_bribeOf_66 rfl ?_
            refine WP_iload_n (z := x2) dX6_bribeOf_67 rfl ?_
            obtain ⟨o33, h⟩ := h
            refine WP_iast dX6_bribeOf_68 rfl o33.1 o33.2 ?_
            obtain ⟨E31, hE32⟩ : ∃ E31 : HP, E31 = (hu D 63 x1.toNat x2) := ⟨_, rfl⟩
            replace h := h E31 hE32
            show WP mX6_bribeOf Q 69 [vR 56, vI x1, vI x2, vI x3, vI x4] [] (hu D 63 x1.toNat x2)
            rw [← hE32]
            refine WP_iload_n (z := x3) dX6_bribeOf_69 rfl ?_
            exact WP_ireturn dX6_bribeOf_70 rfl h
          · replace h := h.1 c13
            refine WP_aload_n (z := 56) dX6_bribeOf_27 rfl ?_
            refine WP_getR (z := 63) dX6_bribeOf_28 fl_RX6_29 rfl rfl rfl ?_
            refine WP_iload_n (z := x1) dX6_bribeOf_31 rfl ?_
            refine WP_iload_n (z := x2) dX6_bribeOf_32 rfl ?_
            refine WP_iload (z := x4) dX6_bribeOf_33 rfl ?_
            obtain ⟨o30, h⟩ := h
            refine WP_isub (z := (x2 - x4)) dX6_bribeOf_35 (w32_id o30) ?_
            obtain ⟨o29, h⟩ := h
            refine WP_iast dX6_bribeOf_36 rfl o29.1 o29.2 ?_
            obtain ⟨E14, hE15⟩ : ∃ E14 : HP, E14 = (hu D 63 x1.toNat (x2 - x4)) := ⟨_, rfl⟩
            replace h := h E14 hE15
            show WP mX6_bribeOf Q 37 [vR 56, vI x1, vI x2, vI x3, vI x4] [] (hu D 63 x1.toNat (x2 - x4))
            rw [← hE15]
            refine WP_aload_n (z := 56) dX6_bribeOf_37 rfl ?_
            obtain ⟨Q16, ct18, h⟩ := h
            refine WP_callV (g := mX6_runs) (as := []) (rest := []) (n := 0) dX6_bribeOf_38 wm_415 mo_X6_runs rfl rfl rfl rfl ⟨Nat.le_of_ble_eq_true rfl, Nat.le_of_ble_eq_true rfl⟩ (Nat.le_of_ble_eq_true rfl) ct18 (fun r_ D19 hq17 hok hD22 => ?_)
            obtain rfl := hok
            replace h := h D19 hq17 hD22
            show WP mX6_bribeOf Q 41 [vR 56, vI x1, vI x2, vI x3, vI x4] [] D19
            refine WP_aload_n (z := 56) dX6_bribeOf_41 rfl ?_
            obtain ⟨o28, h⟩ := h
            refine WP_pcallV (g := mX6_lastIn) (as := []) (rest := []) (n := 0) (r := vI (fX6_lastIn D19)) dX6_bribeOf_42 wm_613 mo_X6_lastIn rfl rfl rfl rfl ⟨Nat.le_of_ble_eq_true rfl, Nat.le_of_ble_eq_true rfl⟩ (Nat.le_of_ble_eq_true rfl) (P_X6_lastIn  o28) ?_
            refine WP_iload_n (z := x1) dX6_bribeOf_45 rfl ?_
            refine WP_via (pc1 := 55) (ls1 := [vR 56, vI x1, vI x2, vI x3, vI x4]) (st1 := [vI (if (fX6_lastIn D19) = x1 then (x4 : Int) else (-1))]) (D1 := D19) (fun hJ26 => ?_) ?_
            · refine WP_icmp_ne (tgt := 54) dX6_bribeOf_46 (by decide) (fun c27 => ?_) (fun c27 => ?_)
              · replace hJ26 := ite_f (P := fun v_ : Int => WP mX6_bribeOf Q 55 [vR 56, vI x1, vI x2, vI x3, vI x4] [vI v_] D19) hJ26 c27
                refine WP_iconst (z := (-1)) dX6_bribeOf_54 rfl ⟨by decide, by decide⟩ ?_
                exact hJ26
              · replace hJ26 := ite_t (P := fun v_ : Int => WP mX6_bribeOf Q 55 [vR 56, vI x1, vI x2, vI x3, vI x4] [vI v_] D19) hJ26 c27
                refine WP_iload (z := x4) dX6_bribeOf_49 rfl ?_
                refine WP_goto (tgt := 55) dX6_bribeOf_51 (by decide) ?_
                exact hJ26
            · refine WP_istore_n (ls1 := [vR 56, vI x1, vI x2, vI (if (fX6_lastIn D19) = x1 then (x4 : Int) else (-1)), vI x4]) dX6_bribeOf_55 (by decide) rfl ?_
              obtain ⟨v23, hv24⟩ : ∃ v23 : Int, v23 = (if (fX6_lastIn D19) = x1 then (x4 : Int) else (-1)) := ⟨_, rfl⟩
              replace h := h v23 hv24
              rw [← hv24]
              obtain ⟨o25, h⟩ := h
              refine WP_iinc (z := (x4 + 1)) (ls1 := [vR 56, vI x1, vI x2, vI v23, vI (x4 + 1)]) dX6_bribeOf_56 rfl (w32_id o25) (by decide) rfl ?_
              refine WP_goto (tgt := 16) dX6_bribeOf_59 (by decide) ?_
              exact ih16_ _ _ _ _ _ h.1 (by have := h.2; omega)
  have cut16_ : ∀ (x1 x2 x3 x4 : Int) (D : HP), I16 x1 x2 x3 x4 D → WP mX6_bribeOf Q 16 [vR 56, vI x1, vI x2, vI x3, vI x4] [] D := fun x1 x2 x3 x4 D hI => (IH (u16 x1 x2 x3 x4 D * 1 + 0 + 1)) x1 x2 x3 x4 D hI (by omega)
  refine WP_cD (fun hcD => ?_)
  refine WP_cl (fun hcl => ?_)
  have h := h0 hcD (cVs_g hcl (i := 1) (v := vI a) rfl)
  refine WP_aload_n (z := 56) dX6_bribeOf_0 rfl ?_
  obtain ⟨Q1, ct3, h⟩ := h
  refine WP_callV (g := mX6_reads) (as := []) (rest := []) (n := 0) dX6_bribeOf_1 wm_343 mo_X6_reads rfl rfl rfl rfl ⟨Nat.le_of_ble_eq_true rfl, Nat.le_of_ble_eq_true rfl⟩ (Nat.le_of_ble_eq_true rfl) ct3 (fun r_ D4 hq2 hok hD7 => ?_)
  obtain rfl := hok
  replace h := h D4 hq2 hD7
  show WP mX6_bribeOf Q 4 [vR 56, vI a, vU, vU, vU] [] D4
  refine WP_aload_n (z := 56) dX6_bribeOf_4 rfl ?_
  refine WP_getR (z := 63) dX6_bribeOf_5 fl_RX6_29 rfl rfl rfl ?_
  refine WP_iload_n (z := a) dX6_bribeOf_8 rfl ?_
  obtain ⟨o8, h⟩ := h
  refine WP_iald dX6_bribeOf_9 rfl o8.1 o8.2 rfl ?_
  refine WP_istore_n (ls1 := [vR 56, vI a, vI (D4 63 a.toNat), vU, vU]) dX6_bribeOf_10 (by decide) rfl ?_
  refine WP_iconst (z := (-1)) dX6_bribeOf_11 rfl ⟨by decide, by decide⟩ ?_
  refine WP_istore_n (ls1 := [vR 56, vI a, vI (D4 63 a.toNat), vI (-1), vU]) dX6_bribeOf_12 (by decide) rfl ?_
  refine WP_iconst (z := 0) dX6_bribeOf_13 rfl ⟨by decide, by decide⟩ ?_
  refine WP_istore (ls1 := [vR 56, vI a, vI (D4 63 a.toNat), vI (-1), vI 0]) dX6_bribeOf_14 (by decide) rfl ?_
  exact cut16_ _ _ _ _ _ h
set_option maxRecDepth 100000 in
set_option maxHeartbeats 4000000 in
theorem V_X6_bribe (a : Int) {D : HP} {Q : Option MV → HP → Prop}
    (h0 : cD D → c32 a → (∃ Q1 : Option MV → HP → Prop, CT mX6_isCandidate [vR 56, vI a] D Q1 ∧ ∀ (r5 : Int) (D4 : HP), Q1 (some (vI r5)) D4 → c32 r5 → cD D4 → ((r5 = 0 → (Q (some (vI (-2))) D4)) ∧ (¬ (r5 = 0) → (∃ Q9 : Option MV → HP → Prop, CT mX6_bribeOf [vR 56, vI a] D4 Q9 ∧ ∀ (r13 : Int) (D12 : HP), Q9 (some (vI r13)) D12 → c32 r13 → cD D12 → (Q (some (vI r13)) D12))))))
    : CT mX6_bribe [vR 56, vI a] D Q := by
  refine CT.of 0 (by decide) (Nat.le_of_ble_eq_true rfl) ?_
  show WP mX6_bribe Q 0 [vR 56, vI a] [] D
  refine WP_cD (fun hcD => ?_)
  refine WP_cl (fun hcl => ?_)
  have h := h0 hcD (cVs_g hcl (i := 1) (v := vI a) rfl)
  refine WP_aload_n (z := 56) dX6_bribe_0 rfl ?_
  refine WP_iload_n (z := a) dX6_bribe_1 rfl ?_
  obtain ⟨Q1, ct3, h⟩ := h
  refine WP_callV (g := mX6_isCandidate) (as := [vI a]) (rest := []) (n := 1) dX6_bribe_2 wm_386 mo_X6_isCandidate rfl rfl rfl rfl ⟨Nat.le_of_ble_eq_true rfl, Nat.le_of_ble_eq_true rfl⟩ (Nat.le_of_ble_eq_true rfl) ct3 (fun r_ D4 hq2 hok hD7 => ?_)
  obtain ⟨r5, rfl, hr6⟩ := hok
  replace h := h r5 D4 hq2 hr6 hD7
  show WP mX6_bribe Q 5 [vR 56, vI a] [vI r5] D4
  refine WP_if_eq (tgt := 16) dX6_bribe_5 (by decide) (fun c8 => ?_) (fun c8 => ?_)
  · replace h := h.1 c8
    refine WP_bipush (z := (-2)) dX6_bribe_16 rfl (by decide) ?_
    exact WP_ireturn dX6_bribe_18 rfl h
  · replace h := h.2 c8
    refine WP_aload_n (z := 56) dX6_bribe_8 rfl ?_
    refine WP_iload_n (z := a) dX6_bribe_9 rfl ?_
    obtain ⟨Q9, ct11, h⟩ := h
    refine WP_callV (g := mX6_bribeOf) (as := [vI a]) (rest := []) (n := 1) dX6_bribe_10 wm_625 mo_X6_bribeOf rfl rfl rfl rfl ⟨Nat.le_of_ble_eq_true rfl, Nat.le_of_ble_eq_true rfl⟩ (Nat.le_of_ble_eq_true rfl) ct11 (fun r_ D12 hq10 hok hD15 => ?_)
    obtain ⟨r13, rfl, hr14⟩ := hok
    replace h := h r13 D12 hq10 hr14 hD15
    show WP mX6_bribe Q 13 [vR 56, vI a] [vI r13] D12
    refine WP_goto (tgt := 18) dX6_bribe_13 (by decide) ?_
    exact WP_ireturn dX6_bribe_18 rfl h
set_option maxRecDepth 100000 in
set_option maxHeartbeats 4000000 in
theorem V_X6_seen (a : Int) (b : Int) {D : HP} {Q : Option MV → HP → Prop}
    (h0 : cD D → c32 a → c32 b → (((fX6_within D a 0 11) = 0 → (Q (some (vI (-2))) D)) ∧ (¬ ((fX6_within D a 0 11) = 0) → (((fX6_within D b 0 8) = 0 → (Q (some (vI (-2))) D)) ∧ (¬ ((fX6_within D b 0 8) = 0) → (((D 56 17) = 8 → (Q (some (vI (-4))) D)) ∧ (¬ ((D 56 17) = 8) → ((0 ≤ (D 56 17) ∧ (D 56 17) < 8) ∧ (∀ (E4 : HP), E4 = (hu D 70 ((D 56 17)).toNat a) → ((0 ≤ (E4 56 17) ∧ (E4 56 17) < 8) ∧ (∀ (E6 : HP), E6 = (hu E4 71 ((E4 56 17)).toNat b) → ((c32 ((E6 56 17) + 1)) ∧ (∀ (E8 : HP), E8 = (hu E6 56 17 ((E6 56 17) + 1)) → (Q (some (vI (E8 56 17))) E8))))))))))))))
    : CT mX6_seen [vR 56, vI a, vI b] D Q := by
  refine CT.of 0 (by decide) (Nat.le_of_ble_eq_true rfl) ?_
  show WP mX6_seen Q 0 [vR 56, vI a, vI b] [] D
  refine WP_cD (fun hcD => ?_)
  refine WP_cl (fun hcl => ?_)
  have h := h0 hcD (cVs_g hcl (i := 1) (v := vI a) rfl) (cVs_g hcl (i := 2) (v := vI b) rfl)
  refine WP_iload_n (z := a) dX6_seen_0 rfl ?_
  refine WP_iconst (z := 0) dX6_seen_1 rfl ⟨by decide, by decide⟩ ?_
  refine WP_bipush (z := 11) dX6_seen_2 rfl (by decide) ?_
  refine WP_pcallS (g := mX6_within) (as := [vI a, vI 0, vI 11]) (rest := []) (n := 3) (r := vI (fX6_within D a 0 11)) dX6_seen_4 wm_262 mo_X6_within rfl rfl ⟨Nat.le_of_ble_eq_true rfl, Nat.le_of_ble_eq_true rfl⟩ (Nat.le_of_ble_eq_true rfl) (P_X6_within  trivial) ?_
  refine WP_if_eq (tgt := 20) dX6_seen_7 (by decide) (fun c1 => ?_) (fun c1 => ?_)
  · replace h := h.1 c1
    refine WP_bipush (z := (-2)) dX6_seen_20 rfl (by decide) ?_
    exact WP_ireturn dX6_seen_22 rfl h
  · replace h := h.2 c1
    refine WP_iload_n (z := b) dX6_seen_10 rfl ?_
    refine WP_iconst (z := 0) dX6_seen_11 rfl ⟨by decide, by decide⟩ ?_
    refine WP_bipush (z := 8) dX6_seen_12 rfl (by decide) ?_
    refine WP_pcallS (g := mX6_within) (as := [vI b, vI 0, vI 8]) (rest := []) (n := 3) (r := vI (fX6_within D b 0 8)) dX6_seen_14 wm_262 mo_X6_within rfl rfl ⟨Nat.le_of_ble_eq_true rfl, Nat.le_of_ble_eq_true rfl⟩ (Nat.le_of_ble_eq_true rfl) (P_X6_within  trivial) ?_
    refine WP_if_ne (tgt := 23) dX6_seen_17 (by decide) (fun c2 => ?_) (fun c2 => ?_)
    · replace h := h.2 c2
      refine WP_aload_n (z := 56) dX6_seen_23 rfl ?_
      refine WP_getI dX6_seen_24 fl_RX6_217 rfl rfl rfl ?_
      refine WP_bipush (z := 8) dX6_seen_27 rfl (by decide) ?_
      refine WP_icmp_ne (tgt := 35) dX6_seen_29 (by decide) (fun c3 => ?_) (fun c3 => ?_)
      · replace h := h.2 c3
        refine WP_aload_n (z := 56) dX6_seen_35 rfl ?_
        refine WP_getR (z := 70) dX6_seen_36 fl_RX6_50 rfl rfl rfl ?_
        refine WP_aload_n (z := 56) dX6_seen_39 rfl ?_
        refine WP_getI dX6_seen_40 fl_RX6_217 rfl rfl rfl ?_
        refine WP_iload_n (z := a) dX6_seen_43 rfl ?_
        obtain ⟨o12, h⟩ := h
        refine WP_iast dX6_seen_44 rfl o12.1 o12.2 ?_
        obtain ⟨E4, hE5⟩ : ∃ E4 : HP, E4 = (hu D 70 ((D 56 17)).toNat a) := ⟨_, rfl⟩
        replace h := h E4 hE5
        show WP mX6_seen Q 45 [vR 56, vI a, vI b] [] (hu D 70 ((D 56 17)).toNat a)
        rw [← hE5]
        refine WP_aload_n (z := 56) dX6_seen_45 rfl ?_
        refine WP_getR (z := 71) dX6_seen_46 fl_RX6_53 rfl rfl rfl ?_
        refine WP_aload_n (z := 56) dX6_seen_49 rfl ?_
        refine WP_getI dX6_seen_50 fl_RX6_217 rfl rfl rfl ?_
        refine WP_iload_n (z := b) dX6_seen_53 rfl ?_
        obtain ⟨o11, h⟩ := h
        refine WP_iast dX6_seen_54 rfl o11.1 o11.2 ?_
        obtain ⟨E6, hE7⟩ : ∃ E6 : HP, E6 = (hu E4 71 ((E4 56 17)).toNat b) := ⟨_, rfl⟩
        replace h := h E6 hE7
        show WP mX6_seen Q 55 [vR 56, vI a, vI b] [] (hu E4 71 ((E4 56 17)).toNat b)
        rw [← hE7]
        refine WP_aload_n (z := 56) dX6_seen_55 rfl ?_
        refine WP_dup dX6_seen_56 (Nat.ne_of_beq_eq_false rfl) ?_
        refine WP_getI dX6_seen_57 fl_RX6_217 rfl rfl rfl ?_
        refine WP_iconst (z := 1) dX6_seen_60 rfl ⟨by decide, by decide⟩ ?_
        obtain ⟨o10, h⟩ := h
        refine WP_iadd (z := ((E6 56 17) + 1)) dX6_seen_61 (w32_id o10) ?_
        refine WP_putI dX6_seen_62 fp_RX6_217 rfl rfl ?_
        obtain ⟨E8, hE9⟩ : ∃ E8 : HP, E8 = (hu E6 56 17 ((E6 56 17) + 1)) := ⟨_, rfl⟩
        replace h := h E8 hE9
        show WP mX6_seen Q 65 [vR 56, vI a, vI b] [] (hu E6 56 17 ((E6 56 17) + 1))
        rw [← hE9]
        refine WP_aload_n (z := 56) dX6_seen_65 rfl ?_
        refine WP_getI dX6_seen_66 fl_RX6_217 rfl rfl rfl ?_
        exact WP_ireturn dX6_seen_69 rfl h
      · replace h := h.1 c3
        refine WP_bipush (z := (-4)) dX6_seen_32 rfl (by decide) ?_
        exact WP_ireturn dX6_seen_34 rfl h
    · replace h := h.1 c2
      refine WP_bipush (z := (-2)) dX6_seen_20 rfl (by decide) ?_
      exact WP_ireturn dX6_seen_22 rfl h
set_option maxRecDepth 100000 in
set_option maxHeartbeats 4000000 in
theorem V_X6_forget  {D : HP} {Q : Option MV → HP → Prop}
    (h0 : cD D → (∀ (E1 : HP), E1 = (hu D 56 17 0) → (Q (some (vI (D 56 17))) E1)))
    : CT mX6_forget [vR 56] D Q := by
  refine CT.of 1 (by decide) (Nat.le_of_ble_eq_true rfl) ?_
  show WP mX6_forget Q 0 [vR 56, vU] [] D
  refine WP_cD (fun hcD => ?_)
  have h := h0 hcD
  refine WP_aload_n (z := 56) dX6_forget_0 rfl ?_
  refine WP_getI dX6_forget_1 fl_RX6_217 rfl rfl rfl ?_
  refine WP_istore_n (ls1 := [vR 56, vI (D 56 17)]) dX6_forget_4 (by decide) rfl ?_
  refine WP_aload_n (z := 56) dX6_forget_5 rfl ?_
  refine WP_iconst (z := 0) dX6_forget_6 rfl ⟨by decide, by decide⟩ ?_
  refine WP_putI dX6_forget_7 fp_RX6_217 rfl rfl ?_
  obtain ⟨E1, hE2⟩ : ∃ E1 : HP, E1 = (hu D 56 17 0) := ⟨_, rfl⟩
  replace h := h E1 hE2
  show WP mX6_forget Q 10 [vR 56, vI (D 56 17)] [] (hu D 56 17 0)
  rw [← hE2]
  refine WP_iload_n (z := (D 56 17)) dX6_forget_10 rfl ?_
  exact WP_ireturn dX6_forget_11 rfl h
def fX6_isSheet (D : HP) (a : Int) : Int := (fX6_within D a 0 3)
theorem bfX6_isSheet (D : HP) (a : Int) : fX6_isSheet D a = 0 ∨ fX6_isSheet D a = 1 := by unfold fX6_isSheet; exact (bfX6_within _ _ _ _)
def oX6_isSheet (D : HP) (a : Int) : Prop := True
set_option maxRecDepth 100000 in
set_option maxHeartbeats 4000000 in
theorem V_X6_isSheet (a : Int) {D : HP} {Q : Option MV → HP → Prop}
    (h0 : cD D → c32 a → (Q (some (vI (fX6_within D a 0 3))) D))
    : CT mX6_isSheet [vI a] D Q := by
  refine CT.of 0 (by decide) (Nat.le_of_ble_eq_true rfl) ?_
  show WP mX6_isSheet Q 0 [vI a] [] D
  refine WP_cD (fun hcD => ?_)
  refine WP_cl (fun hcl => ?_)
  have h := h0 hcD (cVs_g hcl (i := 0) (v := vI a) rfl)
  refine WP_iload_n (z := a) dX6_isSheet_0 rfl ?_
  refine WP_iconst (z := 0) dX6_isSheet_1 rfl ⟨by decide, by decide⟩ ?_
  refine WP_iconst (z := 3) dX6_isSheet_2 rfl ⟨by decide, by decide⟩ ?_
  refine WP_pcallS (g := mX6_within) (as := [vI a, vI 0, vI 3]) (rest := []) (n := 3) (r := vI (fX6_within D a 0 3)) dX6_isSheet_3 wm_262 mo_X6_within rfl rfl ⟨Nat.le_of_ble_eq_true rfl, Nat.le_of_ble_eq_true rfl⟩ (Nat.le_of_ble_eq_true rfl) (P_X6_within  trivial) ?_
  exact WP_zreturn dX6_isSheet_6 rfl (bfX6_within _ _ _ _) h
set_option maxRecDepth 100000 in
set_option maxHeartbeats 4000000 in
theorem P_X6_isSheet {a : Int} {D : HP} (hob : oX6_isSheet D a) : CT mX6_isSheet [vI a] D (PF (vI (fX6_isSheet D a)) D) := by
  refine V_X6_isSheet a (fun hcD hc_0 => ?_)
  obtain ⟨z, hz⟩ : ∃ z, z = fX6_isSheet D a := ⟨_, rfl⟩
  rw [← hz]
  unfold fX6_isSheet at hz
  exact ⟨by rw [hz], rfl⟩
set_option maxRecDepth 100000 in
set_option maxHeartbeats 4000000 in
theorem V_X6_meets (a : Int) {D : HP} {Q : Option MV → HP → Prop}
    (h0 : cD D → c32 a → (∀ (E1 : HP), E1 = (hu D 56 28 a) → ((c32 ((-10) - a)) ∧ (Q (some (vI ((-10) - a))) E1))))
    : CT mX6_meets [vR 56, vI a] D Q := by
  refine CT.of 0 (by decide) (Nat.le_of_ble_eq_true rfl) ?_
  show WP mX6_meets Q 0 [vR 56, vI a] [] D
  refine WP_cD (fun hcD => ?_)
  refine WP_cl (fun hcl => ?_)
  have h := h0 hcD (cVs_g hcl (i := 1) (v := vI a) rfl)
  refine WP_aload_n (z := 56) dX6_meets_0 rfl ?_
  refine WP_iload_n (z := a) dX6_meets_1 rfl ?_
  refine WP_putI dX6_meets_2 fp_RX6_268 rfl rfl ?_
  obtain ⟨E1, hE2⟩ : ∃ E1 : HP, E1 = (hu D 56 28 a) := ⟨_, rfl⟩
  replace h := h E1 hE2
  show WP mX6_meets Q 5 [vR 56, vI a] [] (hu D 56 28 a)
  rw [← hE2]
  refine WP_bipush (z := (-10)) dX6_meets_5 rfl (by decide) ?_
  refine WP_iload_n (z := a) dX6_meets_7 rfl ?_
  obtain ⟨o3, h⟩ := h
  refine WP_isub (z := ((-10) - a)) dX6_meets_8 (w32_id o3) ?_
  exact WP_ireturn dX6_meets_9 rfl h
set_option maxRecDepth 100000 in
set_option maxHeartbeats 4000000 in
theorem V_X6_read (a : Int) {D : HP} {Q : Option MV → HP → Prop} (I27 : Int → Int → HP → Prop) (u27 : Int → Int → HP → Nat)
    (h0 : cD D → c32 a → (((fX6_isSheet D a) = 0 → (Q (some (vI (-2))) D)) ∧ (¬ ((fX6_isSheet D a) = 0) → ((0 ≤ a ∧ a < 4) ∧ (((D 75 a.toNat) = 0 → (∃ Q3 : Option MV → HP → Prop, CT mX6_meets [vR 56, vI 1] D Q3 ∧ ∀ (r7 : Int) (D6 : HP), Q3 (some (vI r7)) D6 → c32 r7 → cD D6 → (Q (some (vI r7)) D6))) ∧ (¬ ((D 75 a.toNat) = 0) → (I27 a 0 D)))))))
    (h27 : ∀ (x1 x2 : Int) (D : HP), I27 x1 x2 D → cD D → c32 x1 → c32 x2 → ((c32 (2 * x2)) ∧ ((c32 ((2 * x2) + 1)) ∧ ((0 ≤ x1 ∧ x1 < 4) ∧ (((D 77 x1.toNat) ≤ ((2 * x2) + 1) → (Q (some (vI x2)) D)) ∧ (¬ ((D 77 x1.toNat) ≤ ((2 * x2) + 1)) → ((c32 (60 * x1)) ∧ ((c32 (2 * x2)) ∧ ((c32 ((60 * x1) + (2 * x2))) ∧ ((0 ≤ ((60 * x1) + (2 * x2)) ∧ ((60 * x1) + (2 * x2)) < 240) ∧ ((c32 (60 * x1)) ∧ ((c32 (2 * x2)) ∧ ((c32 ((60 * x1) + (2 * x2))) ∧ ((c32 (((60 * x1) + (2 * x2)) + 1)) ∧ ((0 ≤ (((60 * x1) + (2 * x2)) + 1) ∧ (((60 * x1) + (2 * x2)) + 1) < 240) ∧ (∃ Q12 : Option MV → HP → Prop, CT mX6_seen [vR 56, vI (D 78 (((60 * x1) + (2 * x2))).toNat), vI (D 78 ((((60 * x1) + (2 * x2)) + 1)).toNat)] D Q12 ∧ ∀ (r16 : Int) (D15 : HP), Q12 (some (vI r16)) D15 → c32 r16 → cD D15 → ((r16 ≤ 0 → (Q (some (vI x2)) D15)) ∧ (¬ (r16 ≤ 0) → ((c32 (x2 + 1)) ∧ (I27 x1 (x2 + 1) D15 ∧ u27 x1 (x2 + 1) D15 < u27 x1 x2 D))))))))))))))))))))
    : CT mX6_read [vR 56, vI a] D Q := by
  refine CT.of 1 (by decide) (Nat.le_of_ble_eq_true rfl) ?_
  show WP mX6_read Q 0 [vR 56, vI a, vU] [] D
  have IH : ∀ n : Nat, (∀ (x1 x2 : Int) (D : HP), I27 x1 x2 D → u27 x1 x2 D * 1 + 0 < n → WP mX6_read Q 27 [vR 56, vI x1, vI x2] [] D) := by
    intro n
    induction n with
    | zero => exact fun _ _ _ _ h => absurd h (Nat.not_lt_zero _)
    | succ n ih =>
      have ih27_ := ih
      · intro x1 x2 D hI hn
        refine WP_cD (fun hcD => ?_)
        refine WP_cl (fun hcl => ?_)
        have h := h27 x1 x2 D hI hcD (cVs_g hcl (i := 1) (v := vI x1) rfl) (cVs_g hcl (i := 2) (v := vI x2) rfl)
        refine WP_iconst (z := 2) dX6_read_27 rfl ⟨by decide, by decide⟩ ?_
        refine WP_iload_n (z := x2) dX6_read_28 rfl ?_
        obtain ⟨o32, h⟩ := h
        refine WP_imul (z := (2 * x2)) dX6_read_29 (w32_id o32) ?_
        refine WP_iconst (z := 1) dX6_read_30 rfl ⟨by decide, by decide⟩ ?_
        obtain ⟨o31, h⟩ := h
        refine WP_iadd (z := ((2 * x2) + 1)) dX6_read_31 (w32_id o31) ?_
        refine WP_aload_n (z := 56) dX6_read_32 rfl ?_
        refine WP_getR (z := 77) dX6_read_33 fl_RX6_71 rfl rfl rfl ?_
        refine WP_iload_n (z := x1) dX6_read_36 rfl ?_
        obtain ⟨o30, h⟩ := h
        refine WP_iald dX6_read_37 rfl o30.1 o30.2 rfl ?_
        refine WP_icmp_ge (tgt := 82) dX6_read_38 (by decide) (fun c11 => ?_) (fun c11 => ?_)
        · replace h := h.1 c11
          refine WP_iload_n (z := x2) dX6_read_82 rfl ?_
          exact WP_ireturn dX6_read_83 rfl h
        · replace h := h.2 c11
          refine WP_aload_n (z := 56) dX6_read_41 rfl ?_
          refine WP_aload_n (z := 56) dX6_read_42 rfl ?_
          refine WP_getR (z := 78) dX6_read_43 fl_RX6_74 rfl rfl rfl ?_
          refine WP_bipush (z := 60) dX6_read_46 rfl (by decide) ?_
          refine WP_iload_n (z := x1) dX6_read_48 rfl ?_
          obtain ⟨o29, h⟩ := h
          refine WP_imul (z := (60 * x1)) dX6_read_49 (w32_id o29) ?_
          refine WP_iconst (z := 2) dX6_read_50 rfl ⟨by decide, by decide⟩ ?_
          refine WP_iload_n (z := x2) dX6_read_51 rfl ?_
          obtain ⟨o28, h⟩ := h
          refine WP_imul (z := (2 * x2)) dX6_read_52 (w32_id o28) ?_
          obtain ⟨o27, h⟩ := h
          refine WP_iadd (z := ((60 * x1) + (2 * x2))) dX6_read_53 (w32_id o27) ?_
          obtain ⟨o26, h⟩ := h
          refine WP_iald dX6_read_54 rfl o26.1 o26.2 rfl ?_
          refine WP_aload_n (z := 56) dX6_read_55 rfl ?_
          refine WP_getR (z := 78) dX6_read_56 fl_RX6_74 rfl rfl rfl ?_
          refine WP_bipush (z := 60) dX6_read_59 rfl (by decide) ?_
          refine WP_iload_n (z := x1) dX6_read_61 rfl ?_
          obtain ⟨o25, h⟩ := h
          refine WP_imul (z := (60 * x1)) dX6_read_62 (w32_id o25) ?_
          refine WP_iconst (z := 2) dX6_read_63 rfl ⟨by decide, by decide⟩ ?_
          refine WP_iload_n (z := x2) dX6_read_64 rfl ?_
          obtain ⟨o24, h⟩ := h
          refine WP_imul (z := (2 * x2)) dX6_read_65 (w32_id o24) ?_
          obtain ⟨o23, h⟩ := h
          refine WP_iadd (z := ((60 * x1) + (2 * x2))) dX6_read_66 (w32_id o23) ?_
          refine WP_iconst (z := 1) dX6_read_67 rfl ⟨by decide, by decide⟩ ?_
          obtain ⟨o22, h⟩ := h
          refine WP_iadd (z := (((60 * x1) + (2 * x2)) + 1)) dX6_read_68 (w32_id o22) ?_
          obtain ⟨o21, h⟩ := h
          refine WP_iald dX6_read_69 rfl o21.1 o21.2 rfl ?_
          obtain ⟨Q12, ct14, h⟩ := h
          refine WP_callV (g := mX6_seen) (as := [vI (D 78 (((60 * x1) + (2 * x2))).toNat), vI (D 78 ((((60 * x1) + (2 * x2)) + 1)).toNat)]) (rest := []) (n := 2) dX6_read_70 wm_692 mo_X6_seen rfl rfl rfl rfl ⟨Nat.le_of_ble_eq_true rfl, Nat.le_of_ble_eq_true rfl⟩ (Nat.le_of_ble_eq_true rfl) ct14 (fun r_ D15 hq13 hok hD18 => ?_)
          obtain ⟨r16, rfl, hr17⟩ := hok
          replace h := h r16 D15 hq13 hr17 hD18
          show WP mX6_read Q 73 [vR 56, vI x1, vI x2] [vI r16] D15
          refine WP_if_le (tgt := 82) dX6_read_73 (by decide) (fun c19 => ?_) (fun c19 => ?_)
          · replace h := h.1 c19
            refine WP_iload_n (z := x2) dX6_read_82 rfl ?_
            exact WP_ireturn dX6_read_83 rfl h
          · replace h := h.2 c19
            obtain ⟨o20, h⟩ := h
            refine WP_iinc (z := (x2 + 1)) (ls1 := [vR 56, vI x1, vI (x2 + 1)]) dX6_read_76 rfl (w32_id o20) (by decide) rfl ?_
            refine WP_goto (tgt := 27) dX6_read_79 (by decide) ?_
            exact ih27_ _ _ _ h.1 (by have := h.2; omega)
  have cut27_ : ∀ (x1 x2 : Int) (D : HP), I27 x1 x2 D → WP mX6_read Q 27 [vR 56, vI x1, vI x2] [] D := fun x1 x2 D hI => (IH (u27 x1 x2 D * 1 + 0 + 1)) x1 x2 D hI (by omega)
  refine WP_cD (fun hcD => ?_)
  refine WP_cl (fun hcl => ?_)
  have h := h0 hcD (cVs_g hcl (i := 1) (v := vI a) rfl)
  refine WP_iload_n (z := a) dX6_read_0 rfl ?_
  refine WP_pcallS (g := mX6_isSheet) (as := [vI a]) (rest := []) (n := 1) (r := vI (fX6_isSheet D a)) dX6_read_1 wm_684 mo_X6_isSheet rfl rfl ⟨Nat.le_of_ble_eq_true rfl, Nat.le_of_ble_eq_true rfl⟩ (Nat.le_of_ble_eq_true rfl) (P_X6_isSheet  trivial) ?_
  refine WP_if_ne (tgt := 10) dX6_read_4 (by decide) (fun c1 => ?_) (fun c1 => ?_)
  · replace h := h.2 c1
    refine WP_aload_n (z := 56) dX6_read_10 rfl ?_
    refine WP_getR (z := 75) dX6_read_11 fl_RX6_65 rfl rfl rfl ?_
    refine WP_iload_n (z := a) dX6_read_14 rfl ?_
    obtain ⟨o10, h⟩ := h
    refine WP_zald dX6_read_15 rfl o10.1 o10.2 rfl ?_
    refine WP_if_ne (tgt := 25) dX6_read_16 (by decide) (fun c2 => ?_) (fun c2 => ?_)
    · replace h := h.2 c2
      refine WP_iconst (z := 0) dX6_read_25 rfl ⟨by decide, by decide⟩ ?_
      refine WP_istore_n (ls1 := [vR 56, vI a, vI 0]) dX6_read_26 (by decide) rfl ?_
      exact cut27_ _ _ _ h
    · replace h := h.1 c2
      refine WP_aload_n (z := 56) dX6_read_19 rfl ?_
      refine WP_iconst (z := 1) dX6_read_20 rfl ⟨by decide, by decide⟩ ?_
      obtain ⟨Q3, ct5, h⟩ := h
      refine WP_callV (g := mX6_meets) (as := [vI 1]) (rest := []) (n := 1) dX6_read_21 wm_687 mo_X6_meets rfl rfl rfl rfl ⟨Nat.le_of_ble_eq_true rfl, Nat.le_of_ble_eq_true rfl⟩ (Nat.le_of_ble_eq_true rfl) ct5 (fun r_ D6 hq4 hok hD9 => ?_)
      obtain ⟨r7, rfl, hr8⟩ := hok
      replace h := h r7 D6 hq4 hr8 hD9
      show WP mX6_read Q 24 [vR 56, vI a, vU] [vI r7] D6
      exact WP_ireturn dX6_read_24 rfl h
  · replace h := h.1 c1
    refine WP_bipush (z := (-2)) dX6_read_7 rfl (by decide) ?_
    exact WP_ireturn dX6_read_9 rfl h
set_option maxRecDepth 100000 in
set_option maxHeartbeats 4000000 in
theorem V_X6_isSeen  {D : HP} {Q : Option MV → HP → Prop} (I8 : Int → Int → HP → Prop) (u8 : Int → Int → HP → Nat)
    (h0 : cD D → (∃ Q1 : Option MV → HP → Prop, CT mX6_runs [vR 56] D Q1 ∧ ∀ (D4 : HP), Q1 none D4 → cD D4 → (I8 1 0 D4)))
    (h8 : ∀ (x1 x2 : Int) (D : HP), I8 x1 x2 D → cD D → c32 x1 → c32 x2 → (((D 56 17) ≤ x2 → ((x1 = 0 ∨ x1 = 1) ∧ Q (some (vI x1)) D)) ∧ (¬ ((D 56 17) ≤ x2) → ((x1 = 0 → ((x1 = 0 ∨ x1 = 1) ∧ Q (some (vI x1)) D)) ∧ (¬ (x1 = 0) → ((0 ≤ x2 ∧ x2 < 8) ∧ (((((D 71 x2.toNat) = 8) → True) ∧ (¬ ((D 71 x2.toNat) = 8) → (0 ≤ x2 ∧ x2 < 8))) ∧ (∀ (v11 : Int), v11 = (if (D 71 x2.toNat) = 8 then ((-1) : Int) else (D 71 x2.toNat)) → ((0 ≤ x2 ∧ x2 < 8) ∧ (((((D 56 5) ≤ (D 70 x2.toNat)) → True) ∧ (¬ ((D 56 5) ≤ (D 70 x2.toNat)) → (0 ≤ x2 ∧ x2 < 8) ∧ (0 ≤ (D 70 x2.toNat) ∧ (D 70 x2.toNat) < 12))) ∧ (∀ (v14 : Int), v14 = (if (D 56 5) ≤ (D 70 x2.toNat) then (0 : Int) else (if (D 69 ((D 70 x2.toNat)).toNat) = v11 then (1 : Int) else 0)) → ((c32 (x2 + 1)) ∧ (I8 v14 (x2 + 1) D ∧ u8 v14 (x2 + 1) D < u8 x1 x2 D)))))))))))))
    : CT mX6_isSeen [vR 56] D Q := by
  refine CT.of 3 (by decide) (Nat.le_of_ble_eq_true rfl) ?_
  show WP mX6_isSeen Q 0 [vR 56, vU, vU, vU] [] D
  have IH : ∀ n : Nat, (∀ (x1 x2 : Int) (D : HP), I8 x1 x2 D → u8 x1 x2 D * 1 + 0 < n → WP mX6_isSeen Q 8 [vR 56, vI x1, vI x2, vU] [] D) := by
    intro n
    induction n with
    | zero => exact fun _ _ _ _ h => absurd h (Nat.not_lt_zero _)
    | succ n ih =>
      have ih8_ := ih
      · intro x1 x2 D hI hn
        refine WP_cD (fun hcD => ?_)
        refine WP_cl (fun hcl => ?_)
        have h := h8 x1 x2 D hI hcD (cVs_g hcl (i := 1) (v := vI x1) rfl) (cVs_g hcl (i := 2) (v := vI x2) rfl)
        refine WP_iload_n (z := x2) dX6_isSeen_8 rfl ?_
        refine WP_aload_n (z := 56) dX6_isSeen_9 rfl ?_
        refine WP_getI dX6_isSeen_10 fl_RX6_217 rfl rfl rfl ?_
        refine WP_icmp_ge (tgt := 82) dX6_isSeen_13 (by decide) (fun c8 => ?_) (fun c8 => ?_)
        · replace h := h.1 c8
          refine WP_iload_n (z := x1) dX6_isSeen_82 rfl ?_
          exact WP_zreturn dX6_isSeen_83 rfl h.1 h.2
        · replace h := h.2 c8
          refine WP_iload_n (z := x1) dX6_isSeen_16 rfl ?_
          refine WP_if_eq (tgt := 82) dX6_isSeen_17 (by decide) (fun c9 => ?_) (fun c9 => ?_)
          · replace h := h.1 c9
            refine WP_iload_n (z := x1) dX6_isSeen_82 rfl ?_
            exact WP_zreturn dX6_isSeen_83 rfl h.1 h.2
          · replace h := h.2 c9
            refine WP_aload_n (z := 56) dX6_isSeen_20 rfl ?_
            refine WP_getR (z := 71) dX6_isSeen_21 fl_RX6_53 rfl rfl rfl ?_
            refine WP_iload_n (z := x2) dX6_isSeen_24 rfl ?_
            obtain ⟨o28, h⟩ := h
            refine WP_iald dX6_isSeen_25 rfl o28.1 o28.2 rfl ?_
            refine WP_bipush (z := 8) dX6_isSeen_26 rfl (by decide) ?_
            obtain ⟨o10, h⟩ := h
            refine WP_via (pc1 := 41) (ls1 := [vR 56, vI x1, vI x2, vU]) (st1 := [vI (if (D 71 x2.toNat) = 8 then ((-1) : Int) else (D 71 x2.toNat))]) (D1 := D) (fun hJ24 => ?_) ?_
            · refine WP_icmp_ne (tgt := 35) dX6_isSeen_28 (by decide) (fun c25 => ?_) (fun c25 => ?_)
              · replace hJ24 := ite_f (P := fun v_ : Int => WP mX6_isSeen Q 41 [vR 56, vI x1, vI x2, vU] [vI v_] D) hJ24 c25
                have o27 := o10.2 c25
                refine WP_aload_n (z := 56) dX6_isSeen_35 rfl ?_
                refine WP_getR (z := 71) dX6_isSeen_36 fl_RX6_53 rfl rfl rfl ?_
                refine WP_iload_n (z := x2) dX6_isSeen_39 rfl ?_
                refine WP_iald dX6_isSeen_40 rfl o27.1 o27.2 rfl ?_
                exact hJ24
              · replace hJ24 := ite_t (P := fun v_ : Int => WP mX6_isSeen Q 41 [vR 56, vI x1, vI x2, vU] [vI v_] D) hJ24 c25
                have o26 := o10.1 c25
                refine WP_iconst (z := (-1)) dX6_isSeen_31 rfl ⟨by decide, by decide⟩ ?_
                refine WP_goto (tgt := 41) dX6_isSeen_32 (by decide) ?_
                exact hJ24
            · refine WP_istore_n (ls1 := [vR 56, vI x1, vI x2, vI (if (D 71 x2.toNat) = 8 then ((-1) : Int) else (D 71 x2.toNat))]) dX6_isSeen_41 (by decide) rfl ?_
              obtain ⟨v11, hv12⟩ : ∃ v11 : Int, v11 = (if (D 71 x2.toNat) = 8 then ((-1) : Int) else (D 71 x2.toNat)) := ⟨_, rfl⟩
              replace h := h v11 hv12
              rw [← hv12]
              refine WP_aload_n (z := 56) dX6_isSeen_42 rfl ?_
              refine WP_getR (z := 70) dX6_isSeen_43 fl_RX6_50 rfl rfl rfl ?_
              refine WP_iload_n (z := x2) dX6_isSeen_46 rfl ?_
              obtain ⟨o23, h⟩ := h
              refine WP_iald dX6_isSeen_47 rfl o23.1 o23.2 rfl ?_
              refine WP_aload_n (z := 56) dX6_isSeen_48 rfl ?_
              refine WP_getI dX6_isSeen_49 fl_RX6_101 rfl rfl rfl ?_
              obtain ⟨o13, h⟩ := h
              refine WP_via (pc1 := 75) (ls1 := [vR 56, vI x1, vI x2, vI v11]) (st1 := [vI (if (D 56 5) ≤ (D 70 x2.toNat) then (0 : Int) else (if (D 69 ((D 70 x2.toNat)).toNat) = v11 then (1 : Int) else 0))]) (D1 := D) (fun hJ17 => ?_) ?_
              · refine WP_icmp_ge (tgt := 74) dX6_isSeen_52 (by decide) (fun c18 => ?_) (fun c18 => ?_)
                · replace hJ17 := ite_t (P := fun v_ : Int => WP mX6_isSeen Q 75 [vR 56, vI x1, vI x2, vI v11] [vI v_] D) hJ17 c18
                  have o19 := o13.1 c18
                  refine WP_iconst (z := 0) dX6_isSeen_74 rfl ⟨by decide, by decide⟩ ?_
                  exact hJ17
                · replace hJ17 := ite_f (P := fun v_ : Int => WP mX6_isSeen Q 75 [vR 56, vI x1, vI x2, vI v11] [vI v_] D) hJ17 c18
                  have o20 := o13.2 c18
                  refine WP_aload_n (z := 56) dX6_isSeen_55 rfl ?_
                  refine WP_getR (z := 69) dX6_isSeen_56 fl_RX6_47 rfl rfl rfl ?_
                  refine WP_aload_n (z := 56) dX6_isSeen_59 rfl ?_
                  refine WP_getR (z := 70) dX6_isSeen_60 fl_RX6_50 rfl rfl rfl ?_
                  refine WP_iload_n (z := x2) dX6_isSeen_63 rfl ?_
                  refine WP_iald dX6_isSeen_64 rfl o20.1.1 o20.1.2 rfl ?_
                  refine WP_iald dX6_isSeen_65 rfl o20.2.1 o20.2.2 rfl ?_
                  refine WP_iload_n (z := v11) dX6_isSeen_66 rfl ?_
                  refine WP_via (pc1 := 75) (ls1 := [vR 56, vI x1, vI x2, vI v11]) (st1 := [vI (if (D 69 ((D 70 x2.toNat)).toNat) = v11 then (1 : Int) else 0)]) (D1 := D) (fun hJ21 => ?_) ?_
                  · refine WP_icmp_ne (tgt := 74) dX6_isSeen_67 (by decide) (fun c22 => ?_) (fun c22 => ?_)
                    · replace hJ21 := ite_f (P := fun v_ : Int => WP mX6_isSeen Q 75 [vR 56, vI x1, vI x2, vI v11] [vI v_] D) hJ21 c22
                      refine WP_iconst (z := 0) dX6_isSeen_74 rfl ⟨by decide, by decide⟩ ?_
                      exact hJ21
                    · replace hJ21 := ite_t (P := fun v_ : Int => WP mX6_isSeen Q 75 [vR 56, vI x1, vI x2, vI v11] [vI v_] D) hJ21 c22
                      refine WP_iconst (z := 1) dX6_isSeen_70 rfl ⟨by decide, by decide⟩ ?_
                      refine WP_goto (tgt := 75) dX6_isSeen_71 (by decide) ?_
                      exact hJ21
                  exact hJ17
              · refine WP_istore_n (ls1 := [vR 56, vI (if (D 56 5) ≤ (D 70 x2.toNat) then (0 : Int) else (if (D 69 ((D 70 x2.toNat)).toNat) = v11 then (1 : Int) else 0)), vI x2, vI v11]) dX6_isSeen_75 (by decide) rfl ?_
                obtain ⟨v14, hv15⟩ : ∃ v14 : Int, v14 = (if (D 56 5) ≤ (D 70 x2.toNat) then (0 : Int) else (if (D 69 ((D 70 x2.toNat)).toNat) = v11 then (1 : Int) else 0)) := ⟨_, rfl⟩
                replace h := h v14 hv15
                rw [← hv15]
                obtain ⟨o16, h⟩ := h
                refine WP_iinc (z := (x2 + 1)) (ls1 := [vR 56, vI v14, vI (x2 + 1), vI v11]) dX6_isSeen_76 rfl (w32_id o16) (by decide) rfl ?_
                refine WP_goto (tgt := 8) dX6_isSeen_79 (by decide) ?_
                refine WP_fg 3 (ls1 := [vR 56, vI v14, vI (x2 + 1), vU]) rfl ?_
                exact ih8_ _ _ _ h.1 (by have := h.2; omega)
  have cut8_ : ∀ (x1 x2 : Int) (D : HP), I8 x1 x2 D → WP mX6_isSeen Q 8 [vR 56, vI x1, vI x2, vU] [] D := fun x1 x2 D hI => (IH (u8 x1 x2 D * 1 + 0 + 1)) x1 x2 D hI (by omega)
  refine WP_cD (fun hcD => ?_)
  have h := h0 hcD
  refine WP_aload_n (z := 56) dX6_isSeen_0 rfl ?_
  obtain ⟨Q1, ct3, h⟩ := h
  refine WP_callV (g := mX6_runs) (as := []) (rest := []) (n := 0) dX6_isSeen_1 wm_415 mo_X6_runs rfl rfl rfl rfl ⟨Nat.le_of_ble_eq_true rfl, Nat.le_of_ble_eq_true rfl⟩ (Nat.le_of_ble_eq_true rfl) ct3 (fun r_ D4 hq2 hok hD7 => ?_)
  obtain rfl := hok
  replace h := h D4 hq2 hD7
  show WP mX6_isSeen Q 4 [vR 56, vU, vU, vU] [] D4
  refine WP_iconst (z := 1) dX6_isSeen_4 rfl ⟨by decide, by decide⟩ ?_
  refine WP_istore_n (ls1 := [vR 56, vI 1, vU, vU]) dX6_isSeen_5 (by decide) rfl ?_
  refine WP_iconst (z := 0) dX6_isSeen_6 rfl ⟨by decide, by decide⟩ ?_
  refine WP_istore_n (ls1 := [vR 56, vI 1, vI 0, vU]) dX6_isSeen_7 (by decide) rfl ?_
  exact cut8_ _ _ _ h
set_option maxRecDepth 100000 in
set_option maxHeartbeats 4000000 in
theorem V_X6_blows (a : Int) {D : HP} {Q : Option MV → HP → Prop} (I24 : Int → Int → Int → Int → Int → HP → Prop) (u24 : Int → Int → Int → Int → Int → HP → Nat) (I87 : Int → Int → Int → Int → Int → Int → HP → Prop) (u87 : Int → Int → Int → Int → Int → Int → HP → Nat)
    (h0 : cD D → c32 a → (∃ Q1 : Option MV → HP → Prop, CT mX6_reads [vR 56] D Q1 ∧ ∀ (D4 : HP), Q1 none D4 → cD D4 → ((0 ≤ a ∧ a < 12) ∧ ((0 ≤ a ∧ a < 12) ∧ (I24 a (D4 60 a.toNat) (D4 61 a.toNat) 0 0 D4)))))
    (h24 : ∀ (x1 x2 x3 x4 x5 : Int) (D : HP), I24 x1 x2 x3 x4 x5 D → cD D → c32 x1 → c32 x2 → c32 x3 → c32 x4 → c32 x5 → ((40 ≤ x5 → ((0 ≤ x1 ∧ x1 < 12) ∧ (∀ (E11 : HP), E11 = (hu D 60 x1.toNat x2) → ((0 ≤ x1 ∧ x1 < 12) ∧ (∀ (E13 : HP), E13 = (hu E11 61 x1.toNat x3) → (Q (some (vI x4)) E13)))))) ∧ (¬ (40 ≤ x5) → ((0 ≤ x5) ∧ ((0 ≤ x1 ∧ x1 < 12) ∧ (∀ (E17 : HP), E17 = (hu D 60 x1.toNat (x5 / 10)) → ((0 ≤ x5) ∧ ((0 ≤ x1 ∧ x1 < 12) ∧ (∀ (E19 : HP), E19 = (hu E17 61 x1.toNat (x5 % 10)) → (∃ Q21 : Option MV → HP → Prop, CT mX6_isSeen [vR 56] E19 Q21 ∧ ∀ (r25 : Int) (D24 : HP), Q21 (some (vI r25)) D24 → c32 r25 → cD D24 → ((0 ≤ x5 ∧ x5 < 40) ∧ ((r25 = 0 ∨ r25 = 1) ∧ (∀ (E28 : HP), E28 = (hu D24 72 x5.toNat r25) → ((0 ≤ x5 ∧ x5 < 40) ∧ ((c32 (x4 + (if (E28 72 x5.toNat) = 0 then (0 : Int) else 1))) ∧ (∀ (v30 : Int), v30 = (x4 + (if (E28 72 x5.toNat) = 0 then (0 : Int) else 1)) → (I87 x1 x2 x3 v30 x5 0 E28 ∧ u87 x1 x2 x3 v30 x5 0 E28 ≤ u24 x1 x2 x3 x4 x5 D)))))))))))))))))
    (h87 : ∀ (x1 x2 x3 x4 x5 x6 : Int) (D : HP), I87 x1 x2 x3 x4 x5 x6 D → cD D → c32 x1 → c32 x2 → c32 x3 → c32 x4 → c32 x5 → c32 x6 → (((D 56 5) ≤ x6 → ((c32 (x5 + 1)) ∧ (I24 x1 x2 x3 x4 (x5 + 1) D ∧ u24 x1 x2 x3 x4 (x5 + 1) D < u87 x1 x2 x3 x4 x5 x6 D))) ∧ (¬ ((D 56 5) ≤ x6) → ((c32 (12 * x5)) ∧ ((c32 ((12 * x5) + x6)) ∧ ((0 ≤ x6 ∧ x6 < 12) ∧ ((0 ≤ ((12 * x5) + x6) ∧ ((12 * x5) + x6) < 480) ∧ (∀ (E44 : HP), E44 = (hu D 73 (((12 * x5) + x6)).toNat (D 69 x6.toNat)) → ((c32 (x6 + 1)) ∧ (I87 x1 x2 x3 x4 x5 (x6 + 1) E44 ∧ u87 x1 x2 x3 x4 x5 (x6 + 1) E44 < u87 x1 x2 x3 x4 x5 x6 D))))))))))
    : CT mX6_blows [vR 56, vI a] D Q := by
  refine CT.of 5 (by decide) (Nat.le_of_ble_eq_true rfl) ?_
  show WP mX6_blows Q 0 [vR 56, vI a, vU, vU, vU, vU, vU] [] D
  have IH : ∀ n : Nat, (∀ (x1 x2 x3 x4 x5 : Int) (D : HP), I24 x1 x2 x3 x4 x5 D → u24 x1 x2 x3 x4 x5 D * 2 + 1 < n → WP mX6_blows Q 24 [vR 56, vI x1, vI x2, vI x3, vI x4, vI x5, vU] [] D) ∧ (∀ (x1 x2 x3 x4 x5 x6 : Int) (D : HP), I87 x1 x2 x3 x4 x5 x6 D → u87 x1 x2 x3 x4 x5 x6 D * 2 + 0 < n → WP mX6_blows Q 87 [vR 56, vI x1, vI x2, vI x3, vI x4, vI x5, vI x6] [] D) := by
    intro n
    induction n with
    | zero => exact ⟨fun _ _ _ _ _ _ _ h => absurd h (Nat.not_lt_zero _), fun _ _ _ _ _ _ _ _ h => absurd h (Nat.not_lt_zero _)⟩
    | succ n ih =>
      have ih24_ := ih.1
      have ih87_ := ih.2
      refine ⟨?_, ?_⟩
      · intro x1 x2 x3 x4 x5 D hI hn
        refine WP_cD (fun hcD => ?_)
        refine WP_cl (fun hcl => ?_)
        have h := h24 x1 x2 x3 x4 x5 D hI hcD (cVs_g hcl (i := 1) (v := vI x1) rfl) (cVs_g hcl (i := 2) (v := vI x2) rfl) (cVs_g hcl (i := 3) (v := vI x3) rfl) (cVs_g hcl (i := 4) (v := vI x4) rfl) (cVs_g hcl (i := 5) (v := vI x5) rfl)
        refine WP_iload (z := x5) dX6_blows_24 rfl ?_
        refine WP_bipush (z := 40) dX6_blows_26 rfl (by decide) ?_
        refine WP_icmp_ge (tgt := 128) dX6_blows_28 (by decide) (fun c10 => ?_) (fun c10 => ?_)
        · replace h := h.1 c10
          refine WP_aload_n (z := 56) dX6_blows_128 rfl ?_
          refine WP_getR (z := 60) dX6_blows_129 fl_RX6_20 rfl rfl rfl ?_
          refine WP_iload_n (z := x1) dX6_blows_132 rfl ?_
          refine WP_iload_n (z := x2) dX6_blows_133 rfl ?_
          obtain ⟨o16, h⟩ := h
          refine WP_iast dX6_blows_134 rfl o16.1 o16.2 ?_
          obtain ⟨E11, hE12⟩ : ∃ E11 : HP, E11 = (hu D 60 x1.toNat x2) := ⟨_, rfl⟩
          replace h := h E11 hE12
          show WP mX6_blows Q 135 [vR 56, vI x1, vI x2, vI x3, vI x4, vI x5, vU] [] (hu D 60 x1.toNat x2)
          rw [← hE12]
          refine WP_aload_n (z := 56) dX6_blows_135 rfl ?_
          refine WP_getR (z := 61) dX6_blows_136 fl_RX6_23 rfl rfl rfl ?_
          refine WP_iload_n (z := x1) dX6_blows_139 rfl ?_
          refine WP_iload_n (z := x3) dX6_blows_140 rfl ?_
          obtain ⟨o15, h⟩ := h
          refine WP_iast dX6_blows_141 rfl o15.1 o15.2 ?_
          obtain ⟨E13, hE14⟩ : ∃ E13 : HP, E13 = (hu E11 61 x1.toNat x3) := ⟨_, rfl⟩
          replace h := h E13 hE14
          show WP mX6_blows Q 142 [vR 56, vI x1, vI x2, vI x3, vI x4, vI x5, vU] [] (hu E11 61 x1.toNat x3)
          rw [← hE14]
          refine WP_iload (z := x4) dX6_blows_142 rfl ?_
          exact WP_ireturn dX6_blows_144 rfl h
        · replace h := h.2 c10
          refine WP_aload_n (z := 56) dX6_blows_31 rfl ?_
          refine WP_getR (z := 60) dX6_blows_32 fl_RX6_20 rfl rfl rfl ?_
          refine WP_iload_n (z := x1) dX6_blows_35 rfl ?_
          refine WP_iload (z := x5) dX6_blows_36 rfl ?_
          refine WP_bipush (z := 10) dX6_blows_38 rfl (by decide) ?_
          obtain ⟨o41, h⟩ := h
          refine WP_idiv dX6_blows_40 o41 (by decide) rfl ?_
          obtain ⟨o40, h⟩ := h
          refine WP_iast dX6_blows_41 rfl o40.1 o40.2 ?_
          obtain ⟨E17, hE18⟩ : ∃ E17 : HP, E17 = (hu D 60 x1.toNat (x5 / 10)) := ⟨_, rfl⟩
          replace h := h E17 hE18
          show WP mX6_blows Q 42 [vR 56, vI x1, vI x2, vI x3, vI x4, vI x5, vU] [] (hu D 60 x1.toNat (x5 / 10))
          rw [← hE18]
          refine WP_aload_n (z := 56) dX6_blows_42 rfl ?_
          refine WP_getR (z := 61) dX6_blows_43 fl_RX6_23 rfl rfl rfl ?_
          refine WP_iload_n (z := x1) dX6_blows_46 rfl ?_
          refine WP_iload (z := x5) dX6_blows_47 rfl ?_
          refine WP_bipush (z := 10) dX6_blows_49 rfl (by decide) ?_
          obtain ⟨o39, h⟩ := h
          refine WP_irem dX6_blows_51 o39 (by decide) rfl ?_
          obtain ⟨o38, h⟩ := h
          refine WP_iast dX6_blows_52 rfl o38.1 o38.2 ?_
          obtain ⟨E19, hE20⟩ : ∃ E19 : HP, E19 = (hu E17 61 x1.toNat (x5 % 10)) := ⟨_, rfl⟩
          replace h := h E19 hE20
          show WP mX6_blows Q 53 [vR 56, vI x1, vI x2, vI x3, vI x4, vI x5, vU] [] (hu E17 61 x1.toNat (x5 % 10))
          rw [← hE20]
          refine WP_aload_n (z := 56) dX6_blows_53 rfl ?_
          refine WP_getR (z := 72) dX6_blows_54 fl_RX6_56 rfl rfl rfl ?_
          refine WP_iload (z := x5) dX6_blows_57 rfl ?_
          refine WP_aload_n (z := 56) dX6_blows_59 rfl ?_
          obtain ⟨Q21, ct23, h⟩ := h
          refine WP_callV (g := mX6_isSeen) (as := []) (rest := [vI x5, vR 72]) (n := 0) dX6_blows_60 wm_727 mo_X6_isSeen rfl rfl rfl rfl ⟨Nat.le_of_ble_eq_true rfl, Nat.le_of_ble_eq_true rfl⟩ (Nat.le_of_ble_eq_true rfl) ct23 (fun r_ D24 hq22 hok hD27 => ?_)
          obtain ⟨r25, rfl, hr26⟩ := hok
          replace h := h r25 D24 hq22 hr26 hD27
          show WP mX6_blows Q 63 [vR 56, vI x1, vI x2, vI x3, vI x4, vI x5, vU] [vI r25, vI x5, vR 72] D24
          obtain ⟨o36, h⟩ := h
          obtain ⟨o37, h⟩ := h
          refine WP_zast dX6_blows_63 rfl o36.1 o36.2 o37 ?_
          obtain ⟨E28, hE29⟩ : ∃ E28 : HP, E28 = (hu D24 72 x5.toNat r25) := ⟨_, rfl⟩
          replace h := h E28 hE29
          show WP mX6_blows Q 64 [vR 56, vI x1, vI x2, vI x3, vI x4, vI x5, vU] [] (hu D24 72 x5.toNat r25)
          rw [← hE29]
          refine WP_iload (z := x4) dX6_blows_64 rfl ?_
          refine WP_aload_n (z := 56) dX6_blows_66 rfl ?_
          refine WP_getR (z := 72) dX6_blows_67 fl_RX6_56 rfl rfl rfl ?_
          refine WP_iload (z := x5) dX6_blows_70 rfl ?_
          obtain ⟨o35, h⟩ := h
          refine WP_zald dX6_blows_72 rfl o35.1 o35.2 rfl ?_
          refine WP_via (pc1 := 81) (ls1 := [vR 56, vI x1, vI x2, vI x3, vI x4, vI x5, vU]) (st1 := [vI (if (E28 72 x5.toNat) = 0 then (0 : Int) else 1), vI x4]) (D1 := E28) (fun hJ33 => ?_) ?_
          · refine WP_if_eq (tgt := 80) dX6_blows_73 (by decide) (fun c34 => ?_) (fun c34 => ?_)
            · replace hJ33 := ite_t (P := fun v_ : Int => WP mX6_blows Q 81 [vR 56, vI x1, vI x2, vI x3, vI x4, vI x5, vU] [vI v_, vI x4] E28) hJ33 c34
              refine WP_iconst (z := 0) dX6_blows_80 rfl ⟨by decide, by decide⟩ ?_
              exact hJ33
            · replace hJ33 := ite_f (P := fun v_ : Int => WP mX6_blows Q 81 [vR 56, vI x1, vI x2, vI x3, vI x4, vI x5, vU] [vI v_, vI x4] E28) hJ33 c34
              refine WP_iconst (z := 1) dX6_blows_76 rfl ⟨by decide, by decide⟩ ?_
              refine WP_goto (tgt := 81) dX6_blows_77 (by decide) ?_
              exact hJ33
          · obtain ⟨o32, h⟩ := h
            refine WP_iadd (z := (x4 + (if (E28 72 x5.toNat) = 0 then (0 : Int) else 1))) dX6_blows_81 (w32_id o32) ?_
            refine WP_istore (ls1 := [vR 56, vI x1, vI x2, vI x3, vI (x4 + (if (E28 72 x5.toNat) = 0 then (0 : Int) else 1)), vI x5, vU]) dX6_blows_82 (by decide) rfl ?_
            obtain ⟨v30, hv31⟩ : ∃ v30 : Int, v30 = (x4 + (if (E28 72 x5.toNat) = 0 then (0 : Int) else 1)) := ⟨_, rfl⟩
            replace h := h v30 hv31
            rw [← hv31]
            refine WP_iconst (z := 0) dX6_blows_84 rfl ⟨by decide, by decide⟩ ?_
            refine WP_istore (ls1 := [vR 56, vI x1, vI x2, vI x3, vI v30, vI x5, vI 0]) dX6_blows_85 (by decide) rfl ?_
            exact ih87_ _ _ _ _ _ _ _ h.1 (by have := h.2; omega)
      · intro x1 x2 x3 x4 x5 x6 D hI hn
        refine WP_cD (fun hcD => ?_)
        refine WP_cl (fun hcl => ?_)
        have h := h87 x1 x2 x3 x4 x5 x6 D hI hcD (cVs_g hcl (i := 1) (v := vI x1) rfl) (cVs_g hcl (i := 2) (v := vI x2) rfl) (cVs_g hcl (i := 3) (v := vI x3) rfl) (cVs_g hcl (i := 4) (v := vI x4) rfl) (cVs_g hcl (i := 5) (v := vI x5) rfl) (cVs_g hcl (i := 6) (v := vI x6) rfl)
        refine WP_iload (z := x6) dX6_blows_87 rfl ?_
        refine WP_aload_n (z := 56) dX6_blows_89 rfl ?_
        refine WP_getI dX6_blows_90 fl_RX6_101 rfl rfl rfl ?_
        refine WP_icmp_ge (tgt := 122) dX6_blows_93 (by decide) (fun c42 => ?_) (fun c42 => ?_)
        · replace h := h.1 c42
          obtain ⟨o43, h⟩ := h
          refine WP_iinc (z := (x5 + 1)) (ls1 := [vR 56, vI x1, vI x2, vI x3, vI x4, vI (x5 + 1), vI x6]) dX6_blows_122 rfl (w32_id o43) (by decide) rfl ?_
          refine WP_goto (tgt := 24) dX6_blows_125 (by decide) ?_
          refine WP_fg 6 (ls1 := [vR 56, vI x1, vI x2, vI x3, vI x4, vI (x5 + 1), vU]) rfl ?_
          exact ih24_ _ _ _ _ _ _ h.1 (by have := h.2; omega)
        · replace h := h.2 c42
          refine WP_aload_n (z := 56) dX6_blows_96 rfl ?_
          refine WP_getR (z := 73) dX6_blows_97 fl_RX6_59 rfl rfl rfl ?_
          refine WP_bipush (z := 12) dX6_blows_100 rfl (by decide) ?_
          refine WP_iload (z := x5) dX6_blows_102 rfl ?_
          obtain ⟨o50, h⟩ := h
          refine WP_imul (z := (12 * x5)) dX6_blows_104 (w32_id o50) ?_
          refine WP_iload (z := x6) dX6_blows_105 rfl ?_
          obtain ⟨o49, h⟩ := h
          refine WP_iadd (z := ((12 * x5) + x6)) dX6_blows_107 (w32_id o49) ?_
          refine WP_aload_n (z := 56) dX6_blows_108 rfl ?_
          refine WP_getR (z := 69) dX6_blows_109 fl_RX6_47 rfl rfl rfl ?_
          refine WP_iload (z := x6) dX6_blows_112 rfl ?_
          obtain ⟨o48, h⟩ := h
          refine WP_iald dX6_blows_114 rfl o48.1 o48.2 rfl ?_
          obtain ⟨o47, h⟩ := h
          refine WP_iast dX6_blows_115 rfl o47.1 o47.2 ?_
          obtain ⟨E44, hE45⟩ : ∃ E44 : HP, E44 = (hu D 73 (((12 * x5) + x6)).toNat (D 69 x6.toNat)) := ⟨_, rfl⟩
          replace h := h E44 hE45
          show WP mX6_blows Q 116 [vR 56, vI x1, vI x2, vI x3, vI x4, vI x5, vI x6] [] (hu D 73 (((12 * x5) + x6)).toNat (D 69 x6.toNat))
          rw [← hE45]
          obtain ⟨o46, h⟩ := h
          refine WP_iinc (z := (x6 + 1)) (ls1 := [vR 56, vI x1, vI x2, vI x3, vI x4, vI x5, vI (x6 + 1)]) dX6_blows_116 rfl (w32_id o46) (by decide) rfl ?_
          refine WP_goto (tgt := 87) dX6_blows_119 (by decide) ?_
          exact ih87_ _ _ _ _ _ _ _ h.1 (by have := h.2; omega)
  have cut24_ : ∀ (x1 x2 x3 x4 x5 : Int) (D : HP), I24 x1 x2 x3 x4 x5 D → WP mX6_blows Q 24 [vR 56, vI x1, vI x2, vI x3, vI x4, vI x5, vU] [] D := fun x1 x2 x3 x4 x5 D hI => (IH (u24 x1 x2 x3 x4 x5 D * 2 + 1 + 1)).1 x1 x2 x3 x4 x5 D hI (by omega)
  have cut87_ : ∀ (x1 x2 x3 x4 x5 x6 : Int) (D : HP), I87 x1 x2 x3 x4 x5 x6 D → WP mX6_blows Q 87 [vR 56, vI x1, vI x2, vI x3, vI x4, vI x5, vI x6] [] D := fun x1 x2 x3 x4 x5 x6 D hI => (IH (u87 x1 x2 x3 x4 x5 x6 D * 2 + 0 + 1)).2 x1 x2 x3 x4 x5 x6 D hI (by omega)
  refine WP_cD (fun hcD => ?_)
  refine WP_cl (fun hcl => ?_)
  have h := h0 hcD (cVs_g hcl (i := 1) (v := vI a) rfl)
  refine WP_aload_n (z := 56) dX6_blows_0 rfl ?_
  obtain ⟨Q1, ct3, h⟩ := h
  refine WP_callV (g := mX6_reads) (as := []) (rest := []) (n := 0) dX6_blows_1 wm_343 mo_X6_reads rfl rfl rfl rfl ⟨Nat.le_of_ble_eq_true rfl, Nat.le_of_ble_eq_true rfl⟩ (Nat.le_of_ble_eq_true rfl) ct3 (fun r_ D4 hq2 hok hD7 => ?_)
  obtain rfl := hok
  replace h := h D4 hq2 hD7
  show WP mX6_blows Q 4 [vR 56, vI a, vU, vU, vU, vU, vU] [] D4
  refine WP_aload_n (z := 56) dX6_blows_4 rfl ?_
  refine WP_getR (z := 60) dX6_blows_5 fl_RX6_20 rfl rfl rfl ?_
  refine WP_iload_n (z := a) dX6_blows_8 rfl ?_
  obtain ⟨o9, h⟩ := h
  refine WP_iald dX6_blows_9 rfl o9.1 o9.2 rfl ?_
  refine WP_istore_n (ls1 := [vR 56, vI a, vI (D4 60 a.toNat), vU, vU, vU, vU]) dX6_blows_10 (by decide) rfl ?_
  refine WP_aload_n (z := 56) dX6_blows_11 rfl ?_
  refine WP_getR (z := 61) dX6_blows_12 fl_RX6_23 rfl rfl rfl ?_
  refine WP_iload_n (z := a) dX6_blows_15 rfl ?_
  obtain ⟨o8, h⟩ := h
  refine WP_iald dX6_blows_16 rfl o8.1 o8.2 rfl ?_
  refine WP_istore_n (ls1 := [vR 56, vI a, vI (D4 60 a.toNat), vI (D4 61 a.toNat), vU, vU, vU]) dX6_blows_17 (by decide) rfl ?_
  refine WP_iconst (z := 0) dX6_blows_18 rfl ⟨by decide, by decide⟩ ?_
  refine WP_istore (ls1 := [vR 56, vI a, vI (D4 60 a.toNat), vI (D4 61 a.toNat), vI 0, vU, vU]) dX6_blows_19 (by decide) rfl ?_
  refine WP_iconst (z := 0) dX6_blows_21 rfl ⟨by decide, by decide⟩ ?_
  refine WP_istore (ls1 := [vR 56, vI a, vI (D4 60 a.toNat), vI (D4 61 a.toNat), vI 0, vI 0, vU]) dX6_blows_22 (by decide) rfl ?_
  exact cut24_ _ _ _ _ _ _ h
set_option maxRecDepth 100000 in
set_option maxHeartbeats 4000000 in
theorem V_X6_blewOf (a : Int) (b : Int) {D : HP} {Q : Option MV → HP → Prop} (I19 : Int → Int → Int → Int → Int → HP → Prop) (u19 : Int → Int → Int → Int → Int → HP → Nat)
    (h0 : cD D → c32 a → c32 b → (∃ Q1 : Option MV → HP → Prop, CT mX6_blows [vR 56, vI a] D Q1 ∧ ∀ (r5 : Int) (D4 : HP), Q1 (some (vI r5)) D4 → c32 r5 → cD D4 → ((b = (-1) → (Q (some (vI r5)) D4)) ∧ (¬ (b = (-1)) → (I19 a b r5 b 0 D4)))))
    (h19 : ∀ (x1 x2 x3 x4 x5 : Int) (D : HP), I19 x1 x2 x3 x4 x5 D → cD D → c32 x1 → c32 x2 → c32 x3 → c32 x4 → c32 x5 → ((40 ≤ x5 → (Q (some (vI (-1))) D)) ∧ (¬ (40 ≤ x5) → ((0 ≤ x5 ∧ x5 < 40) ∧ (((D 72 x5.toNat) = 0 → ((0 ≤ x5 ∧ x5 < 40) ∧ ((c32 (x4 - (if (D 72 x5.toNat) = 0 then (0 : Int) else 1))) ∧ (∀ (v11 : Int), v11 = (x4 - (if (D 72 x5.toNat) = 0 then (0 : Int) else 1)) → ((c32 (x5 + 1)) ∧ (I19 x1 x2 x3 v11 (x5 + 1) D ∧ u19 x1 x2 x3 v11 (x5 + 1) D < u19 x1 x2 x3 x4 x5 D)))))) ∧ (¬ ((D 72 x5.toNat) = 0) → ((x4 = 0 → (Q (some (vI x5)) D)) ∧ (¬ (x4 = 0) → ((0 ≤ x5 ∧ x5 < 40) ∧ ((c32 (x4 - (if (D 72 x5.toNat) = 0 then (0 : Int) else 1))) ∧ (∀ (v19 : Int), v19 = (x4 - (if (D 72 x5.toNat) = 0 then (0 : Int) else 1)) → ((c32 (x5 + 1)) ∧ (I19 x1 x2 x3 v19 (x5 + 1) D ∧ u19 x1 x2 x3 v19 (x5 + 1) D < u19 x1 x2 x3 x4 x5 D)))))))))))))
    : CT mX6_blewOf [vR 56, vI a, vI b] D Q := by
  refine CT.of 3 (by decide) (Nat.le_of_ble_eq_true rfl) ?_
  show WP mX6_blewOf Q 0 [vR 56, vI a, vI b, vU, vU, vU] [] D
  have IH : ∀ n : Nat, (∀ (x1 x2 x3 x4 x5 : Int) (D : HP), I19 x1 x2 x3 x4 x5 D → u19 x1 x2 x3 x4 x5 D * 1 + 0 < n → WP mX6_blewOf Q 19 [vR 56, vI x1, vI x2, vI x3, vI x4, vI x5] [] D) := by
    intro n
    induction n with
    | zero => exact fun _ _ _ _ _ _ _ h => absurd h (Nat.not_lt_zero _)
    | succ n ih =>
      have ih19_ := ih
      · intro x1 x2 x3 x4 x5 D hI hn
        refine WP_cD (fun hcD => ?_)
        refine WP_cl (fun hcl => ?_)
        have h := h19 x1 x2 x3 x4 x5 D hI hcD (cVs_g hcl (i := 1) (v := vI x1) rfl) (cVs_g hcl (i := 2) (v := vI x2) rfl) (cVs_g hcl (i := 3) (v := vI x3) rfl) (cVs_g hcl (i := 4) (v := vI x4) rfl) (cVs_g hcl (i := 5) (v := vI x5) rfl)
        refine WP_iload (z := x5) dX6_blewOf_19 rfl ?_
        refine WP_bipush (z := 40) dX6_blewOf_21 rfl (by decide) ?_
        refine WP_icmp_ge (tgt := 70) dX6_blewOf_23 (by decide) (fun c9 => ?_) (fun c9 => ?_)
        · replace h := h.1 c9
          refine WP_iconst (z := (-1)) dX6_blewOf_70 rfl ⟨by decide, by decide⟩ ?_
          exact WP_ireturn dX6_blewOf_71 rfl h
        · replace h := h.2 c9
          refine WP_aload_n (z := 56) dX6_blewOf_26 rfl ?_
          refine WP_getR (z := 72) dX6_blewOf_27 fl_RX6_56 rfl rfl rfl ?_
          refine WP_iload (z := x5) dX6_blewOf_30 rfl ?_
          obtain ⟨o26, h⟩ := h
          refine WP_zald dX6_blewOf_32 rfl o26.1 o26.2 rfl ?_
          refine WP_if_eq (tgt := 44) dX6_blewOf_33 (by decide) (fun c10 => ?_) (fun c10 => ?_)
          · replace h := h.1 c10
            refine WP_iload (z := x4) dX6_blewOf_44 rfl ?_
            refine WP_aload_n (z := 56) dX6_blewOf_46 rfl ?_
            refine WP_getR (z := 72) dX6_blewOf_47 fl_RX6_56 rfl rfl rfl ?_
            refine WP_iload (z := x5) dX6_blewOf_50 rfl ?_
            obtain ⟨o17, h⟩ := h
            refine WP_zald dX6_blewOf_52 rfl o17.1 o17.2 rfl ?_
            refine WP_via (pc1 := 61) (ls1 := [vR 56, vI x1, vI x2, vI x3, vI x4, vI x5]) (st1 := [vI (if (D 72 x5.toNat) = 0 then (0 : Int) else 1), vI x4]) (D1 := D) (fun hJ15 => ?_) ?_
            · refine WP_if_eq (tgt := 60) dX6_blewOf_53 (by decide) (fun c16 => ?_) (fun c16 => ?_)
              · replace hJ15 := ite_t (P := fun v_ : Int => WP mX6_blewOf Q 61 [vR 56, vI x1, vI x2, vI x3, vI x4, vI x5] [vI v_, vI x4] D) hJ15 c16
                refine WP_iconst (z := 0) dX6_blewOf_60 rfl ⟨by decide, by decide⟩ ?_
                exact hJ15
              · replace hJ15 := ite_f (P := fun v_ : Int => WP mX6_blewOf Q 61 [vR 56, vI x1, vI x2, vI x3, vI x4, vI x5] [vI v_, vI x4] D) hJ15 c16
                refine WP_iconst (z := 1) dX6_blewOf_56 rfl ⟨by decide, by decide⟩ ?_
                refine WP_goto (tgt := 61) dX6_blewOf_57 (by decide) ?_
                exact hJ15
            · obtain ⟨o14, h⟩ := h
              refine WP_isub (z := (x4 - (if (D 72 x5.toNat) = 0 then (0 : Int) else 1))) dX6_blewOf_61 (w32_id o14) ?_
              refine WP_istore (ls1 := [vR 56, vI x1, vI x2, vI x3, vI (x4 - (if (D 72 x5.toNat) = 0 then (0 : Int) else 1)), vI x5]) dX6_blewOf_62 (by decide) rfl ?_
              obtain ⟨v11, hv12⟩ : ∃ v11 : Int, v11 = (x4 - (if (D 72 x5.toNat) = 0 then (0 : Int) else 1)) := ⟨_, rfl⟩
              replace h := h v11 hv12
              rw [← hv12]
              obtain ⟨o13, h⟩ := h
              refine WP_iinc (z := (x5 + 1)) (ls1 := [vR 56, vI x1, vI x2, vI x3, vI v11, vI (x5 + 1)]) dX6_blewOf_64 rfl (w32_id o13) (by decide) rfl ?_
              refine WP_goto (tgt := 19) dX6_blewOf_67 (by decide) ?_
              exact ih19_ _ _ _ _ _ _ h.1 (by have := h.2; omega)
          · replace h := h.2 c10
            refine WP_iload (z := x4) dX6_blewOf_36 rfl ?_
            refine WP_if_ne (tgt := 44) dX6_blewOf_38 (by decide) (fun c18 => ?_) (fun c18 => ?_)
            · replace h := h.2 c18
              refine WP_iload (z := x4) dX6_blewOf_44 rfl ?_
              refine WP_aload_n (z := 56) dX6_blewOf_46 rfl ?_
              refine WP_getR (z := 72) dX6_blewOf_47 fl_RX6_56 rfl rfl rfl ?_
              refine WP_iload (z := x5) dX6_blewOf_50 rfl ?_
              obtain ⟨o25, h⟩ := h
              refine WP_zald dX6_blewOf_52 rfl o25.1 o25.2 rfl ?_
              refine WP_via (pc1 := 61) (ls1 := [vR 56, vI x1, vI x2, vI x3, vI x4, vI x5]) (st1 := [vI (if (D 72 x5.toNat) = 0 then (0 : Int) else 1), vI x4]) (D1 := D) (fun hJ23 => ?_) ?_
              · refine WP_if_eq (tgt := 60) dX6_blewOf_53 (by decide) (fun c24 => ?_) (fun c24 => ?_)
                · replace hJ23 := ite_t (P := fun v_ : Int => WP mX6_blewOf Q 61 [vR 56, vI x1, vI x2, vI x3, vI x4, vI x5] [vI v_, vI x4] D) hJ23 c24
                  refine WP_iconst (z := 0) dX6_blewOf_60 rfl ⟨by decide, by decide⟩ ?_
                  exact hJ23
                · replace hJ23 := ite_f (P := fun v_ : Int => WP mX6_blewOf Q 61 [vR 56, vI x1, vI x2, vI x3, vI x4, vI x5] [vI v_, vI x4] D) hJ23 c24
                  refine WP_iconst (z := 1) dX6_blewOf_56 rfl ⟨by decide, by decide⟩ ?_
                  refine WP_goto (tgt := 61) dX6_blewOf_57 (by decide) ?_
                  exact hJ23
              · obtain ⟨o22, h⟩ := h
                refine WP_isub (z := (x4 - (if (D 72 x5.toNat) = 0 then (0 : Int) else 1))) dX6_blewOf_61 (w32_id o22) ?_
                refine WP_istore (ls1 := [vR 56, vI x1, vI x2, vI x3, vI (x4 - (if (D 72 x5.toNat) = 0 then (0 : Int) else 1)), vI x5]) dX6_blewOf_62 (by decide) rfl ?_
                obtain ⟨v19, hv20⟩ : ∃ v19 : Int, v19 = (x4 - (if (D 72 x5.toNat) = 0 then (0 : Int) else 1)) := ⟨_, rfl⟩
                replace h := h v19 hv20
                rw [← hv20]
                obtain ⟨o21, h⟩ := h
                refine WP_iinc (z := (x5 + 1)) (ls1 := [vR 56, vI x1, vI x2, vI x3, vI v19, vI (x5 + 1)]) dX6_blewOf_64 rfl (w32_id o21) (by decide) rfl ?_
                refine WP_goto (tgt := 19) dX6_blewOf_67 (by decide) ?_
                exact ih19_ _ _ _ _ _ _ h.1 (by have := h.2; omega)
            · replace h := h.1 c18
              refine WP_iload (z := x5) dX6_blewOf_41 rfl ?_
              exact WP_ireturn dX6_blewOf_43 rfl h
  have cut19_ : ∀ (x1 x2 x3 x4 x5 : Int) (D : HP), I19 x1 x2 x3 x4 x5 D → WP mX6_blewOf Q 19 [vR 56, vI x1, vI x2, vI x3, vI x4, vI x5] [] D := fun x1 x2 x3 x4 x5 D hI => (IH (u19 x1 x2 x3 x4 x5 D * 1 + 0 + 1)) x1 x2 x3 x4 x5 D hI (by omega)
  refine WP_cD (fun hcD => ?_)
  refine WP_cl (fun hcl => ?_)
  have h := h0 hcD (cVs_g hcl (i := 1) (v := vI a) rfl) (cVs_g hcl (i := 2) (v := vI b) rfl)
  refine WP_aload_n (z := 56) dX6_blewOf_0 rfl ?_
  refine WP_iload_n (z := a) dX6_blewOf_1 rfl ?_
  obtain ⟨Q1, ct3, h⟩ := h
  refine WP_callV (g := mX6_blows) (as := [vI a]) (rest := []) (n := 1) dX6_blewOf_2 wm_723 mo_X6_blows rfl rfl rfl rfl ⟨Nat.le_of_ble_eq_true rfl, Nat.le_of_ble_eq_true rfl⟩ (Nat.le_of_ble_eq_true rfl) ct3 (fun r_ D4 hq2 hok hD7 => ?_)
  obtain ⟨r5, rfl, hr6⟩ := hok
  replace h := h r5 D4 hq2 hr6 hD7
  show WP mX6_blewOf Q 5 [vR 56, vI a, vI b, vU, vU, vU] [vI r5] D4
  refine WP_istore_n (ls1 := [vR 56, vI a, vI b, vI r5, vU, vU]) dX6_blewOf_5 (by decide) rfl ?_
  refine WP_iload_n (z := b) dX6_blewOf_6 rfl ?_
  refine WP_iconst (z := (-1)) dX6_blewOf_7 rfl ⟨by decide, by decide⟩ ?_
  refine WP_icmp_ne (tgt := 13) dX6_blewOf_8 (by decide) (fun c8 => ?_) (fun c8 => ?_)
  · replace h := h.2 c8
    refine WP_iload_n (z := b) dX6_blewOf_13 rfl ?_
    refine WP_istore (ls1 := [vR 56, vI a, vI b, vI r5, vI b, vU]) dX6_blewOf_14 (by decide) rfl ?_
    refine WP_iconst (z := 0) dX6_blewOf_16 rfl ⟨by decide, by decide⟩ ?_
    refine WP_istore (ls1 := [vR 56, vI a, vI b, vI r5, vI b, vI 0]) dX6_blewOf_17 (by decide) rfl ?_
    exact cut19_ _ _ _ _ _ _ h
  · replace h := h.1 c8
    refine WP_iload_n (z := r5) dX6_blewOf_11 rfl ?_
    exact WP_ireturn dX6_blewOf_12 rfl h
set_option maxRecDepth 100000 in
set_option maxHeartbeats 4000000 in
theorem V_X6_blew (a : Int) (b : Int) {D : HP} {Q : Option MV → HP → Prop}
    (h0 : cD D → c32 a → c32 b → (∃ Q1 : Option MV → HP → Prop, CT mX6_isMinute [vR 56, vI a] D Q1 ∧ ∀ (r5 : Int) (D4 : HP), Q1 (some (vI r5)) D4 → c32 r5 → cD D4 → ((r5 = 0 → (Q (some (vI (-2))) D4)) ∧ (¬ (r5 = 0) → (((fX6_within D4 b (-1) 39) = 0 → (Q (some (vI (-2))) D4)) ∧ (¬ ((fX6_within D4 b (-1) 39) = 0) → (∃ Q10 : Option MV → HP → Prop, CT mX6_blewOf [vR 56, vI a, vI b] D4 Q10 ∧ ∀ (r14 : Int) (D13 : HP), Q10 (some (vI r14)) D13 → c32 r14 → cD D13 → (Q (some (vI r14)) D13))))))))
    : CT mX6_blew [vR 56, vI a, vI b] D Q := by
  refine CT.of 0 (by decide) (Nat.le_of_ble_eq_true rfl) ?_
  show WP mX6_blew Q 0 [vR 56, vI a, vI b] [] D
  refine WP_cD (fun hcD => ?_)
  refine WP_cl (fun hcl => ?_)
  have h := h0 hcD (cVs_g hcl (i := 1) (v := vI a) rfl) (cVs_g hcl (i := 2) (v := vI b) rfl)
  refine WP_aload_n (z := 56) dX6_blew_0 rfl ?_
  refine WP_iload_n (z := a) dX6_blew_1 rfl ?_
  obtain ⟨Q1, ct3, h⟩ := h
  refine WP_callV (g := mX6_isMinute) (as := [vI a]) (rest := []) (n := 1) dX6_blew_2 wm_362 mo_X6_isMinute rfl rfl rfl rfl ⟨Nat.le_of_ble_eq_true rfl, Nat.le_of_ble_eq_true rfl⟩ (Nat.le_of_ble_eq_true rfl) ct3 (fun r_ D4 hq2 hok hD7 => ?_)
  obtain ⟨r5, rfl, hr6⟩ := hok
  replace h := h r5 D4 hq2 hr6 hD7
  show WP mX6_blew Q 5 [vR 56, vI a, vI b] [vI r5] D4
  refine WP_if_eq (tgt := 27) dX6_blew_5 (by decide) (fun c8 => ?_) (fun c8 => ?_)
  · replace h := h.1 c8
    refine WP_bipush (z := (-2)) dX6_blew_27 rfl (by decide) ?_
    exact WP_ireturn dX6_blew_29 rfl h
  · replace h := h.2 c8
    refine WP_iload_n (z := b) dX6_blew_8 rfl ?_
    refine WP_iconst (z := (-1)) dX6_blew_9 rfl ⟨by decide, by decide⟩ ?_
    refine WP_bipush (z := 39) dX6_blew_10 rfl (by decide) ?_
    refine WP_pcallS (g := mX6_within) (as := [vI b, vI (-1), vI 39]) (rest := []) (n := 3) (r := vI (fX6_within D4 b (-1) 39)) dX6_blew_12 wm_262 mo_X6_within rfl rfl ⟨Nat.le_of_ble_eq_true rfl, Nat.le_of_ble_eq_true rfl⟩ (Nat.le_of_ble_eq_true rfl) (P_X6_within  trivial) ?_
    refine WP_if_eq (tgt := 27) dX6_blew_15 (by decide) (fun c9 => ?_) (fun c9 => ?_)
    · replace h := h.1 c9
      refine WP_bipush (z := (-2)) dX6_blew_27 rfl (by decide) ?_
      exact WP_ireturn dX6_blew_29 rfl h
    · replace h := h.2 c9
      refine WP_aload_n (z := 56) dX6_blew_18 rfl ?_
      refine WP_iload_n (z := a) dX6_blew_19 rfl ?_
      refine WP_iload_n (z := b) dX6_blew_20 rfl ?_
      obtain ⟨Q10, ct12, h⟩ := h
      refine WP_callV (g := mX6_blewOf) (as := [vI a, vI b]) (rest := []) (n := 2) dX6_blew_21 wm_719 mo_X6_blewOf rfl rfl rfl rfl ⟨Nat.le_of_ble_eq_true rfl, Nat.le_of_ble_eq_true rfl⟩ (Nat.le_of_ble_eq_true rfl) ct12 (fun r_ D13 hq11 hok hD16 => ?_)
      obtain ⟨r14, rfl, hr15⟩ := hok
      replace h := h r14 D13 hq11 hr15 hD16
      show WP mX6_blew Q 24 [vR 56, vI a, vI b] [vI r14] D13
      refine WP_goto (tgt := 29) dX6_blew_24 (by decide) ?_
      exact WP_ireturn dX6_blew_29 rfl h
set_option maxRecDepth 100000 in
set_option maxHeartbeats 4000000 in
theorem V_X6_hadOf (a : Int) {D : HP} {Q : Option MV → HP → Prop} (I16 : Int → Int → Int → Int → HP → Prop) (u16 : Int → Int → Int → Int → HP → Nat)
    (h0 : cD D → c32 a → (∃ Q1 : Option MV → HP → Prop, CT mX6_reads [vR 56] D Q1 ∧ ∀ (D4 : HP), Q1 none D4 → cD D4 → ((0 ≤ a ∧ a < 9) ∧ (I16 a (D4 63 a.toNat) 0 1 D4))))
    (h16 : ∀ (x1 x2 x3 x4 : Int) (D : HP), I16 x1 x2 x3 x4 D → cD D → c32 x1 → c32 x2 → c32 x3 → c32 x4 → ((10 ≤ x4 → ((0 ≤ x1 ∧ x1 < 9) ∧ (∀ (E10 : HP), E10 = (hu D 63 x1.toNat x2) → (Q (some (vI x3)) E10)))) ∧ (¬ (10 ≤ x4) → ((0 ≤ x1 ∧ x1 < 9) ∧ (∀ (E13 : HP), E13 = (hu D 63 x1.toNat x4) → (∃ Q15 : Option MV → HP → Prop, CT mX6_isSeen [vR 56] E13 Q15 ∧ ∀ (r19 : Int) (D18 : HP), Q15 (some (vI r19)) D18 → c32 r19 → cD D18 → (∀ (v22 : Int), v22 = (b_ior x3 (if r19 = 0 then (0 : Int) else (b_ishl 1 x4))) → ((c32 (x4 + 1)) ∧ (I16 x1 x2 v22 (x4 + 1) D18 ∧ u16 x1 x2 v22 (x4 + 1) D18 < u16 x1 x2 x3 x4 D)))))))))
    : CT mX6_hadOf [vR 56, vI a] D Q := by
  refine CT.of 3 (by decide) (Nat.le_of_ble_eq_true rfl) ?_
  show WP mX6_hadOf Q 0 [vR 56, vI a, vU, vU, vU] [] D
  have IH : ∀ n : Nat, (∀ (x1 x2 x3 x4 : Int) (D : HP), I16 x1 x2 x3 x4 D → u16 x1 x2 x3 x4 D * 1 + 0 < n → WP mX6_hadOf Q 16 [vR 56, vI x1, vI x2, vI x3, vI x4] [] D) := by
    intro n
    induction n with
    | zero => exact fun _ _ _ _ _ _ h => absurd h (Nat.not_lt_zero _)
    | succ n ih =>
      have ih16_ := ih
      · intro x1 x2 x3 x4 D hI hn
        refine WP_cD (fun hcD => ?_)
        refine WP_cl (fun hcl => ?_)
        have h := h16 x1 x2 x3 x4 D hI hcD (cVs_g hcl (i := 1) (v := vI x1) rfl) (cVs_g hcl (i := 2) (v := vI x2) rfl) (cVs_g hcl (i := 3) (v := vI x3) rfl) (cVs_g hcl (i := 4) (v := vI x4) rfl)
        refine WP_iload (z := x4) dX6_hadOf_16 rfl ?_
        refine WP_bipush (z := 10) dX6_hadOf_18 rfl (by decide) ?_
        refine WP_icmp_ge (tgt := 55) dX6_hadOf_20 (by decide) (fun c9 => ?_) (fun c9 => ?_)
        · replace h := h.1 c9
          refine WP_aload_n (z := 56) dX6_hadOf_55 rfl ?_
          refine WP_getR (z := 63) dX6_hadOf_56 fl_RX6_29 rfl rfl rfl ?_
          refine WP_iload_n (z := x1) dX6_hadOf_59 rfl ?_
          refine WP_iload_n (z := x2) dX6_hadOf_60 rfl ?_
          obtain ⟨o12, h⟩ := h
          refine WP_iast dX6_hadOf_61 rfl o12.1 o12.2 ?_
          obtain ⟨E10, hE11⟩ : ∃ E10 : HP, E10 = (hu D 63 x1.toNat x2) := ⟨_, rfl⟩
          replace h := h E10 hE11
          show WP mX6_hadOf Q 62 [vR 56, vI x1, vI x2, vI x3, vI x4] [] (hu D 63 x1.toNat x2)
          rw [← hE11]
          refine WP_iload_n (z := x3) dX6_hadOf_62 rfl ?_
          exact WP_ireturn dX6_hadOf_63 rfl h
        · replace h := h.2 c9
          refine WP_aload_n (z := 56) dX6_hadOf_23 rfl ?_
          refine WP_getR (z := 63) dX6_hadOf_24 fl_RX6_29 rfl rfl rfl ?_
          refine WP_iload_n (z := x1) dX6_hadOf_27 rfl ?_
          refine WP_iload (z := x4) dX6_hadOf_28 rfl ?_
          obtain ⟨o27, h⟩ := h
          refine WP_iast dX6_hadOf_30 rfl o27.1 o27.2 ?_
          obtain ⟨E13, hE14⟩ : ∃ E13 : HP, E13 = (hu D 63 x1.toNat x4) := ⟨_, rfl⟩
          replace h := h E13 hE14
          show WP mX6_hadOf Q 31 [vR 56, vI x1, vI x2, vI x3, vI x4] [] (hu D 63 x1.toNat x4)
          rw [← hE14]
          refine WP_iload_n (z := x3) dX6_hadOf_31 rfl ?_
          refine WP_aload_n (z := 56) dX6_hadOf_32 rfl ?_
          obtain ⟨Q15, ct17, h⟩ := h
          refine WP_callV (g := mX6_isSeen) (as := []) (rest := [vI x3]) (n := 0) dX6_hadOf_33 wm_727 mo_X6_isSeen rfl rfl rfl rfl ⟨Nat.le_of_ble_eq_true rfl, Nat.le_of_ble_eq_true rfl⟩ (Nat.le_of_ble_eq_true rfl) ct17 (fun r_ D18 hq16 hok hD21 => ?_)
          obtain ⟨r19, rfl, hr20⟩ := hok
          replace h := h r19 D18 hq16 hr20 hD21
          show WP mX6_hadOf Q 36 [vR 56, vI x1, vI x2, vI x3, vI x4] [vI r19, vI x3] D18
          refine WP_via (pc1 := 47) (ls1 := [vR 56, vI x1, vI x2, vI x3, vI x4]) (st1 := [vI (if r19 = 0 then (0 : Int) else (b_ishl 1 x4)), vI x3]) (D1 := D18) (fun hJ25 => ?_) ?_
          · refine WP_if_eq (tgt := 46) dX6_hadOf_36 (by decide) (fun c26 => ?_) (fun c26 => ?_)
            · replace hJ25 := ite_t (P := fun v_ : Int => WP mX6_hadOf Q 47 [vR 56, vI x1, vI x2, vI x3, vI x4] [vI v_, vI x3] D18) hJ25 c26
              refine WP_iconst (z := 0) dX6_hadOf_46 rfl ⟨by decide, by decide⟩ ?_
              exact hJ25
            · replace hJ25 := ite_f (P := fun v_ : Int => WP mX6_hadOf Q 47 [vR 56, vI x1, vI x2, vI x3, vI x4] [vI v_, vI x3] D18) hJ25 c26
              refine WP_iconst (z := 1) dX6_hadOf_39 rfl ⟨by decide, by decide⟩ ?_
              refine WP_iload (z := x4) dX6_hadOf_40 rfl ?_
              refine WP_ishl dX6_hadOf_42 rfl ?_
              refine WP_goto (tgt := 47) dX6_hadOf_43 (by decide) ?_
              exact hJ25
          · refine WP_ior dX6_hadOf_47 rfl ?_
            refine WP_istore_n (ls1 := [vR 56, vI x1, vI x2, vI (b_ior x3 (if r19 = 0 then (0 : Int) else (b_ishl 1 x4))), vI x4]) dX6_hadOf_48 (by decide) rfl ?_
            obtain ⟨v22, hv23⟩ : ∃ v22 : Int, v22 = (b_ior x3 (if r19 = 0 then (0 : Int) else (b_ishl 1 x4))) := ⟨_, rfl⟩
            replace h := h v22 hv23
            rw [← hv23]
            obtain ⟨o24, h⟩ := h
            refine WP_iinc (z := (x4 + 1)) (ls1 := [vR 56, vI x1, vI x2, vI v22, vI (x4 + 1)]) dX6_hadOf_49 rfl (w32_id o24) (by decide) rfl ?_
            refine WP_goto (tgt := 16) dX6_hadOf_52 (by decide) ?_
            exact ih16_ _ _ _ _ _ h.1 (by have := h.2; omega)
  have cut16_ : ∀ (x1 x2 x3 x4 : Int) (D : HP), I16 x1 x2 x3 x4 D → WP mX6_hadOf Q 16 [vR 56, vI x1, vI x2, vI x3, vI x4] [] D := fun x1 x2 x3 x4 D hI => (IH (u16 x1 x2 x3 x4 D * 1 + 0 + 1)) x1 x2 x3 x4 D hI (by omega)
  refine WP_cD (fun hcD => ?_)
  refine WP_cl (fun hcl => ?_)
  have h := h0 hcD (cVs_g hcl (i := 1) (v := vI a) rfl)
  refine WP_aload_n (z := 56) dX6_hadOf_0 rfl ?_
  obtain ⟨Q1, ct3, h⟩ := h
  refine WP_callV (g := mX6_reads) (as := []) (rest := []) (n := 0) dX6_hadOf_1 wm_343 mo_X6_reads rfl rfl rfl rfl ⟨Nat.le_of_ble_eq_true rfl, Nat.le_of_ble_eq_true rfl⟩ (Nat.le_of_ble_eq_true rfl) ct3 (fun r_ D4 hq2 hok hD7 => ?_)
  obtain rfl := hok
  replace h := h D4 hq2 hD7
  show WP mX6_hadOf Q 4 [vR 56, vI a, vU, vU, vU] [] D4
  refine WP_aload_n (z := 56) dX6_hadOf_4 rfl ?_
  refine WP_getR (z := 63) dX6_hadOf_5 fl_RX6_29 rfl rfl rfl ?_
  refine WP_iload_n (z := a) dX6_hadOf_8 rfl ?_
  obtain ⟨o8, h⟩ := h
  refine WP_iald dX6_hadOf_9 rfl o8.1 o8.2 rfl ?_
  refine WP_istore_n (ls1 := [vR 56, vI a, vI (D4 63 a.toNat), vU, vU]) dX6_hadOf_10 (by decide) rfl ?_
  refine WP_iconst (z := 0) dX6_hadOf_11 rfl ⟨by decide, by decide⟩ ?_
  refine WP_istore_n (ls1 := [vR 56, vI a, vI (D4 63 a.toNat), vI 0, vU]) dX6_hadOf_12 (by decide) rfl ?_
  refine WP_iconst (z := 1) dX6_hadOf_13 rfl ⟨by decide, by decide⟩ ?_
  refine WP_istore (ls1 := [vR 56, vI a, vI (D4 63 a.toNat), vI 0, vI 1]) dX6_hadOf_14 (by decide) rfl ?_
  exact cut16_ _ _ _ _ _ h
set_option maxRecDepth 100000 in
set_option maxHeartbeats 4000000 in
theorem V_X6_had (a : Int) {D : HP} {Q : Option MV → HP → Prop}
    (h0 : cD D → c32 a → (∃ Q1 : Option MV → HP → Prop, CT mX6_isCandidate [vR 56, vI a] D Q1 ∧ ∀ (r5 : Int) (D4 : HP), Q1 (some (vI r5)) D4 → c32 r5 → cD D4 → ((r5 = 0 → (Q (some (vI (-2))) D4)) ∧ (¬ (r5 = 0) → (∃ Q9 : Option MV → HP → Prop, CT mX6_hadOf [vR 56, vI a] D4 Q9 ∧ ∀ (r13 : Int) (D12 : HP), Q9 (some (vI r13)) D12 → c32 r13 → cD D12 → (Q (some (vI r13)) D12))))))
    : CT mX6_had [vR 56, vI a] D Q := by
  refine CT.of 0 (by decide) (Nat.le_of_ble_eq_true rfl) ?_
  show WP mX6_had Q 0 [vR 56, vI a] [] D
  refine WP_cD (fun hcD => ?_)
  refine WP_cl (fun hcl => ?_)
  have h := h0 hcD (cVs_g hcl (i := 1) (v := vI a) rfl)
  refine WP_aload_n (z := 56) dX6_had_0 rfl ?_
  refine WP_iload_n (z := a) dX6_had_1 rfl ?_
  obtain ⟨Q1, ct3, h⟩ := h
  refine WP_callV (g := mX6_isCandidate) (as := [vI a]) (rest := []) (n := 1) dX6_had_2 wm_386 mo_X6_isCandidate rfl rfl rfl rfl ⟨Nat.le_of_ble_eq_true rfl, Nat.le_of_ble_eq_true rfl⟩ (Nat.le_of_ble_eq_true rfl) ct3 (fun r_ D4 hq2 hok hD7 => ?_)
  obtain ⟨r5, rfl, hr6⟩ := hok
  replace h := h r5 D4 hq2 hr6 hD7
  show WP mX6_had Q 5 [vR 56, vI a] [vI r5] D4
  refine WP_if_eq (tgt := 16) dX6_had_5 (by decide) (fun c8 => ?_) (fun c8 => ?_)
  · replace h := h.1 c8
    refine WP_bipush (z := (-2)) dX6_had_16 rfl (by decide) ?_
    exact WP_ireturn dX6_had_18 rfl h
  · replace h := h.2 c8
    refine WP_aload_n (z := 56) dX6_had_8 rfl ?_
    refine WP_iload_n (z := a) dX6_had_9 rfl ?_
    obtain ⟨Q9, ct11, h⟩ := h
    refine WP_callV (g := mX6_hadOf) (as := [vI a]) (rest := []) (n := 1) dX6_had_10 wm_739 mo_X6_hadOf rfl rfl rfl rfl ⟨Nat.le_of_ble_eq_true rfl, Nat.le_of_ble_eq_true rfl⟩ (Nat.le_of_ble_eq_true rfl) ct11 (fun r_ D12 hq10 hok hD15 => ?_)
    obtain ⟨r13, rfl, hr14⟩ := hok
    replace h := h r13 D12 hq10 hr14 hD15
    show WP mX6_had Q 13 [vR 56, vI a] [vI r13] D12
    refine WP_goto (tgt := 18) dX6_had_13 (by decide) ?_
    exact WP_ireturn dX6_had_18 rfl h
set_option maxRecDepth 100000 in
set_option maxHeartbeats 4000000 in
theorem V_X6_askOf (a : Int) {D : HP} {Q : Option MV → HP → Prop} (I14 : Int → Int → Int → Int → Int → HP → Prop) (u14 : Int → Int → Int → Int → Int → HP → Nat) (I29 : Int → Int → Int → Int → Int → Int → Int → HP → Prop) (u29 : Int → Int → Int → Int → Int → Int → Int → HP → Nat) (I44 : Int → Int → Int → Int → Int → Int → Int → Int → Int → HP → Prop) (u44 : Int → Int → Int → Int → Int → Int → Int → Int → Int → HP → Nat)
    (h0 : cD D → c32 a → (∃ Q1 : Option MV → HP → Prop, CT mX6_blows [vR 56, vI a] D Q1 ∧ ∀ (r5 : Int) (D4 : HP), Q1 (some (vI r5)) D4 → c32 r5 → cD D4 → (I14 a r5 (-1) 0 0 D4)))
    (h14 : ∀ (x1 x2 x3 x4 x5 : Int) (D : HP), I14 x1 x2 x3 x4 x5 D → cD D → c32 x1 → c32 x2 → c32 x3 → c32 x4 → c32 x5 → (((D 56 5) ≤ x5 → (Q (some (vI x3)) D)) ∧ (¬ ((D 56 5) ≤ x5) → (I29 x1 x2 x3 x4 x5 0 (-1) D ∧ u29 x1 x2 x3 x4 x5 0 (-1) D ≤ u14 x1 x2 x3 x4 x5 D))))
    (h29 : ∀ (x1 x2 x3 x4 x5 x6 x7 : Int) (D : HP), I29 x1 x2 x3 x4 x5 x6 x7 D → cD D → c32 x1 → c32 x2 → c32 x3 → c32 x4 → c32 x5 → c32 x6 → c32 x7 → (((D 56 8) ≤ x7 → (∀ (v10 : Int), v10 = (if x3 = (-1) then (1 : Int) else (if x4 ≤ x6 then (0 : Int) else 1)) → ((c32 (x5 + 1)) ∧ (I14 x1 x2 (if v10 = 0 then (x3 : Int) else x5) (if v10 = 0 then (x4 : Int) else x6) (x5 + 1) D ∧ u14 x1 x2 (if v10 = 0 then (x3 : Int) else x5) (if v10 = 0 then (x4 : Int) else x6) (x5 + 1) D < u29 x1 x2 x3 x4 x5 x6 x7 D)))) ∧ (¬ ((D 56 8) ≤ x7) → (I44 x1 x2 x3 x4 x5 x6 x7 0 0 D ∧ u44 x1 x2 x3 x4 x5 x6 x7 0 0 D ≤ u29 x1 x2 x3 x4 x5 x6 x7 D))))
    (h44 : ∀ (x1 x2 x3 x4 x5 x6 x7 x8 x9 : Int) (D : HP), I44 x1 x2 x3 x4 x5 x6 x7 x8 x9 D → cD D → c32 x1 → c32 x2 → c32 x3 → c32 x4 → c32 x5 → c32 x6 → c32 x7 → c32 x8 → c32 x9 → ((40 ≤ x9 → ((c32 (x7 + 1)) ∧ (I29 x1 x2 x3 x4 x5 (if x8 ≤ x6 then (x6 : Int) else x8) (x7 + 1) D ∧ u29 x1 x2 x3 x4 x5 (if x8 ≤ x6 then (x6 : Int) else x8) (x7 + 1) D < u44 x1 x2 x3 x4 x5 x6 x7 x8 x9 D))) ∧ (¬ (40 ≤ x9) → ((0 ≤ x9 ∧ x9 < 40) ∧ (((((D 72 x9.toNat) = 0) → True) ∧ (¬ ((D 72 x9.toNat) = 0) → (c32 (12 * x9)) ∧ (c32 ((12 * x9) + x5)) ∧ (0 ≤ ((12 * x9) + x5) ∧ ((12 * x9) + x5) < 480))) ∧ ((c32 (x8 + (if (D 72 x9.toNat) = 0 then (0 : Int) else (if (D 73 (((12 * x9) + x5)).toNat) = x7 then (1 : Int) else 0)))) ∧ (∀ (v26 : Int), v26 = (x8 + (if (D 72 x9.toNat) = 0 then (0 : Int) else (if (D 73 (((12 * x9) + x5)).toNat) = x7 then (1 : Int) else 0))) → ((c32 (x9 + 1)) ∧ (I44 x1 x2 x3 x4 x5 x6 x7 v26 (x9 + 1) D ∧ u44 x1 x2 x3 x4 x5 x6 x7 v26 (x9 + 1) D < u44 x1 x2 x3 x4 x5 x6 x7 x8 x9 D)))))))))
    : CT mX6_askOf [vR 56, vI a] D Q := by
  refine CT.of 8 (by decide) (Nat.le_of_ble_eq_true rfl) ?_
  show WP mX6_askOf Q 0 [vR 56, vI a, vU, vU, vU, vU, vU, vU, vU, vU] [] D
  have IH : ∀ n : Nat, (∀ (x1 x2 x3 x4 x5 : Int) (D : HP), I14 x1 x2 x3 x4 x5 D → u14 x1 x2 x3 x4 x5 D * 3 + 2 < n → WP mX6_askOf Q 14 [vR 56, vI x1, vI x2, vI x3, vI x4, vI x5, vU, vU, vU, vU] [] D) ∧ (∀ (x1 x2 x3 x4 x5 x6 x7 : Int) (D : HP), I29 x1 x2 x3 x4 x5 x6 x7 D → u29 x1 x2 x3 x4 x5 x6 x7 D * 3 + 1 < n → WP mX6_askOf Q 29 [vR 56, vI x1, vI x2, vI x3, vI x4, vI x5, vI x6, vI x7, vU, vU] [] D) ∧ (∀ (x1 x2 x3 x4 x5 x6 x7 x8 x9 : Int) (D : HP), I44 x1 x2 x3 x4 x5 x6 x7 x8 x9 D → u44 x1 x2 x3 x4 x5 x6 x7 x8 x9 D * 3 + 0 < n → WP mX6_askOf Q 44 [vR 56, vI x1, vI x2, vI x3, vI x4, vI x5, vI x6, vI x7, vI x8, vI x9] [] D) := by
    intro n
    induction n with
    | zero => exact ⟨fun _ _ _ _ _ _ _ h => absurd h (Nat.not_lt_zero _), fun _ _ _ _ _ _ _ _ _ h => absurd h (Nat.not_lt_zero _), fun _ _ _ _ _ _ _ _ _ _ _ h => absurd h (Nat.not_lt_zero _)⟩
    | succ n ih =>
      have ih14_ := ih.1
      have ih29_ := ih.2.1
      have ih44_ := ih.2.2
      refine ⟨?_, ?_, ?_⟩
      · intro x1 x2 x3 x4 x5 D hI hn
        refine WP_cD (fun hcD => ?_)
        refine WP_cl (fun hcl => ?_)
        have h := h14 x1 x2 x3 x4 x5 D hI hcD (cVs_g hcl (i := 1) (v := vI x1) rfl) (cVs_g hcl (i := 2) (v := vI x2) rfl) (cVs_g hcl (i := 3) (v := vI x3) rfl) (cVs_g hcl (i := 4) (v := vI x4) rfl) (cVs_g hcl (i := 5) (v := vI x5) rfl)
        refine WP_iload (z := x5) dX6_askOf_14 rfl ?_
        refine WP_aload_n (z := 56) dX6_askOf_16 rfl ?_
        refine WP_getI dX6_askOf_17 fl_RX6_101 rfl rfl rfl ?_
        refine WP_icmp_ge (tgt := 168) dX6_askOf_20 (by decide) (fun c8 => ?_) (fun c8 => ?_)
        · replace h := h.1 c8
          refine WP_iload_n (z := x3) dX6_askOf_168 rfl ?_
          exact WP_ireturn dX6_askOf_169 rfl h
        · replace h := h.2 c8
          refine WP_iconst (z := 0) dX6_askOf_23 rfl ⟨by decide, by decide⟩ ?_
          refine WP_istore (ls1 := [vR 56, vI x1, vI x2, vI x3, vI x4, vI x5, vI 0, vU, vU, vU]) dX6_askOf_24 (by decide) rfl ?_
          refine WP_iconst (z := (-1)) dX6_askOf_26 rfl ⟨by decide, by decide⟩ ?_
          refine WP_istore (ls1 := [vR 56, vI x1, vI x2, vI x3, vI x4, vI x5, vI 0, vI (-1), vU, vU]) dX6_askOf_27 (by decide) rfl ?_
          exact ih29_ _ _ _ _ _ _ _ _ h.1 (by have := h.2; omega)
      · intro x1 x2 x3 x4 x5 x6 x7 D hI hn
        refine WP_cD (fun hcD => ?_)
        refine WP_cl (fun hcl => ?_)
        have h := h29 x1 x2 x3 x4 x5 x6 x7 D hI hcD (cVs_g hcl (i := 1) (v := vI x1) rfl) (cVs_g hcl (i := 2) (v := vI x2) rfl) (cVs_g hcl (i := 3) (v := vI x3) rfl) (cVs_g hcl (i := 4) (v := vI x4) rfl) (cVs_g hcl (i := 5) (v := vI x5) rfl) (cVs_g hcl (i := 6) (v := vI x6) rfl) (cVs_g hcl (i := 7) (v := vI x7) rfl)
        refine WP_iload (z := x7) dX6_askOf_29 rfl ?_
        refine WP_aload_n (z := 56) dX6_askOf_31 rfl ?_
        refine WP_getI dX6_askOf_32 fl_RX6_112 rfl rfl rfl ?_
        refine WP_icmp_ge (tgt := 117) dX6_askOf_35 (by decide) (fun c9 => ?_) (fun c9 => ?_)
        · replace h := h.1 c9
          refine WP_iload_n (z := x3) dX6_askOf_117 rfl ?_
          refine WP_iconst (z := (-1)) dX6_askOf_118 rfl ⟨by decide, by decide⟩ ?_
          refine WP_via (pc1 := 134) (ls1 := [vR 56, vI x1, vI x2, vI x3, vI x4, vI x5, vI x6, vI x7, vU, vU]) (st1 := [vI (if x3 = (-1) then (1 : Int) else (if x4 ≤ x6 then (0 : Int) else 1))]) (D1 := D) (fun hJ17 => ?_) ?_
          · refine WP_icmp_eq (tgt := 129) dX6_askOf_119 (by decide) (fun c18 => ?_) (fun c18 => ?_)
            · replace hJ17 := ite_t (P := fun v_ : Int => WP mX6_askOf Q 134 [vR 56, vI x1, vI x2, vI x3, vI x4, vI x5, vI x6, vI x7, vU, vU] [vI v_] D) hJ17 c18
              refine WP_iconst (z := 1) dX6_askOf_129 rfl ⟨by decide, by decide⟩ ?_
              refine WP_goto (tgt := 134) dX6_askOf_130 (by decide) ?_
              exact hJ17
            · replace hJ17 := ite_f (P := fun v_ : Int => WP mX6_askOf Q 134 [vR 56, vI x1, vI x2, vI x3, vI x4, vI x5, vI x6, vI x7, vU, vU] [vI v_] D) hJ17 c18
              refine WP_iload (z := x6) dX6_askOf_122 rfl ?_
              refine WP_iload (z := x4) dX6_askOf_124 rfl ?_
              refine WP_via (pc1 := 134) (ls1 := [vR 56, vI x1, vI x2, vI x3, vI x4, vI x5, vI x6, vI x7, vU, vU]) (st1 := [vI (if x4 ≤ x6 then (0 : Int) else 1)]) (D1 := D) (fun hJ19 => ?_) ?_
              · refine WP_icmp_ge (tgt := 133) dX6_askOf_126 (by decide) (fun c20 => ?_) (fun c20 => ?_)
                · replace hJ19 := ite_t (P := fun v_ : Int => WP mX6_askOf Q 134 [vR 56, vI x1, vI x2, vI x3, vI x4, vI x5, vI x6, vI x7, vU, vU] [vI v_] D) hJ19 c20
                  refine WP_iconst (z := 0) dX6_askOf_133 rfl ⟨by decide, by decide⟩ ?_
                  exact hJ19
                · replace hJ19 := ite_f (P := fun v_ : Int => WP mX6_askOf Q 134 [vR 56, vI x1, vI x2, vI x3, vI x4, vI x5, vI x6, vI x7, vU, vU] [vI v_] D) hJ19 c20
                  refine WP_iconst (z := 1) dX6_askOf_129 rfl ⟨by decide, by decide⟩ ?_
                  refine WP_goto (tgt := 134) dX6_askOf_130 (by decide) ?_
                  exact hJ19
              exact hJ17
          · refine WP_istore (ls1 := [vR 56, vI x1, vI x2, vI x3, vI x4, vI x5, vI x6, vI (if x3 = (-1) then (1 : Int) else (if x4 ≤ x6 then (0 : Int) else 1)), vU, vU]) dX6_askOf_134 (by decide) rfl ?_
            obtain ⟨v10, hv11⟩ : ∃ v10 : Int, v10 = (if x3 = (-1) then (1 : Int) else (if x4 ≤ x6 then (0 : Int) else 1)) := ⟨_, rfl⟩
            replace h := h v10 hv11
            rw [← hv11]
            refine WP_iload (z := v10) dX6_askOf_136 rfl ?_
            refine WP_via (pc1 := 147) (ls1 := [vR 56, vI x1, vI x2, vI x3, vI x4, vI x5, vI x6, vI v10, vU, vU]) (st1 := [vI (if v10 = 0 then (x3 : Int) else x5)]) (D1 := D) (fun hJ15 => ?_) ?_
            · refine WP_if_eq (tgt := 146) dX6_askOf_138 (by decide) (fun c16 => ?_) (fun c16 => ?_)
              · replace hJ15 := ite_t (P := fun v_ : Int => WP mX6_askOf Q 147 [vR 56, vI x1, vI x2, vI x3, vI x4, vI x5, vI x6, vI v10, vU, vU] [vI v_] D) hJ15 c16
                refine WP_iload_n (z := x3) dX6_askOf_146 rfl ?_
                exact hJ15
              · replace hJ15 := ite_f (P := fun v_ : Int => WP mX6_askOf Q 147 [vR 56, vI x1, vI x2, vI x3, vI x4, vI x5, vI x6, vI v10, vU, vU] [vI v_] D) hJ15 c16
                refine WP_iload (z := x5) dX6_askOf_141 rfl ?_
                refine WP_goto (tgt := 147) dX6_askOf_143 (by decide) ?_
                exact hJ15
            · refine WP_istore_n (ls1 := [vR 56, vI x1, vI x2, vI (if v10 = 0 then (x3 : Int) else x5), vI x4, vI x5, vI x6, vI v10, vU, vU]) dX6_askOf_147 (by decide) rfl ?_
              refine WP_iload (z := v10) dX6_askOf_148 rfl ?_
              refine WP_via (pc1 := 160) (ls1 := [vR 56, vI x1, vI x2, vI (if v10 = 0 then (x3 : Int) else x5), vI x4, vI x5, vI x6, vI v10, vU, vU]) (st1 := [vI (if v10 = 0 then (x4 : Int) else x6)]) (D1 := D) (fun hJ13 => ?_) ?_
              · refine WP_if_eq (tgt := 158) dX6_askOf_150 (by decide) (fun c14 => ?_) (fun c14 => ?_)
                · replace hJ13 := ite_t (P := fun v_ : Int => WP mX6_askOf Q 160 [vR 56, vI x1, vI x2, vI (if v10 = 0 then (x3 : Int) else x5), vI x4, vI x5, vI x6, vI v10, vU, vU] [vI v_] D) hJ13 c14
                  refine WP_iload (z := x4) dX6_askOf_158 rfl ?_
                  exact hJ13
                · replace hJ13 := ite_f (P := fun v_ : Int => WP mX6_askOf Q 160 [vR 56, vI x1, vI x2, vI (if v10 = 0 then (x3 : Int) else x5), vI x4, vI x5, vI x6, vI v10, vU, vU] [vI v_] D) hJ13 c14
                  refine WP_iload (z := x6) dX6_askOf_153 rfl ?_
                  refine WP_goto (tgt := 160) dX6_askOf_155 (by decide) ?_
                  exact hJ13
              · refine WP_istore (ls1 := [vR 56, vI x1, vI x2, vI (if v10 = 0 then (x3 : Int) else x5), vI (if v10 = 0 then (x4 : Int) else x6), vI x5, vI x6, vI v10, vU, vU]) dX6_askOf_160 (by decide) rfl ?_
                obtain ⟨o12, h⟩ := h
                refine WP_iinc (z := (x5 + 1)) (ls1 := [vR 56, vI x1, vI x2, vI (if v10 = 0 then (x3 : Int) else x5), vI (if v10 = 0 then (x4 : Int) else x6), vI (x5 + 1), vI x6, vI v10, vU, vU]) dX6_askOf_162 rfl (w32_id o12) (by decide) rfl ?_
                refine WP_goto (tgt := 14) dX6_askOf_165 (by decide) ?_
                refine WP_fg 6 (ls1 := [vR 56, vI x1, vI x2, vI (if v10 = 0 then (x3 : Int) else x5), vI (if v10 = 0 then (x4 : Int) else x6), vI (x5 + 1), vU, vI v10, vU, vU]) rfl ?_
                refine WP_fg 7 (ls1 := [vR 56, vI x1, vI x2, vI (if v10 = 0 then (x3 : Int) else x5), vI (if v10 = 0 then (x4 : Int) else x6), vI (x5 + 1), vU, vU, vU, vU]) rfl ?_
                exact ih14_ _ _ _ _ _ _ h.1 (by have := h.2; omega)
        · replace h := h.2 c9
          refine WP_iconst (z := 0) dX6_askOf_38 rfl ⟨by decide, by decide⟩ ?_
          refine WP_istore (ls1 := [vR 56, vI x1, vI x2, vI x3, vI x4, vI x5, vI x6, vI x7, vI 0, vU]) dX6_askOf_39 (by decide) rfl ?_
          refine WP_iconst (z := 0) dX6_askOf_41 rfl ⟨by decide, by decide⟩ ?_
          refine WP_istore (ls1 := [vR 56, vI x1, vI x2, vI x3, vI x4, vI x5, vI x6, vI x7, vI 0, vI 0]) dX6_askOf_42 (by decide) rfl ?_
          exact ih44_ _ _ _ _ _ _ _ _ _ _ h.1 (by have := h.2; omega)
      · intro x1 x2 x3 x4 x5 x6 x7 x8 x9 D hI hn
        refine WP_cD (fun hcD => ?_)
        refine WP_cl (fun hcl => ?_)
        have h := h44 x1 x2 x3 x4 x5 x6 x7 x8 x9 D hI hcD (cVs_g hcl (i := 1) (v := vI x1) rfl) (cVs_g hcl (i := 2) (v := vI x2) rfl) (cVs_g hcl (i := 3) (v := vI x3) rfl) (cVs_g hcl (i := 4) (v := vI x4) rfl) (cVs_g hcl (i := 5) (v := vI x5) rfl) (cVs_g hcl (i := 6) (v := vI x6) rfl) (cVs_g hcl (i := 7) (v := vI x7) rfl) (cVs_g hcl (i := 8) (v := vI x8) rfl) (cVs_g hcl (i := 9) (v := vI x9) rfl)
        refine WP_iload (z := x9) dX6_askOf_44 rfl ?_
        refine WP_bipush (z := 40) dX6_askOf_46 rfl (by decide) ?_
        refine WP_icmp_ge (tgt := 95) dX6_askOf_48 (by decide) (fun c21 => ?_) (fun c21 => ?_)
        · replace h := h.1 c21
          refine WP_iload (z := x8) dX6_askOf_95 rfl ?_
          refine WP_iload (z := x6) dX6_askOf_97 rfl ?_
          refine WP_via (pc1 := 109) (ls1 := [vR 56, vI x1, vI x2, vI x3, vI x4, vI x5, vI x6, vI x7, vI x8, vI x9]) (st1 := [vI (if x8 ≤ x6 then (x6 : Int) else x8)]) (D1 := D) (fun hJ23 => ?_) ?_
          · refine WP_icmp_le (tgt := 107) dX6_askOf_99 (by decide) (fun c24 => ?_) (fun c24 => ?_)
            · replace hJ23 := ite_t (P := fun v_ : Int => WP mX6_askOf Q 109 [vR 56, vI x1, vI x2, vI x3, vI x4, vI x5, vI x6, vI x7, vI x8, vI x9] [vI v_] D) hJ23 c24
              refine WP_iload (z := x6) dX6_askOf_107 rfl ?_
              exact hJ23
            · replace hJ23 := ite_f (P := fun v_ : Int => WP mX6_askOf Q 109 [vR 56, vI x1, vI x2, vI x3, vI x4, vI x5, vI x6, vI x7, vI x8, vI x9] [vI v_] D) hJ23 c24
              refine WP_iload (z := x8) dX6_askOf_102 rfl ?_
              refine WP_goto (tgt := 109) dX6_askOf_104 (by decide) ?_
              exact hJ23
          · refine WP_istore (ls1 := [vR 56, vI x1, vI x2, vI x3, vI x4, vI x5, vI (if x8 ≤ x6 then (x6 : Int) else x8), vI x7, vI x8, vI x9]) dX6_askOf_109 (by decide) rfl ?_
            obtain ⟨o22, h⟩ := h
            refine WP_iinc (z := (x7 + 1)) (ls1 := [vR 56, vI x1, vI x2, vI x3, vI x4, vI x5, vI (if x8 ≤ x6 then (x6 : Int) else x8), vI (x7 + 1), vI x8, vI x9]) dX6_askOf_111 rfl (w32_id o22) (by decide) rfl ?_
            refine WP_goto (tgt := 29) dX6_askOf_114 (by decide) ?_
            refine WP_fg 8 (ls1 := [vR 56, vI x1, vI x2, vI x3, vI x4, vI x5, vI (if x8 ≤ x6 then (x6 : Int) else x8), vI (x7 + 1), vU, vI x9]) rfl ?_
            refine WP_fg 9 (ls1 := [vR 56, vI x1, vI x2, vI x3, vI x4, vI x5, vI (if x8 ≤ x6 then (x6 : Int) else x8), vI (x7 + 1), vU, vU]) rfl ?_
            exact ih29_ _ _ _ _ _ _ _ _ h.1 (by have := h.2; omega)
        · replace h := h.2 c21
          refine WP_iload (z := x8) dX6_askOf_51 rfl ?_
          refine WP_aload_n (z := 56) dX6_askOf_53 rfl ?_
          refine WP_getR (z := 72) dX6_askOf_54 fl_RX6_56 rfl rfl rfl ?_
          refine WP_iload (z := x9) dX6_askOf_57 rfl ?_
          obtain ⟨o36, h⟩ := h
          refine WP_zald dX6_askOf_59 rfl o36.1 o36.2 rfl ?_
          obtain ⟨o25, h⟩ := h
          refine WP_via (pc1 := 86) (ls1 := [vR 56, vI x1, vI x2, vI x3, vI x4, vI x5, vI x6, vI x7, vI x8, vI x9]) (st1 := [vI (if (D 72 x9.toNat) = 0 then (0 : Int) else (if (D 73 (((12 * x9) + x5)).toNat) = x7 then (1 : Int) else 0)), vI x8]) (D1 := D) (fun hJ30 => ?_) ?_
          · refine WP_if_eq (tgt := 85) dX6_askOf_60 (by decide) (fun c31 => ?_) (fun c31 => ?_)
            · replace hJ30 := ite_t (P := fun v_ : Int => WP mX6_askOf Q 86 [vR 56, vI x1, vI x2, vI x3, vI x4, vI x5, vI x6, vI x7, vI x8, vI x9] [vI v_, vI x8] D) hJ30 c31
              have o32 := o25.1 c31
              refine WP_iconst (z := 0) dX6_askOf_85 rfl ⟨by decide, by decide⟩ ?_
              exact hJ30
            · replace hJ30 := ite_f (P := fun v_ : Int => WP mX6_askOf Q 86 [vR 56, vI x1, vI x2, vI x3, vI x4, vI x5, vI x6, vI x7, vI x8, vI x9] [vI v_, vI x8] D) hJ30 c31
              have o33 := o25.2 c31
              refine WP_aload_n (z := 56) dX6_askOf_63 rfl ?_
              refine WP_getR (z := 73) dX6_askOf_64 fl_RX6_59 rfl rfl rfl ?_
              refine WP_bipush (z := 12) dX6_askOf_67 rfl (by decide) ?_
              refine WP_iload (z := x9) dX6_askOf_69 rfl ?_
              refine WP_imul (z := (12 * x9)) dX6_askOf_71 (w32_id o33.1) ?_
              refine WP_iload (z := x5) dX6_askOf_72 rfl ?_
              refine WP_iadd (z := ((12 * x9) + x5)) dX6_askOf_74 (w32_id o33.2.1) ?_
              refine WP_iald dX6_askOf_75 rfl o33.2.2.1 o33.2.2.2 rfl ?_
              refine WP_iload (z := x7) dX6_askOf_76 rfl ?_
              refine WP_via (pc1 := 86) (ls1 := [vR 56, vI x1, vI x2, vI x3, vI x4, vI x5, vI x6, vI x7, vI x8, vI x9]) (st1 := [vI (if (D 73 (((12 * x9) + x5)).toNat) = x7 then (1 : Int) else 0), vI x8]) (D1 := D) (fun hJ34 => ?_) ?_
              · refine WP_icmp_ne (tgt := 85) dX6_askOf_78 (by decide) (fun c35 => ?_) (fun c35 => ?_)
                · replace hJ34 := ite_f (P := fun v_ : Int => WP mX6_askOf Q 86 [vR 56, vI x1, vI x2, vI x3, vI x4, vI x5, vI x6, vI x7, vI x8, vI x9] [vI v_, vI x8] D) hJ34 c35
                  refine WP_iconst (z := 0) dX6_askOf_85 rfl ⟨by decide, by decide⟩ ?_
                  exact hJ34
                · replace hJ34 := ite_t (P := fun v_ : Int => WP mX6_askOf Q 86 [vR 56, vI x1, vI x2, vI x3, vI x4, vI x5, vI x6, vI x7, vI x8, vI x9] [vI v_, vI x8] D) hJ34 c35
                  refine WP_iconst (z := 1) dX6_askOf_81 rfl ⟨by decide, by decide⟩ ?_
                  refine WP_goto (tgt := 86) dX6_askOf_82 (by decide) ?_
                  exact hJ34
              exact hJ30
          · obtain ⟨o29, h⟩ := h
            refine WP_iadd (z := (x8 + (if (D 72 x9.toNat) = 0 then (0 : Int) else (if (D 73 (((12 * x9) + x5)).toNat) = x7 then (1 : Int) else 0)))) dX6_askOf_86 (w32_id o29) ?_
            refine WP_istore (ls1 := [vR 56, vI x1, vI x2, vI x3, vI x4, vI x5, vI x6, vI x7, vI (x8 + (if (D 72 x9.toNat) = 0 then (0 : Int) else (if (D 73 (((12 * x9) + x5)).toNat) = x7 then (1 : Int) else 0))), vI x9]) dX6_askOf_87 (by decide) rfl ?_
            obtain ⟨v26, hv27⟩ : ∃ v26 : Int, v26 = (x8 + (if (D 72 x9.toNat) = 0 then (0 : Int) else (if (D 73 (((12 * x9) + x5)).toNat) = x7 then (1 : Int) else 0))) := ⟨_, rfl⟩
            replace h := h v26 hv27
            rw [← hv27]
            obtain ⟨o28, h⟩ := h
            refine WP_iinc (z := (x9 + 1)) (ls1 := [vR 56, vI x1, vI x2, vI x3, vI x4, vI x5, vI x6, vI x7, vI v26, vI (x9 + 1)]) dX6_askOf_89 rfl (w32_id o28) (by decide) rfl ?_
            refine WP_goto (tgt := 44) dX6_askOf_92 (by decide) ?_
            exact ih44_ _ _ _ _ _ _ _ _ _ _ h.1 (by have := h.2; omega)
  have cut14_ : ∀ (x1 x2 x3 x4 x5 : Int) (D : HP), I14 x1 x2 x3 x4 x5 D → WP mX6_askOf Q 14 [vR 56, vI x1, vI x2, vI x3, vI x4, vI x5, vU, vU, vU, vU] [] D := fun x1 x2 x3 x4 x5 D hI => (IH (u14 x1 x2 x3 x4 x5 D * 3 + 2 + 1)).1 x1 x2 x3 x4 x5 D hI (by omega)
  have cut29_ : ∀ (x1 x2 x3 x4 x5 x6 x7 : Int) (D : HP), I29 x1 x2 x3 x4 x5 x6 x7 D → WP mX6_askOf Q 29 [vR 56, vI x1, vI x2, vI x3, vI x4, vI x5, vI x6, vI x7, vU, vU] [] D := fun x1 x2 x3 x4 x5 x6 x7 D hI => (IH (u29 x1 x2 x3 x4 x5 x6 x7 D * 3 + 1 + 1)).2.1 x1 x2 x3 x4 x5 x6 x7 D hI (by omega)
  have cut44_ : ∀ (x1 x2 x3 x4 x5 x6 x7 x8 x9 : Int) (D : HP), I44 x1 x2 x3 x4 x5 x6 x7 x8 x9 D → WP mX6_askOf Q 44 [vR 56, vI x1, vI x2, vI x3, vI x4, vI x5, vI x6, vI x7, vI x8, vI x9] [] D := fun x1 x2 x3 x4 x5 x6 x7 x8 x9 D hI => (IH (u44 x1 x2 x3 x4 x5 x6 x7 x8 x9 D * 3 + 0 + 1)).2.2 x1 x2 x3 x4 x5 x6 x7 x8 x9 D hI (by omega)
  refine WP_cD (fun hcD => ?_)
  refine WP_cl (fun hcl => ?_)
  have h := h0 hcD (cVs_g hcl (i := 1) (v := vI a) rfl)
  refine WP_aload_n (z := 56) dX6_askOf_0 rfl ?_
  refine WP_iload_n (z := a) dX6_askOf_1 rfl ?_
  obtain ⟨Q1, ct3, h⟩ := h
  refine WP_callV (g := mX6_blows) (as := [vI a]) (rest := []) (n := 1) dX6_askOf_2 wm_723 mo_X6_blows rfl rfl rfl rfl ⟨Nat.le_of_ble_eq_true rfl, Nat.le_of_ble_eq_true rfl⟩ (Nat.le_of_ble_eq_true rfl) ct3 (fun r_ D4 hq2 hok hD7 => ?_)
  obtain ⟨r5, rfl, hr6⟩ := hok
  replace h := h r5 D4 hq2 hr6 hD7
  show WP mX6_askOf Q 5 [vR 56, vI a, vU, vU, vU, vU, vU, vU, vU, vU] [vI r5] D4
  refine WP_istore_n (ls1 := [vR 56, vI a, vI r5, vU, vU, vU, vU, vU, vU, vU]) dX6_askOf_5 (by decide) rfl ?_
  refine WP_iconst (z := (-1)) dX6_askOf_6 rfl ⟨by decide, by decide⟩ ?_
  refine WP_istore_n (ls1 := [vR 56, vI a, vI r5, vI (-1), vU, vU, vU, vU, vU, vU]) dX6_askOf_7 (by decide) rfl ?_
  refine WP_iconst (z := 0) dX6_askOf_8 rfl ⟨by decide, by decide⟩ ?_
  refine WP_istore (ls1 := [vR 56, vI a, vI r5, vI (-1), vI 0, vU, vU, vU, vU, vU]) dX6_askOf_9 (by decide) rfl ?_
  refine WP_iconst (z := 0) dX6_askOf_11 rfl ⟨by decide, by decide⟩ ?_
  refine WP_istore (ls1 := [vR 56, vI a, vI r5, vI (-1), vI 0, vI 0, vU, vU, vU, vU]) dX6_askOf_12 (by decide) rfl ?_
  exact cut14_ _ _ _ _ _ _ h
set_option maxRecDepth 100000 in
set_option maxHeartbeats 4000000 in
theorem V_X6_ask (a : Int) {D : HP} {Q : Option MV → HP → Prop}
    (h0 : cD D → c32 a → (∃ Q1 : Option MV → HP → Prop, CT mX6_isMinute [vR 56, vI a] D Q1 ∧ ∀ (r5 : Int) (D4 : HP), Q1 (some (vI r5)) D4 → c32 r5 → cD D4 → ((r5 = 0 → (Q (some (vI (-2))) D4)) ∧ (¬ (r5 = 0) → (∃ Q9 : Option MV → HP → Prop, CT mX6_askOf [vR 56, vI a] D4 Q9 ∧ ∀ (r13 : Int) (D12 : HP), Q9 (some (vI r13)) D12 → c32 r13 → cD D12 → (Q (some (vI r13)) D12))))))
    : CT mX6_ask [vR 56, vI a] D Q := by
  refine CT.of 0 (by decide) (Nat.le_of_ble_eq_true rfl) ?_
  show WP mX6_ask Q 0 [vR 56, vI a] [] D
  refine WP_cD (fun hcD => ?_)
  refine WP_cl (fun hcl => ?_)
  have h := h0 hcD (cVs_g hcl (i := 1) (v := vI a) rfl)
  refine WP_aload_n (z := 56) dX6_ask_0 rfl ?_
  refine WP_iload_n (z := a) dX6_ask_1 rfl ?_
  obtain ⟨Q1, ct3, h⟩ := h
  refine WP_callV (g := mX6_isMinute) (as := [vI a]) (rest := []) (n := 1) dX6_ask_2 wm_362 mo_X6_isMinute rfl rfl rfl rfl ⟨Nat.le_of_ble_eq_true rfl, Nat.le_of_ble_eq_true rfl⟩ (Nat.le_of_ble_eq_true rfl) ct3 (fun r_ D4 hq2 hok hD7 => ?_)
  obtain ⟨r5, rfl, hr6⟩ := hok
  replace h := h r5 D4 hq2 hr6 hD7
  show WP mX6_ask Q 5 [vR 56, vI a] [vI r5] D4
  refine WP_if_eq (tgt := 16) dX6_ask_5 (by decide) (fun c8 => ?_) (fun c8 => ?_)
  · replace h := h.1 c8
    refine WP_bipush (z := (-2)) dX6_ask_16 rfl (by decide) ?_
    exact WP_ireturn dX6_ask_18 rfl h
  · replace h := h.2 c8
    refine WP_aload_n (z := 56) dX6_ask_8 rfl ?_
    refine WP_iload_n (z := a) dX6_ask_9 rfl ?_
    obtain ⟨Q9, ct11, h⟩ := h
    refine WP_callV (g := mX6_askOf) (as := [vI a]) (rest := []) (n := 1) dX6_ask_10 wm_756 mo_X6_askOf rfl rfl rfl rfl ⟨Nat.le_of_ble_eq_true rfl, Nat.le_of_ble_eq_true rfl⟩ (Nat.le_of_ble_eq_true rfl) ct11 (fun r_ D12 hq10 hok hD15 => ?_)
    obtain ⟨r13, rfl, hr14⟩ := hok
    replace h := h r13 D12 hq10 hr14 hD15
    show WP mX6_ask Q 13 [vR 56, vI a] [vI r13] D12
    refine WP_goto (tgt := 18) dX6_ask_13 (by decide) ?_
    exact WP_ireturn dX6_ask_18 rfl h
set_option maxRecDepth 100000 in
set_option maxHeartbeats 4000000 in
theorem V_X6_calmOf (a : Int) (b : Int) (c : Int) {D : HP} {Q : Option MV → HP → Prop} (I10 : Int → Int → Int → Int → Int → HP → Prop) (u10 : Int → Int → Int → Int → Int → HP → Nat) (I42 : Int → Int → Int → Int → Int → HP → Prop) (u42 : Int → Int → Int → Int → Int → HP → Nat) (I59 : Int → Int → Int → Int → Int → Int → Int → HP → Prop) (u59 : Int → Int → Int → Int → Int → Int → Int → HP → Nat)
    (h0 : cD D → c32 a → c32 b → c32 c → (∃ Q1 : Option MV → HP → Prop, CT mX6_reads [vR 56] D Q1 ∧ ∀ (D4 : HP), Q1 none D4 → cD D4 → (I10 a b c 0 0 D4)))
    (h10 : ∀ (x1 x2 x3 x4 x6 : Int) (D : HP), I10 x1 x2 x3 x4 x6 D → cD D → c32 x1 → c32 x2 → c32 x3 → c64 x4 → c32 x6 → (((D 56 5) ≤ x6 → (I42 x1 x2 x3 x4 0 D ∧ u42 x1 x2 x3 x4 0 D ≤ u10 x1 x2 x3 x4 x6 D)) ∧ (¬ ((D 56 5) ≤ x6) → ((0 ≤ x6 ∧ x6 < 12) ∧ ((0 ≤ x6 ∧ x6 < 12) ∧ (∀ (E9 : HP), E9 = (hu D 74 x6.toNat (D 61 x6.toNat)) → ((c32 (x6 + 1)) ∧ (I10 x1 x2 x3 x4 (x6 + 1) E9 ∧ u10 x1 x2 x3 x4 (x6 + 1) E9 < u10 x1 x2 x3 x4 x6 D))))))))
    (h42 : ∀ (x1 x2 x3 x4 x6 : Int) (D : HP), I42 x1 x2 x3 x4 x6 D → cD D → c32 x1 → c32 x2 → c32 x3 → c64 x4 → c32 x6 → (((b_ishl 1 (D 56 5)) ≤ x6 → ((c32 (4 * (D 56 5))) ∧ ((oX6_lowest D x4 (b_lshl 1 (4 * (D 56 5))) x3) ∧ (Q (some (vL (fX6_lowest D x4 (b_lshl 1 (4 * (D 56 5))) x3))) D)))) ∧ (¬ ((b_ishl 1 (D 56 5)) ≤ x6) → (I59 x1 x2 x3 x4 x6 1 0 D ∧ u59 x1 x2 x3 x4 x6 1 0 D ≤ u42 x1 x2 x3 x4 x6 D))))
    (h59 : ∀ (x1 x2 x3 x4 x6 x7 x9 : Int) (D : HP), I59 x1 x2 x3 x4 x6 x7 x9 D → cD D → c32 x1 → c32 x2 → c32 x3 → c64 x4 → c32 x6 → c64 x7 → c32 x9 → (((D 56 5) ≤ x9 → (∃ Q18 : Option MV → HP → Prop, CT mX6_runs [vR 56] D Q18 ∧ ∀ (D21 : HP), Q18 none D21 → cD D21 → ((oX6_lastIn D21) ∧ ((c64 (x4 + (if (fX6_lastIn D21) = x2 then (x7 : Int) else 0))) ∧ (∀ (v25 : Int), v25 = (x4 + (if (fX6_lastIn D21) = x2 then (x7 : Int) else 0)) → ((c32 (x6 + 1)) ∧ (I42 x1 x2 x3 v25 (x6 + 1) D21 ∧ u42 x1 x2 x3 v25 (x6 + 1) D21 < u59 x1 x2 x3 x4 x6 x7 x9 D))))))) ∧ (¬ ((D 56 5) ≤ x9) → (((((fX6_isIn D x6 x9) = 0) → (c32 (16 - x1))) ∧ (¬ ((fX6_isIn D x6 x9) = 0) → True)) ∧ ((c64 (x7 * (if (fX6_isIn D x6 x9) = 0 then ((16 - x1) : Int) else x1))) ∧ (∀ (v33 : Int), v33 = (x7 * (if (fX6_isIn D x6 x9) = 0 then ((16 - x1) : Int) else x1)) → (((((fX6_isIn D x6 x9) = 0) → True) ∧ (¬ ((fX6_isIn D x6 x9) = 0) → (0 ≤ x9 ∧ x9 < 12))) ∧ ((0 ≤ x9 ∧ x9 < 12) ∧ (∀ (E36 : HP), E36 = (hu D 61 x9.toNat (if (fX6_isIn D x6 x9) = 0 then (0 : Int) else (D 74 x9.toNat))) → ((c32 (x9 + 1)) ∧ (I59 x1 x2 x3 x4 x6 v33 (x9 + 1) E36 ∧ u59 x1 x2 x3 x4 x6 v33 (x9 + 1) E36 < u59 x1 x2 x3 x4 x6 x7 x9 D)))))))))))
    : CT mX6_calmOf [vR 56, vI a, vI b, vI c] D Q := by
  refine CT.of 6 (by decide) (Nat.le_of_ble_eq_true rfl) ?_
  show WP mX6_calmOf Q 0 [vR 56, vI a, vI b, vI c, vU, vU, vU, vU, vU, vU] [] D
  have IH : ∀ n : Nat, (∀ (x1 x2 x3 x4 x6 : Int) (D : HP), I10 x1 x2 x3 x4 x6 D → u10 x1 x2 x3 x4 x6 D * 3 + 2 < n → WP mX6_calmOf Q 10 [vR 56, vI x1, vI x2, vI x3, vL x4, vU, vI x6, vU, vU, vU] [] D) ∧ (∀ (x1 x2 x3 x4 x6 : Int) (D : HP), I42 x1 x2 x3 x4 x6 D → u42 x1 x2 x3 x4 x6 D * 3 + 1 < n → WP mX6_calmOf Q 42 [vR 56, vI x1, vI x2, vI x3, vL x4, vU, vI x6, vU, vU, vU] [] D) ∧ (∀ (x1 x2 x3 x4 x6 x7 x9 : Int) (D : HP), I59 x1 x2 x3 x4 x6 x7 x9 D → u59 x1 x2 x3 x4 x6 x7 x9 D * 3 + 0 < n → WP mX6_calmOf Q 59 [vR 56, vI x1, vI x2, vI x3, vL x4, vU, vI x6, vL x7, vU, vI x9] [] D) := by
    intro n
    induction n with
    | zero => exact ⟨fun _ _ _ _ _ _ _ h => absurd h (Nat.not_lt_zero _), fun _ _ _ _ _ _ _ h => absurd h (Nat.not_lt_zero _), fun _ _ _ _ _ _ _ _ _ h => absurd h (Nat.not_lt_zero _)⟩
    | succ n ih =>
      have ih10_ := ih.1
      have ih42_ := ih.2.1
      have ih59_ := ih.2.2
      refine ⟨?_, ?_, ?_⟩
      · intro x1 x2 x3 x4 x6 D hI hn
        refine WP_cD (fun hcD => ?_)
        refine WP_cl (fun hcl => ?_)
        have h := h10 x1 x2 x3 x4 x6 D hI hcD (cVs_g hcl (i := 1) (v := vI x1) rfl) (cVs_g hcl (i := 2) (v := vI x2) rfl) (cVs_g hcl (i := 3) (v := vI x3) rfl) (cVs_g hcl (i := 4) (v := vL x4) rfl) (cVs_g hcl (i := 6) (v := vI x6) rfl)
        refine WP_iload (z := x6) dX6_calmOf_10 rfl ?_
        refine WP_aload_n (z := 56) dX6_calmOf_12 rfl ?_
        refine WP_getI dX6_calmOf_13 fl_RX6_101 rfl rfl rfl ?_
        refine WP_icmp_ge (tgt := 39) dX6_calmOf_16 (by decide) (fun c8 => ?_) (fun c8 => ?_)
        · replace h := h.1 c8
          refine WP_iconst (z := 0) dX6_calmOf_39 rfl ⟨by decide, by decide⟩ ?_
          refine WP_istore (ls1 := [vR 56, vI x1, vI x2, vI x3, vL x4, vU, vI 0, vU, vU, vU]) dX6_calmOf_40 (by decide) rfl ?_
          exact ih42_ _ _ _ _ _ _ h.1 (by have := h.2; omega)
        · replace h := h.2 c8
          refine WP_aload_n (z := 56) dX6_calmOf_19 rfl ?_
          refine WP_getR (z := 74) dX6_calmOf_20 fl_RX6_62 rfl rfl rfl ?_
          refine WP_iload (z := x6) dX6_calmOf_23 rfl ?_
          refine WP_aload_n (z := 56) dX6_calmOf_25 rfl ?_
          refine WP_getR (z := 61) dX6_calmOf_26 fl_RX6_23 rfl rfl rfl ?_
          refine WP_iload (z := x6) dX6_calmOf_29 rfl ?_
          obtain ⟨o13, h⟩ := h
          refine WP_iald dX6_calmOf_31 rfl o13.1 o13.2 rfl ?_
          obtain ⟨o12, h⟩ := h
          refine WP_iast dX6_calmOf_32 rfl o12.1 o12.2 ?_
          obtain ⟨E9, hE10⟩ : ∃ E9 : HP, E9 = (hu D 74 x6.toNat (D 61 x6.toNat)) := ⟨_, rfl⟩
          replace h := h E9 hE10
          show WP mX6_calmOf Q 33 [vR 56, vI x1, vI x2, vI x3, vL x4, vU, vI x6, vU, vU, vU] [] (hu D 74 x6.toNat (D 61 x6.toNat))
          rw [← hE10]
          obtain ⟨o11, h⟩ := h
          refine WP_iinc (z := (x6 + 1)) (ls1 := [vR 56, vI x1, vI x2, vI x3, vL x4, vU, vI (x6 + 1), vU, vU, vU]) dX6_calmOf_33 rfl (w32_id o11) (by decide) rfl ?_
          refine WP_goto (tgt := 10) dX6_calmOf_36 (by decide) ?_
          exact ih10_ _ _ _ _ _ _ h.1 (by have := h.2; omega)
      · intro x1 x2 x3 x4 x6 D hI hn
        refine WP_cD (fun hcD => ?_)
        refine WP_cl (fun hcl => ?_)
        have h := h42 x1 x2 x3 x4 x6 D hI hcD (cVs_g hcl (i := 1) (v := vI x1) rfl) (cVs_g hcl (i := 2) (v := vI x2) rfl) (cVs_g hcl (i := 3) (v := vI x3) rfl) (cVs_g hcl (i := 4) (v := vL x4) rfl) (cVs_g hcl (i := 6) (v := vI x6) rfl)
        refine WP_iload (z := x6) dX6_calmOf_42 rfl ?_
        refine WP_iconst (z := 1) dX6_calmOf_44 rfl ⟨by decide, by decide⟩ ?_
        refine WP_aload_n (z := 56) dX6_calmOf_45 rfl ?_
        refine WP_getI dX6_calmOf_46 fl_RX6_101 rfl rfl rfl ?_
        refine WP_ishl dX6_calmOf_49 rfl ?_
        refine WP_icmp_ge (tgt := 156) dX6_calmOf_50 (by decide) (fun c14 => ?_) (fun c14 => ?_)
        · replace h := h.1 c14
          refine WP_lload (z := x4) dX6_calmOf_156 rfl ?_
          refine WP_lconst (z := 1) dX6_calmOf_158 rfl ?_
          refine WP_iconst (z := 4) dX6_calmOf_159 rfl ⟨by decide, by decide⟩ ?_
          refine WP_aload_n (z := 56) dX6_calmOf_160 rfl ?_
          refine WP_getI dX6_calmOf_161 fl_RX6_101 rfl rfl rfl ?_
          obtain ⟨o16, h⟩ := h
          refine WP_imul (z := (4 * (D 56 5))) dX6_calmOf_164 (w32_id o16) ?_
          refine WP_lshl dX6_calmOf_165 rfl ?_
          refine WP_iload_n (z := x3) dX6_calmOf_166 rfl ?_
          obtain ⟨o15, h⟩ := h
          refine WP_pcallS (g := mX6_lowest) (as := [vL x4, vL (b_lshl 1 (4 * (D 56 5))), vI x3]) (rest := []) (n := 3) (r := vL (fX6_lowest D x4 (b_lshl 1 (4 * (D 56 5))) x3)) dX6_calmOf_167 wm_796 mo_X6_lowest rfl rfl ⟨Nat.le_of_ble_eq_true rfl, Nat.le_of_ble_eq_true rfl⟩ (Nat.le_of_ble_eq_true rfl) (P_X6_lowest  o15) ?_
          exact WP_lreturn dX6_calmOf_170 rfl h
        · replace h := h.2 c14
          refine WP_lconst (z := 1) dX6_calmOf_53 rfl ?_
          refine WP_lstore (ls1 := [vR 56, vI x1, vI x2, vI x3, vL x4, vU, vI x6, vL 1, vU, vU]) dX6_calmOf_54 (by decide) rfl ?_
          refine WP_iconst (z := 0) dX6_calmOf_56 rfl ⟨by decide, by decide⟩ ?_
          refine WP_istore (ls1 := [vR 56, vI x1, vI x2, vI x3, vL x4, vU, vI x6, vL 1, vU, vI 0]) dX6_calmOf_57 (by decide) rfl ?_
          exact ih59_ _ _ _ _ _ _ _ _ h.1 (by have := h.2; omega)
      · intro x1 x2 x3 x4 x6 x7 x9 D hI hn
        refine WP_cD (fun hcD => ?_)
        refine WP_cl (fun hcl => ?_)
        have h := h59 x1 x2 x3 x4 x6 x7 x9 D hI hcD (cVs_g hcl (i := 1) (v := vI x1) rfl) (cVs_g hcl (i := 2) (v := vI x2) rfl) (cVs_g hcl (i := 3) (v := vI x3) rfl) (cVs_g hcl (i := 4) (v := vL x4) rfl) (cVs_g hcl (i := 6) (v := vI x6) rfl) (cVs_g hcl (i := 7) (v := vL x7) rfl) (cVs_g hcl (i := 9) (v := vI x9) rfl)
        refine WP_iload (z := x9) dX6_calmOf_59 rfl ?_
        refine WP_aload_n (z := 56) dX6_calmOf_61 rfl ?_
        refine WP_getI dX6_calmOf_62 fl_RX6_101 rfl rfl rfl ?_
        refine WP_icmp_ge (tgt := 127) dX6_calmOf_65 (by decide) (fun c17 => ?_) (fun c17 => ?_)
        · replace h := h.1 c17
          refine WP_aload_n (z := 56) dX6_calmOf_127 rfl ?_
          obtain ⟨Q18, ct20, h⟩ := h
          refine WP_callV (g := mX6_runs) (as := []) (rest := []) (n := 0) dX6_calmOf_128 wm_415 mo_X6_runs rfl rfl rfl rfl ⟨Nat.le_of_ble_eq_true rfl, Nat.le_of_ble_eq_true rfl⟩ (Nat.le_of_ble_eq_true rfl) ct20 (fun r_ D21 hq19 hok hD24 => ?_)
          obtain rfl := hok
          replace h := h D21 hq19 hD24
          show WP mX6_calmOf Q 131 [vR 56, vI x1, vI x2, vI x3, vL x4, vU, vI x6, vL x7, vU, vI x9] [] D21
          refine WP_lload (z := x4) dX6_calmOf_131 rfl ?_
          refine WP_aload_n (z := 56) dX6_calmOf_133 rfl ?_
          obtain ⟨o31, h⟩ := h
          refine WP_pcallV (g := mX6_lastIn) (as := []) (rest := [vL x4]) (n := 0) (r := vI (fX6_lastIn D21)) dX6_calmOf_134 wm_613 mo_X6_lastIn rfl rfl rfl rfl ⟨Nat.le_of_ble_eq_true rfl, Nat.le_of_ble_eq_true rfl⟩ (Nat.le_of_ble_eq_true rfl) (P_X6_lastIn  o31) ?_
          refine WP_iload_n (z := x2) dX6_calmOf_137 rfl ?_
          refine WP_via (pc1 := 147) (ls1 := [vR 56, vI x1, vI x2, vI x3, vL x4, vU, vI x6, vL x7, vU, vI x9]) (st1 := [vL (if (fX6_lastIn D21) = x2 then (x7 : Int) else 0), vL x4]) (D1 := D21) (fun hJ29 => ?_) ?_
          · refine WP_icmp_ne (tgt := 146) dX6_calmOf_138 (by decide) (fun c30 => ?_) (fun c30 => ?_)
            · replace hJ29 := ite_f (P := fun v_ : Int => WP mX6_calmOf Q 147 [vR 56, vI x1, vI x2, vI x3, vL x4, vU, vI x6, vL x7, vU, vI x9] [vL v_, vL x4] D21) hJ29 c30
              refine WP_lconst (z := 0) dX6_calmOf_146 rfl ?_
              exact hJ29
            · replace hJ29 := ite_t (P := fun v_ : Int => WP mX6_calmOf Q 147 [vR 56, vI x1, vI x2, vI x3, vL x4, vU, vI x6, vL x7, vU, vI x9] [vL v_, vL x4] D21) hJ29 c30
              refine WP_lload (z := x7) dX6_calmOf_141 rfl ?_
              refine WP_goto (tgt := 147) dX6_calmOf_143 (by decide) ?_
              exact hJ29
          · obtain ⟨o28, h⟩ := h
            refine WP_ladd (z := (x4 + (if (fX6_lastIn D21) = x2 then (x7 : Int) else 0))) dX6_calmOf_147 (w64_id o28) ?_
            refine WP_lstore (ls1 := [vR 56, vI x1, vI x2, vI x3, vL (x4 + (if (fX6_lastIn D21) = x2 then (x7 : Int) else 0)), vU, vI x6, vL x7, vU, vI x9]) dX6_calmOf_148 (by decide) rfl ?_
            obtain ⟨v25, hv26⟩ : ∃ v25 : Int, v25 = (x4 + (if (fX6_lastIn D21) = x2 then (x7 : Int) else 0)) := ⟨_, rfl⟩
            replace h := h v25 hv26
            rw [← hv26]
            obtain ⟨o27, h⟩ := h
            refine WP_iinc (z := (x6 + 1)) (ls1 := [vR 56, vI x1, vI x2, vI x3, vL v25, vU, vI (x6 + 1), vL x7, vU, vI x9]) dX6_calmOf_150 rfl (w32_id o27) (by decide) rfl ?_
            refine WP_goto (tgt := 42) dX6_calmOf_153 (by decide) ?_
            refine WP_fg 7 (ls1 := [vR 56, vI x1, vI x2, vI x3, vL v25, vU, vI (x6 + 1), vU, vU, vI x9]) rfl ?_
            refine WP_fg 9 (ls1 := [vR 56, vI x1, vI x2, vI x3, vL v25, vU, vI (x6 + 1), vU, vU, vU]) rfl ?_
            exact ih42_ _ _ _ _ _ _ h.1 (by have := h.2; omega)
        · replace h := h.2 c17
          refine WP_lload (z := x7) dX6_calmOf_68 rfl ?_
          refine WP_iload (z := x6) dX6_calmOf_70 rfl ?_
          refine WP_iload (z := x9) dX6_calmOf_72 rfl ?_
          refine WP_pcallS (g := mX6_isIn) (as := [vI x6, vI x9]) (rest := [vL x7]) (n := 2) (r := vI (fX6_isIn D x6 x9)) dX6_calmOf_74 wm_793 mo_X6_isIn rfl rfl ⟨Nat.le_of_ble_eq_true rfl, Nat.le_of_ble_eq_true rfl⟩ (Nat.le_of_ble_eq_true rfl) (P_X6_isIn  trivial) ?_
          obtain ⟨o32, h⟩ := h
          refine WP_via (pc1 := 90) (ls1 := [vR 56, vI x1, vI x2, vI x3, vL x4, vU, vI x6, vL x7, vU, vI x9]) (st1 := [vL (if (fX6_isIn D x6 x9) = 0 then ((16 - x1) : Int) else x1), vL x7]) (D1 := D) (fun hJ45 => ?_) ?_
          · refine WP_if_eq (tgt := 85) dX6_calmOf_77 (by decide) (fun c46 => ?_) (fun c46 => ?_)
            · replace hJ45 := ite_t (P := fun v_ : Int => WP mX6_calmOf Q 90 [vR 56, vI x1, vI x2, vI x3, vL x4, vU, vI x6, vL x7, vU, vI x9] [vL v_, vL x7] D) hJ45 c46
              have o47 := o32.1 c46
              refine WP_bipush (z := 16) dX6_calmOf_85 rfl (by decide) ?_
              refine WP_iload_n (z := x1) dX6_calmOf_87 rfl ?_
              refine WP_isub (z := (16 - x1)) dX6_calmOf_88 (w32_id o47) ?_
              refine WP_i2l dX6_calmOf_89 ?_
              exact hJ45
            · replace hJ45 := ite_f (P := fun v_ : Int => WP mX6_calmOf Q 90 [vR 56, vI x1, vI x2, vI x3, vL x4, vU, vI x6, vL x7, vU, vI x9] [vL v_, vL x7] D) hJ45 c46
              have o48 := o32.2 c46
              refine WP_iload_n (z := x1) dX6_calmOf_80 rfl ?_
              refine WP_i2l dX6_calmOf_81 ?_
              refine WP_goto (tgt := 90) dX6_calmOf_82 (by decide) ?_
              exact hJ45
          · obtain ⟨o44, h⟩ := h
            refine WP_lmul (z := (x7 * (if (fX6_isIn D x6 x9) = 0 then ((16 - x1) : Int) else x1))) dX6_calmOf_90 (w64_id o44) ?_
            refine WP_lstore (ls1 := [vR 56, vI x1, vI x2, vI x3, vL x4, vU, vI x6, vL (x7 * (if (fX6_isIn D x6 x9) = 0 then ((16 - x1) : Int) else x1)), vU, vI x9]) dX6_calmOf_91 (by decide) rfl ?_
            obtain ⟨v33, hv34⟩ : ∃ v33 : Int, v33 = (x7 * (if (fX6_isIn D x6 x9) = 0 then ((16 - x1) : Int) else x1)) := ⟨_, rfl⟩
            replace h := h v33 hv34
            rw [← hv34]
            refine WP_aload_n (z := 56) dX6_calmOf_93 rfl ?_
            refine WP_getR (z := 61) dX6_calmOf_94 fl_RX6_23 rfl rfl rfl ?_
            refine WP_iload (z := x9) dX6_calmOf_97 rfl ?_
            refine WP_iload (z := x6) dX6_calmOf_99 rfl ?_
            refine WP_iload (z := x9) dX6_calmOf_101 rfl ?_
            refine WP_pcallS (g := mX6_isIn) (as := [vI x6, vI x9]) (rest := [vI x9, vR 61]) (n := 2) (r := vI (fX6_isIn D x6 x9)) dX6_calmOf_103 wm_793 mo_X6_isIn rfl rfl ⟨Nat.le_of_ble_eq_true rfl, Nat.le_of_ble_eq_true rfl⟩ (Nat.le_of_ble_eq_true rfl) (P_X6_isIn  trivial) ?_
            obtain ⟨o35, h⟩ := h
            refine WP_via (pc1 := 120) (ls1 := [vR 56, vI x1, vI x2, vI x3, vL x4, vU, vI x6, vL v33, vU, vI x9]) (st1 := [vI (if (fX6_isIn D x6 x9) = 0 then (0 : Int) else (D 74 x9.toNat)), vI x9, vR 61]) (D1 := D) (fun hJ40 => ?_) ?_
            · refine WP_if_eq (tgt := 119) dX6_calmOf_106 (by decide) (fun c41 => ?_) (fun c41 => ?_)
              · replace hJ40 := ite_t (P := fun v_ : Int => WP mX6_calmOf Q 120 [vR 56, vI x1, vI x2, vI x3, vL x4, vU, vI x6, vL v33, vU, vI x9] [vI v_, vI x9, vR 61] D) hJ40 c41
                have o42 := o35.1 c41
                refine WP_iconst (z := 0) dX6_calmOf_119 rfl ⟨by decide, by decide⟩ ?_
                exact hJ40
              · replace hJ40 := ite_f (P := fun v_ : Int => WP mX6_calmOf Q 120 [vR 56, vI x1, vI x2, vI x3, vL x4, vU, vI x6, vL v33, vU, vI x9] [vI v_, vI x9, vR 61] D) hJ40 c41
                have o43 := o35.2 c41
                refine WP_aload_n (z := 56) dX6_calmOf_109 rfl ?_
                refine WP_getR (z := 74) dX6_calmOf_110 fl_RX6_62 rfl rfl rfl ?_
                refine WP_iload (z := x9) dX6_calmOf_113 rfl ?_
                refine WP_iald dX6_calmOf_115 rfl o43.1 o43.2 rfl ?_
                refine WP_goto (tgt := 120) dX6_calmOf_116 (by decide) ?_
                exact hJ40
            · obtain ⟨o39, h⟩ := h
              refine WP_iast dX6_calmOf_120 rfl o39.1 o39.2 ?_
              obtain ⟨E36, hE37⟩ : ∃ E36 : HP, E36 = (hu D 61 x9.toNat (if (fX6_isIn D x6 x9) = 0 then (0 : Int) else (D 74 x9.toNat))) := ⟨_, rfl⟩
              replace h := h E36 hE37
              show WP mX6_calmOf Q 121 [vR 56, vI x1, vI x2, vI x3, vL x4, vU, vI x6, vL v33, vU, vI x9] [] (hu D 61 x9.toNat (if (fX6_isIn D x6 x9) = 0 then (0 : Int) else (D 74 x9.toNat)))
              rw [← hE37]
              obtain ⟨o38, h⟩ := h
              refine WP_iinc (z := (x9 + 1)) (ls1 := [vR 56, vI x1, vI x2, vI x3, vL x4, vU, vI x6, vL v33, vU, vI (x9 + 1)]) dX6_calmOf_121 rfl (w32_id o38) (by decide) rfl ?_
              refine WP_goto (tgt := 59) dX6_calmOf_124 (by decide) ?_
              exact ih59_ _ _ _ _ _ _ _ _ h.1 (by have := h.2; omega)
  have cut10_ : ∀ (x1 x2 x3 x4 x6 : Int) (D : HP), I10 x1 x2 x3 x4 x6 D → WP mX6_calmOf Q 10 [vR 56, vI x1, vI x2, vI x3, vL x4, vU, vI x6, vU, vU, vU] [] D := fun x1 x2 x3 x4 x6 D hI => (IH (u10 x1 x2 x3 x4 x6 D * 3 + 2 + 1)).1 x1 x2 x3 x4 x6 D hI (by omega)
  have cut42_ : ∀ (x1 x2 x3 x4 x6 : Int) (D : HP), I42 x1 x2 x3 x4 x6 D → WP mX6_calmOf Q 42 [vR 56, vI x1, vI x2, vI x3, vL x4, vU, vI x6, vU, vU, vU] [] D := fun x1 x2 x3 x4 x6 D hI => (IH (u42 x1 x2 x3 x4 x6 D * 3 + 1 + 1)).2.1 x1 x2 x3 x4 x6 D hI (by omega)
  have cut59_ : ∀ (x1 x2 x3 x4 x6 x7 x9 : Int) (D : HP), I59 x1 x2 x3 x4 x6 x7 x9 D → WP mX6_calmOf Q 59 [vR 56, vI x1, vI x2, vI x3, vL x4, vU, vI x6, vL x7, vU, vI x9] [] D := fun x1 x2 x3 x4 x6 x7 x9 D hI => (IH (u59 x1 x2 x3 x4 x6 x7 x9 D * 3 + 0 + 1)).2.2 x1 x2 x3 x4 x6 x7 x9 D hI (by omega)
  refine WP_cD (fun hcD => ?_)
  refine WP_cl (fun hcl => ?_)
  have h := h0 hcD (cVs_g hcl (i := 1) (v := vI a) rfl) (cVs_g hcl (i := 2) (v := vI b) rfl) (cVs_g hcl (i := 3) (v := vI c) rfl)
  refine WP_aload_n (z := 56) dX6_calmOf_0 rfl ?_
  obtain ⟨Q1, ct3, h⟩ := h
  refine WP_callV (g := mX6_reads) (as := []) (rest := []) (n := 0) dX6_calmOf_1 wm_343 mo_X6_reads rfl rfl rfl rfl ⟨Nat.le_of_ble_eq_true rfl, Nat.le_of_ble_eq_true rfl⟩ (Nat.le_of_ble_eq_true rfl) ct3 (fun r_ D4 hq2 hok hD7 => ?_)
  obtain rfl := hok
  replace h := h D4 hq2 hD7
  show WP mX6_calmOf Q 4 [vR 56, vI a, vI b, vI c, vU, vU, vU, vU, vU, vU] [] D4
  refine WP_lconst (z := 0) dX6_calmOf_4 rfl ?_
  refine WP_lstore (ls1 := [vR 56, vI a, vI b, vI c, vL 0, vU, vU, vU, vU, vU]) dX6_calmOf_5 (by decide) rfl ?_
  refine WP_iconst (z := 0) dX6_calmOf_7 rfl ⟨by decide, by decide⟩ ?_
  refine WP_istore (ls1 := [vR 56, vI a, vI b, vI c, vL 0, vU, vI 0, vU, vU, vU]) dX6_calmOf_8 (by decide) rfl ?_
  exact cut10_ _ _ _ _ _ _ h
set_option maxRecDepth 100000 in
set_option maxHeartbeats 4000000 in
theorem V_X6_calm (a : Int) (b : Int) (c : Int) {D : HP} {Q : Option MV → HP → Prop}
    (h0 : cD D → c32 a → c32 b → c32 c → (((fX6_within D a 0 16) = 0 → (Q (some (vL (fX6_no D (-2)))) D)) ∧ (¬ ((fX6_within D a 0 16) = 0) → (∃ Q2 : Option MV → HP → Prop, CT mX6_isCandidate [vR 56, vI b] D Q2 ∧ ∀ (r6 : Int) (D5 : HP), Q2 (some (vI r6)) D5 → c32 r6 → cD D5 → ((r6 = 0 → (Q (some (vL (fX6_no D5 (-2)))) D5)) ∧ (¬ (r6 = 0) → (((fX6_within D5 c 0 1) = 0 → (Q (some (vL (fX6_no D5 (-2)))) D5)) ∧ (¬ ((fX6_within D5 c 0 1) = 0) → (∃ Q11 : Option MV → HP → Prop, CT mX6_calmOf [vR 56, vI a, vI b, vI c] D5 Q11 ∧ ∀ (r15 : Int) (D14 : HP), Q11 (some (vL r15)) D14 → c64 r15 → cD D14 → (Q (some (vL r15)) D14))))))))))
    : CT mX6_calm [vR 56, vI a, vI b, vI c] D Q := by
  refine CT.of 0 (by decide) (Nat.le_of_ble_eq_true rfl) ?_
  show WP mX6_calm Q 0 [vR 56, vI a, vI b, vI c] [] D
  refine WP_cD (fun hcD => ?_)
  refine WP_cl (fun hcl => ?_)
  have h := h0 hcD (cVs_g hcl (i := 1) (v := vI a) rfl) (cVs_g hcl (i := 2) (v := vI b) rfl) (cVs_g hcl (i := 3) (v := vI c) rfl)
  refine WP_iload_n (z := a) dX6_calm_0 rfl ?_
  refine WP_iconst (z := 0) dX6_calm_1 rfl ⟨by decide, by decide⟩ ?_
  refine WP_bipush (z := 16) dX6_calm_2 rfl (by decide) ?_
  refine WP_pcallS (g := mX6_within) (as := [vI a, vI 0, vI 16]) (rest := []) (n := 3) (r := vI (fX6_within D a 0 16)) dX6_calm_4 wm_262 mo_X6_within rfl rfl ⟨Nat.le_of_ble_eq_true rfl, Nat.le_of_ble_eq_true rfl⟩ (Nat.le_of_ble_eq_true rfl) (P_X6_within  trivial) ?_
  refine WP_if_eq (tgt := 37) dX6_calm_7 (by decide) (fun c1 => ?_) (fun c1 => ?_)
  · replace h := h.1 c1
    refine WP_bipush (z := (-2)) dX6_calm_37 rfl (by decide) ?_
    refine WP_pcallS (g := mX6_no) (as := [vI (-2)]) (rest := []) (n := 1) (r := vL (fX6_no D (-2))) dX6_calm_39 wm_799 mo_X6_no rfl rfl ⟨Nat.le_of_ble_eq_true rfl, Nat.le_of_ble_eq_true rfl⟩ (Nat.le_of_ble_eq_true rfl) (P_X6_no  trivial) ?_
    exact WP_lreturn dX6_calm_42 rfl h
  · replace h := h.2 c1
    refine WP_aload_n (z := 56) dX6_calm_10 rfl ?_
    refine WP_iload_n (z := b) dX6_calm_11 rfl ?_
    obtain ⟨Q2, ct4, h⟩ := h
    refine WP_callV (g := mX6_isCandidate) (as := [vI b]) (rest := []) (n := 1) dX6_calm_12 wm_386 mo_X6_isCandidate rfl rfl rfl rfl ⟨Nat.le_of_ble_eq_true rfl, Nat.le_of_ble_eq_true rfl⟩ (Nat.le_of_ble_eq_true rfl) ct4 (fun r_ D5 hq3 hok hD8 => ?_)
    obtain ⟨r6, rfl, hr7⟩ := hok
    replace h := h r6 D5 hq3 hr7 hD8
    show WP mX6_calm Q 15 [vR 56, vI a, vI b, vI c] [vI r6] D5
    refine WP_if_eq (tgt := 37) dX6_calm_15 (by decide) (fun c9 => ?_) (fun c9 => ?_)
    · replace h := h.1 c9
      refine WP_bipush (z := (-2)) dX6_calm_37 rfl (by decide) ?_
      refine WP_pcallS (g := mX6_no) (as := [vI (-2)]) (rest := []) (n := 1) (r := vL (fX6_no D5 (-2))) dX6_calm_39 wm_799 mo_X6_no rfl rfl ⟨Nat.le_of_ble_eq_true rfl, Nat.le_of_ble_eq_true rfl⟩ (Nat.le_of_ble_eq_true rfl) (P_X6_no  trivial) ?_
      exact WP_lreturn dX6_calm_42 rfl h
    · replace h := h.2 c9
      refine WP_iload_n (z := c) dX6_calm_18 rfl ?_
      refine WP_iconst (z := 0) dX6_calm_19 rfl ⟨by decide, by decide⟩ ?_
      refine WP_iconst (z := 1) dX6_calm_20 rfl ⟨by decide, by decide⟩ ?_
      refine WP_pcallS (g := mX6_within) (as := [vI c, vI 0, vI 1]) (rest := []) (n := 3) (r := vI (fX6_within D5 c 0 1)) dX6_calm_21 wm_262 mo_X6_within rfl rfl ⟨Nat.le_of_ble_eq_true rfl, Nat.le_of_ble_eq_true rfl⟩ (Nat.le_of_ble_eq_true rfl) (P_X6_within  trivial) ?_
      refine WP_if_eq (tgt := 37) dX6_calm_24 (by decide) (fun c10 => ?_) (fun c10 => ?_)
      · replace h := h.1 c10
        refine WP_bipush (z := (-2)) dX6_calm_37 rfl (by decide) ?_
        refine WP_pcallS (g := mX6_no) (as := [vI (-2)]) (rest := []) (n := 1) (r := vL (fX6_no D5 (-2))) dX6_calm_39 wm_799 mo_X6_no rfl rfl ⟨Nat.le_of_ble_eq_true rfl, Nat.le_of_ble_eq_true rfl⟩ (Nat.le_of_ble_eq_true rfl) (P_X6_no  trivial) ?_
        exact WP_lreturn dX6_calm_42 rfl h
      · replace h := h.2 c10
        refine WP_aload_n (z := 56) dX6_calm_27 rfl ?_
        refine WP_iload_n (z := a) dX6_calm_28 rfl ?_
        refine WP_iload_n (z := b) dX6_calm_29 rfl ?_
        refine WP_iload_n (z := c) dX6_calm_30 rfl ?_
        obtain ⟨Q11, ct13, h⟩ := h
        refine WP_callV (g := mX6_calmOf) (as := [vI a, vI b, vI c]) (rest := []) (n := 3) dX6_calm_31 wm_789 mo_X6_calmOf rfl rfl rfl rfl ⟨Nat.le_of_ble_eq_true rfl, Nat.le_of_ble_eq_true rfl⟩ (Nat.le_of_ble_eq_true rfl) ct13 (fun r_ D14 hq12 hok hD17 => ?_)
        obtain ⟨r15, rfl, hr16⟩ := hok
        replace h := h r15 D14 hq12 hr16 hD17
        show WP mX6_calm Q 34 [vR 56, vI a, vI b, vI c] [vL r15] D14
        refine WP_goto (tgt := 42) dX6_calm_34 (by decide) ?_
        exact WP_lreturn dX6_calm_42 rfl h
def fX6_turnedNow (D : HP) : Int := cntB (fun k => decide (D 66 k ≠ -1)) (D 56 8).toNat
def oX6_turnedNow (D : HP) : Prop := D 56 8 ≤ 8
set_option maxRecDepth 100000 in
set_option maxHeartbeats 4000000 in
theorem V_X6_turnedNow  {D : HP} {Q : Option MV → HP → Prop} (I4 : Int → Int → HP → Prop) (u4 : Int → Int → HP → Nat)
    (h0 : cD D → (I4 0 0 D))
    (h4 : ∀ (x1 x2 : Int) (D : HP), I4 x1 x2 D → cD D → c32 x1 → c32 x2 → (((D 56 8) ≤ x2 → (Q (some (vI x1)) D)) ∧ (¬ ((D 56 8) ≤ x2) → ((0 ≤ x2 ∧ x2 < 8) ∧ ((c32 (x1 + (if (D 66 x2.toNat) = (-1) then (0 : Int) else 1))) ∧ ((c32 (x2 + 1)) ∧ (I4 (x1 + (if (D 66 x2.toNat) = (-1) then (0 : Int) else 1)) (x2 + 1) D ∧ u4 (x1 + (if (D 66 x2.toNat) = (-1) then (0 : Int) else 1)) (x2 + 1) D < u4 x1 x2 D)))))))
    : CT mX6_turnedNow [vR 56] D Q := by
  refine CT.of 2 (by decide) (Nat.le_of_ble_eq_true rfl) ?_
  show WP mX6_turnedNow Q 0 [vR 56, vU, vU] [] D
  have IH : ∀ n : Nat, (∀ (x1 x2 : Int) (D : HP), I4 x1 x2 D → u4 x1 x2 D * 1 + 0 < n → WP mX6_turnedNow Q 4 [vR 56, vI x1, vI x2] [] D) := by
    intro n
    induction n with
    | zero => exact fun _ _ _ _ h => absurd h (Nat.not_lt_zero _)
    | succ n ih =>
      have ih4_ := ih
      · intro x1 x2 D hI hn
        refine WP_cD (fun hcD => ?_)
        refine WP_cl (fun hcl => ?_)
        have h := h4 x1 x2 D hI hcD (cVs_g hcl (i := 1) (v := vI x1) rfl) (cVs_g hcl (i := 2) (v := vI x2) rfl)
        refine WP_iload_n (z := x2) dX6_turnedNow_4 rfl ?_
        refine WP_aload_n (z := 56) dX6_turnedNow_5 rfl ?_
        refine WP_getI dX6_turnedNow_6 fl_RX6_112 rfl rfl rfl ?_
        refine WP_icmp_ge (tgt := 36) dX6_turnedNow_9 (by decide) (fun c1 => ?_) (fun c1 => ?_)
        · replace h := h.1 c1
          refine WP_iload_n (z := x1) dX6_turnedNow_36 rfl ?_
          exact WP_ireturn dX6_turnedNow_37 rfl h
        · replace h := h.2 c1
          refine WP_iload_n (z := x1) dX6_turnedNow_12 rfl ?_
          refine WP_aload_n (z := 56) dX6_turnedNow_13 rfl ?_
          refine WP_getR (z := 66) dX6_turnedNow_14 fl_RX6_38 rfl rfl rfl ?_
          refine WP_iload_n (z := x2) dX6_turnedNow_17 rfl ?_
          obtain ⟨o6, h⟩ := h
          refine WP_iald dX6_turnedNow_18 rfl o6.1 o6.2 rfl ?_
          refine WP_iconst (z := (-1)) dX6_turnedNow_19 rfl ⟨by decide, by decide⟩ ?_
          refine WP_via (pc1 := 28) (ls1 := [vR 56, vI x1, vI x2]) (st1 := [vI (if (D 66 x2.toNat) = (-1) then (0 : Int) else 1), vI x1]) (D1 := D) (fun hJ4 => ?_) ?_
          · refine WP_icmp_eq (tgt := 27) dX6_turnedNow_20 (by decide) (fun c5 => ?_) (fun c5 => ?_)
            · replace hJ4 := ite_t (P := fun v_ : Int => WP mX6_turnedNow Q 28 [vR 56, vI x1, vI x2] [vI v_, vI x1] D) hJ4 c5
              refine WP_iconst (z := 0) dX6_turnedNow_27 rfl ⟨by decide, by decide⟩ ?_
              exact hJ4
            · replace hJ4 := ite_f (P := fun v_ : Int => WP mX6_turnedNow Q 28 [vR 56, vI x1, vI x2] [vI v_, vI x1] D) hJ4 c5
              refine WP_iconst (z := 1) dX6_turnedNow_23 rfl ⟨by decide, by decide⟩ ?_
              refine WP_goto (tgt := 28) dX6_turnedNow_24 (by decide) ?_
              exact hJ4
          · obtain ⟨o3, h⟩ := h
            refine WP_iadd (z := (x1 + (if (D 66 x2.toNat) = (-1) then (0 : Int) else 1))) dX6_turnedNow_28 (w32_id o3) ?_
            refine WP_istore_n (ls1 := [vR 56, vI (x1 + (if (D 66 x2.toNat) = (-1) then (0 : Int) else 1)), vI x2]) dX6_turnedNow_29 (by decide) rfl ?_
            obtain ⟨o2, h⟩ := h
            refine WP_iinc (z := (x2 + 1)) (ls1 := [vR 56, vI (x1 + (if (D 66 x2.toNat) = (-1) then (0 : Int) else 1)), vI (x2 + 1)]) dX6_turnedNow_30 rfl (w32_id o2) (by decide) rfl ?_
            refine WP_goto (tgt := 4) dX6_turnedNow_33 (by decide) ?_
            exact ih4_ _ _ _ h.1 (by have := h.2; omega)
  have cut4_ : ∀ (x1 x2 : Int) (D : HP), I4 x1 x2 D → WP mX6_turnedNow Q 4 [vR 56, vI x1, vI x2] [] D := fun x1 x2 D hI => (IH (u4 x1 x2 D * 1 + 0 + 1)) x1 x2 D hI (by omega)
  refine WP_cD (fun hcD => ?_)
  have h := h0 hcD
  refine WP_iconst (z := 0) dX6_turnedNow_0 rfl ⟨by decide, by decide⟩ ?_
  refine WP_istore_n (ls1 := [vR 56, vI 0, vU]) dX6_turnedNow_1 (by decide) rfl ?_
  refine WP_iconst (z := 0) dX6_turnedNow_2 rfl ⟨by decide, by decide⟩ ?_
  refine WP_istore_n (ls1 := [vR 56, vI 0, vI 0]) dX6_turnedNow_3 (by decide) rfl ?_
  exact cut4_ _ _ _ h
set_option maxRecDepth 100000 in
set_option maxHeartbeats 4000000 in
theorem P_X6_turnedNow  {D : HP} (hob : oX6_turnedNow D) : CT mX6_turnedNow [vR 56] D (PF (vI (fX6_turnedNow D)) D) := by
  refine V_X6_turnedNow (I4 := fun x1 x2 D' => D' = D ∧ ∃ j : Nat, x2 = j ∧ j ≤ (D 56 8).toNat ∧ x1 = cntB (fun k => decide (D 66 k ≠ -1)) j ∧ 0 ≤ x1 ∧ x1 ≤ j) (u4 := fun _ x2 D' => (D' 56 8 - x2).toNat) (fun _ => ⟨rfl, 0, rfl, Nat.zero_le _, rfl, by decide, by decide⟩) ?_
  rintro x1 x2 D' ⟨rfl, j, rfl, hj, h1, h2, h3⟩ hcD c1 c2
  unfold oX6_turnedNow at hob
  refine ⟨fun hc => ⟨?_, rfl⟩, fun hc => ⟨by omega, ?_, ?_, ⟨rfl, j + 1, by omega, by omega, ?_, ?_, ?_⟩, by omega⟩⟩
  · have : j = (D' 56 8).toNat := by omega
    subst this
    rw [h1]
    rfl
  · unfold c32 at *; split <;> omega
  · unfold c32 at *; omega
  · rw [h1]
    simp only [cntB, Int.toNat_natCast]
    grind
  · split <;> omega
  · split <;> omega

set_option maxRecDepth 100000 in
set_option maxHeartbeats 4000000 in
theorem V_X6_weatherOf (a : Int) (b : Int) (c : Int) {D : HP} {Q : Option MV → HP → Prop} (I15 : Int → Int → Int → Int → Int → HP → Prop) (u15 : Int → Int → Int → Int → Int → HP → Nat)
    (h0 : cD D → c32 a → c32 b → c32 c → (∃ Q1 : Option MV → HP → Prop, CT mX6_reads [vR 56] D Q1 ∧ ∀ (D4 : HP), Q1 none D4 → cD D4 → (∀ (E8 : HP), E8 = (hu D4 56 5 b) → (I15 a b c a 0 E8))))
    (h15 : ∀ (x1 x2 x3 x4 x5 : Int) (D : HP), I15 x1 x2 x3 x4 x5 D → cD D → c32 x1 → c32 x2 → c32 x3 → c32 x4 → c32 x5 → ((x2 ≤ x5 → (∃ Q11 : Option MV → HP → Prop, CT mX6_runs [vR 56] D Q11 ∧ ∀ (D14 : HP), Q11 none D14 → cD D14 → ((((x3 = 0) → (oX6_lastIn D14)) ∧ (¬ (x3 = 0) → (oX6_turnedNow D14))) ∧ (Q (some (vI (if x3 = 0 then ((fX6_lastIn D14) : Int) else (fX6_turnedNow D14)))) D14)))) ∧ (¬ (x2 ≤ x5) → ((0 ≤ (b_iushr (w32 ((w32 (1103515245 * x4)) + 12345)) 16)) ∧ ((0 ≤ x5 ∧ x5 < 12) ∧ (∀ (E23 : HP), E23 = (hu D 60 x5.toNat ((b_iushr (w32 ((w32 (1103515245 * x4)) + 12345)) 16) % 4)) → (∀ (v25 : Int), v25 = (w32 ((w32 (1103515245 * (w32 ((w32 (1103515245 * x4)) + 12345)))) + 12345)) → ((0 ≤ (b_iushr v25 16)) ∧ ((0 ≤ x5 ∧ x5 < 12) ∧ (∀ (E27 : HP), E27 = (hu E23 61 x5.toNat ((b_iushr v25 16) % 10)) → ((c32 (x5 + 1)) ∧ (I15 x1 x2 x3 v25 (x5 + 1) E27 ∧ u15 x1 x2 x3 v25 (x5 + 1) E27 < u15 x1 x2 x3 x4 x5 D))))))))))))
    : CT mX6_weatherOf [vR 56, vI a, vI b, vI c] D Q := by
  refine CT.of 2 (by decide) (Nat.le_of_ble_eq_true rfl) ?_
  show WP mX6_weatherOf Q 0 [vR 56, vI a, vI b, vI c, vU, vU] [] D
  have IH : ∀ n : Nat, (∀ (x1 x2 x3 x4 x5 : Int) (D : HP), I15 x1 x2 x3 x4 x5 D → u15 x1 x2 x3 x4 x5 D * 1 + 0 < n → WP mX6_weatherOf Q 15 [vR 56, vI x1, vI x2, vI x3, vI x4, vI x5] [] D) := by
    intro n
    induction n with
    | zero => exact fun _ _ _ _ _ _ _ h => absurd h (Nat.not_lt_zero _)
    | succ n ih =>
      have ih15_ := ih
      · intro x1 x2 x3 x4 x5 D hI hn
        refine WP_cD (fun hcD => ?_)
        refine WP_cl (fun hcl => ?_)
        have h := h15 x1 x2 x3 x4 x5 D hI hcD (cVs_g hcl (i := 1) (v := vI x1) rfl) (cVs_g hcl (i := 2) (v := vI x2) rfl) (cVs_g hcl (i := 3) (v := vI x3) rfl) (cVs_g hcl (i := 4) (v := vI x4) rfl) (cVs_g hcl (i := 5) (v := vI x5) rfl)
        refine WP_iload (z := x5) dX6_weatherOf_15 rfl ?_
        refine WP_iload_n (z := x2) dX6_weatherOf_17 rfl ?_
        refine WP_icmp_ge (tgt := 80) dX6_weatherOf_18 (by decide) (fun c10 => ?_) (fun c10 => ?_)
        · replace h := h.1 c10
          refine WP_aload_n (z := 56) dX6_weatherOf_80 rfl ?_
          obtain ⟨Q11, ct13, h⟩ := h
          refine WP_callV (g := mX6_runs) (as := []) (rest := []) (n := 0) dX6_weatherOf_81 wm_415 mo_X6_runs rfl rfl rfl rfl ⟨Nat.le_of_ble_eq_true rfl, Nat.le_of_ble_eq_true rfl⟩ (Nat.le_of_ble_eq_true rfl) ct13 (fun r_ D14 hq12 hok hD17 => ?_)
          obtain rfl := hok
          replace h := h D14 hq12 hD17
          show WP mX6_weatherOf Q 84 [vR 56, vI x1, vI x2, vI x3, vI x4, vI x5] [] D14
          refine WP_iload_n (z := x3) dX6_weatherOf_84 rfl ?_
          obtain ⟨o18, h⟩ := h
          refine WP_via (pc1 := 99) (ls1 := [vR 56, vI x1, vI x2, vI x3, vI x4, vI x5]) (st1 := [vI (if x3 = 0 then ((fX6_lastIn D14) : Int) else (fX6_turnedNow D14))]) (D1 := D14) (fun hJ19 => ?_) ?_
          · refine WP_if_ne (tgt := 95) dX6_weatherOf_85 (by decide) (fun c20 => ?_) (fun c20 => ?_)
            · replace hJ19 := ite_f (P := fun v_ : Int => WP mX6_weatherOf Q 99 [vR 56, vI x1, vI x2, vI x3, vI x4, vI x5] [vI v_] D14) hJ19 c20
              have o22 := o18.2 c20
              refine WP_aload_n (z := 56) dX6_weatherOf_95 rfl ?_
              refine WP_pcallV (g := mX6_turnedNow) (as := []) (rest := []) (n := 0) (r := vI (fX6_turnedNow D14)) dX6_weatherOf_96 wm_825 mo_X6_turnedNow rfl rfl rfl rfl ⟨Nat.le_of_ble_eq_true rfl, Nat.le_of_ble_eq_true rfl⟩ (Nat.le_of_ble_eq_true rfl) (P_X6_turnedNow  o22) ?_
              exact hJ19
            · replace hJ19 := ite_t (P := fun v_ : Int => WP mX6_weatherOf Q 99 [vR 56, vI x1, vI x2, vI x3, vI x4, vI x5] [vI v_] D14) hJ19 c20
              have o21 := o18.1 c20
              refine WP_aload_n (z := 56) dX6_weatherOf_88 rfl ?_
              refine WP_pcallV (g := mX6_lastIn) (as := []) (rest := []) (n := 0) (r := vI (fX6_lastIn D14)) dX6_weatherOf_89 wm_613 mo_X6_lastIn rfl rfl rfl rfl ⟨Nat.le_of_ble_eq_true rfl, Nat.le_of_ble_eq_true rfl⟩ (Nat.le_of_ble_eq_true rfl) (P_X6_lastIn  o21) ?_
              refine WP_goto (tgt := 99) dX6_weatherOf_92 (by decide) ?_
              exact hJ19
          · exact WP_ireturn dX6_weatherOf_99 rfl h
        · replace h := h.2 c10
          refine WP_ldcw (z := 1103515245) wm_824 dX6_weatherOf_21 (by decide +kernel) ?_
          refine WP_iload (z := x4) dX6_weatherOf_24 rfl ?_
          refine WP_imul dX6_weatherOf_26 rfl ?_
          refine WP_sipush (z := 12345) dX6_weatherOf_27 rfl (by decide) ?_
          refine WP_iadd dX6_weatherOf_30 rfl ?_
          refine WP_istore (ls1 := [vR 56, vI x1, vI x2, vI x3, vI (w32 ((w32 (1103515245 * x4)) + 12345)), vI x5]) dX6_weatherOf_31 (by decide) rfl ?_
          refine WP_aload_n (z := 56) dX6_weatherOf_33 rfl ?_
          refine WP_getR (z := 60) dX6_weatherOf_34 fl_RX6_20 rfl rfl rfl ?_
          refine WP_iload (z := x5) dX6_weatherOf_37 rfl ?_
          refine WP_iload (z := (w32 ((w32 (1103515245 * x4)) + 12345))) dX6_weatherOf_39 rfl ?_
          refine WP_bipush (z := 16) dX6_weatherOf_41 rfl (by decide) ?_
          refine WP_iushr dX6_weatherOf_43 rfl ?_
          refine WP_iconst (z := 4) dX6_weatherOf_44 rfl ⟨by decide, by decide⟩ ?_
          obtain ⟨o33, h⟩ := h
          refine WP_irem dX6_weatherOf_45 o33 (by decide) rfl ?_
          obtain ⟨o32, h⟩ := h
          refine WP_iast dX6_weatherOf_46 rfl o32.1 o32.2 ?_
          obtain ⟨E23, hE24⟩ : ∃ E23 : HP, E23 = (hu D 60 x5.toNat ((b_iushr (w32 ((w32 (1103515245 * x4)) + 12345)) 16) % 4)) := ⟨_, rfl⟩
          replace h := h E23 hE24
          show WP mX6_weatherOf Q 47 [vR 56, vI x1, vI x2, vI x3, vI (w32 ((w32 (1103515245 * x4)) + 12345)), vI x5] [] (hu D 60 x5.toNat ((b_iushr (w32 ((w32 (1103515245 * x4)) + 12345)) 16) % 4))
          rw [← hE24]
          refine WP_ldcw (z := 1103515245) wm_824 dX6_weatherOf_47 (by decide +kernel) ?_
          refine WP_iload (z := (w32 ((w32 (1103515245 * x4)) + 12345))) dX6_weatherOf_50 rfl ?_
          refine WP_imul dX6_weatherOf_52 rfl ?_
          refine WP_sipush (z := 12345) dX6_weatherOf_53 rfl (by decide) ?_
          refine WP_iadd dX6_weatherOf_56 rfl ?_
          refine WP_istore (ls1 := [vR 56, vI x1, vI x2, vI x3, vI (w32 ((w32 (1103515245 * (w32 ((w32 (1103515245 * x4)) + 12345)))) + 12345)), vI x5]) dX6_weatherOf_57 (by decide) rfl ?_
          obtain ⟨v25, hv26⟩ : ∃ v25 : Int, v25 = (w32 ((w32 (1103515245 * (w32 ((w32 (1103515245 * x4)) + 12345)))) + 12345)) := ⟨_, rfl⟩
          replace h := h v25 hv26
          rw [← hv26]
          refine WP_aload_n (z := 56) dX6_weatherOf_59 rfl ?_
          refine WP_getR (z := 61) dX6_weatherOf_60 fl_RX6_23 rfl rfl rfl ?_
          refine WP_iload (z := x5) dX6_weatherOf_63 rfl ?_
          refine WP_iload (z := v25) dX6_weatherOf_65 rfl ?_
          refine WP_bipush (z := 16) dX6_weatherOf_67 rfl (by decide) ?_
          refine WP_iushr dX6_weatherOf_69 rfl ?_
          refine WP_bipush (z := 10) dX6_weatherOf_70 rfl (by decide) ?_
          obtain ⟨o31, h⟩ := h
          refine WP_irem dX6_weatherOf_72 o31 (by decide) rfl ?_
          obtain ⟨o30, h⟩ := h
          refine WP_iast dX6_weatherOf_73 rfl o30.1 o30.2 ?_
          obtain ⟨E27, hE28⟩ : ∃ E27 : HP, E27 = (hu E23 61 x5.toNat ((b_iushr v25 16) % 10)) := ⟨_, rfl⟩
          replace h := h E27 hE28
          show WP mX6_weatherOf Q 74 [vR 56, vI x1, vI x2, vI x3, vI v25, vI x5] [] (hu E23 61 x5.toNat ((b_iushr v25 16) % 10))
          rw [← hE28]
          obtain ⟨o29, h⟩ := h
          refine WP_iinc (z := (x5 + 1)) (ls1 := [vR 56, vI x1, vI x2, vI x3, vI v25, vI (x5 + 1)]) dX6_weatherOf_74 rfl (w32_id o29) (by decide) rfl ?_
          refine WP_goto (tgt := 15) dX6_weatherOf_77 (by decide) ?_
          exact ih15_ _ _ _ _ _ _ h.1 (by have := h.2; omega)
  have cut15_ : ∀ (x1 x2 x3 x4 x5 : Int) (D : HP), I15 x1 x2 x3 x4 x5 D → WP mX6_weatherOf Q 15 [vR 56, vI x1, vI x2, vI x3, vI x4, vI x5] [] D := fun x1 x2 x3 x4 x5 D hI => (IH (u15 x1 x2 x3 x4 x5 D * 1 + 0 + 1)) x1 x2 x3 x4 x5 D hI (by omega)
  refine WP_cD (fun hcD => ?_)
  refine WP_cl (fun hcl => ?_)
  have h := h0 hcD (cVs_g hcl (i := 1) (v := vI a) rfl) (cVs_g hcl (i := 2) (v := vI b) rfl) (cVs_g hcl (i := 3) (v := vI c) rfl)
  refine WP_aload_n (z := 56) dX6_weatherOf_0 rfl ?_
  obtain ⟨Q1, ct3, h⟩ := h
  refine WP_callV (g := mX6_reads) (as := []) (rest := []) (n := 0) dX6_weatherOf_1 wm_343 mo_X6_reads rfl rfl rfl rfl ⟨Nat.le_of_ble_eq_true rfl, Nat.le_of_ble_eq_true rfl⟩ (Nat.le_of_ble_eq_true rfl) ct3 (fun r_ D4 hq2 hok hD7 => ?_)
  obtain rfl := hok
  replace h := h D4 hq2 hD7
  show WP mX6_weatherOf Q 4 [vR 56, vI a, vI b, vI c, vU, vU] [] D4
  refine WP_iload_n (z := a) dX6_weatherOf_4 rfl ?_
  refine WP_istore (ls1 := [vR 56, vI a, vI b, vI c, vI a, vU]) dX6_weatherOf_5 (by decide) rfl ?_
  refine WP_aload_n (z := 56) dX6_weatherOf_7 rfl ?_
  refine WP_iload_n (z := b) dX6_weatherOf_8 rfl ?_
  refine WP_putI dX6_weatherOf_9 fp_RX6_101 rfl rfl ?_
  obtain ⟨E8, hE9⟩ : ∃ E8 : HP, E8 = (hu D4 56 5 b) := ⟨_, rfl⟩
  replace h := h E8 hE9
  show WP mX6_weatherOf Q 12 [vR 56, vI a, vI b, vI c, vI a, vU] [] (hu D4 56 5 b)
  rw [← hE9]
  refine WP_iconst (z := 0) dX6_weatherOf_12 rfl ⟨by decide, by decide⟩ ?_
  refine WP_istore (ls1 := [vR 56, vI a, vI b, vI c, vI a, vI 0]) dX6_weatherOf_13 (by decide) rfl ?_
  exact cut15_ _ _ _ _ _ _ h
set_option maxRecDepth 100000 in
set_option maxHeartbeats 4000000 in
theorem V_X6_weather (a : Int) (b : Int) (c : Int) {D : HP} {Q : Option MV → HP → Prop}
    (h0 : cD D → c32 a → c32 b → c32 c → (((fX6_within D b 1 12) = 0 → (Q (some (vI (-2))) D)) ∧ (¬ ((fX6_within D b 1 12) = 0) → (((fX6_within D c 0 1) = 0 → (Q (some (vI (-2))) D)) ∧ (¬ ((fX6_within D c 0 1) = 0) → (∃ Q3 : Option MV → HP → Prop, CT mX6_weatherOf [vR 56, vI a, vI b, vI c] D Q3 ∧ ∀ (r7 : Int) (D6 : HP), Q3 (some (vI r7)) D6 → c32 r7 → cD D6 → (Q (some (vI r7)) D6)))))))
    : CT mX6_weather [vR 56, vI a, vI b, vI c] D Q := by
  refine CT.of 0 (by decide) (Nat.le_of_ble_eq_true rfl) ?_
  show WP mX6_weather Q 0 [vR 56, vI a, vI b, vI c] [] D
  refine WP_cD (fun hcD => ?_)
  refine WP_cl (fun hcl => ?_)
  have h := h0 hcD (cVs_g hcl (i := 1) (v := vI a) rfl) (cVs_g hcl (i := 2) (v := vI b) rfl) (cVs_g hcl (i := 3) (v := vI c) rfl)
  refine WP_iload_n (z := b) dX6_weather_0 rfl ?_
  refine WP_iconst (z := 1) dX6_weather_1 rfl ⟨by decide, by decide⟩ ?_
  refine WP_bipush (z := 12) dX6_weather_2 rfl (by decide) ?_
  refine WP_pcallS (g := mX6_within) (as := [vI b, vI 1, vI 12]) (rest := []) (n := 3) (r := vI (fX6_within D b 1 12)) dX6_weather_4 wm_262 mo_X6_within rfl rfl ⟨Nat.le_of_ble_eq_true rfl, Nat.le_of_ble_eq_true rfl⟩ (Nat.le_of_ble_eq_true rfl) (P_X6_within  trivial) ?_
  refine WP_if_eq (tgt := 29) dX6_weather_7 (by decide) (fun c1 => ?_) (fun c1 => ?_)
  · replace h := h.1 c1
    refine WP_bipush (z := (-2)) dX6_weather_29 rfl (by decide) ?_
    exact WP_ireturn dX6_weather_31 rfl h
  · replace h := h.2 c1
    refine WP_iload_n (z := c) dX6_weather_10 rfl ?_
    refine WP_iconst (z := 0) dX6_weather_11 rfl ⟨by decide, by decide⟩ ?_
    refine WP_iconst (z := 1) dX6_weather_12 rfl ⟨by decide, by decide⟩ ?_
    refine WP_pcallS (g := mX6_within) (as := [vI c, vI 0, vI 1]) (rest := []) (n := 3) (r := vI (fX6_within D c 0 1)) dX6_weather_13 wm_262 mo_X6_within rfl rfl ⟨Nat.le_of_ble_eq_true rfl, Nat.le_of_ble_eq_true rfl⟩ (Nat.le_of_ble_eq_true rfl) (P_X6_within  trivial) ?_
    refine WP_if_eq (tgt := 29) dX6_weather_16 (by decide) (fun c2 => ?_) (fun c2 => ?_)
    · replace h := h.1 c2
      refine WP_bipush (z := (-2)) dX6_weather_29 rfl (by decide) ?_
      exact WP_ireturn dX6_weather_31 rfl h
    · replace h := h.2 c2
      refine WP_aload_n (z := 56) dX6_weather_19 rfl ?_
      refine WP_iload_n (z := a) dX6_weather_20 rfl ?_
      refine WP_iload_n (z := b) dX6_weather_21 rfl ?_
      refine WP_iload_n (z := c) dX6_weather_22 rfl ?_
      obtain ⟨Q3, ct5, h⟩ := h
      refine WP_callV (g := mX6_weatherOf) (as := [vI a, vI b, vI c]) (rest := []) (n := 3) dX6_weather_23 wm_820 mo_X6_weatherOf rfl rfl rfl rfl ⟨Nat.le_of_ble_eq_true rfl, Nat.le_of_ble_eq_true rfl⟩ (Nat.le_of_ble_eq_true rfl) ct5 (fun r_ D6 hq4 hok hD9 => ?_)
      obtain ⟨r7, rfl, hr8⟩ := hok
      replace h := h r7 D6 hq4 hr8 hD9
      show WP mX6_weather Q 26 [vR 56, vI a, vI b, vI c] [vI r7] D6
      refine WP_goto (tgt := 31) dX6_weather_26 (by decide) ?_
      exact WP_ireturn dX6_weather_31 rfl h
set_option maxRecDepth 100000 in
set_option maxHeartbeats 4000000 in
theorem V_X6_sheet (a : Int) (b : Int) (c : Int) {D : HP} {Q : Option MV → HP → Prop} (I59 : Int → Int → Int → Int → HP → Prop) (u59 : Int → Int → Int → Int → HP → Nat)
    (h0 : cD D → c32 a → c32 b → c32 c → (((fX6_isSheet D a) = 0 → (Q (some (vI (-2))) D)) ∧ (¬ ((fX6_isSheet D a) = 0) → (((fX6_within D b 0 2) = 0 → (Q (some (vI (-2))) D)) ∧ (¬ ((fX6_within D b 0 2) = 0) → ((c ≤ 60 → ((0 ≤ c → ((0 ≤ a ∧ a < 4) ∧ (∀ (E5 : HP), E5 = (hu D 75 a.toNat 1) → ((0 ≤ a ∧ a < 4) ∧ (∀ (E7 : HP), E7 = (hu E5 76 a.toNat b) → ((0 ≤ a ∧ a < 4) ∧ (∀ (E9 : HP), E9 = (hu E7 77 a.toNat c) → (I59 a b c 0 E9)))))))) ∧ (¬ (0 ≤ c) → (∃ Q14 : Option MV → HP → Prop, CT mX6_meets [vR 56, vI 5] D Q14 ∧ ∀ (r18 : Int) (D17 : HP), Q14 (some (vI r18)) D17 → c32 r18 → cD D17 → (Q (some (vI r18)) D17))))) ∧ (¬ (c ≤ 60) → (Q (some (vI (-2))) D))))))))
    (h59 : ∀ (x1 x2 x3 x4 : Int) (D : HP), I59 x1 x2 x3 x4 D → cD D → c32 x1 → c32 x2 → c32 x3 → c32 x4 → ((60 ≤ x4 → (Q (some (vI x3)) D)) ∧ (¬ (60 ≤ x4) → ((c32 (60 * x1)) ∧ ((c32 ((60 * x1) + x4)) ∧ ((0 ≤ ((60 * x1) + x4) ∧ ((60 * x1) + x4) < 240) ∧ (∀ (E22 : HP), E22 = (hu D 78 (((60 * x1) + x4)).toNat 0) → ((c32 (x4 + 1)) ∧ (I59 x1 x2 x3 (x4 + 1) E22 ∧ u59 x1 x2 x3 (x4 + 1) E22 < u59 x1 x2 x3 x4 D)))))))))
    : CT mX6_sheet [vR 56, vI a, vI b, vI c] D Q := by
  refine CT.of 1 (by decide) (Nat.le_of_ble_eq_true rfl) ?_
  show WP mX6_sheet Q 0 [vR 56, vI a, vI b, vI c, vU] [] D
  have IH : ∀ n : Nat, (∀ (x1 x2 x3 x4 : Int) (D : HP), I59 x1 x2 x3 x4 D → u59 x1 x2 x3 x4 D * 1 + 0 < n → WP mX6_sheet Q 59 [vR 56, vI x1, vI x2, vI x3, vI x4] [] D) := by
    intro n
    induction n with
    | zero => exact fun _ _ _ _ _ _ h => absurd h (Nat.not_lt_zero _)
    | succ n ih =>
      have ih59_ := ih
      · intro x1 x2 x3 x4 D hI hn
        refine WP_cD (fun hcD => ?_)
        refine WP_cl (fun hcl => ?_)
        have h := h59 x1 x2 x3 x4 D hI hcD (cVs_g hcl (i := 1) (v := vI x1) rfl) (cVs_g hcl (i := 2) (v := vI x2) rfl) (cVs_g hcl (i := 3) (v := vI x3) rfl) (cVs_g hcl (i := 4) (v := vI x4) rfl)
        refine WP_iload (z := x4) dX6_sheet_59 rfl ?_
        refine WP_bipush (z := 60) dX6_sheet_61 rfl (by decide) ?_
        refine WP_icmp_ge (tgt := 85) dX6_sheet_63 (by decide) (fun c21 => ?_) (fun c21 => ?_)
        · replace h := h.1 c21
          refine WP_iload_n (z := x3) dX6_sheet_85 rfl ?_
          exact WP_ireturn dX6_sheet_86 rfl h
        · replace h := h.2 c21
          refine WP_aload_n (z := 56) dX6_sheet_66 rfl ?_
          refine WP_getR (z := 78) dX6_sheet_67 fl_RX6_74 rfl rfl rfl ?_
          refine WP_bipush (z := 60) dX6_sheet_70 rfl (by decide) ?_
          refine WP_iload_n (z := x1) dX6_sheet_72 rfl ?_
          obtain ⟨o27, h⟩ := h
          refine WP_imul (z := (60 * x1)) dX6_sheet_73 (w32_id o27) ?_
          refine WP_iload (z := x4) dX6_sheet_74 rfl ?_
          obtain ⟨o26, h⟩ := h
          refine WP_iadd (z := ((60 * x1) + x4)) dX6_sheet_76 (w32_id o26) ?_
          refine WP_iconst (z := 0) dX6_sheet_77 rfl ⟨by decide, by decide⟩ ?_
          obtain ⟨o25, h⟩ := h
          refine WP_iast dX6_sheet_78 rfl o25.1 o25.2 ?_
          obtain ⟨E22, hE23⟩ : ∃ E22 : HP, E22 = (hu D 78 (((60 * x1) + x4)).toNat 0) := ⟨_, rfl⟩
          replace h := h E22 hE23
          show WP mX6_sheet Q 79 [vR 56, vI x1, vI x2, vI x3, vI x4] [] (hu D 78 (((60 * x1) + x4)).toNat 0)
          rw [← hE23]
          obtain ⟨o24, h⟩ := h
          refine WP_iinc (z := (x4 + 1)) (ls1 := [vR 56, vI x1, vI x2, vI x3, vI (x4 + 1)]) dX6_sheet_79 rfl (w32_id o24) (by decide) rfl ?_
          refine WP_goto (tgt := 59) dX6_sheet_82 (by decide) ?_
          exact ih59_ _ _ _ _ _ h.1 (by have := h.2; omega)
  have cut59_ : ∀ (x1 x2 x3 x4 : Int) (D : HP), I59 x1 x2 x3 x4 D → WP mX6_sheet Q 59 [vR 56, vI x1, vI x2, vI x3, vI x4] [] D := fun x1 x2 x3 x4 D hI => (IH (u59 x1 x2 x3 x4 D * 1 + 0 + 1)) x1 x2 x3 x4 D hI (by omega)
  refine WP_cD (fun hcD => ?_)
  refine WP_cl (fun hcl => ?_)
  have h := h0 hcD (cVs_g hcl (i := 1) (v := vI a) rfl) (cVs_g hcl (i := 2) (v := vI b) rfl) (cVs_g hcl (i := 3) (v := vI c) rfl)
  refine WP_iload_n (z := a) dX6_sheet_0 rfl ?_
  refine WP_pcallS (g := mX6_isSheet) (as := [vI a]) (rest := []) (n := 1) (r := vI (fX6_isSheet D a)) dX6_sheet_1 wm_684 mo_X6_isSheet rfl rfl ⟨Nat.le_of_ble_eq_true rfl, Nat.le_of_ble_eq_true rfl⟩ (Nat.le_of_ble_eq_true rfl) (P_X6_isSheet  trivial) ?_
  refine WP_if_eq (tgt := 22) dX6_sheet_4 (by decide) (fun c1 => ?_) (fun c1 => ?_)
  · replace h := h.1 c1
    refine WP_bipush (z := (-2)) dX6_sheet_22 rfl (by decide) ?_
    exact WP_ireturn dX6_sheet_24 rfl h
  · replace h := h.2 c1
    refine WP_iload_n (z := b) dX6_sheet_7 rfl ?_
    refine WP_iconst (z := 0) dX6_sheet_8 rfl ⟨by decide, by decide⟩ ?_
    refine WP_iconst (z := 2) dX6_sheet_9 rfl ⟨by decide, by decide⟩ ?_
    refine WP_pcallS (g := mX6_within) (as := [vI b, vI 0, vI 2]) (rest := []) (n := 3) (r := vI (fX6_within D b 0 2)) dX6_sheet_10 wm_262 mo_X6_within rfl rfl ⟨Nat.le_of_ble_eq_true rfl, Nat.le_of_ble_eq_true rfl⟩ (Nat.le_of_ble_eq_true rfl) (P_X6_within  trivial) ?_
    refine WP_if_eq (tgt := 22) dX6_sheet_13 (by decide) (fun c2 => ?_) (fun c2 => ?_)
    · replace h := h.1 c2
      refine WP_bipush (z := (-2)) dX6_sheet_22 rfl (by decide) ?_
      exact WP_ireturn dX6_sheet_24 rfl h
    · replace h := h.2 c2
      refine WP_iload_n (z := c) dX6_sheet_16 rfl ?_
      refine WP_bipush (z := 60) dX6_sheet_17 rfl (by decide) ?_
      refine WP_icmp_le (tgt := 25) dX6_sheet_19 (by decide) (fun c3 => ?_) (fun c3 => ?_)
      · replace h := h.1 c3
        refine WP_iload_n (z := c) dX6_sheet_25 rfl ?_
        refine WP_if_ge (tgt := 35) dX6_sheet_26 (by decide) (fun c4 => ?_) (fun c4 => ?_)
        · replace h := h.1 c4
          refine WP_aload_n (z := 56) dX6_sheet_35 rfl ?_
          refine WP_getR (z := 75) dX6_sheet_36 fl_RX6_65 rfl rfl rfl ?_
          refine WP_iload_n (z := a) dX6_sheet_39 rfl ?_
          refine WP_iconst (z := 1) dX6_sheet_40 rfl ⟨by decide, by decide⟩ ?_
          obtain ⟨o13, h⟩ := h
          refine WP_zast dX6_sheet_41 rfl o13.1 o13.2 (Or.inr rfl) ?_
          obtain ⟨E5, hE6⟩ : ∃ E5 : HP, E5 = (hu D 75 a.toNat 1) := ⟨_, rfl⟩
          replace h := h E5 hE6
          show WP mX6_sheet Q 42 [vR 56, vI a, vI b, vI c, vU] [] (hu D 75 a.toNat 1)
          rw [← hE6]
          refine WP_aload_n (z := 56) dX6_sheet_42 rfl ?_
          refine WP_getR (z := 76) dX6_sheet_43 fl_RX6_68 rfl rfl rfl ?_
          refine WP_iload_n (z := a) dX6_sheet_46 rfl ?_
          refine WP_iload_n (z := b) dX6_sheet_47 rfl ?_
          obtain ⟨o12, h⟩ := h
          refine WP_iast dX6_sheet_48 rfl o12.1 o12.2 ?_
          obtain ⟨E7, hE8⟩ : ∃ E7 : HP, E7 = (hu E5 76 a.toNat b) := ⟨_, rfl⟩
          replace h := h E7 hE8
          show WP mX6_sheet Q 49 [vR 56, vI a, vI b, vI c, vU] [] (hu E5 76 a.toNat b)
          rw [← hE8]
          refine WP_aload_n (z := 56) dX6_sheet_49 rfl ?_
          refine WP_getR (z := 77) dX6_sheet_50 fl_RX6_71 rfl rfl rfl ?_
          refine WP_iload_n (z := a) dX6_sheet_53 rfl ?_
          refine WP_iload_n (z := c) dX6_sheet_54 rfl ?_
          obtain ⟨o11, h⟩ := h
          refine WP_iast dX6_sheet_55 rfl o11.1 o11.2 ?_
          obtain ⟨E9, hE10⟩ : ∃ E9 : HP, E9 = (hu E7 77 a.toNat c) := ⟨_, rfl⟩
          replace h := h E9 hE10
          show WP mX6_sheet Q 56 [vR 56, vI a, vI b, vI c, vU] [] (hu E7 77 a.toNat c)
          rw [← hE10]
          refine WP_iconst (z := 0) dX6_sheet_56 rfl ⟨by decide, by decide⟩ ?_
          refine WP_istore (ls1 := [vR 56, vI a, vI b, vI c, vI 0]) dX6_sheet_57 (by decide) rfl ?_
          exact cut59_ _ _ _ _ _ h
        · replace h := h.2 c4
          refine WP_aload_n (z := 56) dX6_sheet_29 rfl ?_
          refine WP_iconst (z := 5) dX6_sheet_30 rfl ⟨by decide, by decide⟩ ?_
          obtain ⟨Q14, ct16, h⟩ := h
          refine WP_callV (g := mX6_meets) (as := [vI 5]) (rest := []) (n := 1) dX6_sheet_31 wm_687 mo_X6_meets rfl rfl rfl rfl ⟨Nat.le_of_ble_eq_true rfl, Nat.le_of_ble_eq_true rfl⟩ (Nat.le_of_ble_eq_true rfl) ct16 (fun r_ D17 hq15 hok hD20 => ?_)
          obtain ⟨r18, rfl, hr19⟩ := hok
          replace h := h r18 D17 hq15 hr19 hD20
          show WP mX6_sheet Q 34 [vR 56, vI a, vI b, vI c, vU] [vI r18] D17
          exact WP_ireturn dX6_sheet_34 rfl h
      · replace h := h.2 c3
        refine WP_bipush (z := (-2)) dX6_sheet_22 rfl (by decide) ?_
        exact WP_ireturn dX6_sheet_24 rfl h
set_option maxRecDepth 100000 in
set_option maxHeartbeats 4000000 in
theorem V_X6_lose (a : Int) {D : HP} {Q : Option MV → HP → Prop}
    (h0 : cD D → c32 a → (((fX6_isSheet D a) = 0 → (Q (some (vI (-2))) D)) ∧ (¬ ((fX6_isSheet D a) = 0) → ((0 ≤ a ∧ a < 4) ∧ (((D 75 a.toNat) = 0 → (∃ Q3 : Option MV → HP → Prop, CT mX6_meets [vR 56, vI 1] D Q3 ∧ ∀ (r7 : Int) (D6 : HP), Q3 (some (vI r7)) D6 → c32 r7 → cD D6 → (Q (some (vI r7)) D6))) ∧ (¬ ((D 75 a.toNat) = 0) → ((0 ≤ a ∧ a < 4) ∧ (∀ (E10 : HP), E10 = (hu D 75 a.toNat 0) → ((0 ≤ a ∧ a < 4) ∧ (Q (some (vI (E10 77 a.toNat))) E10))))))))))
    : CT mX6_lose [vR 56, vI a] D Q := by
  refine CT.of 0 (by decide) (Nat.le_of_ble_eq_true rfl) ?_
  show WP mX6_lose Q 0 [vR 56, vI a] [] D
  refine WP_cD (fun hcD => ?_)
  refine WP_cl (fun hcl => ?_)
  have h := h0 hcD (cVs_g hcl (i := 1) (v := vI a) rfl)
  refine WP_iload_n (z := a) dX6_lose_0 rfl ?_
  refine WP_pcallS (g := mX6_isSheet) (as := [vI a]) (rest := []) (n := 1) (r := vI (fX6_isSheet D a)) dX6_lose_1 wm_684 mo_X6_isSheet rfl rfl ⟨Nat.le_of_ble_eq_true rfl, Nat.le_of_ble_eq_true rfl⟩ (Nat.le_of_ble_eq_true rfl) (P_X6_isSheet  trivial) ?_
  refine WP_if_ne (tgt := 10) dX6_lose_4 (by decide) (fun c1 => ?_) (fun c1 => ?_)
  · replace h := h.2 c1
    refine WP_aload_n (z := 56) dX6_lose_10 rfl ?_
    refine WP_getR (z := 75) dX6_lose_11 fl_RX6_65 rfl rfl rfl ?_
    refine WP_iload_n (z := a) dX6_lose_14 rfl ?_
    obtain ⟨o14, h⟩ := h
    refine WP_zald dX6_lose_15 rfl o14.1 o14.2 rfl ?_
    refine WP_if_ne (tgt := 25) dX6_lose_16 (by decide) (fun c2 => ?_) (fun c2 => ?_)
    · replace h := h.2 c2
      refine WP_aload_n (z := 56) dX6_lose_25 rfl ?_
      refine WP_getR (z := 75) dX6_lose_26 fl_RX6_65 rfl rfl rfl ?_
      refine WP_iload_n (z := a) dX6_lose_29 rfl ?_
      refine WP_iconst (z := 0) dX6_lose_30 rfl ⟨by decide, by decide⟩ ?_
      obtain ⟨o13, h⟩ := h
      refine WP_zast dX6_lose_31 rfl o13.1 o13.2 (Or.inl rfl) ?_
      obtain ⟨E10, hE11⟩ : ∃ E10 : HP, E10 = (hu D 75 a.toNat 0) := ⟨_, rfl⟩
      replace h := h E10 hE11
      show WP mX6_lose Q 32 [vR 56, vI a] [] (hu D 75 a.toNat 0)
      rw [← hE11]
      refine WP_aload_n (z := 56) dX6_lose_32 rfl ?_
      refine WP_getR (z := 77) dX6_lose_33 fl_RX6_71 rfl rfl rfl ?_
      refine WP_iload_n (z := a) dX6_lose_36 rfl ?_
      obtain ⟨o12, h⟩ := h
      refine WP_iald dX6_lose_37 rfl o12.1 o12.2 rfl ?_
      exact WP_ireturn dX6_lose_38 rfl h
    · replace h := h.1 c2
      refine WP_aload_n (z := 56) dX6_lose_19 rfl ?_
      refine WP_iconst (z := 1) dX6_lose_20 rfl ⟨by decide, by decide⟩ ?_
      obtain ⟨Q3, ct5, h⟩ := h
      refine WP_callV (g := mX6_meets) (as := [vI 1]) (rest := []) (n := 1) dX6_lose_21 wm_687 mo_X6_meets rfl rfl rfl rfl ⟨Nat.le_of_ble_eq_true rfl, Nat.le_of_ble_eq_true rfl⟩ (Nat.le_of_ble_eq_true rfl) ct5 (fun r_ D6 hq4 hok hD9 => ?_)
      obtain ⟨r7, rfl, hr8⟩ := hok
      replace h := h r7 D6 hq4 hr8 hD9
      show WP mX6_lose Q 24 [vR 56, vI a] [vI r7] D6
      exact WP_ireturn dX6_lose_24 rfl h
  · replace h := h.1 c1
    refine WP_bipush (z := (-2)) dX6_lose_7 rfl (by decide) ?_
    exact WP_ireturn dX6_lose_9 rfl h
def fX6_lacks (D : HP) (a : Int) (b : Int) (c : Int) : Int := (if (D 75 a.toNat) = 0 then (1 : Int) else (if (D 76 a.toNat) = b then ((if (fX6_within D c 0 ((D 77 a.toNat) - 1)) = 0 then (2 : Int) else 0) : Int) else 3))
def oX6_lacks (D : HP) (a : Int) (b : Int) (c : Int) : Prop := ((0 ≤ a ∧ a < 4) ∧ (((((D 75 a.toNat) = 0) → True) ∧ (¬ ((D 75 a.toNat) = 0) → (0 ≤ a ∧ a < 4) ∧ ((((D 76 a.toNat) = b) → (0 ≤ a ∧ a < 4) ∧ (c32 ((D 77 a.toNat) - 1))) ∧ (¬ ((D 76 a.toNat) = b) → True)))) ∧ True))
set_option maxRecDepth 100000 in
set_option maxHeartbeats 4000000 in
theorem V_X6_lacks (a : Int) (b : Int) (c : Int) {D : HP} {Q : Option MV → HP → Prop}
    (h0 : cD D → c32 a → c32 b → c32 c → ((0 ≤ a ∧ a < 4) ∧ (((((D 75 a.toNat) = 0) → True) ∧ (¬ ((D 75 a.toNat) = 0) → (0 ≤ a ∧ a < 4) ∧ ((((D 76 a.toNat) = b) → (0 ≤ a ∧ a < 4) ∧ (c32 ((D 77 a.toNat) - 1))) ∧ (¬ ((D 76 a.toNat) = b) → True)))) ∧ (Q (some (vI (if (D 75 a.toNat) = 0 then (1 : Int) else (if (D 76 a.toNat) = b then ((if (fX6_within D c 0 ((D 77 a.toNat) - 1)) = 0 then (2 : Int) else 0) : Int) else 3)))) D))))
    : CT mX6_lacks [vR 56, vI a, vI b, vI c] D Q := by
  refine CT.of 0 (by decide) (Nat.le_of_ble_eq_true rfl) ?_
  show WP mX6_lacks Q 0 [vR 56, vI a, vI b, vI c] [] D
  refine WP_cD (fun hcD => ?_)
  refine WP_cl (fun hcl => ?_)
  have h := h0 hcD (cVs_g hcl (i := 1) (v := vI a) rfl) (cVs_g hcl (i := 2) (v := vI b) rfl) (cVs_g hcl (i := 3) (v := vI c) rfl)
  refine WP_aload_n (z := 56) dX6_lacks_0 rfl ?_
  refine WP_getR (z := 75) dX6_lacks_1 fl_RX6_65 rfl rfl rfl ?_
  refine WP_iload_n (z := a) dX6_lacks_4 rfl ?_
  obtain ⟨o12, h⟩ := h
  refine WP_zald dX6_lacks_5 rfl o12.1 o12.2 rfl ?_
  obtain ⟨o1, h⟩ := h
  refine WP_via (pc1 := 48) (ls1 := [vR 56, vI a, vI b, vI c]) (st1 := [vI (if (D 75 a.toNat) = 0 then (1 : Int) else (if (D 76 a.toNat) = b then ((if (fX6_within D c 0 ((D 77 a.toNat) - 1)) = 0 then (2 : Int) else 0) : Int) else 3))]) (D1 := D) (fun hJ2 => ?_) ?_
  · refine WP_if_ne (tgt := 13) dX6_lacks_6 (by decide) (fun c3 => ?_) (fun c3 => ?_)
    · replace hJ2 := ite_f (P := fun v_ : Int => WP mX6_lacks Q 48 [vR 56, vI a, vI b, vI c] [vI v_] D) hJ2 c3
      have o5 := o1.2 c3
      refine WP_aload_n (z := 56) dX6_lacks_13 rfl ?_
      refine WP_getR (z := 76) dX6_lacks_14 fl_RX6_68 rfl rfl rfl ?_
      refine WP_iload_n (z := a) dX6_lacks_17 rfl ?_
      refine WP_iald dX6_lacks_18 rfl o5.1.1 o5.1.2 rfl ?_
      refine WP_iload_n (z := b) dX6_lacks_19 rfl ?_
      refine WP_via (pc1 := 48) (ls1 := [vR 56, vI a, vI b, vI c]) (st1 := [vI (if (D 76 a.toNat) = b then ((if (fX6_within D c 0 ((D 77 a.toNat) - 1)) = 0 then (2 : Int) else 0) : Int) else 3)]) (D1 := D) (fun hJ6 => ?_) ?_
      · refine WP_icmp_eq (tgt := 27) dX6_lacks_20 (by decide) (fun c7 => ?_) (fun c7 => ?_)
        · replace hJ6 := ite_t (P := fun v_ : Int => WP mX6_lacks Q 48 [vR 56, vI a, vI b, vI c] [vI v_] D) hJ6 c7
          have o8 := o5.2.1 c7
          refine WP_iload_n (z := c) dX6_lacks_27 rfl ?_
          refine WP_iconst (z := 0) dX6_lacks_28 rfl ⟨by decide, by decide⟩ ?_
          refine WP_aload_n (z := 56) dX6_lacks_29 rfl ?_
          refine WP_getR (z := 77) dX6_lacks_30 fl_RX6_71 rfl rfl rfl ?_
          refine WP_iload_n (z := a) dX6_lacks_33 rfl ?_
          refine WP_iald dX6_lacks_34 rfl o8.1.1 o8.1.2 rfl ?_
          refine WP_iconst (z := 1) dX6_lacks_35 rfl ⟨by decide, by decide⟩ ?_
          refine WP_isub (z := ((D 77 a.toNat) - 1)) dX6_lacks_36 (w32_id o8.2) ?_
          refine WP_pcallS (g := mX6_within) (as := [vI c, vI 0, vI ((D 77 a.toNat) - 1)]) (rest := []) (n := 3) (r := vI (fX6_within D c 0 ((D 77 a.toNat) - 1))) dX6_lacks_37 wm_262 mo_X6_within rfl rfl ⟨Nat.le_of_ble_eq_true rfl, Nat.le_of_ble_eq_true rfl⟩ (Nat.le_of_ble_eq_true rfl) (P_X6_within  trivial) ?_
          refine WP_via (pc1 := 48) (ls1 := [vR 56, vI a, vI b, vI c]) (st1 := [vI (if (fX6_within D c 0 ((D 77 a.toNat) - 1)) = 0 then (2 : Int) else 0)]) (D1 := D) (fun hJ9 => ?_) ?_
          · refine WP_if_eq (tgt := 47) dX6_lacks_40 (by decide) (fun c10 => ?_) (fun c10 => ?_)
            · replace hJ9 := ite_t (P := fun v_ : Int => WP mX6_lacks Q 48 [vR 56, vI a, vI b, vI c] [vI v_] D) hJ9 c10
              refine WP_iconst (z := 2) dX6_lacks_47 rfl ⟨by decide, by decide⟩ ?_
              exact hJ9
            · replace hJ9 := ite_f (P := fun v_ : Int => WP mX6_lacks Q 48 [vR 56, vI a, vI b, vI c] [vI v_] D) hJ9 c10
              refine WP_iconst (z := 0) dX6_lacks_43 rfl ⟨by decide, by decide⟩ ?_
              refine WP_goto (tgt := 48) dX6_lacks_44 (by decide) ?_
              exact hJ9
          exact hJ6
        · replace hJ6 := ite_f (P := fun v_ : Int => WP mX6_lacks Q 48 [vR 56, vI a, vI b, vI c] [vI v_] D) hJ6 c7
          have o11 := o5.2.2 c7
          refine WP_iconst (z := 3) dX6_lacks_23 rfl ⟨by decide, by decide⟩ ?_
          refine WP_goto (tgt := 48) dX6_lacks_24 (by decide) ?_
          exact hJ6
      exact hJ2
    · replace hJ2 := ite_t (P := fun v_ : Int => WP mX6_lacks Q 48 [vR 56, vI a, vI b, vI c] [vI v_] D) hJ2 c3
      have o4 := o1.1 c3
      refine WP_iconst (z := 1) dX6_lacks_9 rfl ⟨by decide, by decide⟩ ?_
      refine WP_goto (tgt := 48) dX6_lacks_10 (by decide) ?_
      exact hJ2
  · exact WP_ireturn dX6_lacks_48 rfl h
set_option maxRecDepth 100000 in
set_option maxHeartbeats 4000000 in
theorem P_X6_lacks {a : Int} {b : Int} {c : Int} {D : HP} (hob : oX6_lacks D a b c) : CT mX6_lacks [vR 56, vI a, vI b, vI c] D (PF (vI (fX6_lacks D a b c)) D) := by
  refine V_X6_lacks a b c (fun hcD hc_0 hc_1 hc_2 => ?_)
  obtain ⟨z, hz⟩ : ∃ z, z = fX6_lacks D a b c := ⟨_, rfl⟩
  rw [← hz]
  unfold fX6_lacks at hz
  unfold oX6_lacks at hob
  refine ⟨hob.1, ?_⟩
  replace hob := hob.2
  refine ⟨hob.1, ?_⟩
  replace hob := hob.2
  exact ⟨by rw [hz], rfl⟩
set_option maxRecDepth 100000 in
set_option maxHeartbeats 4000000 in
theorem V_X6_keep (a : Int) (b : Int) (c : Int) {D : HP} {Q : Option MV → HP → Prop}
    (h0 : cD D → c32 a → c32 b → c32 c → ((c32 (60 * a)) ∧ ((c32 ((60 * a) + b)) ∧ ((0 ≤ a ∧ a < 4) ∧ (((((D 76 a.toNat) = 0) → True) ∧ (¬ ((D 76 a.toNat) = 0) → (0 ≤ a ∧ a < 4))) ∧ ((0 ≤ ((60 * a) + b) ∧ ((60 * a) + b) < 240) ∧ (∀ (E2 : HP), E2 = (hu D 78 (((60 * a) + b)).toNat (if (D 76 a.toNat) = 0 then ((b_i2b c) : Int) else (if (D 76 a.toNat) = 1 then ((b_i2s c) : Int) else c))) → (Q none E2))))))))
    : CT mX6_keep [vR 56, vI a, vI b, vI c] D Q := by
  refine CT.of 0 (by decide) (Nat.le_of_ble_eq_true rfl) ?_
  show WP mX6_keep Q 0 [vR 56, vI a, vI b, vI c] [] D
  refine WP_cD (fun hcD => ?_)
  refine WP_cl (fun hcl => ?_)
  have h := h0 hcD (cVs_g hcl (i := 1) (v := vI a) rfl) (cVs_g hcl (i := 2) (v := vI b) rfl) (cVs_g hcl (i := 3) (v := vI c) rfl)
  refine WP_aload_n (z := 56) dX6_keep_0 rfl ?_
  refine WP_getR (z := 78) dX6_keep_1 fl_RX6_74 rfl rfl rfl ?_
  refine WP_bipush (z := 60) dX6_keep_4 rfl (by decide) ?_
  refine WP_iload_n (z := a) dX6_keep_6 rfl ?_
  obtain ⟨o13, h⟩ := h
  refine WP_imul (z := (60 * a)) dX6_keep_7 (w32_id o13) ?_
  refine WP_iload_n (z := b) dX6_keep_8 rfl ?_
  obtain ⟨o12, h⟩ := h
  refine WP_iadd (z := ((60 * a) + b)) dX6_keep_9 (w32_id o12) ?_
  refine WP_aload_n (z := 56) dX6_keep_10 rfl ?_
  refine WP_getR (z := 76) dX6_keep_11 fl_RX6_68 rfl rfl rfl ?_
  refine WP_iload_n (z := a) dX6_keep_14 rfl ?_
  obtain ⟨o11, h⟩ := h
  refine WP_iald dX6_keep_15 rfl o11.1 o11.2 rfl ?_
  obtain ⟨o1, h⟩ := h
  refine WP_via (pc1 := 40) (ls1 := [vR 56, vI a, vI b, vI c]) (st1 := [vI (if (D 76 a.toNat) = 0 then ((b_i2b c) : Int) else (if (D 76 a.toNat) = 1 then ((b_i2s c) : Int) else c)), vI ((60 * a) + b), vR 78]) (D1 := D) (fun hJ5 => ?_) ?_
  · refine WP_if_ne (tgt := 24) dX6_keep_16 (by decide) (fun c6 => ?_) (fun c6 => ?_)
    · replace hJ5 := ite_f (P := fun v_ : Int => WP mX6_keep Q 40 [vR 56, vI a, vI b, vI c] [vI v_, vI ((60 * a) + b), vR 78] D) hJ5 c6
      have o8 := o1.2 c6
      refine WP_aload_n (z := 56) dX6_keep_24 rfl ?_
      refine WP_getR (z := 76) dX6_keep_25 fl_RX6_68 rfl rfl rfl ?_
      refine WP_iload_n (z := a) dX6_keep_28 rfl ?_
      refine WP_iald dX6_keep_29 rfl o8.1 o8.2 rfl ?_
      refine WP_iconst (z := 1) dX6_keep_30 rfl ⟨by decide, by decide⟩ ?_
      refine WP_via (pc1 := 40) (ls1 := [vR 56, vI a, vI b, vI c]) (st1 := [vI (if (D 76 a.toNat) = 1 then ((b_i2s c) : Int) else c), vI ((60 * a) + b), vR 78]) (D1 := D) (fun hJ9 => ?_) ?_
      · refine WP_icmp_ne (tgt := 39) dX6_keep_31 (by decide) (fun c10 => ?_) (fun c10 => ?_)
        · replace hJ9 := ite_f (P := fun v_ : Int => WP mX6_keep Q 40 [vR 56, vI a, vI b, vI c] [vI v_, vI ((60 * a) + b), vR 78] D) hJ9 c10
          refine WP_iload_n (z := c) dX6_keep_39 rfl ?_
          exact hJ9
        · replace hJ9 := ite_t (P := fun v_ : Int => WP mX6_keep Q 40 [vR 56, vI a, vI b, vI c] [vI v_, vI ((60 * a) + b), vR 78] D) hJ9 c10
          refine WP_iload_n (z := c) dX6_keep_34 rfl ?_
          refine WP_i2s dX6_keep_35 rfl ?_
          refine WP_goto (tgt := 40) dX6_keep_36 (by decide) ?_
          exact hJ9
      exact hJ5
    · replace hJ5 := ite_t (P := fun v_ : Int => WP mX6_keep Q 40 [vR 56, vI a, vI b, vI c] [vI v_, vI ((60 * a) + b), vR 78] D) hJ5 c6
      have o7 := o1.1 c6
      refine WP_iload_n (z := c) dX6_keep_19 rfl ?_
      refine WP_i2b dX6_keep_20 rfl ?_
      refine WP_goto (tgt := 40) dX6_keep_21 (by decide) ?_
      exact hJ5
  · obtain ⟨o4, h⟩ := h
    refine WP_iast dX6_keep_40 rfl o4.1 o4.2 ?_
    obtain ⟨E2, hE3⟩ : ∃ E2 : HP, E2 = (hu D 78 (((60 * a) + b)).toNat (if (D 76 a.toNat) = 0 then ((b_i2b c) : Int) else (if (D 76 a.toNat) = 1 then ((b_i2s c) : Int) else c))) := ⟨_, rfl⟩
    replace h := h E2 hE3
    show WP mX6_keep Q 41 [vR 56, vI a, vI b, vI c] [] (hu D 78 (((60 * a) + b)).toNat (if (D 76 a.toNat) = 0 then ((b_i2b c) : Int) else (if (D 76 a.toNat) = 1 then ((b_i2s c) : Int) else c)))
    rw [← hE3]
    exact WP_return dX6_keep_41 rfl h
set_option maxRecDepth 100000 in
set_option maxHeartbeats 4000000 in
theorem V_X6_put (a : Int) (b : Int) (c : Int) (d : Int) {D : HP} {Q : Option MV → HP → Prop}
    (h0 : cD D → c32 a → c32 b → c32 c → c32 d → (((fX6_isSheet D a) = 0 → (Q (some (vI (-2))) D)) ∧ (¬ ((fX6_isSheet D a) = 0) → (((fX6_within D b 0 2) = 0 → (Q (some (vI (-2))) D)) ∧ (¬ ((fX6_within D b 0 2) = 0) → ((oX6_lacks D a b c) ∧ (((fX6_lacks D a b c) ≤ 0 → (∃ Q4 : Option MV → HP → Prop, CT mX6_keep [vR 56, vI a, vI c, vI d] D Q4 ∧ ∀ (D7 : HP), Q4 none D7 → cD D7 → (Q (some (vI 1)) D7))) ∧ (¬ ((fX6_lacks D a b c) ≤ 0) → (∃ Q11 : Option MV → HP → Prop, CT mX6_meets [vR 56, vI (fX6_lacks D a b c)] D Q11 ∧ ∀ (r15 : Int) (D14 : HP), Q11 (some (vI r15)) D14 → c32 r15 → cD D14 → (Q (some (vI r15)) D14))))))))))
    : CT mX6_put [vR 56, vI a, vI b, vI c, vI d] D Q := by
  refine CT.of 1 (by decide) (Nat.le_of_ble_eq_true rfl) ?_
  show WP mX6_put Q 0 [vR 56, vI a, vI b, vI c, vI d, vU] [] D
  refine WP_cD (fun hcD => ?_)
  refine WP_cl (fun hcl => ?_)
  have h := h0 hcD (cVs_g hcl (i := 1) (v := vI a) rfl) (cVs_g hcl (i := 2) (v := vI b) rfl) (cVs_g hcl (i := 3) (v := vI c) rfl) (cVs_g hcl (i := 4) (v := vI d) rfl)
  refine WP_iload_n (z := a) dX6_put_0 rfl ?_
  refine WP_pcallS (g := mX6_isSheet) (as := [vI a]) (rest := []) (n := 1) (r := vI (fX6_isSheet D a)) dX6_put_1 wm_684 mo_X6_isSheet rfl rfl ⟨Nat.le_of_ble_eq_true rfl, Nat.le_of_ble_eq_true rfl⟩ (Nat.le_of_ble_eq_true rfl) (P_X6_isSheet  trivial) ?_
  refine WP_if_eq (tgt := 16) dX6_put_4 (by decide) (fun c1 => ?_) (fun c1 => ?_)
  · replace h := h.1 c1
    refine WP_bipush (z := (-2)) dX6_put_16 rfl (by decide) ?_
    exact WP_ireturn dX6_put_18 rfl h
  · replace h := h.2 c1
    refine WP_iload_n (z := b) dX6_put_7 rfl ?_
    refine WP_iconst (z := 0) dX6_put_8 rfl ⟨by decide, by decide⟩ ?_
    refine WP_iconst (z := 2) dX6_put_9 rfl ⟨by decide, by decide⟩ ?_
    refine WP_pcallS (g := mX6_within) (as := [vI b, vI 0, vI 2]) (rest := []) (n := 3) (r := vI (fX6_within D b 0 2)) dX6_put_10 wm_262 mo_X6_within rfl rfl ⟨Nat.le_of_ble_eq_true rfl, Nat.le_of_ble_eq_true rfl⟩ (Nat.le_of_ble_eq_true rfl) (P_X6_within  trivial) ?_
    refine WP_if_ne (tgt := 19) dX6_put_13 (by decide) (fun c2 => ?_) (fun c2 => ?_)
    · replace h := h.2 c2
      refine WP_aload_n (z := 56) dX6_put_19 rfl ?_
      refine WP_iload_n (z := a) dX6_put_20 rfl ?_
      refine WP_iload_n (z := b) dX6_put_21 rfl ?_
      refine WP_iload_n (z := c) dX6_put_22 rfl ?_
      obtain ⟨o18, h⟩ := h
      refine WP_pcallV (g := mX6_lacks) (as := [vI a, vI b, vI c]) (rest := []) (n := 3) (r := vI (fX6_lacks D a b c)) dX6_put_23 wm_876 mo_X6_lacks rfl rfl rfl rfl ⟨Nat.le_of_ble_eq_true rfl, Nat.le_of_ble_eq_true rfl⟩ (Nat.le_of_ble_eq_true rfl) (P_X6_lacks  o18) ?_
      refine WP_istore (ls1 := [vR 56, vI a, vI b, vI c, vI d, vI (fX6_lacks D a b c)]) dX6_put_26 (by decide) rfl ?_
      refine WP_iload (z := (fX6_lacks D a b c)) dX6_put_28 rfl ?_
      refine WP_if_le (tgt := 40) dX6_put_30 (by decide) (fun c3 => ?_) (fun c3 => ?_)
      · replace h := h.1 c3
        refine WP_aload_n (z := 56) dX6_put_40 rfl ?_
        refine WP_iload_n (z := a) dX6_put_41 rfl ?_
        refine WP_iload_n (z := c) dX6_put_42 rfl ?_
        refine WP_iload (z := d) dX6_put_43 rfl ?_
        obtain ⟨Q4, ct6, h⟩ := h
        refine WP_callV (g := mX6_keep) (as := [vI a, vI c, vI d]) (rest := []) (n := 3) dX6_put_45 wm_880 mo_X6_keep rfl rfl rfl rfl ⟨Nat.le_of_ble_eq_true rfl, Nat.le_of_ble_eq_true rfl⟩ (Nat.le_of_ble_eq_true rfl) ct6 (fun r_ D7 hq5 hok hD10 => ?_)
        obtain rfl := hok
        replace h := h D7 hq5 hD10
        show WP mX6_put Q 48 [vR 56, vI a, vI b, vI c, vI d, vI (fX6_lacks D a b c)] [] D7
        refine WP_iconst (z := 1) dX6_put_48 rfl ⟨by decide, by decide⟩ ?_
        exact WP_ireturn dX6_put_49 rfl h
      · replace h := h.2 c3
        refine WP_aload_n (z := 56) dX6_put_33 rfl ?_
        refine WP_iload (z := (fX6_lacks D a b c)) dX6_put_34 rfl ?_
        obtain ⟨Q11, ct13, h⟩ := h
        refine WP_callV (g := mX6_meets) (as := [vI (fX6_lacks D a b c)]) (rest := []) (n := 1) dX6_put_36 wm_687 mo_X6_meets rfl rfl rfl rfl ⟨Nat.le_of_ble_eq_true rfl, Nat.le_of_ble_eq_true rfl⟩ (Nat.le_of_ble_eq_true rfl) ct13 (fun r_ D14 hq12 hok hD17 => ?_)
        obtain ⟨r15, rfl, hr16⟩ := hok
        replace h := h r15 D14 hq12 hr16 hD17
        show WP mX6_put Q 39 [vR 56, vI a, vI b, vI c, vI d, vI (fX6_lacks D a b c)] [vI r15] D14
        exact WP_ireturn dX6_put_39 rfl h
    · replace h := h.1 c2
      refine WP_bipush (z := (-2)) dX6_put_16 rfl (by decide) ?_
      exact WP_ireturn dX6_put_18 rfl h
set_option maxRecDepth 100000 in
set_option maxHeartbeats 4000000 in
theorem V_X6_get (a : Int) (b : Int) (c : Int) {D : HP} {Q : Option MV → HP → Prop}
    (h0 : cD D → c32 a → c32 b → c32 c → (((fX6_isSheet D a) = 0 → (Q (some (vI (-2147483648))) D)) ∧ (¬ ((fX6_isSheet D a) = 0) → (((fX6_within D b 0 2) = 0 → (Q (some (vI (-2147483648))) D)) ∧ (¬ ((fX6_within D b 0 2) = 0) → ((oX6_lacks D a b c) ∧ (((fX6_lacks D a b c) ≤ 0 → ((c32 (60 * a)) ∧ ((c32 ((60 * a) + c)) ∧ ((0 ≤ ((60 * a) + c) ∧ ((60 * a) + c) < 240) ∧ (Q (some (vI (D 78 (((60 * a) + c)).toNat))) D))))) ∧ (¬ ((fX6_lacks D a b c) ≤ 0) → (∀ (E7 : HP), E7 = (hu D 56 28 (fX6_lacks D a b c)) → (Q (some (vI (-2147483648))) E7))))))))))
    : CT mX6_get [vR 56, vI a, vI b, vI c] D Q := by
  refine CT.of 1 (by decide) (Nat.le_of_ble_eq_true rfl) ?_
  show WP mX6_get Q 0 [vR 56, vI a, vI b, vI c, vU] [] D
  refine WP_cD (fun hcD => ?_)
  refine WP_cl (fun hcl => ?_)
  have h := h0 hcD (cVs_g hcl (i := 1) (v := vI a) rfl) (cVs_g hcl (i := 2) (v := vI b) rfl) (cVs_g hcl (i := 3) (v := vI c) rfl)
  refine WP_iload_n (z := a) dX6_get_0 rfl ?_
  refine WP_pcallS (g := mX6_isSheet) (as := [vI a]) (rest := []) (n := 1) (r := vI (fX6_isSheet D a)) dX6_get_1 wm_684 mo_X6_isSheet rfl rfl ⟨Nat.le_of_ble_eq_true rfl, Nat.le_of_ble_eq_true rfl⟩ (Nat.le_of_ble_eq_true rfl) (P_X6_isSheet  trivial) ?_
  refine WP_if_eq (tgt := 16) dX6_get_4 (by decide) (fun c1 => ?_) (fun c1 => ?_)
  · replace h := h.1 c1
    refine WP_ldcw (z := (-2147483648)) wm_893 dX6_get_16 (by decide +kernel) ?_
    exact WP_ireturn dX6_get_19 rfl h
  · replace h := h.2 c1
    refine WP_iload_n (z := b) dX6_get_7 rfl ?_
    refine WP_iconst (z := 0) dX6_get_8 rfl ⟨by decide, by decide⟩ ?_
    refine WP_iconst (z := 2) dX6_get_9 rfl ⟨by decide, by decide⟩ ?_
    refine WP_pcallS (g := mX6_within) (as := [vI b, vI 0, vI 2]) (rest := []) (n := 3) (r := vI (fX6_within D b 0 2)) dX6_get_10 wm_262 mo_X6_within rfl rfl ⟨Nat.le_of_ble_eq_true rfl, Nat.le_of_ble_eq_true rfl⟩ (Nat.le_of_ble_eq_true rfl) (P_X6_within  trivial) ?_
    refine WP_if_ne (tgt := 20) dX6_get_13 (by decide) (fun c2 => ?_) (fun c2 => ?_)
    · replace h := h.2 c2
      refine WP_aload_n (z := 56) dX6_get_20 rfl ?_
      refine WP_iload_n (z := a) dX6_get_21 rfl ?_
      refine WP_iload_n (z := b) dX6_get_22 rfl ?_
      refine WP_iload_n (z := c) dX6_get_23 rfl ?_
      obtain ⟨o9, h⟩ := h
      refine WP_pcallV (g := mX6_lacks) (as := [vI a, vI b, vI c]) (rest := []) (n := 3) (r := vI (fX6_lacks D a b c)) dX6_get_24 wm_876 mo_X6_lacks rfl rfl rfl rfl ⟨Nat.le_of_ble_eq_true rfl, Nat.le_of_ble_eq_true rfl⟩ (Nat.le_of_ble_eq_true rfl) (P_X6_lacks  o9) ?_
      refine WP_istore (ls1 := [vR 56, vI a, vI b, vI c, vI (fX6_lacks D a b c)]) dX6_get_27 (by decide) rfl ?_
      refine WP_iload (z := (fX6_lacks D a b c)) dX6_get_29 rfl ?_
      refine WP_if_le (tgt := 44) dX6_get_31 (by decide) (fun c3 => ?_) (fun c3 => ?_)
      · replace h := h.1 c3
        refine WP_aload_n (z := 56) dX6_get_44 rfl ?_
        refine WP_getR (z := 78) dX6_get_45 fl_RX6_74 rfl rfl rfl ?_
        refine WP_bipush (z := 60) dX6_get_48 rfl (by decide) ?_
        refine WP_iload_n (z := a) dX6_get_50 rfl ?_
        obtain ⟨o6, h⟩ := h
        refine WP_imul (z := (60 * a)) dX6_get_51 (w32_id o6) ?_
        refine WP_iload_n (z := c) dX6_get_52 rfl ?_
        obtain ⟨o5, h⟩ := h
        refine WP_iadd (z := ((60 * a) + c)) dX6_get_53 (w32_id o5) ?_
        obtain ⟨o4, h⟩ := h
        refine WP_iald dX6_get_54 rfl o4.1 o4.2 rfl ?_
        exact WP_ireturn dX6_get_55 rfl h
      · replace h := h.2 c3
        refine WP_aload_n (z := 56) dX6_get_34 rfl ?_
        refine WP_iload (z := (fX6_lacks D a b c)) dX6_get_35 rfl ?_
        refine WP_putI dX6_get_37 fp_RX6_268 rfl rfl ?_
        obtain ⟨E7, hE8⟩ : ∃ E7 : HP, E7 = (hu D 56 28 (fX6_lacks D a b c)) := ⟨_, rfl⟩
        replace h := h E7 hE8
        show WP mX6_get Q 40 [vR 56, vI a, vI b, vI c, vI (fX6_lacks D a b c)] [] (hu D 56 28 (fX6_lacks D a b c))
        rw [← hE8]
        refine WP_ldcw (z := (-2147483648)) wm_893 dX6_get_40 (by decide +kernel) ?_
        exact WP_ireturn dX6_get_43 rfl h
    · replace h := h.1 c2
      refine WP_ldcw (z := (-2147483648)) wm_893 dX6_get_16 (by decide +kernel) ?_
      exact WP_ireturn dX6_get_19 rfl h
set_option maxRecDepth 100000 in
set_option maxHeartbeats 4000000 in
theorem V_X6_copy (a : Int) (b : Int) (c : Int) (d : Int) (e : Int) {D : HP} {Q : Option MV → HP → Prop} (I120 : Int → Int → Int → Int → Int → Int → HP → Prop) (u120 : Int → Int → Int → Int → Int → Int → HP → Nat) (I157 : Int → Int → Int → Int → Int → Int → HP → Prop) (u157 : Int → Int → Int → Int → Int → Int → HP → Nat)
    (h0 : cD D → c32 a → c32 b → c32 c → c32 d → c32 e → (((fX6_isSheet D a) = 0 → (Q (some (vI (-2))) D)) ∧ (¬ ((fX6_isSheet D a) = 0) → (((fX6_isSheet D c) = 0 → (Q (some (vI (-2))) D)) ∧ (¬ ((fX6_isSheet D c) = 0) → ((0 ≤ a ∧ a < 4) ∧ (((D 75 a.toNat) = 0 → (∃ Q4 : Option MV → HP → Prop, CT mX6_meets [vR 56, vI 1] D Q4 ∧ ∀ (r8 : Int) (D7 : HP), Q4 (some (vI r8)) D7 → c32 r8 → cD D7 → (Q (some (vI r8)) D7))) ∧ (¬ ((D 75 a.toNat) = 0) → ((0 ≤ c ∧ c < 4) ∧ (((D 75 c.toNat) = 0 → (∃ Q12 : Option MV → HP → Prop, CT mX6_meets [vR 56, vI 1] D Q12 ∧ ∀ (r16 : Int) (D15 : HP), Q12 (some (vI r16)) D15 → c32 r16 → cD D15 → (Q (some (vI r16)) D15))) ∧ (¬ ((D 75 c.toNat) = 0) → ((0 ≤ a ∧ a < 4) ∧ ((0 ≤ c ∧ c < 4) ∧ (((D 76 a.toNat) = (D 76 c.toNat) → ((b < 0 → (∃ Q21 : Option MV → HP → Prop, CT mX6_meets [vR 56, vI 2] D Q21 ∧ ∀ (r25 : Int) (D24 : HP), Q21 (some (vI r25)) D24 → c32 r25 → cD D24 → (Q (some (vI r25)) D24))) ∧ (¬ (b < 0) → ((d < 0 → (∃ Q29 : Option MV → HP → Prop, CT mX6_meets [vR 56, vI 2] D Q29 ∧ ∀ (r33 : Int) (D32 : HP), Q29 (some (vI r33)) D32 → c32 r33 → cD D32 → (Q (some (vI r33)) D32))) ∧ (¬ (d < 0) → ((e < 0 → (∃ Q37 : Option MV → HP → Prop, CT mX6_meets [vR 56, vI 2] D Q37 ∧ ∀ (r41 : Int) (D40 : HP), Q37 (some (vI r41)) D40 → c32 r41 → cD D40 → (Q (some (vI r41)) D40))) ∧ (¬ (e < 0) → ((0 ≤ a ∧ a < 4) ∧ ((0 < (if (D 77 a.toNat) < (w64 (b + e)) then (1 : Int) else if (w64 (b + e)) = (D 77 a.toNat) then 0 else -1) → (∃ Q45 : Option MV → HP → Prop, CT mX6_meets [vR 56, vI 2] D Q45 ∧ ∀ (r49 : Int) (D48 : HP), Q45 (some (vI r49)) D48 → c32 r49 → cD D48 → (Q (some (vI r49)) D48))) ∧ (¬ (0 < (if (D 77 a.toNat) < (w64 (b + e)) then (1 : Int) else if (w64 (b + e)) = (D 77 a.toNat) then 0 else -1)) → ((0 ≤ c ∧ c < 4) ∧ (((if (D 77 c.toNat) < (w64 (d + e)) then (1 : Int) else if (w64 (d + e)) = (D 77 c.toNat) then 0 else -1) ≤ 0 → (I120 a b c d e 0 D)) ∧ (¬ ((if (D 77 c.toNat) < (w64 (d + e)) then (1 : Int) else if (w64 (d + e)) = (D 77 c.toNat) then 0 else -1) ≤ 0) → (∃ Q53 : Option MV → HP → Prop, CT mX6_meets [vR 56, vI 2] D Q53 ∧ ∀ (r57 : Int) (D56 : HP), Q53 (some (vI r57)) D56 → c32 r57 → cD D56 → (Q (some (vI r57)) D56))))))))))))))) ∧ (¬ ((D 76 a.toNat) = (D 76 c.toNat)) → (∃ Q62 : Option MV → HP → Prop, CT mX6_meets [vR 56, vI 4] D Q62 ∧ ∀ (r66 : Int) (D65 : HP), Q62 (some (vI r66)) D65 → c32 r66 → cD D65 → (Q (some (vI r66)) D65)))))))))))))))))
    (h120 : ∀ (x1 x2 x3 x4 x5 x6 : Int) (D : HP), I120 x1 x2 x3 x4 x5 x6 D → cD D → c32 x1 → c32 x2 → c32 x3 → c32 x4 → c32 x5 → c32 x6 → ((x5 ≤ x6 → (I157 x1 x2 x3 x4 x5 0 D ∧ u157 x1 x2 x3 x4 x5 0 D ≤ u120 x1 x2 x3 x4 x5 x6 D)) ∧ (¬ (x5 ≤ x6) → ((c32 (60 * x1)) ∧ ((c32 ((60 * x1) + x2)) ∧ ((c32 (((60 * x1) + x2) + x6)) ∧ ((0 ≤ (((60 * x1) + x2) + x6) ∧ (((60 * x1) + x2) + x6) < 240) ∧ ((0 ≤ x6 ∧ x6 < 60) ∧ (∀ (E74 : HP), E74 = (hu D 79 x6.toNat (D 78 ((((60 * x1) + x2) + x6)).toNat)) → ((c32 (x6 + 1)) ∧ (I120 x1 x2 x3 x4 x5 (x6 + 1) E74 ∧ u120 x1 x2 x3 x4 x5 (x6 + 1) E74 < u120 x1 x2 x3 x4 x5 x6 D)))))))))))
    (h157 : ∀ (x1 x2 x3 x4 x5 x6 : Int) (D : HP), I157 x1 x2 x3 x4 x5 x6 D → cD D → c32 x1 → c32 x2 → c32 x3 → c32 x4 → c32 x5 → c32 x6 → ((x5 ≤ x6 → (Q (some (vI 1)) D)) ∧ (¬ (x5 ≤ x6) → ((c32 (60 * x3)) ∧ ((c32 ((60 * x3) + x4)) ∧ ((c32 (((60 * x3) + x4) + x6)) ∧ ((0 ≤ x6 ∧ x6 < 60) ∧ ((0 ≤ (((60 * x3) + x4) + x6) ∧ (((60 * x3) + x4) + x6) < 240) ∧ (∀ (E83 : HP), E83 = (hu D 78 ((((60 * x3) + x4) + x6)).toNat (D 79 x6.toNat)) → ((c32 (x6 + 1)) ∧ (I157 x1 x2 x3 x4 x5 (x6 + 1) E83 ∧ u157 x1 x2 x3 x4 x5 (x6 + 1) E83 < u157 x1 x2 x3 x4 x5 x6 D)))))))))))
    : CT mX6_copy [vR 56, vI a, vI b, vI c, vI d, vI e] D Q := by
  refine CT.of 1 (by decide) (Nat.le_of_ble_eq_true rfl) ?_
  show WP mX6_copy Q 0 [vR 56, vI a, vI b, vI c, vI d, vI e, vU] [] D
  have IH : ∀ n : Nat, (∀ (x1 x2 x3 x4 x5 x6 : Int) (D : HP), I120 x1 x2 x3 x4 x5 x6 D → u120 x1 x2 x3 x4 x5 x6 D * 2 + 1 < n → WP mX6_copy Q 120 [vR 56, vI x1, vI x2, vI x3, vI x4, vI x5, vI x6] [] D) ∧ (∀ (x1 x2 x3 x4 x5 x6 : Int) (D : HP), I157 x1 x2 x3 x4 x5 x6 D → u157 x1 x2 x3 x4 x5 x6 D * 2 + 0 < n → WP mX6_copy Q 157 [vR 56, vI x1, vI x2, vI x3, vI x4, vI x5, vI x6] [] D) := by
    intro n
    induction n with
    | zero => exact ⟨fun _ _ _ _ _ _ _ _ h => absurd h (Nat.not_lt_zero _), fun _ _ _ _ _ _ _ _ h => absurd h (Nat.not_lt_zero _)⟩
    | succ n ih =>
      have ih120_ := ih.1
      have ih157_ := ih.2
      refine ⟨?_, ?_⟩
      · intro x1 x2 x3 x4 x5 x6 D hI hn
        refine WP_cD (fun hcD => ?_)
        refine WP_cl (fun hcl => ?_)
        have h := h120 x1 x2 x3 x4 x5 x6 D hI hcD (cVs_g hcl (i := 1) (v := vI x1) rfl) (cVs_g hcl (i := 2) (v := vI x2) rfl) (cVs_g hcl (i := 3) (v := vI x3) rfl) (cVs_g hcl (i := 4) (v := vI x4) rfl) (cVs_g hcl (i := 5) (v := vI x5) rfl) (cVs_g hcl (i := 6) (v := vI x6) rfl)
        refine WP_iload (z := x6) dX6_copy_120 rfl ?_
        refine WP_iload (z := x5) dX6_copy_122 rfl ?_
        refine WP_icmp_ge (tgt := 154) dX6_copy_124 (by decide) (fun c73 => ?_) (fun c73 => ?_)
        · replace h := h.1 c73
          refine WP_iconst (z := 0) dX6_copy_154 rfl ⟨by decide, by decide⟩ ?_
          refine WP_istore (ls1 := [vR 56, vI x1, vI x2, vI x3, vI x4, vI x5, vI 0]) dX6_copy_155 (by decide) rfl ?_
          exact ih157_ _ _ _ _ _ _ _ h.1 (by have := h.2; omega)
        · replace h := h.2 c73
          refine WP_aload_n (z := 56) dX6_copy_127 rfl ?_
          refine WP_getR (z := 79) dX6_copy_128 fl_RX6_77 rfl rfl rfl ?_
          refine WP_iload (z := x6) dX6_copy_131 rfl ?_
          refine WP_aload_n (z := 56) dX6_copy_133 rfl ?_
          refine WP_getR (z := 78) dX6_copy_134 fl_RX6_74 rfl rfl rfl ?_
          refine WP_bipush (z := 60) dX6_copy_137 rfl (by decide) ?_
          refine WP_iload_n (z := x1) dX6_copy_139 rfl ?_
          obtain ⟨o81, h⟩ := h
          refine WP_imul (z := (60 * x1)) dX6_copy_140 (w32_id o81) ?_
          refine WP_iload_n (z := x2) dX6_copy_141 rfl ?_
          obtain ⟨o80, h⟩ := h
          refine WP_iadd (z := ((60 * x1) + x2)) dX6_copy_142 (w32_id o80) ?_
          refine WP_iload (z := x6) dX6_copy_143 rfl ?_
          obtain ⟨o79, h⟩ := h
          refine WP_iadd (z := (((60 * x1) + x2) + x6)) dX6_copy_145 (w32_id o79) ?_
          obtain ⟨o78, h⟩ := h
          refine WP_iald dX6_copy_146 rfl o78.1 o78.2 rfl ?_
          obtain ⟨o77, h⟩ := h
          refine WP_iast dX6_copy_147 rfl o77.1 o77.2 ?_
          obtain ⟨E74, hE75⟩ : ∃ E74 : HP, E74 = (hu D 79 x6.toNat (D 78 ((((60 * x1) + x2) + x6)).toNat)) := ⟨_, rfl⟩
          replace h := h E74 hE75
          show WP mX6_copy Q 148 [vR 56, vI x1, vI x2, vI x3, vI x4, vI x5, vI x6] [] (hu D 79 x6.toNat (D 78 ((((60 * x1) + x2) + x6)).toNat))
          rw [← hE75]
          obtain ⟨o76, h⟩ := h
          refine WP_iinc (z := (x6 + 1)) (ls1 := [vR 56, vI x1, vI x2, vI x3, vI x4, vI x5, vI (x6 + 1)]) dX6_copy_148 rfl (w32_id o76) (by decide) rfl ?_
          refine WP_goto (tgt := 120) dX6_copy_151 (by decide) ?_
          exact ih120_ _ _ _ _ _ _ _ h.1 (by have := h.2; omega)
      · intro x1 x2 x3 x4 x5 x6 D hI hn
        refine WP_cD (fun hcD => ?_)
        refine WP_cl (fun hcl => ?_)
        have h := h157 x1 x2 x3 x4 x5 x6 D hI hcD (cVs_g hcl (i := 1) (v := vI x1) rfl) (cVs_g hcl (i := 2) (v := vI x2) rfl) (cVs_g hcl (i := 3) (v := vI x3) rfl) (cVs_g hcl (i := 4) (v := vI x4) rfl) (cVs_g hcl (i := 5) (v := vI x5) rfl) (cVs_g hcl (i := 6) (v := vI x6) rfl)
        refine WP_iload (z := x6) dX6_copy_157 rfl ?_
        refine WP_iload (z := x5) dX6_copy_159 rfl ?_
        refine WP_icmp_ge (tgt := 192) dX6_copy_161 (by decide) (fun c82 => ?_) (fun c82 => ?_)
        · replace h := h.1 c82
          refine WP_iconst (z := 1) dX6_copy_192 rfl ⟨by decide, by decide⟩ ?_
          exact WP_ireturn dX6_copy_193 rfl h
        · replace h := h.2 c82
          refine WP_aload_n (z := 56) dX6_copy_164 rfl ?_
          refine WP_getR (z := 78) dX6_copy_165 fl_RX6_74 rfl rfl rfl ?_
          refine WP_bipush (z := 60) dX6_copy_168 rfl (by decide) ?_
          refine WP_iload_n (z := x3) dX6_copy_170 rfl ?_
          obtain ⟨o90, h⟩ := h
          refine WP_imul (z := (60 * x3)) dX6_copy_171 (w32_id o90) ?_
          refine WP_iload (z := x4) dX6_copy_172 rfl ?_
          obtain ⟨o89, h⟩ := h
          refine WP_iadd (z := ((60 * x3) + x4)) dX6_copy_174 (w32_id o89) ?_
          refine WP_iload (z := x6) dX6_copy_175 rfl ?_
          obtain ⟨o88, h⟩ := h
          refine WP_iadd (z := (((60 * x3) + x4) + x6)) dX6_copy_177 (w32_id o88) ?_
          refine WP_aload_n (z := 56) dX6_copy_178 rfl ?_
          refine WP_getR (z := 79) dX6_copy_179 fl_RX6_77 rfl rfl rfl ?_
          refine WP_iload (z := x6) dX6_copy_182 rfl ?_
          obtain ⟨o87, h⟩ := h
          refine WP_iald dX6_copy_184 rfl o87.1 o87.2 rfl ?_
          obtain ⟨o86, h⟩ := h
          refine WP_iast dX6_copy_185 rfl o86.1 o86.2 ?_
          obtain ⟨E83, hE84⟩ : ∃ E83 : HP, E83 = (hu D 78 ((((60 * x3) + x4) + x6)).toNat (D 79 x6.toNat)) := ⟨_, rfl⟩
          replace h := h E83 hE84
          show WP mX6_copy Q 186 [vR 56, vI x1, vI x2, vI x3, vI x4, vI x5, vI x6] [] (hu D 78 ((((60 * x3) + x4) + x6)).toNat (D 79 x6.toNat))
          rw [← hE84]
          obtain ⟨o85, h⟩ := h
          refine WP_iinc (z := (x6 + 1)) (ls1 := [vR 56, vI x1, vI x2, vI x3, vI x4, vI x5, vI (x6 + 1)]) dX6_copy_186 rfl (w32_id o85) (by decide) rfl ?_
          refine WP_goto (tgt := 157) dX6_copy_189 (by decide) ?_
          exact ih157_ _ _ _ _ _ _ _ h.1 (by have := h.2; omega)
  have cut120_ : ∀ (x1 x2 x3 x4 x5 x6 : Int) (D : HP), I120 x1 x2 x3 x4 x5 x6 D → WP mX6_copy Q 120 [vR 56, vI x1, vI x2, vI x3, vI x4, vI x5, vI x6] [] D := fun x1 x2 x3 x4 x5 x6 D hI => (IH (u120 x1 x2 x3 x4 x5 x6 D * 2 + 1 + 1)).1 x1 x2 x3 x4 x5 x6 D hI (by omega)
  have cut157_ : ∀ (x1 x2 x3 x4 x5 x6 : Int) (D : HP), I157 x1 x2 x3 x4 x5 x6 D → WP mX6_copy Q 157 [vR 56, vI x1, vI x2, vI x3, vI x4, vI x5, vI x6] [] D := fun x1 x2 x3 x4 x5 x6 D hI => (IH (u157 x1 x2 x3 x4 x5 x6 D * 2 + 0 + 1)).2 x1 x2 x3 x4 x5 x6 D hI (by omega)
  refine WP_cD (fun hcD => ?_)
  refine WP_cl (fun hcl => ?_)
  have h := h0 hcD (cVs_g hcl (i := 1) (v := vI a) rfl) (cVs_g hcl (i := 2) (v := vI b) rfl) (cVs_g hcl (i := 3) (v := vI c) rfl) (cVs_g hcl (i := 4) (v := vI d) rfl) (cVs_g hcl (i := 5) (v := vI e) rfl)
  refine WP_iload_n (z := a) dX6_copy_0 rfl ?_
  refine WP_pcallS (g := mX6_isSheet) (as := [vI a]) (rest := []) (n := 1) (r := vI (fX6_isSheet D a)) dX6_copy_1 wm_684 mo_X6_isSheet rfl rfl ⟨Nat.le_of_ble_eq_true rfl, Nat.le_of_ble_eq_true rfl⟩ (Nat.le_of_ble_eq_true rfl) (P_X6_isSheet  trivial) ?_
  refine WP_if_eq (tgt := 14) dX6_copy_4 (by decide) (fun c1 => ?_) (fun c1 => ?_)
  · replace h := h.1 c1
    refine WP_bipush (z := (-2)) dX6_copy_14 rfl (by decide) ?_
    exact WP_ireturn dX6_copy_16 rfl h
  · replace h := h.2 c1
    refine WP_iload_n (z := c) dX6_copy_7 rfl ?_
    refine WP_pcallS (g := mX6_isSheet) (as := [vI c]) (rest := []) (n := 1) (r := vI (fX6_isSheet D c)) dX6_copy_8 wm_684 mo_X6_isSheet rfl rfl ⟨Nat.le_of_ble_eq_true rfl, Nat.le_of_ble_eq_true rfl⟩ (Nat.le_of_ble_eq_true rfl) (P_X6_isSheet  trivial) ?_
    refine WP_if_ne (tgt := 17) dX6_copy_11 (by decide) (fun c2 => ?_) (fun c2 => ?_)
    · replace h := h.2 c2
      refine WP_aload_n (z := 56) dX6_copy_17 rfl ?_
      refine WP_getR (z := 75) dX6_copy_18 fl_RX6_65 rfl rfl rfl ?_
      refine WP_iload_n (z := a) dX6_copy_21 rfl ?_
      obtain ⟨o72, h⟩ := h
      refine WP_zald dX6_copy_22 rfl o72.1 o72.2 rfl ?_
      refine WP_if_eq (tgt := 35) dX6_copy_23 (by decide) (fun c3 => ?_) (fun c3 => ?_)
      · replace h := h.1 c3
        refine WP_aload_n (z := 56) dX6_copy_35 rfl ?_
        refine WP_iconst (z := 1) dX6_copy_36 rfl ⟨by decide, by decide⟩ ?_
        obtain ⟨Q4, ct6, h⟩ := h
        refine WP_callV (g := mX6_meets) (as := [vI 1]) (rest := []) (n := 1) dX6_copy_37 wm_687 mo_X6_meets rfl rfl rfl rfl ⟨Nat.le_of_ble_eq_true rfl, Nat.le_of_ble_eq_true rfl⟩ (Nat.le_of_ble_eq_true rfl) ct6 (fun r_ D7 hq5 hok hD10 => ?_)
        obtain ⟨r8, rfl, hr9⟩ := hok
        replace h := h r8 D7 hq5 hr9 hD10
        show WP mX6_copy Q 40 [vR 56, vI a, vI b, vI c, vI d, vI e, vU] [vI r8] D7
        exact WP_ireturn dX6_copy_40 rfl h
      · replace h := h.2 c3
        refine WP_aload_n (z := 56) dX6_copy_26 rfl ?_
        refine WP_getR (z := 75) dX6_copy_27 fl_RX6_65 rfl rfl rfl ?_
        refine WP_iload_n (z := c) dX6_copy_30 rfl ?_
        obtain ⟨o71, h⟩ := h
        refine WP_zald dX6_copy_31 rfl o71.1 o71.2 rfl ?_
        refine WP_if_ne (tgt := 41) dX6_copy_32 (by decide) (fun c11 => ?_) (fun c11 => ?_)
        · replace h := h.2 c11
          refine WP_aload_n (z := 56) dX6_copy_41 rfl ?_
          refine WP_getR (z := 76) dX6_copy_42 fl_RX6_68 rfl rfl rfl ?_
          refine WP_iload_n (z := a) dX6_copy_45 rfl ?_
          obtain ⟨o70, h⟩ := h
          refine WP_iald dX6_copy_46 rfl o70.1 o70.2 rfl ?_
          refine WP_aload_n (z := 56) dX6_copy_47 rfl ?_
          refine WP_getR (z := 76) dX6_copy_48 fl_RX6_68 rfl rfl rfl ?_
          refine WP_iload_n (z := c) dX6_copy_51 rfl ?_
          obtain ⟨o69, h⟩ := h
          refine WP_iald dX6_copy_52 rfl o69.1 o69.2 rfl ?_
          refine WP_icmp_eq (tgt := 62) dX6_copy_53 (by decide) (fun c19 => ?_) (fun c19 => ?_)
          · replace h := h.1 c19
            refine WP_iload_n (z := b) dX6_copy_62 rfl ?_
            refine WP_if_lt (tgt := 111) dX6_copy_63 (by decide) (fun c20 => ?_) (fun c20 => ?_)
            · replace h := h.1 c20
              refine WP_aload_n (z := 56) dX6_copy_111 rfl ?_
              refine WP_iconst (z := 2) dX6_copy_112 rfl ⟨by decide, by decide⟩ ?_
              obtain ⟨Q21, ct23, h⟩ := h
              refine WP_callV (g := mX6_meets) (as := [vI 2]) (rest := []) (n := 1) dX6_copy_113 wm_687 mo_X6_meets rfl rfl rfl rfl ⟨Nat.le_of_ble_eq_true rfl, Nat.le_of_ble_eq_true rfl⟩ (Nat.le_of_ble_eq_true rfl) ct23 (fun r_ D24 hq22 hok hD27 => ?_)
              obtain ⟨r25, rfl, hr26⟩ := hok
              replace h := h r25 D24 hq22 hr26 hD27
              show WP mX6_copy Q 116 [vR 56, vI a, vI b, vI c, vI d, vI e, vU] [vI r25] D24
              exact WP_ireturn dX6_copy_116 rfl h
            · replace h := h.2 c20
              refine WP_iload (z := d) dX6_copy_66 rfl ?_
              refine WP_if_lt (tgt := 111) dX6_copy_68 (by decide) (fun c28 => ?_) (fun c28 => ?_)
              · replace h := h.1 c28
                refine WP_aload_n (z := 56) dX6_copy_111 rfl ?_
                refine WP_iconst (z := 2) dX6_copy_112 rfl ⟨by decide, by decide⟩ ?_
                obtain ⟨Q29, ct31, h⟩ := h
                refine WP_callV (g := mX6_meets) (as := [vI 2]) (rest := []) (n := 1) dX6_copy_113 wm_687 mo_X6_meets rfl rfl rfl rfl ⟨Nat.le_of_ble_eq_true rfl, Nat.le_of_ble_eq_true rfl⟩ (Nat.le_of_ble_eq_true rfl) ct31 (fun r_ D32 hq30 hok hD35 => ?_)
                obtain ⟨r33, rfl, hr34⟩ := hok
                replace h := h r33 D32 hq30 hr34 hD35
                show WP mX6_copy Q 116 [vR 56, vI a, vI b, vI c, vI d, vI e, vU] [vI r33] D32
                exact WP_ireturn dX6_copy_116 rfl h
              · replace h := h.2 c28
                refine WP_iload (z := e) dX6_copy_71 rfl ?_
                refine WP_if_lt (tgt := 111) dX6_copy_73 (by decide) (fun c36 => ?_) (fun c36 => ?_)
                · replace h := h.1 c36
                  refine WP_aload_n (z := 56) dX6_copy_111 rfl ?_
                  refine WP_iconst (z := 2) dX6_copy_112 rfl ⟨by decide, by decide⟩ ?_
                  obtain ⟨Q37, ct39, h⟩ := h
                  refine WP_callV (g := mX6_meets) (as := [vI 2]) (rest := []) (n := 1) dX6_copy_113 wm_687 mo_X6_meets rfl rfl rfl rfl ⟨Nat.le_of_ble_eq_true rfl, Nat.le_of_ble_eq_true rfl⟩ (Nat.le_of_ble_eq_true rfl) ct39 (fun r_ D40 hq38 hok hD43 => ?_)
                  obtain ⟨r41, rfl, hr42⟩ := hok
                  replace h := h r41 D40 hq38 hr42 hD43
                  show WP mX6_copy Q 116 [vR 56, vI a, vI b, vI c, vI d, vI e, vU] [vI r41] D40
                  exact WP_ireturn dX6_copy_116 rfl h
                · replace h := h.2 c36
                  refine WP_iload_n (z := b) dX6_copy_76 rfl ?_
                  refine WP_i2l dX6_copy_77 ?_
                  refine WP_iload (z := e) dX6_copy_78 rfl ?_
                  refine WP_i2l dX6_copy_80 ?_
                  refine WP_ladd dX6_copy_81 rfl ?_
                  refine WP_aload_n (z := 56) dX6_copy_82 rfl ?_
                  refine WP_getR (z := 77) dX6_copy_83 fl_RX6_71 rfl rfl rfl ?_
                  refine WP_iload_n (z := a) dX6_copy_86 rfl ?_
                  obtain ⟨o61, h⟩ := h
                  refine WP_iald dX6_copy_87 rfl o61.1 o61.2 rfl ?_
                  refine WP_i2l dX6_copy_88 ?_
                  refine WP_lcmp dX6_copy_89 rfl ?_
                  refine WP_if_gt (tgt := 111) dX6_copy_90 (by decide) (fun c44 => ?_) (fun c44 => ?_)
                  · replace h := h.1 c44
                    refine WP_aload_n (z := 56) dX6_copy_111 rfl ?_
                    refine WP_iconst (z := 2) dX6_copy_112 rfl ⟨by decide, by decide⟩ ?_
                    obtain ⟨Q45, ct47, h⟩ := h
                    refine WP_callV (g := mX6_meets) (as := [vI 2]) (rest := []) (n := 1) dX6_copy_113 wm_687 mo_X6_meets rfl rfl rfl rfl ⟨Nat.le_of_ble_eq_true rfl, Nat.le_of_ble_eq_true rfl⟩ (Nat.le_of_ble_eq_true rfl) ct47 (fun r_ D48 hq46 hok hD51 => ?_)
                    obtain ⟨r49, rfl, hr50⟩ := hok
                    replace h := h r49 D48 hq46 hr50 hD51
                    show WP mX6_copy Q 116 [vR 56, vI a, vI b, vI c, vI d, vI e, vU] [vI r49] D48
                    exact WP_ireturn dX6_copy_116 rfl h
                  · replace h := h.2 c44
                    refine WP_iload (z := d) dX6_copy_93 rfl ?_
                    refine WP_i2l dX6_copy_95 ?_
                    refine WP_iload (z := e) dX6_copy_96 rfl ?_
                    refine WP_i2l dX6_copy_98 ?_
                    refine WP_ladd dX6_copy_99 rfl ?_
                    refine WP_aload_n (z := 56) dX6_copy_100 rfl ?_
                    refine WP_getR (z := 77) dX6_copy_101 fl_RX6_71 rfl rfl rfl ?_
                    refine WP_iload_n (z := c) dX6_copy_104 rfl ?_
                    obtain ⟨o60, h⟩ := h
                    refine WP_iald dX6_copy_105 rfl o60.1 o60.2 rfl ?_
                    refine WP_i2l dX6_copy_106 ?_
                    refine WP_lcmp dX6_copy_107 rfl ?_
                    refine WP_if_le (tgt := 117) dX6_copy_108 (by decide) (fun c52 => ?_) (fun c52 => ?_)
                    · replace h := h.1 c52
                      refine WP_iconst (z := 0) dX6_copy_117 rfl ⟨by decide, by decide⟩ ?_
                      refine WP_istore (ls1 := [vR 56, vI a, vI b, vI c, vI d, vI e, vI 0]) dX6_copy_118 (by decide) rfl ?_
                      exact cut120_ _ _ _ _ _ _ _ h
                    · replace h := h.2 c52
                      refine WP_aload_n (z := 56) dX6_copy_111 rfl ?_
                      refine WP_iconst (z := 2) dX6_copy_112 rfl ⟨by decide, by decide⟩ ?_
                      obtain ⟨Q53, ct55, h⟩ := h
                      refine WP_callV (g := mX6_meets) (as := [vI 2]) (rest := []) (n := 1) dX6_copy_113 wm_687 mo_X6_meets rfl rfl rfl rfl ⟨Nat.le_of_ble_eq_true rfl, Nat.le_of_ble_eq_true rfl⟩ (Nat.le_of_ble_eq_true rfl) ct55 (fun r_ D56 hq54 hok hD59 => ?_)
                      obtain ⟨r57, rfl, hr58⟩ := hok
                      replace h := h r57 D56 hq54 hr58 hD59
                      show WP mX6_copy Q 116 [vR 56, vI a, vI b, vI c, vI d, vI e, vU] [vI r57] D56
                      exact WP_ireturn dX6_copy_116 rfl h
          · replace h := h.2 c19
            refine WP_aload_n (z := 56) dX6_copy_56 rfl ?_
            refine WP_iconst (z := 4) dX6_copy_57 rfl ⟨by decide, by decide⟩ ?_
            obtain ⟨Q62, ct64, h⟩ := h
            refine WP_callV (g := mX6_meets) (as := [vI 4]) (rest := []) (n := 1) dX6_copy_58 wm_687 mo_X6_meets rfl rfl rfl rfl ⟨Nat.le_of_ble_eq_true rfl, Nat.le_of_ble_eq_true rfl⟩ (Nat.le_of_ble_eq_true rfl) ct64 (fun r_ D65 hq63 hok hD68 => ?_)
            obtain ⟨r66, rfl, hr67⟩ := hok
            replace h := h r66 D65 hq63 hr67 hD68
            show WP mX6_copy Q 61 [vR 56, vI a, vI b, vI c, vI d, vI e, vU] [vI r66] D65
            exact WP_ireturn dX6_copy_61 rfl h
        · replace h := h.1 c11
          refine WP_aload_n (z := 56) dX6_copy_35 rfl ?_
          refine WP_iconst (z := 1) dX6_copy_36 rfl ⟨by decide, by decide⟩ ?_
          obtain ⟨Q12, ct14, h⟩ := h
          refine WP_callV (g := mX6_meets) (as := [vI 1]) (rest := []) (n := 1) dX6_copy_37 wm_687 mo_X6_meets rfl rfl rfl rfl ⟨Nat.le_of_ble_eq_true rfl, Nat.le_of_ble_eq_true rfl⟩ (Nat.le_of_ble_eq_true rfl) ct14 (fun r_ D15 hq13 hok hD18 => ?_)
          obtain ⟨r16, rfl, hr17⟩ := hok
          replace h := h r16 D15 hq13 hr17 hD18
          show WP mX6_copy Q 40 [vR 56, vI a, vI b, vI c, vI d, vI e, vU] [vI r16] D15
          exact WP_ireturn dX6_copy_40 rfl h
    · replace h := h.1 c2
      refine WP_bipush (z := (-2)) dX6_copy_14 rfl (by decide) ?_
      exact WP_ireturn dX6_copy_16 rfl h
set_option maxRecDepth 100000 in
set_option maxHeartbeats 4000000 in
theorem V_X6_write (a : Int) (b : Int) {D : HP} {Q : Option MV → HP → Prop} (I39 : Int → Int → Int → HP → Prop) (u39 : Int → Int → Int → HP → Nat)
    (h0 : cD D → c32 a → c32 b → (∃ Q1 : Option MV → HP → Prop, CT mX6_isMinute [vR 56, vI a] D Q1 ∧ ∀ (r5 : Int) (D4 : HP), Q1 (some (vI r5)) D4 → c32 r5 → cD D4 → ((r5 = 0 → (Q (some (vI (-2))) D4)) ∧ (¬ (r5 = 0) → (((fX6_isSheet D4 b) = 0 → (Q (some (vI (-2))) D4)) ∧ (¬ ((fX6_isSheet D4 b) = 0) → ((0 ≤ b ∧ b < 4) ∧ (((D4 75 b.toNat) = 0 → (∃ Q11 : Option MV → HP → Prop, CT mX6_meets [vR 56, vI 1] D4 Q11 ∧ ∀ (r15 : Int) (D14 : HP), Q11 (some (vI r15)) D14 → c32 r15 → cD D14 → (Q (some (vI r15)) D14))) ∧ (¬ ((D4 75 b.toNat) = 0) → (∃ Q18 : Option MV → HP → Prop, CT mX6_runsTold [vR 56] D4 Q18 ∧ ∀ (D21 : HP), Q18 none D21 → cD D21 → (I39 a b 0 D21)))))))))))
    (h39 : ∀ (x1 x2 x3 : Int) (D : HP), I39 x1 x2 x3 D → cD D → c32 x1 → c32 x2 → c32 x3 → ((0 ≤ x2 ∧ x2 < 4) ∧ (((D 77 x2.toNat) ≤ x3 → (Q (some (vI x3)) D)) ∧ (¬ ((D 77 x2.toNat) ≤ x3) → (((D 56 3) ≤ x3 → (Q (some (vI x3)) D)) ∧ (¬ ((D 56 3) ≤ x3) → ((oX6_windNow D x1 x3) ∧ (∃ Q28 : Option MV → HP → Prop, CT mX6_keep [vR 56, vI x2, vI x3, vI (fX6_windNow D x1 x3)] D Q28 ∧ ∀ (D31 : HP), Q28 none D31 → cD D31 → ((c32 (x3 + 1)) ∧ (I39 x1 x2 (x3 + 1) D31 ∧ u39 x1 x2 (x3 + 1) D31 < u39 x1 x2 x3 D))))))))))
    : CT mX6_write [vR 56, vI a, vI b] D Q := by
  refine CT.of 1 (by decide) (Nat.le_of_ble_eq_true rfl) ?_
  show WP mX6_write Q 0 [vR 56, vI a, vI b, vU] [] D
  have IH : ∀ n : Nat, (∀ (x1 x2 x3 : Int) (D : HP), I39 x1 x2 x3 D → u39 x1 x2 x3 D * 1 + 0 < n → WP mX6_write Q 39 [vR 56, vI x1, vI x2, vI x3] [] D) := by
    intro n
    induction n with
    | zero => exact fun _ _ _ _ _ h => absurd h (Nat.not_lt_zero _)
    | succ n ih =>
      have ih39_ := ih
      · intro x1 x2 x3 D hI hn
        refine WP_cD (fun hcD => ?_)
        refine WP_cl (fun hcl => ?_)
        have h := h39 x1 x2 x3 D hI hcD (cVs_g hcl (i := 1) (v := vI x1) rfl) (cVs_g hcl (i := 2) (v := vI x2) rfl) (cVs_g hcl (i := 3) (v := vI x3) rfl)
        refine WP_iload_n (z := x3) dX6_write_39 rfl ?_
        refine WP_aload_n (z := 56) dX6_write_40 rfl ?_
        refine WP_getR (z := 77) dX6_write_41 fl_RX6_71 rfl rfl rfl ?_
        refine WP_iload_n (z := x2) dX6_write_44 rfl ?_
        obtain ⟨o37, h⟩ := h
        refine WP_iald dX6_write_45 rfl o37.1 o37.2 rfl ?_
        refine WP_icmp_ge (tgt := 75) dX6_write_46 (by decide) (fun c26 => ?_) (fun c26 => ?_)
        · replace h := h.1 c26
          refine WP_iload_n (z := x3) dX6_write_75 rfl ?_
          exact WP_ireturn dX6_write_76 rfl h
        · replace h := h.2 c26
          refine WP_iload_n (z := x3) dX6_write_49 rfl ?_
          refine WP_aload_n (z := 56) dX6_write_50 rfl ?_
          refine WP_getI dX6_write_51 fl_RX6_94 rfl rfl rfl ?_
          refine WP_icmp_ge (tgt := 75) dX6_write_54 (by decide) (fun c27 => ?_) (fun c27 => ?_)
          · replace h := h.1 c27
            refine WP_iload_n (z := x3) dX6_write_75 rfl ?_
            exact WP_ireturn dX6_write_76 rfl h
          · replace h := h.2 c27
            refine WP_aload_n (z := 56) dX6_write_57 rfl ?_
            refine WP_iload_n (z := x2) dX6_write_58 rfl ?_
            refine WP_iload_n (z := x3) dX6_write_59 rfl ?_
            refine WP_aload_n (z := 56) dX6_write_60 rfl ?_
            refine WP_iload_n (z := x1) dX6_write_61 rfl ?_
            refine WP_iload_n (z := x3) dX6_write_62 rfl ?_
            obtain ⟨o36, h⟩ := h
            refine WP_pcallV (g := mX6_windNow) (as := [vI x1, vI x3]) (rest := [vI x3, vI x2, vR 56]) (n := 2) (r := vI (fX6_windNow D x1 x3)) dX6_write_63 wm_423 mo_X6_windNow rfl rfl rfl rfl ⟨Nat.le_of_ble_eq_true rfl, Nat.le_of_ble_eq_true rfl⟩ (Nat.le_of_ble_eq_true rfl) (P_X6_windNow  o36) ?_
            obtain ⟨Q28, ct30, h⟩ := h
            refine WP_callV (g := mX6_keep) (as := [vI x2, vI x3, vI (fX6_windNow D x1 x3)]) (rest := []) (n := 3) dX6_write_66 wm_880 mo_X6_keep rfl rfl rfl rfl ⟨Nat.le_of_ble_eq_true rfl, Nat.le_of_ble_eq_true rfl⟩ (Nat.le_of_ble_eq_true rfl) ct30 (fun r_ D31 hq29 hok hD34 => ?_)
            obtain rfl := hok
            replace h := h D31 hq29 hD34
            show WP mX6_write Q 69 [vR 56, vI x1, vI x2, vI x3] [] D31
            obtain ⟨o35, h⟩ := h
            refine WP_iinc (z := (x3 + 1)) (ls1 := [vR 56, vI x1, vI x2, vI (x3 + 1)]) dX6_write_69 rfl (w32_id o35) (by decide) rfl ?_
            refine WP_goto (tgt := 39) dX6_write_72 (by decide) ?_
            exact ih39_ _ _ _ _ h.1 (by have := h.2; omega)
  have cut39_ : ∀ (x1 x2 x3 : Int) (D : HP), I39 x1 x2 x3 D → WP mX6_write Q 39 [vR 56, vI x1, vI x2, vI x3] [] D := fun x1 x2 x3 D hI => (IH (u39 x1 x2 x3 D * 1 + 0 + 1)) x1 x2 x3 D hI (by omega)
  refine WP_cD (fun hcD => ?_)
  refine WP_cl (fun hcl => ?_)
  have h := h0 hcD (cVs_g hcl (i := 1) (v := vI a) rfl) (cVs_g hcl (i := 2) (v := vI b) rfl)
  refine WP_aload_n (z := 56) dX6_write_0 rfl ?_
  refine WP_iload_n (z := a) dX6_write_1 rfl ?_
  obtain ⟨Q1, ct3, h⟩ := h
  refine WP_callV (g := mX6_isMinute) (as := [vI a]) (rest := []) (n := 1) dX6_write_2 wm_362 mo_X6_isMinute rfl rfl rfl rfl ⟨Nat.le_of_ble_eq_true rfl, Nat.le_of_ble_eq_true rfl⟩ (Nat.le_of_ble_eq_true rfl) ct3 (fun r_ D4 hq2 hok hD7 => ?_)
  obtain ⟨r5, rfl, hr6⟩ := hok
  replace h := h r5 D4 hq2 hr6 hD7
  show WP mX6_write Q 5 [vR 56, vI a, vI b, vU] [vI r5] D4
  refine WP_if_eq (tgt := 15) dX6_write_5 (by decide) (fun c8 => ?_) (fun c8 => ?_)
  · replace h := h.1 c8
    refine WP_bipush (z := (-2)) dX6_write_15 rfl (by decide) ?_
    exact WP_ireturn dX6_write_17 rfl h
  · replace h := h.2 c8
    refine WP_iload_n (z := b) dX6_write_8 rfl ?_
    refine WP_pcallS (g := mX6_isSheet) (as := [vI b]) (rest := []) (n := 1) (r := vI (fX6_isSheet D4 b)) dX6_write_9 wm_684 mo_X6_isSheet rfl rfl ⟨Nat.le_of_ble_eq_true rfl, Nat.le_of_ble_eq_true rfl⟩ (Nat.le_of_ble_eq_true rfl) (P_X6_isSheet  trivial) ?_
    refine WP_if_ne (tgt := 18) dX6_write_12 (by decide) (fun c9 => ?_) (fun c9 => ?_)
    · replace h := h.2 c9
      refine WP_aload_n (z := 56) dX6_write_18 rfl ?_
      refine WP_getR (z := 75) dX6_write_19 fl_RX6_65 rfl rfl rfl ?_
      refine WP_iload_n (z := b) dX6_write_22 rfl ?_
      obtain ⟨o25, h⟩ := h
      refine WP_zald dX6_write_23 rfl o25.1 o25.2 rfl ?_
      refine WP_if_ne (tgt := 33) dX6_write_24 (by decide) (fun c10 => ?_) (fun c10 => ?_)
      · replace h := h.2 c10
        refine WP_aload_n (z := 56) dX6_write_33 rfl ?_
        obtain ⟨Q18, ct20, h⟩ := h
        refine WP_callV (g := mX6_runsTold) (as := []) (rest := []) (n := 0) dX6_write_34 wm_411 mo_X6_runsTold rfl rfl rfl rfl ⟨Nat.le_of_ble_eq_true rfl, Nat.le_of_ble_eq_true rfl⟩ (Nat.le_of_ble_eq_true rfl) ct20 (fun r_ D21 hq19 hok hD24 => ?_)
        obtain rfl := hok
        replace h := h D21 hq19 hD24
        show WP mX6_write Q 37 [vR 56, vI a, vI b, vU] [] D21
        refine WP_iconst (z := 0) dX6_write_37 rfl ⟨by decide, by decide⟩ ?_
        refine WP_istore_n (ls1 := [vR 56, vI a, vI b, vI 0]) dX6_write_38 (by decide) rfl ?_
        exact cut39_ _ _ _ _ h
      · replace h := h.1 c10
        refine WP_aload_n (z := 56) dX6_write_27 rfl ?_
        refine WP_iconst (z := 1) dX6_write_28 rfl ⟨by decide, by decide⟩ ?_
        obtain ⟨Q11, ct13, h⟩ := h
        refine WP_callV (g := mX6_meets) (as := [vI 1]) (rest := []) (n := 1) dX6_write_29 wm_687 mo_X6_meets rfl rfl rfl rfl ⟨Nat.le_of_ble_eq_true rfl, Nat.le_of_ble_eq_true rfl⟩ (Nat.le_of_ble_eq_true rfl) ct13 (fun r_ D14 hq12 hok hD17 => ?_)
        obtain ⟨r15, rfl, hr16⟩ := hok
        replace h := h r15 D14 hq12 hr16 hD17
        show WP mX6_write Q 32 [vR 56, vI a, vI b, vU] [vI r15] D14
        exact WP_ireturn dX6_write_32 rfl h
    · replace h := h.1 c9
      refine WP_bipush (z := (-2)) dX6_write_15 rfl (by decide) ?_
      exact WP_ireturn dX6_write_17 rfl h
set_option maxRecDepth 100000 in
set_option maxHeartbeats 4000000 in
theorem V_X6_sumOf (a : Int) {D : HP} {Q : Option MV → HP → Prop}
    (h0 : cD D → c32 a → (∃ Q1 : Option MV → HP → Prop, CT mX6_runsTold [vR 56] D Q1 ∧ ∀ (D4 : HP), Q1 none D4 → cD D4 → ((((a = 0) → True) ∧ (¬ (a = 0) → (((a = 1) → True) ∧ (¬ (a = 1) → (((a = 2) → True) ∧ (¬ (a = 2) → (oX6_turnedNow D4))))))) ∧ (Q (some (vI (if a = 0 then ((D4 56 3) : Int) else (if a = 1 then ((D4 56 5) : Int) else (if a = 2 then ((D4 56 8) : Int) else (fX6_turnedNow D4)))))) D4))))
    : CT mX6_sumOf [vR 56, vI a] D Q := by
  refine CT.of 0 (by decide) (Nat.le_of_ble_eq_true rfl) ?_
  show WP mX6_sumOf Q 0 [vR 56, vI a] [] D
  refine WP_cD (fun hcD => ?_)
  refine WP_cl (fun hcl => ?_)
  have h := h0 hcD (cVs_g hcl (i := 1) (v := vI a) rfl)
  refine WP_aload_n (z := 56) dX6_sumOf_0 rfl ?_
  obtain ⟨Q1, ct3, h⟩ := h
  refine WP_callV (g := mX6_runsTold) (as := []) (rest := []) (n := 0) dX6_sumOf_1 wm_411 mo_X6_runsTold rfl rfl rfl rfl ⟨Nat.le_of_ble_eq_true rfl, Nat.le_of_ble_eq_true rfl⟩ (Nat.le_of_ble_eq_true rfl) ct3 (fun r_ D4 hq2 hok hD7 => ?_)
  obtain rfl := hok
  replace h := h D4 hq2 hD7
  show WP mX6_sumOf Q 4 [vR 56, vI a] [] D4
  refine WP_iload_n (z := a) dX6_sumOf_4 rfl ?_
  obtain ⟨o8, h⟩ := h
  refine WP_via (pc1 := 43) (ls1 := [vR 56, vI a]) (st1 := [vI (if a = 0 then ((D4 56 3) : Int) else (if a = 1 then ((D4 56 5) : Int) else (if a = 2 then ((D4 56 8) : Int) else (fX6_turnedNow D4))))]) (D1 := D4) (fun hJ9 => ?_) ?_
  · refine WP_if_ne (tgt := 15) dX6_sumOf_5 (by decide) (fun c10 => ?_) (fun c10 => ?_)
    · replace hJ9 := ite_f (P := fun v_ : Int => WP mX6_sumOf Q 43 [vR 56, vI a] [vI v_] D4) hJ9 c10
      have o12 := o8.2 c10
      refine WP_iload_n (z := a) dX6_sumOf_15 rfl ?_
      refine WP_iconst (z := 1) dX6_sumOf_16 rfl ⟨by decide, by decide⟩ ?_
      refine WP_via (pc1 := 43) (ls1 := [vR 56, vI a]) (st1 := [vI (if a = 1 then ((D4 56 5) : Int) else (if a = 2 then ((D4 56 8) : Int) else (fX6_turnedNow D4)))]) (D1 := D4) (fun hJ13 => ?_) ?_
      · refine WP_icmp_ne (tgt := 27) dX6_sumOf_17 (by decide) (fun c14 => ?_) (fun c14 => ?_)
        · replace hJ13 := ite_f (P := fun v_ : Int => WP mX6_sumOf Q 43 [vR 56, vI a] [vI v_] D4) hJ13 c14
          have o16 := o12.2 c14
          refine WP_iload_n (z := a) dX6_sumOf_27 rfl ?_
          refine WP_iconst (z := 2) dX6_sumOf_28 rfl ⟨by decide, by decide⟩ ?_
          refine WP_via (pc1 := 43) (ls1 := [vR 56, vI a]) (st1 := [vI (if a = 2 then ((D4 56 8) : Int) else (fX6_turnedNow D4))]) (D1 := D4) (fun hJ17 => ?_) ?_
          · refine WP_icmp_ne (tgt := 39) dX6_sumOf_29 (by decide) (fun c18 => ?_) (fun c18 => ?_)
            · replace hJ17 := ite_f (P := fun v_ : Int => WP mX6_sumOf Q 43 [vR 56, vI a] [vI v_] D4) hJ17 c18
              have o20 := o16.2 c18
              refine WP_aload_n (z := 56) dX6_sumOf_39 rfl ?_
              refine WP_pcallV (g := mX6_turnedNow) (as := []) (rest := []) (n := 0) (r := vI (fX6_turnedNow D4)) dX6_sumOf_40 wm_825 mo_X6_turnedNow rfl rfl rfl rfl ⟨Nat.le_of_ble_eq_true rfl, Nat.le_of_ble_eq_true rfl⟩ (Nat.le_of_ble_eq_true rfl) (P_X6_turnedNow  o20) ?_
              exact hJ17
            · replace hJ17 := ite_t (P := fun v_ : Int => WP mX6_sumOf Q 43 [vR 56, vI a] [vI v_] D4) hJ17 c18
              have o19 := o16.1 c18
              refine WP_aload_n (z := 56) dX6_sumOf_32 rfl ?_
              refine WP_getI dX6_sumOf_33 fl_RX6_112 rfl rfl rfl ?_
              refine WP_goto (tgt := 43) dX6_sumOf_36 (by decide) ?_
              exact hJ17
          exact hJ13
        · replace hJ13 := ite_t (P := fun v_ : Int => WP mX6_sumOf Q 43 [vR 56, vI a] [vI v_] D4) hJ13 c14
          have o15 := o12.1 c14
          refine WP_aload_n (z := 56) dX6_sumOf_20 rfl ?_
          refine WP_getI dX6_sumOf_21 fl_RX6_101 rfl rfl rfl ?_
          refine WP_goto (tgt := 43) dX6_sumOf_24 (by decide) ?_
          exact hJ13
      exact hJ9
    · replace hJ9 := ite_t (P := fun v_ : Int => WP mX6_sumOf Q 43 [vR 56, vI a] [vI v_] D4) hJ9 c10
      have o11 := o8.1 c10
      refine WP_aload_n (z := 56) dX6_sumOf_8 rfl ?_
      refine WP_getI dX6_sumOf_9 fl_RX6_94 rfl rfl rfl ?_
      refine WP_goto (tgt := 43) dX6_sumOf_12 (by decide) ?_
      exact hJ9
  · exact WP_ireturn dX6_sumOf_43 rfl h
set_option maxRecDepth 100000 in
set_option maxHeartbeats 4000000 in
theorem V_X6_count (a : Int) {D : HP} {Q : Option MV → HP → Prop}
    (h0 : cD D → c32 a → (((a < 0 ∨ 8 < a) → (Q (some (vI (-2))) D)) ∧ (a = 0 → (∃ Q2 : Option MV → HP → Prop, CT mX6_sumOf [vR 56, vI a] D Q2 ∧ ∀ (r6 : Int) (D5 : HP), Q2 (some (vI r6)) D5 → c32 r6 → cD D5 → (Q (some (vI r6)) D5))) ∧ (a = 1 → (∃ Q9 : Option MV → HP → Prop, CT mX6_sumOf [vR 56, vI a] D Q9 ∧ ∀ (r13 : Int) (D12 : HP), Q9 (some (vI r13)) D12 → c32 r13 → cD D12 → (Q (some (vI r13)) D12))) ∧ (a = 2 → (∃ Q16 : Option MV → HP → Prop, CT mX6_sumOf [vR 56, vI a] D Q16 ∧ ∀ (r20 : Int) (D19 : HP), Q16 (some (vI r20)) D19 → c32 r20 → cD D19 → (Q (some (vI r20)) D19))) ∧ (a = 3 → ((c32 (a - 3)) ∧ ((0 ≤ (a - 3) ∧ (a - 3) < 3) ∧ (Q (some (vI (D 57 ((a - 3)).toNat))) D)))) ∧ (a = 4 → ((c32 (a - 3)) ∧ ((0 ≤ (a - 3) ∧ (a - 3) < 3) ∧ (Q (some (vI (D 57 ((a - 3)).toNat))) D)))) ∧ (a = 5 → ((c32 (a - 3)) ∧ ((0 ≤ (a - 3) ∧ (a - 3) < 3) ∧ (Q (some (vI (D 57 ((a - 3)).toNat))) D)))) ∧ (a = 6 → (∃ Q29 : Option MV → HP → Prop, CT mX6_sumOf [vR 56, vI a] D Q29 ∧ ∀ (r33 : Int) (D32 : HP), Q29 (some (vI r33)) D32 → c32 r33 → cD D32 → (Q (some (vI r33)) D32))) ∧ (a = 7 → (Q (some (vI (D 56 17))) D)) ∧ (a = 8 → (Q (some (vI (D 56 28))) D))))
    : CT mX6_count [vR 56, vI a] D Q := by
  refine CT.of 0 (by decide) (Nat.le_of_ble_eq_true rfl) ?_
  show WP mX6_count Q 0 [vR 56, vI a] [] D
  refine WP_cD (fun hcD => ?_)
  refine WP_cl (fun hcl => ?_)
  have h := h0 hcD (cVs_g hcl (i := 1) (v := vI a) rfl)
  refine WP_iload_n (z := a) dX6_count_0 rfl ?_
  rcases (show (a < 0 ∨ 8 < a) ∨ a = 0 ∨ a = 1 ∨ a = 2 ∨ a = 3 ∨ a = 4 ∨ a = 5 ∨ a = 6 ∨ a = 7 ∨ a = 8 from by omega) with q1 | q1 | q1 | q1 | q1 | q1 | q1 | q1 | q1 | q1
  · replace h := h.1 q1
    refine WP_tabOut (tgt := 77) dX6_count_1 q1 (by decide) ?_
    refine WP_bipush (z := (-2)) dX6_count_77 rfl (by decide) ?_
    exact WP_ireturn dX6_count_79 rfl h
  · replace h := h.2.1 q1
    refine WP_tabIn (off := 51) (tgt := 52) dX6_count_1 (by omega) (by omega) (by rw [q1]; rfl) (by decide) ?_
    refine WP_aload_n (z := 56) dX6_count_52 rfl ?_
    refine WP_iload_n (z := a) dX6_count_53 rfl ?_
    obtain ⟨Q2, ct4, h⟩ := h
    refine WP_callV (g := mX6_sumOf) (as := [vI a]) (rest := []) (n := 1) dX6_count_54 wm_925 mo_X6_sumOf rfl rfl rfl rfl ⟨Nat.le_of_ble_eq_true rfl, Nat.le_of_ble_eq_true rfl⟩ (Nat.le_of_ble_eq_true rfl) ct4 (fun r_ D5 hq3 hok hD8 => ?_)
    obtain ⟨r6, rfl, hr7⟩ := hok
    replace h := h r6 D5 hq3 hr7 hD8
    show WP mX6_count Q 57 [vR 56, vI a] [vI r6] D5
    exact WP_ireturn dX6_count_57 rfl h
  · replace h := h.2.2.1 q1
    refine WP_tabIn (off := 51) (tgt := 52) dX6_count_1 (by omega) (by omega) (by rw [q1]; rfl) (by decide) ?_
    refine WP_aload_n (z := 56) dX6_count_52 rfl ?_
    refine WP_iload_n (z := a) dX6_count_53 rfl ?_
    obtain ⟨Q9, ct11, h⟩ := h
    refine WP_callV (g := mX6_sumOf) (as := [vI a]) (rest := []) (n := 1) dX6_count_54 wm_925 mo_X6_sumOf rfl rfl rfl rfl ⟨Nat.le_of_ble_eq_true rfl, Nat.le_of_ble_eq_true rfl⟩ (Nat.le_of_ble_eq_true rfl) ct11 (fun r_ D12 hq10 hok hD15 => ?_)
    obtain ⟨r13, rfl, hr14⟩ := hok
    replace h := h r13 D12 hq10 hr14 hD15
    show WP mX6_count Q 57 [vR 56, vI a] [vI r13] D12
    exact WP_ireturn dX6_count_57 rfl h
  · replace h := h.2.2.2.1 q1
    refine WP_tabIn (off := 51) (tgt := 52) dX6_count_1 (by omega) (by omega) (by rw [q1]; rfl) (by decide) ?_
    refine WP_aload_n (z := 56) dX6_count_52 rfl ?_
    refine WP_iload_n (z := a) dX6_count_53 rfl ?_
    obtain ⟨Q16, ct18, h⟩ := h
    refine WP_callV (g := mX6_sumOf) (as := [vI a]) (rest := []) (n := 1) dX6_count_54 wm_925 mo_X6_sumOf rfl rfl rfl rfl ⟨Nat.le_of_ble_eq_true rfl, Nat.le_of_ble_eq_true rfl⟩ (Nat.le_of_ble_eq_true rfl) ct18 (fun r_ D19 hq17 hok hD22 => ?_)
    obtain ⟨r20, rfl, hr21⟩ := hok
    replace h := h r20 D19 hq17 hr21 hD22
    show WP mX6_count Q 57 [vR 56, vI a] [vI r20] D19
    exact WP_ireturn dX6_count_57 rfl h
  · replace h := h.2.2.2.2.1 q1
    refine WP_tabIn (off := 57) (tgt := 58) dX6_count_1 (by omega) (by omega) (by rw [q1]; rfl) (by decide) ?_
    refine WP_aload_n (z := 56) dX6_count_58 rfl ?_
    refine WP_getR (z := 57) dX6_count_59 fl_RX6_7 rfl rfl rfl ?_
    refine WP_iload_n (z := a) dX6_count_62 rfl ?_
    refine WP_iconst (z := 3) dX6_count_63 rfl ⟨by decide, by decide⟩ ?_
    obtain ⟨o24, h⟩ := h
    refine WP_isub (z := (a - 3)) dX6_count_64 (w32_id o24) ?_
    obtain ⟨o23, h⟩ := h
    refine WP_iald dX6_count_65 rfl o23.1 o23.2 rfl ?_
    exact WP_ireturn dX6_count_66 rfl h
  · replace h := h.2.2.2.2.2.1 q1
    refine WP_tabIn (off := 57) (tgt := 58) dX6_count_1 (by omega) (by omega) (by rw [q1]; rfl) (by decide) ?_
    refine WP_aload_n (z := 56) dX6_count_58 rfl ?_
    refine WP_getR (z := 57) dX6_count_59 fl_RX6_7 rfl rfl rfl ?_
    refine WP_iload_n (z := a) dX6_count_62 rfl ?_
    refine WP_iconst (z := 3) dX6_count_63 rfl ⟨by decide, by decide⟩ ?_
    obtain ⟨o26, h⟩ := h
    refine WP_isub (z := (a - 3)) dX6_count_64 (w32_id o26) ?_
    obtain ⟨o25, h⟩ := h
    refine WP_iald dX6_count_65 rfl o25.1 o25.2 rfl ?_
    exact WP_ireturn dX6_count_66 rfl h
  · replace h := h.2.2.2.2.2.2.1 q1
    refine WP_tabIn (off := 57) (tgt := 58) dX6_count_1 (by omega) (by omega) (by rw [q1]; rfl) (by decide) ?_
    refine WP_aload_n (z := 56) dX6_count_58 rfl ?_
    refine WP_getR (z := 57) dX6_count_59 fl_RX6_7 rfl rfl rfl ?_
    refine WP_iload_n (z := a) dX6_count_62 rfl ?_
    refine WP_iconst (z := 3) dX6_count_63 rfl ⟨by decide, by decide⟩ ?_
    obtain ⟨o28, h⟩ := h
    refine WP_isub (z := (a - 3)) dX6_count_64 (w32_id o28) ?_
    obtain ⟨o27, h⟩ := h
    refine WP_iald dX6_count_65 rfl o27.1 o27.2 rfl ?_
    exact WP_ireturn dX6_count_66 rfl h
  · replace h := h.2.2.2.2.2.2.2.1 q1
    refine WP_tabIn (off := 51) (tgt := 52) dX6_count_1 (by omega) (by omega) (by rw [q1]; rfl) (by decide) ?_
    refine WP_aload_n (z := 56) dX6_count_52 rfl ?_
    refine WP_iload_n (z := a) dX6_count_53 rfl ?_
    obtain ⟨Q29, ct31, h⟩ := h
    refine WP_callV (g := mX6_sumOf) (as := [vI a]) (rest := []) (n := 1) dX6_count_54 wm_925 mo_X6_sumOf rfl rfl rfl rfl ⟨Nat.le_of_ble_eq_true rfl, Nat.le_of_ble_eq_true rfl⟩ (Nat.le_of_ble_eq_true rfl) ct31 (fun r_ D32 hq30 hok hD35 => ?_)
    obtain ⟨r33, rfl, hr34⟩ := hok
    replace h := h r33 D32 hq30 hr34 hD35
    show WP mX6_count Q 57 [vR 56, vI a] [vI r33] D32
    exact WP_ireturn dX6_count_57 rfl h
  · replace h := h.2.2.2.2.2.2.2.2.1 q1
    refine WP_tabIn (off := 66) (tgt := 67) dX6_count_1 (by omega) (by omega) (by rw [q1]; rfl) (by decide) ?_
    refine WP_aload_n (z := 56) dX6_count_67 rfl ?_
    refine WP_getI dX6_count_68 fl_RX6_217 rfl rfl rfl ?_
    exact WP_ireturn dX6_count_71 rfl h
  · replace h := h.2.2.2.2.2.2.2.2.2 q1
    refine WP_tabIn (off := 71) (tgt := 72) dX6_count_1 (by omega) (by omega) (by rw [q1]; rfl) (by decide) ?_
    refine WP_aload_n (z := 56) dX6_count_72 rfl ?_
    refine WP_getI dX6_count_73 fl_RX6_268 rfl rfl rfl ?_
    exact WP_ireturn dX6_count_76 rfl h
set_option maxRecDepth 100000 in
set_option maxHeartbeats 4000000 in
theorem V_X6_minuteDigest (a : Int) (b : Int) {D : HP} {Q : Option MV → HP → Prop} (I96 : Int → Int → Int → Int → HP → Prop) (u96 : Int → Int → Int → Int → HP → Nat) (I131 : Int → Int → Int → Int → HP → Prop) (u131 : Int → Int → Int → Int → HP → Nat)
    (h0 : cD D → c64 a → c32 b → ((0 ≤ b ∧ b < 12) ∧ ((0 ≤ b ∧ b < 12) ∧ (∀ (v1 : Int), v1 = (w64 ((w64 (31 * (w64 ((w64 (31 * a)) + (D 60 b.toNat))))) + (D 61 b.toNat))) → (∃ Q3 : Option MV → HP → Prop, CT mX6_inOf [vR 56, vI b] D Q3 ∧ ∀ (r7 : Int) (D6 : HP), Q3 (some (vI r7)) D6 → c32 r7 → cD D6 → (∃ Q10 : Option MV → HP → Prop, CT mX6_askOf [vR 56, vI b] D6 Q10 ∧ ∀ (r14 : Int) (D13 : HP), Q10 (some (vI r14)) D13 → c32 r14 → cD D13 → (∀ (v17 : Int), v17 = (w64 ((w64 (31 * (w64 ((w64 (31 * v1)) + r7)))) + r14)) → (∃ Q19 : Option MV → HP → Prop, CT mX6_blewOf [vR 56, vI b, vI (-1)] D13 Q19 ∧ ∀ (r23 : Int) (D22 : HP), Q19 (some (vI r23)) D22 → c32 r23 → cD D22 → (∃ Q26 : Option MV → HP → Prop, CT mX6_blewOf [vR 56, vI b, vI 0] D22 Q26 ∧ ∀ (r30 : Int) (D29 : HP), Q26 (some (vI r30)) D29 → c32 r30 → cD D29 → (∀ (v33 : Int), v33 = (w64 ((w64 (31 * (w64 ((w64 (31 * v17)) + r23)))) + r30)) → (I96 a b v33 0 D29)))))))))))
    (h96 : ∀ (x1 x3 x4 x6 : Int) (D : HP), I96 x1 x3 x4 x6 D → cD D → c64 x1 → c32 x3 → c64 x4 → c32 x6 → (((D 56 3) ≤ x6 → (I131 x1 x3 x4 0 D ∧ u131 x1 x3 x4 0 D ≤ u96 x1 x3 x4 x6 D)) ∧ (¬ ((D 56 3) ≤ x6) → (∃ Q38 : Option MV → HP → Prop, CT mX6_windOf [vR 56, vI x3, vI x6] D Q38 ∧ ∀ (r42 : Int) (D41 : HP), Q38 (some (vI r42)) D41 → c32 r42 → cD D41 → ((c32 (x6 + 1)) ∧ (I96 x1 x3 (w64 ((w64 (31 * x4)) + r42)) (x6 + 1) D41 ∧ u96 x1 x3 (w64 ((w64 (31 * x4)) + r42)) (x6 + 1) D41 < u96 x1 x3 x4 x6 D))))))
    (h131 : ∀ (x1 x3 x4 x6 : Int) (D : HP), I131 x1 x3 x4 x6 D → cD D → c64 x1 → c32 x3 → c64 x4 → c32 x6 → (((D 56 8) ≤ x6 → (Q (some (vL x4)) D)) ∧ (¬ ((D 56 8) ≤ x6) → (∃ Q47 : Option MV → HP → Prop, CT mX6_ribsOf [vR 56, vI x3, vI x6] D Q47 ∧ ∀ (r51 : Int) (D50 : HP), Q47 (some (vI r51)) D50 → c32 r51 → cD D50 → ((c32 (x6 + 1)) ∧ (I131 x1 x3 (w64 ((w64 (31 * x4)) + r51)) (x6 + 1) D50 ∧ u131 x1 x3 (w64 ((w64 (31 * x4)) + r51)) (x6 + 1) D50 < u131 x1 x3 x4 x6 D))))))
    : CT mX6_minuteDigest [vR 56, vL a, vI b] D Q := by
  refine CT.of 3 (by decide) (Nat.le_of_ble_eq_true rfl) ?_
  show WP mX6_minuteDigest Q 0 [vR 56, vL a, vU, vI b, vU, vU, vU] [] D
  have IH : ∀ n : Nat, (∀ (x1 x3 x4 x6 : Int) (D : HP), I96 x1 x3 x4 x6 D → u96 x1 x3 x4 x6 D * 2 + 1 < n → WP mX6_minuteDigest Q 96 [vR 56, vL x1, vU, vI x3, vL x4, vU, vI x6] [] D) ∧ (∀ (x1 x3 x4 x6 : Int) (D : HP), I131 x1 x3 x4 x6 D → u131 x1 x3 x4 x6 D * 2 + 0 < n → WP mX6_minuteDigest Q 131 [vR 56, vL x1, vU, vI x3, vL x4, vU, vI x6] [] D) := by
    intro n
    induction n with
    | zero => exact ⟨fun _ _ _ _ _ _ h => absurd h (Nat.not_lt_zero _), fun _ _ _ _ _ _ h => absurd h (Nat.not_lt_zero _)⟩
    | succ n ih =>
      have ih96_ := ih.1
      have ih131_ := ih.2
      refine ⟨?_, ?_⟩
      · intro x1 x3 x4 x6 D hI hn
        refine WP_cD (fun hcD => ?_)
        refine WP_cl (fun hcl => ?_)
        have h := h96 x1 x3 x4 x6 D hI hcD (cVs_g hcl (i := 1) (v := vL x1) rfl) (cVs_g hcl (i := 3) (v := vI x3) rfl) (cVs_g hcl (i := 4) (v := vL x4) rfl) (cVs_g hcl (i := 6) (v := vI x6) rfl)
        refine WP_iload (z := x6) dX6_minuteDigest_96 rfl ?_
        refine WP_aload_n (z := 56) dX6_minuteDigest_98 rfl ?_
        refine WP_getI dX6_minuteDigest_99 fl_RX6_94 rfl rfl rfl ?_
        refine WP_icmp_ge (tgt := 128) dX6_minuteDigest_102 (by decide) (fun c37 => ?_) (fun c37 => ?_)
        · replace h := h.1 c37
          refine WP_iconst (z := 0) dX6_minuteDigest_128 rfl ⟨by decide, by decide⟩ ?_
          refine WP_istore (ls1 := [vR 56, vL x1, vU, vI x3, vL x4, vU, vI 0]) dX6_minuteDigest_129 (by decide) rfl ?_
          exact ih131_ _ _ _ _ _ h.1 (by have := h.2; omega)
        · replace h := h.2 c37
          refine WP_ldc2 (z := 31) wm_968 dX6_minuteDigest_105 (by decide +kernel) ?_
          refine WP_lload (z := x4) dX6_minuteDigest_108 rfl ?_
          refine WP_lmul dX6_minuteDigest_110 rfl ?_
          refine WP_aload_n (z := 56) dX6_minuteDigest_111 rfl ?_
          refine WP_iload_n (z := x3) dX6_minuteDigest_112 rfl ?_
          refine WP_iload (z := x6) dX6_minuteDigest_113 rfl ?_
          obtain ⟨Q38, ct40, h⟩ := h
          refine WP_callV (g := mX6_windOf) (as := [vI x3, vI x6]) (rest := [vL (w64 (31 * x4))]) (n := 2) dX6_minuteDigest_115 wm_407 mo_X6_windOf rfl rfl rfl rfl ⟨Nat.le_of_ble_eq_true rfl, Nat.le_of_ble_eq_true rfl⟩ (Nat.le_of_ble_eq_true rfl) ct40 (fun r_ D41 hq39 hok hD44 => ?_)
          obtain ⟨r42, rfl, hr43⟩ := hok
          replace h := h r42 D41 hq39 hr43 hD44
          show WP mX6_minuteDigest Q 118 [vR 56, vL x1, vU, vI x3, vL x4, vU, vI x6] [vI r42, vL (w64 (31 * x4))] D41
          refine WP_i2l dX6_minuteDigest_118 ?_
          refine WP_ladd dX6_minuteDigest_119 rfl ?_
          refine WP_lstore (ls1 := [vR 56, vL x1, vU, vI x3, vL (w64 ((w64 (31 * x4)) + r42)), vU, vI x6]) dX6_minuteDigest_120 (by decide) rfl ?_
          obtain ⟨o45, h⟩ := h
          refine WP_iinc (z := (x6 + 1)) (ls1 := [vR 56, vL x1, vU, vI x3, vL (w64 ((w64 (31 * x4)) + r42)), vU, vI (x6 + 1)]) dX6_minuteDigest_122 rfl (w32_id o45) (by decide) rfl ?_
          refine WP_goto (tgt := 96) dX6_minuteDigest_125 (by decide) ?_
          exact ih96_ _ _ _ _ _ h.1 (by have := h.2; omega)
      · intro x1 x3 x4 x6 D hI hn
        refine WP_cD (fun hcD => ?_)
        refine WP_cl (fun hcl => ?_)
        have h := h131 x1 x3 x4 x6 D hI hcD (cVs_g hcl (i := 1) (v := vL x1) rfl) (cVs_g hcl (i := 3) (v := vI x3) rfl) (cVs_g hcl (i := 4) (v := vL x4) rfl) (cVs_g hcl (i := 6) (v := vI x6) rfl)
        refine WP_iload (z := x6) dX6_minuteDigest_131 rfl ?_
        refine WP_aload_n (z := 56) dX6_minuteDigest_133 rfl ?_
        refine WP_getI dX6_minuteDigest_134 fl_RX6_112 rfl rfl rfl ?_
        refine WP_icmp_ge (tgt := 163) dX6_minuteDigest_137 (by decide) (fun c46 => ?_) (fun c46 => ?_)
        · replace h := h.1 c46
          refine WP_lload (z := x4) dX6_minuteDigest_163 rfl ?_
          exact WP_lreturn dX6_minuteDigest_165 rfl h
        · replace h := h.2 c46
          refine WP_ldc2 (z := 31) wm_968 dX6_minuteDigest_140 (by decide +kernel) ?_
          refine WP_lload (z := x4) dX6_minuteDigest_143 rfl ?_
          refine WP_lmul dX6_minuteDigest_145 rfl ?_
          refine WP_aload_n (z := 56) dX6_minuteDigest_146 rfl ?_
          refine WP_iload_n (z := x3) dX6_minuteDigest_147 rfl ?_
          refine WP_iload (z := x6) dX6_minuteDigest_148 rfl ?_
          obtain ⟨Q47, ct49, h⟩ := h
          refine WP_callV (g := mX6_ribsOf) (as := [vI x3, vI x6]) (rest := [vL (w64 (31 * x4))]) (n := 2) dX6_minuteDigest_150 wm_459 mo_X6_ribsOf rfl rfl rfl rfl ⟨Nat.le_of_ble_eq_true rfl, Nat.le_of_ble_eq_true rfl⟩ (Nat.le_of_ble_eq_true rfl) ct49 (fun r_ D50 hq48 hok hD53 => ?_)
          obtain ⟨r51, rfl, hr52⟩ := hok
          replace h := h r51 D50 hq48 hr52 hD53
          show WP mX6_minuteDigest Q 153 [vR 56, vL x1, vU, vI x3, vL x4, vU, vI x6] [vI r51, vL (w64 (31 * x4))] D50
          refine WP_i2l dX6_minuteDigest_153 ?_
          refine WP_ladd dX6_minuteDigest_154 rfl ?_
          refine WP_lstore (ls1 := [vR 56, vL x1, vU, vI x3, vL (w64 ((w64 (31 * x4)) + r51)), vU, vI x6]) dX6_minuteDigest_155 (by decide) rfl ?_
          obtain ⟨o54, h⟩ := h
          refine WP_iinc (z := (x6 + 1)) (ls1 := [vR 56, vL x1, vU, vI x3, vL (w64 ((w64 (31 * x4)) + r51)), vU, vI (x6 + 1)]) dX6_minuteDigest_157 rfl (w32_id o54) (by decide) rfl ?_
          refine WP_goto (tgt := 131) dX6_minuteDigest_160 (by decide) ?_
          exact ih131_ _ _ _ _ _ h.1 (by have := h.2; omega)
  have cut96_ : ∀ (x1 x3 x4 x6 : Int) (D : HP), I96 x1 x3 x4 x6 D → WP mX6_minuteDigest Q 96 [vR 56, vL x1, vU, vI x3, vL x4, vU, vI x6] [] D := fun x1 x3 x4 x6 D hI => (IH (u96 x1 x3 x4 x6 D * 2 + 1 + 1)).1 x1 x3 x4 x6 D hI (by omega)
  have cut131_ : ∀ (x1 x3 x4 x6 : Int) (D : HP), I131 x1 x3 x4 x6 D → WP mX6_minuteDigest Q 131 [vR 56, vL x1, vU, vI x3, vL x4, vU, vI x6] [] D := fun x1 x3 x4 x6 D hI => (IH (u131 x1 x3 x4 x6 D * 2 + 0 + 1)).2 x1 x3 x4 x6 D hI (by omega)
  refine WP_cD (fun hcD => ?_)
  refine WP_cl (fun hcl => ?_)
  have h := h0 hcD (cVs_g hcl (i := 1) (v := vL a) rfl) (cVs_g hcl (i := 3) (v := vI b) rfl)
  refine WP_ldc2 (z := 31) wm_968 dX6_minuteDigest_0 (by decide +kernel) ?_
  refine WP_lload_n (z := a) dX6_minuteDigest_3 rfl ?_
  refine WP_lmul dX6_minuteDigest_4 rfl ?_
  refine WP_aload_n (z := 56) dX6_minuteDigest_5 rfl ?_
  refine WP_getR (z := 60) dX6_minuteDigest_6 fl_RX6_20 rfl rfl rfl ?_
  refine WP_iload_n (z := b) dX6_minuteDigest_9 rfl ?_
  obtain ⟨o36, h⟩ := h
  refine WP_iald dX6_minuteDigest_10 rfl o36.1 o36.2 rfl ?_
  refine WP_i2l dX6_minuteDigest_11 ?_
  refine WP_ladd dX6_minuteDigest_12 rfl ?_
  refine WP_lstore (ls1 := [vR 56, vL a, vU, vI b, vL (w64 ((w64 (31 * a)) + (D 60 b.toNat))), vU, vU]) dX6_minuteDigest_13 (by decide) rfl ?_
  refine WP_ldc2 (z := 31) wm_968 dX6_minuteDigest_15 (by decide +kernel) ?_
  refine WP_lload (z := (w64 ((w64 (31 * a)) + (D 60 b.toNat)))) dX6_minuteDigest_18 rfl ?_
  refine WP_lmul dX6_minuteDigest_20 rfl ?_
  refine WP_aload_n (z := 56) dX6_minuteDigest_21 rfl ?_
  refine WP_getR (z := 61) dX6_minuteDigest_22 fl_RX6_23 rfl rfl rfl ?_
  refine WP_iload_n (z := b) dX6_minuteDigest_25 rfl ?_
  obtain ⟨o35, h⟩ := h
  refine WP_iald dX6_minuteDigest_26 rfl o35.1 o35.2 rfl ?_
  refine WP_i2l dX6_minuteDigest_27 ?_
  refine WP_ladd dX6_minuteDigest_28 rfl ?_
  refine WP_lstore (ls1 := [vR 56, vL a, vU, vI b, vL (w64 ((w64 (31 * (w64 ((w64 (31 * a)) + (D 60 b.toNat))))) + (D 61 b.toNat))), vU, vU]) dX6_minuteDigest_29 (by decide) rfl ?_
  obtain ⟨v1, hv2⟩ : ∃ v1 : Int, v1 = (w64 ((w64 (31 * (w64 ((w64 (31 * a)) + (D 60 b.toNat))))) + (D 61 b.toNat))) := ⟨_, rfl⟩
  replace h := h v1 hv2
  rw [← hv2]
  refine WP_ldc2 (z := 31) wm_968 dX6_minuteDigest_31 (by decide +kernel) ?_
  refine WP_lload (z := v1) dX6_minuteDigest_34 rfl ?_
  refine WP_lmul dX6_minuteDigest_36 rfl ?_
  refine WP_aload_n (z := 56) dX6_minuteDigest_37 rfl ?_
  refine WP_iload_n (z := b) dX6_minuteDigest_38 rfl ?_
  obtain ⟨Q3, ct5, h⟩ := h
  refine WP_callV (g := mX6_inOf) (as := [vI b]) (rest := [vL (w64 (31 * v1))]) (n := 1) dX6_minuteDigest_39 wm_505 mo_X6_inOf rfl rfl rfl rfl ⟨Nat.le_of_ble_eq_true rfl, Nat.le_of_ble_eq_true rfl⟩ (Nat.le_of_ble_eq_true rfl) ct5 (fun r_ D6 hq4 hok hD9 => ?_)
  obtain ⟨r7, rfl, hr8⟩ := hok
  replace h := h r7 D6 hq4 hr8 hD9
  show WP mX6_minuteDigest Q 42 [vR 56, vL a, vU, vI b, vL v1, vU, vU] [vI r7, vL (w64 (31 * v1))] D6
  refine WP_i2l dX6_minuteDigest_42 ?_
  refine WP_ladd dX6_minuteDigest_43 rfl ?_
  refine WP_lstore (ls1 := [vR 56, vL a, vU, vI b, vL (w64 ((w64 (31 * v1)) + r7)), vU, vU]) dX6_minuteDigest_44 (by decide) rfl ?_
  refine WP_ldc2 (z := 31) wm_968 dX6_minuteDigest_46 (by decide +kernel) ?_
  refine WP_lload (z := (w64 ((w64 (31 * v1)) + r7))) dX6_minuteDigest_49 rfl ?_
  refine WP_lmul dX6_minuteDigest_51 rfl ?_
  refine WP_aload_n (z := 56) dX6_minuteDigest_52 rfl ?_
  refine WP_iload_n (z := b) dX6_minuteDigest_53 rfl ?_
  obtain ⟨Q10, ct12, h⟩ := h
  refine WP_callV (g := mX6_askOf) (as := [vI b]) (rest := [vL (w64 (31 * (w64 ((w64 (31 * v1)) + r7))))]) (n := 1) dX6_minuteDigest_54 wm_756 mo_X6_askOf rfl rfl rfl rfl ⟨Nat.le_of_ble_eq_true rfl, Nat.le_of_ble_eq_true rfl⟩ (Nat.le_of_ble_eq_true rfl) ct12 (fun r_ D13 hq11 hok hD16 => ?_)
  obtain ⟨r14, rfl, hr15⟩ := hok
  replace h := h r14 D13 hq11 hr15 hD16
  show WP mX6_minuteDigest Q 57 [vR 56, vL a, vU, vI b, vL (w64 ((w64 (31 * v1)) + r7)), vU, vU] [vI r14, vL (w64 (31 * (w64 ((w64 (31 * v1)) + r7))))] D13
  refine WP_i2l dX6_minuteDigest_57 ?_
  refine WP_ladd dX6_minuteDigest_58 rfl ?_
  refine WP_lstore (ls1 := [vR 56, vL a, vU, vI b, vL (w64 ((w64 (31 * (w64 ((w64 (31 * v1)) + r7)))) + r14)), vU, vU]) dX6_minuteDigest_59 (by decide) rfl ?_
  obtain ⟨v17, hv18⟩ : ∃ v17 : Int, v17 = (w64 ((w64 (31 * (w64 ((w64 (31 * v1)) + r7)))) + r14)) := ⟨_, rfl⟩
  replace h := h v17 hv18
  rw [← hv18]
  refine WP_ldc2 (z := 31) wm_968 dX6_minuteDigest_61 (by decide +kernel) ?_
  refine WP_lload (z := v17) dX6_minuteDigest_64 rfl ?_
  refine WP_lmul dX6_minuteDigest_66 rfl ?_
  refine WP_aload_n (z := 56) dX6_minuteDigest_67 rfl ?_
  refine WP_iload_n (z := b) dX6_minuteDigest_68 rfl ?_
  refine WP_iconst (z := (-1)) dX6_minuteDigest_69 rfl ⟨by decide, by decide⟩ ?_
  obtain ⟨Q19, ct21, h⟩ := h
  refine WP_callV (g := mX6_blewOf) (as := [vI b, vI (-1)]) (rest := [vL (w64 (31 * v17))]) (n := 2) dX6_minuteDigest_70 wm_719 mo_X6_blewOf rfl rfl rfl rfl ⟨Nat.le_of_ble_eq_true rfl, Nat.le_of_ble_eq_true rfl⟩ (Nat.le_of_ble_eq_true rfl) ct21 (fun r_ D22 hq20 hok hD25 => ?_)
  obtain ⟨r23, rfl, hr24⟩ := hok
  replace h := h r23 D22 hq20 hr24 hD25
  show WP mX6_minuteDigest Q 73 [vR 56, vL a, vU, vI b, vL v17, vU, vU] [vI r23, vL (w64 (31 * v17))] D22
  refine WP_i2l dX6_minuteDigest_73 ?_
  refine WP_ladd dX6_minuteDigest_74 rfl ?_
  refine WP_lstore (ls1 := [vR 56, vL a, vU, vI b, vL (w64 ((w64 (31 * v17)) + r23)), vU, vU]) dX6_minuteDigest_75 (by decide) rfl ?_
  refine WP_ldc2 (z := 31) wm_968 dX6_minuteDigest_77 (by decide +kernel) ?_
  refine WP_lload (z := (w64 ((w64 (31 * v17)) + r23))) dX6_minuteDigest_80 rfl ?_
  refine WP_lmul dX6_minuteDigest_82 rfl ?_
  refine WP_aload_n (z := 56) dX6_minuteDigest_83 rfl ?_
  refine WP_iload_n (z := b) dX6_minuteDigest_84 rfl ?_
  refine WP_iconst (z := 0) dX6_minuteDigest_85 rfl ⟨by decide, by decide⟩ ?_
  obtain ⟨Q26, ct28, h⟩ := h
  refine WP_callV (g := mX6_blewOf) (as := [vI b, vI 0]) (rest := [vL (w64 (31 * (w64 ((w64 (31 * v17)) + r23))))]) (n := 2) dX6_minuteDigest_86 wm_719 mo_X6_blewOf rfl rfl rfl rfl ⟨Nat.le_of_ble_eq_true rfl, Nat.le_of_ble_eq_true rfl⟩ (Nat.le_of_ble_eq_true rfl) ct28 (fun r_ D29 hq27 hok hD32 => ?_)
  obtain ⟨r30, rfl, hr31⟩ := hok
  replace h := h r30 D29 hq27 hr31 hD32
  show WP mX6_minuteDigest Q 89 [vR 56, vL a, vU, vI b, vL (w64 ((w64 (31 * v17)) + r23)), vU, vU] [vI r30, vL (w64 (31 * (w64 ((w64 (31 * v17)) + r23))))] D29
  refine WP_i2l dX6_minuteDigest_89 ?_
  refine WP_ladd dX6_minuteDigest_90 rfl ?_
  refine WP_lstore (ls1 := [vR 56, vL a, vU, vI b, vL (w64 ((w64 (31 * (w64 ((w64 (31 * v17)) + r23)))) + r30)), vU, vU]) dX6_minuteDigest_91 (by decide) rfl ?_
  obtain ⟨v33, hv34⟩ : ∃ v33 : Int, v33 = (w64 ((w64 (31 * (w64 ((w64 (31 * v17)) + r23)))) + r30)) := ⟨_, rfl⟩
  replace h := h v33 hv34
  rw [← hv34]
  refine WP_iconst (z := 0) dX6_minuteDigest_93 rfl ⟨by decide, by decide⟩ ?_
  refine WP_istore (ls1 := [vR 56, vL a, vU, vI b, vL v33, vU, vI 0]) dX6_minuteDigest_94 (by decide) rfl ?_
  exact cut96_ _ _ _ _ _ h
set_option maxRecDepth 100000 in
set_option maxHeartbeats 4000000 in
theorem V_X6_candidateDigest (a : Int) (b : Int) {D : HP} {Q : Option MV → HP → Prop} (I6 : Int → Int → Int → Int → HP → Prop) (u6 : Int → Int → Int → Int → HP → Nat) (I38 : Int → Int → Int → Int → HP → Prop) (u38 : Int → Int → Int → Int → HP → Nat)
    (h0 : cD D → c64 a → c32 b → (I6 a b a 0 D))
    (h6 : ∀ (x1 x3 x4 x6 : Int) (D : HP), I6 x1 x3 x4 x6 D → cD D → c64 x1 → c32 x3 → c64 x4 → c32 x6 → ((4 ≤ x6 → (I38 x1 x3 x4 0 D ∧ u38 x1 x3 x4 0 D ≤ u6 x1 x3 x4 x6 D)) ∧ (¬ (4 ≤ x6) → ((oX6_candidateOf D x3 x6) ∧ (∀ (v2 : Int), v2 = (w64 ((w64 (31 * x4)) + (fX6_candidateOf D x3 x6))) → ((c32 (x6 + 1)) ∧ (I6 x1 x3 v2 (x6 + 1) D ∧ u6 x1 x3 v2 (x6 + 1) D < u6 x1 x3 x4 x6 D)))))))
    (h38 : ∀ (x1 x3 x4 x6 : Int) (D : HP), I38 x1 x3 x4 x6 D → cD D → c64 x1 → c32 x3 → c64 x4 → c32 x6 → ((4 ≤ x6 → (∃ Q7 : Option MV → HP → Prop, CT mX6_standOf [vR 56, vI x3, vI 0] D Q7 ∧ ∀ (r11 : Int) (D10 : HP), Q7 (some (vI r11)) D10 → c32 r11 → cD D10 → (∃ Q14 : Option MV → HP → Prop, CT mX6_standOf [vR 56, vI x3, vI 1] D10 Q14 ∧ ∀ (r18 : Int) (D17 : HP), Q14 (some (vI r18)) D17 → c32 r18 → cD D17 → (∀ (v21 : Int), v21 = (w64 ((w64 (31 * (w64 ((w64 (31 * x4)) + r11)))) + r18)) → (∃ Q23 : Option MV → HP → Prop, CT mX6_shieldOf [vR 56, vI x3] D17 Q23 ∧ ∀ (r27 : Int) (D26 : HP), Q23 (some (vI r27)) D26 → c32 r27 → cD D26 → (∃ Q30 : Option MV → HP → Prop, CT mX6_bribeOf [vR 56, vI x3] D26 Q30 ∧ ∀ (r34 : Int) (D33 : HP), Q30 (some (vI r34)) D33 → c32 r34 → cD D33 → (∀ (v37 : Int), v37 = (w64 ((w64 (31 * (w64 ((w64 (31 * v21)) + r27)))) + r34)) → (∃ Q39 : Option MV → HP → Prop, CT mX6_hadOf [vR 56, vI x3] D33 Q39 ∧ ∀ (r43 : Int) (D42 : HP), Q39 (some (vI r43)) D42 → c32 r43 → cD D42 → (∃ Q46 : Option MV → HP → Prop, CT mX6_calmOf [vR 56, vI 5, vI x3, vI 0] D42 Q46 ∧ ∀ (r50 : Int) (D49 : HP), Q46 (some (vL r50)) D49 → c64 r50 → cD D49 → (∀ (v53 : Int), v53 = (w64 ((w64 (31 * (w64 ((w64 (31 * v37)) + r43)))) + r50)) → (∃ Q55 : Option MV → HP → Prop, CT mX6_calmOf [vR 56, vI 5, vI x3, vI 1] D49 Q55 ∧ ∀ (r59 : Int) (D58 : HP), Q55 (some (vL r59)) D58 → c64 r59 → cD D58 → (∃ Q62 : Option MV → HP → Prop, CT mX6_reads [vR 56] D58 Q62 ∧ ∀ (D65 : HP), Q62 none D65 → cD D65 → (Q (some (vL (w64 ((w64 (31 * v53)) + r59)))) D65))))))))))))) ∧ (¬ (4 ≤ x6) → (∃ Q69 : Option MV → HP → Prop, CT mX6_turnsOf [vR 56, vI x3, vI x6] D Q69 ∧ ∀ (r73 : Int) (D72 : HP), Q69 (some (vI r73)) D72 → c32 r73 → cD D72 → ((c32 (x6 + 1)) ∧ (I38 x1 x3 (w64 ((w64 (31 * x4)) + r73)) (x6 + 1) D72 ∧ u38 x1 x3 (w64 ((w64 (31 * x4)) + r73)) (x6 + 1) D72 < u38 x1 x3 x4 x6 D))))))
    : CT mX6_candidateDigest [vR 56, vL a, vI b] D Q := by
  refine CT.of 3 (by decide) (Nat.le_of_ble_eq_true rfl) ?_
  show WP mX6_candidateDigest Q 0 [vR 56, vL a, vU, vI b, vU, vU, vU] [] D
  have IH : ∀ n : Nat, (∀ (x1 x3 x4 x6 : Int) (D : HP), I6 x1 x3 x4 x6 D → u6 x1 x3 x4 x6 D * 2 + 1 < n → WP mX6_candidateDigest Q 6 [vR 56, vL x1, vU, vI x3, vL x4, vU, vI x6] [] D) ∧ (∀ (x1 x3 x4 x6 : Int) (D : HP), I38 x1 x3 x4 x6 D → u38 x1 x3 x4 x6 D * 2 + 0 < n → WP mX6_candidateDigest Q 38 [vR 56, vL x1, vU, vI x3, vL x4, vU, vI x6] [] D) := by
    intro n
    induction n with
    | zero => exact ⟨fun _ _ _ _ _ _ h => absurd h (Nat.not_lt_zero _), fun _ _ _ _ _ _ h => absurd h (Nat.not_lt_zero _)⟩
    | succ n ih =>
      have ih6_ := ih.1
      have ih38_ := ih.2
      refine ⟨?_, ?_⟩
      · intro x1 x3 x4 x6 D hI hn
        refine WP_cD (fun hcD => ?_)
        refine WP_cl (fun hcl => ?_)
        have h := h6 x1 x3 x4 x6 D hI hcD (cVs_g hcl (i := 1) (v := vL x1) rfl) (cVs_g hcl (i := 3) (v := vI x3) rfl) (cVs_g hcl (i := 4) (v := vL x4) rfl) (cVs_g hcl (i := 6) (v := vI x6) rfl)
        refine WP_iload (z := x6) dX6_candidateDigest_6 rfl ?_
        refine WP_iconst (z := 4) dX6_candidateDigest_8 rfl ⟨by decide, by decide⟩ ?_
        refine WP_icmp_ge (tgt := 35) dX6_candidateDigest_9 (by decide) (fun c1 => ?_) (fun c1 => ?_)
        · replace h := h.1 c1
          refine WP_iconst (z := 0) dX6_candidateDigest_35 rfl ⟨by decide, by decide⟩ ?_
          refine WP_istore (ls1 := [vR 56, vL x1, vU, vI x3, vL x4, vU, vI 0]) dX6_candidateDigest_36 (by decide) rfl ?_
          exact ih38_ _ _ _ _ _ h.1 (by have := h.2; omega)
        · replace h := h.2 c1
          refine WP_ldc2 (z := 31) wm_968 dX6_candidateDigest_12 (by decide +kernel) ?_
          refine WP_lload (z := x4) dX6_candidateDigest_15 rfl ?_
          refine WP_lmul dX6_candidateDigest_17 rfl ?_
          refine WP_aload_n (z := 56) dX6_candidateDigest_18 rfl ?_
          refine WP_iload_n (z := x3) dX6_candidateDigest_19 rfl ?_
          refine WP_iload (z := x6) dX6_candidateDigest_20 rfl ?_
          obtain ⟨o5, h⟩ := h
          refine WP_pcallV (g := mX6_candidateOf) (as := [vI x3, vI x6]) (rest := [vL (w64 (31 * x4))]) (n := 2) (r := vI (fX6_candidateOf D x3 x6)) dX6_candidateDigest_22 wm_390 mo_X6_candidateOf rfl rfl rfl rfl ⟨Nat.le_of_ble_eq_true rfl, Nat.le_of_ble_eq_true rfl⟩ (Nat.le_of_ble_eq_true rfl) (P_X6_candidateOf  o5) ?_
          refine WP_i2l dX6_candidateDigest_25 ?_
          refine WP_ladd dX6_candidateDigest_26 rfl ?_
          refine WP_lstore (ls1 := [vR 56, vL x1, vU, vI x3, vL (w64 ((w64 (31 * x4)) + (fX6_candidateOf D x3 x6))), vU, vI x6]) dX6_candidateDigest_27 (by decide) rfl ?_
          obtain ⟨v2, hv3⟩ : ∃ v2 : Int, v2 = (w64 ((w64 (31 * x4)) + (fX6_candidateOf D x3 x6))) := ⟨_, rfl⟩
          replace h := h v2 hv3
          rw [← hv3]
          obtain ⟨o4, h⟩ := h
          refine WP_iinc (z := (x6 + 1)) (ls1 := [vR 56, vL x1, vU, vI x3, vL v2, vU, vI (x6 + 1)]) dX6_candidateDigest_29 rfl (w32_id o4) (by decide) rfl ?_
          refine WP_goto (tgt := 6) dX6_candidateDigest_32 (by decide) ?_
          exact ih6_ _ _ _ _ _ h.1 (by have := h.2; omega)
      · intro x1 x3 x4 x6 D hI hn
        refine WP_cD (fun hcD => ?_)
        refine WP_cl (fun hcl => ?_)
        have h := h38 x1 x3 x4 x6 D hI hcD (cVs_g hcl (i := 1) (v := vL x1) rfl) (cVs_g hcl (i := 3) (v := vI x3) rfl) (cVs_g hcl (i := 4) (v := vL x4) rfl) (cVs_g hcl (i := 6) (v := vI x6) rfl)
        refine WP_iload (z := x6) dX6_candidateDigest_38 rfl ?_
        refine WP_iconst (z := 4) dX6_candidateDigest_40 rfl ⟨by decide, by decide⟩ ?_
        refine WP_icmp_ge (tgt := 67) dX6_candidateDigest_41 (by decide) (fun c6 => ?_) (fun c6 => ?_)
        · replace h := h.1 c6
          refine WP_ldc2 (z := 31) wm_968 dX6_candidateDigest_67 (by decide +kernel) ?_
          refine WP_lload (z := x4) dX6_candidateDigest_70 rfl ?_
          refine WP_lmul dX6_candidateDigest_72 rfl ?_
          refine WP_aload_n (z := 56) dX6_candidateDigest_73 rfl ?_
          refine WP_iload_n (z := x3) dX6_candidateDigest_74 rfl ?_
          refine WP_iconst (z := 0) dX6_candidateDigest_75 rfl ⟨by decide, by decide⟩ ?_
          obtain ⟨Q7, ct9, h⟩ := h
          refine WP_callV (g := mX6_standOf) (as := [vI x3, vI 0]) (rest := [vL (w64 (31 * x4))]) (n := 2) dX6_candidateDigest_76 wm_558 mo_X6_standOf rfl rfl rfl rfl ⟨Nat.le_of_ble_eq_true rfl, Nat.le_of_ble_eq_true rfl⟩ (Nat.le_of_ble_eq_true rfl) ct9 (fun r_ D10 hq8 hok hD13 => ?_)
          obtain ⟨r11, rfl, hr12⟩ := hok
          replace h := h r11 D10 hq8 hr12 hD13
          show WP mX6_candidateDigest Q 79 [vR 56, vL x1, vU, vI x3, vL x4, vU, vI x6] [vI r11, vL (w64 (31 * x4))] D10
          refine WP_i2l dX6_candidateDigest_79 ?_
          refine WP_ladd dX6_candidateDigest_80 rfl ?_
          refine WP_lstore (ls1 := [vR 56, vL x1, vU, vI x3, vL (w64 ((w64 (31 * x4)) + r11)), vU, vI x6]) dX6_candidateDigest_81 (by decide) rfl ?_
          refine WP_ldc2 (z := 31) wm_968 dX6_candidateDigest_83 (by decide +kernel) ?_
          refine WP_lload (z := (w64 ((w64 (31 * x4)) + r11))) dX6_candidateDigest_86 rfl ?_
          refine WP_lmul dX6_candidateDigest_88 rfl ?_
          refine WP_aload_n (z := 56) dX6_candidateDigest_89 rfl ?_
          refine WP_iload_n (z := x3) dX6_candidateDigest_90 rfl ?_
          refine WP_iconst (z := 1) dX6_candidateDigest_91 rfl ⟨by decide, by decide⟩ ?_
          obtain ⟨Q14, ct16, h⟩ := h
          refine WP_callV (g := mX6_standOf) (as := [vI x3, vI 1]) (rest := [vL (w64 (31 * (w64 ((w64 (31 * x4)) + r11))))]) (n := 2) dX6_candidateDigest_92 wm_558 mo_X6_standOf rfl rfl rfl rfl ⟨Nat.le_of_ble_eq_true rfl, Nat.le_of_ble_eq_true rfl⟩ (Nat.le_of_ble_eq_true rfl) ct16 (fun r_ D17 hq15 hok hD20 => ?_)
          obtain ⟨r18, rfl, hr19⟩ := hok
          replace h := h r18 D17 hq15 hr19 hD20
          show WP mX6_candidateDigest Q 95 [vR 56, vL x1, vU, vI x3, vL (w64 ((w64 (31 * x4)) + r11)), vU, vI x6] [vI r18, vL (w64 (31 * (w64 ((w64 (31 * x4)) + r11))))] D17
          refine WP_i2l dX6_candidateDigest_95 ?_
          refine WP_ladd dX6_candidateDigest_96 rfl ?_
          refine WP_lstore (ls1 := [vR 56, vL x1, vU, vI x3, vL (w64 ((w64 (31 * (w64 ((w64 (31 * x4)) + r11)))) + r18)), vU, vI x6]) dX6_candidateDigest_97 (by decide) rfl ?_
          obtain ⟨v21, hv22⟩ : ∃ v21 : Int, v21 = (w64 ((w64 (31 * (w64 ((w64 (31 * x4)) + r11)))) + r18)) := ⟨_, rfl⟩
          replace h := h v21 hv22
          rw [← hv22]
          refine WP_ldc2 (z := 31) wm_968 dX6_candidateDigest_99 (by decide +kernel) ?_
          refine WP_lload (z := v21) dX6_candidateDigest_102 rfl ?_
          refine WP_lmul dX6_candidateDigest_104 rfl ?_
          refine WP_aload_n (z := 56) dX6_candidateDigest_105 rfl ?_
          refine WP_iload_n (z := x3) dX6_candidateDigest_106 rfl ?_
          obtain ⟨Q23, ct25, h⟩ := h
          refine WP_callV (g := mX6_shieldOf) (as := [vI x3]) (rest := [vL (w64 (31 * v21))]) (n := 1) dX6_candidateDigest_107 wm_582 mo_X6_shieldOf rfl rfl rfl rfl ⟨Nat.le_of_ble_eq_true rfl, Nat.le_of_ble_eq_true rfl⟩ (Nat.le_of_ble_eq_true rfl) ct25 (fun r_ D26 hq24 hok hD29 => ?_)
          obtain ⟨r27, rfl, hr28⟩ := hok
          replace h := h r27 D26 hq24 hr28 hD29
          show WP mX6_candidateDigest Q 110 [vR 56, vL x1, vU, vI x3, vL v21, vU, vI x6] [vI r27, vL (w64 (31 * v21))] D26
          refine WP_i2l dX6_candidateDigest_110 ?_
          refine WP_ladd dX6_candidateDigest_111 rfl ?_
          refine WP_lstore (ls1 := [vR 56, vL x1, vU, vI x3, vL (w64 ((w64 (31 * v21)) + r27)), vU, vI x6]) dX6_candidateDigest_112 (by decide) rfl ?_
          refine WP_ldc2 (z := 31) wm_968 dX6_candidateDigest_114 (by decide +kernel) ?_
          refine WP_lload (z := (w64 ((w64 (31 * v21)) + r27))) dX6_candidateDigest_117 rfl ?_
          refine WP_lmul dX6_candidateDigest_119 rfl ?_
          refine WP_aload_n (z := 56) dX6_candidateDigest_120 rfl ?_
          refine WP_iload_n (z := x3) dX6_candidateDigest_121 rfl ?_
          obtain ⟨Q30, ct32, h⟩ := h
          refine WP_callV (g := mX6_bribeOf) (as := [vI x3]) (rest := [vL (w64 (31 * (w64 ((w64 (31 * v21)) + r27))))]) (n := 1) dX6_candidateDigest_122 wm_625 mo_X6_bribeOf rfl rfl rfl rfl ⟨Nat.le_of_ble_eq_true rfl, Nat.le_of_ble_eq_true rfl⟩ (Nat.le_of_ble_eq_true rfl) ct32 (fun r_ D33 hq31 hok hD36 => ?_)
          obtain ⟨r34, rfl, hr35⟩ := hok
          replace h := h r34 D33 hq31 hr35 hD36
          show WP mX6_candidateDigest Q 125 [vR 56, vL x1, vU, vI x3, vL (w64 ((w64 (31 * v21)) + r27)), vU, vI x6] [vI r34, vL (w64 (31 * (w64 ((w64 (31 * v21)) + r27))))] D33
          refine WP_i2l dX6_candidateDigest_125 ?_
          refine WP_ladd dX6_candidateDigest_126 rfl ?_
          refine WP_lstore (ls1 := [vR 56, vL x1, vU, vI x3, vL (w64 ((w64 (31 * (w64 ((w64 (31 * v21)) + r27)))) + r34)), vU, vI x6]) dX6_candidateDigest_127 (by decide) rfl ?_
          obtain ⟨v37, hv38⟩ : ∃ v37 : Int, v37 = (w64 ((w64 (31 * (w64 ((w64 (31 * v21)) + r27)))) + r34)) := ⟨_, rfl⟩
          replace h := h v37 hv38
          rw [← hv38]
          refine WP_ldc2 (z := 31) wm_968 dX6_candidateDigest_129 (by decide +kernel) ?_
          refine WP_lload (z := v37) dX6_candidateDigest_132 rfl ?_
          refine WP_lmul dX6_candidateDigest_134 rfl ?_
          refine WP_aload_n (z := 56) dX6_candidateDigest_135 rfl ?_
          refine WP_iload_n (z := x3) dX6_candidateDigest_136 rfl ?_
          obtain ⟨Q39, ct41, h⟩ := h
          refine WP_callV (g := mX6_hadOf) (as := [vI x3]) (rest := [vL (w64 (31 * v37))]) (n := 1) dX6_candidateDigest_137 wm_739 mo_X6_hadOf rfl rfl rfl rfl ⟨Nat.le_of_ble_eq_true rfl, Nat.le_of_ble_eq_true rfl⟩ (Nat.le_of_ble_eq_true rfl) ct41 (fun r_ D42 hq40 hok hD45 => ?_)
          obtain ⟨r43, rfl, hr44⟩ := hok
          replace h := h r43 D42 hq40 hr44 hD45
          show WP mX6_candidateDigest Q 140 [vR 56, vL x1, vU, vI x3, vL v37, vU, vI x6] [vI r43, vL (w64 (31 * v37))] D42
          refine WP_i2l dX6_candidateDigest_140 ?_
          refine WP_ladd dX6_candidateDigest_141 rfl ?_
          refine WP_lstore (ls1 := [vR 56, vL x1, vU, vI x3, vL (w64 ((w64 (31 * v37)) + r43)), vU, vI x6]) dX6_candidateDigest_142 (by decide) rfl ?_
          refine WP_ldc2 (z := 31) wm_968 dX6_candidateDigest_144 (by decide +kernel) ?_
          refine WP_lload (z := (w64 ((w64 (31 * v37)) + r43))) dX6_candidateDigest_147 rfl ?_
          refine WP_lmul dX6_candidateDigest_149 rfl ?_
          refine WP_aload_n (z := 56) dX6_candidateDigest_150 rfl ?_
          refine WP_iconst (z := 5) dX6_candidateDigest_151 rfl ⟨by decide, by decide⟩ ?_
          refine WP_iload_n (z := x3) dX6_candidateDigest_152 rfl ?_
          refine WP_iconst (z := 0) dX6_candidateDigest_153 rfl ⟨by decide, by decide⟩ ?_
          obtain ⟨Q46, ct48, h⟩ := h
          refine WP_callV (g := mX6_calmOf) (as := [vI 5, vI x3, vI 0]) (rest := [vL (w64 (31 * (w64 ((w64 (31 * v37)) + r43))))]) (n := 3) dX6_candidateDigest_154 wm_789 mo_X6_calmOf rfl rfl rfl rfl ⟨Nat.le_of_ble_eq_true rfl, Nat.le_of_ble_eq_true rfl⟩ (Nat.le_of_ble_eq_true rfl) ct48 (fun r_ D49 hq47 hok hD52 => ?_)
          obtain ⟨r50, rfl, hr51⟩ := hok
          replace h := h r50 D49 hq47 hr51 hD52
          show WP mX6_candidateDigest Q 157 [vR 56, vL x1, vU, vI x3, vL (w64 ((w64 (31 * v37)) + r43)), vU, vI x6] [vL r50, vL (w64 (31 * (w64 ((w64 (31 * v37)) + r43))))] D49
          refine WP_ladd dX6_candidateDigest_157 rfl ?_
          refine WP_lstore (ls1 := [vR 56, vL x1, vU, vI x3, vL (w64 ((w64 (31 * (w64 ((w64 (31 * v37)) + r43)))) + r50)), vU, vI x6]) dX6_candidateDigest_158 (by decide) rfl ?_
          obtain ⟨v53, hv54⟩ : ∃ v53 : Int, v53 = (w64 ((w64 (31 * (w64 ((w64 (31 * v37)) + r43)))) + r50)) := ⟨_, rfl⟩
          replace h := h v53 hv54
          rw [← hv54]
          refine WP_ldc2 (z := 31) wm_968 dX6_candidateDigest_160 (by decide +kernel) ?_
          refine WP_lload (z := v53) dX6_candidateDigest_163 rfl ?_
          refine WP_lmul dX6_candidateDigest_165 rfl ?_
          refine WP_aload_n (z := 56) dX6_candidateDigest_166 rfl ?_
          refine WP_iconst (z := 5) dX6_candidateDigest_167 rfl ⟨by decide, by decide⟩ ?_
          refine WP_iload_n (z := x3) dX6_candidateDigest_168 rfl ?_
          refine WP_iconst (z := 1) dX6_candidateDigest_169 rfl ⟨by decide, by decide⟩ ?_
          obtain ⟨Q55, ct57, h⟩ := h
          refine WP_callV (g := mX6_calmOf) (as := [vI 5, vI x3, vI 1]) (rest := [vL (w64 (31 * v53))]) (n := 3) dX6_candidateDigest_170 wm_789 mo_X6_calmOf rfl rfl rfl rfl ⟨Nat.le_of_ble_eq_true rfl, Nat.le_of_ble_eq_true rfl⟩ (Nat.le_of_ble_eq_true rfl) ct57 (fun r_ D58 hq56 hok hD61 => ?_)
          obtain ⟨r59, rfl, hr60⟩ := hok
          replace h := h r59 D58 hq56 hr60 hD61
          show WP mX6_candidateDigest Q 173 [vR 56, vL x1, vU, vI x3, vL v53, vU, vI x6] [vL r59, vL (w64 (31 * v53))] D58
          refine WP_ladd dX6_candidateDigest_173 rfl ?_
          refine WP_lstore (ls1 := [vR 56, vL x1, vU, vI x3, vL (w64 ((w64 (31 * v53)) + r59)), vU, vI x6]) dX6_candidateDigest_174 (by decide) rfl ?_
          refine WP_aload_n (z := 56) dX6_candidateDigest_176 rfl ?_
          obtain ⟨Q62, ct64, h⟩ := h
          refine WP_callV (g := mX6_reads) (as := []) (rest := []) (n := 0) dX6_candidateDigest_177 wm_343 mo_X6_reads rfl rfl rfl rfl ⟨Nat.le_of_ble_eq_true rfl, Nat.le_of_ble_eq_true rfl⟩ (Nat.le_of_ble_eq_true rfl) ct64 (fun r_ D65 hq63 hok hD68 => ?_)
          obtain rfl := hok
          replace h := h D65 hq63 hD68
          show WP mX6_candidateDigest Q 180 [vR 56, vL x1, vU, vI x3, vL (w64 ((w64 (31 * v53)) + r59)), vU, vI x6] [] D65
          refine WP_lload (z := (w64 ((w64 (31 * v53)) + r59))) dX6_candidateDigest_180 rfl ?_
          exact WP_lreturn dX6_candidateDigest_182 rfl h
        · replace h := h.2 c6
          refine WP_ldc2 (z := 31) wm_968 dX6_candidateDigest_44 (by decide +kernel) ?_
          refine WP_lload (z := x4) dX6_candidateDigest_47 rfl ?_
          refine WP_lmul dX6_candidateDigest_49 rfl ?_
          refine WP_aload_n (z := 56) dX6_candidateDigest_50 rfl ?_
          refine WP_iload_n (z := x3) dX6_candidateDigest_51 rfl ?_
          refine WP_iload (z := x6) dX6_candidateDigest_52 rfl ?_
          obtain ⟨Q69, ct71, h⟩ := h
          refine WP_callV (g := mX6_turnsOf) (as := [vI x3, vI x6]) (rest := [vL (w64 (31 * x4))]) (n := 2) dX6_candidateDigest_54 wm_492 mo_X6_turnsOf rfl rfl rfl rfl ⟨Nat.le_of_ble_eq_true rfl, Nat.le_of_ble_eq_true rfl⟩ (Nat.le_of_ble_eq_true rfl) ct71 (fun r_ D72 hq70 hok hD75 => ?_)
          obtain ⟨r73, rfl, hr74⟩ := hok
          replace h := h r73 D72 hq70 hr74 hD75
          show WP mX6_candidateDigest Q 57 [vR 56, vL x1, vU, vI x3, vL x4, vU, vI x6] [vI r73, vL (w64 (31 * x4))] D72
          refine WP_i2l dX6_candidateDigest_57 ?_
          refine WP_ladd dX6_candidateDigest_58 rfl ?_
          refine WP_lstore (ls1 := [vR 56, vL x1, vU, vI x3, vL (w64 ((w64 (31 * x4)) + r73)), vU, vI x6]) dX6_candidateDigest_59 (by decide) rfl ?_
          obtain ⟨o76, h⟩ := h
          refine WP_iinc (z := (x6 + 1)) (ls1 := [vR 56, vL x1, vU, vI x3, vL (w64 ((w64 (31 * x4)) + r73)), vU, vI (x6 + 1)]) dX6_candidateDigest_61 rfl (w32_id o76) (by decide) rfl ?_
          refine WP_goto (tgt := 38) dX6_candidateDigest_64 (by decide) ?_
          exact ih38_ _ _ _ _ _ h.1 (by have := h.2; omega)
  have cut6_ : ∀ (x1 x3 x4 x6 : Int) (D : HP), I6 x1 x3 x4 x6 D → WP mX6_candidateDigest Q 6 [vR 56, vL x1, vU, vI x3, vL x4, vU, vI x6] [] D := fun x1 x3 x4 x6 D hI => (IH (u6 x1 x3 x4 x6 D * 2 + 1 + 1)).1 x1 x3 x4 x6 D hI (by omega)
  have cut38_ : ∀ (x1 x3 x4 x6 : Int) (D : HP), I38 x1 x3 x4 x6 D → WP mX6_candidateDigest Q 38 [vR 56, vL x1, vU, vI x3, vL x4, vU, vI x6] [] D := fun x1 x3 x4 x6 D hI => (IH (u38 x1 x3 x4 x6 D * 2 + 0 + 1)).2 x1 x3 x4 x6 D hI (by omega)
  refine WP_cD (fun hcD => ?_)
  refine WP_cl (fun hcl => ?_)
  have h := h0 hcD (cVs_g hcl (i := 1) (v := vL a) rfl) (cVs_g hcl (i := 3) (v := vI b) rfl)
  refine WP_lload_n (z := a) dX6_candidateDigest_0 rfl ?_
  refine WP_lstore (ls1 := [vR 56, vL a, vU, vI b, vL a, vU, vU]) dX6_candidateDigest_1 (by decide) rfl ?_
  refine WP_iconst (z := 0) dX6_candidateDigest_3 rfl ⟨by decide, by decide⟩ ?_
  refine WP_istore (ls1 := [vR 56, vL a, vU, vI b, vL a, vU, vI 0]) dX6_candidateDigest_4 (by decide) rfl ?_
  exact cut6_ _ _ _ _ _ h
set_option maxRecDepth 100000 in
set_option maxHeartbeats 4000000 in
theorem V_X6_digest  {D : HP} {Q : Option MV → HP → Prop} (I6 : Int → Int → HP → Prop) (u6 : Int → Int → HP → Nat) (I33 : Int → Int → HP → Prop) (u33 : Int → Int → HP → Nat) (I59 : Int → Int → HP → Prop) (u59 : Int → Int → HP → Nat) (I97 : Int → Int → HP → Prop) (u97 : Int → Int → HP → Nat) (I120 : Int → Int → HP → Prop) (u120 : Int → Int → HP → Nat)
    (h0 : cD D → (I6 17 0 D))
    (h6 : ∀ (x1 x3 : Int) (D : HP), I6 x1 x3 D → cD D → c64 x1 → c32 x3 → ((8 ≤ x3 → (I33 x1 0 D ∧ u33 x1 0 D ≤ u6 x1 x3 D)) ∧ (¬ (8 ≤ x3) → (∃ Q2 : Option MV → HP → Prop, CT mX6_count [vR 56, vI x3] D Q2 ∧ ∀ (r6 : Int) (D5 : HP), Q2 (some (vI r6)) D5 → c32 r6 → cD D5 → ((c32 (x3 + 1)) ∧ (I6 (w64 ((w64 (31 * x1)) + r6)) (x3 + 1) D5 ∧ u6 (w64 ((w64 (31 * x1)) + r6)) (x3 + 1) D5 < u6 x1 x3 D))))))
    (h33 : ∀ (x1 x3 : Int) (D : HP), I33 x1 x3 D → cD D → c64 x1 → c32 x3 → ((3 ≤ x3 → (I59 x1 0 D ∧ u59 x1 0 D ≤ u33 x1 x3 D)) ∧ (¬ (3 ≤ x3) → (∃ Q11 : Option MV → HP → Prop, CT mX6_faultOf [vR 56, vI x3] D Q11 ∧ ∀ (r15 : Int) (D14 : HP), Q11 (some (vI r15)) D14 → c32 r15 → cD D14 → ((c32 (x3 + 1)) ∧ (I33 (w64 ((w64 (31 * x1)) + r15)) (x3 + 1) D14 ∧ u33 (w64 ((w64 (31 * x1)) + r15)) (x3 + 1) D14 < u33 x1 x3 D))))))
    (h59 : ∀ (x1 x3 : Int) (D : HP), I59 x1 x3 D → cD D → c64 x1 → c32 x3 → (((D 56 3) ≤ x3 → (I97 x1 0 D ∧ u97 x1 0 D ≤ u59 x1 x3 D)) ∧ (¬ ((D 56 3) ≤ x3) → ((0 ≤ x3 ∧ x3 < 26) ∧ (∀ (v20 : Int), v20 = (w64 ((w64 (31 * x1)) + (if (D 59 x3.toNat) = 0 then (0 : Int) else 1))) → ((c32 (x3 + 1)) ∧ (I59 v20 (x3 + 1) D ∧ u59 v20 (x3 + 1) D < u59 x1 x3 D)))))))
    (h97 : ∀ (x1 x3 : Int) (D : HP), I97 x1 x3 D → cD D → c64 x1 → c32 x3 → (((D 56 5) ≤ x3 → (I120 x1 0 D ∧ u120 x1 0 D ≤ u97 x1 x3 D)) ∧ (¬ ((D 56 5) ≤ x3) → (∃ Q27 : Option MV → HP → Prop, CT mX6_minuteDigest [vR 56, vL x1, vI x3] D Q27 ∧ ∀ (r31 : Int) (D30 : HP), Q27 (some (vL r31)) D30 → c64 r31 → cD D30 → ((c32 (x3 + 1)) ∧ (I97 r31 (x3 + 1) D30 ∧ u97 r31 (x3 + 1) D30 < u97 x1 x3 D))))))
    (h120 : ∀ (x1 x3 : Int) (D : HP), I120 x1 x3 D → cD D → c64 x1 → c32 x3 → (((D 56 8) ≤ x3 → (∃ Q36 : Option MV → HP → Prop, CT mX6_firstOf [vR 56, vI 0] D Q36 ∧ ∀ (r40 : Int) (D39 : HP), Q36 (some (vI r40)) D39 → c32 r40 → cD D39 → (∃ Q43 : Option MV → HP → Prop, CT mX6_firstOf [vR 56, vI 1] D39 Q43 ∧ ∀ (r47 : Int) (D46 : HP), Q43 (some (vI r47)) D46 → c32 r47 → cD D46 → (∀ (v50 : Int), v50 = (w64 ((w64 (31 * (w64 ((w64 (31 * x1)) + r40)))) + r47)) → (∃ Q52 : Option MV → HP → Prop, CT mX6_lullsNow [vR 56] D46 Q52 ∧ ∀ (r56 : Int) (D55 : HP), Q52 (some (vI r56)) D55 → c32 r56 → cD D55 → (∃ Q59 : Option MV → HP → Prop, CT mX6_moveOf [vR 56, vI 0] D55 Q59 ∧ ∀ (r63 : Int) (D62 : HP), Q59 (some (vI r63)) D62 → c32 r63 → cD D62 → (∀ (v66 : Int), v66 = (w64 ((w64 (31 * (w64 ((w64 (31 * v50)) + r56)))) + r63)) → (∃ Q68 : Option MV → HP → Prop, CT mX6_moveOf [vR 56, vI 1] D62 Q68 ∧ ∀ (r72 : Int) (D71 : HP), Q68 (some (vI r72)) D71 → c32 r72 → cD D71 → (∃ Q75 : Option MV → HP → Prop, CT mX6_weatherOf [vR 56, vI 7, vI 9, vI 0] D71 Q75 ∧ ∀ (r79 : Int) (D78 : HP), Q75 (some (vI r79)) D78 → c32 r79 → cD D78 → (∀ (v82 : Int), v82 = (w64 ((w64 (31 * (w64 ((w64 (31 * v66)) + r72)))) + r79)) → (∃ Q84 : Option MV → HP → Prop, CT mX6_weatherOf [vR 56, vI 7, vI 9, vI 1] D78 Q84 ∧ ∀ (r88 : Int) (D87 : HP), Q84 (some (vI r88)) D87 → c32 r88 → cD D87 → (Q (some (vL (w64 ((w64 (31 * v82)) + r88)))) D87)))))))))))) ∧ (¬ ((D 56 8) ≤ x3) → (∃ Q91 : Option MV → HP → Prop, CT mX6_candidateDigest [vR 56, vL x1, vI x3] D Q91 ∧ ∀ (r95 : Int) (D94 : HP), Q91 (some (vL r95)) D94 → c64 r95 → cD D94 → ((c32 (x3 + 1)) ∧ (I120 r95 (x3 + 1) D94 ∧ u120 r95 (x3 + 1) D94 < u120 x1 x3 D))))))
    : CT mX6_digest [vR 56] D Q := by
  refine CT.of 3 (by decide) (Nat.le_of_ble_eq_true rfl) ?_
  show WP mX6_digest Q 0 [vR 56, vU, vU, vU] [] D
  have IH : ∀ n : Nat, (∀ (x1 x3 : Int) (D : HP), I6 x1 x3 D → u6 x1 x3 D * 5 + 4 < n → WP mX6_digest Q 6 [vR 56, vL x1, vU, vI x3] [] D) ∧ (∀ (x1 x3 : Int) (D : HP), I33 x1 x3 D → u33 x1 x3 D * 5 + 3 < n → WP mX6_digest Q 33 [vR 56, vL x1, vU, vI x3] [] D) ∧ (∀ (x1 x3 : Int) (D : HP), I59 x1 x3 D → u59 x1 x3 D * 5 + 2 < n → WP mX6_digest Q 59 [vR 56, vL x1, vU, vI x3] [] D) ∧ (∀ (x1 x3 : Int) (D : HP), I97 x1 x3 D → u97 x1 x3 D * 5 + 1 < n → WP mX6_digest Q 97 [vR 56, vL x1, vU, vI x3] [] D) ∧ (∀ (x1 x3 : Int) (D : HP), I120 x1 x3 D → u120 x1 x3 D * 5 + 0 < n → WP mX6_digest Q 120 [vR 56, vL x1, vU, vI x3] [] D) := by
    intro n
    induction n with
    | zero => exact ⟨fun _ _ _ _ h => absurd h (Nat.not_lt_zero _), fun _ _ _ _ h => absurd h (Nat.not_lt_zero _), fun _ _ _ _ h => absurd h (Nat.not_lt_zero _), fun _ _ _ _ h => absurd h (Nat.not_lt_zero _), fun _ _ _ _ h => absurd h (Nat.not_lt_zero _)⟩
    | succ n ih =>
      have ih6_ := ih.1
      have ih33_ := ih.2.1
      have ih59_ := ih.2.2.1
      have ih97_ := ih.2.2.2.1
      have ih120_ := ih.2.2.2.2
      refine ⟨?_, ?_, ?_, ?_, ?_⟩
      · intro x1 x3 D hI hn
        refine WP_cD (fun hcD => ?_)
        refine WP_cl (fun hcl => ?_)
        have h := h6 x1 x3 D hI hcD (cVs_g hcl (i := 1) (v := vL x1) rfl) (cVs_g hcl (i := 3) (v := vI x3) rfl)
        refine WP_iload_n (z := x3) dX6_digest_6 rfl ?_
        refine WP_bipush (z := 8) dX6_digest_7 rfl (by decide) ?_
        refine WP_icmp_ge (tgt := 31) dX6_digest_9 (by decide) (fun c1 => ?_) (fun c1 => ?_)
        · replace h := h.1 c1
          refine WP_iconst (z := 0) dX6_digest_31 rfl ⟨by decide, by decide⟩ ?_
          refine WP_istore_n (ls1 := [vR 56, vL x1, vU, vI 0]) dX6_digest_32 (by decide) rfl ?_
          exact ih33_ _ _ _ h.1 (by have := h.2; omega)
        · replace h := h.2 c1
          refine WP_ldc2 (z := 31) wm_968 dX6_digest_12 (by decide +kernel) ?_
          refine WP_lload_n (z := x1) dX6_digest_15 rfl ?_
          refine WP_lmul dX6_digest_16 rfl ?_
          refine WP_aload_n (z := 56) dX6_digest_17 rfl ?_
          refine WP_iload_n (z := x3) dX6_digest_18 rfl ?_
          obtain ⟨Q2, ct4, h⟩ := h
          refine WP_callV (g := mX6_count) (as := [vI x3]) (rest := [vL (w64 (31 * x1))]) (n := 1) dX6_digest_19 wm_969 mo_X6_count rfl rfl rfl rfl ⟨Nat.le_of_ble_eq_true rfl, Nat.le_of_ble_eq_true rfl⟩ (Nat.le_of_ble_eq_true rfl) ct4 (fun r_ D5 hq3 hok hD8 => ?_)
          obtain ⟨r6, rfl, hr7⟩ := hok
          replace h := h r6 D5 hq3 hr7 hD8
          show WP mX6_digest Q 22 [vR 56, vL x1, vU, vI x3] [vI r6, vL (w64 (31 * x1))] D5
          refine WP_i2l dX6_digest_22 ?_
          refine WP_ladd dX6_digest_23 rfl ?_
          refine WP_lstore_n (ls1 := [vR 56, vL (w64 ((w64 (31 * x1)) + r6)), vU, vI x3]) dX6_digest_24 (by decide) rfl ?_
          obtain ⟨o9, h⟩ := h
          refine WP_iinc (z := (x3 + 1)) (ls1 := [vR 56, vL (w64 ((w64 (31 * x1)) + r6)), vU, vI (x3 + 1)]) dX6_digest_25 rfl (w32_id o9) (by decide) rfl ?_
          refine WP_goto (tgt := 6) dX6_digest_28 (by decide) ?_
          exact ih6_ _ _ _ h.1 (by have := h.2; omega)
      · intro x1 x3 D hI hn
        refine WP_cD (fun hcD => ?_)
        refine WP_cl (fun hcl => ?_)
        have h := h33 x1 x3 D hI hcD (cVs_g hcl (i := 1) (v := vL x1) rfl) (cVs_g hcl (i := 3) (v := vI x3) rfl)
        refine WP_iload_n (z := x3) dX6_digest_33 rfl ?_
        refine WP_iconst (z := 3) dX6_digest_34 rfl ⟨by decide, by decide⟩ ?_
        refine WP_icmp_ge (tgt := 57) dX6_digest_35 (by decide) (fun c10 => ?_) (fun c10 => ?_)
        · replace h := h.1 c10
          refine WP_iconst (z := 0) dX6_digest_57 rfl ⟨by decide, by decide⟩ ?_
          refine WP_istore_n (ls1 := [vR 56, vL x1, vU, vI 0]) dX6_digest_58 (by decide) rfl ?_
          exact ih59_ _ _ _ h.1 (by have := h.2; omega)
        · replace h := h.2 c10
          refine WP_ldc2 (z := 31) wm_968 dX6_digest_38 (by decide +kernel) ?_
          refine WP_lload_n (z := x1) dX6_digest_41 rfl ?_
          refine WP_lmul dX6_digest_42 rfl ?_
          refine WP_aload_n (z := 56) dX6_digest_43 rfl ?_
          refine WP_iload_n (z := x3) dX6_digest_44 rfl ?_
          obtain ⟨Q11, ct13, h⟩ := h
          refine WP_callV (g := mX6_faultOf) (as := [vI x3]) (rest := [vL (w64 (31 * x1))]) (n := 1) dX6_digest_45 wm_294 mo_X6_faultOf rfl rfl rfl rfl ⟨Nat.le_of_ble_eq_true rfl, Nat.le_of_ble_eq_true rfl⟩ (Nat.le_of_ble_eq_true rfl) ct13 (fun r_ D14 hq12 hok hD17 => ?_)
          obtain ⟨r15, rfl, hr16⟩ := hok
          replace h := h r15 D14 hq12 hr16 hD17
          show WP mX6_digest Q 48 [vR 56, vL x1, vU, vI x3] [vI r15, vL (w64 (31 * x1))] D14
          refine WP_i2l dX6_digest_48 ?_
          refine WP_ladd dX6_digest_49 rfl ?_
          refine WP_lstore_n (ls1 := [vR 56, vL (w64 ((w64 (31 * x1)) + r15)), vU, vI x3]) dX6_digest_50 (by decide) rfl ?_
          obtain ⟨o18, h⟩ := h
          refine WP_iinc (z := (x3 + 1)) (ls1 := [vR 56, vL (w64 ((w64 (31 * x1)) + r15)), vU, vI (x3 + 1)]) dX6_digest_51 rfl (w32_id o18) (by decide) rfl ?_
          refine WP_goto (tgt := 33) dX6_digest_54 (by decide) ?_
          exact ih33_ _ _ _ h.1 (by have := h.2; omega)
      · intro x1 x3 D hI hn
        refine WP_cD (fun hcD => ?_)
        refine WP_cl (fun hcl => ?_)
        have h := h59 x1 x3 D hI hcD (cVs_g hcl (i := 1) (v := vL x1) rfl) (cVs_g hcl (i := 3) (v := vI x3) rfl)
        refine WP_iload_n (z := x3) dX6_digest_59 rfl ?_
        refine WP_aload_n (z := 56) dX6_digest_60 rfl ?_
        refine WP_getI dX6_digest_61 fl_RX6_94 rfl rfl rfl ?_
        refine WP_icmp_ge (tgt := 95) dX6_digest_64 (by decide) (fun c19 => ?_) (fun c19 => ?_)
        · replace h := h.1 c19
          refine WP_iconst (z := 0) dX6_digest_95 rfl ⟨by decide, by decide⟩ ?_
          refine WP_istore_n (ls1 := [vR 56, vL x1, vU, vI 0]) dX6_digest_96 (by decide) rfl ?_
          exact ih97_ _ _ _ h.1 (by have := h.2; omega)
        · replace h := h.2 c19
          refine WP_ldc2 (z := 31) wm_968 dX6_digest_67 (by decide +kernel) ?_
          refine WP_lload_n (z := x1) dX6_digest_70 rfl ?_
          refine WP_lmul dX6_digest_71 rfl ?_
          refine WP_aload_n (z := 56) dX6_digest_72 rfl ?_
          refine WP_getR (z := 59) dX6_digest_73 fl_RX6_16 rfl rfl rfl ?_
          refine WP_iload_n (z := x3) dX6_digest_76 rfl ?_
          obtain ⟨o25, h⟩ := h
          refine WP_zald dX6_digest_77 rfl o25.1 o25.2 rfl ?_
          refine WP_via (pc1 := 86) (ls1 := [vR 56, vL x1, vU, vI x3]) (st1 := [vI (if (D 59 x3.toNat) = 0 then (0 : Int) else 1), vL (w64 (31 * x1))]) (D1 := D) (fun hJ23 => ?_) ?_
          · refine WP_if_eq (tgt := 85) dX6_digest_78 (by decide) (fun c24 => ?_) (fun c24 => ?_)
            · replace hJ23 := ite_t (P := fun v_ : Int => WP mX6_digest Q 86 [vR 56, vL x1, vU, vI x3] [vI v_, vL (w64 (31 * x1))] D) hJ23 c24
              refine WP_iconst (z := 0) dX6_digest_85 rfl ⟨by decide, by decide⟩ ?_
              exact hJ23
            · replace hJ23 := ite_f (P := fun v_ : Int => WP mX6_digest Q 86 [vR 56, vL x1, vU, vI x3] [vI v_, vL (w64 (31 * x1))] D) hJ23 c24
              refine WP_iconst (z := 1) dX6_digest_81 rfl ⟨by decide, by decide⟩ ?_
              refine WP_goto (tgt := 86) dX6_digest_82 (by decide) ?_
              exact hJ23
          · refine WP_i2l dX6_digest_86 ?_
            refine WP_ladd dX6_digest_87 rfl ?_
            refine WP_lstore_n (ls1 := [vR 56, vL (w64 ((w64 (31 * x1)) + (if (D 59 x3.toNat) = 0 then (0 : Int) else 1))), vU, vI x3]) dX6_digest_88 (by decide) rfl ?_
            obtain ⟨v20, hv21⟩ : ∃ v20 : Int, v20 = (w64 ((w64 (31 * x1)) + (if (D 59 x3.toNat) = 0 then (0 : Int) else 1))) := ⟨_, rfl⟩
            replace h := h v20 hv21
            rw [← hv21]
            obtain ⟨o22, h⟩ := h
            refine WP_iinc (z := (x3 + 1)) (ls1 := [vR 56, vL v20, vU, vI (x3 + 1)]) dX6_digest_89 rfl (w32_id o22) (by decide) rfl ?_
            refine WP_goto (tgt := 59) dX6_digest_92 (by decide) ?_
            exact ih59_ _ _ _ h.1 (by have := h.2; omega)
      · intro x1 x3 D hI hn
        refine WP_cD (fun hcD => ?_)
        refine WP_cl (fun hcl => ?_)
        have h := h97 x1 x3 D hI hcD (cVs_g hcl (i := 1) (v := vL x1) rfl) (cVs_g hcl (i := 3) (v := vI x3) rfl)
        refine WP_iload_n (z := x3) dX6_digest_97 rfl ?_
        refine WP_aload_n (z := 56) dX6_digest_98 rfl ?_
        refine WP_getI dX6_digest_99 fl_RX6_101 rfl rfl rfl ?_
        refine WP_icmp_ge (tgt := 118) dX6_digest_102 (by decide) (fun c26 => ?_) (fun c26 => ?_)
        · replace h := h.1 c26
          refine WP_iconst (z := 0) dX6_digest_118 rfl ⟨by decide, by decide⟩ ?_
          refine WP_istore_n (ls1 := [vR 56, vL x1, vU, vI 0]) dX6_digest_119 (by decide) rfl ?_
          exact ih120_ _ _ _ h.1 (by have := h.2; omega)
        · replace h := h.2 c26
          refine WP_aload_n (z := 56) dX6_digest_105 rfl ?_
          refine WP_lload_n (z := x1) dX6_digest_106 rfl ?_
          refine WP_iload_n (z := x3) dX6_digest_107 rfl ?_
          obtain ⟨Q27, ct29, h⟩ := h
          refine WP_callV (g := mX6_minuteDigest) (as := [vL x1, vI x3]) (rest := []) (n := 2) dX6_digest_108 wm_970 mo_X6_minuteDigest rfl rfl rfl rfl ⟨Nat.le_of_ble_eq_true rfl, Nat.le_of_ble_eq_true rfl⟩ (Nat.le_of_ble_eq_true rfl) ct29 (fun r_ D30 hq28 hok hD33 => ?_)
          obtain ⟨r31, rfl, hr32⟩ := hok
          replace h := h r31 D30 hq28 hr32 hD33
          show WP mX6_digest Q 111 [vR 56, vL x1, vU, vI x3] [vL r31] D30
          refine WP_lstore_n (ls1 := [vR 56, vL r31, vU, vI x3]) dX6_digest_111 (by decide) rfl ?_
          obtain ⟨o34, h⟩ := h
          refine WP_iinc (z := (x3 + 1)) (ls1 := [vR 56, vL r31, vU, vI (x3 + 1)]) dX6_digest_112 rfl (w32_id o34) (by decide) rfl ?_
          refine WP_goto (tgt := 97) dX6_digest_115 (by decide) ?_
          exact ih97_ _ _ _ h.1 (by have := h.2; omega)
      · intro x1 x3 D hI hn
        refine WP_cD (fun hcD => ?_)
        refine WP_cl (fun hcl => ?_)
        have h := h120 x1 x3 D hI hcD (cVs_g hcl (i := 1) (v := vL x1) rfl) (cVs_g hcl (i := 3) (v := vI x3) rfl)
        refine WP_iload_n (z := x3) dX6_digest_120 rfl ?_
        refine WP_aload_n (z := 56) dX6_digest_121 rfl ?_
        refine WP_getI dX6_digest_122 fl_RX6_112 rfl rfl rfl ?_
        refine WP_icmp_ge (tgt := 141) dX6_digest_125 (by decide) (fun c35 => ?_) (fun c35 => ?_)
        · replace h := h.1 c35
          refine WP_ldc2 (z := 31) wm_968 dX6_digest_141 (by decide +kernel) ?_
          refine WP_lload_n (z := x1) dX6_digest_144 rfl ?_
          refine WP_lmul dX6_digest_145 rfl ?_
          refine WP_aload_n (z := 56) dX6_digest_146 rfl ?_
          refine WP_iconst (z := 0) dX6_digest_147 rfl ⟨by decide, by decide⟩ ?_
          obtain ⟨Q36, ct38, h⟩ := h
          refine WP_callV (g := mX6_firstOf) (as := [vI 0]) (rest := [vL (w64 (31 * x1))]) (n := 1) dX6_digest_148 wm_517 mo_X6_firstOf rfl rfl rfl rfl ⟨Nat.le_of_ble_eq_true rfl, Nat.le_of_ble_eq_true rfl⟩ (Nat.le_of_ble_eq_true rfl) ct38 (fun r_ D39 hq37 hok hD42 => ?_)
          obtain ⟨r40, rfl, hr41⟩ := hok
          replace h := h r40 D39 hq37 hr41 hD42
          show WP mX6_digest Q 151 [vR 56, vL x1, vU, vI x3] [vI r40, vL (w64 (31 * x1))] D39
          refine WP_i2l dX6_digest_151 ?_
          refine WP_ladd dX6_digest_152 rfl ?_
          refine WP_lstore_n (ls1 := [vR 56, vL (w64 ((w64 (31 * x1)) + r40)), vU, vI x3]) dX6_digest_153 (by decide) rfl ?_
          refine WP_ldc2 (z := 31) wm_968 dX6_digest_154 (by decide +kernel) ?_
          refine WP_lload_n (z := (w64 ((w64 (31 * x1)) + r40))) dX6_digest_157 rfl ?_
          refine WP_lmul dX6_digest_158 rfl ?_
          refine WP_aload_n (z := 56) dX6_digest_159 rfl ?_
          refine WP_iconst (z := 1) dX6_digest_160 rfl ⟨by decide, by decide⟩ ?_
          obtain ⟨Q43, ct45, h⟩ := h
          refine WP_callV (g := mX6_firstOf) (as := [vI 1]) (rest := [vL (w64 (31 * (w64 ((w64 (31 * x1)) + r40))))]) (n := 1) dX6_digest_161 wm_517 mo_X6_firstOf rfl rfl rfl rfl ⟨Nat.le_of_ble_eq_true rfl, Nat.le_of_ble_eq_true rfl⟩ (Nat.le_of_ble_eq_true rfl) ct45 (fun r_ D46 hq44 hok hD49 => ?_)
          obtain ⟨r47, rfl, hr48⟩ := hok
          replace h := h r47 D46 hq44 hr48 hD49
          show WP mX6_digest Q 164 [vR 56, vL (w64 ((w64 (31 * x1)) + r40)), vU, vI x3] [vI r47, vL (w64 (31 * (w64 ((w64 (31 * x1)) + r40))))] D46
          refine WP_i2l dX6_digest_164 ?_
          refine WP_ladd dX6_digest_165 rfl ?_
          refine WP_lstore_n (ls1 := [vR 56, vL (w64 ((w64 (31 * (w64 ((w64 (31 * x1)) + r40)))) + r47)), vU, vI x3]) dX6_digest_166 (by decide) rfl ?_
          obtain ⟨v50, hv51⟩ : ∃ v50 : Int, v50 = (w64 ((w64 (31 * (w64 ((w64 (31 * x1)) + r40)))) + r47)) := ⟨_, rfl⟩
          replace h := h v50 hv51
          rw [← hv51]
          refine WP_ldc2 (z := 31) wm_968 dX6_digest_167 (by decide +kernel) ?_
          refine WP_lload_n (z := v50) dX6_digest_170 rfl ?_
          refine WP_lmul dX6_digest_171 rfl ?_
          refine WP_aload_n (z := 56) dX6_digest_172 rfl ?_
          obtain ⟨Q52, ct54, h⟩ := h
          refine WP_callV (g := mX6_lullsNow) (as := []) (rest := [vL (w64 (31 * v50))]) (n := 0) dX6_digest_173 wm_529 mo_X6_lullsNow rfl rfl rfl rfl ⟨Nat.le_of_ble_eq_true rfl, Nat.le_of_ble_eq_true rfl⟩ (Nat.le_of_ble_eq_true rfl) ct54 (fun r_ D55 hq53 hok hD58 => ?_)
          obtain ⟨r56, rfl, hr57⟩ := hok
          replace h := h r56 D55 hq53 hr57 hD58
          show WP mX6_digest Q 176 [vR 56, vL v50, vU, vI x3] [vI r56, vL (w64 (31 * v50))] D55
          refine WP_i2l dX6_digest_176 ?_
          refine WP_ladd dX6_digest_177 rfl ?_
          refine WP_lstore_n (ls1 := [vR 56, vL (w64 ((w64 (31 * v50)) + r56)), vU, vI x3]) dX6_digest_178 (by decide) rfl ?_
          refine WP_ldc2 (z := 31) wm_968 dX6_digest_179 (by decide +kernel) ?_
          refine WP_lload_n (z := (w64 ((w64 (31 * v50)) + r56))) dX6_digest_182 rfl ?_
          refine WP_lmul dX6_digest_183 rfl ?_
          refine WP_aload_n (z := 56) dX6_digest_184 rfl ?_
          refine WP_iconst (z := 0) dX6_digest_185 rfl ⟨by decide, by decide⟩ ?_
          obtain ⟨Q59, ct61, h⟩ := h
          refine WP_callV (g := mX6_moveOf) (as := [vI 0]) (rest := [vL (w64 (31 * (w64 ((w64 (31 * v50)) + r56))))]) (n := 1) dX6_digest_186 wm_609 mo_X6_moveOf rfl rfl rfl rfl ⟨Nat.le_of_ble_eq_true rfl, Nat.le_of_ble_eq_true rfl⟩ (Nat.le_of_ble_eq_true rfl) ct61 (fun r_ D62 hq60 hok hD65 => ?_)
          obtain ⟨r63, rfl, hr64⟩ := hok
          replace h := h r63 D62 hq60 hr64 hD65
          show WP mX6_digest Q 189 [vR 56, vL (w64 ((w64 (31 * v50)) + r56)), vU, vI x3] [vI r63, vL (w64 (31 * (w64 ((w64 (31 * v50)) + r56))))] D62
          refine WP_i2l dX6_digest_189 ?_
          refine WP_ladd dX6_digest_190 rfl ?_
          refine WP_lstore_n (ls1 := [vR 56, vL (w64 ((w64 (31 * (w64 ((w64 (31 * v50)) + r56)))) + r63)), vU, vI x3]) dX6_digest_191 (by decide) rfl ?_
          obtain ⟨v66, hv67⟩ : ∃ v66 : Int, v66 = (w64 ((w64 (31 * (w64 ((w64 (31 * v50)) + r56)))) + r63)) := ⟨_, rfl⟩
          replace h := h v66 hv67
          rw [← hv67]
          refine WP_ldc2 (z := 31) wm_968 dX6_digest_192 (by decide +kernel) ?_
          refine WP_lload_n (z := v66) dX6_digest_195 rfl ?_
          refine WP_lmul dX6_digest_196 rfl ?_
          refine WP_aload_n (z := 56) dX6_digest_197 rfl ?_
          refine WP_iconst (z := 1) dX6_digest_198 rfl ⟨by decide, by decide⟩ ?_
          obtain ⟨Q68, ct70, h⟩ := h
          refine WP_callV (g := mX6_moveOf) (as := [vI 1]) (rest := [vL (w64 (31 * v66))]) (n := 1) dX6_digest_199 wm_609 mo_X6_moveOf rfl rfl rfl rfl ⟨Nat.le_of_ble_eq_true rfl, Nat.le_of_ble_eq_true rfl⟩ (Nat.le_of_ble_eq_true rfl) ct70 (fun r_ D71 hq69 hok hD74 => ?_)
          obtain ⟨r72, rfl, hr73⟩ := hok
          replace h := h r72 D71 hq69 hr73 hD74
          show WP mX6_digest Q 202 [vR 56, vL v66, vU, vI x3] [vI r72, vL (w64 (31 * v66))] D71
          refine WP_i2l dX6_digest_202 ?_
          refine WP_ladd dX6_digest_203 rfl ?_
          refine WP_lstore_n (ls1 := [vR 56, vL (w64 ((w64 (31 * v66)) + r72)), vU, vI x3]) dX6_digest_204 (by decide) rfl ?_
          refine WP_ldc2 (z := 31) wm_968 dX6_digest_205 (by decide +kernel) ?_
          refine WP_lload_n (z := (w64 ((w64 (31 * v66)) + r72))) dX6_digest_208 rfl ?_
          refine WP_lmul dX6_digest_209 rfl ?_
          refine WP_aload_n (z := 56) dX6_digest_210 rfl ?_
          refine WP_bipush (z := 7) dX6_digest_211 rfl (by decide) ?_
          refine WP_bipush (z := 9) dX6_digest_213 rfl (by decide) ?_
          refine WP_iconst (z := 0) dX6_digest_215 rfl ⟨by decide, by decide⟩ ?_
          obtain ⟨Q75, ct77, h⟩ := h
          refine WP_callV (g := mX6_weatherOf) (as := [vI 7, vI 9, vI 0]) (rest := [vL (w64 (31 * (w64 ((w64 (31 * v66)) + r72))))]) (n := 3) dX6_digest_216 wm_820 mo_X6_weatherOf rfl rfl rfl rfl ⟨Nat.le_of_ble_eq_true rfl, Nat.le_of_ble_eq_true rfl⟩ (Nat.le_of_ble_eq_true rfl) ct77 (fun r_ D78 hq76 hok hD81 => ?_)
          obtain ⟨r79, rfl, hr80⟩ := hok
          replace h := h r79 D78 hq76 hr80 hD81
          show WP mX6_digest Q 219 [vR 56, vL (w64 ((w64 (31 * v66)) + r72)), vU, vI x3] [vI r79, vL (w64 (31 * (w64 ((w64 (31 * v66)) + r72))))] D78
          refine WP_i2l dX6_digest_219 ?_
          refine WP_ladd dX6_digest_220 rfl ?_
          refine WP_lstore_n (ls1 := [vR 56, vL (w64 ((w64 (31 * (w64 ((w64 (31 * v66)) + r72)))) + r79)), vU, vI x3]) dX6_digest_221 (by decide) rfl ?_
          obtain ⟨v82, hv83⟩ : ∃ v82 : Int, v82 = (w64 ((w64 (31 * (w64 ((w64 (31 * v66)) + r72)))) + r79)) := ⟨_, rfl⟩
          replace h := h v82 hv83
          rw [← hv83]
          refine WP_ldc2 (z := 31) wm_968 dX6_digest_222 (by decide +kernel) ?_
          refine WP_lload_n (z := v82) dX6_digest_225 rfl ?_
          refine WP_lmul dX6_digest_226 rfl ?_
          refine WP_aload_n (z := 56) dX6_digest_227 rfl ?_
          refine WP_bipush (z := 7) dX6_digest_228 rfl (by decide) ?_
          refine WP_bipush (z := 9) dX6_digest_230 rfl (by decide) ?_
          refine WP_iconst (z := 1) dX6_digest_232 rfl ⟨by decide, by decide⟩ ?_
          obtain ⟨Q84, ct86, h⟩ := h
          refine WP_callV (g := mX6_weatherOf) (as := [vI 7, vI 9, vI 1]) (rest := [vL (w64 (31 * v82))]) (n := 3) dX6_digest_233 wm_820 mo_X6_weatherOf rfl rfl rfl rfl ⟨Nat.le_of_ble_eq_true rfl, Nat.le_of_ble_eq_true rfl⟩ (Nat.le_of_ble_eq_true rfl) ct86 (fun r_ D87 hq85 hok hD90 => ?_)
          obtain ⟨r88, rfl, hr89⟩ := hok
          replace h := h r88 D87 hq85 hr89 hD90
          show WP mX6_digest Q 236 [vR 56, vL v82, vU, vI x3] [vI r88, vL (w64 (31 * v82))] D87
          refine WP_i2l dX6_digest_236 ?_
          refine WP_ladd dX6_digest_237 rfl ?_
          exact WP_lreturn dX6_digest_238 rfl h
        · replace h := h.2 c35
          refine WP_aload_n (z := 56) dX6_digest_128 rfl ?_
          refine WP_lload_n (z := x1) dX6_digest_129 rfl ?_
          refine WP_iload_n (z := x3) dX6_digest_130 rfl ?_
          obtain ⟨Q91, ct93, h⟩ := h
          refine WP_callV (g := mX6_candidateDigest) (as := [vL x1, vI x3]) (rest := []) (n := 2) dX6_digest_131 wm_974 mo_X6_candidateDigest rfl rfl rfl rfl ⟨Nat.le_of_ble_eq_true rfl, Nat.le_of_ble_eq_true rfl⟩ (Nat.le_of_ble_eq_true rfl) ct93 (fun r_ D94 hq92 hok hD97 => ?_)
          obtain ⟨r95, rfl, hr96⟩ := hok
          replace h := h r95 D94 hq92 hr96 hD97
          show WP mX6_digest Q 134 [vR 56, vL x1, vU, vI x3] [vL r95] D94
          refine WP_lstore_n (ls1 := [vR 56, vL r95, vU, vI x3]) dX6_digest_134 (by decide) rfl ?_
          obtain ⟨o98, h⟩ := h
          refine WP_iinc (z := (x3 + 1)) (ls1 := [vR 56, vL r95, vU, vI (x3 + 1)]) dX6_digest_135 rfl (w32_id o98) (by decide) rfl ?_
          refine WP_goto (tgt := 120) dX6_digest_138 (by decide) ?_
          exact ih120_ _ _ _ h.1 (by have := h.2; omega)
  have cut6_ : ∀ (x1 x3 : Int) (D : HP), I6 x1 x3 D → WP mX6_digest Q 6 [vR 56, vL x1, vU, vI x3] [] D := fun x1 x3 D hI => (IH (u6 x1 x3 D * 5 + 4 + 1)).1 x1 x3 D hI (by omega)
  have cut33_ : ∀ (x1 x3 : Int) (D : HP), I33 x1 x3 D → WP mX6_digest Q 33 [vR 56, vL x1, vU, vI x3] [] D := fun x1 x3 D hI => (IH (u33 x1 x3 D * 5 + 3 + 1)).2.1 x1 x3 D hI (by omega)
  have cut59_ : ∀ (x1 x3 : Int) (D : HP), I59 x1 x3 D → WP mX6_digest Q 59 [vR 56, vL x1, vU, vI x3] [] D := fun x1 x3 D hI => (IH (u59 x1 x3 D * 5 + 2 + 1)).2.2.1 x1 x3 D hI (by omega)
  have cut97_ : ∀ (x1 x3 : Int) (D : HP), I97 x1 x3 D → WP mX6_digest Q 97 [vR 56, vL x1, vU, vI x3] [] D := fun x1 x3 D hI => (IH (u97 x1 x3 D * 5 + 1 + 1)).2.2.2.1 x1 x3 D hI (by omega)
  have cut120_ : ∀ (x1 x3 : Int) (D : HP), I120 x1 x3 D → WP mX6_digest Q 120 [vR 56, vL x1, vU, vI x3] [] D := fun x1 x3 D hI => (IH (u120 x1 x3 D * 5 + 0 + 1)).2.2.2.2 x1 x3 D hI (by omega)
  refine WP_cD (fun hcD => ?_)
  have h := h0 hcD
  refine WP_ldc2 (z := 17) wm_967 dX6_digest_0 (by decide +kernel) ?_
  refine WP_lstore_n (ls1 := [vR 56, vL 17, vU, vU]) dX6_digest_3 (by decide) rfl ?_
  refine WP_iconst (z := 0) dX6_digest_4 rfl ⟨by decide, by decide⟩ ?_
  refine WP_istore_n (ls1 := [vR 56, vL 17, vU, vI 0]) dX6_digest_5 (by decide) rfl ?_
  exact cut6_ _ _ _ h
