/-! ===== the class: sets of candidates are bits ===== -/
theorem ior_k : ∀ n : Nat, n < 256 → ∀ k : Nat, k < 8 → b_ior (n : Int) (b_ishl 1 (k : Int)) = ((n ||| 2 ^ k : Nat) : Int) := by decide +kernel
theorem has_k : ∀ n : Nat, n < 256 → ∀ k : Nat, k < 8 → (if b_iand (b_ishr (n : Int) (k : Int)) 1 = 1 then (1 : Int) else 0) = if n.testBit k = true then 1 else 0 := by decide +kernel
theorem shl_k : ∀ k : Nat, k < 8 → b_ishl 1 (k : Int) = ((2 ^ k : Nat) : Int) := by decide +kernel
theorem tb255 {i : Nat} : (255 : Nat).testBit i = decide (i < 8) := Nat.testBit_two_pow_sub_one 8 i
theorem tbout {n i : Nat} (h : n < 256) (hi : 8 ≤ i) : n.testBit i = false := Nat.testBit_lt_two_pow (Nat.lt_of_lt_of_le h (Nat.pow_le_pow_right (by decide) hi : 2 ^ 8 ≤ 2 ^ i))
theorem bv32 {n : Nat} : (Int32.ofInt (n : Int)).toBitVec = BitVec.ofNat 32 n := by
  show BitVec.ofInt 32 (n : Int) = _
  exact BitVec.ofInt_natCast 32 n
theorem andn_k {n m : Nat} (hn : n < 256) (hm : m < 256) : b_iand (n : Int) (b_ixor (m : Int) (-1)) = ((n &&& (255 ^^^ m) : Nat) : Int) := by
  have hl : n &&& (255 ^^^ m) < 2 ^ 8 := Nat.and_lt_two_pow _ (Nat.xor_lt_two_pow (by decide) hm)
  unfold b_iand b_ixor
  rw [ofInt_toInt32]
  have e : Int32.ofInt (n : Int) &&& (Int32.ofInt (m : Int) ^^^ Int32.ofInt (-1)) = nI (n &&& (255 ^^^ m)) := by
    apply Int32.toBitVec_inj.1
    rw [Int32.toBitVec_and, Int32.toBitVec_xor, bv32, bv32]
    show _ = (Int32.ofInt ((n &&& (255 ^^^ m) : Nat) : Int)).toBitVec
    rw [bv32]
    apply BitVec.eq_of_getLsbD_eq
    intro i hi
    rw [show (Int32.ofInt (-1)).toBitVec = BitVec.allOnes 32 by decide]
    simp only [BitVec.getLsbD_and, BitVec.getLsbD_xor, BitVec.getLsbD_ofNat, BitVec.getLsbD_allOnes, Nat.testBit_and, Nat.testBit_xor, tb255, hi, decide_true, Bool.true_and]
    by_cases q : i < 8
    · simp [q, Bool.xor_comm]
    · have := tbout hn (i := i) (by omega)
      simp [this]
  rw [e, nI_toInt (by omega)]
theorem ior_n {n m : Nat} (hn : n < 256) (hm : m < 256) : b_ior (n : Int) (m : Int) = ((n ||| m : Nat) : Int) := by
  have hl : n ||| m < 2 ^ 8 := Nat.or_lt_two_pow hn hm
  unfold b_ior
  have e : Int32.ofInt (n : Int) ||| Int32.ofInt (m : Int) = nI (n ||| m) := by
    apply Int32.toBitVec_inj.1
    rw [Int32.toBitVec_or, bv32, bv32]
    show _ = (Int32.ofInt ((n ||| m : Nat) : Int)).toBitVec
    rw [bv32]
    apply BitVec.eq_of_getLsbD_eq
    intro i hi
    simp only [BitVec.getLsbD_or, BitVec.getLsbD_ofNat, Nat.testBit_or, hi, decide_true, Bool.true_and]
  rw [e, nI_toInt (by omega)]
theorem cnt_k : ∀ n : Nat, n < 256 → fJ6_bitCount_0f7a4 (fun _ _ => 0) (n : Int) = cntB n.testBit 8 := by decide +kernel
/-- a set of candidates, as a word -/
def BS (x : Int) (p : Nat → Bool) : Prop := ∃ n : Nat, n < 256 ∧ x = (n : Int) ∧ ∀ k : Nat, k < 8 → n.testBit k = p k
theorem BS.z : BS 0 (fun _ => false) := ⟨0, by decide, rfl, fun k _ => Nat.zero_testBit k⟩
theorem BS.add {x : Int} {p : Nat → Bool} (h : BS x p) {k : Nat} (hk : k < 8) : BS (b_ior x (b_ishl 1 (k : Int))) (fun j => p j || decide (j = k)) := by
  obtain ⟨n, hn, rfl, hp⟩ := h
  have hl : n ||| 2 ^ k < 2 ^ 8 := Nat.or_lt_two_pow hn (Nat.pow_lt_pow_right (by decide) hk)
  refine ⟨_, hl, ior_k n hn k hk, fun j hj => ?_⟩
  rw [Nat.testBit_or, hp j hj, Nat.testBit_two_pow]
  congr 1
  exact decide_eq_decide.2 ⟨fun h => h.symm, fun h => h.symm⟩
theorem BS.or {x y : Int} {p q : Nat → Bool} (h : BS x p) (g : BS y q) : BS (b_ior x y) (fun j => p j || q j) := by
  obtain ⟨n, hn, rfl, hp⟩ := h
  obtain ⟨m, hm, rfl, hq⟩ := g
  refine ⟨_, (Nat.or_lt_two_pow hn hm : _ < 2 ^ 8), ior_n hn hm, fun j hj => ?_⟩
  rw [Nat.testBit_or, hp j hj, hq j hj]
theorem BS.but {x y : Int} {p q : Nat → Bool} (h : BS x p) (g : BS y q) : BS (b_iand x (b_ixor y (-1))) (fun j => p j && !(q j)) := by
  obtain ⟨n, hn, rfl, hp⟩ := h
  obtain ⟨m, hm, rfl, hq⟩ := g
  refine ⟨_, (Nat.and_lt_two_pow _ (Nat.xor_lt_two_pow (by decide) hm) : _ < 2 ^ 8), andn_k hn hm, fun j hj => ?_⟩
  rw [Nat.testBit_and, Nat.testBit_xor, tb255, hp j hj, hq j hj]
  simp [hj]
theorem BS.has {D : HP} {x : Int} {p : Nat → Bool} (h : BS x p) {k : Nat} (hk : k < 8) : fX0_has D x k = if p k = true then 1 else 0 := by
  obtain ⟨n, hn, rfl, hp⟩ := h
  unfold fX0_has
  rw [has_k n hn k hk, hp k hk]
theorem BS.eq {x : Int} {p q : Nat → Bool} (h : BS x p) (e : ∀ k, k < 8 → p k = q k) : BS x q := by
  obtain ⟨n, hn, rfl, hp⟩ := h
  exact ⟨n, hn, rfl, fun k hk => (hp k hk).trans (e k hk)⟩
theorem BS.em {x : Int} {p : Nat → Bool} (h : BS x p) : x = 0 ↔ ∀ k, k < 8 → p k = false := by
  obtain ⟨n, hn, rfl, hp⟩ := h
  constructor
  · intro e k hk
    obtain rfl : n = 0 := by omega
    rw [← hp k hk]
    exact Nat.zero_testBit k
  · intro e
    have : n = 0 := Nat.eq_of_testBit_eq fun i => by
      rw [Nat.zero_testBit]
      by_cases q : i < 8
      · rw [hp i q, e i q]
      · exact tbout hn (by omega)
    omega
theorem BS.one {k : Nat} (hk : k < 8) : BS (b_ishl 1 (k : Int)) (fun j => decide (j = k)) := by
  refine ⟨2 ^ k, (Nat.pow_lt_pow_right (by decide) hk : _ < 2 ^ 8), shl_k k hk, fun j _ => ?_⟩
  rw [Nat.testBit_two_pow]
  exact decide_eq_decide.2 ⟨fun h => h.symm, fun h => h.symm⟩
theorem BS.cnt {D : HP} {x : Int} {p : Nat → Bool} (h : BS x p) : fJ6_bitCount_0f7a4 D x = cntB p 8 := by
  obtain ⟨n, hn, rfl, hp⟩ := h
  exact (cnt_k n hn).trans (cntB_congr hp)
theorem BS.c {x : Int} {p : Nat → Bool} (h : BS x p) : 0 ≤ x ∧ x < 256 := by
  obtain ⟨n, hn, rfl, hp⟩ := h
  omega
