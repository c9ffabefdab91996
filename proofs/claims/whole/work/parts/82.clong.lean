/-! ===== the class: sets of gusts are long words ===== -/
theorem bv64 {n : Nat} : (Int64.ofInt (n : Int)).toBitVec = BitVec.ofNat 64 n := by
  show BitVec.ofInt 64 (n : Int) = _
  exact BitVec.ofInt_natCast 64 n
theorem lshl_k : ∀ k : Nat, k < 40 → b_lshl 1 (k : Int) = ((2 ^ k : Nat) : Int) := by decide +kernel
theorem lsh_amt : ∀ k : Nat, k < 64 → ((Int32.ofInt (k : Int)).toInt64 &&& 63).toBitVec.smod 64 = BitVec.ofNat 64 k := by decide +kernel
/-- a set of numbers under 40, as a word -/
def LW (x : Int) (p : Nat → Bool) : Prop := ∃ n : Nat, n < 2 ^ 40 ∧ x = (n : Int) ∧ ∀ k : Nat, k < 40 → n.testBit k = p k
theorem LW.z : LW 0 (fun _ => false) := ⟨0, by decide, rfl, fun k _ => Nat.zero_testBit k⟩
theorem LW.eq {x : Int} {p q : Nat → Bool} (h : LW x p) (e : ∀ k, k < 40 → p k = q k) : LW x q := by
  obtain ⟨n, hn, rfl, hp⟩ := h
  exact ⟨n, hn, rfl, fun k hk => (hp k hk).trans (e k hk)⟩
theorem lor_n {n m : Nat} (hn : n < 2 ^ 40) (hm : m < 2 ^ 40) : b_lor (n : Int) (m : Int) = ((n ||| m : Nat) : Int) := by
  have hl : n ||| m < 2 ^ 40 := Nat.or_lt_two_pow hn hm
  unfold b_lor
  have e : Int64.ofInt (n : Int) ||| Int64.ofInt (m : Int) = Int64.ofInt ((n ||| m : Nat) : Int) := by
    apply Int64.toBitVec_inj.1
    rw [Int64.toBitVec_or, bv64, bv64, bv64]
    apply BitVec.eq_of_getLsbD_eq
    intro i hi
    simp only [BitVec.getLsbD_or, BitVec.getLsbD_ofNat, Nat.testBit_or, hi, decide_true, Bool.true_and]
  rw [e, ti64 ⟨by omega, by omega⟩]
theorem LW.add {x : Int} {p : Nat → Bool} (h : LW x p) {k : Nat} (hk : k < 40) : LW (b_lor x (b_lshl 1 (k : Int))) (fun j => p j || decide (j = k)) := by
  obtain ⟨n, hn, rfl, hp⟩ := h
  have h2 : 2 ^ k < 2 ^ 40 := Nat.pow_lt_pow_right (by decide) hk
  refine ⟨_, (Nat.or_lt_two_pow hn h2 : _ < 2 ^ 40), by rw [lshl_k k hk, lor_n hn h2], fun j hj => ?_⟩
  rw [Nat.testBit_or, hp j hj, Nat.testBit_two_pow]
  congr 1
  exact decide_eq_decide.2 ⟨fun h => h.symm, fun h => h.symm⟩
theorem lshr_n {n k : Nat} (hn : n < 2 ^ 62) (hk : k < 64) : Int64.ofInt (n : Int) >>> ((Int32.ofInt (k : Int)).toInt64 &&& 63) = Int64.ofInt ((n / 2 ^ k : Nat) : Int) := by
  apply Int64.toBitVec_inj.1
  rw [Int64.toBitVec_shiftRight, lsh_amt k hk, bv64, bv64]
  have hm : (BitVec.ofNat 64 n).msb = false := by
    rw [BitVec.msb_eq_decide, BitVec.toNat_ofNat]
    exact decide_eq_false (by omega)
  rw [show (BitVec.ofNat 64 n).sshiftRight' (BitVec.ofNat 64 k) = (BitVec.ofNat 64 n).sshiftRight (BitVec.ofNat 64 k).toNat from rfl, BitVec.sshiftRight_eq_of_msb_false hm]
  apply BitVec.eq_of_toNat_eq
  have hd : n / 2 ^ k ≤ n := Nat.div_le_self _ _
  rw [BitVec.toNat_ushiftRight, BitVec.toNat_ofNat, BitVec.toNat_ofNat, BitVec.toNat_ofNat, Nat.mod_eq_of_lt (show n < 2 ^ 64 by omega), Nat.mod_eq_of_lt (show k < 2 ^ 64 by omega), Nat.mod_eq_of_lt (show n / 2 ^ k < 2 ^ 64 by omega), Nat.shiftRight_eq_div_pow]
theorem land1 {n : Nat} (hn : n < 2 ^ 62) : Int64.ofInt (n : Int) &&& Int64.ofInt 1 = Int64.ofInt ((n % 2 : Nat) : Int) := by
  apply Int64.toBitVec_inj.1
  rw [Int64.toBitVec_and, bv64, bv64, show (Int64.ofInt 1).toBitVec = BitVec.ofNat 64 1 by decide]
  apply BitVec.eq_of_toNat_eq
  rw [BitVec.toNat_and, BitVec.toNat_ofNat, BitVec.toNat_ofNat, BitVec.toNat_ofNat, Nat.mod_eq_of_lt (show n < 2 ^ 64 by omega), Nat.mod_eq_of_lt (show n % 2 < 2 ^ 64 by omega), show 1 % 2 ^ 64 = 1 from rfl, Nat.and_one_is_mod]
theorem lhas {n k : Nat} (hn : n < 2 ^ 40) (hk : k < 40) : b_land (b_lshr (n : Int) (k : Int)) 1 = if n.testBit k = true then 1 else 0 := by
  have hd : n / 2 ^ k ≤ n := Nat.div_le_self _ _
  unfold b_land b_lshr
  rw [ofInt_toInt64, lshr_n (by omega) (by omega), land1 (by omega), Nat.testBit_eq_decide_div_mod_eq, ti64 ⟨by omega, by omega⟩]
  by_cases q : n / 2 ^ k % 2 = 1
  · rw [if_pos (decide_eq_true q), q]; rfl
  · rw [if_neg (by simpa using q), show n / 2 ^ k % 2 = 0 by omega]; rfl
theorem LW.has {x : Int} {p : Nat → Bool} (h : LW x p) {k : Nat} (hk : k < 40) : b_land (b_lshr x (k : Int)) 1 = if p k = true then 1 else 0 := by
  obtain ⟨n, hn, rfl, hp⟩ := h
  rw [lhas hn hk, hp k hk]
theorem LW.stp {x x' : Int} {p : Nat → Bool} {n : Nat} (h : LW x (fun k => decide (k < n) && p k)) (hn : n < 40) (e : x' = if p n = true then b_lor x (b_lshl 1 (n : Int)) else x) : LW x' (fun k => decide (k < n + 1) && p k) := by
  rw [e]
  by_cases q : p n = true
  · rw [if_pos q]
    refine (h.add hn).eq fun k _ => ?_
    by_cases y : k = n
    · subst y; simp [q]
    · simp only [y, decide_false, Bool.or_false]
      rw [decide_eq_decide.2 (show k < n + 1 ↔ k < n by omega)]
  · rw [if_neg q]
    refine h.eq fun k _ => ?_
    by_cases y : k = n
    · subst y; simp [q]
    · rw [decide_eq_decide.2 (show k < n + 1 ↔ k < n by omega)]
/-! ===== scenes that agree ahead of a minute ===== -/
def AG (T S : SC) (m : Nat) : Prop := ∀ a i, ((a ≠ 4 ∧ a ≠ 5) ∨ i < m) → T a i = S a i
section AGR
variable {T S : SC} {m : Nat}
theorem ag_bes (h : AG T S m) (c w : Int) : bes T c w = bes S c w := by
  unfold bes
  rw [h 0 0 (Or.inl (by decide)), h 0 1 (Or.inl (by decide))]
theorem ag_wal (h : AG T S m) (c : Int) : wal T c = wal S c := by
  unfold wal
  rw [h 1 _ (Or.inl (by decide))]
theorem ag_lee (h : AG T S m) (t : Nat → Int) (j c : Int) : leeS T t j c = leeS S t j c := by
  unfold leeS
  have e6 : ∀ k, T 6 k = S 6 k := fun k => h 6 k (Or.inl (by decide))
  have e1 : ∀ k, T 1 k = S 1 k := fun k => h 1 k (Or.inl (by decide))
  simp only [e6, e1, h 0 3 (Or.inl (by decide))]
theorem ag_wnd (h : AG T S m) (t : Nat → Int) {j : Nat} (hj : j < m) (c : Int) : wnd T t j c = wnd S t j c := by
  have e4 : T 4 j = S 4 j := h 4 j (Or.inr hj)
  have e5 : T 5 j = S 5 j := h 5 j (Or.inr hj)
  have w : ∀ c, wal T c = wal S c := fun c => ag_wal h c
  have b : ∀ c w, bes T c w = bes S c w := fun c w => ag_bes h c w
  unfold wnd wbs wst
  simp only [e4, e5, w, b, fun t j c => ag_lee h t j c]
theorem ag_som (h : AG T S m) (k : Nat) : som T k = som S k := by
  have e1 : ∀ k, T 1 k = S 1 k := fun k => h 1 k (Or.inl (by decide))
  unfold som
  rw [h 6 k (Or.inl (by decide)), h 0 1 (Or.inl (by decide)), e1]
theorem ag_stn (h : AG T S m) (k : Nat) (w : Int) : stn T k w = stn S k w := by
  unfold stn
  rw [h 8 k (Or.inl (by decide))]
theorem ag_rt (h : AG T S m) : ∀ j : Nat, j ≤ m → rt T j = rt S j
  | 0, _ => by
    have e7 : ∀ k, T 7 k = S 7 k := fun k => h 7 k (Or.inl (by decide))
    show (fun k => T 7 k, fun _ => (-1 : Int)) = (fun k => S 7 k, fun _ => (-1 : Int))
    simp only [e7]
  | j + 1, hj => by
    have ih := ag_rt h j (by omega)
    have s : ∀ k, som T k = som S k := fun k => ag_som h k
    have n : ∀ k w, stn T k w = stn S k w := fun k w => ag_stn h k w
    have e6 : ∀ k, T 6 k = S 6 k := fun k => h 6 k (Or.inl (by decide))
    have w : ∀ t c, wnd T t j c = wnd S t j c := fun t c => ag_wnd h t (by omega) c
    simp only [rt, ih, s, n, e6, w]
theorem ag_tu (h : AG T S m) {j : Nat} (hj : j ≤ m) : tu T j = tu S j := by unfold tu; rw [ag_rt h j hj]
theorem ag_rb (h : AG T S m) {j : Nat} (hj : j ≤ m) (k : Nat) : rb T j k = rb S j k := by unfold rb; rw [ag_rt h j hj]
theorem ag_rtd (h : AG T S m) {j : Nat} (h1 : j + 1 ≤ m) (h2 : (j : Int) + 1 < S 0 2 → j + 1 < m) (k : Nat) : rtd T j k = rtd S j k := by
  unfold rtd
  rw [h 0 2 (Or.inl (by decide)), ag_tu h h1, h 6 k (Or.inl (by decide))]
  by_cases q : (j : Int) + 1 < S 0 2
  · rw [ag_wnd h _ (h2 q)]
  · rw [decide_eq_false (fun z => q z.1), decide_eq_false (fun z => q z.1)]
theorem ag_elc (h : AG T S m) {j : Nat} (h1 : j + 1 ≤ m) (h2 : (j : Int) + 1 < S 0 2 → j + 1 < m) : ∀ n : Nat, elc T j n = elc S j n
  | 0 => rfl
  | n + 1 => by
    have ih := ag_elc h h1 h2 n
    rw [elc, elc, ih, ag_tu h h1, ag_rtd h h1 h2, ag_rb h (by omega), ag_rb h (by omega)]
theorem ag_ele (h : AG T S m) {j : Nat} (h1 : j + 1 ≤ m) (h2 : (j : Int) + 1 < S 0 2 → j + 1 < m) : ele T j = ele S j := by
  unfold ele
  rw [h 0 3 (Or.inl (by decide)), ag_elc h h1 h2]
theorem ag_inn (h : AG T S m) : ∀ {j : Nat}, j + 1 ≤ m → ((j : Int) + 1 < S 0 2 → j + 1 < m) → inn T j = inn S j
  | 0, h1, h2 => ag_ele h h1 h2
  | j + 1, h1, h2 => by
    rw [inn, inn, ag_ele h h1 h2, ag_inn h (show j + 1 ≤ m by omega) (fun _ => by omega)]
theorem RC_ag {D : HP} {o : Nat} (h : AG T S m) (hR : RC D o T m) : RC D o S m := by
  obtain ⟨⟨s1, s2⟩, hT, hr, hE⟩ := hR
  have s : ∀ k, som T k = som S k := fun k => ag_som h k
  have e6 : ∀ k, T 6 k = S 6 k := fun k => h 6 k (Or.inl (by decide))
  have e3 : T 0 3 = S 0 3 := h 0 3 (Or.inl (by decide))
  refine ⟨⟨s1.eq fun k _ => by rw [s, e3], fun c hc => (s2 c hc).eq fun k _ => by rw [s, e3, e6]⟩, fun j hj => ?_, fun j hj k hk => ?_, fun j hj => ?_⟩
  · have := hT j hj
    unfold TD at *
    rw [ag_tu h hj, e3] at this
    exact this
  · rw [← ag_rb h hj]; exact hr j hj k (by rw [e3]; exact hk)
  · obtain ⟨a, b, c⟩ := hE j hj
    rw [← ag_ele h (by omega) (fun _ => hj), ← ag_inn h (by omega) (fun _ => hj)]
    refine ⟨a, b, c.eq fun k _ => ?_⟩
    show _ = (decide ((k : Int) < S 0 3) && (decide (tu S (j + 1) k = j) && rtd S j k))
    rw [← ag_tu h (by omega), ← ag_rtd h (by omega) (fun _ => hj), ← e3]
    rfl
end AGR
theorem RC_of {D E : HP} {o : Nat} {S : SC} {m : Nat} (hR : RC D o S m) (e : ∀ a i, a = o ∨ (o + 10 ≤ a ∧ a ≤ o + 15) → E a i = D a i) : RC E o S m := by
  obtain ⟨⟨s1, s2⟩, hT, hr, hE⟩ := hR
  refine ⟨⟨by rw [e _ _ (Or.inl rfl)]; exact s1, fun c hc => by rw [e _ _ (by omega)]; exact s2 c hc⟩, fun j hj => ?_, fun j hj k hk => ?_, fun j hj => ?_⟩
  · unfold TD; rw [e _ _ (by omega)]; exact hT j hj
  · rw [e _ _ (by omega)]; exact hr j hj k hk
  · rw [e _ _ (by omega), e _ _ (by omega), e _ _ (by omega)]; exact hE j hj
theorem DC_RC {D : HP} {o : Nat} {S : SC} (h : DC D o S) {m : Nat} (hm : m ≤ (S 0 2).toNat) : RC D o S m := by
  obtain ⟨⟨hS, hT, hr, hE⟩, hD⟩ := h
  exact ⟨hS, fun j hj => hT j (by omega), fun j hj => hr j (by omega), fun j hj => hD j (by omega)⟩
theorem DC_of {D E : HP} {o : Nat} {S : SC} (h : DC D o S) (e : ∀ a i, a = o ∨ (o + 10 ≤ a ∧ a ≤ o + 15) → E a i = D a i) : DC E o S :=
  ⟨RC_of h.1 e, fun j hj => by rw [e _ _ (by omega), e _ _ (by omega), e _ _ (by omega)]; exact h.2 j hj⟩
theorem SV_of {D E : HP} {o : Nat} {S : SC} (h : SV D o S) (e : ∀ a i, a = o + 3 ∨ a = o + 4 → E a i = D a i) : SV E o S := fun w hw c hc => by
  rw [e _ _ (by omega), e _ _ (by omega)]; exact h w hw c hc
theorem TC_of {D E : HP} {o : Nat} {S : SC} (h : TC D o S) (e : ∀ a i, o ≤ a → a < o + 16 → E a i = D a i) : TC E o S :=
  ⟨h.1, h.2.1, CS_of h.2.2.1 (fun a i q => e a i (by omega) (by omega)), SV_of h.2.2.2.1 (fun a i q => e a i (by omega) (by omega)), DC_of h.2.2.2.2 (fun a i q => e a i (by omega) (by omega))⟩
theorem inn_in {S : SC} : ∀ m : Nat, inn S m = -1 ∨ (0 ≤ inn S m ∧ inn S m < (S 0 3).toNat)
  | 0 => elc_in (S := S) (m := 0) (S 0 3).toNat
  | m + 1 => by
    have h := elc_in (S := S) (m := m + 1) (S 0 3).toNat
    have ih := inn_in (S := S) m
    rw [inn]
    split
    · exact ih
    · exact h
