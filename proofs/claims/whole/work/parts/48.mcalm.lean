/-- a scene with other forces -/
def sc5 (S : SC) (f : Nat → Int) : SC := fun a i => if a = 5 then f i else S a i
theorem sc5_r (S : SC) (f : Nat → Int) {a : Nat} (i : Nat) (h : a ≠ 5) : sc5 S f a i = S a i := if_neg h
theorem sc5_me (S : SC) : sc5 S (S 5) = S := by
  funext a i
  unfold sc5
  by_cases h : a = 5
  · rw [if_pos h, h]
  · rw [if_neg h]
def clF (S : SC) (bit : Nat → Bool) : Nat → Int := fun i => if bit i = true then S 5 i else 0
def clS (S : SC) (bit : Nat → Bool) : SC := sc5 S (clF S bit)
theorem MS5 {D : HP} {S : SC} {f g : Nat → Int} (h : MS D (sc5 S f)) (e : ∀ i : Nat, (i : Int) < S 0 2 → f i = g i) : MS D (sc5 S g) :=
  ⟨h.1, h.2.1, fun m hm => ⟨(h.2.2.1 m hm).1, (h.2.2.1 m hm).2.trans (e m hm)⟩, h.2.2.2⟩
theorem OKS_cl {S : SC} (h : OKS S) (bit : Nat → Bool) : OKS (clS S bit) := by
  refine ⟨h.1, h.2.1, h.2.2.1, h.2.2.2.1, h.2.2.2.2.1, fun m hm => ⟨(h.2.2.2.2.2.1 m hm).1, ?_⟩, h.2.2.2.2.2.2⟩
  have := (h.2.2.2.2.2.1 m hm).2
  show 0 ≤ clF S bit m ∧ clF S bit m ≤ 9
  unfold clF
  split <;> omega
/-- the weight of a calm -/
def wgB (c : Int) (bit : Nat → Bool) : Nat → Int
  | 0 => 1
  | m + 1 => wgB c bit m * (if bit m = true then c else 16 - c)
theorem wgB_in {c : Int} (hc : 0 ≤ c ∧ c ≤ 16) (bit : Nat → Bool) : ∀ m : Nat, 0 ≤ wgB c bit m ∧ wgB c bit m ≤ 16 ^ m
  | 0 => by simp [wgB]
  | m + 1 => by
    have ih := wgB_in hc bit m
    rw [wgB]
    have h1 : 0 ≤ (if bit m = true then c else 16 - c) ∧ (if bit m = true then c else 16 - c) ≤ 16 := by split <;> omega
    refine ⟨Int.mul_nonneg ih.1 h1.1, ?_⟩
    rw [Int.pow_succ]
    exact Int.mul_le_mul ih.2 h1.2 h1.1 (by exact Int.pow_nonneg (by decide))
/-- one calm's share -/
def shB (S : SC) (c k : Int) (bit : Nat → Bool) : Int := if lin (clS S bit) = k then wgB c bit (S 0 2).toNat else 0
def smB (S : SC) (c k : Int) : Nat → Int
  | 0 => 0
  | n + 1 => smB S c k n + shB S c k (n.testBit)
theorem p16 {M : Nat} (h : M ≤ 12) : (16 : Int) ^ M ≤ 281474976710656 := by
  rcases (show M = 0 ∨ M = 1 ∨ M = 2 ∨ M = 3 ∨ M = 4 ∨ M = 5 ∨ M = 6 ∨ M = 7 ∨ M = 8 ∨ M = 9 ∨ M = 10 ∨ M = 11 ∨ M = 12 by omega) with rfl | rfl | rfl | rfl | rfl | rfl | rfl | rfl | rfl | rfl | rfl | rfl | rfl <;> decide +kernel
theorem smB_in {S : SC} (h : OKS S) {c k : Int} (hc : 0 ≤ c ∧ c ≤ 16) : ∀ n : Nat, 0 ≤ smB S c k n ∧ smB S c k n ≤ n * 281474976710656
  | 0 => by simp [smB]
  | n + 1 => by
    have ih := smB_in h hc (k := k) n
    have h2 := h.2.2.1
    have hw := wgB_in hc (n.testBit) (S 0 2).toNat
    have hp := p16 (M := (S 0 2).toNat) (by omega)
    rw [smB]
    unfold shB
    split <;> omega
def vCalmOf (S : SC) (c : Int) (k : Nat) (b : Int) : Int :=
  if b = 0 then smB S c k (2 ^ (S 0 2).toNat) / (Int.gcd (smB S c k (2 ^ (S 0 2).toNat)) (2 ^ (4 * (S 0 2).toNat)) : Int) else (2 ^ (4 * (S 0 2).toNat)) / (Int.gcd (smB S c k (2 ^ (S 0 2).toNat)) (2 ^ (4 * (S 0 2).toNat)) : Int)
def vCalm (S : SC) (c a b : Int) : Int := if (0 ≤ c ∧ c ≤ 16) ∧ (0 ≤ a ∧ a < S 0 3) ∧ 0 ≤ b ∧ b ≤ 1 then vCalmOf S c a.toNat b else -9223372036854775806
theorem isInM (D : HP) {n m : Nat} (hn : n < 4096) (hm : m < 12) : fX6_isIn D n m = if n.testBit m = true then 1 else 0 := by
  have hs : ((Int32.ofInt (m : Int) &&& 31).toBitVec.smod 32).toNat = m := by
    rcases (show m = 0 ∨ m = 1 ∨ m = 2 ∨ m = 3 ∨ m = 4 ∨ m = 5 ∨ m = 6 ∨ m = 7 ∨ m = 8 ∨ m = 9 ∨ m = 10 ∨ m = 11 by omega) with rfl | rfl | rfl | rfl | rfl | rfl | rfl | rfl | rfl | rfl | rfl | rfl <;> decide +kernel
  have e : Int32.ofInt (n : Int) = nI n := rfl
  have hd : n / 2 ^ m ≤ n := Nat.div_le_self _ _
  unfold fX6_isIn b_iand b_ishr
  rw [ofInt_toInt32, e, pk_shrN (by omega) _ m hs, pk_andN (n := n / 2 ^ m) (by omega) 1 (by decide +kernel), nI_toInt (by omega), Nat.testBit_eq_decide_div_mod_eq]
  by_cases q : n / 2 ^ m % 2 = 1
  · rw [if_pos (by omega), if_pos (decide_eq_true q)]
  · rw [if_neg (by omega), if_neg (by simpa using q)]
theorem shl1 {M : Nat} (h : M ≤ 12) : b_ishl 1 M = ((2 ^ M : Nat) : Int) ∧ b_lshl 1 (4 * (M : Int)) = 2 ^ (4 * M) := by
  rcases (show M = 0 ∨ M = 1 ∨ M = 2 ∨ M = 3 ∨ M = 4 ∨ M = 5 ∨ M = 6 ∨ M = 7 ∨ M = 8 ∨ M = 9 ∨ M = 10 ∨ M = 11 ∨ M = 12 by omega) with rfl | rfl | rfl | rfl | rfl | rfl | rfl | rfl | rfl | rfl | rfl | rfl | rfl <;> decide +kernel
theorem p2 {M : Nat} (h : M ≤ 12) : 2 ^ M ≤ 4096 := Nat.le_trans (Nat.pow_le_pow_right (by decide) h) (by decide)
set_option maxHeartbeats 4000000 in
theorem C_calmOf {D : HP} (hT : TXM D) {c : Int} (hc : 0 ≤ c ∧ c ≤ 16) {k : Nat} (hk : (k : Int) < tS D 0 3) (b : Int) : CT mX6_calmOf [vR 56, vI c, vI k, vI b] D (fun v E => v = some (vL (vCalmOf (tS D) c k b)) ∧ FRw D E) := by
  have hok := tS_ok hT
  generalize hS : tS D = S at *
  have h2 := hok.2.2.1
  obtain ⟨M, hM0⟩ : ∃ M : Nat, S 0 2 = M := ⟨(S 0 2).toNat, by omega⟩
  have hM12 : M ≤ 12 := by omega
  have hMt : (S 0 2).toNat = M := by omega
  have hp2 := p2 hM12
  have hsh := shl1 hM12
  refine V_X6_calmOf c k b
    (I10 := fun x1 x2 x3 x4 x6 E => (x1 = c ∧ x2 = k ∧ x3 = b) ∧ FRw D E ∧ x4 = 0 ∧ MS E (sc5 S (S 5)) ∧ ∃ j : Nat, x6 = j ∧ j ≤ M ∧ ∀ i : Nat, i < j → E 74 i = S 5 i) (u10 := fun _ _ _ _ x6 _ => ((12 - x6) + 1000000).toNat)
    (I42 := fun x1 x2 x3 x4 x6 E => (x1 = c ∧ x2 = k ∧ x3 = b) ∧ FRw D E ∧ (∃ f, MS E (sc5 S f)) ∧ (∀ i : Nat, i < M → E 74 i = S 5 i) ∧ ∃ n : Nat, x6 = n ∧ n ≤ 2 ^ M ∧ x4 = smB S c k n) (u42 := fun _ _ _ _ x6 _ => ((4096 - x6) * 100).toNat)
    (I59 := fun x1 x2 x3 x4 x6 x7 x9 E => (x1 = c ∧ x2 = k ∧ x3 = b) ∧ FRw D E ∧ (∀ i : Nat, i < M → E 74 i = S 5 i) ∧ ∃ n j : Nat, x6 = n ∧ n < 2 ^ M ∧ x4 = smB S c k n ∧ x9 = j ∧ j ≤ M ∧ x7 = wgB c (n.testBit) j ∧ ∃ f, MS E (sc5 S f) ∧ ∀ i : Nat, i < j → f i = clF S (n.testBit) i) (u59 := fun _ _ _ _ x6 _ x9 _ => ((4096 - x6) * 100 - x9 - 1).toNat) (fun _ _ _ _ => ⟨_, C_reads hT, ?_⟩) ?_ ?_ ?_
  · rintro E ⟨-, hM, hF⟩ _
    rw [hS] at hM
    exact ⟨⟨rfl, rfl, rfl⟩, hF.w, rfl, by rw [sc5_me]; exact hM, 0, rfl, Nat.zero_le _, fun i hi => absurd hi (Nat.not_lt_zero _)⟩
  · rintro x1 x2 x3 x4 x6 E ⟨⟨rfl, rfl, rfl⟩, hF, rfl, hM, j, rfl, hj, h74⟩ hcD _ _ _ _ _
    have e5 : E 56 5 = M := hM.1.2.2.1.trans hM0
    rw [e5]
    refine ⟨fun hcc => ⟨⟨⟨rfl, rfl, rfl⟩, hF, ⟨_, hM⟩, fun i hi => h74 i (by omega), 0, rfl, Nat.zero_le _, rfl⟩, by omega⟩, fun hcc => ⟨by omega, by omega, ?_⟩⟩
    rintro F hF1
    rw [Int.toNat_natCast, (hM.2.2.1 j (by show (j : Int) < S 0 2; omega)).2] at hF1
    refine ⟨by unfold c32; omega, ⟨⟨rfl, rfl, rfl⟩, hF.tr (fun a i q1 q2 => by rw [hF1, hu_k _ _ (by omega)]), rfl, MS_of hM (fun a i q => by rw [hF1, hu_k _ _ (by omega)]), j + 1, by omega, by omega, fun i hi => ?_⟩, by omega⟩
    by_cases q : i = j
    · rw [q, hF1, hu_s]; rfl
    · rw [hF1, hu_i _ _ q]; exact h74 i (by omega)
  · rintro x1 x2 x3 x4 x6 E ⟨⟨rfl, rfl, rfl⟩, hF, ⟨f, hM⟩, h74, n, rfl, hn, rfl⟩ hcD _ _ _ _ _
    have e5 : E 56 5 = M := hM.1.2.2.1.trans hM0
    rw [e5, hsh.1, hsh.2]
    have hsm := smB_in hok hc (k := k) n
    refine ⟨fun hcc => ⟨by unfold c32; omega, ⟨hsm.1, Int.pow_pos (by decide)⟩, ?_, hF⟩, fun hcc => ⟨⟨⟨rfl, rfl, rfl⟩, hF, h74, n, 0, rfl, by omega, rfl, rfl, Nat.zero_le _, rfl, f, hM, fun i hi => absurd hi (Nat.not_lt_zero _)⟩, by omega⟩⟩
    have e : n = 2 ^ M := by omega
    rw [e]
    unfold vCalmOf fX6_lowest
    rw [hMt]
  · rintro x1 x2 x3 x4 x6 x7 x9 E ⟨⟨rfl, rfl, rfl⟩, hF, h74, n, j, rfl, hn, rfl, rfl, hj, rfl, f, hM, hf⟩ hcD _ _ _ _ _ _ _
    have e5 : E 56 5 = M := hM.1.2.2.1.trans hM0
    rw [e5]
    have hsm := smB_in hok hc (k := k) n
    have hw := wgB_in hc (n.testBit) j
    have hp := p16 (M := j) (by omega)
    refine ⟨fun hcc => ?_, fun hcc => ?_⟩
    · have ej : j = M := by omega
      subst ej
      have hMc : MS E (clS S (n.testBit)) := MS5 hM (fun i hi => hf i (by omega))
      have hoc := OKS_cl hok (n.testBit)
      refine ⟨_, C_runs' hoc hMc, ?_⟩
      rintro G ⟨-, hR, hMG, hGw, hfr⟩ _
      rw [linM hMG hR hoc]
      have e4 : smB S x1 k n + (if lin (clS S (n.testBit)) = (k : Int) then wgB x1 (n.testBit) j else 0) = smB S x1 k (n + 1) := by
        rw [smB]; unfold shB; rw [hMt]
      rw [e4]
      have hs1 := smB_in hok hc (k := k) (n + 1)
      refine ⟨linMo hMG hoc, by unfold c64; omega, ?_⟩
      rintro v rfl
      clear hs1 hw hp hsm
      have g1 : (n : Int) < 4096 := by omega
      have g2 : (j : Int) ≤ 12 := by omega
      have g3 : ((4096 - ((n : Int) + 1)) * 100).toNat < ((4096 - (n : Int)) * 100 - (j : Int) - 1).toNat := by
        clear hn hp2 hsh hcc hk h2 hM0 hM12 hMt
        omega
      have g4 : c32 ((n : Int) + 1) := ⟨by omega, by omega⟩
      have g5 : n + 1 ≤ 2 ^ j := hn
      have g6 : (n : Int) + 1 = ((n + 1 : Nat) : Int) := rfl
      have g7 : ∀ i : Nat, i < j → G 74 i = S 5 i := fun i hi => by rw [hfr 74 i (by omega)]; exact h74 i hi
      have g8 : ∃ f, MS G (sc5 S f) := ⟨_, hMG⟩
      exact ⟨g4, ⟨⟨rfl, rfl, rfl⟩, hF.tr hGw, g8, g7, n + 1, g6, g5, rfl⟩, g3⟩
    · rw [isInM E (by omega) (by omega)]
      have e7 : wgB x1 (n.testBit) j * (if (if n.testBit j = true then (1 : Int) else 0) = 0 then (16 - x1 : Int) else x1) = wgB x1 (n.testBit) (j + 1) := by
        rw [wgB]
        cases n.testBit j <;> rfl
      rw [e7]
      have hw1 := wgB_in hc (n.testBit) (j + 1)
      have hp1 := p16 (M := j + 1) (by omega)
      refine ⟨⟨fun _ => by unfold c32; omega, fun _ => trivial⟩, by unfold c64; omega, ?_⟩
      rintro v rfl
      refine ⟨⟨fun _ => trivial, fun _ => by omega⟩, by omega, ?_⟩
      rintro F hF1
      rw [Int.toNat_natCast, h74 j (by omega)] at hF1
      have hz : (if (if n.testBit j = true then (1 : Int) else 0) = 0 then (0 : Int) else S 5 j) = clF S (n.testBit) j := by
        unfold clF
        cases n.testBit j <;> rfl
      rw [hz] at hF1
      have hMF := MS_up hM (r := 5) (by decide) j (clF S (n.testBit) j)
      have eU : upS (sc5 S f) 5 j (clF S (n.testBit) j) = sc5 S (fun i => if i = j then clF S (n.testBit) j else f i) := by
        funext a i
        unfold upS sc5
        by_cases q : a = 5
        · by_cases y : i = j <;> simp [q, y]
        · simp [q]
      rw [eU] at hMF
      refine ⟨by unfold c32; omega, ⟨⟨rfl, rfl, rfl⟩, hF.tr (fun a i q1 q2 => by rw [hF1, hu_k _ _ (by omega)]), fun i hi => by rw [hF1, hu_k _ _ (by decide)]; exact h74 i hi, n, j + 1, rfl, hn, rfl, by omega, by omega, rfl, _, by rw [hF1]; exact hMF, fun i hi => ?_⟩, by omega⟩
      by_cases q : i = j
      · rw [if_pos q, q]
      · rw [if_neg q]; exact hf i (by omega)
theorem M_calm {D : HP} (hT : TXM D) (c a b : Int) : CT mX6_calm [vR 56, vI c, vI a, vI b] D (fun v E => v = some (vL (vCalm (tS D) c a b)) ∧ FRw D E) := by
  have eno : ∀ E : HP, fX6_no E (-2) = -9223372036854775806 := fun E => by unfold fX6_no; decide +kernel
  refine V_X6_calm c a b (fun _ _ _ _ => ⟨fun h => ?_, fun h => ⟨_, C_isCandidate hT a, ?_⟩⟩)
  · rw [wi1] at h
    rw [eno]
    exact ⟨by unfold vCalm; rw [if_neg (fun q => h q.1)], FRw.rf D⟩
  rw [wi1] at h
  have h := Decidable.of_not_not h
  rintro r E ⟨hr, hM, hF⟩ _ _
  have hr := vIj hr
  subst hr
  rw [eno]
  unfold vCalm
  by_cases q : 0 ≤ a ∧ a < tS D 0 3
  · rw [if_pos q]
    refine ⟨fun z => absurd z (by decide), fun _ => ⟨fun h2 => ?_, fun h2 => ?_⟩⟩
    · rw [wi1] at h2
      exact ⟨by rw [if_neg (fun y => h2 y.2.2)], hF⟩
    · rw [wi1] at h2
      have h2 := Decidable.of_not_not h2
      have e := C_calmOf (hF.TX hT) h (k := a.toNat) (by rw [hF.S]; omega) b
      rw [hF.S, show ((a.toNat : Nat) : Int) = a by omega] at e
      refine ⟨_, e, ?_⟩
      rintro r K ⟨hr, hF3⟩ _ _
      rw [if_pos ⟨h, q, h2⟩]
      exact ⟨hr, hF.tr hF3⟩
  · rw [if_neg q]
    exact ⟨fun _ => ⟨by rw [if_neg (fun y => q y.2.1)], hF⟩, fun z => absurd rfl z⟩
