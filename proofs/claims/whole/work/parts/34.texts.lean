/-! ===== the texts, as both programs read them: n bytes b ===== -/
def cst (b : Nat → Int) : Nat → Int × Int × Int × Int × (Nat → Int)
  | 0 => (0, 0, 0, 5, fun _ => 0)
  | k + 1 => if b k = 59 then ((cst b k).1 + 1, 0, (cst b k).2.2.1, (if (cst b k).1 = 0 then (cst b k).2.1 else (cst b k).2.2.2.1), (cst b k).2.2.2.2)
    else ((cst b k).1, (cst b k).2.1 + 1, (cst b k).2.2.1 + 1, (cst b k).2.2.2.1, fun j => if (j : Int) = (cst b k).2.2.1 then (if b k = 35 then 1 else 0) else (cst b k).2.2.2.2 j)
def cR (b : Nat → Int) (k : Nat) : Int := (cst b k).1
def cC (b : Nat → Int) (k : Nat) : Int := (cst b k).2.1
def cN (b : Nat → Int) (k : Nat) : Int := (cst b k).2.2.1
def cM (b : Nat → Int) (k : Nat) : Int := (cst b k).2.2.2.1
def cW (b : Nat → Int) (k : Nat) : Nat → Int := (cst b k).2.2.2.2
theorem cR_s (b : Nat → Int) (k : Nat) : cR b (k + 1) = if b k = 59 then cR b k + 1 else cR b k := by unfold cR; rw [cst]; split <;> rfl
theorem cC_s (b : Nat → Int) (k : Nat) : cC b (k + 1) = if b k = 59 then 0 else cC b k + 1 := by unfold cC; rw [cst]; split <;> rfl
theorem cN_s (b : Nat → Int) (k : Nat) : cN b (k + 1) = if b k = 59 then cN b k else cN b k + 1 := by unfold cN; rw [cst]; split <;> rfl
theorem cM_s (b : Nat → Int) (k : Nat) : cM b (k + 1) = if b k = 59 then (if cR b k = 0 then cC b k else cM b k) else cM b k := by unfold cM cR cC; rw [cst]; split <;> rfl
theorem cW_s (b : Nat → Int) (k : Nat) (j : Nat) : cW b (k + 1) j = if b k = 59 then cW b k j else (if (j : Int) = cN b k then (if b k = 35 then 1 else 0) else cW b k j) := by unfold cW cN; rw [cst]; split <;> rfl
/-- the byte at k cannot go on -/
def cbad (b : Nat → Int) (k : Nat) : Bool := decide (cR b k = 5 ∨ (b k = 59 ∧ (cC b k = 0 ∨ (0 < cR b k ∧ cC b k < cM b k))) ∨ (b k ≠ 59 ∧ ((b k ≠ 46 ∧ b k ≠ 35) ∨ cC b k = cM b k)))
def cend (b : Nat → Int) (n : Nat) : Bool := decide (0 < n ∧ (cC b n = 0 ∨ (0 < cR b n ∧ cC b n < cM b n)))
def cfl (b : Nat → Int) (n : Nat) : Int := if fsN (cbad b) n = -1 then (if cend b n = true then (n : Int) else -1) else fsN (cbad b) n
def cwd (b : Nat → Int) (n : Nat) : Int := if cfl b n = -1 then (if cR b n = 0 then (if 0 < cC b n then cC b n else 1) else cM b n) else 1
def ccl (b : Nat → Int) (n : Nat) : Int := if cfl b n = -1 then cN b n else 0
theorem cinv (b : Nat → Int) : ∀ k : Nat, (∀ i, i < k → cbad b i = false) → (0 ≤ cR b k ∧ cR b k ≤ 5) ∧ (0 ≤ cC b k ∧ cC b k ≤ cM b k) ∧ (1 ≤ cM b k ∧ cM b k ≤ 5) ∧ (cR b k = 0 → cM b k = 5) ∧ cN b k = (if cR b k = 0 then 0 else cR b k * cM b k) + cC b k ∧ (cR b k = 5 → cC b k = 0) ∧ (cR b k = 0 → cC b k = k)
  | 0, _ => by unfold cR cC cN cM; simp [cst]
  | k + 1, h => by
    obtain ⟨h1, h2, h3, h4, h5, h6, h7⟩ := cinv b k (fun i hi => h i (by omega))
    have hb := h k (by omega)
    unfold cbad at hb
    rw [decide_eq_false_iff_not] at hb
    rw [cR_s, cC_s, cN_s, cM_s]
    by_cases q : b k = 59
    · have b1 : ¬ cR b k = 5 := fun z => hb (Or.inl z)
      have b2 : ¬ cC b k = 0 := fun z => hb (Or.inr (Or.inl ⟨q, Or.inl z⟩))
      have b3 : ¬ (0 < cR b k ∧ cC b k < cM b k) := fun z => hb (Or.inr (Or.inl ⟨q, Or.inr z⟩))
      rw [if_pos q, if_pos q, if_pos q, if_pos q]
      by_cases z : cR b k = 0
      · rw [if_pos z] at h5 ⊢
        rw [z]
        simp
        omega
      · have e : cC b k = cM b k := by omega
        rw [if_neg z] at h5 ⊢
        rw [if_neg (show ¬ cR b k + 1 = 0 by omega), Int.add_mul]
        omega
    · have b1 : ¬ cR b k = 5 := fun z => hb (Or.inl z)
      have b2 : ¬ cC b k = cM b k := fun z => hb (Or.inr (Or.inr ⟨q, Or.inr z⟩))
      rw [if_neg q, if_neg q, if_neg q, if_neg q]
      refine ⟨h1, by omega, h3, h4, by omega, by omega, fun z => by have := h7 z; omega⟩
theorem cN_in {b : Nat → Int} {k : Nat} (h : ∀ i, i < k → cbad b i = false) : 0 ≤ cN b k ∧ cN b k ≤ 25 ∧ (cR b k ≠ 5 → cC b k ≠ cM b k → cN b k < 25) := by
  obtain ⟨h1, h2, h3, h4, h5, h6, -⟩ := cinv b k h
  generalize cR b k = r at *
  generalize cC b k = c at *
  generalize cN b k = n at *
  generalize cM b k = m at *
  rcases (show r = 0 ∨ r = 1 ∨ r = 2 ∨ r = 3 ∨ r = 4 ∨ r = 5 by omega) with rfl | rfl | rfl | rfl | rfl | rfl <;> simp at * <;> omega
theorem cW_in (b : Nat → Int) (j : Nat) : ∀ k : Nat, cW b k j = 0 ∨ cW b k j = 1
  | 0 => Or.inl rfl
  | k + 1 => by
    have ih := cW_in b j k
    rw [cW_s]
    repeat' split
    all_goals first | exact ih | simp
def wy (x : Int) : Int := if x = 110 then 0 else if x = 101 then 1 else if x = 115 then 2 else if x = 119 then 3 else -1
def gbad (b : Nat → Int) (k : Nat) : Bool := if k % 2 = 0 then decide (wy (b k) = -1) else decide (¬ (48 ≤ b k ∧ b k ≤ 57))
def gfl (b : Nat → Int) (n : Nat) : Int := if fsN (gbad b) n = -1 then (if n % 2 = 1 then (n : Int) else -1) else fsN (gbad b) n
def gmn (b : Nat → Int) (n : Nat) : Int := if gfl b n = -1 then ((n / 2 : Nat) : Int) else 0
def hd (x : Int) : Int := if x = 104 then 0 else if x = 111 then 1 else if x = 120 then 2 else -1
def kbad (b : Nat → Int) (k : Nat) : Bool :=
  if k % 5 = 0 then decide (¬ (48 ≤ b k ∧ b k ≤ 50)) else if k % 5 = 1 then decide (¬ (48 ≤ b k ∧ b k ≤ 57)) else if k % 5 = 2 then decide (¬ (49 ≤ b k ∧ b k ≤ 57)) else if k % 5 = 3 then decide (hd (b k) = -1) else decide (b k ≠ 59)
def kfl (b : Nat → Int) (n : Nat) : Int := if fsN (kbad b) n = -1 then (if 0 < n ∧ n % 5 ≠ 4 then (n : Int) else -1) else fsN (kbad b) n
def kcn (b : Nat → Int) (n : Nat) : Int := if kfl b n = -1 then (((n + 1) / 5 : Nat) : Int) else 0
/-! the scene that three texts tell -/
def scT (n0 n1 n2 : Nat) (b0 b1 b2 : Nat → Int) : SC := fun a i => match a with
  | 0 => (match i with | 0 => cwd b0 n0 | 1 => ccl b0 n0 | 2 => gmn b1 n1 | _ => kcn b2 n2)
  | 1 => cW b0 n0 i
  | 4 => wy (b1 (2 * i))
  | 5 => b1 (2 * i + 1) - 48
  | 6 => 10 * (b2 (5 * i) - 48) + (b2 (5 * i + 1) - 48)
  | 7 => b2 (5 * i + 2) - 48
  | _ => hd (b2 (5 * i + 3))
theorem fsN_m1 {p : Nat → Bool} : ∀ {n : Nat}, fsN p n = -1 → ∀ k, k < n → p k = false
  | 0, _, k, hk => absurd hk (Nat.not_lt_zero _)
  | n + 1, h, k, hk => by
    rw [fsN] at h
    by_cases q : fsN p n = -1
    · rw [if_neg (fun z => z q)] at h
      by_cases y : p n = true
      · rw [if_pos y] at h; omega
      · by_cases e : k = n
        · rw [e]; simpa using y
        · exact fsN_m1 q k (by omega)
    · rw [if_pos q] at h; exact absurd h q
theorem fsN_in {p : Nat → Bool} : ∀ (n : Nat), fsN p n = -1 ∨ (0 ≤ fsN p n ∧ fsN p n < n)
  | 0 => Or.inl rfl
  | n + 1 => by
    have ih := fsN_in (p := p) n
    rw [fsN]
    repeat' split
    all_goals omega
theorem scT_ok {n0 n1 n2 : Nat} {b0 b1 b2 : Nat → Int} (h0 : n0 ≤ 29) (h1 : n1 ≤ 24) (h2 : n2 ≤ 39) : OKS (scT n0 n1 n2 b0 b1 b2) := by
  have e0 : cfl b0 n0 = -1 → ∀ i, i < n0 → cbad b0 i = false := fun h => by
    unfold cfl at h
    by_cases q : fsN (cbad b0) n0 = -1
    · exact fsN_m1 q
    · rw [if_neg q] at h; exact absurd h q
  have e1 : gfl b1 n1 = -1 → (∀ i, i < n1 → gbad b1 i = false) ∧ n1 % 2 = 0 := fun h => by
    unfold gfl at h
    by_cases q : fsN (gbad b1) n1 = -1
    · refine ⟨fsN_m1 q, ?_⟩
      rw [if_pos q] at h
      by_cases z : n1 % 2 = 1
      · rw [if_pos z] at h; omega
      · omega
    · rw [if_neg q] at h; exact absurd h q
  have e2 : kfl b2 n2 = -1 → (∀ i, i < n2 → kbad b2 i = false) ∧ (n2 = 0 ∨ n2 % 5 = 4) := fun h => by
    unfold kfl at h
    by_cases q : fsN (kbad b2) n2 = -1
    · refine ⟨fsN_m1 q, ?_⟩
      rw [if_pos q] at h
      by_cases z : 0 < n2 ∧ n2 % 5 ≠ 4
      · rw [if_pos z] at h; omega
      · omega
    · rw [if_neg q] at h; exact absurd h q
  refine ⟨?_, ?_, ?_, ?_, fun j _ => cW_in b0 j n0, fun m hm => ?_, fun k hk => ?_⟩
  · show 1 ≤ cwd b0 n0 ∧ cwd b0 n0 ≤ 25
    unfold cwd
    by_cases q : cfl b0 n0 = -1
    · have := cinv b0 n0 (e0 q)
      rw [if_pos q]
      repeat' split
      all_goals omega
    · rw [if_neg q]; omega
  · show 0 ≤ ccl b0 n0 ∧ ccl b0 n0 ≤ 25
    unfold ccl
    by_cases q : cfl b0 n0 = -1
    · have := cN_in (e0 q)
      rw [if_pos q]; omega
    · rw [if_neg q]; omega
  · show 0 ≤ gmn b1 n1 ∧ gmn b1 n1 ≤ 12
    unfold gmn
    split <;> omega
  · show 0 ≤ kcn b2 n2 ∧ kcn b2 n2 ≤ 8
    unfold kcn
    split <;> omega
  · show (0 ≤ wy (b1 (2 * m)) ∧ wy (b1 (2 * m)) ≤ 3) ∧ 0 ≤ b1 (2 * m + 1) - 48 ∧ b1 (2 * m + 1) - 48 ≤ 9
    have hm : (m : Int) < gmn b1 n1 := hm
    unfold gmn at hm
    by_cases q : gfl b1 n1 = -1
    · rw [if_pos q] at hm
      have a1 := (e1 q).1 (2 * m) (by omega)
      have a2 := (e1 q).1 (2 * m + 1) (by omega)
      unfold gbad at a1 a2
      rw [if_pos (by omega)] at a1
      rw [if_neg (by omega)] at a2
      simp only [decide_eq_false_iff_not] at a1 a2
      have : wy (b1 (2 * m)) = -1 ∨ (0 ≤ wy (b1 (2 * m)) ∧ wy (b1 (2 * m)) ≤ 3) := by unfold wy; repeat' split; all_goals omega
      omega
    · rw [if_neg q] at hm; omega
  · show (0 ≤ 10 * (b2 (5 * k) - 48) + (b2 (5 * k + 1) - 48) ∧ 10 * (b2 (5 * k) - 48) + (b2 (5 * k + 1) - 48) ≤ 29) ∧ (1 ≤ b2 (5 * k + 2) - 48 ∧ b2 (5 * k + 2) - 48 ≤ 9) ∧ 0 ≤ hd (b2 (5 * k + 3)) ∧ hd (b2 (5 * k + 3)) ≤ 2
    have hk : (k : Int) < kcn b2 n2 := hk
    unfold kcn at hk
    by_cases q : kfl b2 n2 = -1
    · rw [if_pos q] at hk
      have hn := (e2 q).2
      have a1 := (e2 q).1 (5 * k) (by omega)
      have a2 := (e2 q).1 (5 * k + 1) (by omega)
      have a3 := (e2 q).1 (5 * k + 2) (by omega)
      have a4 := (e2 q).1 (5 * k + 3) (by omega)
      unfold kbad at a1 a2 a3 a4
      rw [if_pos (by omega)] at a1
      rw [if_neg (by omega), if_pos (by omega)] at a2
      rw [if_neg (by omega), if_neg (by omega), if_pos (by omega)] at a3
      rw [if_neg (by omega), if_neg (by omega), if_neg (by omega), if_pos (by omega)] at a4
      simp only [decide_eq_false_iff_not] at a1 a2 a3 a4
      have : hd (b2 (5 * k + 3)) = -1 ∨ (0 ≤ hd (b2 (5 * k + 3)) ∧ hd (b2 (5 * k + 3)) ≤ 2) := by unfold hd; repeat' split; all_goals omega
      omega
    · rw [if_neg q] at hk; omega
