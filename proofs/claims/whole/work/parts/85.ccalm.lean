/-! ===== sums over all calms, in both orders ===== -/
def smP (f : (Nat → Bool) → Int) : Nat → Int
  | 0 => 0
  | n + 1 => smP f n + f n.testBit
def bR (M p : Nat) : Nat → Bool := fun m => p.testBit (M - 1 - m)
def smR (M : Nat) (f : (Nat → Bool) → Int) : Nat → Int
  | 0 => 0
  | n + 1 => smR M f n + f (bR M n)
def bset (b : Nat → Bool) (i : Nat) (v : Bool) : Nat → Bool := fun j => if j = i then v else b j
def TS : Nat → ((Nat → Bool) → Int) → Int
  | 0, f => f (fun _ => false)
  | M + 1, f => TS M (fun b => f (bset b M false)) + TS M (fun b => f (bset b M true))
def dpn (M : Nat) (f : (Nat → Bool) → Int) : Prop := ∀ b b' : Nat → Bool, (∀ m, m < M → b m = b' m) → f b = f b'
theorem dpn_set {M : Nat} {f : (Nat → Bool) → Int} (h : dpn (M + 1) f) (v : Bool) : dpn M (fun b => f (bset b M v)) := fun b b' e => h _ _ fun m hm => by
  unfold bset
  by_cases q : m = M
  · rw [if_pos q, if_pos q]
  · rw [if_neg q, if_neg q]; exact e m (by omega)
theorem TS_add (f g : (Nat → Bool) → Int) : ∀ M : Nat, ∀ f g : (Nat → Bool) → Int, TS M (fun b => f b + g b) = TS M f + TS M g
  | 0, _, _ => rfl
  | M + 1, f, g => by
    rw [TS, TS, TS, TS_add f g M, TS_add f g M]
    omega
theorem smP_TS : ∀ (M : Nat) (f : (Nat → Bool) → Int), dpn M f → smP f (2 ^ M) = TS M f
  | 0, f, h => by
    show 0 + f (Nat.testBit 0) = f (fun _ => false)
    rw [show Nat.testBit 0 = fun _ => false from funext fun i => Nat.zero_testBit i]
    omega
  | M + 1, f, h => by
    have e1 := smP_TS M (fun b => f (bset b M false)) (dpn_set h false)
    have e2 := smP_TS M (fun b => f (bset b M true)) (dpn_set h true)
    rw [TS, ← e1, ← e2]
    have a : ∀ n : Nat, n ≤ 2 ^ M → smP f n = smP (fun b => f (bset b M false)) n := fun n => by
      induction n with
      | zero => intro _; rfl
      | succ n ih =>
        intro hn
        rw [smP, smP, ih (by omega)]
        congr 1
        refine h _ _ fun m hm => ?_
        unfold bset
        by_cases q : m = M
        · rw [if_pos q, q]
          exact Nat.testBit_lt_two_pow (by omega)
        · rw [if_neg q]
    have b : ∀ n : Nat, n ≤ 2 ^ M → smP f (2 ^ M + n) = smP f (2 ^ M) + smP (fun b => f (bset b M true)) n := fun n => by
      induction n with
      | zero => intro _; show smP f (2 ^ M) = smP f (2 ^ M) + 0; omega
      | succ n ih =>
        intro hn
        rw [show 2 ^ M + (n + 1) = (2 ^ M + n) + 1 by omega, smP, ih (by omega), smP, Int.add_assoc]
        congr 2
        refine h _ _ fun m hm => ?_
        unfold bset
        by_cases q : m = M
        · rw [if_pos q, q, Nat.testBit_two_pow_add_eq, Nat.testBit_lt_two_pow (by omega)]; rfl
        · rw [if_neg q, Nat.testBit_two_pow_add_gt (by omega)]
    rw [Nat.pow_succ, Nat.mul_two, b _ (Nat.le_refl _), a _ (Nat.le_refl _)]
theorem smR_TS : ∀ (M : Nat) (f : (Nat → Bool) → Int), dpn M f → smR M f (2 ^ M) = TS M f
  | 0, f, h => by
    show 0 + f (bR 0 0) = f (fun _ => false)
    rw [show bR 0 0 = fun _ => false from funext fun i => Nat.zero_testBit _]
    omega
  | M + 1, f, h => by
    have e := smR_TS M (fun b => f (bset b M false) + f (bset b M true)) (fun b b' q => by
      show f (bset b M false) + f (bset b M true) = f (bset b' M false) + f (bset b' M true)
      have a1 : f (bset b M false) = f (bset b' M false) := dpn_set h false b b' q
      have a2 : f (bset b M true) = f (bset b' M true) := dpn_set h true b b' q
      rw [a1, a2])
    rw [TS_add f f] at e
    rw [TS, ← e]
    have key : ∀ n : Nat, smR (M + 1) f (2 * n) = smR M (fun b => f (bset b M false) + f (bset b M true)) n := fun n => by
      induction n with
      | zero => rfl
      | succ n ih =>
        rw [show 2 * (n + 1) = 2 * n + 1 + 1 by omega, smR, smR, smR, ih, Int.add_assoc]
        congr 1
        have g : ∀ v : Bool, ∀ x : Nat, (x.testBit 0 = v) → x / 2 = n → f (bR (M + 1) x) = f (bset (bR M n) M v) := fun v x hx h2 => h _ _ fun m hm => by
          unfold bset bR
          by_cases q : m = M
          · rw [if_pos q, q, show M + 1 - 1 - M = 0 by omega]; exact hx
          · rw [if_neg q, show M + 1 - 1 - m = (M - 1 - m) + 1 by omega, Nat.testBit_succ, h2]
        rw [g false (2 * n) (by simp) (by omega), g true (2 * n + 1) (by simp [Nat.testBit_zero]) (by omega)]
    rw [Nat.pow_succ, Nat.mul_comm, key]
/-! ===== which minutes a pattern shares with the one before ===== -/
set_option maxRecDepth 100000 in
theorem lb_k : ∀ p : Nat, p < 4096 → p = 0 ∨ (fX5_lowestBit (fun _ _ => 0) (p : Int) = ((Nat.log2 (p ^^^ (p - 1)) : Nat) : Int) ∧ 0 ≤ b_iand (p : Int) (w32 (-(p : Int))) ∧ b_iand (p : Int) (w32 (-(p : Int))) ≤ 4096) := by decide +kernel
def chg (M p : Nat) : Nat := if p = 0 then 0 else M - 1 - Nat.log2 (p ^^^ (p - 1))
theorem xor_ne {p : Nat} (h : p ≠ 0) : p ^^^ (p - 1) ≠ 0 := fun e => by
  have : p = p - 1 := Nat.eq_of_testBit_eq fun i => by
    have := congrArg (fun x => Nat.testBit x i) e
    simp only [Nat.testBit_xor, Nat.zero_testBit] at this
    cases hp : p.testBit i <;> cases hq : (p - 1).testBit i <;> rw [hp, hq] at this <;> simp at this <;> rfl
  omega
theorem lb_lt {M p : Nat} (h0 : p ≠ 0) (h : p < 2 ^ M) : Nat.log2 (p ^^^ (p - 1)) < M :=
  (Nat.log2_lt (xor_ne h0)).2 (Nat.xor_lt_two_pow h (by omega))
theorem bR_chg {M p : Nat} {m : Nat} (h : m < chg M (p + 1)) : bR M (p + 1) m = bR M p m := by
  unfold chg at h
  rw [if_neg (by omega)] at h
  have hx := xor_ne (p := p + 1) (by omega)
  unfold bR
  have hl : (p + 1) ^^^ (p + 1 - 1) < 2 ^ (M - 1 - m) := (Nat.log2_lt hx).1 (by omega)
  have ht := Nat.testBit_lt_two_pow hl
  rw [Nat.testBit_xor, show p + 1 - 1 = p by omega] at ht
  cases a : (p + 1).testBit (M - 1 - m) <;> cases b : p.testBit (M - 1 - m) <;> rw [a, b] at ht <;> simp at ht <;> rfl
theorem wgB_cong {c : Int} {b b' : Nat → Bool} : ∀ {m : Nat}, (∀ i, i < m → b i = b' i) → wgB c b m = wgB c b' m
  | 0, _ => rfl
  | m + 1, h => by rw [wgB, wgB, wgB_cong (fun i hi => h i (by omega)), h m (by omega)]
/-- one calm's share depends on its minutes alone -/
theorem CSx {D : HP} {o : Nat} {S : SC} {f g : Nat → Int} (h : CS D o (sc5 S f)) (e : ∀ i : Nat, (i : Int) < S 0 2 → f i = g i) : CS D o (sc5 S g) :=
  ⟨h.1, h.2.1, fun m hm => ⟨(h.2.2.1 m hm).1, (h.2.2.1 m hm).2.trans (e m hm)⟩, h.2.2.2⟩
theorem lin_ag {T S : SC} (h : AG T S (S 0 2).toNat) (hok : OKS S) : lin T = lin S := by
  have e2 : T 0 2 = S 0 2 := h 0 2 (Or.inl (by decide))
  unfold lin
  rw [e2]
  by_cases z : S 0 2 = 0
  · rw [if_pos z, if_pos z]
  · have := hok.2.2.1
    rw [if_neg z, if_neg z, ag_inn h (by omega) (fun q => by omega)]
theorem smB_P (S : SC) (c k : Int) : ∀ n : Nat, smB S c k n = smP (shB S c k) n
  | 0 => rfl
  | n + 1 => by rw [smB, smP, smB_P S c k n]
theorem cl_ag {S : SC} {b b' : Nat → Bool} {m : Nat} (e : ∀ i, i < m → b i = b' i) : AG (clS S b) (clS S b') m := fun a i q => by
  unfold clS sc5 clF
  by_cases y : a = 5
  · rw [if_pos y, if_pos y, e i (by omega)]
  · rw [if_neg y, if_neg y]
theorem shB_dpn {S : SC} (hok : OKS S) (c k : Int) : dpn (S 0 2).toNat (shB S c k) := fun b b' e => by
  unfold shB
  rw [lin_ag (T := clS S b) (S := clS S b') (cl_ag e) (OKS_cl hok b'), wgB_cong e]
/-- the sum in the class's order -/
def smC (S : SC) (c k : Int) (n : Nat) : Int := smR (S 0 2).toNat (shB S c k) n
theorem smC_all {S : SC} (hok : OKS S) (c k : Int) : smC S c k (2 ^ (S 0 2).toNat) = smB S c k (2 ^ (S 0 2).toNat) := by
  unfold smC
  rw [smR_TS _ _ (shB_dpn hok c k), smB_P, smP_TS _ _ (shB_dpn hok c k)]
theorem smC_in {S : SC} (h : OKS S) {c k : Int} (hc : 0 ≤ c ∧ c ≤ 16) : ∀ n : Nat, 0 ≤ smC S c k n ∧ smC S c k n ≤ n * 281474976710656
  | 0 => by unfold smC; rw [smR]; omega
  | n + 1 => by
    have ih := smC_in h hc (k := k) n
    have h2 := h.2.2.1
    have hw := wgB_in hc (bR (S 0 2).toNat n) (S 0 2).toNat
    have hp := p16 (M := (S 0 2).toNat) (by omega)
    unfold smC at *
    rw [smR]
    unfold shB at *
    split <;> omega
