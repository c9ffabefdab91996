/-- the model's items of one sheet brought to another -/
def cpM (D : HP) (s i t j n : Nat) : HP := fun x y => if x = 78 ∧ 60 * t + j ≤ y ∧ y < 60 * t + j + n then D 78 (60 * s + i + (y - (60 * t + j))) else D x y
def fnd (D : HP) (n : Int) : HP := hu D 56 28 n
def copM (D : HP) (s i t j n : Int) (v : Option MV) (E : HP) : Prop :=
  if (0 ≤ s ∧ s ≤ 3) ∧ 0 ≤ t ∧ t ≤ 3 then
    (if D 75 s.toNat = 0 ∨ D 75 t.toNat = 0 then v = some (vI (-11)) ∧ E = fnd D 1
     else if D 76 s.toNat ≠ D 76 t.toNat then v = some (vI (-14)) ∧ E = fnd D 4
     else if i < 0 ∨ j < 0 ∨ n < 0 ∨ D 77 s.toNat < i + n ∨ D 77 t.toNat < j + n then v = some (vI (-12)) ∧ E = fnd D 2
     else v = some (vI 1) ∧ ∀ x y, x ≠ 79 → E x y = cpM D s.toNat i.toNat t.toNat j.toNat n.toNat x y)
  else v = some (vI (-2)) ∧ E = D
theorem lcm_le (a b : Int) : ((if a < b then (1 : Int) else if b = a then 0 else -1) ≤ 0) ↔ b ≤ a := by
  by_cases h : a < b
  · rw [if_pos h]; omega
  · rw [if_neg h]; split <;> omega
theorem lcm_lt (a b : Int) : (0 < (if a < b then (1 : Int) else if b = a then 0 else -1)) ↔ a < b := by
  by_cases h : a < b
  · rw [if_pos h]; omega
  · rw [if_neg h]; split <;> omega
set_option maxHeartbeats 4000000 in
theorem M_copy {D : HP} (hS : SHM D) (s i t j n : Int) : CT mX6_copy [vR 56, vI s, vI i, vI t, vI j, vI n] D (copM D s i t j n) := by
  refine V_X6_copy s i t j n
    (I120 := fun x1 x2 x3 x4 x5 x6 E => (x1 = s ∧ x2 = i ∧ x3 = t ∧ x4 = j ∧ x5 = n) ∧ ((0 ≤ s ∧ s ≤ 3) ∧ (0 ≤ t ∧ t ≤ 3)) ∧ ¬ (D 75 s.toNat = 0 ∨ D 75 t.toNat = 0) ∧ D 76 s.toNat = D 76 t.toNat ∧ ¬ (i < 0 ∨ j < 0 ∨ n < 0 ∨ D 77 s.toNat < i + n ∨ D 77 t.toNat < j + n) ∧ ∃ k : Nat, x6 = k ∧ (k : Int) ≤ n ∧ (∀ x y, x ≠ 79 → E x y = D x y) ∧ ∀ y : Nat, y < k → E 79 y = D 78 (60 * s.toNat + i.toNat + y)) (u120 := fun _ _ _ _ x5 x6 _ => (x5 + 100 - x6).toNat)
    (I157 := fun x1 x2 x3 x4 x5 x6 E => (x1 = s ∧ x2 = i ∧ x3 = t ∧ x4 = j ∧ x5 = n) ∧ ((0 ≤ s ∧ s ≤ 3) ∧ (0 ≤ t ∧ t ≤ 3)) ∧ ¬ (D 75 s.toNat = 0 ∨ D 75 t.toNat = 0) ∧ D 76 s.toNat = D 76 t.toNat ∧ ¬ (i < 0 ∨ j < 0 ∨ n < 0 ∨ D 77 s.toNat < i + n ∨ D 77 t.toNat < j + n) ∧ ∃ k : Nat, x6 = k ∧ (k : Int) ≤ n ∧ (∀ x y, x ≠ 79 → E x y = cpM D s.toNat i.toNat t.toNat j.toNat k x y) ∧ ∀ y : Nat, (y : Int) < n → E 79 y = D 78 (60 * s.toNat + i.toNat + y)) (u157 := fun _ _ _ _ x5 x6 _ => (x5 - x6).toNat) ?_ ?_ ?_
  · intro _ _ _ _ _ _
    have sh : ∀ a : Int, (fX6_isSheet D a = 0 ↔ ¬ (0 ≤ a ∧ a ≤ 3)) := fun a => by unfold fX6_isSheet; exact wi1
    refine ⟨fun h => ?_, fun h => ⟨fun h2 => ?_, fun h2 => ?_⟩⟩
    · rw [sh] at h
      unfold copM
      rw [if_neg (fun q => h q.1)]; exact ⟨rfl, rfl⟩
    · rw [sh] at h2
      unfold copM
      rw [if_neg (fun q => h2 q.2)]; exact ⟨rfl, rfl⟩
    rw [sh] at h h2
    have h := Decidable.of_not_not h
    have h2 := Decidable.of_not_not h2
    have s1 := (hS s.toNat (by omega)).2.2
    have t1 := (hS t.toNat (by omega)).2.2
    have nul : D 75 s.toNat = 0 ∨ D 75 t.toNat = 0 → ∃ Q : Option MV → HP → Prop, CT mX6_meets [vR 56, vI 1] D Q ∧ ∀ (r : Int) (E : HP), Q (some (vI r)) E → c32 r → cD E → copM D s i t j n (some (vI r)) E := fun q => ⟨_, C_meets D (a := 1) (by decide), fun r E ⟨hr, hE⟩ _ _ => by
      unfold copM
      rw [if_pos ⟨h, h2⟩, if_pos q]
      exact ⟨hr, hE⟩⟩
    have ind : ¬ (D 75 s.toNat = 0 ∨ D 75 t.toNat = 0) → D 76 s.toNat = D 76 t.toNat → (i < 0 ∨ j < 0 ∨ n < 0 ∨ D 77 s.toNat < i + n ∨ D 77 t.toNat < j + n) → ∃ Q : Option MV → HP → Prop, CT mX6_meets [vR 56, vI 2] D Q ∧ ∀ (r : Int) (E : HP), Q (some (vI r)) E → c32 r → cD E → copM D s i t j n (some (vI r)) E := fun q1 q2 q3 => ⟨_, C_meets D (a := 2) (by decide), fun r E ⟨hr, hE⟩ _ _ => by
      unfold copM
      rw [if_pos ⟨h, h2⟩, if_neg q1, if_neg (fun z => z q2), if_pos q3]
      exact ⟨hr, hE⟩⟩
    have ci : c32 i := by assumption
    have cj : c32 j := by assumption
    have cn : c32 n := by assumption
    have w1 : w64 (i + n) = i + n := w64_id (by unfold c64; unfold c32 at *; omega)
    have w2 : w64 (j + n) = j + n := w64_id (by unfold c64; unfold c32 at *; omega)
    rw [w1, w2]
    rw [lcm_lt, lcm_le]
    refine ⟨by omega, fun q => nul (Or.inl q), fun q1 => ⟨by omega, fun q => nul (Or.inr q), fun q2 => ⟨by omega, by omega, fun q3 => ?_, fun q3 => ?_⟩⟩⟩
    · have nn : ¬ (D 75 s.toNat = 0 ∨ D 75 t.toNat = 0) := fun z => z.elim q1 q2
      refine ⟨fun z => ind nn q3 (by omega), fun z1 => ⟨fun z => ind nn q3 (by omega), fun z2 => ⟨fun z => ind nn q3 (by omega), fun z3 => ⟨by omega, fun z => ind nn q3 (by omega), fun z4 => ⟨by omega, fun z5 => ?_, fun z => ind nn q3 (by omega)⟩⟩⟩⟩⟩
      exact ⟨⟨rfl, rfl, rfl, rfl, rfl⟩, ⟨h, h2⟩, nn, q3, by omega, 0, rfl, by omega, fun _ _ _ => rfl, fun y hy => absurd hy (Nat.not_lt_zero _)⟩
    · refine ⟨_, C_meets D (a := 4) (by decide), fun r E ⟨hr, hE⟩ _ _ => ?_⟩
      unfold copM
      rw [if_pos ⟨h, h2⟩, if_neg (fun z => z.elim q1 q2), if_pos q3]
      exact ⟨hr, hE⟩
  · rintro x1 x2 x3 x4 x5 x6 E ⟨⟨rfl, rfl, rfl, rfl, rfl⟩, ⟨hs, ht⟩, h75, h76, hb, k, rfl, hk, hE, h79⟩ hcD _ _ _ _ _ _
    have s1 := (hS x1.toNat (by omega)).2.2
    have t1 := (hS x3.toNat (by omega)).2.2
    refine ⟨fun hc => ⟨⟨⟨rfl, rfl, rfl, rfl, rfl⟩, ⟨hs, ht⟩, h75, h76, hb, 0, rfl, by omega, fun x y hx => ?_, fun y hy => h79 y (by omega)⟩, by omega⟩, fun hc => ⟨by unfold c32; omega, by unfold c32; omega, by unfold c32; omega, by omega, by omega, ?_⟩⟩
    · rw [hE x y hx]
      unfold cpM
      rw [if_neg (by omega)]
    · rintro F hF
      rw [Int.toNat_natCast, show (60 * x1 + x2 + (k : Int)).toNat = 60 * x1.toNat + x2.toNat + k by omega, hE 78 _ (by decide)] at hF
      refine ⟨by unfold c32; omega, ⟨⟨rfl, rfl, rfl, rfl, rfl⟩, ⟨hs, ht⟩, h75, h76, hb, k + 1, by omega, by omega, fun x y hx => ?_, fun y hy => ?_⟩, by omega⟩
      · rw [hF, hu_k _ _ hx]; exact hE x y hx
      · by_cases q : y = k
        · rw [q, hF, hu_s]
        · rw [hF, hu_i _ _ q]; exact h79 y (by omega)
  · rintro x1 x2 x3 x4 x5 x6 E ⟨⟨rfl, rfl, rfl, rfl, rfl⟩, ⟨hs, ht⟩, h75, h76, hb, k, rfl, hk, hE, h79⟩ hcD _ _ _ _ _ _
    have s1 := (hS x1.toNat (by omega)).2.2
    have t1 := (hS x3.toNat (by omega)).2.2
    refine ⟨fun hc => ?_, fun hc => ⟨by unfold c32; omega, by unfold c32; omega, by unfold c32; omega, by omega, by omega, ?_⟩⟩
    · unfold copM
      rw [if_pos ⟨hs, ht⟩, if_neg h75, if_neg (fun z => z h76), if_neg hb]
      refine ⟨rfl, fun x y hx => ?_⟩
      rw [hE x y hx, show x5.toNat = k by omega]
    · rintro F hF
      rw [Int.toNat_natCast, show (60 * x3 + x4 + (k : Int)).toNat = 60 * x3.toNat + x4.toNat + k by omega, h79 k (by omega)] at hF
      refine ⟨by unfold c32; omega, ⟨⟨rfl, rfl, rfl, rfl, rfl⟩, ⟨hs, ht⟩, h75, h76, hb, k + 1, by omega, by omega, fun x y hx => ?_, fun y hy => ?_⟩, by omega⟩
      · rw [hF]
        by_cases q : x = 78 ∧ y = 60 * x3.toNat + x4.toNat + k
        · rw [q.1, q.2, hu_s]
          unfold cpM
          rw [if_pos (by omega), show 60 * x3.toNat + x4.toNat + k - (60 * x3.toNat + x4.toNat) = k by omega]
        · rw [show hu E 78 (60 * x3.toNat + x4.toNat + k) (D 78 (60 * x1.toNat + x2.toNat + k)) x y = E x y from if_neg q, hE x y hx]
          unfold cpM
          by_cases z : x = 78 ∧ 60 * x3.toNat + x4.toNat ≤ y ∧ y < 60 * x3.toNat + x4.toNat + k
          · rw [if_pos z, if_pos (by omega)]
          · rw [if_neg z, if_neg (by omega)]
      · rw [hF, hu_k _ _ (by decide)]; exact h79 y hy
/-- COUNT -/
def ntS (S : SC) : Int := cntB (fun k => decide (trn S k ≠ -1)) (S 0 3).toNat
def vCount (D : HP) (a : Int) : Int := if a = 0 then tS D 0 1 else if a = 1 then tS D 0 2 else if a = 2 then tS D 0 3 else if a = 3 then D 57 0 else if a = 4 then D 57 1 else if a = 5 then D 57 2 else if a = 6 then ntS (tS D) else if a = 7 then D 56 17 else if a = 8 then D 56 28 else -2
theorem cntB_congr {p q : Nat → Bool} : ∀ {n : Nat}, (∀ k, k < n → p k = q k) → cntB p n = cntB q n
  | 0, _ => rfl
  | n + 1, h => by rw [cntB, cntB, cntB_congr (fun k hk => h k (by omega)), h n (by omega)]
theorem ntM {D : HP} {S : SC} (hM : MS D S) (hR : RM D S) : fX6_turnedNow D = ntS S := by
  unfold fX6_turnedNow ntS
  rw [hM.1.2.2.2]
  exact cntB_congr fun k hk => by rw [hR.1 k (by omega)]
theorem ntMo {D : HP} {S : SC} (hM : MS D S) (h : OKS S) : oX6_turnedNow D := by
  unfold oX6_turnedNow
  rw [hM.1.2.2.2]
  exact h.2.2.2.1.2
theorem C_sumOf {D : HP} (hT : TXM D) (a : Int) : CT mX6_sumOf [vR 56, vI a] D (fun v E => v = some (vI (if a = 0 then tS D 0 1 else if a = 1 then tS D 0 2 else if a = 2 then tS D 0 3 else ntS (tS D))) ∧ MS E (tS D) ∧ FRw D E) := by
  refine V_X6_sumOf a (fun _ _ => ⟨_, C_runsTold hT, ?_⟩)
  rintro E ⟨-, hR, hM, hF⟩ _
  refine ⟨⟨fun _ => trivial, fun _ => ⟨fun _ => trivial, fun _ => ⟨fun _ => trivial, fun _ => ntMo hM (tS_ok hT)⟩⟩⟩, ?_, hM, hF⟩
  rw [hM.1.2.1, hM.1.2.2.1, hM.1.2.2.2, ntM hM hR]
theorem M_count {D : HP} (hT : TXM D) (a : Int) : CT mX6_count [vR 56, vI a] D (fun v E => v = some (vI (vCount D a)) ∧ FRw D E) := by
  refine V_X6_count a (fun _ _ => ?_)
  have sm : ∀ x : Int, a = x → (if a = 0 then tS D 0 1 else if a = 1 then tS D 0 2 else if a = 2 then tS D 0 3 else ntS (tS D)) = vCount D a → ∃ Q : Option MV → HP → Prop, CT mX6_sumOf [vR 56, vI a] D Q ∧ ∀ (r : Int) (E : HP), Q (some (vI r)) E → c32 r → cD E → (some (vI r) = some (vI (vCount D a)) ∧ FRw D E) := fun x hx he => ⟨_, C_sumOf hT a, fun r E ⟨hr, _, hF⟩ _ _ => ⟨by rw [hr, he], hF⟩⟩
  refine ⟨fun h => ⟨?_, FRw.rf D⟩, fun h => sm 0 h ?_, fun h => sm 1 h ?_, fun h => sm 2 h ?_, fun h => ⟨by unfold c32; omega, by omega, ?_, FRw.rf D⟩, fun h => ⟨by unfold c32; omega, by omega, ?_, FRw.rf D⟩, fun h => ⟨by unfold c32; omega, by omega, ?_, FRw.rf D⟩, fun h => sm 6 h ?_, fun h => ⟨?_, FRw.rf D⟩, fun h => ⟨?_, FRw.rf D⟩⟩
  · unfold vCount
    rw [if_neg (by omega), if_neg (by omega), if_neg (by omega), if_neg (by omega), if_neg (by omega), if_neg (by omega), if_neg (by omega), if_neg (by omega), if_neg (by omega)]
  all_goals (subst h; rfl)
