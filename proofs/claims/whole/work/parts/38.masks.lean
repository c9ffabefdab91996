/-! ===== what is asked of a scene: the answers ===== -/
def vCell (S : SC) (a : Int) : Int := if 0 ≤ a ∧ a ≤ 24 then (if a < S 0 1 then S 1 a.toNat else -1) else -2
def vGust (S : SC) (a b : Int) : Int := if (0 ≤ a ∧ a < S 0 2) ∧ 0 ≤ b ∧ b ≤ 1 then (if b = 0 then S 4 a.toNat else S 5 a.toNat) else -2
def vCandOf (S : SC) (k : Nat) (b : Int) : Int := if b = 0 then S 6 k else if b = 1 then S 7 k else if b = 2 then S 8 k else if som S k = true then 1 else 0
def vCand (S : SC) (a b : Int) : Int := if (0 ≤ a ∧ a < S 0 3) ∧ 0 ≤ b ∧ b ≤ 3 then vCandOf S a.toNat b else -2
def vWind (S : SC) (a b : Int) : Int := if (0 ≤ a ∧ a < S 0 2) ∧ 0 ≤ b ∧ b < S 0 1 then wnd S (tu S a.toNat) a.toNat b else -2
def vRibs (S : SC) (a b : Int) : Int := if (0 ≤ a ∧ a < S 0 2) ∧ 0 ≤ b ∧ b < S 0 3 then rb S a.toNat b.toNat else -2
/-- the minute in which one turns -/
def trn (S : SC) (k : Nat) : Int := tu S (S 0 2).toNat k
def retS (S : SC) (k : Nat) : Int := if trn S k = -1 then 0 else if rtd S (trn S k).toNat k = true then 1 else 0
def eleS (S : SC) (k : Nat) : Int := if exB (fun i => decide ((k : Int) = ele S i)) (S 0 2).toNat = true then 1 else 0
def forS (S : SC) (x : Int) : Int := cntB (fun i => decide (inn S i = x)) (S 0 2).toNat
def vOverOf (S : SC) (k : Nat) (b : Int) : Int := if b = 0 then trn S k else if b = 1 then retS S k else if b = 2 then eleS S k else forS S k
def vOver (S : SC) (a b : Int) : Int := if (0 ≤ a ∧ a < S 0 3) ∧ 0 ≤ b ∧ b ≤ 3 then vOverOf S a.toNat b else -2
def vIn (S : SC) (a : Int) : Int := if 0 ≤ a ∧ a < S 0 2 then inn S a.toNat else -2
def fstS (S : SC) : Int := fsN (fun i => decide (inn S i ≠ -1)) (S 0 2).toNat
def vFirstOf (S : SC) (b : Int) : Int := if fstS S = -1 then -1 else if b = 0 then fstS S else inn S (fstS S).toNat
def vFirst (S : SC) (b : Int) : Int := if 0 ≤ b ∧ b ≤ 1 then vFirstOf S b else -2
def vLulls (S : SC) : Int := forS S (-1)
/-- what the model's questions may write over -/
def FRw (D E : HP) : Prop := ∀ a i, (a < 59 ∨ (69 < a ∧ a < 72) ∨ (74 < a ∧ a < 79) ∨ 79 < a) → (a ≠ 56 ∨ (i ≠ 2 ∧ i ≠ 3 ∧ i ≠ 5 ∧ i ≠ 8)) → E a i = D a i
theorem FRw.rf (D : HP) : FRw D D := fun _ _ _ _ => rfl
theorem FRw.tr {D E F : HP} (h : FRw D E) (g : FRw E F) : FRw D F := fun a i h1 h2 => (g a i h1 h2).trans (h a i h1 h2)
theorem FRm.w {D E : HP} (h : FRm D E) : FRw D E := fun a i h1 h2 => h a i (by omega) h2
theorem FRw.t {D E : HP} (h : FRw D E) : ∀ a i, a = 57 ∨ a = 58 → E a i = D a i := fun a i q => h a i (by omega) (Or.inl (by omega))
theorem FRw.TX {D E : HP} (h : FRw D E) (hT : TXM D) : TXM E := TXM_of hT h.t
theorem tS_eq {D E : HP} (h : ∀ a i, a = 57 ∨ a = 58 → E a i = D a i) : tS E = tS D := by
  unfold tS
  rw [tN_of h, tN_of h, tN_of h, tB_of h, tB_of h, tB_of h]
theorem FRw.S {D E : HP} (h : FRw D E) : tS E = tS D := tS_eq h.t
theorem wi1 {D : HP} {a lo hi : Int} : fX6_within D a lo hi = 0 ↔ ¬ (lo ≤ a ∧ a ≤ hi) := by unfold fX6_within; repeat' split; all_goals omega
theorem wiv {D : HP} {a lo hi : Int} : fX6_within D a lo hi = if lo ≤ a ∧ a ≤ hi then 1 else 0 := by unfold fX6_within; repeat' split; all_goals omega
/-- behind all minutes of the model -/
def RM (E : HP) (S : SC) : Prop := (∀ k : Nat, (k : Int) < S 0 3 → E 66 k = trn S k) ∧ (∀ n k : Nat, (n : Int) ≤ S 0 2 → (k : Int) < S 0 3 → E 65 (8 * n + k) = rb S n k) ∧ (∀ j : Nat, (j : Int) < S 0 2 → E 69 j = inn S j) ∧ (∀ k : Nat, (k : Int) < S 0 3 → E 67 k = retS S k) ∧ (∀ k : Nat, k < 8 → E 68 k = eleS S k)
theorem C_runs' {D : HP} {S : SC} (h : OKS S) (hM : MS D S) : CT mX6_runs [vR 56] D (fun v E => v = none ∧ RM E S ∧ MS E S ∧ FRw D E ∧ (∀ a b, (a < 65 ∨ 69 < a) → E a b = D a b)) := by
  intro h1 h2 l ad cA dC dI hA
  have key := C_runs h hM h1 h2 l ad cA dC dI hA
  have e : (fun v E => v = none ∧ (∀ a b, (a < 65 ∨ 69 < a) → E a b = D a b) ∧ (∀ k : Nat, (k : Int) < S 0 3 → E 66 k = tu S (S 0 2).toNat k) ∧ (∀ n k : Nat, (n : Int) ≤ S 0 2 → (k : Int) < S 0 3 → E 65 (8 * n + k) = rb S n k) ∧ (∀ j : Nat, (j : Int) < S 0 2 → E 69 j = inn S j) ∧
      (∀ k : Nat, (k : Int) < S 0 3 → E 67 k = if tu S (S 0 2).toNat k = -1 then 0 else (if rtd S (tu S (S 0 2).toNat k).toNat k = true then 1 else 0)) ∧ (∀ k : Nat, k < 8 → E 68 k = if exB (fun i => decide ((k : Int) = ele S i)) (S 0 2).toNat = true then 1 else 0)) = (fun (v : Option MV) (E : HP) => v = none ∧ RM E S ∧ MS E S ∧ FRw D E ∧ (∀ a b, (a < 65 ∨ 69 < a) → E a b = D a b)) := by
    funext v E
    refine propext ⟨fun ⟨a, b, c, d, e, f, g⟩ => ⟨a, ⟨c, d, e, f, g⟩, MS_frame hM b, fun x i hx _ => b x i (by omega), b⟩, fun ⟨a, ⟨c, d, e, f, g⟩, _, _, b⟩ => ⟨a, b, c, d, e, f, g⟩⟩
  rw [e] at key
  exact key
theorem C_runsTold {D : HP} (hT : TXM D) : CT mX6_runsTold [vR 56] D (fun v E => v = none ∧ RM E (tS D) ∧ MS E (tS D) ∧ FRw D E) := by
  refine V_X6_runsTold (fun _ => ⟨_, C_reads hT, ?_⟩)
  rintro E ⟨-, hM, hF⟩ _
  refine ⟨_, C_runs' (tS_ok hT) hM, ?_⟩
  rintro G ⟨-, h1, h2, h3, -⟩ _
  exact ⟨rfl, h1, h2, hF.w.tr h3⟩
theorem C_isMinute {D : HP} (hT : TXM D) (a : Int) : CT mX6_isMinute [vR 56, vI a] D (fun v E => v = some (vI (if 0 ≤ a ∧ a < tS D 0 2 then 1 else 0)) ∧ MS E (tS D) ∧ FRw D E) := by
  refine V_X6_isMinute a (fun _ _ => ⟨_, C_reads hT, ?_⟩)
  rintro E ⟨-, hM, hF⟩ _
  have := (tS_ok hT).2.2.1
  rw [hM.1.2.2.1, wiv]
  refine ⟨by unfold c32; omega, ?_, hM, hF.w⟩
  congr 2
  by_cases q : 0 ≤ a ∧ a < tS D 0 2
  · rw [if_pos q, if_pos (by omega)]
  · rw [if_neg q, if_neg (by omega)]
theorem C_isCell {D : HP} (hT : TXM D) (a : Int) : CT mX6_isCell [vR 56, vI a] D (fun v E => v = some (vI (if 0 ≤ a ∧ a < tS D 0 1 then 1 else 0)) ∧ MS E (tS D) ∧ FRw D E) := by
  refine V_X6_isCell a (fun _ _ => ⟨_, C_reads hT, ?_⟩)
  rintro E ⟨-, hM, hF⟩ _
  have := (tS_ok hT).2.1
  rw [hM.1.2.1, wiv]
  refine ⟨by unfold c32; omega, ?_, hM, hF.w⟩
  congr 2
  by_cases q : 0 ≤ a ∧ a < tS D 0 1
  · rw [if_pos q, if_pos (by omega)]
  · rw [if_neg q, if_neg (by omega)]
theorem C_isCandidate {D : HP} (hT : TXM D) (a : Int) : CT mX6_isCandidate [vR 56, vI a] D (fun v E => v = some (vI (if 0 ≤ a ∧ a < tS D 0 3 then 1 else 0)) ∧ MS E (tS D) ∧ FRw D E) := by
  refine V_X6_isCandidate a (fun _ _ => ⟨_, C_reads hT, ?_⟩)
  rintro E ⟨-, hM, hF⟩ _
  have := (tS_ok hT).2.2.2.1
  rw [hM.1.2.2.2, wiv]
  refine ⟨by unfold c32; omega, ?_, hM, hF.w⟩
  congr 2
  by_cases q : 0 ≤ a ∧ a < tS D 0 3
  · rw [if_pos q, if_pos (by omega)]
  · rw [if_neg q, if_neg (by omega)]
theorem vIj {x y : Int} (h : some (vI x) = some (vI y)) : x = y := (Prod.mk.inj (Option.some.inj h)).2
theorem M_cell {D : HP} (hT : TXM D) (a : Int) : CT mX6_cell [vR 56, vI a] D (fun v E => v = some (vI (vCell (tS D) a)) ∧ FRw D E) := by
  have hok := tS_ok hT
  refine V_X6_cell a (fun _ _ => ⟨fun h => ?_, fun h => ⟨_, C_isCell hT a, ?_⟩⟩)
  · rw [wi1] at h
    exact ⟨by unfold vCell; rw [if_neg h], FRw.rf D⟩
  rw [wi1] at h
  have h : 0 ≤ a ∧ a ≤ 24 := Decidable.of_not_not h
  rintro r E ⟨hr, hM, hF⟩ _ _
  have hr := vIj hr
  subst hr
  unfold vCell
  rw [if_pos h]
  by_cases q : 0 ≤ a ∧ a < tS D 0 1
  · have hw := hok.2.2.2.2.1 a.toNat (by omega)
    rw [if_pos q, if_pos q.2, hM.2.1 a.toNat (by omega)]
    refine ⟨⟨fun z => absurd z (by decide), fun _ => by omega⟩, ?_, hF⟩
    rw [if_neg (show ¬ (1 : Int) = 0 by decide)]
    rcases hw with z | z <;> rw [z] <;> rfl
  · rw [if_neg q, if_neg (show ¬ a < tS D 0 1 by omega)]
    exact ⟨⟨fun _ => trivial, fun z => absurd rfl z⟩, rfl, hF⟩
theorem M_gust {D : HP} (hT : TXM D) (a b : Int) : CT mX6_gust [vR 56, vI a, vI b] D (fun v E => v = some (vI (vGust (tS D) a b)) ∧ FRw D E) := by
  have hok := (tS_ok hT).2.2.1
  refine V_X6_gust a b (fun _ _ _ => ⟨_, C_isMinute hT a, ?_⟩)
  rintro r E ⟨hr, hM, hF⟩ _ _
  have hr := vIj hr
  subst hr
  rw [wiv]
  unfold vGust
  by_cases q : 0 ≤ a ∧ a < tS D 0 2
  · have e := hM.2.2.1 a.toNat (by omega)
    rw [if_pos q, e.1, e.2]
    refine ⟨⟨fun z => absurd z (by decide), fun _ => ⟨fun _ => trivial, fun _ => ⟨fun _ => by omega, fun _ => by omega⟩⟩⟩, ?_, hF⟩
    rw [if_neg (show ¬ (1 : Int) = 0 by decide)]
    by_cases z : 0 ≤ b ∧ b ≤ 1
    · simp [q, z]
    · simp [q, z]
  · rw [if_neg q]
    refine ⟨⟨fun _ => trivial, fun z => absurd rfl z⟩, ?_, hF⟩
    rw [if_pos rfl, if_neg (fun y => q y.1)]
theorem M_candidate {D : HP} (hT : TXM D) (a b : Int) : CT mX6_candidate [vR 56, vI a, vI b] D (fun v E => v = some (vI (vCand (tS D) a b)) ∧ FRw D E) := by
  have hok := tS_ok hT
  have h8 := hok.2.2.2.1
  refine V_X6_candidate a b (fun _ _ _ => ⟨_, C_isCandidate hT a, ?_⟩)
  rintro r E ⟨hr, hM, hF⟩ _ _
  have hr := vIj hr
  subst hr
  rw [wiv]
  unfold vCand
  by_cases q : 0 ≤ a ∧ a < tS D 0 3
  · have ea : a = ((a.toNat : Nat) : Int) := by omega
    have e := hM.2.2.2 a.toNat (by omega)
    have es := somM hM hok (k := a.toNat) (by omega)
    have eso := somMo hM hok (k := a.toNat) (by omega)
    rw [← ea] at es eso
    have o : oX6_candidateOf E a b := by
      unfold oX6_candidateOf
      refine ⟨?_, trivial⟩
      refine ⟨fun _ => by omega, fun _ => ⟨fun _ => by omega, fun _ => ⟨fun _ => by omega, fun _ => ?_⟩⟩⟩
      exact eso
    have f : fX6_candidateOf E a b = vCandOf (tS D) a.toNat b := by
      unfold fX6_candidateOf vCandOf
      rw [es, e.1, e.2.1, e.2.2]
      by_cases z0 : b = 0
      · rw [if_pos z0, if_pos z0]
      rw [if_neg z0, if_neg z0]
      by_cases z1 : b = 1
      · rw [if_pos z1, if_pos z1]
      rw [if_neg z1, if_neg z1]
      by_cases z2 : b = 2
      · rw [if_pos z2, if_pos z2]
      rw [if_neg z2, if_neg z2]
      cases som (tS D) a.toNat <;> rfl
    rw [if_pos q]
    refine ⟨⟨fun z => absurd z (by decide), fun _ => ⟨fun _ => trivial, fun _ => o⟩⟩, ?_, hF⟩
    rw [if_neg (show ¬ (1 : Int) = 0 by decide), f]
    by_cases z : 0 ≤ b ∧ b ≤ 3
    · simp [q, z]
    · simp [q, z]
  · rw [if_neg q]
    refine ⟨⟨fun _ => trivial, fun z => absurd rfl z⟩, ?_, hF⟩
    rw [if_pos rfl, if_neg (fun y => q y.1)]
theorem M_fault {D : HP} (hT : TXM D) (a : Int) : CT mX6_fault [vR 56, vI a] D (fun v E => v = some (vI (if 0 ≤ a ∧ a ≤ 2 then tF D a else -2)) ∧ FRw D E) := by
  refine V_X6_fault a (fun _ _ => ⟨fun h => ?_, fun h => ⟨_, C_faultOf hT a, ?_⟩⟩)
  · unfold fX6_isText at h
    rw [wi1] at h
    exact ⟨by rw [if_neg h], FRw.rf D⟩
  · unfold fX6_isText at h
    rw [wi1] at h
    have h : 0 ≤ a ∧ a ≤ 2 := Decidable.of_not_not h
    rintro r E ⟨hr, hM, hF⟩ _ _
    rw [if_pos h]
    exact ⟨hr, hF.w⟩
