/-! ===== plans: a scene with one thing otherwise ===== -/
def upS (S : SC) (r i : Nat) (z : Int) : SC := fun a b => if a = r ∧ b = i then z else S a b
theorem upS_r (S : SC) {r i a b : Nat} (z : Int) (h : a ≠ r) : upS S r i z a b = S a b := by simp [upS, h]
theorem upS_i (S : SC) {r i a b : Nat} (z : Int) (h : b ≠ i) : upS S r i z a b = S a b := by simp [upS, h]
theorem upS_s (S : SC) (r i : Nat) (z : Int) : upS S r i z r i = z := by simp [upS]
theorem upS_up (S : SC) (r i : Nat) (y z : Int) : upS (upS S r i y) r i z = upS S r i z := by
  funext a b
  unfold upS
  by_cases h : a = r ∧ b = i
  · rw [if_pos h, if_pos h]
  · rw [if_neg h, if_neg h, if_neg h]
theorem upS_me (S : SC) (r i : Nat) : upS S r i (S r i) = S := by
  funext a b
  unfold upS
  by_cases h : a = r ∧ b = i
  · rw [if_pos h, h.1, h.2]
  · rw [if_neg h]
/-- the model's cell of a row -/
def mr (r : Nat) : Nat := if r = 1 then 59 else r + 56
theorem MS_up {D : HP} {S : SC} (hM : MS D S) {r : Nat} (hr : r = 1 ∨ r = 4 ∨ r = 5 ∨ r = 6 ∨ r = 7 ∨ r = 8) (i : Nat) (z : Int) : MS (hu D (mr r) i z) (upS S r i z) := by
  have c0 : ∀ j, upS S r i z 0 j = S 0 j := fun j => upS_r S z (by omega)
  have d56 : ∀ j, hu D (mr r) i z 56 j = D 56 j := fun j => hu_k D z (by unfold mr; split <;> omega)
  have row : ∀ q j : Nat, (q = 1 ∨ q = 4 ∨ q = 5 ∨ q = 6 ∨ q = 7 ∨ q = 8) → D (mr q) j = S q j → hu D (mr r) i z (mr q) j = upS S r i z q j := fun q j hq h => by
    by_cases e : q = r
    · subst e
      by_cases f : j = i
      · subst f; rw [hu_s, upS_s]
      · rw [hu_i _ _ f, upS_i _ _ f, h]
    · rw [hu_k _ _ (by unfold mr; split <;> split <;> omega), upS_r _ _ e, h]
  refine ⟨?_, fun j hj => ?_, fun m hm => ?_, fun k hk => ?_⟩
  · simp only [c0, d56]; exact hM.1
  · rw [c0] at hj; exact row 1 j (by decide) (hM.2.1 j hj)
  · rw [c0] at hm; exact ⟨row 4 m (by decide) (hM.2.2.1 m hm).1, row 5 m (by decide) (hM.2.2.1 m hm).2⟩
  · rw [c0] at hk; exact ⟨row 6 k (by decide) (hM.2.2.2 k hk).1, row 7 k (by decide) (hM.2.2.2 k hk).2.1, row 8 k (by decide) (hM.2.2.2 k hk).2.2⟩
theorem OKS_6 {S : SC} (h : OKS S) (k : Nat) {z : Int} (hz : 0 ≤ z ∧ z ≤ 29) : OKS (upS S 6 k z) := by
  have r : ∀ a b, a ≠ 6 → upS S 6 k z a b = S a b := fun a b q => upS_r S z q
  unfold OKS
  simp only [r 0 _ (by decide), r 1 _ (by decide), r 4 _ (by decide), r 5 _ (by decide), r 7 _ (by decide), r 8 _ (by decide)]
  refine ⟨h.1, h.2.1, h.2.2.1, h.2.2.2.1, h.2.2.2.2.1, h.2.2.2.2.2.1, fun j hj => ⟨?_, (h.2.2.2.2.2.2 j hj).2⟩⟩
  by_cases e : j = k
  · subst e; rw [upS_s]; exact hz
  · rw [upS_i _ _ e]; exact (h.2.2.2.2.2.2 j hj).1
theorem OKS_7 {S : SC} (h : OKS S) (k : Nat) {z : Int} (hz : 1 ≤ z ∧ z ≤ 9) : OKS (upS S 7 k z) := by
  have r : ∀ a b, a ≠ 7 → upS S 7 k z a b = S a b := fun a b q => upS_r S z q
  unfold OKS
  simp only [r 0 _ (by decide), r 1 _ (by decide), r 4 _ (by decide), r 5 _ (by decide), r 6 _ (by decide), r 8 _ (by decide)]
  refine ⟨h.1, h.2.1, h.2.2.1, h.2.2.2.1, h.2.2.2.2.1, h.2.2.2.2.2.1, fun j hj => ⟨(h.2.2.2.2.2.2 j hj).1, ?_, (h.2.2.2.2.2.2 j hj).2.2⟩⟩
  by_cases e : j = k
  · subst e; rw [upS_s]; exact hz
  · rw [upS_i _ _ e]; exact (h.2.2.2.2.2.2 j hj).2.1
theorem OKS_1 {S : SC} (h : OKS S) (k : Nat) {z : Int} (hz : z = 0 ∨ z = 1) : OKS (upS S 1 k z) := by
  have r : ∀ a b, a ≠ 1 → upS S 1 k z a b = S a b := fun a b q => upS_r S z q
  unfold OKS
  simp only [r 0 _ (by decide), r 4 _ (by decide), r 5 _ (by decide), r 6 _ (by decide), r 7 _ (by decide), r 8 _ (by decide)]
  refine ⟨h.1, h.2.1, h.2.2.1, h.2.2.2.1, fun j hj => ?_, h.2.2.2.2.2⟩
  by_cases e : j = k
  · subst e; rw [upS_s]; exact hz
  · rw [upS_i _ _ e]; exact h.2.2.2.2.1 j hj
def tak (S : SC) (c but : Int) : Bool := exB (fun j => decide ((j : Int) ≠ but ∧ S 6 j = c)) (S 0 3).toNat
theorem takM {D : HP} {S : SC} (hM : MS D S) (c but : Int) : fX6_isTaken D c but = if tak S c but = true then 1 else 0 := by
  unfold fX6_isTaken tak
  rw [hM.1.2.2.2]
  rw [exB_congr (q := fun j => decide ((j : Int) ≠ but ∧ S 6 j = c)) (fun k hk => by rw [(hM.2.2.2 k (by omega)).1])]
theorem takMo {D : HP} {S : SC} (hM : MS D S) (h : OKS S) (c but : Int) : oX6_isTaken D c but := by
  unfold oX6_isTaken
  rw [hM.1.2.2.2]
  have := h.2.2.2.1
  omega
theorem tak_up {S : SC} {k : Nat} {z c : Int} : tak (upS S 6 k z) c k = tak S c k := by
  unfold tak
  rw [upS_r S z (show (0 : Nat) ≠ 6 by decide)]
  refine exB_congr fun j hj => ?_
  by_cases e : j = k
  · subst e; simp
  · rw [upS_i _ _ e]
theorem linM {D : HP} {S : SC} (hM : MS D S) (hR : RM D S) (h : OKS S) : fX6_lastIn D = lin S := by
  have := h.2.2.1
  unfold fX6_lastIn lin
  rw [hM.1.2.2.1]
  by_cases q : S 0 2 = 0
  · rw [if_pos q, if_pos q]
  · rw [if_neg q, if_neg q, hR.2.2.1 _ (by omega)]
theorem linMo {D : HP} {S : SC} (hM : MS D S) (h : OKS S) : oX6_lastIn D := by
  have := h.2.2.1
  unfold oX6_lastIn
  rw [hM.1.2.2.1]
  exact ⟨⟨fun _ => trivial, fun _ => ⟨by unfold c32; omega, by omega⟩⟩, trivial⟩
/-- STAND: the best place, and its minute, of the first c cells -/
def stq (S : SC) (k c : Nat) (p : Int × Int) : Bool := decide (S 1 c = 0 ∧ tak S c k = false ∧ trn (upS S 6 k c) k ≠ -1 ∧ (p.1 = -1 ∨ trn (upS S 6 k c) k < p.2))
def stc (S : SC) (k : Nat) : Nat → Int × Int
  | 0 => (-1, -1)
  | c + 1 => if stq S k c (stc S k c) = true then ((c : Int), trn (upS S 6 k c) k) else stc S k c
def vStandOf (S : SC) (k : Nat) (b : Int) : Int := if b = 0 then (stc S k (S 0 1).toNat).1 else (stc S k (S 0 1).toNat).2
def vStand (S : SC) (a b : Int) : Int := if (0 ≤ a ∧ a < S 0 3) ∧ 0 ≤ b ∧ b ≤ 1 then vStandOf S a.toNat b else -2
set_option maxHeartbeats 4000000 in
theorem C_standOf {D : HP} (hT : TXM D) {k : Nat} (hk : (k : Int) < tS D 0 3) (b : Int) : CT mX6_standOf [vR 56, vI k, vI b] D (fun v E => v = some (vI (vStandOf (tS D) k b)) ∧ MS E (tS D) ∧ FRw D E) := by
  have hok := tS_ok hT
  generalize hS : tS D = S at *
  have hcl := hok.2.1
  have h3 := hok.2.2.2.1
  refine V_X6_standOf k b (I20 := fun x1 x2 x3 x4 x5 x6 E => x1 = k ∧ x2 = b ∧ x3 = S 6 k ∧ (∃ z : Int, (0 ≤ z ∧ z ≤ 29) ∧ MS E (upS S 6 k z)) ∧ FRw D E ∧ ∃ c : Nat, x6 = c ∧ (c : Int) ≤ S 0 1 ∧ x4 = (stc S k c).1 ∧ x5 = (stc S k c).2) (u20 := fun _ _ _ _ _ x6 _ => (25 - x6).toNat) (fun _ _ _ => ⟨_, C_reads hT, ?_⟩) ?_
  · rintro E ⟨-, hM, hF⟩ _
    rw [hS] at hM
    rw [Int.toNat_natCast, (hM.2.2.2 k hk).1]
    exact ⟨by omega, rfl, rfl, rfl, ⟨S 6 k, (hok.2.2.2.2.2.2 k hk).1, by rw [upS_me]; exact hM⟩, hF.w, 0, rfl, by omega, rfl, rfl⟩
  rintro x1 x2 x3 x4 x5 x6 E ⟨rfl, rfl, rfl, ⟨z, hz, hM⟩, hF, c, rfl, hc, rfl, rfl⟩ hcD _ _ _ _ _ _
  have e1 : E 56 3 = S 0 1 := hM.1.2.1
  rw [e1]
  refine ⟨fun hcc => ⟨by omega, ?_⟩, fun hcc => ⟨by omega, fun hw => ⟨takMo hM (OKS_6 hok k hz) _ _, fun ht => ?_, fun ht => ?_⟩, fun hw => ?_⟩⟩
  · rintro F rfl
    have e : c = (S 0 1).toNat := by omega
    subst e
    refine ⟨rfl, ?_, hF.tr (fun a i h1 h2 => hu_k _ _ (by omega))⟩
    have := MS_up hM (r := 6) (by decide) k (S 6 k)
    rw [upS_up, upS_me] at this
    exact this
  · -- a place to try
    rw [Int.toNat_natCast, hM.2.1 c (by show (c : Int) < S 0 1; omega)] at hw
    have hw : S 1 c = 0 := hw
    rw [takM hM, tak_up] at ht
    have ht : tak S c k = false := by
      cases q : tak S c k
      · rfl
      · rw [q] at ht; simp at ht
    refine ⟨by omega, ?_⟩
    rintro F hFe
    have hMF : MS F (upS S 6 k c) := by
      have := MS_up hM (r := 6) (by decide) k c
      rw [upS_up] at this
      rw [hFe, Int.toNat_natCast]
      exact this
    have hFw : FRw E F := fun a i h1 h2 => by rw [hFe]; exact hu_k _ _ (by omega)
    refine ⟨_, C_runs' (OKS_6 hok k (by omega)) hMF, ?_⟩
    rintro G ⟨-, hR, hMG, hGw, -⟩ hcG
    have hg : G 66 (k : Int).toNat = trn (upS S 6 k c) k := by rw [Int.toNat_natCast]; exact hR.1 k hk
    have hti := tu_in (S := upS S 6 k c) (k := k) (upS S 6 k c 0 2).toNat
    have h2 := hok.2.2.1
    rw [hg]
    refine ⟨by omega, ⟨fun _ => trivial, fun _ => ⟨fun _ => trivial, fun _ => by omega⟩⟩, ?_⟩
    rintro v hv
    refine ⟨⟨fun _ => trivial, fun _ => by omega⟩, ?_⟩
    rintro w hw2
    have hst : stq S k c (stc S k c) = true ↔ ¬ v = 0 := by
      rw [hv]
      unfold stq
      rw [decide_eq_true_eq]
      by_cases q1 : trn (upS S 6 k c) k = -1
      · rw [if_pos q1]; exact ⟨fun h => absurd q1 h.2.2.1, fun h => absurd rfl h⟩
      · rw [if_neg q1]
        by_cases q2 : (stc S k c).1 = -1
        · rw [if_pos q2]; exact ⟨fun _ => by decide, fun _ => ⟨hw, ht, q1, Or.inl q2⟩⟩
        · rw [if_neg q2]
          by_cases q3 : (stc S k c).2 ≤ trn (upS S 6 k c) k
          · rw [if_pos q3]; exact ⟨fun h => by rcases h.2.2.2 with y | y; exact absurd y q2; omega, fun h => absurd rfl h⟩
          · rw [if_neg q3]; exact ⟨fun _ => by decide, fun _ => ⟨hw, ht, q1, Or.inr (by omega)⟩⟩
    refine ⟨by unfold c32; omega, ⟨rfl, rfl, rfl, ⟨c, by omega, hMG⟩, (hF.tr hFw).tr hGw, c + 1, by omega, by omega, ?_, ?_⟩, by omega⟩
    · rw [stc]
      by_cases q : v = 0
      · rw [if_pos q, if_neg (fun y => (hst.mp y) q)]
      · rw [if_neg q, if_pos (hst.mpr q)]
    · rw [hw2, stc]
      by_cases q : v = 0
      · rw [if_pos q, if_neg (fun y => (hst.mp y) q)]
      · rw [if_neg q, if_pos (hst.mpr q)]
  · rw [takM hM, tak_up] at ht
    have hn : stq S k c (stc S k c) = false := by
      unfold stq
      refine decide_eq_false fun q => ht ?_
      rw [q.2.1]; rfl
    refine ⟨by unfold c32; omega, ⟨rfl, rfl, rfl, ⟨z, hz, hM⟩, hF, c + 1, by omega, by omega, ?_, ?_⟩, by omega⟩ <;> · rw [stc, hn]; rfl
  · rw [Int.toNat_natCast, hM.2.1 c (by show (c : Int) < S 0 1; omega)] at hw
    have hn : stq S k c (stc S k c) = false := by
      unfold stq
      exact decide_eq_false fun q => hw q.1
    refine ⟨by unfold c32; omega, ⟨rfl, rfl, rfl, ⟨z, hz, hM⟩, hF, c + 1, by omega, by omega, ?_, ?_⟩, by omega⟩ <;> · rw [stc, hn]; rfl
theorem M_stand {D : HP} (hT : TXM D) (a b : Int) : CT mX6_stand [vR 56, vI a, vI b] D (fun v E => v = some (vI (vStand (tS D) a b)) ∧ FRw D E) := by
  refine V_X6_stand a b (fun _ _ _ => ⟨_, C_isCandidate hT a, ?_⟩)
  rintro r E ⟨hr, hM, hF⟩ _ _
  have hr := vIj hr
  subst hr
  unfold vStand
  by_cases q : 0 ≤ a ∧ a < tS D 0 3
  · rw [if_pos q]
    refine ⟨fun z => absurd z (by decide), fun _ => ⟨fun h => ?_, fun h => ?_⟩⟩
    · rw [wi1] at h
      exact ⟨by rw [if_neg (fun y => h y.2)], hF⟩
    · rw [wi1] at h
      have h := Decidable.of_not_not h
      have e := C_standOf (hF.TX hT) (k := a.toNat) (by rw [hF.S]; omega) b
      rw [hF.S, show ((a.toNat : Nat) : Int) = a by omega] at e
      refine ⟨_, e, ?_⟩
      rintro r K ⟨hr, -, hF3⟩ _ _
      rw [if_pos ⟨q, h⟩]
      exact ⟨hr, hF.tr hF3⟩
  · rw [if_neg q]
    exact ⟨fun _ => ⟨by rw [if_neg (fun y => q y.1)], hF⟩, fun z => absurd rfl z⟩
