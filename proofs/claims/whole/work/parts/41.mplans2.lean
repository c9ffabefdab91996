theorem CT.imp {mi : MI} {as : List MV} {D : HP} {Q Q' : Option MV → HP → Prop} (h : CT mi as D Q) (e : ∀ v E, Q v E ↔ Q' v E) : CT mi as D Q' := by
  have : Q = Q' := funext fun v => funext fun E => propext (e v E)
  rw [← this]; exact h
/-- SHIELD -/
def shP (S : SC) (k o : Nat) (c : Nat) : Bool := decide (o ≠ k ∧ S 1 c = 0 ∧ tak S c (-1) = false ∧ trn (upS S 6 o c) k = -1)
def shF (S : SC) (k o : Nat) : Int := fsN (shP S k o) (S 0 1).toNat
def shO (S : SC) (k : Nat) : Int := fsN (fun o => decide (shF S k o ≠ -1)) (S 0 3).toNat
def vShieldOf (S : SC) (k : Nat) : Int := if trn S k = -1 then -3 else if shO S k = -1 then -1 else 32 * shO S k + shF S k (shO S k).toNat
def vShield (S : SC) (a : Int) : Int := if 0 ≤ a ∧ a < S 0 3 then vShieldOf S a.toNat else -2
theorem C_doesStay {D : HP} {S : SC} (h : OKS S) (hM : MS D S) {k o c : Nat} (hk : (k : Int) < S 0 3) (ho : (o : Int) < S 0 3) (hc : (c : Int) < S 0 1) : CT mX6_doesStay [vR 56, vI k, vI o, vI c] D (fun v E => v = some (vI (if trn (upS S 6 o c) k = -1 then 1 else 0)) ∧ MS E S ∧ FRw D E) := by
  have h3 := h.2.2.2.1
  have hcl := h.2.1
  refine V_X6_doesStay k o c (fun _ _ _ _ => ⟨by omega, by omega, ?_⟩)
  rw [Int.toNat_natCast, (hM.2.2.2 o ho).1]
  rintro F hF
  have hMF : MS F (upS S 6 o c) := by rw [hF]; exact MS_up hM (r := 6) (by decide) o c
  refine ⟨_, C_runs' (OKS_6 h o (by omega)) hMF, ?_⟩
  rintro G ⟨-, hR, hMG, hGw, -⟩ _
  refine ⟨by omega, ?_⟩
  rintro K rfl
  refine ⟨by omega, ?_, ?_, fun a i h1 h2 => ?_⟩
  · rw [hu_k _ _ (by decide), Int.toNat_natCast, hR.1 k hk]
  · have := MS_up hMG (r := 6) (by decide) o (S 6 o)
    rw [upS_up, upS_me] at this
    exact this
  · rw [hu_k _ _ (by omega), hGw a i h1 h2, hF, hu_k _ _ (by omega)]
set_option maxHeartbeats 4000000 in
theorem C_shieldOf {D : HP} (hT : TXM D) {k : Nat} (hk : (k : Int) < tS D 0 3) : CT mX6_shieldOf [vR 56, vI k] D (fun v E => v = some (vI (vShieldOf (tS D) k)) ∧ MS E (tS D) ∧ FRw D E) := by
  have hok := tS_ok hT
  generalize hS : tS D = S at *
  have hcl := hok.2.1
  have h3 := hok.2.2.2.1
  refine V_X6_shieldOf k (I19 := fun x1 x2 E => x1 = k ∧ trn S k ≠ -1 ∧ (MS E S ∧ FRw D E) ∧ ∃ o : Nat, x2 = o ∧ (o : Int) ≤ S 0 3 ∧ ∀ i, i < o → (fun o => decide (shF S k o ≠ -1)) i = false) (u19 := fun _ x2 _ => ((8 - x2) * 100).toNat)
    (I29 := fun x1 x2 x3 E => x1 = k ∧ trn S k ≠ -1 ∧ (MS E S ∧ FRw D E) ∧ ∃ o : Nat, x2 = o ∧ (o : Int) < S 0 3 ∧ (∀ i, i < o → (fun o => decide (shF S k o ≠ -1)) i = false) ∧ ∃ c : Nat, x3 = c ∧ (c : Int) ≤ S 0 1 ∧ ∀ i, i < c → shP S k o i = false) (u29 := fun _ x2 x3 _ => ((8 - x2) * 100 - x3).toNat) (fun _ _ => ⟨_, C_runsTold hT, ?_⟩) ?_ ?_
  · rintro E ⟨-, hR, hM, hF⟩ _
    rw [hS] at hR hM
    rw [Int.toNat_natCast, hR.1 k hk]
    refine ⟨by omega, fun h => ⟨?_, hM, hF⟩, fun h => ⟨rfl, h, ⟨hM, hF⟩, 0, rfl, by omega, fun i hi => absurd hi (Nat.not_lt_zero _)⟩⟩
    unfold vShieldOf
    rw [if_pos h]
  · rintro x1 x2 E ⟨rfl, ht, ⟨hM, hF⟩, o, rfl, ho, hn⟩ hcD _ _
    rw [hM.1.2.2.2]
    refine ⟨fun hc => ⟨?_, hM, hF⟩, fun hc => ⟨⟨rfl, ht, ⟨hM, hF⟩, o, rfl, by omega, hn, 0, rfl, by omega, fun i hi => absurd hi (Nat.not_lt_zero _)⟩, by omega⟩⟩
    have e : o = (S 0 3).toNat := by omega
    subst e
    unfold vShieldOf shO
    rw [if_neg ht, fsN_no hn, if_pos rfl]
  · rintro x1 x2 x3 E ⟨rfl, ht, ⟨hM, hF⟩, o, rfl, ho, hn, c, rfl, hc, hnc⟩ hcD _ _ _
    rw [hM.1.2.1]
    have next : (c : Int) < S 0 1 → shP S k o c = false → ∀ G, MS G S → FRw D G → (c32 ((c : Int) + 1) ∧ ((k : Int) = k ∧ trn S k ≠ -1 ∧ (MS G S ∧ FRw D G) ∧ ∃ o' : Nat, (o : Int) = o' ∧ (o' : Int) < S 0 3 ∧ (∀ i, i < o' → (fun o => decide (shF S k o ≠ -1)) i = false) ∧ ∃ c' : Nat, (c : Int) + 1 = c' ∧ (c' : Int) ≤ S 0 1 ∧ ∀ i, i < c' → shP S k o' i = false) ∧ ((8 - (o : Int)) * 100 - ((c : Int) + 1)).toNat < ((8 - (o : Int)) * 100 - (c : Int)).toNat) := fun h1 h2 G g1 g2 => by
      refine ⟨by unfold c32; omega, ⟨rfl, ht, ⟨g1, g2⟩, o, rfl, ho, hn, c + 1, by omega, by omega, fun i hi => ?_⟩, by omega⟩
      by_cases e : i = c
      · rw [e]; exact h2
      · exact hnc i (by omega)
    refine ⟨fun hcc => ⟨by unfold c32; omega, ⟨rfl, ht, ⟨hM, hF⟩, o + 1, by omega, by omega, fun i hi => ?_⟩, by omega⟩, fun hcc => ⟨fun he => next (by omega) ?_ E hM hF, fun he => ⟨by omega, fun hw => ⟨takMo hM hok _ _, fun hta => ?_, fun hta => next (by omega) ?_ E hM hF⟩, fun hw => next (by omega) ?_ E hM hF⟩⟩⟩
    · by_cases e : i = o
      · rw [e]
        have : shF S k o = -1 := by unfold shF; exact fsN_no (fun i hi => hnc i (by omega))
        simp [this]
      · exact hn i (by omega)
    · unfold shP; exact decide_eq_false fun q => q.1 (by omega)
    · rw [Int.toNat_natCast, hM.2.1 c (by omega)] at hw
      rw [takM hM] at hta
      have hta : tak S c (-1) = false := by
        cases q : tak S c (-1)
        · rfl
        · rw [q] at hta; simp at hta
      refine ⟨_, C_doesStay hok hM hk (o := o) ho (c := c) (by omega), ?_⟩
      rintro r G ⟨hr, hMG, hFG⟩ _ _
      have hr := vIj hr
      subst hr
      refine ⟨fun h0 => next (by omega) ?_ G hMG (hF.tr hFG), fun h0 => ⟨by unfold c32; omega, by unfold c32; omega, ?_, hMG, hF.tr hFG⟩⟩
      · unfold shP
        refine decide_eq_false fun q => ?_
        rw [if_pos q.2.2.2] at h0
        omega
      · have hp : shP S k o c = true := by
          unfold shP
          refine decide_eq_true ⟨fun z => he (by rw [z]), hw, hta, ?_⟩
          by_cases q : trn (upS S 6 o c) k = -1
          · exact q
          · rw [if_neg q] at h0; exact absurd rfl h0
        have f1 : shF S k o = c := by unfold shF; exact fsN_yes hnc hp (by omega)
        have f2 : shO S k = o := by unfold shO; exact fsN_yes hn (by simp only [f1]; exact decide_eq_true (by omega)) (by omega)
        unfold vShieldOf
        rw [if_neg ht, f2, if_neg (show ¬ ((o : Int) = -1) by omega), Int.toNat_natCast, f1]
    · unfold shP
      refine decide_eq_false fun q => hta ?_
      rw [takM hM, q.2.2.1]; rfl
    · rw [Int.toNat_natCast, hM.2.1 c (by omega)] at hw
      unfold shP
      exact decide_eq_false fun q => hw q.2.1
theorem M_shield {D : HP} (hT : TXM D) (a : Int) : CT mX6_shield [vR 56, vI a] D (fun v E => v = some (vI (vShield (tS D) a)) ∧ FRw D E) := by
  refine V_X6_shield a (fun _ _ => ⟨_, C_isCandidate hT a, ?_⟩)
  rintro r E ⟨hr, hM, hF⟩ _ _
  have hr := vIj hr
  subst hr
  unfold vShield
  by_cases q : 0 ≤ a ∧ a < tS D 0 3
  · rw [if_pos q]
    have e := C_shieldOf (hF.TX hT) (k := a.toNat) (by rw [hF.S]; omega)
    rw [hF.S, show ((a.toNat : Nat) : Int) = a by omega] at e
    refine ⟨fun z => absurd z (by decide), fun _ => ⟨_, e, ?_⟩⟩
    rintro r K ⟨hr, -, hF3⟩ _ _
    rw [if_pos q]
    exact ⟨hr, hF.tr hF3⟩
  · rw [if_neg q]
    exact ⟨fun _ => ⟨by rw [if_neg q], hF⟩, fun z => absurd rfl z⟩
/-- BRIBE -/
def brP (S : SC) (k : Nat) (y : Nat) : Bool := decide (lin (upS S 7 k (S 7 k - y)) = k)
def vBribeOf (S : SC) (k : Nat) : Int := fsN (brP S k) (S 7 k).toNat
def vBribe (S : SC) (a : Int) : Int := if 0 ≤ a ∧ a < S 0 3 then vBribeOf S a.toNat else -2
set_option maxHeartbeats 4000000 in
theorem C_bribeOf {D : HP} (hT : TXM D) {k : Nat} (hk : (k : Int) < tS D 0 3) : CT mX6_bribeOf [vR 56, vI k] D (fun v E => v = some (vI (vBribeOf (tS D) k)) ∧ MS E (tS D) ∧ FRw D E) := by
  have hok := tS_ok hT
  generalize hS : tS D = S at *
  have hrb := (hok.2.2.2.2.2.2 k hk).2.1
  have h3 := hok.2.2.2.1
  refine V_X6_bribeOf k (I16 := fun x1 x2 x3 x4 E => x1 = k ∧ x2 = S 7 k ∧ (∃ z : Int, (1 ≤ z ∧ z ≤ 9) ∧ MS E (upS S 7 k z)) ∧ FRw D E ∧ ∃ y : Nat, x4 = y ∧ (y : Int) ≤ S 7 k ∧ x3 = fsN (brP S k) y) (u16 := fun _ _ _ x4 _ => (9 - x4).toNat) (fun _ _ => ⟨_, C_reads hT, ?_⟩) ?_
  · rintro E ⟨-, hM, hF⟩ _
    rw [hS] at hM
    rw [Int.toNat_natCast, (hM.2.2.2 k hk).2.1]
    exact ⟨by omega, rfl, rfl, ⟨S 7 k, hrb, by rw [upS_me]; exact hM⟩, hF.w, 0, rfl, by omega, rfl⟩
  rintro x1 x2 x3 x4 E ⟨rfl, rfl, ⟨z, hz, hM⟩, hF, y, rfl, hy, rfl⟩ hcD _ _ _ _
  have fin : ∀ r : Int, r = vBribeOf S k → (0 ≤ (k : Int) ∧ (k : Int) < 9) ∧ ∀ F : HP, F = hu E 63 (k : Int).toNat (S 7 k) → (some (vI r) = some (vI (vBribeOf S k)) ∧ MS F S ∧ FRw D F) := fun r hr => by
    refine ⟨by omega, ?_⟩
    rintro F rfl
    refine ⟨by rw [hr], ?_, hF.tr (fun a i h1 h2 => hu_k _ _ (by omega))⟩
    have := MS_up hM (r := 7) (by decide) k (S 7 k)
    rw [upS_up, upS_me] at this
    exact this
  refine ⟨fun hc => fin _ ?_, fun hc => ⟨fun h1 => ⟨by unfold c32; omega, by omega, ?_⟩, fun h1 => fin _ ?_⟩⟩
  · have e : y = (S 7 k).toNat := by omega
    rw [e]; rfl
  · rintro F hFe
    have hMF : MS F (upS S 7 k (S 7 k - y)) := by
      have := MS_up hM (r := 7) (by decide) k (S 7 k - y)
      rw [upS_up] at this
      rw [hFe, Int.toNat_natCast]
      exact this
    have hFw : FRw E F := fun a i q1 q2 => by rw [hFe]; exact hu_k _ _ (by omega)
    refine ⟨_, C_runs' (OKS_7 hok k (by omega)) hMF, ?_⟩
    rintro G ⟨-, hR, hMG, hGw, -⟩ _
    have hoG := OKS_7 hok k (z := S 7 k - y) (by omega)
    rw [linM hMG hR hoG]
    refine ⟨linMo hMG hoG, ?_⟩
    rintro v hv
    refine ⟨by unfold c32; omega, ⟨rfl, rfl, ⟨S 7 k - y, by omega, hMG⟩, (hF.tr hFw).tr hGw, y + 1, by omega, by omega, ?_⟩, by omega⟩
    have e : fsN (brP S k) (y + 1) = if brP S k y = true then (y : Int) else -1 := by rw [fsN, if_neg (fun q => q h1)]
    rw [e, hv]
    unfold brP
    simp only [decide_eq_true_eq]
  · unfold vBribeOf
    have up : ∀ (p : Nat → Bool) (n m : Nat), n ≤ m → fsN p n ≠ -1 → fsN p m = fsN p n := fun p n m hnm hne => by
      induction m with
      | zero => rw [show n = 0 by omega]
      | succ m ih =>
        by_cases e : n = m + 1
        · rw [e]
        · rw [fsN, ih (by omega), if_pos hne]
    exact (up _ _ _ (by omega) h1).symm
theorem M_bribe {D : HP} (hT : TXM D) (a : Int) : CT mX6_bribe [vR 56, vI a] D (fun v E => v = some (vI (vBribe (tS D) a)) ∧ FRw D E) := by
  refine V_X6_bribe a (fun _ _ => ⟨_, C_isCandidate hT a, ?_⟩)
  rintro r E ⟨hr, hM, hF⟩ _ _
  have hr := vIj hr
  subst hr
  unfold vBribe
  by_cases q : 0 ≤ a ∧ a < tS D 0 3
  · rw [if_pos q]
    have e := C_bribeOf (hF.TX hT) (k := a.toNat) (by rw [hF.S]; omega)
    rw [hF.S, show ((a.toNat : Nat) : Int) = a by omega] at e
    refine ⟨fun z => absurd z (by decide), fun _ => ⟨_, e, ?_⟩⟩
    rintro r K ⟨hr, -, hF3⟩ _ _
    rw [if_pos q]
    exact ⟨hr, hF.tr hF3⟩
  · rw [if_neg q]
    exact ⟨fun _ => ⟨by rw [if_neg q], hF⟩, fun z => absurd rfl z⟩
