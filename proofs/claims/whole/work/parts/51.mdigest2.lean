theorem candM {E : HP} {S : SC} (hM : MS E S) (hok : OKS S) {k : Nat} (hk : (k : Int) < S 0 3) (b : Int) : oX6_candidateOf E k b ∧ fX6_candidateOf E k b = vCandOf S k b := by
  have h8 := hok.2.2.2.1
  have e := hM.2.2.2 k hk
  have es := somM hM hok (k := k) hk
  have eso := somMo hM hok (k := k) hk
  constructor
  · unfold oX6_candidateOf
    refine ⟨?_, trivial⟩
    refine ⟨fun _ => by omega, fun _ => ⟨fun _ => by omega, fun _ => ⟨fun _ => by omega, fun _ => ?_⟩⟩⟩
    exact eso
  · unfold fX6_candidateOf vCandOf
    rw [es, show ((k : Int)).toNat = k by omega, e.1, e.2.1, e.2.2]
    by_cases z0 : b = 0
    · rw [if_pos z0, if_pos z0]
    rw [if_neg z0, if_neg z0]
    by_cases z1 : b = 1
    · rw [if_pos z1, if_pos z1]
    rw [if_neg z1, if_neg z1]
    by_cases z2 : b = 2
    · rw [if_pos z2, if_pos z2]
    rw [if_neg z2, if_neg z2]
    cases som S k <;> rfl
def vCd1 (S : SC) (h : Int) (k : Nat) (n : Nat) : Int := hf (fun b => vCandOf S k (b : Int)) n h
def vCd2 (S : SC) (h : Int) (k : Nat) (n : Nat) : Int := hf (fun b => vOverOf S k (b : Int)) n (vCd1 S h k 4)
def vCd (S : SC) (G : SGt) (h : Int) (k : Nat) : Int := hx (hx (hx (hx (hx (hx (hx (vCd2 S h k 4) (vStandOf S k 0)) (vStandOf S k 1)) (vShieldOf S k)) (vBribeOf S k)) (vHadOf S G k)) (vCalmOf S 5 k 0)) (vCalmOf S 5 k 1)
set_option maxHeartbeats 4000000 in
theorem C_candidateDigest {D : HP} (hT : TXM D) (hG : SGM D) (hM : MS D (tS D)) {k : Nat} (hk : (k : Int) < tS D 0 3) (h : Int) : CT mX6_candidateDigest [vR 56, vL h, vI k] D (fun v E => v = some (vL (vCd (tS D) (gM D) h k)) ∧ MS E (tS D) ∧ FRw D E) := by
  have hok := tS_ok hT
  have h3 := hok.2.2.2.1
  refine V_X6_candidateDigest h k
    (fun _ x3 x4 x6 E => x3 = k ∧ (∃ c : Nat, x6 = c ∧ (c : Int) ≤ 4 ∧ x4 = vCd1 (tS D) h k c) ∧ MS E (tS D) ∧ FRw D E) (fun _ _ _ x6 _ => (4 - x6).toNat + 20)
    (fun _ x3 x4 x6 E => x3 = k ∧ (∃ c : Nat, x6 = c ∧ (c : Int) ≤ 4 ∧ x4 = vCd2 (tS D) h k c) ∧ MS E (tS D) ∧ FRw D E) (fun _ _ _ x6 _ => (4 - x6).toNat)
    (fun _ _ _ => ⟨rfl, ⟨0, rfl, by omega, rfl⟩, hM, FRw.rf D⟩) ?_ ?_
  · rintro x1 x3 x4 x6 E ⟨rfl, ⟨c, rfl, hc, rfl⟩, hM, hF⟩ _ _ _ _ _
    refine ⟨fun q => ⟨⟨rfl, ⟨0, rfl, by omega, ?_⟩, hM, hF⟩, by omega⟩, fun q => ?_⟩
    · rw [show c = 4 by omega]; rfl
    · have e := candM hM hok hk c
      refine ⟨e.1, fun v2 hv => ?_⟩
      rw [e.2] at hv
      exact ⟨by unfold c32; omega, ⟨rfl, ⟨c + 1, by omega, by omega, hv⟩, hM, hF⟩, by omega⟩
  · rintro x1 x3 x4 x6 E ⟨rfl, ⟨c, rfl, hc, rfl⟩, hM, hF⟩ _ _ _ _ _
    refine ⟨fun q => ?_, fun q => ?_⟩
    · obtain rfl : c = 4 := by omega
      have e := C_standOf (hF.TX hT) (k := k) (by rw [hF.S]; exact hk) 0
      rw [hF.S] at e
      refine ⟨_, e, ?_⟩
      rintro r1 E1 ⟨hr1, -, hF1⟩ _ _
      have hr1 := vIj hr1
      have hF1 := hF.tr hF1
      have e := C_standOf (hF1.TX hT) (k := k) (by rw [hF1.S]; exact hk) 1
      rw [hF1.S] at e
      refine ⟨_, e, ?_⟩
      rintro r2 E2 ⟨hr2, -, hF2⟩ _ _ v21 hv21
      have hr2 := vIj hr2
      have hF2 := hF1.tr hF2
      have e := C_shieldOf (hF2.TX hT) (k := k) (by rw [hF2.S]; exact hk)
      rw [hF2.S] at e
      refine ⟨_, e, ?_⟩
      rintro r3 E3 ⟨hr3, -, hF3⟩ _ _
      have hr3 := vIj hr3
      have hF3 := hF2.tr hF3
      have e := C_bribeOf (hF3.TX hT) (k := k) (by rw [hF3.S]; exact hk)
      rw [hF3.S] at e
      refine ⟨_, e, ?_⟩
      rintro r4 E4 ⟨hr4, -, hF4⟩ _ _ v37 hv37
      have hr4 := vIj hr4
      have hF4 := hF3.tr hF4
      have e := C_hadOf (hF4.TX hT) (hF4.SG hG) (k := k) (by rw [hF4.S]; exact hk)
      rw [hF4.S, hF4.g] at e
      refine ⟨_, e, ?_⟩
      rintro r5 E5 ⟨hr5, -, hF5⟩ _ _
      have hr5 := vIj hr5
      have hF5 := hF4.tr hF5
      have e := C_calmOf (hF5.TX hT) (c := 5) (by omega) (k := k) (by rw [hF5.S]; exact hk) 0
      rw [hF5.S] at e
      refine ⟨_, e, ?_⟩
      rintro r6 E6 ⟨hr6, hF6⟩ _ _ v53 hv53
      have hr6 : r6 = vCalmOf (tS D) 5 k 0 := (Prod.mk.inj (Option.some.inj hr6)).2
      have hF6 := hF5.tr hF6
      have e := C_calmOf (hF6.TX hT) (c := 5) (by omega) (k := k) (by rw [hF6.S]; exact hk) 1
      rw [hF6.S] at e
      refine ⟨_, e, ?_⟩
      rintro r7 E7 ⟨hr7, hF7⟩ _ _
      have hr7 : r7 = vCalmOf (tS D) 5 k 1 := (Prod.mk.inj (Option.some.inj hr7)).2
      have hF7 := hF6.tr hF7
      have e := C_reads (hF7.TX hT)
      rw [hF7.S] at e
      refine ⟨_, e, ?_⟩
      rintro E8 ⟨-, hM8, hF8⟩ _
      refine ⟨?_, hM8, hF7.tr hF8.w⟩
      rw [hv53, hv37, hv21, hr1, hr2, hr3, hr4, hr5, hr6, hr7]
      rfl
    · have e := C_turnsOf (hF.TX hT) (k := k) (by rw [hF.S]; exact hk) c
      rw [hF.S] at e
      refine ⟨_, e, ?_⟩
      rintro r E4 ⟨hr, hM4, hF4⟩ _ _
      have hr := vIj hr
      subst hr
      exact ⟨by unfold c32; omega, ⟨rfl, ⟨c + 1, by omega, by omega, rfl⟩, hM4, hF.tr hF4⟩, by omega⟩
