theorem FRw.F {D E : HP} (h : FRw D E) (a : Int) : tF E a = tF D a := by
  unfold tF
  rw [tN_of h.t, tN_of h.t, tN_of h.t, tB_of h.t, tB_of h.t, tB_of h.t]
theorem FRw.C {D E : HP} (h : FRw D E) (a : Int) : vCount E a = vCount D a := by
  unfold vCount
  rw [h.S, h 57 0 (by omega) (by omega), h 57 1 (by omega) (by omega), h 57 2 (by omega) (by omega), h 56 17 (by omega) (by omega), h 56 28 (by omega) (by omega)]
def dg1 (D : HP) (n : Nat) : Int := hf (fun a => vCount D (a : Int)) n 17
def dg2 (D : HP) (n : Nat) : Int := hf (fun a => tF D (a : Int)) n (dg1 D 8)
def dg3 (D : HP) (n : Nat) : Int := hf (fun c => tS D 1 c) n (dg2 D 3)
def dg4 (D : HP) : Nat → Int
  | 0 => dg3 D (tS D 0 1).toNat
  | n + 1 => vMin (tS D) (gM D) (dg4 D n) n
def dg5 (D : HP) : Nat → Int
  | 0 => dg4 D (tS D 0 2).toNat
  | n + 1 => vCd (tS D) (gM D) (dg5 D n) n
def vDigest (D : HP) : Int := hx (hx (hx (hx (hx (hx (hx (dg5 D (tS D 0 3).toNat) (vFirstOf (tS D) 0)) (vFirstOf (tS D) 1)) (vLulls (tS D))) (vMoveOf (tS D) 0)) (vMoveOf (tS D) 1)) (vWeatherOf (tS D) 7 9 0)) (vWeatherOf (tS D) 7 9 1)
set_option maxHeartbeats 4000000 in
theorem M_digest {D : HP} (hT : TXM D) (hG : SGM D) : CT mX6_digest [vR 56] D (fun v E => v = some (vL (vDigest D)) ∧ FRw D E) := by
  have hok := tS_ok hT
  have h1 := hok.2.1
  have h2 := hok.2.2.1
  have h3 := hok.2.2.2.1
  have hw := hok.2.2.2.2.1
  refine V_X6_digest
    (fun x1 x3 E => (∃ c : Nat, x3 = c ∧ c ≤ 8 ∧ x1 = dg1 D c) ∧ FRw D E) (fun _ x3 _ => (8 - x3).toNat + 100)
    (fun x1 x3 E => (∃ c : Nat, x3 = c ∧ c ≤ 3 ∧ x1 = dg2 D c ∧ (0 < c → MS E (tS D))) ∧ FRw D E) (fun _ x3 _ => (3 - x3).toNat + 90)
    (fun x1 x3 E => (∃ c : Nat, x3 = c ∧ (c : Int) ≤ tS D 0 1 ∧ x1 = dg3 D c) ∧ MS E (tS D) ∧ FRw D E) (fun _ x3 _ => (tS D 0 1 - x3).toNat + 50)
    (fun x1 x3 E => (∃ c : Nat, x3 = c ∧ (c : Int) ≤ tS D 0 2 ∧ x1 = dg4 D c) ∧ MS E (tS D) ∧ FRw D E) (fun _ x3 _ => (tS D 0 2 - x3).toNat + 20)
    (fun x1 x3 E => (∃ c : Nat, x3 = c ∧ (c : Int) ≤ tS D 0 3 ∧ x1 = dg5 D c) ∧ MS E (tS D) ∧ FRw D E) (fun _ x3 _ => (tS D 0 3 - x3).toNat)
    (fun _ => ⟨⟨0, rfl, by omega, rfl⟩, FRw.rf D⟩) ?_ ?_ ?_ ?_ ?_
  · rintro x1 x3 E ⟨⟨c, rfl, hc, rfl⟩, hF⟩ _ _ _
    refine ⟨fun q => ⟨⟨⟨0, rfl, by omega, ?_, fun z => absurd z (by omega)⟩, hF⟩, by omega⟩, fun q => ?_⟩
    · rw [show c = 8 by omega]; rfl
    · refine ⟨_, M_count (hF.TX hT) c, ?_⟩
      rintro r E4 ⟨hr, hF4⟩ _ _
      have hr := vIj hr
      rw [hF.C] at hr
      subst hr
      exact ⟨by unfold c32; omega, ⟨⟨c + 1, by omega, by omega, rfl⟩, hF.tr hF4⟩, by omega⟩
  · rintro x1 x3 E ⟨⟨c, rfl, hc, rfl, hM⟩, hF⟩ _ _ _
    refine ⟨fun q => ⟨⟨⟨0, rfl, by omega, ?_⟩, hM (by omega), hF⟩, by omega⟩, fun q => ?_⟩
    · rw [show c = 3 by omega]; rfl
    · have e := C_faultOf (hF.TX hT) c
      rw [hF.S, hF.F] at e
      refine ⟨_, e, ?_⟩
      rintro r E4 ⟨hr, hM4, hF4⟩ _ _
      have hr := vIj hr
      subst hr
      exact ⟨by unfold c32; omega, ⟨⟨c + 1, by omega, by omega, rfl, fun _ => hM4⟩, hF.tr hF4.w⟩, by omega⟩
  · rintro x1 x3 E ⟨⟨c, rfl, hc, rfl⟩, hM, hF⟩ _ _ _
    rw [hM.1.2.1]
    refine ⟨fun q => ⟨⟨⟨0, rfl, by omega, ?_⟩, hM, hF⟩, by omega⟩, fun q => ⟨by omega, fun v hv => ?_⟩⟩
    · rw [show c = (tS D 0 1).toNat by omega]; rfl
    · have a := hM.2.1 c (by omega)
      have b := hw c (by omega)
      rw [show ((c : Int)).toNat = c by omega, a, show (if tS D 1 c = 0 then (0 : Int) else 1) = tS D 1 c by rcases b with b | b <;> rw [b] <;> rfl] at hv
      exact ⟨by unfold c32; omega, ⟨⟨c + 1, by omega, by omega, hv⟩, hM, hF⟩, by omega⟩
  · rintro x1 x3 E ⟨⟨c, rfl, hc, rfl⟩, hM, hF⟩ _ _ _
    rw [hM.1.2.2.1]
    refine ⟨fun q => ⟨⟨⟨0, rfl, by omega, ?_⟩, hM, hF⟩, by omega⟩, fun q => ?_⟩
    · rw [show c = (tS D 0 2).toNat by omega]; rfl
    · have e := C_minuteDigest (hF.TX hT) (hF.SG hG) (by rw [hF.S]; exact hM) (m := c) (by rw [hF.S]; omega) (dg4 D c)
      rw [hF.S, hF.g] at e
      refine ⟨_, e, ?_⟩
      rintro r E4 ⟨hr, hM4, hF4⟩ _ _
      have hr : r = _ := (Prod.mk.inj (Option.some.inj hr)).2
      exact ⟨by unfold c32; omega, ⟨⟨c + 1, by omega, by omega, hr⟩, hM4, hF.tr hF4⟩, by omega⟩
  · rintro x1 x3 E ⟨⟨c, rfl, hc, rfl⟩, hM, hF⟩ _ _ _
    rw [hM.1.2.2.2]
    refine ⟨fun q => ?_, fun q => ?_⟩
    · obtain rfl : c = (tS D 0 3).toNat := by omega
      have e := C_firstOf (hF.TX hT) 0
      rw [hF.S] at e
      refine ⟨_, e, ?_⟩
      rintro r1 E1 ⟨hr1, -, hF1⟩ _ _
      have hr1 := vIj hr1
      have hF1 := hF.tr hF1
      have e := C_firstOf (hF1.TX hT) 1
      rw [hF1.S] at e
      refine ⟨_, e, ?_⟩
      rintro r2 E2 ⟨hr2, -, hF2⟩ _ _ v50 hv50
      have hr2 := vIj hr2
      have hF2 := hF1.tr hF2
      have e := C_lullsNow (hF2.TX hT)
      rw [hF2.S] at e
      refine ⟨_, e, ?_⟩
      rintro r3 E3 ⟨hr3, -, hF3⟩ _ _
      have hr3 := vIj hr3
      have hF3 := hF2.tr hF3
      have e := C_moveOf (hF3.TX hT) 0
      rw [hF3.S] at e
      refine ⟨_, e, ?_⟩
      rintro r4 E4 ⟨hr4, -, hF4⟩ _ _ v66 hv66
      have hr4 := vIj hr4
      have hF4 := hF3.tr hF4
      have e := C_moveOf (hF4.TX hT) 1
      rw [hF4.S] at e
      refine ⟨_, e, ?_⟩
      rintro r5 E5 ⟨hr5, -, hF5⟩ _ _
      have hr5 := vIj hr5
      have hF5 := hF4.tr hF5
      have e := C_weatherOf (hF5.TX hT) 7 (n := 9) (by omega) 0
      rw [hF5.S] at e
      refine ⟨_, e, ?_⟩
      rintro r6 E6 ⟨hr6, hF6⟩ _ _ v82 hv82
      have hr6 := vIj hr6
      have hF6 := hF5.tr hF6
      have e := C_weatherOf (hF6.TX hT) 7 (n := 9) (by omega) 1
      rw [hF6.S] at e
      refine ⟨_, e, ?_⟩
      rintro r7 E7 ⟨hr7, hF7⟩ _ _
      have hr7 := vIj hr7
      refine ⟨?_, hF6.tr hF7⟩
      rw [hv82, hv66, hv50, hr1, hr2, hr3, hr4, hr5, hr6, hr7]
      rfl
    · have e := C_candidateDigest (hF.TX hT) (hF.SG hG) (by rw [hF.S]; exact hM) (k := c) (by rw [hF.S]; omega) (dg5 D c)
      rw [hF.S, hF.g] at e
      refine ⟨_, e, ?_⟩
      rintro r E4 ⟨hr, hM4, hF4⟩ _ _
      have hr : r = _ := (Prod.mk.inj (Option.some.inj hr)).2
      exact ⟨by unfold c32; omega, ⟨⟨c + 1, by omega, by omega, hr⟩, hM4, hF.tr hF4⟩, by omega⟩
