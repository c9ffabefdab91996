/-! ===== DIGEST of the model ===== -/
def hx (h x : Int) : Int := w64 (w64 (31 * h) + x)
def hf (f : Nat → Int) : Nat → Int → Int
  | 0, h => h
  | n + 1, h => hx (hf f n h) (f n)
def vMin0 (S : SC) (G : SGt) (h : Int) (m : Nat) : Int := hx (hx (hx (hx (hx (hx h (S 4 m)) (S 5 m)) (inn S m)) (vAskOf S G m)) (vBlewOf S G m (-1))) (vBlewOf S G m 0)
def vMin1 (S : SC) (G : SGt) (h : Int) (m : Nat) (n : Nat) : Int := hf (fun c => wnd S (tu S m) m (c : Int)) n (vMin0 S G h m)
def vMin2 (S : SC) (G : SGt) (h : Int) (m : Nat) (n : Nat) : Int := hf (fun k => rb S m k) n (vMin1 S G h m (S 0 1).toNat)
def vMin (S : SC) (G : SGt) (h : Int) (m : Nat) : Int := vMin2 S G h m (S 0 3).toNat
set_option maxHeartbeats 4000000 in
theorem C_minuteDigest {D : HP} (hT : TXM D) (hG : SGM D) (hM : MS D (tS D)) {m : Nat} (hm : (m : Int) < tS D 0 2) (h : Int) : CT mX6_minuteDigest [vR 56, vL h, vI m] D (fun v E => v = some (vL (vMin (tS D) (gM D) h m)) ∧ MS E (tS D) ∧ FRw D E) := by
  have hok := tS_ok hT
  have h2 := hok.2.2.1
  have h1 := hok.2.1
  have h3 := hok.2.2.2.1
  refine V_X6_minuteDigest h m
    (fun _ x3 x4 x6 E => x3 = m ∧ (∃ c : Nat, x6 = c ∧ (c : Int) ≤ tS D 0 1 ∧ x4 = vMin1 (tS D) (gM D) h m c) ∧ MS E (tS D) ∧ FRw D E) (fun _ _ _ x6 _ => (tS D 0 1 - x6).toNat + 20)
    (fun _ x3 x4 x6 E => x3 = m ∧ (∃ c : Nat, x6 = c ∧ (c : Int) ≤ tS D 0 3 ∧ x4 = vMin2 (tS D) (gM D) h m c) ∧ MS E (tS D) ∧ FRw D E) (fun _ _ _ x6 _ => (tS D 0 3 - x6).toNat)
    (fun _ _ _ => ⟨by omega, by omega, ?_⟩) ?_ ?_
  · intro v1 hv1
    refine ⟨_, C_inOf hT hm, ?_⟩
    rintro r E ⟨hr, -, hF⟩ _ _
    have hr := vIj hr
    have e := C_askOf (hF.TX hT) (hF.SG hG) (mm := m) (by rw [hF.S]; exact hm)
    rw [hF.S, hF.g] at e
    refine ⟨_, e, ?_⟩
    rintro r2 E2 ⟨hr2, -, hF2⟩ _ _ v17 hv17
    have hr2 := vIj hr2
    have hF2 := hF.tr hF2
    have e := C_blewOf (hF2.TX hT) (hF2.SG hG) (m := m) (by rw [hF2.S]; exact hm) (i := -1) (by omega)
    rw [hF2.S, hF2.g] at e
    refine ⟨_, e, ?_⟩
    rintro r3 E3 ⟨hr3, -, hF3⟩ _ _
    have hr3 := vIj hr3
    have hF3 := hF2.tr hF3
    have e := C_blewOf (hF3.TX hT) (hF3.SG hG) (m := m) (by rw [hF3.S]; exact hm) (i := 0) (by omega)
    rw [hF3.S, hF3.g] at e
    refine ⟨_, e, ?_⟩
    rintro r4 E4 ⟨hr4, hM4, hF4⟩ _ _ v33 hv33
    have hr4 := vIj hr4
    have hF4 := hF3.tr hF4
    refine ⟨rfl, ⟨0, rfl, by omega, ?_⟩, hM4, hF4⟩
    have a := (hM.2.2.1 m hm).1
    have b := (hM.2.2.1 m hm).2
    rw [show ((m : Int)).toNat = m by omega] at hv1
    rw [hv33, hv17, hv1, hr, hr2, hr3, hr4, a, b]
    rfl
  · rintro x1 x3 x4 x6 E ⟨rfl, ⟨c, rfl, hc, rfl⟩, hM, hF⟩ _ _ _ _ _
    rw [hM.1.2.1]
    refine ⟨fun q => ⟨⟨rfl, ⟨0, rfl, by omega, ?_⟩, hM, hF⟩, by omega⟩, fun q => ?_⟩
    · rw [show c = (tS D 0 1).toNat by omega]; rfl
    · have e := C_windOf (hF.TX hT) (m := m) (c := c) (by rw [hF.S]; exact hm) (by omega) (by rw [hF.S]; omega)
      rw [hF.S] at e
      refine ⟨_, e, ?_⟩
      rintro r E4 ⟨hr, hM4, hF4⟩ _ _
      have hr := vIj hr
      subst hr
      exact ⟨by unfold c32; omega, ⟨rfl, ⟨c + 1, by omega, by omega, rfl⟩, hM4, hF.tr hF4⟩, by omega⟩
  · rintro x1 x3 x4 x6 E ⟨rfl, ⟨c, rfl, hc, rfl⟩, hM, hF⟩ _ _ _ _ _
    rw [hM.1.2.2.2]
    refine ⟨fun q => ⟨?_, hM, hF⟩, fun q => ?_⟩
    · rw [show c = (tS D 0 3).toNat by omega]; rfl
    · have e := C_ribsOf (hF.TX hT) (m := m) (k := c) (by rw [hF.S]; exact hm) (by rw [hF.S]; omega)
      rw [hF.S] at e
      refine ⟨_, e, ?_⟩
      rintro r E4 ⟨hr, hM4, hF4⟩ _ _
      have hr := vIj hr
      subst hr
      exact ⟨by unfold c32; omega, ⟨rfl, ⟨c + 1, by omega, by omega, rfl⟩, hM4, hF.tr hF4⟩, by omega⟩
