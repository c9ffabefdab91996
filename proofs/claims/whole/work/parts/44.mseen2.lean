def blK (S : SC) (g : SGt) (m : Nat) (i : Int) : Int := fsN (fun c => blP S g m c && decide (cntB (blP S g m) c = i)) 40
def vBlewOf (S : SC) (g : SGt) (m : Nat) (i : Int) : Int := if i = -1 then cntB (blP S g m) 40 else blK S g m i
def vBlew (S : SC) (g : SGt) (a i : Int) : Int := if (0 ≤ a ∧ a < S 0 2) ∧ -1 ≤ i ∧ i ≤ 39 then vBlewOf S g a.toNat i else -2
set_option maxHeartbeats 4000000 in
theorem C_blewOf {D : HP} (hT : TXM D) (hG : SGM D) {m : Nat} (hm : (m : Int) < tS D 0 2) {i : Int} (hi : -1 ≤ i ∧ i ≤ 39) : CT mX6_blewOf [vR 56, vI m, vI i] D (fun v E => v = some (vI (vBlewOf (tS D) (gM D) m i)) ∧ MS E (tS D) ∧ FRw D E) := by
  refine V_X6_blewOf m i (I19 := fun x1 x2 x3 x4 x5 E => i ≠ -1 ∧ ((∀ c : Nat, c < 40 → E 72 c = if blP (tS D) (gM D) m c = true then 1 else 0) ∧ MS E (tS D) ∧ FRw D E) ∧ ∃ c : Nat, x5 = c ∧ c ≤ 40 ∧ x4 = i - cntB (blP (tS D) (gM D) m) c ∧ ∀ j, j < c → (fun c => blP (tS D) (gM D) m c && decide (cntB (blP (tS D) (gM D) m) c = i)) j = false) (u19 := fun _ _ _ _ x5 _ => (40 - x5).toNat) (fun _ _ _ => ⟨_, C_blows hT hG hm, ?_⟩) ?_
  · rintro r E ⟨hr, h72, h73, hM, hF⟩ _ _
    have hr := vIj hr
    refine ⟨fun h => ⟨by rw [hr]; unfold vBlewOf; rw [if_pos h], hM, hF⟩, fun h => ⟨h, ⟨h72, hM, hF⟩, 0, rfl, by decide, by simp [cntB], fun j hj => absurd hj (Nat.not_lt_zero _)⟩⟩
  rintro x1 x2 x3 x4 x5 E ⟨hi1, ⟨h72, hM, hF⟩, c, rfl, hc, rfl, hn⟩ hcD _ _ _ _ _
  have hcn := cntB_in (blP (tS D) (gM D) m) c
  have hv : vBlewOf (tS D) (gM D) m i = blK (tS D) (gM D) m i := by unfold vBlewOf; rw [if_neg hi1]
  rw [hv]
  refine ⟨fun hcc => ⟨?_, hM, hF⟩, fun hcc => ⟨by omega, fun h0 => ⟨by omega, ?_⟩, fun h0 => ⟨fun h1 => ⟨?_, hM, hF⟩, fun h1 => ⟨by omega, ?_⟩⟩⟩⟩
  · have e : c = 40 := by omega
    subst e
    unfold blK
    rw [fsN_no hn]
  · rw [if_pos h0]
    rw [Int.toNat_natCast, h72 c (by omega)] at h0
    have hp : blP (tS D) (gM D) m c = false := by
      cases q : blP (tS D) (gM D) m c
      · rfl
      · rw [q] at h0; simp at h0
    refine ⟨by unfold c32; omega, ?_⟩
    rintro v rfl
    refine ⟨by unfold c32; omega, ⟨hi1, ⟨h72, hM, hF⟩, c + 1, by omega, by omega, by rw [cntB, hp]; simp, fun j hj => ?_⟩, by omega⟩
    by_cases q : j = c
    · rw [q]; simp [hp]
    · exact hn j (by omega)
  · rw [Int.toNat_natCast, h72 c (by omega)] at h0
    have hp : blP (tS D) (gM D) m c = true := by
      cases q : blP (tS D) (gM D) m c
      · rw [q] at h0; simp at h0
      · rfl
    unfold blK
    rw [fsN_yes (j := c) hn (by rw [hp]; exact decide_eq_true (by omega)) (by omega)]
  · rw [if_neg h0]
    rw [Int.toNat_natCast, h72 c (by omega)] at h0
    have hp : blP (tS D) (gM D) m c = true := by
      cases q : blP (tS D) (gM D) m c
      · rw [q] at h0; simp at h0
      · rfl
    refine ⟨by unfold c32; omega, ?_⟩
    rintro v rfl
    refine ⟨by unfold c32; omega, ⟨hi1, ⟨h72, hM, hF⟩, c + 1, by omega, by omega, by rw [cntB, hp]; simp; omega, fun j hj => ?_⟩, by omega⟩
    by_cases q : j = c
    · rw [q]
      have : ¬ cntB (blP (tS D) (gM D) m) c = i := by omega
      simp [this]
    · exact hn j (by omega)
theorem M_blew {D : HP} (hT : TXM D) (hG : SGM D) (a i : Int) : CT mX6_blew [vR 56, vI a, vI i] D (fun v E => v = some (vI (vBlew (tS D) (gM D) a i)) ∧ FRw D E) := by
  refine V_X6_blew a i (fun _ _ _ => ⟨_, C_isMinute hT a, ?_⟩)
  rintro r E ⟨hr, hM, hF⟩ _ _
  have hr := vIj hr
  subst hr
  unfold vBlew
  by_cases q : 0 ≤ a ∧ a < tS D 0 2
  · rw [if_pos q]
    refine ⟨fun z => absurd z (by decide), fun _ => ⟨fun h => ?_, fun h => ?_⟩⟩
    · rw [wi1] at h
      exact ⟨by rw [if_neg (fun y => h y.2)], hF⟩
    · rw [wi1] at h
      have h := Decidable.of_not_not h
      have e := C_blewOf (hF.TX hT) (hF.SG hG) (m := a.toNat) (by rw [hF.S]; omega) (i := i) h
      rw [hF.S, hF.g, show ((a.toNat : Nat) : Int) = a by omega] at e
      refine ⟨_, e, ?_⟩
      rintro r K ⟨hr, -, hF3⟩ _ _
      rw [if_pos ⟨q, h⟩]
      exact ⟨hr, hF.tr hF3⟩
  · rw [if_neg q]
    exact ⟨fun _ => ⟨by rw [if_neg (fun y => q y.1)], hF⟩, fun z => absurd rfl z⟩
/-- HAD: the bits of the first n ribs -/
def hdB (S : SC) (g : SGt) (k : Nat) : Nat → Int
  | 0 => 0
  | n + 1 => if cms (upS S 7 k ((n + 1 : Nat) : Int)) g = true then b_ior (hdB S g k n) (b_ishl 1 ((n + 1 : Nat) : Int)) else hdB S g k n
def vHadOf (S : SC) (g : SGt) (k : Nat) : Int := hdB S g k 9
def vHad (S : SC) (g : SGt) (a : Int) : Int := if 0 ≤ a ∧ a < S 0 3 then vHadOf S g a.toNat else -2
theorem ior0 {x : Int} (h : c32 x) : b_ior x 0 = x := by
  unfold b_ior
  rw [show Int32.ofInt 0 = 0 from rfl, Int32.or_zero, ti32 h]
set_option maxHeartbeats 4000000 in
theorem C_hadOf {D : HP} (hT : TXM D) (hG : SGM D) {k : Nat} (hk : (k : Int) < tS D 0 3) : CT mX6_hadOf [vR 56, vI k] D (fun v E => v = some (vI (vHadOf (tS D) (gM D) k)) ∧ MS E (tS D) ∧ FRw D E) := by
  have hok := tS_ok hT
  generalize hS : tS D = S at *
  generalize hgD : gM D = g at *
  have hrb := (hok.2.2.2.2.2.2 k hk).2.1
  have h3 := hok.2.2.2.1
  refine V_X6_hadOf k (I16 := fun x1 x2 x3 x4 E => x1 = k ∧ x2 = S 7 k ∧ (∃ z : Int, (1 ≤ z ∧ z ≤ 9) ∧ MS E (upS S 7 k z)) ∧ FRw D E ∧ ∃ n : Nat, x4 = ((n + 1 : Nat) : Int) ∧ n ≤ 9 ∧ x3 = hdB S g k n) (u16 := fun _ _ _ x4 _ => (10 - x4).toNat) (fun _ _ => ⟨_, C_reads hT, ?_⟩) ?_
  · rintro E ⟨-, hM, hF⟩ _
    rw [hS] at hM
    rw [Int.toNat_natCast, (hM.2.2.2 k hk).2.1]
    exact ⟨by omega, rfl, rfl, ⟨S 7 k, hrb, by rw [upS_me]; exact hM⟩, hF.w, 0, rfl, by decide, rfl⟩
  rintro x1 x2 x3 x4 E ⟨rfl, rfl, ⟨z, hz, hM⟩, hF, n, rfl, hn, rfl⟩ hcD _ _ c3 _
  refine ⟨fun hc => ⟨by omega, ?_⟩, fun hc => ⟨by omega, ?_⟩⟩
  · rintro F rfl
    have e : n = 9 := by omega
    subst e
    refine ⟨rfl, ?_, hF.tr (fun a i h1 h2 => hu_k _ _ (by omega))⟩
    have := MS_up hM (r := 7) (by decide) k (S 7 k)
    rw [upS_up, upS_me] at this
    exact this
  · rintro F hFe
    have hMF : MS F (upS S 7 k ((n + 1 : Nat) : Int)) := by
      have := MS_up hM (r := 7) (by decide) k ((n + 1 : Nat) : Int)
      rw [upS_up] at this
      rw [hFe, Int.toNat_natCast]
      exact this
    have hFw : FRw D F := hF.tr (fun a i q1 q2 => by rw [hFe]; exact hu_k _ _ (by omega))
    refine ⟨_, C_isSeen (OKS_7 hok k (by omega)) hMF (hFw.SG hG), ?_⟩
    rw [hFw.g, hgD]
    rintro r G ⟨hr, hR, hMG, hGw, -⟩ _ _
    have hr := vIj hr
    rintro v hv
    refine ⟨by unfold c32; omega, ⟨rfl, rfl, ⟨_, by omega, hMG⟩, hFw.tr hGw, n + 1, by omega, by omega, ?_⟩, by omega⟩
    rw [hv, hr, hdB]
    cases q : cms (upS S 7 k ((n + 1 : Nat) : Int)) g
    · exact ior0 c3
    · rfl
theorem M_had {D : HP} (hT : TXM D) (hG : SGM D) (a : Int) : CT mX6_had [vR 56, vI a] D (fun v E => v = some (vI (vHad (tS D) (gM D) a)) ∧ FRw D E) := by
  refine V_X6_had a (fun _ _ => ⟨_, C_isCandidate hT a, ?_⟩)
  rintro r E ⟨hr, hM, hF⟩ _ _
  have hr := vIj hr
  subst hr
  unfold vHad
  by_cases q : 0 ≤ a ∧ a < tS D 0 3
  · rw [if_pos q]
    have e := C_hadOf (hF.TX hT) (hF.SG hG) (k := a.toNat) (by rw [hF.S]; omega)
    rw [hF.S, hF.g, show ((a.toNat : Nat) : Int) = a by omega] at e
    refine ⟨fun z => absurd z (by decide), fun _ => ⟨_, e, ?_⟩⟩
    rintro r K ⟨hr, -, hF3⟩ _ _
    rw [if_pos q]
    exact ⟨hr, hF.tr hF3⟩
  · rw [if_neg q]
    exact ⟨fun _ => ⟨by rw [if_neg q], hF⟩, fun z => absurd rfl z⟩
/-- ASK: how many gusts of minute mm that may have blown leave who in behind minute j -/
def tal (S : SC) (g : SGt) (mm j : Nat) (who : Int) : Int := cntB (fun c => blP S g mm c && decide (inn (blS S mm c) j = who)) 40
def grt (S : SC) (g : SGt) (mm j : Nat) : Int := mxN (fun n => tal S g mm j ((n : Int) - 1)) ((S 0 3).toNat + 1)
def akB (S : SC) (g : SGt) (mm : Nat) : Nat → Int × Int
  | 0 => (-1, 0)
  | j + 1 => if (akB S g mm j).1 = -1 ∨ grt S g mm j < (akB S g mm j).2 then ((j : Int), grt S g mm j) else akB S g mm j
def vAskOf (S : SC) (g : SGt) (mm : Nat) : Int := (akB S g mm (S 0 2).toNat).1
def vAsk (S : SC) (g : SGt) (a : Int) : Int := if 0 ≤ a ∧ a < S 0 2 then vAskOf S g a.toNat else -2
set_option maxHeartbeats 4000000 in
theorem C_askOf {D : HP} (hT : TXM D) (hG : SGM D) {mm : Nat} (hm : (mm : Int) < tS D 0 2) : CT mX6_askOf [vR 56, vI mm] D (fun v E => v = some (vI (vAskOf (tS D) (gM D) mm)) ∧ MS E (tS D) ∧ FRw D E) := by
  have hok := tS_ok hT
  have key := C_blows hT hG hm
  generalize hS : tS D = S at *
  generalize hgD : gM D = g at *
  have h2 := hok.2.2.1
  have h3 := hok.2.2.2.1
  refine V_X6_askOf mm (I14 := fun x1 x2 x3 x4 x5 E => ((∀ c : Nat, c < 40 → E 72 c = if blP S g mm c = true then 1 else 0) ∧ (∀ c j : Nat, c < 40 → (j : Int) < S 0 2 → E 73 (12 * c + j) = inn (blS S mm c) j) ∧ MS E S ∧ FRw D E) ∧ ∃ j : Nat, x5 = j ∧ (j : Int) ≤ S 0 2 ∧ x3 = (akB S g mm j).1 ∧ x4 = (akB S g mm j).2) (u14 := fun _ _ _ _ x5 _ => ((12 - x5) * 10000).toNat)
    (I29 := fun x1 x2 x3 x4 x5 x6 x7 E => ((∀ c : Nat, c < 40 → E 72 c = if blP S g mm c = true then 1 else 0) ∧ (∀ c j : Nat, c < 40 → (j : Int) < S 0 2 → E 73 (12 * c + j) = inn (blS S mm c) j) ∧ MS E S ∧ FRw D E) ∧ ∃ j n : Nat, x5 = j ∧ (j : Int) < S 0 2 ∧ x3 = (akB S g mm j).1 ∧ x4 = (akB S g mm j).2 ∧ x7 = (n : Int) - 1 ∧ (n : Int) ≤ S 0 3 + 1 ∧ x6 = mxN (fun n => tal S g mm j ((n : Int) - 1)) n) (u29 := fun _ _ _ _ x5 _ x7 _ => ((12 - x5) * 10000 - (x7 + 1) * 100).toNat)
    (I44 := fun x1 x2 x3 x4 x5 x6 x7 x8 x9 E => ((∀ c : Nat, c < 40 → E 72 c = if blP S g mm c = true then 1 else 0) ∧ (∀ c j : Nat, c < 40 → (j : Int) < S 0 2 → E 73 (12 * c + j) = inn (blS S mm c) j) ∧ MS E S ∧ FRw D E) ∧ ∃ j n c : Nat, x5 = j ∧ (j : Int) < S 0 2 ∧ x3 = (akB S g mm j).1 ∧ x4 = (akB S g mm j).2 ∧ x7 = (n : Int) - 1 ∧ (n : Int) < S 0 3 + 1 ∧ x6 = mxN (fun n => tal S g mm j ((n : Int) - 1)) n ∧ x9 = c ∧ c ≤ 40 ∧ x8 = cntB (fun c => blP S g mm c && decide (inn (blS S mm c) j = (n : Int) - 1)) c) (u44 := fun _ _ _ _ x5 _ x7 _ x9 _ => ((12 - x5) * 10000 - (x7 + 1) * 100 - x9 - 1).toNat) (fun _ _ => ⟨_, key, ?_⟩) ?_ ?_ ?_
  · rintro r E ⟨-, h72, h73, hM, hF⟩ _ _
    exact ⟨⟨h72, h73, hM, hF⟩, 0, rfl, by omega, rfl, rfl⟩
  · rintro x1 x2 x3 x4 x5 E ⟨⟨h72, h73, hM, hF⟩, j, rfl, hj, rfl, rfl⟩ hcD _ _ _ _ _
    rw [hM.1.2.2.1]
    refine ⟨fun hc => ⟨?_, hM, hF⟩, fun hc => ⟨⟨⟨h72, h73, hM, hF⟩, j, 0, rfl, by omega, rfl, rfl, by omega, by omega, rfl⟩, by omega⟩⟩
    have e : j = (S 0 2).toNat := by omega
    rw [e]; rfl
  · rintro x1 x2 x3 x4 x5 x6 x7 E ⟨⟨h72, h73, hM, hF⟩, j, n, rfl, hj, rfl, rfl, rfl, hn, rfl⟩ hcD _ _ _ _ _ _ _
    rw [hM.1.2.2.2]
    refine ⟨fun hc => ?_, fun hc => ⟨⟨⟨h72, h73, hM, hF⟩, j, n, 0, rfl, hj, rfl, rfl, rfl, by omega, rfl, rfl, by decide, rfl⟩, by omega⟩⟩
    rintro v hv
    have e : n = (S 0 3).toNat + 1 := by omega
    have eg : mxN (fun n => tal S g mm j ((n : Int) - 1)) n = grt S g mm j := by rw [e]; rfl
    rw [eg] at hv ⊢
    have hb : ((akB S g mm j).1 = -1 ∨ grt S g mm j < (akB S g mm j).2) ↔ ¬ v = 0 := by
      rw [hv]
      by_cases q : (akB S g mm j).1 = -1
      · rw [if_pos q]; simp [q]
      · rw [if_neg q]
        by_cases y : (akB S g mm j).2 ≤ grt S g mm j
        · rw [if_pos y]; simp [q]; omega
        · rw [if_neg y]; simp [q]; omega
    refine ⟨by unfold c32; omega, ⟨⟨h72, h73, hM, hF⟩, j + 1, by omega, by omega, ?_, ?_⟩, by omega⟩
    · rw [akB]
      by_cases q : v = 0
      · rw [if_pos q, if_neg (fun y => (hb.mp y) q)]
      · rw [if_neg q, if_pos (hb.mpr q)]
    · rw [akB]
      by_cases q : v = 0
      · rw [if_pos q, if_neg (fun y => (hb.mp y) q)]
      · rw [if_neg q, if_pos (hb.mpr q)]
  · rintro x1 x2 x3 x4 x5 x6 x7 x8 x9 E ⟨⟨h72, h73, hM, hF⟩, j, n, c, rfl, hj, rfl, rfl, rfl, hn, rfl, rfl, hc, rfl⟩ hcD _ _ _ _ _ _ _ _ _
    have hcn := cntB_in (fun c => blP S g mm c && decide (inn (blS S mm c) j = (n : Int) - 1)) c
    refine ⟨fun hcc => ⟨by unfold c32; omega, ⟨⟨h72, h73, hM, hF⟩, j, n + 1, rfl, hj, rfl, rfl, by omega, by omega, ?_⟩, by omega⟩, fun hcc => ⟨by omega, ⟨fun _ => trivial, fun _ => ⟨by unfold c32; omega, by unfold c32; omega, by omega⟩⟩, ?_, ?_⟩⟩
    · have e : c = 40 := by omega
      subst e
      rw [mxN]
      show _ = if _ < tal S g mm j ((n : Int) - 1) then tal S g mm j ((n : Int) - 1) else _
      have et : cntB (fun c => blP S g mm c && decide (inn (blS S mm c) j = (n : Int) - 1)) 40 = tal S g mm j ((n : Int) - 1) := rfl
      rw [et]
      by_cases y : tal S g mm j ((n : Int) - 1) ≤ mxN (fun n => tal S g mm j ((n : Int) - 1)) n
      · rw [if_pos y, if_neg (by omega)]
      · rw [if_neg y, if_pos (by omega)]
    · unfold c32; repeat' split
      all_goals omega
    · rintro v hv
      rw [Int.toNat_natCast, h72 c (by omega), show (12 * (c : Int) + (j : Int)).toNat = 12 * c + j by omega, h73 c j (by omega) hj] at hv
      refine ⟨by unfold c32; omega, ⟨⟨h72, h73, hM, hF⟩, j, n, c + 1, rfl, hj, rfl, rfl, rfl, hn, rfl, by omega, by omega, ?_⟩, by omega⟩
      rw [hv, cntB]
      by_cases y : inn (blS S mm c) j = (n : Int) - 1
      · cases blP S g mm c <;> simp [y]
      · cases blP S g mm c <;> simp [y]
theorem M_ask {D : HP} (hT : TXM D) (hG : SGM D) (a : Int) : CT mX6_ask [vR 56, vI a] D (fun v E => v = some (vI (vAsk (tS D) (gM D) a)) ∧ FRw D E) := by
  refine V_X6_ask a (fun _ _ => ⟨_, C_isMinute hT a, ?_⟩)
  rintro r E ⟨hr, hM, hF⟩ _ _
  have hr := vIj hr
  subst hr
  unfold vAsk
  by_cases q : 0 ≤ a ∧ a < tS D 0 2
  · rw [if_pos q]
    have e := C_askOf (hF.TX hT) (hF.SG hG) (mm := a.toNat) (by rw [hF.S]; omega)
    rw [hF.S, hF.g, show ((a.toNat : Nat) : Int) = a by omega] at e
    refine ⟨fun z => absurd z (by decide), fun _ => ⟨_, e, ?_⟩⟩
    rintro r K ⟨hr, -, hF3⟩ _ _
    rw [if_pos q]
    exact ⟨hr, hF.tr hF3⟩
  · rw [if_neg q]
    exact ⟨fun _ => ⟨by rw [if_neg q], hF⟩, fun z => absurd rfl z⟩
