/-! ===== the class: digest ===== -/
/-- E is D behind questions -/
def QS (D E : HP) (S : SC) : Prop := FQ D E ∧ IQ E S ∧ WC E S
theorem QS_rf {D : HP} {S : SC} (h1 : IQ D S) (h2 : WC D S) : QS D D S := ⟨FQ.rf D, h1, h2⟩
theorem QS_R {D E F : HP} {S : SC} (h : QS D E S) (g : FR E F) : QS D F S :=
  ⟨h.1.tr g.Q, IQ_of h.2.1 (g 0 7 (by decide)) (g 0 8 (by decide)) (fun i => g 53 i (by decide)) g.Q.g, WC_of h.2.2 (g 0 10 (by decide)) (fun i => g 54 i (by decide))⟩
theorem QS_I {D E F : HP} {S : SC} (h : QS D E S) (q : IQ F S) (g : FI E F) : QS D F S :=
  ⟨h.1.tr g.Q, q, WC_of h.2.2 (g 0 10 (by decide) (by decide) (by decide)) (fun i => g 54 i (by decide) (by decide) (Or.inl (by decide)))⟩
theorem QS_W {D E F : HP} {S : SC} (h : QS D E S) (q : WC F S) (g : FW E F) : QS D F S :=
  ⟨h.1.tr g.Q, IQ_of h.2.1 (g 0 7 (by decide) (by decide) (by decide) (by decide)) (g 0 8 (by decide) (by decide) (by decide) (by decide)) (fun i => g 53 i (by decide) (by decide) (by decide) (Or.inl (by decide))) g.Q.g, q⟩
theorem QS_tr {D E F : HP} {S : SC} (h : QS D E S) (g : QS E F S) : QS D F S := ⟨h.1.tr g.1, g.2⟩
theorem vLj {x y : Int} (h : some (vL x) = some (vL y)) : x = y := (Prod.mk.inj (Option.some.inj h)).2
set_option maxHeartbeats 4000000 in
theorem K_digestMinute {D : HP} {S : SC} (h : TC D 9 S) (hG : SGC D) (hQ : IQ D S) (hW : WC D S) {m : Nat} (hm : (m : Int) < S 0 2) (z : Int) : CT mX5_digestMinute [vR 0, vL z, vI m] D (fun v E => v = some (vL (vMin S (gC D) z m)) ∧ QS D E S) := by
  have hok := h.1
  have h1 := hok.2.1
  have h2 := hok.2.2.1
  have h3 := hok.2.2.2.1
  have em : ((m : Int)).toNat = m := by omega
  have eg0 : vGust S m 0 = S 4 m := by unfold vGust; rw [if_pos ⟨by omega, by omega⟩, if_pos rfl, em]
  have eg1 : vGust S m 1 = S 5 m := by unfold vGust; rw [if_pos ⟨by omega, by omega⟩, if_neg (by decide), em]
  have ein : vIn S m = inn S m := by unfold vIn; rw [if_pos (by omega), em]
  have eas : ∀ G, vAsk S G m = vAskOf S G m := fun G => by unfold vAsk; rw [if_pos (by omega), em]
  have ebl : ∀ G i, -1 ≤ i ∧ i ≤ 39 → vBlew S G m i = vBlewOf S G m i := fun G i hi => by unfold vBlew; rw [if_pos ⟨by omega, hi⟩, em]
  have ewi : ∀ c : Nat, (c : Int) < S 0 1 → vWind S m c = wnd S (tu S m) m c := fun c hc => by unfold vWind; rw [if_pos ⟨by omega, by omega⟩, em]
  have eri : ∀ k : Nat, (k : Int) < S 0 3 → vRibs S m k = rb S m k := fun k hk => by unfold vRibs; rw [if_pos ⟨by omega, by omega⟩, em, show ((k : Int)).toNat = k by omega]
  refine V_X5_digestMinute z m
    (fun _ x3 x4 x6 E => x3 = m ∧ (∃ c : Nat, x6 = c ∧ (c : Int) ≤ S 0 1 ∧ x4 = vMin1 S (gC D) z m c) ∧ QS D E S) (fun _ _ _ x6 _ => (S 0 1 - x6).toNat + 20)
    (fun _ x3 x4 x6 E => x3 = m ∧ (∃ c : Nat, x6 = c ∧ (c : Int) ≤ S 0 3 ∧ x4 = vMin2 S (gC D) z m c) ∧ QS D E S) (fun _ _ _ x6 _ => (S 0 3 - x6).toNat)
    (fun _ _ _ => ⟨ko_gust h _ _, fun v1 hv1 => ⟨ko_gust h _ _, fun v3 hv3 => ⟨ko_in h _, _, K_ask h hG hQ m, ?_⟩⟩⟩) ?_ ?_
  · rintro r E ⟨hr, hI, hF⟩ _ _ v12 hv12
    have q1 := QS_I (QS_rf hQ hW) hI hF
    have hr := vIj hr
    have hT1 := q1.1.TC h
    have hG1 := q1.1.SG hG
    refine ⟨_, K_blew hT1 hG1 q1.2.1 m (-1), ?_⟩
    rintro r2 E2 ⟨hr2, hI2, hF2⟩ _ _
    have q2 := QS_I q1 hI2 hF2
    have hr2 := vIj hr2
    refine ⟨_, K_blew (q2.1.TC h) (q2.1.SG hG) q2.2.1 m 0, ?_⟩
    rintro r3 E3 ⟨hr3, hI3, hF3⟩ _ _ v28 hv28
    have q3 := QS_I q2 hI3 hF3
    have hr3 := vIj hr3
    refine ⟨rfl, ⟨0, rfl, by omega, ?_⟩, q3⟩
    rw [q1.1.g, ebl _ _ (by omega)] at hr2
    rw [q2.1.g, ebl _ _ (by omega)] at hr3
    rw [eas] at hr
    rw [ke_in h, ein] at hv12
    rw [ke_gust h, eg1] at hv3
    rw [ke_gust h, eg0] at hv1
    rw [hv28, hv12, hv3, hv1, hr, hr2, hr3]
    rfl
  · rintro x1 x3 x4 x6 E ⟨rfl, ⟨c, rfl, hc, rfl⟩, q⟩ _ _ _ _ _
    have hT := q.1.TC h
    have e1 : E 10 1 = S 0 1 := hT.2.2.1.1.2.1
    rw [e1]
    refine ⟨fun y => ⟨⟨rfl, ⟨0, rfl, by omega, ?_⟩, q⟩, by omega⟩, fun y => ⟨ko_wind hT _ _, fun v34 hv => ⟨by unfold c32; omega, ⟨rfl, ⟨c + 1, by omega, by omega, ?_⟩, q⟩, by omega⟩⟩⟩
    · rw [show c = (S 0 1).toNat by omega]; rfl
    · rw [hv, ke_wind hT, ewi c (by omega)]
      rfl
  · rintro x1 x3 x4 x6 E ⟨rfl, ⟨c, rfl, hc, rfl⟩, q⟩ _ _ _ _ _
    have hT := q.1.TC h
    have e1 : E 10 3 = S 0 3 := hT.2.2.1.1.2.2.2
    rw [e1]
    refine ⟨fun y => ⟨?_, q⟩, fun y => ⟨ko_ribs hT _ _, fun v34 hv => ⟨by unfold c32; omega, ⟨rfl, ⟨c + 1, by omega, by omega, ?_⟩, q⟩, by omega⟩⟩⟩
    · rw [show c = (S 0 3).toNat by omega]; rfl
    · rw [hv, ke_ribs hT, eri c (by omega)]
      rfl
set_option maxHeartbeats 4000000 in
theorem K_digestCandidate {D : HP} {S : SC} (h : TC D 9 S) (hG : SGC D) (hQ : IQ D S) (hW : WC D S) {k : Nat} (hk : (k : Int) < S 0 3) (z : Int) : CT mX5_digestCandidate [vR 0, vL z, vI k] D (fun v E => v = some (vL (vCd S (gC D) z k)) ∧ QS D E S) := by
  have hok := h.1
  have h3 := hok.2.2.2.1
  have ek : ((k : Int)).toNat = k := by omega
  have eca : ∀ c : Nat, c < 4 → vCand S k c = vCandOf S k c := fun c hc => by unfold vCand; rw [if_pos ⟨by omega, by omega⟩, ek]
  have eov : ∀ c : Nat, c < 4 → vOver S k c = vOverOf S k c := fun c hc => by unfold vOver; rw [if_pos ⟨by omega, by omega⟩, ek]
  have est : ∀ b : Int, 0 ≤ b ∧ b ≤ 1 → vStand S k b = vStandOf S k b := fun b hb => by unfold vStand; rw [if_pos ⟨by omega, hb⟩, ek]
  have esh : vShield S k = vShieldOf S k := by unfold vShield; rw [if_pos (by omega), ek]
  have ebr : vBribe S k = vBribeOf S k := by unfold vBribe; rw [if_pos (by omega), ek]
  have eha : ∀ G, vHad S G k = vHadOf S G k := fun G => by unfold vHad; rw [if_pos (by omega), ek]
  have ecl : ∀ b : Int, 0 ≤ b ∧ b ≤ 1 → vCalm S 5 k b = vCalmOf S 5 k b := fun b hb => by unfold vCalm; rw [if_pos ⟨by omega, by omega, hb⟩, ek]
  refine V_X5_digestCandidate z k
    (fun _ x3 x4 x6 E => x3 = k ∧ (∃ c : Nat, x6 = c ∧ (c : Int) ≤ 4 ∧ x4 = vCd1 S z k c) ∧ QS D E S) (fun _ _ _ x6 _ => (4 - x6).toNat + 20)
    (fun _ x3 x4 x6 E => x3 = k ∧ (∃ c : Nat, x6 = c ∧ (c : Int) ≤ 4 ∧ x4 = vCd2 S z k c) ∧ QS D E S) (fun _ _ _ x6 _ => (4 - x6).toNat)
    (fun _ _ _ => ⟨rfl, ⟨0, rfl, by omega, rfl⟩, QS_rf hQ hW⟩) ?_ ?_
  · rintro x1 x3 x4 x6 E ⟨rfl, ⟨c, rfl, hc, rfl⟩, q⟩ _ _ _ _ _
    have hT := q.1.TC h
    refine ⟨fun y => ⟨⟨rfl, ⟨0, rfl, by omega, ?_⟩, q⟩, by omega⟩, fun y => ⟨ko_candidate hT _ _, fun v2 hv => ⟨by unfold c32; omega, ⟨rfl, ⟨c + 1, by omega, by omega, ?_⟩, q⟩, by omega⟩⟩⟩
    · rw [show c = 4 by omega]; rfl
    · rw [hv, ke_candidate hT, eca c (by omega)]; rfl
  · rintro x1 x3 x4 x6 E ⟨rfl, ⟨c, rfl, hc, rfl⟩, q⟩ _ _ _ _ _
    have hT := q.1.TC h
    refine ⟨fun y => ⟨_, K_stand hT k 0, ?_⟩, fun y => ⟨ko_overturns hT _ _, fun v2 hv => ⟨by unfold c32; omega, ⟨rfl, ⟨c + 1, by omega, by omega, ?_⟩, q⟩, by omega⟩⟩⟩
    · obtain rfl : c = 4 := by omega
      rintro r1 E1 ⟨hr1, hF1⟩ _ _
      have q1 := QS_R q hF1
      refine ⟨_, K_stand (q1.1.TC h) k 1, ?_⟩
      rintro r2 E2 ⟨hr2, hF2⟩ _ _ v21 hv21
      have q2 := QS_R q1 hF2
      refine ⟨_, K_shield (q2.1.TC h) k, ?_⟩
      rintro r3 E3 ⟨hr3, hF3⟩ _ _
      have q3 := QS_R q2 hF3
      refine ⟨_, K_bribe (q3.1.TC h) k, ?_⟩
      rintro r4 E4 ⟨hr4, hF4⟩ _ _ v37 hv37
      have q4 := QS_R q3 hF4
      refine ⟨_, K_had (q4.1.TC h) (q4.1.SG hG) k, ?_⟩
      rintro r5 E5 ⟨hr5, hF5⟩ _ _
      have q5 := QS_R q4 hF5
      refine ⟨_, K_calm (q5.1.TC h) q5.2.2 5 k 0, ?_⟩
      rintro r6 E6 ⟨hr6, hW6, hF6⟩ _ _ v53 hv53
      have q6 := QS_W q5 hW6 hF6
      refine ⟨_, K_calm (q6.1.TC h) q6.2.2 5 k 1, ?_⟩
      rintro r7 E7 ⟨hr7, hW7, hF7⟩ _ _
      have q7 := QS_W q6 hW7 hF7
      refine ⟨?_, q7⟩
      have hr1 := vIj hr1
      have hr2 := vIj hr2
      have hr3 := vIj hr3
      have hr4 := vIj hr4
      have hr5 := vIj hr5
      have hr6 := vLj hr6
      have hr7 := vLj hr7
      rw [est _ (by omega)] at hr1 hr2
      rw [esh] at hr3
      rw [ebr] at hr4
      rw [q4.1.g, eha] at hr5
      rw [ecl _ (by omega)] at hr6 hr7
      rw [hv53, hv37, hv21, hr1, hr2, hr3, hr4, hr5, hr6, hr7]
      rfl
    · rw [hv, ke_overturns hT, eov c (by omega)]; rfl
/-! the whole of it -/
def cg1 (D : HP) (S : SC) (n : Nat) : Int := hf (fun a => vCountC D S (a : Int)) n 17
def cg2 (D : HP) (S : SC) (n : Nat) : Int := hf (fun a => D 8 a) n (cg1 D S 8)
def cg3 (D : HP) (S : SC) (n : Nat) : Int := hf (fun c => S 1 c) n (cg2 D S 3)
def cg4 (D : HP) (S : SC) : Nat → Int
  | 0 => cg3 D S (S 0 1).toNat
  | n + 1 => vMin S (gC D) (cg4 D S n) n
def cg5 (D : HP) (S : SC) : Nat → Int
  | 0 => cg4 D S (S 0 2).toNat
  | n + 1 => vCd S (gC D) (cg5 D S n) n
def vDigC (D : HP) (S : SC) : Int := hx (hx (hx (hx (hx (hx (hx (cg5 D S (S 0 3).toNat) (vFirstOf S 0)) (vFirstOf S 1)) (vLulls S)) (vMoveOf S 0)) (vMoveOf S 1)) (vWeatherOf S 7 9 0)) (vWeatherOf S 7 9 1)
theorem QS_cnt {D E : HP} {S : SC} (h : FQ D E) (a : Int) : vCountC E S a = vCountC D S a := by
  unfold vCountC
  rw [h 2 2 (by decide) (by decide) (by decide) (by decide) (by decide), h 3 2 (by decide) (by decide) (by decide) (by decide) (by decide), h 4 2 (by decide) (by decide) (by decide) (by decide) (by decide), h 41 0 (by decide) (by decide) (by decide) (by decide) (by decide), h 0 6 (by decide) (by decide) (by decide) (by decide) (by decide)]
set_option maxHeartbeats 4000000 in
theorem K_digest {D : HP} {S : SC} (h : TC D 9 S) (hG : SGC D) (hQ : IQ D S) (hW : WC D S) : CT mX5_digest [vR 0] D (fun v E => v = some (vL (vDigC D S)) ∧ QS D E S) := by
  have hok := h.1
  have h1 := hok.2.1
  have h2 := hok.2.2.1
  have h3 := hok.2.2.2.1
  have efi : ∀ b : Int, 0 ≤ b ∧ b ≤ 1 → vFirst S b = vFirstOf S b := fun b hb => by unfold vFirst; rw [if_pos hb]
  have emo : ∀ b : Int, 0 ≤ b ∧ b ≤ 1 → vMove S b = vMoveOf S b := fun b hb => by unfold vMove; rw [if_pos hb]
  have ewe : ∀ b : Int, 0 ≤ b ∧ b ≤ 1 → vWeather S 7 9 b = vWeatherOf S 7 9 b := fun b hb => by unfold vWeather; rw [if_pos ⟨by omega, hb⟩]; rfl
  have ece : ∀ c : Nat, (c : Int) < S 0 1 → vCell S c = S 1 c := fun c hc => by unfold vCell; rw [if_pos (by omega), if_pos hc, show ((c : Int)).toNat = c by omega]
  refine V_X5_digest
    (fun x1 x3 E => (∃ c : Nat, x3 = c ∧ c ≤ 8 ∧ x1 = cg1 D S c) ∧ QS D E S) (fun _ x3 _ => (8 - x3).toNat + 100)
    (fun x1 x3 E => (∃ c : Nat, x3 = c ∧ c ≤ 3 ∧ x1 = cg2 D S c) ∧ QS D E S) (fun _ x3 _ => (3 - x3).toNat + 90)
    (fun x1 x3 E => (∃ c : Nat, x3 = c ∧ (c : Int) ≤ S 0 1 ∧ x1 = cg3 D S c) ∧ QS D E S) (fun _ x3 _ => (S 0 1 - x3).toNat + 50)
    (fun x1 x3 E => (∃ c : Nat, x3 = c ∧ (c : Int) ≤ S 0 2 ∧ x1 = cg4 D S c) ∧ QS D E S) (fun _ x3 _ => (S 0 2 - x3).toNat + 20)
    (fun x1 x3 E => (∃ c : Nat, x3 = c ∧ (c : Int) ≤ S 0 3 ∧ x1 = cg5 D S c) ∧ QS D E S) (fun _ x3 _ => (S 0 3 - x3).toNat)
    (fun _ => ⟨⟨0, rfl, by omega, rfl⟩, QS_rf hQ hW⟩) ?_ ?_ ?_ ?_ ?_
  · rintro x1 x3 E ⟨⟨c, rfl, hc, rfl⟩, q⟩ _ _ _
    have hT := q.1.TC h
    refine ⟨fun y => ⟨⟨⟨0, rfl, by omega, ?_⟩, q⟩, by omega⟩, fun y => ⟨ko_count hT _, fun v2 hv => ⟨by unfold c32; omega, ⟨⟨c + 1, by omega, by omega, ?_⟩, q⟩, by omega⟩⟩⟩
    · rw [show c = 8 by omega]; rfl
    · rw [hv, k_count hT, QS_cnt q.1]; rfl
  · rintro x1 x3 E ⟨⟨c, rfl, hc, rfl⟩, q⟩ _ _ _
    have hT := q.1.TC h
    refine ⟨fun y => ⟨⟨⟨0, rfl, by omega, ?_⟩, q⟩, by omega⟩, fun y => ⟨⟨⟨fun _ => trivial, fun _ => by omega⟩, trivial⟩, fun v2 hv => ⟨by unfold c32; omega, ⟨⟨c + 1, by omega, by omega, ?_⟩, q⟩, by omega⟩⟩⟩
    · rw [show c = 3 by omega]; rfl
    · unfold fX5_fault at hv
      rw [if_neg (fun w => isTx.1 w (by omega)), show ((c : Int)).toNat = c by omega, q.1 8 c (by decide) (by decide) (by decide) (by decide) (Or.inl (by decide))] at hv
      rw [hv]; rfl
  · rintro x1 x3 E ⟨⟨c, rfl, hc, rfl⟩, q⟩ _ _ _
    have hT := q.1.TC h
    have e1 : E 10 1 = S 0 1 := hT.2.2.1.1.2.1
    rw [e1]
    refine ⟨fun y => ⟨⟨⟨0, rfl, by omega, ?_⟩, q⟩, by omega⟩, fun y => ⟨ko_cell hT _, fun v2 hv => ⟨by unfold c32; omega, ⟨⟨c + 1, by omega, by omega, ?_⟩, q⟩, by omega⟩⟩⟩
    · rw [show c = (S 0 1).toNat by omega]; rfl
    · rw [hv, ke_cell hT, ece c (by omega)]; rfl
  · rintro x1 x3 E ⟨⟨c, rfl, hc, rfl⟩, q⟩ _ _ _
    have hT := q.1.TC h
    have e1 : E 10 2 = S 0 2 := hT.2.2.1.1.2.2.1
    rw [e1]
    refine ⟨fun y => ⟨⟨⟨0, rfl, by omega, ?_⟩, q⟩, by omega⟩, fun y => ⟨_, K_digestMinute hT (q.1.SG hG) q.2.1 q.2.2 (m := c) (by omega) (cg4 D S c), ?_⟩⟩
    · rw [show c = (S 0 2).toNat by omega]; rfl
    · rintro r E4 ⟨hr, q4⟩ _ _
      have hr := vLj hr
      rw [q.1.g] at hr
      exact ⟨by unfold c32; omega, ⟨⟨c + 1, by omega, by omega, hr⟩, QS_tr q q4⟩, by omega⟩
  · rintro x1 x3 E ⟨⟨c, rfl, hc, rfl⟩, q⟩ _ _ _
    have hT := q.1.TC h
    have e1 : E 10 3 = S 0 3 := hT.2.2.1.1.2.2.2
    rw [e1]
    refine ⟨fun y => ?_, fun y => ⟨_, K_digestCandidate hT (q.1.SG hG) q.2.1 q.2.2 (k := c) (by omega) (cg5 D S c), ?_⟩⟩
    · obtain rfl : c = (S 0 3).toNat := by omega
      intro v26 hv26 v28 hv28
      refine ⟨_, K_move hT 0, ?_⟩
      rintro r1 E1 ⟨hr1, hF1⟩ _ _ v37 hv37
      have q1 := QS_R q hF1
      refine ⟨_, K_move (q1.1.TC h) 1, ?_⟩
      rintro r2 E2 ⟨hr2, hF2⟩ _ _
      have q2 := QS_R q1 hF2
      refine ⟨_, K_weather (q2.1.TC h) 7 9 0, ?_⟩
      rintro r3 E3 ⟨hr3, hF3⟩ _ _ v53 hv53
      have q3 := QS_R q2 hF3
      refine ⟨_, K_weather (q3.1.TC h) 7 9 1, ?_⟩
      rintro r4 E4 ⟨hr4, hF4⟩ _ _
      have q4 := QS_R q3 hF4
      refine ⟨?_, q4⟩
      have hr1 := vIj hr1
      have hr2 := vIj hr2
      have hr3 := vIj hr3
      have hr4 := vIj hr4
      rw [emo _ (by omega)] at hr1 hr2
      rw [ewe _ (by omega)] at hr3 hr4
      rw [ke_first hT, efi _ (by omega)] at hv26 hv28
      rw [ke_lulls hT] at hv37
      rw [hv53, hv37, hv28, hv26, hr1, hr2, hr3, hr4]
      rfl
    · rintro r E4 ⟨hr, q4⟩ _ _
      have hr := vLj hr
      rw [q.1.g] at hr
      exact ⟨by unfold c32; omega, ⟨⟨c + 1, by omega, by omega, hr⟩, QS_tr q q4⟩, by omega⟩
