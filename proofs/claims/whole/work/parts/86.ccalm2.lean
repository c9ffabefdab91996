/-! ===== the class: calms ===== -/
/-- what the weighing of calms may write over -/
def FW (D E : HP) : Prop := ∀ a i, (a < 25 ∨ 40 < a) → a ≠ 54 → a ≠ 55 → (a ≠ 0 ∨ i ≠ 10) → E a i = D a i
theorem FW.rf (D : HP) : FW D D := fun _ _ _ _ _ _ => rfl
theorem FW.tr {D E F : HP} (h : FW D E) (g : FW E F) : FW D F := fun a i q1 q2 q3 q4 => (g a i q1 q2 q3 q4).trans (h a i q1 q2 q3 q4)
theorem FW.Q {D E : HP} (h : FW D E) : FQ D E := fun a i q1 _ q3 q4 q5 => h a i q1 q3 q4 (by omega)
/-- what is kept of the latest calm weighed -/
def WC (D : HP) (S : SC) : Prop := D 0 10 = -1 ∨ ((0 ≤ D 0 10 ∧ D 0 10 ≤ 16) ∧ ∀ k : Nat, k < 8 → D 54 k = smB S (D 0 10) k (2 ^ (S 0 2).toNat))
theorem WC_of {D E : HP} {S : SC} (h : WC D S) (e : E 0 10 = D 0 10) (e54 : ∀ i, E 54 i = D 54 i) : WC E S := by
  unfold WC
  rw [e]
  rcases h with h | h
  · exact Or.inl h
  · exact Or.inr ⟨h.1, fun k hk => by rw [e54]; exact h.2 k hk⟩
theorem OKS_sc5 {S : SC} (h : OKS S) {f : Nat → Int} (hf : ∀ i : Nat, (i : Int) < S 0 2 → 0 ≤ f i ∧ f i ≤ 9) : OKS (sc5 S f) :=
  ⟨h.1, h.2.1, h.2.2.1, h.2.2.2.1, h.2.2.2.2.1, fun m hm => ⟨(h.2.2.2.2.2.1 m hm).1, hf m hm⟩, h.2.2.2.2.2.2⟩
theorem SV_5 {D : HP} {o : Nat} {S : SC} (h : SV D o S) (f : Nat → Int) : SV D o (sc5 S f) := h
theorem DV_5 {S : SC} (h : DV S) (f : Nat → Int) : DV (sc5 S f) := h
theorem CS_5 {D : HP} {S : SC} {f : Nat → Int} (h : CS D 25 (sc5 S f)) (j : Nat) (z : Int) : CS (hu D 31 j z) 25 (sc5 S (fun i => if i = j then z else f i)) := by
  have h0 := h.1
  refine ⟨⟨fun q => ?_, ?_, ?_, ?_⟩, fun n hn => ?_, fun n hn => ?_, fun n hn => ?_⟩
  · rw [hu_k _ _ (by decide)]; exact h.1.1 q
  · rw [hu_k _ _ (by decide)]; exact h.1.2.1
  · rw [hu_k _ _ (by decide)]; exact h.1.2.2.1
  · rw [hu_k _ _ (by decide)]; exact h.1.2.2.2
  · rw [hu_k _ _ (by decide)]; exact h.2.1 n hn
  · refine ⟨by rw [hu_k _ _ (by decide)]; exact (h.2.2.1 n hn).1, ?_⟩
    show hu D 31 j z 31 n = if n = j then z else f n
    by_cases q : n = j
    · rw [q, hu_s, if_pos rfl]
    · rw [hu_i _ _ q, if_neg q]; exact (h.2.2.1 n hn).2
  · rw [hu_k _ _ (by decide), hu_k _ _ (by decide), hu_k _ _ (by decide)]; exact h.2.2.2 n hn
theorem sc5_ag {S : SC} {f g : Nat → Int} {m : Nat} (e : ∀ i, i < m → f i = g i) : AG (sc5 S f) (sc5 S g) m := fun a i q => by
  unfold sc5
  by_cases y : a = 5
  · rw [if_pos y, if_pos y, e i (by omega)]
  · rw [if_neg y, if_neg y]
theorem isInC {n m : Nat} (hn : n < 4096) (hm : m < 12) : (if (b_iand (b_ishr (n : Int) (m : Int)) 1) = 1 then (1 : Int) else 0) = if n.testBit m = true then 1 else 0 := by
  have := isInM (fun _ _ => 0) hn hm
  unfold fX6_isIn at this
  rw [← this]
theorem clF_in {S : SC} (h : OKS S) (b : Nat → Bool) (i : Nat) (hi : (i : Int) < S 0 2) : 0 ≤ clF S b i ∧ clF S b i ≤ 9 := by
  have := (h.2.2.2.2.2.1 i hi).2
  unfold clF
  split <;> omega
theorem chg_le {M p : Nat} : chg M p ≤ M := by
  unfold chg
  split <;> omega
theorem oT_X0_whoIsInLast_c {D : HP} {o : Nat} {S : SC} (h : TC D o S) : oX0_whoIsInLast D o := by
  have h2 := h.1.2.2.1
  refine ⟨?_, oT_X0_whoIsIn _ _ _, trivial⟩
  rw [h.2.2.1.1.2.2.1]; unfold c32; omega
theorem kc54 : kc 54 = (3, 8) := by decide
theorem ms_p {p : Nat} (h : (p : Int) < 4096) (j : Int) : (4096 - ((p : Int) + 1)).toNat * 20 < (4095 - (p : Int)).toNat * 20 + (j - j).toNat + 1 := by omega
theorem c_p {p : Nat} (h : (p : Int) < 4096) : c32 ((p : Int) + 1) := by unfold c32; omega
set_option maxHeartbeats 16000000 in
theorem C_weighCalms {D : HP} {S : SC} (h : TC D 9 S) (hW : WC D S) {c : Int} (hc : 0 ≤ c ∧ c ≤ 16) : CT mX5_weighCalms [vR 0, vI c] D (fun v E => v = none ∧ (∀ k : Nat, k < 8 → E 54 k = smB S c k (2 ^ (S 0 2).toNat)) ∧ E 0 10 = c ∧ FW D E) := by
  have hok := h.1
  have h2 := hok.2.2.1
  obtain ⟨M, hM0⟩ : ∃ M : Nat, S 0 2 = M := ⟨(S 0 2).toNat, by omega⟩
  have hM12 : M ≤ 12 := by omega
  have hMt : (S 0 2).toNat = M := by omega
  have hp2 := p2 hM12
  have hsh := (shl1 hM12).1
  refine V_X5_weighCalms c
    (fun x1 x2 x3 E => x1 = c ∧ x2 = M ∧ FW D E ∧ ∃ p : Nat, x3 = p ∧ p ≤ 2 ^ M ∧ (∀ k : Nat, k < 8 → E 54 k = smC S c k p) ∧ ∃ f : Nat → Int, (∀ i : Nat, (i : Int) < S 0 2 → 0 ≤ f i ∧ f i ≤ 9) ∧ CS E 25 (sc5 S f) ∧ SV E 25 S ∧ (∀ i, i < chg M p → f i = clF S (bR M p) i) ∧ (∀ i, i ≤ chg M p → E 55 i = wgB c (bR M p) i) ∧ (p < 2 ^ M → RC E 25 (sc5 S f) (chg M p)))
    (fun _ _ x3 _ => (4096 - x3).toNat * 20)
    (fun x1 x2 x3 x4 x5 E => x1 = c ∧ x2 = M ∧ FW D E ∧ ∃ p j : Nat, x3 = p ∧ p < 2 ^ M ∧ x5 = j ∧ j ≤ M ∧ (∀ k : Nat, k < 8 → E 54 k = smC S c k p) ∧ ∃ f : Nat → Int, (∀ i : Nat, (i : Int) < S 0 2 → 0 ≤ f i ∧ f i ≤ 9) ∧ CS E 25 (sc5 S f) ∧ SV E 25 S ∧ (∀ i, i < j → f i = clF S (bR M p) i) ∧ (∀ i, i ≤ j → E 55 i = wgB c (bR M p) i) ∧ RC E 25 (sc5 S f) j)
    (fun _ x2 x3 _ x5 _ => (4095 - x3).toNat * 20 + (x2 - x5).toNat + 1)
    (fun _ _ => ⟨fun q => ?_, fun q => ⟨_, C_fillL kc54 (by unfold c32; decide) 0, ?_⟩⟩) ?_ ?_
  · rcases hW with z | ⟨z1, z2⟩
    · omega
    · rw [q] at z2
      exact ⟨rfl, z2, q, FW.rf D⟩
  · rintro D5 ⟨-, hA, hF5⟩ _
    have h5 : TC D5 9 S := TC_fr h fun a i q1 q2 => hF5 a i (by omega)
    refine ⟨_, C_tellAs hok h5.2.2.1 h5.2.2.2.1, ?_⟩
    rintro E12 ⟨-, hM, hV, hF12⟩ _
    refine ⟨_, C_start (Or.inr rfl) hok hM, ?_⟩
    rintro E19 ⟨-, hSD, hTD, hrb, hFC⟩ _ E23 e23 v25 hv25
    have f19 : ∀ a i, (a < 25 ∨ 40 < a) → E19 a i = D5 a i := fun a i q => by rw [hFC a i (by omega) (by omega), hF12 a i (by omega)]
    have f23 : ∀ a i, (a < 25 ∨ 40 < a) → a ≠ 55 → E23 a i = D5 a i := fun a i q q2 => by rw [e23, hu_k _ _ q2, f19 a i q]
    have g23 : ∀ a i, a ≠ 55 → E23 a i = E19 a i := fun a i q2 => by rw [e23, hu_k _ _ q2]
    have e2 : E23 10 2 = M := by rw [f23 10 2 (by decide) (by decide)]; exact h5.2.2.1.1.2.2.1.trans hM0
    rw [e2] at hv25
    refine ⟨rfl, by rw [hv25]; split <;> omega, fun a i q1 q2 q3 q4 => by rw [f23 a i q1 q3, hF5 a i q2], 0, rfl, Nat.zero_le _, fun k hk => ?_, S 5, fun i hi => (hok.2.2.2.2.2.1 i hi).2, ?_, ?_, fun i hi => absurd hi (Nat.not_lt_zero _), fun i hi => ?_, fun _ => ?_⟩
    · rw [f23 54 k (by decide) (by decide), hA k hk]; rfl
    · rw [sc5_me]; exact CS_of (hFC.CS hM) (fun a i q => g23 a i (by omega))
    · exact SV_of (hFC.SV hV) (fun a i q => g23 a i (by omega))
    · have : i = 0 := by have : i ≤ 0 := hi; omega
      rw [this, e23, hu_s]; rfl
    · rw [sc5_me]
      exact RC_of (RC0 hSD hTD hrb) (fun a i q => g23 a i (by omega))
  · rintro x1 x2 x3 E ⟨rfl, rfl, hF, p, rfl, hp, hA, f, hf, hM, hV, hfc, hw, hR⟩ _ _ _ _
    rw [hsh]
    refine ⟨fun q => fun E28 e28 => ?_, fun q => ?_⟩
    · have ep : p = 2 ^ M := by omega
      subst ep
      refine ⟨rfl, fun k hk => ?_, by rw [e28, hu_s], fun a i q1 q2 q3 q4 => ?_⟩
      · rw [e28, hu_k _ _ (by decide), hA k hk, ← hMt, smC_all hok]
      · rw [e28]
        rcases q4 with q4 | q4
        · rw [hu_k _ _ q4]; exact hF a i q1 q2 q3 (Or.inl q4)
        · rw [hu_i _ _ q4]; exact hF a i q1 q2 q3 (Or.inr q4)
    · have hp' : p < 2 ^ M := by omega
      have hlb := lb_k p (by omega)
      have elb : p ≠ 0 → fX5_lowestBit E p = ((Nat.log2 (p ^^^ (p - 1)) : Nat) : Int) := fun z => (hlb.resolve_left z).1
      have hlt : p ≠ 0 → Nat.log2 (p ^^^ (p - 1)) < M := fun z => lb_lt z hp'
      refine ⟨⟨fun _ => trivial, fun z => ?_⟩, fun v31 hv => ⟨⟨rfl, rfl, hF, p, chg M p, rfl, hp', ?_, chg_le, hA, f, hf, hM, hV, hfc, hw, hR hp'⟩, ?_⟩⟩
      · have z : p ≠ 0 := by omega
        have a := elb z
        have b := hlt z
        have d := (hlb.resolve_left z).2
        refine ⟨by unfold c32; omega, ⟨by unfold c32; omega, trivial⟩, ?_⟩
        rw [a]; unfold c32; omega
      · rw [hv]
        unfold chg
        by_cases z : p = 0
        · rw [if_pos (by omega), if_pos z]; rfl
        · have b := hlt z
          rw [if_neg (by omega), if_neg z, elb z]
          omega
      · have : 0 ≤ v31 := by
          rw [hv]
          by_cases z : p = 0
          · rw [if_pos (by omega)]; decide
          · have b := hlt z
            rw [if_neg (by omega), elb z]
            omega
        omega
  · rintro x1 x2 x3 x4 x5 E ⟨rfl, rfl, hF, p, j, rfl, hp, rfl, hj, hA, f, hf, hM, hV, hfc, hw, hR⟩ _ _ _ _ _ _
    have hwj := wgB_in hc (bR M p) j
    refine ⟨fun q => ?_, fun q => ⟨by unfold c32; omega, by unfold c32; omega, fun v57 hv => ?_⟩⟩
    · have ej : j = M := by omega
      subst ej
      have hMc : CS E 25 (clS S (bR j p)) := CSx hM (fun i hi => hfc i (by omega))
      have hoc := OKS_cl hok (bR j p)
      have hRc : RC E 25 (clS S (bR j p)) ((clS S (bR j p)) 0 2).toNat := by
        rw [show ((clS S (bR j p)) 0 2).toNat = j from hMt]
        exact RC_ag (sc5_ag hfc) hR
      refine ⟨_, C_end (Or.inr rfl) hoc hMc hRc, ?_⟩
      rintro E41 ⟨-, hD, hFC⟩ _
      have f41 : ∀ a i, (a < 25 ∨ 40 < a) → E41 a i = E a i := fun a i z => hFC a i (by omega) (by omega)
      have hM41 : CS E41 25 (clS S (bR j p)) := hFC.CS hMc
      have hV41 : SV E41 25 S := hFC.SV hV
      have hT41 : TC E41 25 (clS S (bR j p)) := ⟨hoc, h.2.1, hM41, hV41, hD⟩
      have hF41 : FW D E41 := hF.tr fun a i q1 q2 q3 q4 => f41 a i q1
      rw [k_last hT41]
      have hlin : lin (clS S (bR j p)) = -1 ∨ (0 ≤ lin (clS S (bR j p)) ∧ lin (clS S (bR j p)) < 8) := by
        have h3 := hok.2.2.2.1
        unfold lin
        split
        · exact Or.inl rfl
        · have := inn_in (S := clS S (bR j p)) ((clS S (bR j p)) 0 2 - 1).toNat
          have e : (clS S (bR j p)) 0 3 = S 0 3 := rfl
          rw [e] at this
          omega
      have hsm := fun k => smC_in hok hc (k := k) p
      have hpw := p16 (M := j) (by omega)
      have e55 : E41 55 ((j : Int)).toNat = wgB x1 (bR j p) j := by rw [f41 55 _ (by decide), show ((j : Int)).toNat = j by omega]; exact hw j (Nat.le_refl _)
      have hst : ∀ k : Nat, smC S x1 k (p + 1) = smC S x1 k p + if lin (clS S (bR j p)) = (k : Int) then wgB x1 (bR j p) j else 0 := fun k => by
        unfold smC
        rw [smR]
        unfold shB
        rw [hMt]
      have fin : ∀ E' : HP, FW D E' → (∀ a i, 25 ≤ a → a ≤ 40 → E' a i = E41 a i) → (∀ i, E' 55 i = E41 55 i) → (∀ k : Nat, k < 8 → E' 54 k = smC S x1 k (p + 1)) → (c32 ((p : Int) + 1)) ∧ ((x1 = x1 ∧ (j : Int) = j ∧ FW D E' ∧ ∃ p' : Nat, (p : Int) + 1 = p' ∧ p' ≤ 2 ^ j ∧ (∀ k : Nat, k < 8 → E' 54 k = smC S x1 k p') ∧ ∃ f : Nat → Int, (∀ i : Nat, (i : Int) < S 0 2 → 0 ≤ f i ∧ f i ≤ 9) ∧ CS E' 25 (sc5 S f) ∧ SV E' 25 S ∧ (∀ i, i < chg j p' → f i = clF S (bR j p') i) ∧ (∀ i, i ≤ chg j p' → E' 55 i = wgB x1 (bR j p') i) ∧ (p' < 2 ^ j → RC E' 25 (sc5 S f) (chg j p'))) ∧ (4096 - ((p : Int) + 1)).toNat * 20 < (4095 - (p : Int)).toNat * 20 + ((j : Int) - (j : Int)).toNat + 1) := by
        intro E' g1 g2 g3 g4
        have hch := chg_le (M := j) (p := p + 1)
        have hb : ∀ i, i < chg j (p + 1) → bR j p i = bR j (p + 1) i := fun i hi => (bR_chg hi).symm
        refine ⟨c_p (by omega), ⟨rfl, rfl, g1, p + 1, rfl, hp, g4, clF S (bR j p), fun i hi => clF_in hok _ i hi, CS_of hM41 (fun a i z => g2 a i (by omega) (by omega)), SV_of hV41 (fun a i z => g2 a i (by omega) (by omega)), fun i hi => ?_, fun i hi => ?_, fun _ => ?_⟩, ms_p (by omega) _⟩
        · unfold clF
          rw [hb i hi]
        · rw [g3, f41 55 i (by decide), hw i (by omega)]
          exact wgB_cong (fun n hn => hb n (by omega))
        · exact RC_of (DC_RC hD (m := chg j (p + 1)) (by rw [show ((clS S (bR j p)) 0 2).toNat = j from hMt]; exact hch)) (fun a i z => g2 a i (by omega) (by omega))
      have nof : lin (clS S (bR j p)) = -1 ∨ 8 ≤ lin (clS S (bR j p)) → ∀ k : Nat, k < 8 → E41 54 k = smC S x1 k (p + 1) := fun z k hk => by
        rw [f41 54 k (by decide), hA k hk, hst, if_neg (by omega)]
        omega
      refine ⟨oT_X0_whoIsInLast_c hT41, fun z => fin E41 hF41 (fun _ _ _ _ => rfl) (fun _ => rfl) (nof (by omega)), fun z => ⟨fun z8 => absurd z8 (by omega), fun z8 => ?_⟩⟩
      obtain ⟨w, hwl⟩ : ∃ w : Nat, lin (clS S (bR j p)) = w := ⟨(lin (clS S (bR j p))).toNat, by omega⟩
      have hs1 := hsm w
      have e54 : E41 54 w = smC S x1 w p := by rw [f41 54 _ (by decide)]; exact hA w (by omega)
      rw [e55, hwl, show ((w : Int)).toNat = w by omega, e54]
      refine ⟨by omega, by omega, by unfold c64; omega, by omega, fun E49 e49 => fin E49 (hF41.tr fun a i q1 q2 q3 q4 => by rw [e49, hu_k _ _ q2]) (fun a i q1 q2 => by rw [e49, hu_k _ _ (by omega)]) (fun i => by rw [e49, hu_k _ _ (by decide)]) (fun k hk => ?_)⟩
      rw [hst, hwl, e49]
      by_cases y : k = w
      · subst y
        rw [hu_s, if_pos rfl]
      · rw [hu_i _ _ y, f41 54 k (by decide), hA k hk, if_neg (by omega)]
        omega
    · rw [show ((M : Int) - 1 - (j : Int)) = ((M - 1 - j : Nat) : Int) by omega, isInC (by omega) (by omega)] at hv
      have hv : v57 = if bR M p j = true then 1 else 0 := hv
      have hT9 := hF.Q.TC h
      have e15 : E 15 ((j : Int)).toNat = S 5 j := by rw [show ((j : Int)).toNat = j by omega]; exact (hT9.2.2.1.2.2.1 j (by omega)).2
      have hv0 : (v57 = 0) ↔ ¬ bR M p j = true := by rw [hv, b10]
      have ez : (if v57 = 0 then (0 : Int) else S 5 j) = clF S (bR M p) j := by
        unfold clF
        by_cases z : bR M p j = true
        · rw [if_neg (fun y => hv0.1 y z), if_pos z]
        · rw [if_pos (hv0.2 z), if_neg z]
      have ew : (if v57 = 0 then (16 - x1 : Int) else x1) = if bR M p j = true then x1 else 16 - x1 := by
        by_cases z : bR M p j = true
        · rw [if_neg (fun y => hv0.1 y z), if_pos z]
        · rw [if_pos (hv0.2 z), if_neg z]
      rw [e15, ez]
      refine ⟨⟨fun _ => trivial, fun _ => by omega⟩, by omega, fun E60 e60 => ?_⟩
      rw [show ((j : Int)).toNat = j by omega] at e60
      have hf' : ∀ i : Nat, (i : Int) < S 0 2 → 0 ≤ (if i = j then clF S (bR M p) j else f i) ∧ (if i = j then clF S (bR M p) j else f i) ≤ 9 := fun i hi => by
        by_cases y : i = j
        · rw [if_pos y]; exact clF_in hok _ j (by omega)
        · rw [if_neg y]; exact hf i hi
      have hM60 : CS E60 25 (sc5 S (fun i => if i = j then clF S (bR M p) j else f i)) := by rw [e60]; exact CS_5 hM j _
      have hV60 : SV E60 25 S := SV_of hV (fun a i z => by rw [e60, hu_k _ _ (by omega)])
      have hR60 : RC E60 25 (sc5 S (fun i => if i = j then clF S (bR M p) j else f i)) j := RC_ag (sc5_ag fun i hi => by rw [if_neg (by omega)]) (RC_of hR fun a i z => by rw [e60, hu_k _ _ (by omega)])
      refine ⟨_, C_pass (Or.inr rfl) (OKS_sc5 hok hf') hM60 (SV_5 hV60 _) (m := j) (by show (j : Int) < S 0 2; omega) hR60, ?_⟩
      rintro E65 ⟨-, hR65, hFC⟩ _
      have f65 : ∀ a i, (a < 25 ∨ 40 < a) → E65 a i = E a i := fun a i z => by rw [hFC a i (by omega) (by omega), e60, hu_k _ _ (by omega)]
      have e55 : E65 55 ((j : Int)).toNat = wgB x1 (bR M p) j := by rw [f65 55 _ (by decide), show ((j : Int)).toNat = j by omega]; exact hw j (Nat.le_refl _)
      have hw1 := wgB_in hc (bR M p) (j + 1)
      have hp1 := p16 (M := j + 1) (by omega)
      have ews : wgB x1 (bR M p) j * (if bR M p j = true then x1 else 16 - x1) = wgB x1 (bR M p) (j + 1) := rfl
      rw [e55, ew, ews]
      refine ⟨by unfold c32; omega, by omega, ⟨fun _ => by unfold c32; omega, fun _ => trivial⟩, by unfold c64; omega, by omega, fun E70 e70 => ⟨by unfold c32; omega, ⟨rfl, rfl, hF.tr fun a i q1 q2 q3 q4 => ?_, p, j + 1, rfl, hp, rfl, by omega, fun k hk => ?_, _, hf', ?_, ?_, fun i hi => ?_, fun i hi => ?_, ?_⟩, by omega⟩⟩
      · rw [e70, hu_k _ _ q3, f65 a i q1]
      · rw [e70, hu_k _ _ (by decide), f65 54 k (by decide)]; exact hA k hk
      · exact CS_of (hFC.CS hM60) (fun a i z => by rw [e70, hu_k _ _ (by omega)])
      · exact SV_of (hFC.SV hV60) (fun a i z => by rw [e70, hu_k _ _ (by omega)])
      · by_cases y : i = j
        · rw [if_pos y, y]
        · rw [if_neg y]; exact hfc i (by omega)
      · rw [e70, show ((j : Int) + 1).toNat = j + 1 by omega]
        by_cases y : i = j + 1
        · rw [y, hu_s]
        · rw [hu_i _ _ y, f65 55 i (by decide)]; exact hw i (by omega)
      · exact RC_of hR65 (fun a i z => by rw [e70, hu_k _ _ (by omega)])
theorem cmp0 (x : Int) : ((if 0 < x then (1 : Int) else if x = 0 then 0 else -1) = 0) ↔ x = 0 := by
  by_cases h : 0 < x
  · rw [if_pos h]; omega
  · rw [if_neg h]; split <;> omega
theorem lshr1 {x : Int} (h : 0 ≤ x ∧ x < 4611686018427387904) : b_lshr x 1 = x / 2 ∧ b_land x 1 = x % 2 := by
  obtain ⟨n, rfl⟩ : ∃ n : Nat, x = n := ⟨x.toNat, by omega⟩
  have e := lshr_n (n := n) (k := 1) (by omega) (by decide)
  constructor
  · unfold b_lshr
    rw [show (1 : Int) = ((1 : Nat) : Int) from rfl, e, ti64 ⟨by omega, by omega⟩]
    omega
  · unfold b_land
    rw [land1 (by omega), ti64 ⟨by omega, by omega⟩]
    omega
theorem lshl_h : ∀ k : Nat, k < 49 → b_lshl 1 (k : Int) = ((2 ^ k : Nat) : Int) := by decide +kernel
theorem gcd_h {x h t : Nat} (q : h = 0 ∨ x % 2 = 1) : Int.gcd ((x * 2 ^ t : Nat) : Int) ((2 ^ (h + t) : Nat) : Int) = 2 ^ t := by
  rw [Int.gcd_natCast_natCast, Nat.pow_add, Nat.gcd_mul_right]
  have : Nat.gcd x (2 ^ h) = 1 := by
    rcases q with q | q
    · rw [q]; simp
    · have : Nat.Coprime x (2 ^ h) := Nat.Coprime.pow_right h (by
        rw [Nat.coprime_comm]
        show Nat.gcd 2 x = 1
        rw [Nat.gcd_rec, q]
        rfl)
      exact this
  rw [this, Nat.one_mul]
set_option maxHeartbeats 8000000 in
theorem K_calm {D : HP} {S : SC} (h : TC D 9 S) (hW : WC D S) (c a b : Int) : CT mX5_calm [vR 0, vI c, vI a, vI b] D (fun v E => v = some (vL (vCalm S c a b)) ∧ WC E S ∧ FW D E) := by
  have hok := h.1
  have h2 := hok.2.2.1
  have h3 := hok.2.2.2.1
  have bad : ¬ ((0 ≤ c ∧ c ≤ 16) ∧ (0 ≤ a ∧ a < S 0 3) ∧ 0 ≤ b ∧ b ≤ 1) → some (vL (-9223372036854775806)) = some (vL (vCalm S c a b)) ∧ WC D S ∧ FW D D := fun q => ⟨by unfold vCalm; rw [if_neg q], hW, FW.rf D⟩
  refine V_X5_calm c a b
    (fun x1 x2 x3 x4 x6 E => x3 = b ∧ ((0 ≤ c ∧ c ≤ 16) ∧ (0 ≤ a ∧ a < S 0 3) ∧ 0 ≤ b ∧ b ≤ 1) ∧ WC E S ∧ FW D E ∧ ∃ x n t : Nat, x4 = x ∧ x6 = n ∧ n + t = 4 * (S 0 2).toNat ∧ x < 4611686018427387904 ∧ 0 < x ∧ smB S c a.toNat (2 ^ (S 0 2).toNat) = ((x * 2 ^ t : Nat) : Int)) (fun _ _ _ _ x6 _ => x6.toNat)
    (fun _ _ _ _ => ⟨fun q => bad (by omega), fun q1 => ⟨fun q => bad (by omega), fun q2 => ?_⟩⟩) ?_
  · rw [k_isCan h, b10]
    refine ⟨fun q => bad (fun w => q w.2.1), fun q3 => ⟨fun q => bad (by omega), fun q4 => ⟨fun q5 => ⟨_, C_weighCalms h hW (c := c) (by omega), ?_⟩, fun q => bad (by omega)⟩⟩⟩
    have q3 := Decidable.of_not_not q3
    rintro E ⟨-, hA, h10, hF⟩ _
    have hT := hF.Q.TC h
    have e2 : E 10 2 = S 0 2 := hT.2.2.1.1.2.2.1
    have hWE : WC E S := Or.inr ⟨by rw [h10]; omega, by rw [h10]; exact hA⟩
    have hcc : (0 ≤ c ∧ c ≤ 16) ∧ (0 ≤ a ∧ a < S 0 3) ∧ 0 ≤ b ∧ b ≤ 1 := ⟨⟨by omega, by omega⟩, q3, by omega, q5⟩
    have ha := hA a.toNat (by omega)
    have hsm := smB_in hok hcc.1 (k := a.toNat) (2 ^ (S 0 2).toNat)
    have hp := p2 (M := (S 0 2).toNat) (by omega)
    rw [e2, cmp0, ha]
    refine ⟨by omega, by unfold c32; omega, fun z => ⟨?_, hWE, hF⟩, fun z => ⟨rfl, hcc, hWE, hF, (smB S c a.toNat (2 ^ (S 0 2).toNat)).toNat, 4 * (S 0 2).toNat, 0, by omega, by omega, by omega, by omega, by omega, by omega⟩⟩
    unfold vCalm vCalmOf
    rw [if_pos hcc, z, Int.gcd_zero_left]
    have hpos : (0 : Int) < 2 ^ (4 * (S 0 2).toNat) := Int.pow_pos (by decide)
    have en : (((2 ^ (4 * (S 0 2).toNat) : Int).natAbs : Nat) : Int) = 2 ^ (4 * (S 0 2).toNat) := Int.natAbs_of_nonneg (Int.le_of_lt hpos)
    rw [en, Int.zero_ediv, Int.ediv_self (by omega)]
  · rintro x1 x2 x3 x4 x6 E ⟨rfl, hcc, hWE, hF, x, n, t, rfl, rfl, hnt, hx, hx0, hsm⟩ _ _ _ _ _ _
    have fin : (n = 0 ∨ x % 2 = 1) → some (vL (if x3 = 0 then (x : Int) else b_lshl 1 (n : Int))) = some (vL (vCalm S c a x3)) ∧ WC E S ∧ FW D E := fun q => by
      refine ⟨?_, hWE, hF⟩
      have hg := gcd_h (x := x) (h := n) (t := t) q
      have e4 : (2 : Int) ^ (4 * (S 0 2).toNat) = ((2 ^ (n + t) : Nat) : Int) := by rw [hnt, Int.natCast_pow]; rfl
      have hp : 0 < 2 ^ t := Nat.pow_pos (by decide)
      unfold vCalm vCalmOf
      rw [if_pos hcc, hsm, e4, hg, lshl_h n (by omega)]
      congr 2
      have q1 : ((x * 2 ^ t : Nat) : Int) / ((2 ^ t : Nat) : Int) = ((x * 2 ^ t / 2 ^ t : Nat) : Int) := rfl
      have q2 : ((2 ^ (n + t) : Nat) : Int) / ((2 ^ t : Nat) : Int) = ((2 ^ (n + t) / 2 ^ t : Nat) : Int) := rfl
      by_cases z : x3 = 0
      · rw [if_pos z, if_pos z, q1, Nat.mul_div_cancel _ hp]
      · rw [if_neg z, if_neg z, q2, Nat.pow_add, Nat.mul_div_cancel _ hp]
    have e := lshr1 (x := (x : Int)) (by omega)
    rw [cmp0, e.1, e.2]
    refine ⟨fun q => fin (Or.inl (by omega)), fun q => ⟨fun q2 => ⟨by unfold c32; omega, ⟨rfl, hcc, hWE, hF, x / 2, n - 1, t + 1, by omega, by omega, by omega, by omega, by omega, ?_⟩, by omega⟩, fun q2 => fin (Or.inr (by omega))⟩⟩
    rw [hsm, Nat.pow_succ, ← Nat.mul_assoc, Nat.mul_right_comm]
    have : x / 2 * 2 = x := by omega
    rw [this]
