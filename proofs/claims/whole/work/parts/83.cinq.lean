/-! ===== the class: what may have blown ===== -/
def gC (D : HP) : SGt := ((D 41 0).toNat, D 42, D 43)
theorem gC_of {D E : HP} (e : ∀ a i, 41 ≤ a → a ≤ 43 → E a i = D a i) : gC E = gC D := by
  unfold gC
  rw [e 41 0 (by decide) (by decide), show E 42 = D 42 from funext fun i => e 42 i (by decide) (by decide), show E 43 = D 43 from funext fun i => e 43 i (by decide) (by decide)]
theorem SGC_of {D E : HP} (e : ∀ a i, 41 ≤ a → a ≤ 43 → E a i = D a i) (h : SGC D) : SGC E := by
  unfold SGC
  rw [e 41 0 (by decide) (by decide)]
  refine ⟨h.1, fun i hi => ?_⟩
  rw [e 42 i (by decide) (by decide), e 43 i (by decide) (by decide)]
  exact h.2 i hi
theorem k_come {D : HP} {o : Nat} {S : SC} (h : TC D o S) (hG : SGC D) : fX4_comeOutSo D o = if cms S (gC D) = true then 1 else 0 := by
  have h2 := h.1.2.2.1
  have hg := hG.1
  unfold fX4_comeOutSo cms
  have hn : (if D 41 0 < 8 then D 41 0 else 8).toNat = (gC D).1 := by
    show _ = (D 41 0).toNat
    split <;> omega
  rw [hn]
  have e : exB (fun i => decide (D (o + 1) 2 ≤ D 42 i ∨ fX0_whoIsIn D o (D 42 i) ≠ (if D 43 i = 8 then -1 else D 43 i))) (gC D).1 = exB (fun i => !(cmP S (gC D) i)) (gC D).1 := by
    refine exB_congr fun i hi => ?_
    have hs := hG.2 i (by have : i < (D 41 0).toNat := hi; omega)
    rw [k_who h, h.2.2.1.1.2.2.1]
    unfold cmP
    show decide _ = !(decide (D 42 i < S 0 2 ∧ inn S (D 42 i).toNat = (if D 43 i = 8 then -1 else D 43 i)))
    by_cases z : D 42 i < S 0 2
    · rw [if_pos (show 0 ≤ D 42 i ∧ D 42 i < S 0 2 from ⟨hs.1.1, z⟩)]
      by_cases y : inn S (D 42 i).toNat = (if D 43 i = 8 then -1 else D 43 i)
      · rw [decide_eq_true (show D 42 i < S 0 2 ∧ inn S (D 42 i).toNat = (if D 43 i = 8 then -1 else D 43 i) from ⟨z, y⟩), decide_eq_false]
        · rfl
        · rintro (w | w)
          · omega
          · exact w y
      · rw [decide_eq_false (show ¬ (D 42 i < S 0 2 ∧ inn S (D 42 i).toNat = (if D 43 i = 8 then -1 else D 43 i)) from fun w => y w.2), decide_eq_true (Or.inr y)]
        rfl
    · rw [decide_eq_false (show ¬ (D 42 i < S 0 2 ∧ inn S (D 42 i).toNat = (if D 43 i = 8 then -1 else D 43 i)) from fun w => z w.1), decide_eq_true (Or.inl (by omega))]
      rfl
  rw [e]
  cases exB (fun i => !(cmP S (gC D) i)) (gC D).1 <;> rfl
def clW (w : Nat) : Int := if w = 8 then -1 else (w : Int)
set_option maxHeartbeats 4000000 in
theorem C_tallyTrial {D : HP} {T : SC} (h : TC D 25 T) (hb : ∀ j w : Nat, (j : Int) < T 0 2 → w < 9 → 0 ≤ D 53 (9 * j + w) ∧ D 53 (9 * j + w) ≤ 1000) : CT mX5_tallyTrial [vR 0] D (fun v E => v = none ∧ (∀ j w : Nat, (j : Int) < T 0 2 → w < 9 → E 53 (9 * j + w) = D 53 (9 * j + w) + if inn T j = clW w then 1 else 0) ∧ ∀ a i, a ≠ 53 → E a i = D a i) := by
  have h2 := h.1.2.2.1
  have h3 := h.1.2.2.2.1
  refine V_X5_tallyTrial (fun x E => ∃ n : Nat, x = n ∧ (n : Int) ≤ T 0 2 ∧ (∀ j w : Nat, (j : Int) < T 0 2 → w < 9 → E 53 (9 * j + w) = D 53 (9 * j + w) + if j < n ∧ inn T j = clW w then 1 else 0) ∧ ∀ a i, a ≠ 53 → E a i = D a i) (fun x _ => (T 0 2 - x).toNat) (fun _ => ⟨0, rfl, by omega, fun j w _ _ => by rw [if_neg (by omega)]; omega, fun _ _ _ => rfl⟩) ?_
  rintro x E ⟨n, rfl, hn, hA, hF⟩ _ _
  have hT : TC E 25 T := TC_of h (fun a i q1 q2 => hF a i (by omega))
  have e2 : E 26 2 = T 0 2 := hT.2.2.1.1.2.2.1
  rw [e2, k_who hT]
  have fin : T 0 2 ≤ (n : Int) → (none : Option MV) = none ∧ (∀ j w : Nat, (j : Int) < T 0 2 → w < 9 → E 53 (9 * j + w) = D 53 (9 * j + w) + if inn T j = clW w then 1 else 0) ∧ ∀ a i, a ≠ 53 → E a i = D a i := fun q => by
    refine ⟨rfl, fun j w hj hw => ?_, hF⟩
    rw [hA j w hj hw]
    by_cases z : inn T j = clW w
    · rw [if_pos z, if_pos ⟨by omega, z⟩]
    · rw [if_neg z, if_neg (fun y => z y.2)]
  refine ⟨fin, fun q => ⟨fun q12 => absurd q12 (by omega), fun _ => ⟨oT_X0_whoIsIn _ _ _, fun v hv => ?_⟩⟩⟩
  have hi := inn_in (S := T) n
  rw [if_pos (show 0 ≤ (n : Int) ∧ (n : Int) < T 0 2 by omega), show ((n : Int)).toNat = n by omega] at hv
  obtain ⟨w, hw, hw9, hcl⟩ : ∃ w : Nat, v = w ∧ w < 9 ∧ inn T n = clW w := by
    by_cases z : inn T n = -1
    · rw [if_pos z] at hv
      exact ⟨8, hv, by decide, z⟩
    · rw [if_neg z] at hv
      refine ⟨v.toNat, by omega, by omega, ?_⟩
      unfold clW
      rw [if_neg (by omega)]
      omega
  subst hw
  have e3 : (((n : Int) * 9) + (w : Int)).toNat = 9 * n + w := by omega
  have hbb := hb n w (by omega) hw9
  have hAn := hA n w (by omega) hw9
  rw [if_neg (by omega)] at hAn
  rw [e3]
  refine ⟨by unfold c32; omega, by unfold c32; omega, by omega, by unfold c32; omega, by omega, fun E5 hE => ⟨by unfold c32; omega, ⟨n + 1, rfl, by omega, fun j u hj hu => ?_, fun a i q => ?_⟩, by omega⟩⟩
  · by_cases z : j = n ∧ u = w
    · obtain ⟨rfl, rfl⟩ := z
      rw [hE, hu_s, if_pos ⟨by omega, hcl⟩]
      omega
    · rw [hE, hu_i _ _ (by omega), hA j u hj hu]
      by_cases y : j = n
      · subst y
        rw [if_neg (by omega), if_neg]
        rintro ⟨-, y⟩
        rw [hcl] at y
        unfold clW at y
        repeat' split at y
        all_goals omega
      · by_cases s : inn T j = clW u
        · by_cases r : j < n
          · rw [if_pos ⟨r, s⟩, if_pos ⟨by omega, s⟩]
          · rw [if_neg (fun t => r t.1), if_neg (fun t => r (by omega))]
        · rw [if_neg (fun t => s t.2), if_neg (fun t => s t.2)]
  · rw [hE, hu_k _ _ q]; exact hF a i q
/-- the gusts and the tallies of the first n gusts of minute m -/
def TL (D : HP) (S : SC) (G : SGt) (m n : Nat) : Prop := LW (D 0 8) (fun c => decide (c < n) && blP S G m c) ∧ ∀ j w : Nat, (j : Int) < S 0 2 → w < 9 → D 53 (9 * j + w) = cntB (fun c => blP S G m c && decide (inn (blS S m c) j = clW w)) n
theorem TL_of {D E : HP} {S : SC} {G : SGt} {m n : Nat} (h : TL D S G m n) (e8 : E 0 8 = D 0 8) (e : ∀ i, E 53 i = D 53 i) : TL E S G m n := ⟨by rw [e8]; exact h.1, fun j w hj hw => by rw [e]; exact h.2 j w hj hw⟩
theorem bl_ag (S : SC) (m c : Nat) : ∀ a i, ((a ≠ 4 ∧ a ≠ 5) ∨ i ≠ m) → blS S m c a i = S a i := fun a i h => by
  unfold blS
  rcases h with h | h
  · rw [upS_r _ _ h.2, upS_r _ _ h.1]
  · rw [upS_i _ _ h, upS_i _ _ h]
theorem bl_DV {S : SC} (h : DV S) (m c : Nat) : DV (blS S m c) := DV_up (DV_up h (by decide) m _) (by decide) m _
theorem bl_SV {D : HP} {o : Nat} {S : SC} (h : SV D o S) (m c : Nat) : SV D o (blS S m c) := SV_up (SV_up h (by decide) m _) (by decide) m _
/-- T is S but for the gust of minute m -/
def BM (T S : SC) (m : Nat) : Prop := ∀ a i, ((a ≠ 4 ∧ a ≠ 5) ∨ i ≠ m) → T a i = S a i
theorem BM_ag {T S : SC} {m : Nat} (h : BM T S m) (c : Nat) : AG T (blS S m c) m := fun a i q => (h a i (by omega)).trans (bl_ag S m c a i (by omega)).symm
theorem CS_bl {D : HP} {S T : SC} {m : Nat} (hB : BM T S m) (hM : CS D 25 T) (c : Nat) : CS (hu (hu D 30 m ((c / 10 : Nat) : Int)) 31 m ((c % 10 : Nat) : Int)) 25 (blS S m c) := by
  have b0 : ∀ i, blS S m c 0 i = T 0 i := fun i => (bl_ag S m c 0 i (Or.inl (by decide))).trans (hB 0 i (Or.inl (by decide))).symm
  have b : ∀ a i, a ≠ 4 → a ≠ 5 → blS S m c a i = T a i := fun a i q1 q2 => (bl_ag S m c a i (Or.inl ⟨q1, q2⟩)).trans (hB a i (Or.inl ⟨q1, q2⟩)).symm
  refine ⟨⟨fun q => ?_, ?_, ?_, ?_⟩, fun j hj => ?_, fun n hn => ?_, fun k hk => ?_⟩
  · rw [b0] at q ⊢; rw [hu_k _ _ (by decide), hu_k _ _ (by decide)]; exact hM.1.1 q
  · rw [b0, hu_k _ _ (by decide), hu_k _ _ (by decide)]; exact hM.1.2.1
  · rw [b0, hu_k _ _ (by decide), hu_k _ _ (by decide)]; exact hM.1.2.2.1
  · rw [b0, hu_k _ _ (by decide), hu_k _ _ (by decide)]; exact hM.1.2.2.2
  · rw [b0] at hj; rw [hu_k _ _ (by decide), hu_k _ _ (by decide), b _ _ (by decide) (by decide)]; exact hM.2.1 j hj
  · rw [b0] at hn
    by_cases e : n = m
    · subst e
      refine ⟨?_, ?_⟩
      · rw [hu_k _ _ (by decide), hu_s]
        unfold blS
        rw [upS_r _ _ (by decide), upS_s]
      · rw [hu_s]
        unfold blS
        rw [upS_s]
    · have g := hM.2.2.1 n hn
      rw [hu_i _ _ e, hu_i _ _ e, hu_i _ _ e, hu_i _ _ e, bl_ag S m c 4 n (Or.inr e), bl_ag S m c 5 n (Or.inr e), ← hB 4 n (Or.inr e), ← hB 5 n (Or.inr e)]
      exact g
  · rw [b0] at hk
    rw [hu_k _ _ (by decide), hu_k _ _ (by decide), hu_k _ _ (by decide), hu_k _ _ (by decide), hu_k _ _ (by decide), hu_k _ _ (by decide), b _ _ (by decide) (by decide), b _ _ (by decide) (by decide), b _ _ (by decide) (by decide)]
    exact hM.2.2.2 k hk
/-- what is kept of the latest minute inquired into -/
def IQ (D : HP) (S : SC) : Prop := D 0 7 = -1 ∨ ∃ m : Nat, D 0 7 = m ∧ (m : Int) < S 0 2 ∧ TL D S (gC D) m 40
/-- what questions may write over -/
def FQ (D E : HP) : Prop := ∀ a i, (a < 25 ∨ 40 < a) → a ≠ 53 → a ≠ 54 → a ≠ 55 → (a ≠ 0 ∨ (i ≠ 7 ∧ i ≠ 8 ∧ i ≠ 10)) → E a i = D a i
theorem FQ.rf (D : HP) : FQ D D := fun _ _ _ _ _ _ _ => rfl
theorem FQ.tr {D E F : HP} (h : FQ D E) (g : FQ E F) : FQ D F := fun a i q1 q2 q3 q4 q5 => (g a i q1 q2 q3 q4 q5).trans (h a i q1 q2 q3 q4 q5)
theorem FR.Q {D E : HP} (h : FR D E) : FQ D E := fun a i q1 _ _ _ _ => h a i q1
theorem FQ.TC {D E : HP} (h : FQ D E) {S : SC} (hT : TC D 9 S) : TC E 9 S := TC_fr hT fun a i q1 q2 => h a i (Or.inl q2) (by omega) (by omega) (by omega) (by omega)
theorem FQ.g {D E : HP} (h : FQ D E) : gC E = gC D := gC_of fun a i q1 q2 => h a i (by omega) (by omega) (by omega) (by omega) (by omega)
theorem FQ.SG {D E : HP} (h : FQ D E) (hG : SGC D) : SGC E := SGC_of (fun a i q1 q2 => h a i (by omega) (by omega) (by omega) (by omega) (by omega)) hG
/-- what an inquiry may write over -/
def FI (D E : HP) : Prop := ∀ a i, (a < 25 ∨ 40 < a) → a ≠ 53 → (a ≠ 0 ∨ (i ≠ 7 ∧ i ≠ 8)) → E a i = D a i
theorem FI.rf (D : HP) : FI D D := fun _ _ _ _ _ => rfl
theorem FI.tr {D E F : HP} (h : FI D E) (g : FI E F) : FI D F := fun a i q1 q2 q3 => (g a i q1 q2 q3).trans (h a i q1 q2 q3)
theorem FI.Q {D E : HP} (h : FI D E) : FQ D E := fun a i q1 q2 _ _ q3 => h a i q1 q2 (by omega)
theorem kc53 : kc 53 = (1, 108) := by decide
set_option maxHeartbeats 8000000 in
theorem C_inquire {D : HP} {S : SC} (h : TC D 9 S) (hG : SGC D) (hQ : IQ D S) {m : Nat} (hm : (m : Int) < S 0 2) : CT mX5_inquire [vR 0, vI m] D (fun v E => v = none ∧ TL E S (gC D) m 40 ∧ E 0 7 = m ∧ FI D E) := by
  have hok := h.1
  have h2 := hok.2.2.1
  refine V_X5_inquire m
    (fun x1 x2 E => x1 = m ∧ (∃ n : Nat, x2 = n ∧ n ≤ 40 ∧ TL E S (gC D) m n) ∧ (∃ T, BM T S m ∧ TC E 25 T) ∧ FI D E) (fun _ x2 _ => (40 - x2).toNat)
    (fun _ _ => ⟨fun q => ?_, fun q => ⟨fun q2 => ?_, fun _ => ⟨_, C_fillI kc53 (by unfold c32; decide) 0, ?_⟩⟩⟩) ?_
  · rcases hQ with z | ⟨m', z1, z2, z3⟩
    · omega
    · obtain rfl : m' = m := by omega
      exact ⟨rfl, z3, q, FI.rf D⟩
  · rw [k_isMin h, b10] at q2
    exact absurd ⟨by omega, hm⟩ q2
  · rintro D6 ⟨-, hA, hF6⟩ _ E10 e10
    have f10 : ∀ a i, a ≠ 53 → (a ≠ 0 ∨ i ≠ 8) → E10 a i = D a i := fun a i q1 q2 => by
      rw [e10]
      rcases q2 with q2 | q2
      · rw [hu_k _ _ q2]; exact hF6 a i q1
      · rw [hu_i _ _ q2]; exact hF6 a i q1
    have h10 : TC E10 9 S := TC_fr h fun a i q1 q2 => f10 a i (by omega) (by omega)
    refine ⟨_, C_tellAs hok h10.2.2.1 h10.2.2.2.1, ?_⟩
    rintro E15 ⟨-, hM, hV, hF15⟩ _
    refine ⟨_, C_start (Or.inr rfl) hok hM, ?_⟩
    rintro E22 ⟨-, hSD, hTD, hrb, hFC⟩ _
    have hM22 := hFC.CS hM
    have hV22 := hFC.SV hV
    have key := C_runOnFrom (o := 25) (Or.inr rfl) hok hM22 hV22 (a := 0) (by omega) (RC0 hSD hTD hrb)
    refine ⟨_, key, ?_⟩
    rintro E29 ⟨-, hD, hFC2⟩ _
    have f29 : ∀ a i, (a < 25 ∨ 40 < a) → E29 a i = E10 a i := fun a i q => by
      rw [hFC2 a i (by omega) (by omega), hFC a i (by omega) (by omega), hF15 a i (by omega)]
    refine ⟨rfl, ⟨0, rfl, by decide, ?_, fun j w hj hw => ?_⟩, ⟨S, fun _ _ _ => rfl, hok, h.2.1, hFC2.CS hM22, hFC2.SV hV22, hD⟩, fun a i q1 q2 q3 => ?_⟩
    · rw [f29 0 8 (by decide), e10, hu_s]
      exact LW.z.eq fun k _ => by simp
    · rw [f29 53 _ (by decide), e10, hu_k _ _ (by decide), hA _ (by omega)]
      rfl
    · rw [f29 a i q1, f10 a i q2 (by omega)]
  · rintro x1 x2 E ⟨rfl, ⟨n, rfl, hn, hL⟩, ⟨T, hB, hT⟩, hF⟩ _ _ _
    refine ⟨fun q => fun E34 e34 => ?_, fun q => ⟨by omega, by omega, fun E36 e36 => ⟨by omega, by omega, fun E38 e38 => ?_⟩⟩⟩
    · obtain rfl : n = 40 := by omega
      refine ⟨rfl, TL_of hL (by rw [e34, hu_i _ _ (by decide)]) (fun i => by rw [e34, hu_k _ _ (by decide)]), by rw [e34, hu_s], fun a i q1 q2 q3 => ?_⟩
      rw [e34]
      rcases q3 with q3 | q3
      · rw [hu_k _ _ q3]; exact hF a i q1 q2 (Or.inl q3)
      · rw [hu_i _ _ q3.1]; exact hF a i q1 q2 (Or.inr q3)
    rw [show ((m : Int)).toNat = m by omega, show ((n : Int) / 10) = ((n / 10 : Nat) : Int) by omega] at e36
    rw [show ((m : Int)).toNat = m by omega, show ((n : Int) % 10) = ((n % 10 : Nat) : Int) by omega] at e38
    have hn40 : n < 40 := by omega
    have hok' := OKS_bl hok m hn40
    have f38 : ∀ a i, a ≠ 30 → a ≠ 31 → E38 a i = E a i := fun a i q1 q2 => by rw [e38, hu_k _ _ q2, e36, hu_k _ _ q1]
    have hM38 : CS E38 25 (blS S m n) := by rw [e38, e36]; exact CS_bl hB hT.2.2.1 n
    have hVS : SV E 25 S := by
      intro w hw c hc
      have b : ∀ c w, bes T c w = bes S c w := fun c w => (ag_bes (BM_ag hB 0) c w).trans (by unfold blS; rw [bes_up (by decide), bes_up (by decide)])
      have l : ∀ c w, layS T c w = layS S c w := fun c w => by
        unfold layS
        have w1 : ∀ c, wal T c = wal S c := fun c => by unfold wal; rw [hB 1 _ (Or.inl (by decide))]
        simp only [b, w1]
      have g := hT.2.2.2.1 w hw c (by rw [hB 0 1 (Or.inl (by decide))]; exact hc)
      rw [b, l] at g
      exact g
    have hV38 : SV E38 25 (blS S m n) := bl_SV (SV_of hVS fun a i q => f38 a i (by omega) (by omega)) m n
    have hM2 : (T 0 2).toNat = (S 0 2).toNat := by rw [hB 0 2 (Or.inl (by decide))]
    have hR38 : RC E38 25 (blS S m n) m := RC_ag (BM_ag hB n) (RC_of (DC_RC hT.2.2.2.2 (m := m) (by omega)) fun a i q => f38 a i (by omega) (by omega))
    have e02 : blS S m n 0 2 = S 0 2 := bl_ag S m n 0 2 (Or.inl (by decide))
    refine ⟨_, C_runOnFrom (Or.inr rfl) hok' hM38 hV38 (a := m) (by rw [e02]; omega) hR38, ?_⟩
    rintro E43 ⟨-, hD, hFC⟩ _
    have f43 : ∀ a i, (a < 25 ∨ 40 < a) → E43 a i = E a i := fun a i q => by rw [hFC a i (by omega) (by omega), f38 a i (by omega) (by omega)]
    have hT43 : TC E43 25 (blS S m n) := ⟨hok', bl_DV h.2.1 m n, hFC.CS hM38, hFC.SV hV38, hD⟩
    have hF43 : FI D E43 := hF.tr fun a i q1 q2 q3 => f43 a i q1
    have hg : gC E43 = gC D := hF43.Q.g
    have hL43 : TL E43 S (gC D) m n := TL_of hL (f43 0 8 (by decide)) (fun i => f43 53 i (by decide))
    rw [k_come hT43 (hF43.Q.SG hG), hg, b10]
    refine ⟨fun q3 => ⟨by unfold c32; omega, ⟨rfl, ⟨n + 1, rfl, by omega, ?_, fun j w hj hw => ?_⟩, ⟨_, fun a i z => bl_ag S m n a i z, hT43⟩, hF43⟩, by omega⟩, fun q3 => fun E49 e49 => ?_⟩
    · refine hL43.1.stp hn40 ?_
      rw [if_neg (show ¬ blP S (gC D) m n = true from q3)]
    · rw [cntB, hL43.2 j w hj hw]
      have : blP S (gC D) m n = false := by
        cases z : blP S (gC D) m n
        · rfl
        · exact absurd z q3
      rw [this]
      simp
    have q3 : blP S (gC D) m n = true := by
      have := Decidable.of_not_not q3
      exact this
    have hT49 : TC E49 25 (blS S m n) := TC_of hT43 fun a i q1 q2 => by rw [e49, hu_k _ _ (by omega)]
    have f49 : ∀ i, E49 53 i = E43 53 i := fun i => by rw [e49, hu_k _ _ (by decide)]
    refine ⟨_, C_tallyTrial hT49 (fun j w hj hw => ?_), ?_⟩
    · rw [e02] at hj
      have := cntB_in (fun c => blP S (gC D) m c && decide (inn (blS S m c) j = clW w)) n
      rw [f49, hL43.2 j w hj hw]
      omega
    rintro E54 ⟨-, hA, hF54⟩ _
    refine ⟨by unfold c32; omega, ⟨rfl, ⟨n + 1, rfl, by omega, ?_, fun j w hj hw => ?_⟩, ⟨_, fun a i z => bl_ag S m n a i z, TC_of hT49 fun a i q1 q2 => hF54 a i (by omega)⟩, hF43.tr fun a i q1 q2 q4 => ?_⟩, by omega⟩
    · refine hL43.1.stp hn40 ?_
      rw [if_pos q3, hF54 0 8 (by decide), e49, hu_s]
    · rw [hA j w (by rw [e02]; exact hj) hw, f49, hL43.2 j w hj hw, cntB, q3]
      simp
    · rw [hF54 a i q2, e49]
      rcases q4 with q4 | q4
      · rw [hu_k _ _ q4]
      · rw [hu_i _ _ q4.2]
