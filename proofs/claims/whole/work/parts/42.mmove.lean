/-- MOVE: the i-th of the ways from the cells, 4 a cell -/
def mvT (S : SC) (i : Nat) : Int := bes S ((i / 4 : Nat) : Int) ((i % 4 : Nat) : Int)
def mvP (S : SC) (i : Nat) : Bool := decide (S 1 (i / 4) = 1 ∧ mvT S i ≠ -1 ∧ S 1 (mvT S i).toNat = 0 ∧ tak S (mvT S i) (-1) = false ∧ lin (upS (upS S 1 (i / 4) 0) 1 (mvT S i).toNat 1) ≠ lin S)
def mvN (S : SC) : Nat := 4 * (S 0 1).toNat
def vMoveOf (S : SC) (b : Int) : Int := if b = 0 then cntB (mvP S) (mvN S) else fsN (mvP S) (mvN S)
def vMove (S : SC) (b : Int) : Int := if 0 ≤ b ∧ b ≤ 1 then vMoveOf S b else -2
theorem cntB_in (p : Nat → Bool) : ∀ n : Nat, 0 ≤ cntB p n ∧ cntB p n ≤ n
  | 0 => by simp [cntB]
  | n + 1 => by
    have ih := cntB_in p n
    rw [cntB]
    split <;> omega
set_option maxHeartbeats 4000000 in
theorem C_moveOf {D : HP} (hT : TXM D) (b : Int) : CT mX6_moveOf [vR 56, vI b] D (fun v E => v = some (vI (vMoveOf (tS D) b)) ∧ MS E (tS D) ∧ FRw D E) := by
  have hok := tS_ok hT
  generalize hS : tS D = S at *
  have hcl := hok.2.1
  have h3 := hok.2.2.2.1
  refine V_X6_moveOf b (I17 := fun x1 x2 x3 x4 x5 E => x1 = b ∧ x2 = lin S ∧ (MS E S ∧ FRw D E) ∧ ∃ c : Nat, x5 = c ∧ (c : Int) ≤ S 0 1 ∧ x3 = cntB (mvP S) (4 * c) ∧ x4 = fsN (mvP S) (4 * c)) (u17 := fun _ _ _ _ x5 _ => ((25 - x5) * 10).toNat)
    (I29 := fun x1 x2 x3 x4 x5 x6 E => x1 = b ∧ x2 = lin S ∧ (MS E S ∧ FRw D E) ∧ ∃ c w : Nat, x5 = c ∧ (c : Int) < S 0 1 ∧ x6 = w ∧ w ≤ 4 ∧ x3 = cntB (mvP S) (4 * c + w) ∧ x4 = fsN (mvP S) (4 * c + w)) (u29 := fun _ _ _ _ x5 x6 _ => ((25 - x5) * 10 - x6).toNat) (fun _ _ => ⟨_, C_runsTold hT, ?_⟩) ?_ ?_
  · rintro E ⟨-, hR, hM, hF⟩ _
    rw [hS] at hR hM
    rw [linM hM hR hok]
    exact ⟨linMo hM hok, rfl, rfl, ⟨hM, hF⟩, 0, rfl, by omega, rfl, rfl⟩
  · rintro x1 x2 x3 x4 x5 E ⟨rfl, rfl, ⟨hM, hF⟩, c, rfl, hc, rfl, rfl⟩ hcD _ _ _ _ _
    rw [hM.1.2.1]
    refine ⟨fun hcc => ⟨?_, hM, hF⟩, fun hcc => ⟨⟨rfl, rfl, ⟨hM, hF⟩, c, 0, rfl, by omega, rfl, by decide, rfl, rfl⟩, by omega⟩⟩
    have e : c = (S 0 1).toNat := by omega
    rw [e]; rfl
  · rintro x1 x2 x3 x4 x5 x6 E ⟨rfl, rfl, ⟨hM, hF⟩, c, w, rfl, hc, rfl, hw, rfl, rfl⟩ hcD _ _ _ _ _ _
    have i1 : (4 * c + w) / 4 = c ∨ w = 4 := by omega
    refine ⟨fun hcc => ⟨by unfold c32; omega, ⟨rfl, rfl, ⟨hM, hF⟩, c + 1, by omega, by omega, by rw [show 4 * (c + 1) = 4 * c + w by omega], by rw [show 4 * (c + 1) = 4 * c + w by omega]⟩, by omega⟩, fun hcc => ?_⟩
    have hw4 : w < 4 := by omega
    have d4 : (4 * c + w) / 4 = c := by omega
    have m4 : (4 * c + w) % 4 = w := by omega
    have hT' : mvT S (4 * c + w) = bes S c w := by unfold mvT; rw [d4, m4]
    have hbe := besM hM hok (c := c) (w := w) (by omega) hc (by omega)
    have hbi := bes_in hok (c := c) (w := w) (by omega) hc
    have h59 : E 59 (c : Int).toNat = S 1 c := by rw [Int.toNat_natCast]; exact hM.2.1 c hc
    have hwl := hok.2.2.2.2.1 c hc
    -- this way does not count
    have no : mvP S (4 * c + w) = false → (c32 ((w : Int) + 1) ∧ (x1 = x1 ∧ lin S = lin S ∧ (MS E S ∧ FRw D E) ∧ ∃ c' w' : Nat, (c : Int) = c' ∧ (c' : Int) < S 0 1 ∧ (w : Int) + 1 = w' ∧ w' ≤ 4 ∧ cntB (mvP S) (4 * c + w) = cntB (mvP S) (4 * c' + w') ∧ fsN (mvP S) (4 * c + w) = fsN (mvP S) (4 * c' + w')) ∧ ((25 - (c : Int)) * 10 - ((w : Int) + 1)).toNat < ((25 - (c : Int)) * 10 - (w : Int)).toNat) := fun h => by
      refine ⟨by unfold c32; omega, ⟨rfl, rfl, ⟨hM, hF⟩, c, w + 1, rfl, hc, by omega, by omega, ?_, ?_⟩, by omega⟩
      · rw [show 4 * c + (w + 1) = (4 * c + w) + 1 by omega, cntB, h]; simp
      · rw [show 4 * c + (w + 1) = (4 * c + w) + 1 by omega, fsN, h]
        by_cases q : fsN (mvP S) (4 * c + w) = -1
        · rw [if_neg (fun z => z q), q]; rfl
        · rw [if_pos q]
    rw [hbe, h59]
    refine ⟨besMo hM hok (by omega) hc, by omega, fun h0 => no ?_, fun h0 => ⟨fun h1 => no ?_, fun h1 => ⟨by omega, fun h2 => ⟨takMo hM hok _ _, fun h4 => ?_, fun h4 => no ?_⟩, fun h2 => no ?_⟩⟩⟩
    · unfold mvP; rw [d4]; exact decide_eq_false fun q => by omega
    · unfold mvP; rw [hT']; exact decide_eq_false fun q => q.2.1 h1
    · have hb0 := hbi.resolve_left h1
      rw [hM.2.1 (bes S c w).toNat (by omega)] at h2
      rw [takM hM] at h4
      have h4 : tak S (bes S c w) (-1) = false := by
        cases q : tak S (bes S c w) (-1)
        · rfl
        · rw [q] at h4; simp at h4
      have hw1 : S 1 c = 1 := hwl.resolve_left h0
      have hne : (bes S c w).toNat ≠ c := fun q => by rw [q] at h2; exact h0 h2
      refine ⟨by omega, ?_⟩
      rintro F hF1
      refine ⟨by omega, ?_⟩
      rintro G hG1
      rw [Int.toNat_natCast] at hF1
      have hMG : MS G (upS (upS S 1 c 0) 1 (bes S c w).toNat 1) := by
        rw [hG1, hF1]
        exact MS_up (MS_up hM (r := 1) (by decide) c 0) (r := 1) (by decide) (bes S c w).toNat 1
      have hoG : OKS (upS (upS S 1 c 0) 1 (bes S c w).toNat 1) := OKS_1 (OKS_1 hok c (Or.inl rfl)) _ (Or.inr rfl)
      refine ⟨_, C_runs' hoG hMG, ?_⟩
      rintro K ⟨-, hR, hMK, hKw, hKf⟩ _
      refine ⟨by omega, ?_⟩
      rintro L hL
      refine ⟨by omega, ?_⟩
      rintro N hN
      rw [Int.toNat_natCast] at hL
      have hMN : MS N S := by
        have := MS_up (MS_up hMK (r := 1) (by decide) c 1) (r := 1) (by decide) (bes S c w).toNat 0
        have e : upS (upS (upS (upS S 1 c 0) 1 (bes S c w).toNat 1) 1 c 1) 1 (bes S c w).toNat 0 = S := by
          funext a i
          unfold upS
          by_cases q : a = 1 ∧ i = (bes S c w).toNat
          · rw [if_pos q, q.1, q.2, h2]
          · rw [if_neg q]
            by_cases y : a = 1 ∧ i = c
            · rw [if_pos y, y.1, y.2, hw1]
            · rw [if_neg y, if_neg q, if_neg y]
        rw [e] at this
        rw [hN, hL]
        exact this
      have hlin : fX6_lastIn N = lin (upS (upS S 1 c 0) 1 (bes S c w).toNat 1) := by
        have := linM hMK hR hoG
        rw [← this]
        unfold fX6_lastIn
        have e : ∀ i, N 56 i = K 56 i := fun i => by rw [hN, hL, hu_k _ _ (by decide), hu_k _ _ (by decide)]
        have e2 : ∀ i, N 69 i = K 69 i := fun i => by rw [hN, hL, hu_k _ _ (by decide), hu_k _ _ (by decide)]
        rw [e, e2]
      have hFN : FRw D N := by
        refine hF.tr fun a i q1 q2 => ?_
        rw [hN, hL, hu_k _ _ (by omega), hu_k _ _ (by omega), hKw a i q1 q2, hG1, hF1, hu_k _ _ (by omega), hu_k _ _ (by omega)]
      rw [hlin]
      refine ⟨linMo hMN hok, ?_⟩
      rintro v hv
      have hcn := cntB_in (mvP S) (4 * c + w)
      have hp : mvP S (4 * c + w) = true ↔ ¬ v = 0 := by
        rw [hv]
        unfold mvP
        rw [hT', d4, decide_eq_true_eq]
        by_cases q : lin (upS (upS S 1 c 0) 1 (bes S c w).toNat 1) = lin S
        · rw [if_pos q]; exact ⟨fun z => absurd q z.2.2.2.2, fun z => absurd rfl z⟩
        · rw [if_neg q]; exact ⟨fun _ => by decide, fun _ => ⟨hw1, h1, h2, h4, q⟩⟩
      refine ⟨by unfold c32; split <;> omega, ?_⟩
      rintro v2 hv2
      refine ⟨⟨fun _ => trivial, fun _ => ⟨fun _ => ⟨by unfold c32; omega, by unfold c32; omega⟩, fun _ => trivial⟩⟩, ?_⟩
      rintro v3 hv3
      refine ⟨by unfold c32; omega, ⟨rfl, rfl, ⟨hMN, hFN⟩, c, w + 1, rfl, hc, by omega, by omega, ?_, ?_⟩, by omega⟩
      · rw [hv2, show 4 * c + (w + 1) = (4 * c + w) + 1 by omega, cntB]
        by_cases q : v = 0
        · rw [if_pos q, if_neg (fun z => (hp.mp z) q)]
        · rw [if_neg q, if_pos (hp.mpr q)]
      · rw [hv3, show 4 * c + (w + 1) = (4 * c + w) + 1 by omega, fsN]
        by_cases q : v = 0
        · rw [if_pos q]
          by_cases y : fsN (mvP S) (4 * c + w) = -1
          · rw [if_neg (fun z => z y), if_neg (fun z => (hp.mp z) q), y]
          · rw [if_pos y]
        · rw [if_neg q]
          by_cases y : fsN (mvP S) (4 * c + w) = -1
          · rw [if_pos y, if_neg (fun z => z y), if_pos (hp.mpr q)]; omega
          · rw [if_neg y, if_pos y]
    · rw [takM hM] at h4
      unfold mvP; rw [hT']
      refine decide_eq_false fun q => h4 ?_
      rw [q.2.2.2.1]; rfl
    · have hb0 := hbi.resolve_left h1
      rw [hM.2.1 (bes S c w).toNat (by omega)] at h2
      unfold mvP; rw [hT']; exact decide_eq_false fun q => h2 q.2.2.1
theorem M_move {D : HP} (hT : TXM D) (a : Int) : CT mX6_move [vR 56, vI a] D (fun v E => v = some (vI (vMove (tS D) a)) ∧ FRw D E) := by
  refine V_X6_move a (fun _ _ => ⟨fun h => ?_, fun h => ⟨_, C_moveOf hT a, ?_⟩⟩)
  · rw [wi1] at h
    exact ⟨by unfold vMove; rw [if_neg h], FRw.rf D⟩
  · rw [wi1] at h
    have h := Decidable.of_not_not h
    rintro r E ⟨hr, -, hF⟩ _ _
    unfold vMove
    rw [if_pos h]
    exact ⟨hr, hF⟩
