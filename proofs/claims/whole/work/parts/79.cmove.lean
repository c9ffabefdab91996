theorem CS_up1 {D : HP} {o : Nat} {S : SC} (hM : CS D o S) (i : Nat) (z : Int) : CS (hu D (o + 2) i z) o (upS S 1 i z) := by
  have c0 : ∀ j, upS S 1 i z 0 j = S 0 j := fun j => upS_r S z (by decide)
  refine ⟨⟨fun q => ?_, ?_, ?_, ?_⟩, fun j hj => ?_, fun m hm => ?_, fun k hk => ?_⟩
  · rw [c0] at q ⊢; rw [hu_k _ _ (by omega)]; exact hM.1.1 q
  · rw [c0, hu_k _ _ (by omega)]; exact hM.1.2.1
  · rw [c0, hu_k _ _ (by omega)]; exact hM.1.2.2.1
  · rw [c0, hu_k _ _ (by omega)]; exact hM.1.2.2.2
  · rw [c0] at hj
    by_cases e : j = i
    · subst e; rw [hu_s, upS_s]
    · rw [hu_i _ _ e, upS_i _ _ e]; exact hM.2.1 j hj
  · rw [c0] at hm; rw [hu_k _ _ (by omega), hu_k _ _ (by omega), upS_r _ _ (by decide), upS_r _ _ (by decide)]; exact hM.2.2.1 m hm
  · rw [c0] at hk; rw [hu_k _ _ (by omega), hu_k _ _ (by omega), hu_k _ _ (by omega), upS_r _ _ (by decide), upS_r _ _ (by decide), upS_r _ _ (by decide)]; exact hM.2.2.2 k hk
theorem k_lasto {D : HP} {o : Nat} {S : SC} (h : TC D o S) : oX0_whoIsInLast D o := by
  have h2 := h.1.2.2.1
  unfold oX0_whoIsInLast
  rw [h.2.2.1.1.2.2.1]
  exact ⟨by unfold c32; omega, oT_X0_whoIsIn _ _ _, trivial⟩
set_option maxHeartbeats 4000000 in
theorem C_movesAnotherIn {D : HP} {S : SC} (h : TC D 9 S) {c w : Nat} (hc : (c : Int) < S 0 1) (hw : w < 4) : CT mX5_movesAnotherIn [vR 0, vI c, vI w] D (fun v E => v = some (vI (if mvP S (4 * c + w) = true then 1 else 0)) ∧ FR D E) := by
  have hok := h.1
  have h1 := hok.2.1
  have hb := bes_in hok (c := c) (w := w) (by omega) hc
  have eb := cs_bes hok h.2.1 h.2.2.1 (a := c) (b := w) (by omega) hc (by omega)
  have ed : (4 * c + w) / 4 = c := by omega
  have em : (4 * c + w) % 4 = w := by omega
  have et : mvT S (4 * c + w) = bes S c w := by unfold mvT; rw [ed, em]
  have hwl := hok.2.2.2.2.1 c hc
  have hcw : wal S c = true ↔ S 1 c = 1 := by
    unfold wal
    rw [decide_eq_true_eq, show ((c : Int)).toNat = c by omega]
    exact ⟨fun y => by omega, fun y => ⟨by omega, by omega⟩⟩
  refine V_X5_movesAnotherIn c w (fun _ _ _ => ⟨cs_beso hok h.2.2.1 (by omega), cs_wallo, ?_⟩)
  rw [cs_wall hok h.2.2.1 (Or.inr ⟨by omega, hc⟩), eb, b10]
  refine ⟨fun y => ⟨?_, FR.rf D⟩, fun y => ⟨?_, ?_⟩⟩
  · rw [if_neg]
    unfold mvP
    rw [decide_eq_true_eq, ed]
    exact fun u => y (hcw.2 u.1)
  · unfold oX0_isFree
    exact ⟨⟨fun _ => trivial, fun _ => ⟨cs_wallo, fun _ => by
      have := (show fX1_isCell D 9 (bes S c w) ≠ 0 by assumption)
      rw [cs_cell hok h.2.2.1] at this
      by_cases u : 0 ≤ bes S c w ∧ bes S c w < S 0 1
      · omega
      · rw [if_neg u] at this; exact absurd rfl this, fun _ => trivial⟩⟩, trivial⟩
  have y := hcw.1 (Decidable.of_not_not y)
  rcases hb with hb | hb
  · have e0 : fX0_isFree D 9 (bes S c w) = 0 := by
      unfold fX0_isFree
      rw [hb, cs_cell hok h.2.2.1, if_neg (show ¬ (0 ≤ (-1 : Int) ∧ (-1 : Int) < S 0 1) by omega), if_pos rfl]
    rw [e0]
    refine ⟨fun _ => ⟨?_, FR.rf D⟩, fun u => absurd rfl u⟩
    rw [if_neg]
    unfold mvP
    rw [decide_eq_true_eq, et]
    exact fun u => u.2.1 hb
  obtain ⟨g, hg⟩ : ∃ g : Nat, bes S c w = g := ⟨(bes S c w).toNat, by omega⟩
  rw [hg] at hb et ⊢
  rw [k_free h hb.2, b10, show ((g : Int)).toNat = g by omega, show ((c : Int)).toNat = c by omega]
  have hp : mvP S (4 * c + w) = decide (S 1 c = 1 ∧ (g : Int) ≠ -1 ∧ S 1 g = 0 ∧ tak S g (-1) = false ∧ lin (upS (upS S 1 c 0) 1 g 1) ≠ lin S) := by
    unfold mvP
    rw [et, ed, show ((g : Int)).toNat = g by omega]
  rw [hp]
  refine ⟨fun u => ⟨?_, FR.rf D⟩, fun u => ⟨_, C_tellAs hok h.2.2.1 h.2.2.2.1, ?_⟩⟩
  · rw [if_neg]
    rw [decide_eq_true_eq]
    exact fun v => u ⟨v.2.2.1, v.2.2.2.1⟩
  have u := Decidable.of_not_not u
  rintro E ⟨-, hM, hV, hF⟩ _
  refine ⟨by omega, fun E10 hE10 => ⟨by omega, fun E12 hE12 => ?_⟩⟩
  have hF12 : FR D E12 := fun a i q => by rw [hE12, hu_k _ _ (by omega), hE10, hu_k _ _ (by omega)]; exact hF a i (by omega)
  have hM12 : CS E12 25 (upS (upS S 1 c 0) 1 g 1) := by rw [hE12, hE10]; exact CS_up1 (CS_up1 hM c 0) g 1
  have hok1 : OKS (upS (upS S 1 c 0) 1 g 1) := OKS_1 (OKS_1 hok c (Or.inl rfl)) g (Or.inr rfl)
  have hd1 : DV (upS (upS S 1 c 0) 1 g 1) := DV_up (DV_up h.2.1 (by decide) c 0) (by decide) g 1
  refine ⟨_, C_survey (Or.inr rfl) hok1 hd1 hM12, ?_⟩
  rintro E17 ⟨-, hV17, hF17⟩ _
  have hM17 : CS E17 25 (upS (upS S 1 c 0) 1 g 1) := CS_of hM12 fun a i q => hF17 a i (by omega) (by omega)
  refine ⟨_, C_run (Or.inr rfl) hok1 hM17 hV17, ?_⟩
  rintro E24 ⟨-, hD24, hF24⟩ _
  have hT25 : TC E24 25 (upS (upS S 1 c 0) 1 g 1) := ⟨hok1, hd1, hF24.CS hM17, hF24.SV hV17, hD24⟩
  have hFR : FR D E24 := (hF12.tr fun a i q => hF17 a i (by omega) (by omega)).tr hF24.R
  have hT9 := hFR.TC h
  refine ⟨k_lasto hT25, k_lasto hT9, ?_, hFR⟩
  rw [k_last hT25, k_last hT9]
  by_cases v : lin (upS (upS S 1 c 0) 1 g 1) = lin S
  · rw [if_pos v, if_neg]
    rw [decide_eq_true_eq]
    exact fun q => q.2.2.2.2 v
  · rw [if_neg v, if_pos]
    rw [decide_eq_true_eq]
    exact ⟨y, by omega, u.1, u.2, v⟩
