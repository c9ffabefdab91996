/-! ===== what was seen: how many, behind which minutes, who ===== -/
abbrev SGt : Type := Nat × (Nat → Int) × (Nat → Int)
def cmP (S : SC) (g : SGt) (i : Nat) : Bool := decide (g.2.1 i < S 0 2 ∧ inn S (g.2.1 i).toNat = (if g.2.2 i = 8 then -1 else g.2.2 i))
/-- all that was seen comes out so -/
def cms (S : SC) (g : SGt) : Bool := !(exB (fun i => !(cmP S g i)) g.1)
def gM (D : HP) : SGt := ((D 56 17).toNat, D 70, D 71)
/-- the model's sightings -/
def SGM (D : HP) : Prop := (0 ≤ D 56 17 ∧ D 56 17 ≤ 8) ∧ ∀ i : Nat, (i : Int) < D 56 17 → (0 ≤ D 70 i ∧ D 70 i ≤ 11) ∧ 0 ≤ D 71 i ∧ D 71 i ≤ 8
theorem FRw.g {D E : HP} (h : FRw D E) : gM E = gM D := by
  unfold gM
  rw [h 56 17 (by decide) (by decide), show E 70 = D 70 from funext fun i => h 70 i (by decide) (Or.inl (by decide)), show E 71 = D 71 from funext fun i => h 71 i (by decide) (Or.inl (by decide))]
theorem FRw.SG {D E : HP} (h : FRw D E) (hG : SGM D) : SGM E := by
  unfold SGM
  rw [h 56 17 (by decide) (by decide)]
  refine ⟨hG.1, fun i hi => ?_⟩
  rw [h 70 i (by decide) (Or.inl (by decide)), h 71 i (by decide) (Or.inl (by decide))]
  exact hG.2 i hi
set_option maxHeartbeats 4000000 in
theorem C_isSeen {D : HP} {S : SC} (h : OKS S) (hM : MS D S) (hG : SGM D) : CT mX6_isSeen [vR 56] D (fun v E => v = some (vI (if cms S (gM D) = true then 1 else 0)) ∧ RM E S ∧ MS E S ∧ FRw D E ∧ (∀ a b, (a < 65 ∨ 69 < a) → E a b = D a b)) := by
  have h2 := h.2.2.1
  refine V_X6_isSeen (I8 := fun x1 x2 E => (RM E S ∧ MS E S ∧ FRw D E ∧ (∀ a b, (a < 65 ∨ 69 < a) → E a b = D a b)) ∧ ∃ j : Nat, x2 = j ∧ (j : Int) ≤ D 56 17 ∧ x1 = if exB (fun i => !(cmP S (gM D) i)) j = true then 0 else 1) (u8 := fun _ x2 _ => (8 - x2).toNat) (fun _ => ⟨_, C_runs' h hM, ?_⟩) ?_
  · rintro E ⟨-, hR, hME, hF, hfr⟩ _
    exact ⟨⟨hR, hME, hF, hfr⟩, 0, rfl, by have := hG.1; omega, rfl⟩
  rintro x1 x2 E ⟨⟨hR, hME, hF, hfr⟩, j, rfl, hj, hx⟩ hcD _ _
  have e17 : E 56 17 = D 56 17 := hF 56 17 (by decide) (by decide)
  have hg := hG.1
  have hb : x1 = 0 ∨ x1 = 1 := by rw [hx]; split <;> simp
  have up : ∀ (p : Nat → Bool) (n m : Nat), n ≤ m → exB p n = true → exB p m = true := fun p n m hnm hp => by
    induction m with
    | zero => rw [show n = 0 by omega] at hp; exact hp
    | succ m ih =>
      by_cases e : n = m + 1
      · rw [← e]; exact hp
      · rw [exB, ih (by omega)]; rfl
  rw [e17]
  refine ⟨fun hc => ⟨hb, ?_, hR, hME, hF, hfr⟩, fun hc => ⟨fun h0 => ⟨hb, ?_, hR, hME, hF, hfr⟩, fun h0 => ⟨by omega, ⟨fun _ => trivial, fun _ => by omega⟩, ?_⟩⟩⟩
  · have e : j = (gM D).1 := by show j = (D 56 17).toNat; omega
    rw [hx, e]
    unfold cms
    cases exB (fun i => !(cmP S (gM D) i)) (gM D).1 <;> rfl
  · have q : exB (fun i => !(cmP S (gM D) i)) j = true := by
      by_cases q : exB (fun i => !(cmP S (gM D) i)) j = true
      · exact q
      · rw [if_neg q] at hx; omega
    rw [h0]
    unfold cms
    rw [up _ j (gM D).1 (by show j ≤ (D 56 17).toNat; omega) q]
    rfl
  · have hs := hG.2 j (by omega)
    have e70 : E 70 (j : Int).toNat = D 70 j := by rw [Int.toNat_natCast]; exact hF 70 j (by decide) (Or.inl (by decide))
    have e71 : E 71 (j : Int).toNat = D 71 j := by rw [Int.toNat_natCast]; exact hF 71 j (by decide) (Or.inl (by decide))
    rw [e70, e71, hME.1.2.2.1]
    rintro v hv
    refine ⟨by omega, ⟨fun _ => trivial, fun _ => by omega⟩, ?_⟩
    rintro w hw
    refine ⟨by unfold c32; omega, ⟨⟨hR, hME, hF, hfr⟩, j + 1, by omega, by omega, ?_⟩, by omega⟩
    have q : exB (fun i => !(cmP S (gM D) i)) j = false := by
      cases q : exB (fun i => !(cmP S (gM D) i)) j
      · rfl
      · rw [q] at hx; exact absurd hx h0
    rw [exB, q, hw]
    have hp : cmP S (gM D) j = decide (D 70 j < S 0 2 ∧ inn S (D 70 j).toNat = v) := by rw [hv]; rfl
    rw [hp]
    by_cases y : S 0 2 ≤ D 70 j
    · rw [if_pos y, decide_eq_false (by omega)]; rfl
    · rw [if_neg y, hR.2.2.1 _ (by omega)]
      by_cases z : inn S (D 70 j).toNat = v
      · rw [if_pos z, decide_eq_true ⟨by omega, z⟩]; rfl
      · rw [if_neg z, decide_eq_false (fun q => z q.2)]; rfl
theorem RM_of {D E : HP} {S : SC} (h : RM D S) (hE : ∀ a i, 65 ≤ a ∧ a ≤ 69 → E a i = D a i) : RM E S :=
  ⟨fun k hk => by rw [hE _ _ (by decide)]; exact h.1 k hk, fun n k hn hk => by rw [hE _ _ (by decide)]; exact h.2.1 n k hn hk, fun j hj => by rw [hE _ _ (by decide)]; exact h.2.2.1 j hj, fun k hk => by rw [hE _ _ (by decide)]; exact h.2.2.2.1 k hk, fun k hk => by rw [hE _ _ (by decide)]; exact h.2.2.2.2 k hk⟩
theorem MS_of {D E : HP} {S : SC} (h : MS D S) (hE : ∀ a i, a = 56 ∨ (59 ≤ a ∧ a ≤ 64) → E a i = D a i) : MS E S := by
  refine ⟨?_, fun j hj => ?_, fun j hj => ?_, fun j hj => ?_⟩
  · simp only [hE 56 _ (by omega)]; exact h.1
  · rw [hE _ _ (by omega)]; exact h.2.1 j hj
  · rw [hE _ _ (by omega), hE _ _ (by omega)]; exact h.2.2.1 j hj
  · rw [hE _ _ (by omega), hE _ _ (by omega), hE _ _ (by omega)]; exact h.2.2.2 j hj
/-- a gust in place of its own -/
def blS (S : SC) (m c : Nat) : SC := upS (upS S 4 m ((c / 10 : Nat) : Int)) 5 m ((c % 10 : Nat) : Int)
def blP (S : SC) (g : SGt) (m c : Nat) : Bool := cms (blS S m c) g
theorem OKS_bl {S : SC} (h : OKS S) (m : Nat) {c : Nat} (hc : c < 40) : OKS (blS S m c) := by
  have r : ∀ a b, a ≠ 4 → a ≠ 5 → blS S m c a b = S a b := fun a b q1 q2 => by unfold blS; rw [upS_r _ _ q2, upS_r _ _ q1]
  unfold OKS
  simp only [r 0 _ (by decide) (by decide), r 1 _ (by decide) (by decide), r 6 _ (by decide) (by decide), r 7 _ (by decide) (by decide), r 8 _ (by decide) (by decide)]
  refine ⟨h.1, h.2.1, h.2.2.1, h.2.2.2.1, h.2.2.2.2.1, fun j hj => ?_, h.2.2.2.2.2.2⟩
  have := h.2.2.2.2.2.1 j hj
  unfold blS
  by_cases e : j = m
  · subst e
    rw [upS_r _ _ (show (4 : Nat) ≠ 5 by decide), upS_s, upS_s]; omega
  · rw [upS_r _ _ (show (4 : Nat) ≠ 5 by decide), upS_i _ _ e, upS_i _ _ e, upS_r _ _ (show (5 : Nat) ≠ 4 by decide)]; exact this
set_option maxHeartbeats 4000000 in
theorem C_blows {D : HP} (hT : TXM D) (hG : SGM D) {m : Nat} (hm : (m : Int) < tS D 0 2) : CT mX6_blows [vR 56, vI m] D (fun v E => v = some (vI (cntB (blP (tS D) (gM D) m) 40)) ∧ (∀ c : Nat, c < 40 → E 72 c = if blP (tS D) (gM D) m c = true then 1 else 0) ∧ (∀ c j : Nat, c < 40 → (j : Int) < tS D 0 2 → E 73 (12 * c + j) = inn (blS (tS D) m c) j) ∧ MS E (tS D) ∧ FRw D E) := by
  have hok := tS_ok hT
  generalize hS : tS D = S at *
  have h2 := hok.2.2.1
  have hgm := hok.2.2.2.2.2.1 m hm
  generalize hgD : gM D = g at *
  refine V_X6_blows m (I24 := fun x1 x2 x3 x4 x5 E => x1 = m ∧ x2 = S 4 m ∧ x3 = S 5 m ∧ ((∃ c0 : Nat, c0 < 40 ∧ MS E (blS S m c0)) ∨ MS E S) ∧ FRw D E ∧ ∃ c : Nat, x5 = c ∧ c ≤ 40 ∧ x4 = cntB (blP S g m) c ∧ (∀ i : Nat, i < c → E 72 i = if blP S g m i = true then 1 else 0) ∧ (∀ i j : Nat, i < c → (j : Int) < S 0 2 → E 73 (12 * i + j) = inn (blS S m i) j)) (u24 := fun _ _ _ _ x5 _ => ((40 - x5) * 100).toNat)
    (I87 := fun x1 x2 x3 x4 x5 x6 E => x1 = m ∧ x2 = S 4 m ∧ x3 = S 5 m ∧ FRw D E ∧ ∃ c : Nat, x5 = c ∧ c < 40 ∧ MS E (blS S m c) ∧ RM E (blS S m c) ∧ x4 = cntB (blP S g m) (c + 1) ∧ (∀ i : Nat, i < c + 1 → E 72 i = if blP S g m i = true then 1 else 0) ∧ (∀ i j : Nat, i < c → (j : Int) < S 0 2 → E 73 (12 * i + j) = inn (blS S m i) j) ∧ ∃ j : Nat, x6 = j ∧ (j : Int) ≤ S 0 2 ∧ ∀ i : Nat, i < j → E 73 (12 * c + i) = inn (blS S m c) i) (u87 := fun _ _ _ _ x5 x6 _ => ((40 - x5) * 100 - x6 - 1).toNat) (fun _ _ => ⟨_, C_reads hT, ?_⟩) ?_ ?_
  · rintro E ⟨-, hM, hF⟩ _
    rw [hS] at hM
    have e := hM.2.2.1 m hm
    rw [Int.toNat_natCast, e.1, e.2]
    exact ⟨by omega, by omega, rfl, rfl, rfl, Or.inr hM, hF.w, 0, rfl, by decide, rfl, fun i hi => absurd hi (Nat.not_lt_zero _), fun i j hi => absurd hi (Nat.not_lt_zero _)⟩
  · rintro x1 x2 x3 x4 x5 E ⟨rfl, rfl, rfl, hM, hF, c, rfl, hc, rfl, h72, h73⟩ hcD _ _ _ _ _
    have hMz : ∀ y z : Int, MS (hu (hu E 60 m y) 61 m z) (upS (upS S 4 m y) 5 m z) := fun y z => by
      have e : ∀ y0 z0 : Int, upS (upS (upS (upS S 4 m y0) 5 m z0) 4 m y) 5 m z = upS (upS S 4 m y) 5 m z := fun y0 z0 => by
        funext a i
        unfold upS
        by_cases q : a = 5 ∧ i = m
        · rw [if_pos q, if_pos q]
        · rw [if_neg q, if_neg q, if_neg q]
          by_cases p : a = 4 ∧ i = m
          · rw [if_pos p, if_pos p]
          · rw [if_neg p, if_neg p, if_neg p]
      rcases hM with ⟨c0, hc0, hM⟩ | hM
      · have := MS_up (MS_up hM (r := 4) (by decide) m y) (r := 5) (by decide) m z
        unfold blS at this
        rw [e] at this
        exact this
      · exact MS_up (MS_up hM (r := 4) (by decide) m y) (r := 5) (by decide) m z
    refine ⟨fun hcc => ⟨by omega, ?_⟩, fun hcc => ⟨by omega, by omega, ?_⟩⟩
    · rintro F rfl
      refine ⟨by omega, ?_⟩
      rintro G rfl
      have e : c = 40 := by omega
      subst e
      rw [Int.toNat_natCast]
      refine ⟨rfl, fun i hi => ?_, fun i j hi hj => ?_, ?_, ?_⟩
      · rw [hu_k _ _ (by decide), hu_k _ _ (by decide)]; exact h72 i hi
      · rw [hu_k _ _ (by decide), hu_k _ _ (by decide)]; exact h73 i j hi hj
      · have := hMz (S 4 m) (S 5 m)
        rw [show upS (upS S 4 m (S 4 m)) 5 m (S 5 m) = S from by rw [upS_me, upS_me]] at this
        exact this
      · exact hF.tr (fun a i q1 q2 => by rw [hu_k _ _ (by omega), hu_k _ _ (by omega)])
    · rintro F hF1
      refine ⟨by omega, by omega, ?_⟩
      rintro G hG1
      have hc4 : c < 40 := by omega
      have e1 : ((c : Int) / 10) = ((c / 10 : Nat) : Int) := by omega
      have e2 : ((c : Int) % 10) = ((c % 10 : Nat) : Int) := by omega
      rw [Int.toNat_natCast, e1] at hF1
      rw [Int.toNat_natCast, e2] at hG1
      have hMG : MS G (blS S m c) := by rw [hG1, hF1]; exact hMz _ _
      have hFG : FRw D G := hF.tr (fun a i q1 q2 => by rw [hG1, hF1, hu_k _ _ (by omega), hu_k _ _ (by omega)])
      refine ⟨_, C_isSeen (OKS_bl hok m hc4) hMG (hFG.SG hG), ?_⟩
      rw [hFG.g, hgD]
      rintro r K ⟨hr, hR, hMK, hFK, hfr⟩ _ _
      have hr := vIj hr
      have hrb : r = 0 ∨ r = 1 := by rw [hr]; split <;> simp
      refine ⟨by omega, hrb, ?_⟩
      rintro L hL
      rw [Int.toNat_natCast] at hL
      have hcn := cntB_in (blP S g m) c
      have e72 : L 72 (c : Int).toNat = r := by rw [hL, Int.toNat_natCast, hu_s]
      have kE : ∀ a i, (a < 60 ∨ (61 < a ∧ a < 65) ∨ 69 < a) → K a i = E a i := fun a i h => by rw [hfr a i (by omega), hG1, hF1, hu_k _ _ (by omega), hu_k _ _ (by omega)]
      have hrp : r = if blP S g m c = true then 1 else 0 := hr
      rw [e72]
      refine ⟨by omega, by unfold c32; split <;> omega, ?_⟩
      rintro v hv
      refine ⟨⟨rfl, rfl, rfl, (hFG.tr hFK).tr (fun a i q1 q2 => by rw [hL, hu_k _ _ (by omega)]), c, rfl, hc4, ?_, ?_, ?_, fun i hi => ?_, fun i j hi hj => ?_, 0, rfl, by omega, fun i hi => absurd hi (Nat.not_lt_zero _)⟩, by omega⟩
      · exact MS_of hMK (fun a i h => by rw [hL, hu_k _ _ (by omega)])
      · exact RM_of hR (fun a i h => by rw [hL, hu_k _ _ (by omega)])
      · rw [hv, cntB, hrp]
        cases blP S g m c <;> rfl
      · by_cases q : i = c
        · rw [q, hL, hu_s]; exact hrp
        · rw [hL, hu_i _ _ q, kE _ _ (by decide)]; exact h72 i (by omega)
      · rw [hL, hu_k _ _ (by decide), kE _ _ (by decide)]; exact h73 i j hi hj
  · rintro x1 x2 x3 x4 x5 x6 E ⟨rfl, rfl, rfl, hF, c, rfl, hc, hM, hR, rfl, h72, h73, j, rfl, hj, hjn⟩ hcD _ _ _ _ _ _
    have e5 : E 56 5 = S 0 2 := hM.1.2.2.1
    rw [e5]
    refine ⟨fun hcc => ⟨by unfold c32; omega, ⟨rfl, rfl, rfl, Or.inl ⟨c, hc, hM⟩, hF, c + 1, by omega, by omega, rfl, h72, fun i j' hi hj' => ?_⟩, by omega⟩, fun hcc => ⟨by unfold c32; omega, by unfold c32; omega, by omega, by omega, ?_⟩⟩
    · by_cases q : i = c
      · rw [q]; exact hjn j' (by omega)
      · exact h73 i j' (by omega) hj'
    · rintro F hF1
      have e69 : E 69 (j : Int).toNat = inn (blS S m c) j := by rw [Int.toNat_natCast]; exact hR.2.2.1 j (by show (j : Int) < S 0 2; omega)
      rw [e69, show (12 * (c : Int) + (j : Int)).toNat = 12 * c + j by omega] at hF1
      have fk : ∀ a i, a ≠ 73 → F a i = E a i := fun a i h => by rw [hF1]; exact hu_k _ _ h
      refine ⟨by unfold c32; omega, ⟨rfl, rfl, rfl, hF.tr (fun a i q1 q2 => fk a i (by omega)), c, rfl, hc, ?_, ?_, rfl, fun i hi => ?_, fun i j' hi hj' => ?_, j + 1, by omega, by omega, fun i hi => ?_⟩, by omega⟩
      · exact ⟨by simp only [fk 56 _ (by decide)]; exact hM.1, fun i hi => by rw [fk _ _ (by decide)]; exact hM.2.1 i hi, fun i hi => by rw [fk _ _ (by decide), fk _ _ (by decide)]; exact hM.2.2.1 i hi, fun i hi => by rw [fk _ _ (by decide), fk _ _ (by decide), fk _ _ (by decide)]; exact hM.2.2.2 i hi⟩
      · exact RM_of hR (fun a i h => fk a i (by omega))
      · rw [fk _ _ (by decide)]; exact h72 i hi
      · rw [hF1, hu_i _ _ (by omega)]; exact h73 i j' hi hj'
      · by_cases q : i = j
        · rw [q, hF1, hu_s]
        · rw [hF1, hu_i _ _ (by omega)]; exact hjn i (by omega)
