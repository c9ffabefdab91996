/-! ===== the class: blew, had, ask ===== -/
theorem cmp1 (x : Int) : ((if 1 < x then (1 : Int) else if x = 1 then 0 else -1) = 0) ↔ x = 1 := by
  by_cases h : 1 < x
  · rw [if_pos h]; omega
  · rw [if_neg h]; split <;> omega
theorem IQ_of {D E : HP} {S : SC} (hQ : IQ D S) (e7 : E 0 7 = D 0 7) (e8 : E 0 8 = D 0 8) (e53 : ∀ i, E 53 i = D 53 i) (eg : gC E = gC D) : IQ E S := by
  unfold IQ
  rw [e7, eg]
  rcases hQ with z | ⟨m, z1, z2, z3⟩
  · exact Or.inl z
  · exact Or.inr ⟨m, z1, z2, TL_of z3 e8 e53⟩
set_option maxHeartbeats 4000000 in
theorem K_blew {D : HP} {S : SC} (h : TC D 9 S) (hG : SGC D) (hQ : IQ D S) (a b : Int) : CT mX5_blew [vR 0, vI a, vI b] D (fun v E => v = some (vI (vBlew S (gC D) a b)) ∧ IQ E S ∧ FI D E) := by
  have hok := h.1
  have h2 := hok.2.2.1
  have bad : ¬ ((0 ≤ a ∧ a < S 0 2) ∧ -1 ≤ b ∧ b ≤ 39) → some (vI (-2)) = some (vI (vBlew S (gC D) a b)) ∧ IQ D S ∧ FI D D := fun q => ⟨by unfold vBlew; rw [if_neg q], hQ, FI.rf D⟩
  by_cases hq : 0 ≤ a ∧ a < S 0 2
  · obtain ⟨m, hm⟩ : ∃ m : Nat, a = m := ⟨a.toNat, by omega⟩
    subst hm
    refine V_X5_blew m b
      (fun x1 x2 x3 x4 E => x2 = b ∧ (-1 ≤ b ∧ b ≤ 39) ∧ TL E S (gC D) m 40 ∧ E 0 7 = m ∧ FI D E ∧ ∃ c : Nat, x4 = c ∧ c ≤ 40 ∧ x3 = cntB (blP S (gC D) m) c ∧ ∀ j, j < c → (fun c => blP S (gC D) m c && decide (cntB (blP S (gC D) m) c = b)) j = false) (fun _ _ _ x4 _ => (40 - x4).toNat)
      (fun _ _ _ => ?_) ?_
    · rw [k_isMin h, b10]
      refine ⟨fun q => absurd hq q, fun _ => ⟨fun q => bad (by omega), fun q1 => ⟨fun q2 => ⟨_, C_inquire h hG hQ (by omega), ?_⟩, fun q => bad (by omega)⟩⟩⟩
      rintro E ⟨-, hL, h7, hF⟩ _
      exact ⟨rfl, ⟨by omega, by omega⟩, hL, h7, hF, 0, rfl, by decide, rfl, fun j hj => absurd hj (Nat.not_lt_zero _)⟩
    · rintro x1 x2 x3 x4 E ⟨rfl, hb, hL, h7, hF, c, rfl, hc, rfl, hn⟩ _ _ _ _ _
      have hcn := cntB_in (blP S (gC D) m) c
      have hIQ : IQ E S := Or.inr ⟨m, h7, hq.2, by rw [hF.Q.g]; exact hL⟩
      have hv : vBlew S (gC D) m x2 = vBlewOf S (gC D) m x2 := by
        unfold vBlew
        rw [if_pos ⟨hq, hb⟩, show ((m : Int)).toNat = m by omega]
      rw [hv]
      refine ⟨fun q => ⟨?_, hIQ, hF⟩, fun q => ?_⟩
      · obtain rfl : c = 40 := by omega
        unfold vBlewOf
        by_cases z : x2 = -1
        · rw [if_pos z, if_pos z]
        · rw [if_neg z, if_neg z]
          unfold blK
          rw [fsN_no hn]
      rw [cmp1, hL.1.has (by omega)]
      have hdc : (decide (c < 40) && blP S (gC D) m c) = blP S (gC D) m c := by rw [decide_eq_true (show c < 40 by omega)]; rfl
      rw [hdc]
      refine ⟨fun q1 => ?_, fun q1 => ⟨by unfold c32; omega, ⟨rfl, hb, hL, h7, hF, c + 1, by omega, by omega, ?_, fun j hj => ?_⟩, by omega⟩⟩
      · have hp : blP S (gC D) m c = true := by
          by_cases z : blP S (gC D) m c = true
          · exact z
          · rw [if_neg z] at q1; omega
        refine ⟨fun q2 => ⟨?_, hIQ, hF⟩, fun q2 => ⟨by unfold c32; omega, by unfold c32; omega, ⟨rfl, hb, hL, h7, hF, c + 1, by omega, by omega, by rw [cntB, if_pos hp], fun j hj => ?_⟩, by omega⟩⟩
        · unfold vBlewOf
          rw [if_neg (by omega)]
          unfold blK
          rw [fsN_yes hn (j := c) (by simp [hp]; exact q2) (by omega)]
        · by_cases e : j = c
          · subst e
            simp [q2]
          · exact hn j (by omega)
      · have hp : blP S (gC D) m c = false := by
          cases z : blP S (gC D) m c
          · rfl
          · rw [z] at q1; exact absurd rfl q1
        rw [cntB, hp]; simp
      · have hp : blP S (gC D) m c = false := by
          cases z : blP S (gC D) m c
          · rfl
          · rw [z] at q1; exact absurd rfl q1
        by_cases e : j = c
        · subst e
          simp [hp]
        · exact hn j (by omega)
  · refine V_X5_blew a b (fun _ _ _ _ _ => False) (fun _ _ _ _ _ => 0) (fun _ _ _ => ?_) (fun _ _ _ _ _ hf => hf.elim)
    rw [k_isMin h, b10]
    exact ⟨fun _ => bad (fun w => hq w.1), fun q => absurd hq q⟩
set_option maxHeartbeats 4000000 in
theorem K_had {D : HP} {S : SC} (h : TC D 9 S) (hG : SGC D) (a : Int) : CT mX5_had [vR 0, vI a] D (fun v E => v = some (vI (vHad S (gC D) a)) ∧ FR D E) := by
  have hok := h.1
  have h2 := hok.2.2.1
  have h3 := hok.2.2.2.1
  by_cases hq : 0 ≤ a ∧ a < S 0 3
  · obtain ⟨k, hk⟩ : ∃ k : Nat, a = k := ⟨a.toNat, by omega⟩
    subst hk
    have ev : vHad S (gC D) k = hdB S (gC D) k 9 := by unfold vHad vHadOf; rw [if_pos hq, show ((k : Int)).toNat = k by omega]
    rw [ev]
    refine V_X5_had k
      (fun x1 x2 x3 E => x1 = k ∧ (∃ n : Nat, x3 = ((n + 1 : Nat) : Int) ∧ n ≤ 9 ∧ x2 = hdB S (gC D) k n) ∧ (∃ z, CS E 25 (upS S 7 k z)) ∧ SV E 25 S ∧ FR D E) (fun _ _ x3 _ => (10 - x3).toNat)
      (fun _ _ => ?_) ?_
    · rw [k_isCan h, b10]
      refine ⟨fun q => absurd hq q, fun _ => ⟨_, C_tellAs hok h.2.2.1 h.2.2.2.1, ?_⟩⟩
      rintro E ⟨-, hM, hV, hF⟩ _
      exact ⟨rfl, ⟨0, rfl, by omega, rfl⟩, ⟨S 7 k, by rw [upS_me]; exact hM⟩, hV, fun a i q => hF a i (by omega)⟩
    · rintro x1 x2 x3 E ⟨rfl, ⟨n, rfl, hn, rfl⟩, ⟨z, hM⟩, hV, hF⟩ _ _ _ _
      refine ⟨fun q => ⟨?_, hF⟩, fun q => ⟨by omega, fun E10 hE => ?_⟩⟩
      · obtain rfl : n = 9 := by omega
        rfl
      rw [show ((k : Int)).toNat = k by omega] at hE
      have hM10 : CS E10 25 (upS S 7 k ((n + 1 : Nat) : Int)) := by
        have := CS_up hM (r := 7) (Or.inr rfl) k ((n + 1 : Nat) : Int)
        rw [upS_up] at this
        rw [hE]; exact this
      have hV10 : SV E10 25 S := fun w hw j hj => by rw [hE, hu_k _ _ (by decide), hu_k _ _ (by decide)]; exact hV w hw j hj
      have hok7 := OKS_7 hok k (z := ((n + 1 : Nat) : Int)) (by omega)
      refine ⟨_, C_run (Or.inr rfl) hok7 hM10 (SV_up hV10 (by decide) k _), ?_⟩
      rintro E5 ⟨-, hD5, hF5⟩ _
      have hM5 := hF5.CS hM10
      have hV5 : SV E5 25 S := hF5.SV hV10
      have hT5 : TC E5 25 (upS S 7 k ((n + 1 : Nat) : Int)) := ⟨hok7, DV_up h.2.1 (by decide) k _, hM5, SV_up hV5 (by decide) k _, hD5⟩
      have hF10 : FR D E10 := hF.tr fun a i q => by rw [hE, hu_k _ _ (by omega)]
      have hFR := hF10.tr hF5.R
      rw [k_come hT5 (hFR.Q.SG hG), hFR.Q.g]
      refine ⟨by unfold c32; omega, ⟨rfl, ⟨n + 1, by omega, by omega, ?_⟩, ⟨_, hM5⟩, hV5, hFR⟩, by omega⟩
      rw [hdB]
      by_cases y : cms (upS S 7 k ((n + 1 : Nat) : Int)) (gC D) = true
      · simp only [if_pos y, show ¬ (1 : Int) = 0 by decide, if_false]
      · simp only [if_neg y, if_true]
  · refine V_X5_had a (fun _ _ _ _ => False) (fun _ _ _ _ => 0) (fun _ _ => ?_) (fun _ _ _ _ hf => hf.elim)
    rw [k_isCan h, b10]
    exact ⟨fun q => ⟨by unfold vHad; rw [if_neg q], FR.rf D⟩, fun q => absurd hq q⟩
theorem mxN_0 (g : Nat → Int) : ∀ n : Nat, 0 ≤ mxN g n
  | 0 => Int.le_refl 0
  | n + 1 => by
    have ih := mxN_0 g n
    rw [mxN]
    split <;> omega
theorem mxN_ge {g : Nat → Int} {k : Nat} : ∀ {n : Nat}, k < n → g k ≤ mxN g n
  | 0, h => absurd h (Nat.not_lt_zero _)
  | n + 1, h => by
    rw [mxN]
    by_cases e : k = n
    · subst e; split <;> omega
    · have ih := mxN_ge (g := g) (k := k) (n := n) (by omega)
      split <;> omega
theorem mxN_le {g : Nat → Int} {b : Int} (hb : 0 ≤ b) : ∀ {n : Nat}, (∀ k, k < n → g k ≤ b) → mxN g n ≤ b
  | 0, _ => hb
  | n + 1, h => by
    have ih := mxN_le (g := g) hb (n := n) (fun k hk => h k (by omega))
    have := h n (by omega)
    rw [mxN]
    split <;> omega
theorem tal0 {S : SC} {G : SGt} {m j : Nat} {w : Int} (hw : 0 ≤ w ∧ (S 0 3).toNat ≤ w) : tal S G m j w = 0 := by
  unfold tal
  have : ∀ n : Nat, cntB (fun c => blP S G m c && decide (inn (blS S m c) j = w)) n = 0 := fun n => by
    induction n with
    | zero => rfl
    | succ n ih =>
      rw [cntB, ih]
      have hi := inn_in (S := blS S m n) j
      rw [bl_ag S m n 0 3 (Or.inl (by decide))] at hi
      rw [decide_eq_false (by omega)]
      simp
  exact this 40
theorem mx_two {f g : Nat → Int} {K N : Nat} (hN : N = 9) (hK : K ≤ 8) (h1 : ∀ w, w < K → f w = g (w + 1)) (h2 : ∀ w, K ≤ w → w < 8 → f w = 0) (h3 : f 8 = g 0) : mxN f N = mxN g (K + 1) := by
  refine Int.le_antisymm (mxN_le (mxN_0 _ _) fun w hw => ?_) (mxN_le (mxN_0 _ _) fun n hn => ?_)
  · by_cases e : w = 8
    · rw [e, h3]
      exact mxN_ge (by omega)
    · by_cases y : w < K
      · rw [h1 w y]
        exact mxN_ge (by omega)
      · rw [h2 w (by omega) (by omega)]
        exact mxN_0 _ _
  · by_cases e : n = 0
    · rw [e, ← h3]
      exact mxN_ge (by omega)
    · have := h1 (n - 1) (by omega)
      rw [show n - 1 + 1 = n by omega] at this
      rw [← this]
      exact mxN_ge (by omega)
theorem k_great {D : HP} {S : SC} {G : SGt} {m : Nat} (hok : OKS S) (hL : TL D S G m 40) {j : Nat} (hj : (j : Int) < S 0 2) : fX5_greatestTally D j = grt S G m j := by
  have h3 := hok.2.2.2.1
  have hc : ∀ w : Nat, w < 9 → D 53 ((j : Int) * 9 + (w : Int)).toNat = tal S G m j (clW w) := fun w hw => by
    rw [show ((j : Int) * 9 + (w : Int)).toNat = 9 * j + w by omega]
    exact hL.2 j w hj hw
  unfold fX5_greatestTally grt
  refine mx_two rfl (by omega) (fun w hw => ?_) (fun w h1 h2 => ?_) ?_
  · rw [hc w (by omega)]
    unfold clW
    rw [if_neg (by omega), show (((w + 1 : Nat) : Int) - 1) = w by omega]
  · rw [hc w (by omega)]
    unfold clW
    rw [if_neg (by omega), tal0 (by omega)]
  · exact hc 8 (by omega)
set_option maxHeartbeats 4000000 in
theorem K_ask {D : HP} {S : SC} (h : TC D 9 S) (hG : SGC D) (hQ : IQ D S) (a : Int) : CT mX5_ask [vR 0, vI a] D (fun v E => v = some (vI (vAsk S (gC D) a)) ∧ IQ E S ∧ FI D E) := by
  have hok := h.1
  have h2 := hok.2.2.1
  by_cases hq : 0 ≤ a ∧ a < S 0 2
  · obtain ⟨m, hm⟩ : ∃ m : Nat, a = m := ⟨a.toNat, by omega⟩
    subst hm
    have ev : vAsk S (gC D) m = (akB S (gC D) m (S 0 2).toNat).1 := by unfold vAsk vAskOf; rw [if_pos hq, show ((m : Int)).toNat = m by omega]
    rw [ev]
    refine V_X5_ask m
      (fun x1 x2 x3 E => TL E S (gC D) m 40 ∧ E 0 7 = m ∧ FI D E ∧ ∃ n : Nat, x3 = ((n + 1 : Nat) : Int) ∧ ((n + 1 : Nat) : Int) ≤ S 0 2 ∧ ∃ b : Nat, x2 = b ∧ (b : Int) < S 0 2 ∧ akB S (gC D) m (n + 1) = ((b : Int), grt S (gC D) m b)) (fun _ _ x3 _ => (12 - x3).toNat)
      (fun _ _ => ?_) ?_
    · rw [k_isMin h, b10]
      refine ⟨fun q => absurd hq q, fun _ => ⟨_, C_inquire h hG hQ (by omega), ?_⟩⟩
      rintro E ⟨-, hL, h7, hF⟩ _
      refine ⟨hL, h7, hF, 0, rfl, by omega, 0, rfl, by omega, ?_⟩
      rw [akB, akB, if_pos (Or.inl rfl)]
    · rintro x1 x2 x3 E ⟨hL, h7, hF, n, rfl, hn, b, rfl, hb, hA⟩ _ _ _ _
      have hIQ : IQ E S := Or.inr ⟨m, h7, hq.2, by rw [hF.Q.g]; exact hL⟩
      have hT := hF.Q.TC h
      have e2 : E 10 2 = S 0 2 := hT.2.2.1.1.2.2.1
      rw [e2]
      have fin : S 0 2 ≤ ((n + 1 : Nat) : Int) → some (vI (b : Int)) = some (vI (akB S (gC D) m (S 0 2).toNat).1) ∧ IQ E S ∧ FI D E := fun q => by
        refine ⟨?_, hIQ, hF⟩
        rw [show (S 0 2).toNat = n + 1 by omega, hA]
      refine ⟨fin, fun q => ⟨fun q2 => absurd q2 (by omega), fun _ => ⟨?_, ?_, by unfold c32; omega, ⟨hL, h7, hF, n + 1, by omega, by omega, ?_⟩, by omega⟩⟩⟩
      · unfold oX5_greatestTally; omega
      · unfold oX5_greatestTally; omega
      · rw [k_great hok hL hb, k_great hok hL (j := n + 1) (by omega), akB, hA]
        by_cases z : grt S (gC D) m b ≤ grt S (gC D) m (n + 1)
        · rw [if_pos z, if_neg]
          · exact ⟨b, rfl, hb, rfl⟩
          · rintro (w | w)
            · have w : (b : Int) = -1 := w
              omega
            · have w : grt S (gC D) m (n + 1) < grt S (gC D) m b := w
              omega
        · rw [if_neg z, if_pos (Or.inr (show grt S (gC D) m (n + 1) < grt S (gC D) m b by omega))]
          exact ⟨n + 1, rfl, by omega, rfl⟩
  · refine V_X5_ask a (fun _ _ _ _ => False) (fun _ _ _ _ => 0) (fun _ _ => ?_) (fun _ _ _ _ hf => hf.elim)
    rw [k_isMin h, b10]
    exact ⟨fun q => ⟨by unfold vAsk; rw [if_neg q], hQ, FI.rf D⟩, fun q => absurd hq q⟩
