/-! ===== the class: weather, count ===== -/
theorem wS_r (S : SC) (seed : Int) (n : Nat) {a i : Nat} (h1 : a ≠ 4) (h2 : a ≠ 5) (h3 : a ≠ 0 ∨ i ≠ 2) : wS S seed n a i = S a i := by
  unfold wS
  rw [if_neg (by omega), if_neg (fun q => h1 q.1), if_neg (fun q => h2 q.1)]
theorem wS_bes (S : SC) (seed : Int) (n : Nat) (c w : Int) : bes (wS S seed n) c w = bes S c w := by
  unfold bes
  rw [wS_r S seed n (a := 0) (i := 0) (by decide) (by decide) (by decide), wS_r S seed n (a := 0) (i := 1) (by decide) (by decide) (by decide)]
theorem wS_lay (S : SC) (seed : Int) (n : Nat) (c w : Int) : layS (wS S seed n) c w = layS S c w := by
  have w1 : ∀ c, wal (wS S seed n) c = wal S c := fun c => by unfold wal; rw [wS_r S seed n (by decide) (by decide) (Or.inl (by decide))]
  unfold layS
  simp only [wS_bes, w1]
theorem DV_w {S : SC} (h : DV S) (seed : Int) (n : Nat) : DV (wS S seed n) := by
  unfold DV
  rw [wS_r S seed n (a := 0) (i := 0) (by decide) (by decide) (by decide), wS_r S seed n (a := 0) (i := 1) (by decide) (by decide) (by decide)]
  exact h
theorem SV_w {D : HP} {o : Nat} {S : SC} (h : SV D o S) (seed : Int) (n : Nat) : SV D o (wS S seed n) := fun w hw c hc => by
  rw [wS_r S seed n (a := 0) (i := 1) (by decide) (by decide) (by decide)] at hc
  rw [wS_bes, wS_lay]
  exact h w hw c hc
theorem cntB_lt {p : Nat → Bool} {K : Nat} : ∀ n : Nat, cntB (fun k => decide ((k : Int) < (K : Int)) && p k) n = cntB p (min n K)
  | 0 => by rw [Nat.zero_min]; rfl
  | n + 1 => by
    have ih := cntB_lt (p := p) (K := K) n
    rw [cntB, ih]
    by_cases q : n < K
    · rw [show min (n + 1) K = n + 1 by omega, show min n K = n by omega, cntB, decide_eq_true (by omega)]
      rfl
    · rw [show min (n + 1) K = K by omega, show min n K = K by omega, decide_eq_false (by omega)]
      simp
theorem k_nt {D : HP} {o : Nat} {S : SC} (h : TC D o S) : fX0_manyTurned D o = ntS S := by
  have h3 := h.1.2.2.2.1
  obtain ⟨K, hK⟩ : ∃ K : Nat, S 0 3 = K := ⟨(S 0 3).toNat, by omega⟩
  rw [k_many h]
  unfold ntS
  rw [hK, cntB_lt, show min 8 K = (K : Int).toNat by omega]
theorem oT_many {D : HP} {o : Nat} {S : SC} (h : TC D o S) : oX0_manyTurned D o := by
  have h2 := h.1.2.2.1
  unfold oX0_manyTurned
  rw [h.2.2.1.1.2.2.1]
  exact ⟨⟨fun _ => trivial, fun _ => ⟨fun _ => trivial, fun _ => by omega⟩⟩, trivial⟩
set_option maxHeartbeats 8000000 in
theorem K_weather {D : HP} {S : SC} (h : TC D 9 S) (a b c : Int) : CT mX5_weather [vR 0, vI a, vI b, vI c] D (fun v E => v = some (vI (vWeather S a b c)) ∧ FR D E) := by
  have hok := h.1
  have bad : ¬ ((1 ≤ b ∧ b ≤ 12) ∧ 0 ≤ c ∧ c ≤ 1) → some (vI (-2)) = some (vI (vWeather S a b c)) ∧ FR D D := fun q => ⟨by unfold vWeather; rw [if_neg q], FR.rf D⟩
  refine V_X5_weather a b c
    (fun x1 x2 x3 x4 x5 E => x2 = b ∧ x3 = c ∧ ((1 ≤ b ∧ b ≤ 12) ∧ 0 ≤ c ∧ c ≤ 1) ∧ FR D E ∧ SV E 25 S ∧ (∃ j : Nat, x5 = j ∧ (j : Int) ≤ b ∧ x4 = lot a j ∧ (∀ i : Nat, i < j → E 30 i = b_iushr (lcg (lot a i)) 16 % 4 ∧ E 31 i = b_iushr (lot a (i + 1)) 16 % 10)) ∧ ((0 < S 0 1 → E 26 0 = S 0 0) ∧ E 26 1 = S 0 1 ∧ E 26 2 = b ∧ E 26 3 = S 0 3) ∧ (∀ j : Nat, (j : Int) < S 0 1 → E 27 j = S 1 j) ∧ (∀ k : Nat, (k : Int) < S 0 3 → E 32 k = S 6 k ∧ E 33 k = S 7 k ∧ E 34 k = S 8 k)) (fun _ _ _ _ x5 _ => (12 - x5).toNat)
    (fun _ _ _ _ => ⟨fun q => bad (by omega), fun q1 => ⟨fun q => bad (by omega), fun q2 => ⟨fun q => bad (by omega), fun q3 => ⟨fun q4 => ⟨_, C_tellAs hok h.2.2.1 h.2.2.2.1, ?_⟩, fun q => bad (by omega)⟩⟩⟩⟩) ?_
  · rintro E8 ⟨-, hM, hV, hF⟩ _ E12 e12
    refine ⟨rfl, rfl, ⟨⟨by omega, by omega⟩, by omega, by omega⟩, fun x i q => by rw [e12, hu_k _ _ (by omega), hF x i (by omega)], SV_of hV (fun x i q => by rw [e12, hu_k _ _ (by omega)]), ⟨0, rfl, by omega, rfl, fun i hi => absurd hi (Nat.not_lt_zero _)⟩, ⟨fun q => ?_, ?_, ?_, ?_⟩, fun j hj => ?_, fun k hk => ?_⟩
    · rw [e12, hu_i _ _ (by decide)]; exact hM.1.1 q
    · rw [e12, hu_i _ _ (by decide)]; exact hM.1.2.1
    · rw [e12, hu_s]
    · rw [e12, hu_i _ _ (by decide)]; exact hM.1.2.2.2
    · rw [e12, hu_k _ _ (by decide)]; exact hM.2.1 j hj
    · rw [e12, hu_k _ _ (by decide), hu_k _ _ (by decide), hu_k _ _ (by decide)]; exact hM.2.2.2 k hk
  · rintro x1 x2 x3 x4 x5 E ⟨rfl, rfl, hbc, hF, hV, ⟨j, rfl, hj, rfl, h6⟩, h0, h27, h32⟩ _ _ _ _ _ _
    refine ⟨fun q => ?_, fun q => ⟨(iushr16 _).1, by omega, fun E27 e27 => ⟨(iushr16 _).1, by omega, fun E29 e29 => ?_⟩⟩⟩
    · have ej : x2 = j := by omega
      subst ej
      have hok2 := OKS_w hok a (n := j) (by omega)
      have hMw : CS E 25 (wS S a j) := by
        refine ⟨⟨fun q => ?_, ?_, ?_, ?_⟩, fun i hi => ?_, fun i hi => ?_, fun i hi => ?_⟩
        · rw [wS_r S a j (by decide) (by decide) (by decide)] at q ⊢; exact h0.1 q
        · rw [wS_r S a j (by decide) (by decide) (by decide)]; exact h0.2.1
        · exact h0.2.2.1
        · rw [wS_r S a j (by decide) (by decide) (by decide)]; exact h0.2.2.2
        · rw [wS_r S a j (by decide) (by decide) (by decide)] at hi
          rw [wS_r S a j (by decide) (by decide) (Or.inl (by decide))]; exact h27 i hi
        · have hi : (i : Int) < j := hi
          have e4 : wS S a j 4 i = b_iushr (lcg (lot a i)) 16 % 4 := by unfold wS; rw [if_neg (by omega), if_pos ⟨rfl, by omega⟩]
          have e5 : wS S a j 5 i = b_iushr (lot a (i + 1)) 16 % 10 := by unfold wS; rw [if_neg (by omega), if_neg (by omega), if_pos ⟨rfl, by omega⟩]
          rw [e4, e5]; exact h6 i (by omega)
        · rw [wS_r S a j (by decide) (by decide) (by decide)] at hi
          rw [wS_r S a j (by decide) (by decide) (Or.inl (by decide)), wS_r S a j (by decide) (by decide) (Or.inl (by decide)), wS_r S a j (by decide) (by decide) (Or.inl (by decide))]; exact h32 i hi
      refine ⟨_, C_run (Or.inr rfl) hok2 hMw (SV_w hV a j), ?_⟩
      rintro E18 ⟨-, hD, hFC⟩ _
      have hT : TC E18 25 (wS S a j) := ⟨hok2, DV_w h.2.1 a j, hFC.CS hMw, hFC.SV (SV_w hV a j), hD⟩
      rw [k_last hT, k_nt hT]
      refine ⟨⟨fun _ => oT_X0_whoIsInLast_c hT, fun _ => oT_many hT⟩, ?_, hF.tr hFC.R⟩
      unfold vWeather vWeatherOf
      rw [if_pos hbc, show ((j : Int)).toNat = j by omega]
    · rw [show ((j : Int)).toNat = j by omega] at e27 e29
      have k : ∀ a i, a ≠ 30 → a ≠ 31 → E29 a i = E a i := fun a i q1 q2 => by rw [e29, hu_k _ _ q2, e27, hu_k _ _ q1]
      refine ⟨by unfold c32; omega, ⟨rfl, rfl, hbc, hF.tr (fun x i q => k x i (by omega) (by omega)), SV_of hV (fun x i q => k x i (by omega) (by omega)), ⟨j + 1, by omega, by omega, rfl, fun i hi => ?_⟩, ⟨fun q => ?_, ?_, ?_, ?_⟩, fun i hi => ?_, fun i hi => ?_⟩, by omega⟩
      · by_cases q : i = j
        · rw [q]
          refine ⟨?_, ?_⟩
          · rw [e29, hu_k _ _ (by decide), e27, hu_s]; rfl
          · rw [e29, hu_s]; rfl
        · refine ⟨?_, ?_⟩
          · rw [e29, hu_k _ _ (by decide), e27, hu_i _ _ q]; exact (h6 i (by omega)).1
          · rw [e29, hu_i _ _ q, e27, hu_k _ _ (by decide)]; exact (h6 i (by omega)).2
      · rw [k _ _ (by decide) (by decide)]; exact h0.1 q
      · rw [k _ _ (by decide) (by decide)]; exact h0.2.1
      · rw [k _ _ (by decide) (by decide)]; exact h0.2.2.1
      · rw [k _ _ (by decide) (by decide)]; exact h0.2.2.2
      · rw [k _ _ (by decide) (by decide)]; exact h27 i hi
      · rw [k _ _ (by decide) (by decide), k _ _ (by decide) (by decide), k _ _ (by decide) (by decide)]; exact h32 i hi
/-- COUNT, by the class's cells -/
def vCountC (D : HP) (S : SC) (a : Int) : Int := if a = 0 then S 0 1 else if a = 1 then S 0 2 else if a = 2 then S 0 3 else if a = 3 then D 2 2 else if a = 4 then D 3 2 else if a = 5 then D 4 2 else if a = 6 then ntS S else if a = 7 then D 41 0 else if a = 8 then D 0 6 else -2
theorem k_count {D : HP} {S : SC} (h : TC D 9 S) (a : Int) : fX5_count D a = vCountC D S a := by
  have e1 : D 10 1 = S 0 1 := h.2.2.1.1.2.1
  have e2 : D 10 2 = S 0 2 := h.2.2.1.1.2.2.1
  have e3 : D 10 3 = S 0 3 := h.2.2.1.1.2.2.2
  unfold fX5_count vCountC fX2_length
  rw [e1, e2, e3, k_nt h]
theorem ko_count {D : HP} {S : SC} (h : TC D 9 S) (a : Int) : oX5_count D a :=
  ⟨fun _ => trivial, fun _ => trivial, fun _ => trivial, fun _ => trivial, fun _ => trivial, fun _ => trivial, fun _ => ⟨oT_many h, trivial⟩, fun _ => trivial, fun _ => trivial⟩
theorem K_count {D : HP} {S : SC} (h : TC D 9 S) (a : Int) : CT mX5_count [vR 0, vI a] D (PF (vI (vCountC D S a)) D) := by
  rw [← k_count h]
  exact P_X5_count (ko_count h a)
