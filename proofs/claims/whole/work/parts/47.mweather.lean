theorem iushr16 (x : Int) : 0 ≤ b_iushr x 16 ∧ b_iushr x 16 < 65536 := by
  unfold b_iushr
  have h := pk_ushr (Int32.ofInt x) (Int32.ofInt 16) 16 (by decide +kernel)
  generalize ((Int32.ofInt x).toUInt32 >>> ((Int32.ofInt 16).toUInt32 &&& Int32.toUInt32 31)).toInt32 = y at *
  have h2 : (Int32.ofInt x).toBitVec.toNat < 4294967296 := (Int32.ofInt x).toBitVec.isLt
  have h3 : y.toBitVec.toNat < 65536 := by rw [h]; omega
  have h4 : y.toInt = (y.toBitVec.toNat : Int) := by
    show y.toBitVec.toInt = _
    exact BitVec.toInt_eq_toNat_of_lt (by omega)
  omega
def lcg (x : Int) : Int := w32 (w32 (1103515245 * x) + 12345)
/-- the seed ahead of minute m -/
def lot (seed : Int) : Nat → Int
  | 0 => seed
  | m + 1 => lcg (lcg (lot seed m))
def wS (S : SC) (seed : Int) (n : Nat) : SC := fun a i =>
  if a = 0 ∧ i = 2 then (n : Int) else if a = 4 ∧ i < n then b_iushr (lcg (lot seed i)) 16 % 4 else if a = 5 ∧ i < n then b_iushr (lot seed (i + 1)) 16 % 10 else S a i
theorem OKS_w {S : SC} (h : OKS S) (seed : Int) {n : Nat} (hn : n ≤ 12) : OKS (wS S seed n) := by
  have r : ∀ a i, a ≠ 4 → a ≠ 5 → (a ≠ 0 ∨ i ≠ 2) → wS S seed n a i = S a i := fun a i h1 h2 h3 => by
    unfold wS
    rw [if_neg (by omega), if_neg (fun q => h1 q.1), if_neg (fun q => h2 q.1)]
  have r2 : wS S seed n 0 2 = n := rfl
  unfold OKS
  rw [r2, r 0 0 (by decide) (by decide) (by decide), r 0 1 (by decide) (by decide) (by decide), r 0 3 (by decide) (by decide) (by decide)]
  refine ⟨h.1, h.2.1, by omega, h.2.2.2.1, fun j hj => ?_, fun j hj => ?_, fun j hj => ?_⟩
  · rw [r 1 j (by decide) (by decide) (Or.inl (by decide))]; exact h.2.2.2.2.1 j hj
  · have e4 : wS S seed n 4 j = b_iushr (lcg (lot seed j)) 16 % 4 := by unfold wS; rw [if_neg (by omega), if_pos ⟨rfl, by omega⟩]
    have e5 : wS S seed n 5 j = b_iushr (lot seed (j + 1)) 16 % 10 := by unfold wS; rw [if_neg (by omega), if_neg (by omega), if_pos ⟨rfl, by omega⟩]
    rw [e4, e5]
    omega
  · rw [r 6 j (by decide) (by decide) (Or.inl (by decide)), r 7 j (by decide) (by decide) (Or.inl (by decide)), r 8 j (by decide) (by decide) (Or.inl (by decide))]; exact h.2.2.2.2.2.2 j hj
def vWeatherOf (S : SC) (seed : Int) (n : Nat) (b : Int) : Int := if b = 0 then lin (wS S seed n) else ntS (wS S seed n)
def vWeather (S : SC) (seed n b : Int) : Int := if (1 ≤ n ∧ n ≤ 12) ∧ 0 ≤ b ∧ b ≤ 1 then vWeatherOf S seed n.toNat b else -2
set_option maxHeartbeats 4000000 in
theorem C_weatherOf {D : HP} (hT : TXM D) (seed : Int) {n : Nat} (hn : 1 ≤ n ∧ n ≤ 12) (b : Int) : CT mX6_weatherOf [vR 56, vI seed, vI n, vI b] D (fun v E => v = some (vI (vWeatherOf (tS D) seed n b)) ∧ FRw D E) := by
  have hok := tS_ok hT
  generalize hS : tS D = S at *
  refine V_X6_weatherOf seed n b (I15 := fun x1 x2 x3 x4 x5 E => x2 = n ∧ x3 = b ∧ FRw D E ∧ (∃ j : Nat, x5 = j ∧ j ≤ n ∧ x4 = lot seed j ∧ (∀ i : Nat, i < j → E 60 i = b_iushr (lcg (lot seed i)) 16 % 4 ∧ E 61 i = b_iushr (lot seed (i + 1)) 16 % 10)) ∧ (E 56 2 = S 0 0 ∧ E 56 3 = S 0 1 ∧ E 56 5 = n ∧ E 56 8 = S 0 3) ∧ (∀ j : Nat, (j : Int) < S 0 1 → E 59 j = S 1 j) ∧ (∀ k : Nat, (k : Int) < S 0 3 → E 62 k = S 6 k ∧ E 63 k = S 7 k ∧ E 64 k = S 8 k)) (u15 := fun _ _ _ _ x5 _ => (12 - x5).toNat) (fun _ _ _ _ => ⟨_, C_reads hT, ?_⟩) ?_
  · rintro E ⟨-, hM, hF⟩ _
    rw [hS] at hM
    rintro F rfl
    refine ⟨rfl, rfl, hF.w.tr (fun a i h1 h2 => by
      rcases h2 with h2 | h2
      · exact hu_k _ _ h2
      · exact hu_i _ _ h2.2.2.1), ⟨0, rfl, Nat.zero_le _, rfl, fun i hi => absurd hi (Nat.not_lt_zero _)⟩, ⟨?_, ?_, hu_s _ _ _ _, ?_⟩, fun j hj => ?_, fun k hk => ?_⟩
    · rw [hu_i _ _ (by decide)]; exact hM.1.1
    · rw [hu_i _ _ (by decide)]; exact hM.1.2.1
    · rw [hu_i _ _ (by decide)]; exact hM.1.2.2.2
    · rw [hu_k _ _ (by decide)]; exact hM.2.1 j hj
    · rw [hu_k _ _ (by decide), hu_k _ _ (by decide), hu_k _ _ (by decide)]; exact hM.2.2.2 k hk
  rintro x1 x2 x3 x4 x5 E ⟨rfl, rfl, hF, ⟨j, rfl, hj, rfl, h6⟩, h0, h59, h62⟩ hcD _ _ _ _ _
  refine ⟨fun hc => ?_, fun hc => ⟨(iushr16 _).1, by omega, ?_⟩⟩
  · have e : j = n := by omega
    subst e
    have hok2 := OKS_w hok seed (n := j) (by omega)
    have r : ∀ a i, a ≠ 4 → a ≠ 5 → (a ≠ 0 ∨ i ≠ 2) → wS S seed j a i = S a i := fun a i h1 h2 h3 => by
      unfold wS
      rw [if_neg (by omega), if_neg (fun q => h1 q.1), if_neg (fun q => h2 q.1)]
    have hMw : MS E (wS S seed j) := by
      refine ⟨⟨h0.1.trans (r 0 0 (by decide) (by decide) (by decide)).symm, h0.2.1.trans (r 0 1 (by decide) (by decide) (by decide)).symm, h0.2.2.1, h0.2.2.2.trans (r 0 3 (by decide) (by decide) (by decide)).symm⟩, fun i hi => ?_, fun i hi => ?_, fun i hi => ?_⟩
      · rw [r 0 1 (by decide) (by decide) (by decide)] at hi
        rw [r 1 i (by decide) (by decide) (Or.inl (by decide))]; exact h59 i hi
      · have hi : (i : Int) < j := hi
        have e4 : wS S seed j 4 i = b_iushr (lcg (lot seed i)) 16 % 4 := by unfold wS; rw [if_neg (by omega), if_pos ⟨rfl, by omega⟩]
        have e5 : wS S seed j 5 i = b_iushr (lot seed (i + 1)) 16 % 10 := by unfold wS; rw [if_neg (by omega), if_neg (by omega), if_pos ⟨rfl, by omega⟩]
        rw [e4, e5]; exact h6 i (by omega)
      · rw [r 0 3 (by decide) (by decide) (by decide)] at hi
        rw [r 6 i (by decide) (by decide) (Or.inl (by decide)), r 7 i (by decide) (by decide) (Or.inl (by decide)), r 8 i (by decide) (by decide) (Or.inl (by decide))]; exact h62 i hi
    refine ⟨_, C_runs' hok2 hMw, ?_⟩
    rintro G ⟨-, hR, hMG, hGw, -⟩ _
    rw [linM hMG hR hok2, ntM hMG hR]
    exact ⟨⟨fun _ => linMo hMG hok2, fun _ => ntMo hMG hok2⟩, rfl, hF.tr hGw⟩
  · rintro F hF1
    rintro v hv
    have hv' : v = lot seed (j + 1) := hv
    refine ⟨(iushr16 _).1, by omega, ?_⟩
    rintro G hG1
    rw [Int.toNat_natCast] at hF1 hG1
    have k : ∀ a i, a ≠ 60 → a ≠ 61 → G a i = E a i := fun a i q1 q2 => by rw [hG1, hF1, hu_k _ _ q2, hu_k _ _ q1]
    refine ⟨by unfold c32; omega, ⟨rfl, rfl, hF.tr (fun a i q1 q2 => k a i (by omega) (by omega)), ⟨j + 1, by omega, by omega, hv', fun i hi => ?_⟩, ⟨?_, ?_, ?_, ?_⟩, fun i hi => ?_, fun i hi => ?_⟩, by omega⟩
    · by_cases q : i = j
      · rw [q]
        refine ⟨?_, ?_⟩
        · rw [hG1, hu_k _ _ (by decide), hF1, hu_s]; rfl
        · rw [hG1, hu_s, hv']
      · refine ⟨?_, ?_⟩
        · rw [hG1, hu_k _ _ (by decide), hF1, hu_i _ _ q]; exact (h6 i (by omega)).1
        · rw [hG1, hu_i _ _ q, hF1, hu_k _ _ (by decide)]; exact (h6 i (by omega)).2
    · rw [k _ _ (by decide) (by decide)]; exact h0.1
    · rw [k _ _ (by decide) (by decide)]; exact h0.2.1
    · rw [k _ _ (by decide) (by decide)]; exact h0.2.2.1
    · rw [k _ _ (by decide) (by decide)]; exact h0.2.2.2
    · rw [k _ _ (by decide) (by decide)]; exact h59 i hi
    · rw [k _ _ (by decide) (by decide), k _ _ (by decide) (by decide), k _ _ (by decide) (by decide)]; exact h62 i hi
theorem M_weather {D : HP} (hT : TXM D) (seed n b : Int) : CT mX6_weather [vR 56, vI seed, vI n, vI b] D (fun v E => v = some (vI (vWeather (tS D) seed n b)) ∧ FRw D E) := by
  refine V_X6_weather seed n b (fun _ _ _ _ => ⟨fun h => ?_, fun h => ⟨fun h2 => ?_, fun h2 => ?_⟩⟩)
  · rw [wi1] at h
    exact ⟨by unfold vWeather; rw [if_neg (fun q => h q.1)], FRw.rf D⟩
  · rw [wi1] at h2
    exact ⟨by unfold vWeather; rw [if_neg (fun q => h2 q.2)], FRw.rf D⟩
  · rw [wi1] at h h2
    have h := Decidable.of_not_not h
    have h2 := Decidable.of_not_not h2
    have e := C_weatherOf hT seed (n := n.toNat) (by omega) b
    rw [show ((n.toNat : Nat) : Int) = n by omega] at e
    refine ⟨_, e, ?_⟩
    rintro r E ⟨hr, hF⟩ _ _
    unfold vWeather
    rw [if_pos ⟨h, h2⟩]
    exact ⟨hr, hF⟩
/-- READ: the sightings that the first k pairs of a sheet add -/
def rdM (D : HP) (s : Nat) : Nat → Option HP
  | 0 => some D
  | k + 1 => match rdM D s k with
    | none => none
    | some E => if 2 * (k : Int) + 1 < D 77 s ∧ ((0 ≤ D 78 (60 * s + 2 * k) ∧ D 78 (60 * s + 2 * k) ≤ 11) ∧ 0 ≤ D 78 (60 * s + 2 * k + 1) ∧ D 78 (60 * s + 2 * k + 1) ≤ 8) ∧ E 56 17 ≠ 8 then some (hu (hu (hu E 70 (E 56 17).toNat (D 78 (60 * s + 2 * k))) 71 (E 56 17).toNat (D 78 (60 * s + 2 * k + 1))) 56 17 (E 56 17 + 1)) else none
set_option maxHeartbeats 4000000 in
theorem M_read {D : HP} (hS : SHM D) (hG : SGM D) (a : Int) : CT mX6_read [vR 56, vI a] D (fun v E => if 0 ≤ a ∧ a ≤ 3 then (if D 75 a.toNat = 0 then v = some (vI (-11)) ∧ E = fnd D 1 else ∃ k : Nat, v = some (vI k) ∧ rdM D a.toNat k = some E ∧ rdM D a.toNat (k + 1) = none) else v = some (vI (-2)) ∧ E = D) := by
  refine V_X6_read a (I27 := fun x1 x2 E => x1 = a ∧ (0 ≤ a ∧ a ≤ 3) ∧ D 75 a.toNat ≠ 0 ∧ SGM E ∧ (∀ x y, x ≠ 70 → x ≠ 71 → (x ≠ 56 ∨ y ≠ 17) → E x y = D x y) ∧ ∃ k : Nat, x2 = k ∧ rdM D a.toNat k = some E ∧ k ≤ 30) (u27 := fun _ x2 _ => (31 - x2).toNat) (fun _ _ => ⟨fun h => ?_, fun h => ⟨?_, fun h0 => ⟨_, C_meets D (a := 1) (by decide), ?_⟩, fun h0 => ?_⟩⟩) ?_
  · unfold fX6_isSheet at h
    rw [wi1] at h
    rw [if_neg h]; exact ⟨rfl, rfl⟩
  · unfold fX6_isSheet at h
    rw [wi1] at h
    omega
  · unfold fX6_isSheet at h
    rw [wi1] at h
    have h := Decidable.of_not_not h
    rintro r E ⟨hr, hE⟩ _ _
    rw [if_pos h, if_pos h0]
    exact ⟨hr, hE⟩
  · unfold fX6_isSheet at h
    rw [wi1] at h
    have h := Decidable.of_not_not h
    exact ⟨rfl, h, h0, hG, fun _ _ _ _ _ => rfl, 0, rfl, rfl, by decide⟩
  · rintro x1 x2 E ⟨rfl, ha, h75, hGE, hE, k, rfl, hk, hk30⟩ hcD _ _
    have hsz := (hS x1.toNat (by omega)).2.2
    have e77 : E 77 x1.toNat = D 77 x1.toNat := hE 77 _ (by decide) (by decide) (Or.inl (by decide))
    have none' : ¬ (2 * (k : Int) + 1 < D 77 x1.toNat ∧ ((0 ≤ D 78 (60 * x1.toNat + 2 * k) ∧ D 78 (60 * x1.toNat + 2 * k) ≤ 11) ∧ 0 ≤ D 78 (60 * x1.toNat + 2 * k + 1) ∧ D 78 (60 * x1.toNat + 2 * k + 1) ≤ 8) ∧ E 56 17 ≠ 8) → rdM D x1.toNat (k + 1) = none := fun q => by
      rw [rdM, hk]
      exact if_neg q
    rw [e77]
    refine ⟨by unfold c32; omega, by unfold c32; omega, by omega, fun hc => ?_, fun hc => ⟨by unfold c32; omega, by unfold c32; omega, by unfold c32; omega, by omega, by unfold c32; omega, by unfold c32; omega, by unfold c32; omega, by unfold c32; omega, by omega, _, M_seen hGE _ _, ?_⟩⟩
    · rw [if_pos ha, if_neg h75]
      exact ⟨k, rfl, hk, none' (by omega)⟩
    · have e1 : (60 * x1 + 2 * (k : Int)).toNat = 60 * x1.toNat + 2 * k := by omega
      have e2 : (60 * x1 + 2 * (k : Int) + 1).toNat = 60 * x1.toNat + 2 * k + 1 := by omega
      rw [e1, e2, hE 78 _ (by decide) (by decide) (Or.inl (by decide)), hE 78 _ (by decide) (by decide) (Or.inl (by decide))]
      rintro r F hQ _ _
      rw [if_pos ha, if_neg h75]
      have hg := hGE.1
      by_cases q : (0 ≤ D 78 (60 * x1.toNat + 2 * k) ∧ D 78 (60 * x1.toNat + 2 * k) ≤ 11) ∧ 0 ≤ D 78 (60 * x1.toNat + 2 * k + 1) ∧ D 78 (60 * x1.toNat + 2 * k + 1) ≤ 8
      · rw [if_pos q] at hQ
        by_cases q8 : E 56 17 = 8
        · rw [if_pos q8] at hQ
          have hr := vIj hQ.1
          refine ⟨fun _ => ⟨k, rfl, by rw [hQ.2]; exact hk, none' (fun z => z.2.2 q8)⟩, fun z => by omega⟩
        · rw [if_neg q8] at hQ
          have hr := vIj hQ.1
          refine ⟨fun z => by omega, fun _ => ⟨by unfold c32; omega, ⟨rfl, ha, h75, ?_, fun x y h1 h2 h3 => ?_, k + 1, by omega, ?_, by omega⟩, by omega⟩⟩
          · rw [hQ.2]
            unfold SGM
            rw [hu_s]
            refine ⟨by omega, fun i hi => ?_⟩
            rw [hu_k _ _ (show (70 : Nat) ≠ 56 by decide), hu_k _ _ (show (71 : Nat) ≠ 56 by decide), hu_k _ _ (show (70 : Nat) ≠ 71 by decide)]
            by_cases e : i = (E 56 17).toNat
            · rw [e, hu_s, hu_s]; exact q
            · rw [hu_i _ _ e, hu_i _ _ e, hu_k _ _ (show (71 : Nat) ≠ 70 by decide)]
              exact hGE.2 i (by omega)
          · rw [hQ.2]
            rcases h3 with h3 | h3
            · rw [hu_k _ _ h3, hu_k _ _ h2, hu_k _ _ h1]; exact hE x y h1 h2 (Or.inl h3)
            · rw [hu_i _ _ h3, hu_k _ _ h2, hu_k _ _ h1]; exact hE x y h1 h2 (Or.inr h3)
          · rw [rdM, hk]
            show (if _ then _ else _) = _
            rw [if_pos ⟨by omega, q, q8⟩, hQ.2]
      · rw [if_neg q] at hQ
        have hr := vIj hQ.1
        exact ⟨fun _ => ⟨k, rfl, by rw [hQ.2]; exact hk, none' (fun z => q z.2.1)⟩, fun z => by omega⟩
