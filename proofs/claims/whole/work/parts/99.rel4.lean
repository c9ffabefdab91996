/-! ===== sheets and sightings change in both ===== -/
theorem RL_sh {D F : HP} (h : RLB D) (c : ∀ a i, (a < 45 ∨ (52 < a ∧ a < 56) ∨ a = 57 ∨ a = 58 ∨ a = 70 ∨ a = 71) → (a ≠ 0 ∨ i ≠ 6) → F a i = D a i) (c17 : F 56 17 = D 56 17) (g1 : SHM F) (g2 : ∀ s : Nat, s < 4 → SHR F s) (g3 : F 0 6 = F 56 28) : RLB F := by
  obtain ⟨⟨hT, hG, hS⟩, ht, ⟨hC, hf⟩, hs, hh, hn, hQ, hW⟩ := h
  have hSF : tS F = tS D := tS_eq fun a i z => c a i (by omega) (by omega)
  have eg : gC F = gC D := gC_of fun a i p1 p2 => c a i (by omega) (by omega)
  refine ⟨⟨TXM_of hT (fun a i z => c a i (by omega) (by omega)), ⟨?_, fun i hi => ?_⟩, g1⟩, ⟨?_, fun t ht3 => ?_⟩, ⟨?_, fun t ht3 => ?_⟩, ⟨?_, fun i hi => ?_⟩, g2, g3, ?_, ?_⟩
  · rw [c17]; exact hG.1
  · rw [c17] at hi
    rw [c 70 i (by omega) (by omega), c 71 i (by omega) (by omega)]; exact hG.2 i hi
  · rw [c 2 1 (by omega) (by omega), c 3 1 (by omega) (by omega), c 4 1 (by omega) (by omega)]; exact ht.1
  · have g := ht.2 t ht3
    rw [c (2 + t) 2 (by omega) (by omega), c 57 t (by omega) (by omega)]
    refine ⟨g.1, fun i hi => ?_⟩
    rw [c (5 + t) i (by omega) (by omega), c 58 _ (by omega) (by omega)]
    exact g.2 i hi
  · rw [hSF]
    exact TC_fr hC fun a i p1 p2 => c a i (by omega) (by omega)
  · rw [c 8 t (by omega) (by omega), tF_eq (fun a i z => c a i (by omega) (by omega))]; exact hf t ht3
  · rw [c 41 0 (by omega) (by omega), c17]; exact hs.1
  · rw [c17] at hi
    rw [c 42 i (by omega) (by omega), c 43 i (by omega) (by omega), c 70 i (by omega) (by omega), c 71 i (by omega) (by omega)]; exact hs.2 i hi
  · rw [hSF]
    exact IQ_of hQ (c 0 7 (by omega) (by omega)) (c 0 8 (by omega) (by omega)) (fun i => c 53 i (by omega) (by omega)) eg
  · rw [hSF]
    exact WC_of hW (c 0 10 (by omega) (by omega)) (fun i => c 54 i (by omega) (by omega))
theorem RL_si {D F : HP} (h : RLB D) (c : ∀ a i, (a < 41 ∨ (43 < a ∧ a < 70) ∨ (71 < a ∧ a < 79)) → (a ≠ 0 ∨ i ≠ 7) → (a ≠ 56 ∨ i ≠ 17) → F a i = D a i) (g1 : SGM F) (g2 : RLs F) (g3 : IQ F (tS D)) : RLB F := by
  obtain ⟨⟨hT, hG, hS⟩, ht, ⟨hC, hf⟩, hs, hh, hn, hQ, hW⟩ := h
  have hSF : tS F = tS D := tS_eq fun a i z => c a i (by omega) (by omega) (by omega)
  refine ⟨⟨TXM_of hT (fun a i z => c a i (by omega) (by omega) (by omega)), g1, SHM_of hS (fun x i q => c x i (by omega) (by omega) (by omega))⟩, ⟨?_, fun t ht3 => ?_⟩, ⟨?_, fun t ht3 => ?_⟩, g2, fun s hs4 => SHR_of hs4 (hh s hs4) (fun i => ⟨c _ _ (by omega) (by omega) (by omega), c _ _ (by omega) (by omega) (by omega), c _ _ (by omega) (by omega) (by omega), c _ _ (by omega) (by omega) (by omega)⟩) (fun x i p1 p2 => c x i (by omega) (by omega) (by omega)), ?_, ?_, ?_⟩
  · rw [c 2 1 (by omega) (by omega) (by omega), c 3 1 (by omega) (by omega) (by omega), c 4 1 (by omega) (by omega) (by omega)]; exact ht.1
  · have g := ht.2 t ht3
    rw [c (2 + t) 2 (by omega) (by omega) (by omega), c 57 t (by omega) (by omega) (by omega)]
    refine ⟨g.1, fun i hi => ?_⟩
    rw [c (5 + t) i (by omega) (by omega) (by omega), c 58 _ (by omega) (by omega) (by omega)]
    exact g.2 i hi
  · rw [hSF]
    exact TC_fr hC fun a i p1 p2 => c a i (by omega) (by omega) (by omega)
  · rw [c 8 t (by omega) (by omega) (by omega), tF_eq (fun a i z => c a i (by omega) (by omega) (by omega))]; exact hf t ht3
  · rw [c 0 6 (by omega) (by omega) (by omega), c 56 28 (by omega) (by omega) (by omega)]; exact hn
  · rw [hSF]; exact g3
  · rw [hSF]
    exact WC_of hW (c 0 10 (by omega) (by omega) (by omega)) (fun i => c 54 i (by omega) (by omega) (by omega))
/-- a finding in both -/
theorem RL_fnd {D E0 : HP} (h : RLB D) (n : Int) {E : HP} (hE : E = hu D 0 6 n) (hF : FRw E E0) : RLB (hu E0 56 28 n) := by
  have k : ∀ a i, (a < 56 ∨ a = 57 ∨ a = 58 ∨ (69 < a ∧ a < 72) ∨ (74 < a ∧ a < 79)) → (a ≠ 0 ∨ i ≠ 6) → hu E0 56 28 n a i = D a i := fun a i p1 p2 => by
    rw [hu_k _ _ (by omega), hF a i (by omega) (by omega), hE]
    rcases p2 with p2 | p2
    · rw [hu_k _ _ p2]
    · rw [hu_i _ _ p2]
  refine RL_sh h (fun a i p1 p2 => k a i (by omega) p2) ?_ (SHM_of h.1.2.2 (fun x i q => k x i (by omega) (by omega))) (fun s hs => SHR_of hs (h.2.2.2.2.1 s hs) (fun i => ⟨k _ _ (by omega) (by omega), k _ _ (by omega) (by omega), k _ _ (by omega) (by omega), k _ _ (by omega) (by omega)⟩) (fun x i p1 p2 => k x i (by omega) (by omega))) ?_
  · rw [hu_i _ _ (by decide), hF 56 17 (by decide) (by decide), hE, hu_k _ _ (by decide)]
  · rw [hu_s, hu_k _ _ (by decide), hF 0 6 (by decide) (by decide), hE, hu_s]
theorem lck_eq {D : HP} (h : RLB D) {s : Nat} (hs : s < 4) (f i : Int) : lckC D s f i = lckM D s f i := by
  have hM := h.1.2.2 s hs
  unfold lckC lckM
  rcases h.2.2.2.2.1 s hs with g | g
  · rw [if_pos g.2.1, if_pos g.1]
  · rw [if_neg (show ¬ D (45 + s) 0 = -1 by omega), if_neg (show ¬ D 75 s = 0 by omega), g.2.1, g.2.2.1]
theorem lost_eq {D : HP} (h : RLB D) {s : Nat} (hs : s < 4) : D (45 + s) 0 = -1 ↔ D 75 s = 0 := by
  have hM := h.1.2.2 s hs
  rcases h.2.2.2.2.1 s hs with g | g <;> omega
/-- the model's cells are as they were -/
theorem SHM_c {D E : HP} (h : SHM D) (e : ∀ x i, 55 < x → E x i = D x i) : SHM E := SHM_of h fun x i q => e x i (by omega)
theorem st_seen {D : HP} (h : RLB D) (a b : Int) : ST mX5_seen mX6_seen [vI a, vI b] D := by
  have hg := h.1.2.1.1
  have hs := h.2.2.2.1
  refine ⟨_, K_seen (by rw [hs.1]; exact hg) a b, fun v E hE => ?_⟩
  by_cases q : (0 ≤ a ∧ a ≤ 11) ∧ 0 ≤ b ∧ b ≤ 8
  · rw [if_pos q] at hE
    by_cases q8 : D 41 0 = 8
    · rw [if_pos q8] at hE
      obtain ⟨e1, e2⟩ := hE
      subst e2
      refine ⟨_, M_seen h.1.2.1 a b, fun v' F hF => ?_⟩
      rw [if_pos q, if_pos (by rw [← hs.1]; exact q8)] at hF
      exact ⟨hF.1.trans e1.symm, by rw [hF.2]; exact h⟩
    · rw [if_neg q8] at hE
      obtain ⟨e1, e2⟩ := hE
      have k : ∀ x i, x ≠ 41 → x ≠ 42 → x ≠ 43 → (x ≠ 0 ∨ i ≠ 7) → E x i = D x i := fun x i p1 p2 p3 p4 => by
        rw [e2]
        unfold seenC
        rcases p4 with p4 | p4
        · rw [hu_k _ _ p4, hu_k _ _ p1, hu_k _ _ p3, hu_k _ _ p2]
        · rw [hu_i _ _ p4, hu_k _ _ p1, hu_k _ _ p3, hu_k _ _ p2]
      have hGE : SGM E := by
        unfold SGM
        rw [k 56 17 (by decide) (by decide) (by decide) (by decide)]
        refine ⟨hg, fun i hi => ?_⟩
        rw [k 70 i (by decide) (by decide) (by decide) (by omega), k 71 i (by decide) (by decide) (by decide) (by omega)]
        exact h.1.2.1.2 i hi
      refine ⟨_, M_seen hGE a b, fun v' F hF => ?_⟩
      rw [if_pos q, k 56 17 (by decide) (by decide) (by decide) (by decide), if_neg (by rw [← hs.1]; exact q8)] at hF
      have n41 : D 41 0 = D 56 17 := hs.1
      refine ⟨by rw [hF.1, e1, n41], RL_si h (fun x i p1 p2 p3 => ?_) ?_ ?_ (Or.inl ?_)⟩
      · rw [hF.2]
        rcases p3 with p3 | p3
        · rw [hu_k _ _ p3, hu_k _ _ (by omega), hu_k _ _ (by omega)]; exact k x i (by omega) (by omega) (by omega) p2
        · rw [hu_i _ _ p3, hu_k _ _ (by omega), hu_k _ _ (by omega)]; exact k x i (by omega) (by omega) (by omega) p2
      · rw [hF.2]
        unfold SGM
        rw [hu_s]
        refine ⟨by omega, fun i hi => ?_⟩
        rw [hu_k _ _ (show (70 : Nat) ≠ 56 by decide), hu_k _ _ (show (71 : Nat) ≠ 56 by decide), hu_k _ _ (show (70 : Nat) ≠ 71 by decide)]
        by_cases e : i = (D 56 17).toNat
        · rw [e, hu_s, hu_s]; exact q
        · rw [hu_i _ _ e, hu_i _ _ e, hu_k _ _ (show (71 : Nat) ≠ 70 by decide), k 70 i (by decide) (by decide) (by decide) (by omega), k 71 i (by decide) (by decide) (by decide) (by omega)]
          exact h.1.2.1.2 i (by omega)
      · have f41 : F 41 0 = D 56 17 + 1 := by
          rw [hF.2, hu_k _ _ (by decide), hu_k _ _ (by decide), hu_k _ _ (by decide), e2]
          unfold seenC
          rw [hu_k _ _ (by decide), hu_s, n41]
        have f17 : F 56 17 = D 56 17 + 1 := by rw [hF.2, hu_s]
        refine ⟨by rw [f41, f17], fun i hi => ?_⟩
        rw [f17] at hi
        have r42 : F 42 i = if i = (D 56 17).toNat then a else D 42 i := by
          rw [hF.2, hu_k _ _ (by decide), hu_k _ _ (by decide), hu_k _ _ (by decide), e2]
          unfold seenC
          rw [hu_k _ _ (by decide), hu_k _ _ (by decide), hu_k _ _ (by decide), n41]
          by_cases e : i = (D 56 17).toNat
          · rw [e, hu_s, if_pos rfl]
          · rw [hu_i _ _ e, if_neg e]
        have r43 : F 43 i = if i = (D 56 17).toNat then b else D 43 i := by
          rw [hF.2, hu_k _ _ (by decide), hu_k _ _ (by decide), hu_k _ _ (by decide), e2]
          unfold seenC
          rw [hu_k _ _ (by decide), hu_k _ _ (by decide), n41]
          by_cases e : i = (D 56 17).toNat
          · rw [e, hu_s, if_pos rfl]
          · rw [hu_i _ _ e, hu_k _ _ (by decide), if_neg e]
        have r70 : F 70 i = if i = (D 56 17).toNat then a else D 70 i := by
          rw [hF.2, hu_k _ _ (by decide), hu_k _ _ (by decide)]
          by_cases e : i = (D 56 17).toNat
          · rw [e, hu_s, if_pos rfl]
          · rw [hu_i _ _ e, if_neg e, k 70 i (by decide) (by decide) (by decide) (by omega)]
        have r71 : F 71 i = if i = (D 56 17).toNat then b else D 71 i := by
          rw [hF.2, hu_k _ _ (by decide)]
          by_cases e : i = (D 56 17).toNat
          · rw [e, hu_s, if_pos rfl]
          · rw [hu_i _ _ e, hu_k _ _ (by decide), if_neg e, k 71 i (by decide) (by decide) (by decide) (by omega)]
        rw [r42, r43, r70, r71]
        by_cases e : i = (D 56 17).toNat
        · rw [if_pos e, if_pos e, if_pos e, if_pos e]; exact ⟨rfl, rfl⟩
        · rw [if_neg e, if_neg e, if_neg e, if_neg e]; exact hs.2 i (by omega)
      · rw [hF.2, hu_k _ _ (by decide), hu_k _ _ (by decide), hu_k _ _ (by decide), e2]
        unfold seenC
        rw [hu_s]
  · rw [if_neg q] at hE
    obtain ⟨e1, e2⟩ := hE
    subst e2
    refine ⟨_, M_seen h.1.2.1 a b, fun v' F hF => ?_⟩
    rw [if_neg q] at hF
    exact ⟨hF.1.trans e1.symm, by rw [hF.2]; exact h⟩
theorem st_forget {D : HP} (h : RLB D) : ST mX5_forget mX6_forget [] D := by
  have hs := h.2.2.2.1
  refine ⟨_, K_forget D, fun v E ⟨e1, e2⟩ => ⟨_, M_forget E, fun v' F ⟨f1, f2⟩ => ⟨?_, ?_⟩⟩⟩
  · rw [f1, e1, e2, hu_k _ _ (by decide), hu_k _ _ (by decide), hs.1]
  · refine RL_si h (fun x i p1 p2 p3 => ?_) ⟨?_, fun i hi => ?_⟩ ⟨?_, fun i hi => ?_⟩ (Or.inl ?_)
    · rw [f2]
      rcases p3 with p3 | p3
      · rw [hu_k _ _ p3, e2]
        rcases p2 with p2 | p2
        · rw [hu_k _ _ p2, hu_k _ _ (by omega)]
        · rw [hu_i _ _ p2, hu_k _ _ (by omega)]
      · rw [hu_i _ _ p3, e2]
        rcases p2 with p2 | p2
        · rw [hu_k _ _ p2, hu_k _ _ (by omega)]
        · rw [hu_i _ _ p2, hu_k _ _ (by omega)]
    · rw [f2, hu_s]; omega
    · rw [f2, hu_s] at hi; omega
    · rw [f2, hu_s, hu_k _ _ (by decide), e2, hu_k _ _ (by decide), hu_s]
    · rw [f2, hu_s] at hi; omega
    · rw [f2, hu_k _ _ (by decide), e2, hu_s]
set_option maxHeartbeats 4000000 in
theorem st_read {D : HP} (h : RLB D) (a : Int) : ST mX5_read mX6_read [vI a] D := by
  have hg := h.1.2.1.1
  have hs := h.2.2.2.1
  have n41 : D 41 0 = D 56 17 := hs.1
  refine ⟨_, K_read (RL_SHC h) (by rw [n41]; exact hg) a, fun v E hE => ?_⟩
  by_cases q : 0 ≤ a ∧ a ≤ 3
  · rw [if_pos q] at hE
    have ha : a.toNat < 4 := by omega
    by_cases q2 : D (45 + a.toNat) 0 = -1
    · rw [if_pos q2] at hE
      obtain ⟨e1, e2⟩ := hE
      have c : ∀ x i, x ≠ 0 → E x i = D x i := fun x i p => by rw [e2, hu_k _ _ p]
      have hGE : SGM E := by
        unfold SGM
        rw [c 56 17 (by decide)]
        refine ⟨hg, fun i hi => ?_⟩
        rw [c 70 i (by decide), c 71 i (by decide)]; exact h.1.2.1.2 i hi
      refine ⟨_, M_read (SHM_c h.1.2.2 (fun x i p => c x i (by omega))) hGE a, fun v' F hF => ?_⟩
      rw [if_pos q, c 75 _ (by decide), if_pos ((lost_eq h ha).1 q2)] at hF
      refine ⟨hF.1.trans e1.symm, ?_⟩
      rw [hF.2]
      exact RL_fnd h 1 e2 (FRw.rf E)
    · rw [if_neg q2] at hE
      obtain ⟨k, e1, hgd, hng, r1, r2, r3, r4⟩ := hE
      have c : ∀ x i, x ≠ 41 → x ≠ 42 → x ≠ 43 → x ≠ 0 → E x i = D x i := fun x i p1 p2 p3 p4 => r3 x i (Or.inl p1) (Or.inl p2) (Or.inl p3) (Or.inl p4)
      have c' : ∀ x i, 55 < x → E x i = D x i := fun x i p => c x i (by omega) (by omega) (by omega) (by omega)
      have hGE : SGM E := by
        unfold SGM
        rw [c' 56 17 (by decide)]
        refine ⟨hg, fun i hi => ?_⟩
        rw [c' 70 i (by decide), c' 71 i (by decide)]; exact h.1.2.1.2 i hi
      have hnl : ¬ D 75 a.toNat = 0 := fun w => q2 ((lost_eq h ha).2 w)
      have hr : D (45 + a.toNat) 0 = D 76 a.toNat ∧ D (45 + a.toNat) 1 = D 77 a.toNat ∧ ∀ i : Nat, i < 60 → D (49 + a.toNat) i = D 78 (60 * a.toNat + i) := by
        rcases h.2.2.2.2.1 a.toNat ha with g | g
        · exact absurd g.1 hnl
        · exact g.2
      refine ⟨_, M_read (SHM_c h.1.2.2 c') hGE a, fun v' F hF => ?_⟩
      rw [if_pos q, c' 75 _ (by decide), if_neg hnl] at hF
      obtain ⟨k', f1, f2, f3⟩ := hF
      have h0E : 0 ≤ E 56 17 := by rw [c' 56 17 (by decide)]; exact hg.1
      have g1 := rdM_cl h0E f2
      have g2 := rdM_no h0E f2 f3
      rw [c' 56 17 (by decide), c' 77 _ (by decide)] at g1 g2
      have it : ∀ j : Nat, gdP (D (45 + a.toNat) 1) (D 41 0) (D (49 + a.toNat)) j ↔ gdP (D 77 a.toNat) (D 56 17) (fun i => E 78 (60 * a.toNat + i)) j := fun j => by
        have hsz := (h.1.2.2 a.toNat ha).2.2
        unfold gdP
        rw [hr.2.1, n41]
        show _ ↔ 2 * (j : Int) + 1 < D 77 a.toNat ∧ ((0 ≤ E 78 (60 * a.toNat + 2 * j) ∧ E 78 (60 * a.toNat + 2 * j) ≤ 11) ∧ 0 ≤ E 78 (60 * a.toNat + (2 * j + 1)) ∧ E 78 (60 * a.toNat + (2 * j + 1)) ≤ 8) ∧ D 56 17 + (j : Int) ≠ 8
        by_cases y : 2 * (j : Int) + 1 < D 77 a.toNat
        · rw [c' 78 _ (by decide), c' 78 _ (by decide), hr.2.2 (2 * j) (by omega), hr.2.2 (2 * j + 1) (by omega)]
        · exact ⟨fun w => absurd w.1 y, fun w => absurd w.1 y⟩
      have hkk : k' = k := gdP_one g1.1 g2 (fun i hi => (it i).1 (hgd i hi)) (fun w => hng ((it k).2 w))
      subst hkk
      obtain ⟨s1, s2, s3⟩ := g1.2
      rw [c' 56 17 (by decide)] at s1 s2 s3
      have c78 : ∀ i, E 78 i = D 78 i := fun i => c' 78 i (by decide)
      have hk8 : D 56 17 + (k' : Int) ≤ 8 ∧ ∀ i, i < k' → 2 * (i : Int) + 1 < D 77 a.toNat := by
        refine ⟨?_, fun i hi => (g1.1 i hi).1⟩
        have hall : ∀ i : Nat, i ≤ k' → D 56 17 + (i : Int) ≤ 8 := fun i => by
          induction i with
          | zero => intro _; omega
          | succ i ih =>
            intro hi
            have := (g1.1 i (by omega)).2.2
            have := ih (by omega)
            omega
        exact hall k' (Nat.le_refl _)
      have hsz := (h.1.2.2 a.toNat ha).2.2
      refine ⟨by rw [f1, e1], RL_si h (fun x i p1 p2 p3 => ?_) ?_ ?_ ?_⟩
      · rw [s3 x i p3 (by omega) (by omega), r3 x i (by omega) (by omega) (by omega) p2]
      · unfold SGM
        rw [s1]
        refine ⟨by omega, fun i hi => ?_⟩
        by_cases y : i < (D 56 17).toNat
        · rw [s3 70 i (by omega) (Or.inr y) (by omega), s3 71 i (by omega) (by omega) (Or.inr y), c' 70 i (by decide), c' 71 i (by decide)]
          exact h.1.2.1.2 i (by omega)
        · obtain ⟨j, rfl⟩ : ∃ j, i = (D 56 17).toNat + j := ⟨i - (D 56 17).toNat, by omega⟩
          have z := s2 j (by omega)
          have w := (g1.1 j (by omega)).2.1
          rw [z.1, z.2]
          exact w
      · refine ⟨?_, fun i hi => ?_⟩
        · rw [s1, s3 41 0 (by omega) (by omega) (by omega), r1, n41]
        · rw [s1] at hi
          have e42 : F 42 i = E 42 i := s3 42 i (by omega) (by omega) (by omega)
          have e43 : F 43 i = E 43 i := s3 43 i (by omega) (by omega) (by omega)
          rw [e42, e43]
          by_cases y : i < (D 56 17).toNat
          · rw [s3 70 i (by omega) (Or.inr y) (by omega), s3 71 i (by omega) (by omega) (Or.inr y), c' 70 i (by decide), c' 71 i (by decide), r3 42 i (by omega) (Or.inr (by rw [n41]; exact y)) (by omega) (by omega), r3 43 i (by omega) (by omega) (Or.inr (by rw [n41]; exact y)) (by omega)]
            exact hs.2 i (by omega)
          · obtain ⟨j, rfl⟩ : ∃ j, i = (D 56 17).toNat + j := ⟨i - (D 56 17).toNat, by omega⟩
            have hj : j < k' := by omega
            have z := s2 j hj
            have w := r2 j hj
            have y2 := hk8.2 j hj
            rw [n41] at w
            rw [z.1, z.2, w.1, w.2, c78, c78, hr.2.2 (2 * j) (by omega), hr.2.2 (2 * j + 1) (by omega)]
            exact ⟨rfl, rfl⟩
      · rcases r4 with ⟨r4, r5⟩ | r4
        · subst r5
          have eF : ∀ x i, x < 56 → F x i = E x i := fun x i p => s3 x i (by omega) (by omega) (by omega)
          exact IQ_of h.2.2.2.2.2.2.1 (eF 0 7 (by decide)) (eF 0 8 (by decide)) (fun i => eF 53 i (by decide)) (gC_of fun x i p1 p2 => eF x i (by omega))
        · exact Or.inl (by rw [s3 0 7 (by omega) (by omega) (by omega)]; exact r4)
  · rw [if_neg q] at hE
    obtain ⟨e1, e2⟩ := hE
    subst e2
    refine ⟨_, M_read h.1.2.2 h.1.2.1 a, fun v' F hF => ?_⟩
    rw [if_neg q] at hF
    exact ⟨hF.1.trans e1.symm, by rw [hF.2]; exact h⟩
