theorem kgood_spec (b : Nat → Int) (n a : Nat) : (kgood b n a = 4 ∧ a + 3 < n ∧ ∀ i, i < 4 → kbad b (a + i) = false) ∨ ∃ r : Nat, r < 4 ∧ kgood b n a = r ∧ (∀ i, i < r → a + i < n ∧ kbad b (a + i) = false) ∧ (¬ (a + r < n) ∨ kbad b (a + r) = true) := by
  have nb : ∀ i, ¬ (¬ (a + i < n) ∨ kbad b (a + i) = true) → a + i < n ∧ kbad b (a + i) = false := fun i h => ⟨by
    by_cases q : a + i < n
    · exact q
    · exact absurd (Or.inl q) h, by
    cases q : kbad b (a + i)
    · rfl
    · exact absurd (Or.inr q) h⟩
  unfold kgood
  by_cases h0 : ¬ (a < n) ∨ kbad b a = true
  · rw [if_pos h0]
    exact Or.inr ⟨0, by decide, rfl, fun i hi => absurd hi (Nat.not_lt_zero _), h0⟩
  rw [if_neg h0]
  have c0 := nb 0 h0
  by_cases h1 : ¬ (a + 1 < n) ∨ kbad b (a + 1) = true
  · rw [if_pos h1]
    refine Or.inr ⟨1, by decide, rfl, fun i hi => ?_, h1⟩
    rw [show i = 0 by omega]; exact c0
  rw [if_neg h1]
  have c1 := nb 1 h1
  by_cases h2 : ¬ (a + 2 < n) ∨ kbad b (a + 2) = true
  · rw [if_pos h2]
    refine Or.inr ⟨2, by decide, rfl, fun i hi => ?_, h2⟩
    rcases (show i = 0 ∨ i = 1 by omega) with rfl | rfl
    · exact c0
    · exact c1
  rw [if_neg h2]
  have c2 := nb 2 h2
  by_cases h3 : ¬ (a + 3 < n) ∨ kbad b (a + 3) = true
  · rw [if_pos h3]
    refine Or.inr ⟨3, by decide, rfl, fun i hi => ?_, h3⟩
    rcases (show i = 0 ∨ i = 1 ∨ i = 2 by omega) with rfl | rfl | rfl
    · exact c0
    · exact c1
    · exact c2
  rw [if_neg h3]
  have c3 := nb 3 h3
  refine Or.inl ⟨rfl, c3.1, fun i hi => ?_⟩
  rcases (show i = 0 ∨ i = 1 ∨ i = 2 ∨ i = 3 by omega) with rfl | rfl | rfl | rfl
  · exact c0.2
  · exact c1.2
  · exact c2.2
  · exact c3.2
set_option maxHeartbeats 4000000 in
theorem C_readsCandidates {D : HP} (hT : TXM D) : CT mX6_readsCandidates [vR 56] D (fun v E => v = some (vI (kfl (tB D 2) (tN D 2))) ∧ E 56 8 = kcn (tB D 2) (tN D 2) ∧ (∀ k : Nat, (k : Int) < kcn (tB D 2) (tN D 2) → E 62 k = 10 * (tB D 2 (5 * k) - 48) + (tB D 2 (5 * k + 1) - 48) ∧ E 63 k = tB D 2 (5 * k + 2) - 48 ∧ E 64 k = hd (tB D 2 (5 * k + 3))) ∧ (∀ a i, a ≠ 62 → a ≠ 63 → a ≠ 64 → (a ≠ 56 ∨ i ≠ 8) → E a i = D a i)) := by
  have hn := hT.2.2.1
  have hnn := tN_in hT (t := 2) (by decide)
  generalize hb : tB D 2 = b
  generalize hne : tN D 2 = n at *
  refine V_X6_readsCandidates (I9 := fun x1 x2 E => ∃ j : Nat, x1 = j ∧ x2 = ((5 * j : Nat) : Int) ∧ 5 * j ≤ n ∧ (∀ i, i < 5 * j → kbad b i = false) ∧ (∀ k : Nat, k < j → E 62 k = 10 * (b (5 * k) - 48) + (b (5 * k + 1) - 48) ∧ E 63 k = b (5 * k + 2) - 48 ∧ E 64 k = hd (b (5 * k + 3))) ∧ (∀ a i, a ≠ 62 → a ≠ 63 → a ≠ 64 → (a ≠ 56 ∨ i ≠ 8) → E a i = D a i) ∧ E 56 8 = 0) (u9 := fun x1 _ _ => (9 - x1).toNat) ?_ ?_
  · intro _
    rintro E1 rfl
    refine ⟨0, rfl, rfl, Nat.zero_le _, fun i hi => absurd hi (Nat.not_lt_zero _), fun k hk => absurd hk (Nat.not_lt_zero _), fun a i h1 h2 h3 h4 => ?_, hu_s _ _ _ _⟩
    rcases h4 with h4 | h4
    · rw [hu_k _ _ h4]
    · rw [hu_i _ _ h4]
  rintro x1 x2 E ⟨j, rfl, rfl, hj, hnb, hk, hE, hE8⟩ hcD c1 c2
  have hEt : ∀ a i, a = 57 ∨ a = 58 → E a i = D a i := fun a i h => hE a i (by omega) (by omega) (by omega) (Or.inl (by omega))
  have e57 : E 57 2 = n := (hEt 57 2 (by decide)).trans hnn
  have hTE : TXM E := TXM_of hT hEt
  have ebE : tB E 2 = b := (tB_of hEt 2).trans hb
  have enE : tN E 2 = n := (tN_of hEt 2).trans hne
  rw [e57]
  have zero : n = 0 → kfl b n = -1 ∧ kcn b n = 0 := fun h => by subst h; exact ⟨rfl, rfl⟩
  refine ⟨fun hlt => ?a, fun hlt => ⟨fun h0 => ?z, fun h0 => ?b⟩⟩
  case z =>
    obtain ⟨z1, z2⟩ := zero (by omega)
    exact ⟨by rw [z1], by rw [z2]; exact hE8, fun k hk2 => by rw [z2] at hk2; omega, hE⟩
  all_goals
    have hpos : 0 < n := by omega
    refine ⟨fun h8 => by omega, fun h8 => ?_⟩
    refine ⟨_, C_readsCandidate hTE (j := j) (by omega), ?_⟩
    rw [ebE, enE]
    rintro r F ⟨hr, hF4, hF⟩ c3 hcF
    have hr : r = kgood b n (5 * j) := by
      have := Option.some.inj hr
      exact (Prod.mk.inj this).2
    subst hr
    have f57 : F 57 2 = n := (hF 57 2 (Or.inl (by decide))).trans e57
    have hFt : ∀ a i, a = 57 ∨ a = 58 → F a i = E a i := fun a i h => hF a i (Or.inl (by omega))
    have hTF : TXM F := TXM_of hTE hFt
    have hFD : ∀ a i, a ≠ 62 → a ≠ 63 → a ≠ 64 → (a ≠ 56 ∨ i ≠ 8) → F a i = D a i := fun a i h1 h2 h3 h4 => (hF a i (Or.inl ⟨h1, h2, h3⟩)).trans (hE a i h1 h2 h3 h4)
    have hF8 : F 56 8 = 0 := (hF 56 8 (Or.inl (by decide))).trans hE8
    have bad : ∀ f : Int, kfl b n = f → f ≠ -1 → (some (vI f) = some (vI (kfl b n)) ∧ F 56 8 = kcn b n ∧ (∀ k : Nat, (k : Int) < kcn b n → F 62 k = 10 * (b (5 * k) - 48) + (b (5 * k + 1) - 48) ∧ F 63 k = b (5 * k + 2) - 48 ∧ F 64 k = hd (b (5 * k + 3))) ∧ (∀ a i, a ≠ 62 → a ≠ 63 → a ≠ 64 → (a ≠ 56 ∨ i ≠ 8) → F a i = D a i)) := fun f hf hf1 => by
      have e2 : kcn b n = 0 := by unfold kcn; rw [if_neg (by rw [hf]; exact hf1)]
      exact ⟨by rw [hf], by rw [e2]; exact hF8, fun k hk2 => by rw [e2] at hk2; omega, hFD⟩
    rcases kgood_spec b n (5 * j) with ⟨hg, hg1, hg2⟩ | ⟨q, hq, hg, hg1, hg2⟩
    · rw [hg]
      have hF4 := hF4 hg
      have nb4 : ∀ i, i < 5 * j + 4 → kbad b i = false := fun i hi => by
        by_cases e : i < 5 * j
        · exact hnb i e
        · have := hg2 (i - 5 * j) (by omega)
          rwa [show 5 * j + (i - 5 * j) = i by omega] at this
      have up : ∀ k : Nat, k < j + 1 → F 62 k = 10 * (b (5 * k) - 48) + (b (5 * k + 1) - 48) ∧ F 63 k = b (5 * k + 2) - 48 ∧ F 64 k = hd (b (5 * k + 3)) := fun k hk2 => by
        by_cases e : k = j
        · rw [e]; exact hF4
        · rw [hF 62 k (Or.inr e), hF 63 k (Or.inr e), hF 64 k (Or.inr e)]
          exact hk k (by omega)
      refine ⟨fun _ => ⟨by unfold c32; omega, by unfold c32; omega, fun he => ?_, fun he => ⟨?_, fun h59 => ?_, fun h59 => ?_⟩⟩, fun h => absurd (by decide) h⟩
      · rintro G rfl
        rw [f57] at he
        have hf : kfl b n = -1 := by
          unfold kfl
          rw [fsN_no (fun i hi => nb4 i (by omega)), if_pos rfl, if_neg (by omega)]
        have e2 : kcn b n = ((j + 1 : Nat) : Int) := by unfold kcn; rw [if_pos hf]; omega
        refine ⟨by rw [hf], by rw [hu_s, e2]; omega, fun k hk2 => ?_, fun a i h1 h2 h3 h4 => ?_⟩
        · rw [hu_k _ _ (by decide), hu_k _ _ (by decide), hu_k _ _ (by decide)]
          exact up k (by omega)
        · rcases h4 with h4 | h4
          · rw [hu_k _ _ h4]; exact hFD a i h1 h2 h3 (Or.inl h4)
          · rw [hu_i _ _ h4]; exact hFD a i h1 h2 h3 (Or.inr h4)
      · exact byMo hTF (t := 2) (by decide) (by omega)
      · rw [f57] at he
        have eb : fX6_byteAt F 2 (((5 * j : Nat) : Int) + 4) = b (5 * j + 4) := by
          have := byM (D := F) (t := 2) (k := 5 * j + 4) (by rw [f57]; omega)
          rw [tB_of hFt, ebE] at this
          exact this
        rw [eb] at h59
        refine ⟨by unfold c32; omega, ⟨j + 1, by omega, by omega, by omega, fun i hi => ?_, up, hFD, hF8⟩, by omega⟩
        by_cases e : i < 5 * j + 4
        · exact nb4 i e
        · rw [show i = 5 * j + 4 by omega]
          unfold kbad
          rw [if_neg (by omega), if_neg (by omega), if_neg (by omega), if_neg (by omega)]
          exact decide_eq_false (fun z => z h59)
      · rw [f57] at he
        have eb : fX6_byteAt F 2 (((5 * j : Nat) : Int) + 4) = b (5 * j + 4) := by
          have := byM (D := F) (t := 2) (k := 5 * j + 4) (by rw [f57]; omega)
          rw [tB_of hFt, ebE] at this
          exact this
        rw [eb] at h59
        have kb : kbad b (5 * j + 4) = true := by
          unfold kbad
          rw [if_neg (by omega), if_neg (by omega), if_neg (by omega), if_neg (by omega)]
          exact decide_eq_true h59
        refine bad _ ?_ (by omega)
        unfold kfl
        rw [fsN_yes nb4 kb (by omega), if_neg (by omega)]
        omega
    · rw [hg]
      refine ⟨fun h => by omega, fun _ => ⟨by unfold c32; omega, bad _ ?_ (by omega)⟩⟩
      have nbq : ∀ i, i < 5 * j + q → kbad b i = false := fun i hi => by
        by_cases e : i < 5 * j
        · exact hnb i e
        · have := (hg1 (i - 5 * j) (by omega)).2
          rwa [show 5 * j + (i - 5 * j) = i by omega] at this
      have hle : 5 * j + q ≤ n := by
        by_cases z : q = 0
        · omega
        · have := (hg1 (q - 1) (by omega)).1; omega
      unfold kfl
      by_cases z : 5 * j + q < n
      · have kb : kbad b (5 * j + q) = true := hg2.resolve_left (fun y => y z)
        rw [fsN_yes nbq kb z, if_neg (by omega)]
        omega
      · rw [fsN_no (fun i hi => nbq i (by omega)), if_pos rfl, if_pos (by omega)]
        omega
/-- the scene told, as the model's texts tell it -/
def tS (D : HP) : SC := scT (tN D 0) (tN D 1) (tN D 2) (tB D 0) (tB D 1) (tB D 2)
def tF (D : HP) (t : Int) : Int := if t = 0 then cfl (tB D 0) (tN D 0) else if t = 1 then gfl (tB D 1) (tN D 1) else kfl (tB D 2) (tN D 2)
theorem tS_ok {D : HP} (h : TXM D) : OKS (tS D) := by
  have h0 := tN_in h (t := 0) (by decide)
  have h1 := tN_in h (t := 1) (by decide)
  have h2 := tN_in h (t := 2) (by decide)
  exact scT_ok (by have := h.1; omega) (by have := h.2.1; omega) (by have := h.2.2.1; omega)
/-- what the model writes over when it reads -/
def FRm (D E : HP) : Prop := ∀ a i, a < 59 ∨ 64 < a → (a ≠ 56 ∨ (i ≠ 2 ∧ i ≠ 3 ∧ i ≠ 5 ∧ i ≠ 8)) → E a i = D a i
set_option maxHeartbeats 4000000 in
theorem C_faultOf {D : HP} (hT : TXM D) (t : Int) : CT mX6_faultOf [vR 56, vI t] D (fun v E => v = some (vI (tF D t)) ∧ MS E (tS D) ∧ FRm D E) := by
  refine V_X6_faultOf t (fun _ _ => ⟨_, C_readsCorner hT, ?_⟩)
  rintro r1 E ⟨e0, e1, e2, e3, e4⟩ _ _
  have e0 : r1 = cfl (tB D 0) (tN D 0) := (Prod.mk.inj (Option.some.inj e0)).2
  have et : ∀ a i, a = 57 ∨ a = 58 → E a i = D a i := fun a i h => e4 a i (by omega) (Or.inl (by omega))
  refine ⟨_, C_readsGusts (TXM_of hT et), ?_⟩
  rw [tB_of et, tN_of et]
  rintro r2 F ⟨f0, f1, f2, f3⟩ _ _
  have f0 : r2 = gfl (tB D 1) (tN D 1) := (Prod.mk.inj (Option.some.inj f0)).2
  have ft : ∀ a i, a = 57 ∨ a = 58 → F a i = D a i := fun a i h => (f3 a i (by omega) (by omega) (Or.inl (by omega))).trans (et a i h)
  refine ⟨_, C_readsCandidates (TXM_of hT ft), ?_⟩
  rw [tB_of ft, tN_of ft]
  rintro r3 G ⟨g0, g1, g2, g3⟩ _ _
  have g0 : r3 = kfl (tB D 2) (tN D 2) := (Prod.mk.inj (Option.some.inj g0)).2
  subst e0 f0 g0
  refine ⟨rfl, ⟨⟨?_, ?_, ?_, g1⟩, fun j hj => ?_, fun m hm => ?_, fun k hk => g2 k hk⟩, fun a i h1 h2 => ?_⟩
  · rw [g3 56 2 (by decide) (by decide) (by decide) (by decide), f3 56 2 (by decide) (by decide) (by decide)]; exact e1
  · rw [g3 56 3 (by decide) (by decide) (by decide) (by decide), f3 56 3 (by decide) (by decide) (by decide)]; exact e2
  · rw [g3 56 5 (by decide) (by decide) (by decide) (by decide)]; exact f1
  · rw [g3 59 j (by decide) (by decide) (by decide) (Or.inl (by decide)), f3 59 j (by decide) (by decide) (Or.inl (by decide))]; exact e3 j hj
  · rw [g3 60 m (by decide) (by decide) (by decide) (Or.inl (by decide)), g3 61 m (by decide) (by decide) (by decide) (Or.inl (by decide))]; exact f2 m hm
  · rw [g3 a i (by omega) (by omega) (by omega) (by omega), f3 a i (by omega) (by omega) (by omega), e4 a i (by omega) (by omega)]
theorem C_reads {D : HP} (hT : TXM D) : CT mX6_reads [vR 56] D (fun v E => v = none ∧ MS E (tS D) ∧ FRm D E) := by
  refine V_X6_reads (fun _ => ⟨_, C_faultOf hT 0, ?_⟩)
  rintro r E ⟨-, h1, h2⟩ _ _
  exact ⟨rfl, h1, h2⟩
