theorem C_fillI {a na : Nat} (ha : kc a = (1, na)) (hcn : c32 na) (b : Int) {D : HP} : CT mJ7_fill_53178 [vR a, vI b] D (fun v E => v = none ∧ (∀ i : Nat, i < na → E a i = b) ∧ ∀ c i, c ≠ a → E c i = D c i) := by
  refine V_J7_fill_53178 ha hcn b
    (fun x y z E => x = b ∧ z = na ∧ (∃ n : Nat, y = n ∧ n ≤ na ∧ ∀ i : Nat, i < n → E a i = b) ∧ ∀ c i, c ≠ a → E c i = D c i) (fun _ y _ _ => (na - y).toNat)
    (fun _ _ => ⟨rfl, rfl, ⟨0, rfl, by omega, fun i hi => absurd hi (Nat.not_lt_zero _)⟩, fun _ _ _ => rfl⟩) ?_
  rintro x y z E ⟨rfl, rfl, ⟨n, rfl, hn, hA⟩, hF⟩ _ _ _ _
  refine ⟨fun q => ⟨rfl, fun i hi => hA i (by omega), hF⟩, fun q => ⟨by omega, fun E2 hE => ⟨by unfold c32 at *; omega, ⟨rfl, rfl, ⟨n + 1, rfl, by omega, fun i hi => ?_⟩, fun c i hc => ?_⟩, by omega⟩⟩⟩
  · rw [hE, show ((n : Int)).toNat = n by omega]
    by_cases e : i = n
    · subst e; exact hu_s _ _ _ _
    · rw [hu_i _ _ e]; exact hA i (by omega)
  · rw [hE, hu_k _ _ hc]; exact hF c i hc
theorem C_fillL {a na : Nat} (ha : kc a = (3, na)) (hcn : c32 na) (b : Int) {D : HP} : CT mJ7_fill_d0a16 [vR a, vL b] D (fun v E => v = none ∧ (∀ i : Nat, i < na → E a i = b) ∧ ∀ c i, c ≠ a → E c i = D c i) := by
  refine V_J7_fill_d0a16 ha hcn b
    (fun x y z E => x = b ∧ z = na ∧ (∃ n : Nat, y = n ∧ n ≤ na ∧ ∀ i : Nat, i < n → E a i = b) ∧ ∀ c i, c ≠ a → E c i = D c i) (fun _ y _ _ => (na - y).toNat)
    (fun _ _ => ⟨rfl, rfl, ⟨0, rfl, by omega, fun i hi => absurd hi (Nat.not_lt_zero _)⟩, fun _ _ _ => rfl⟩) ?_
  rintro x y z E ⟨rfl, rfl, ⟨n, rfl, hn, hA⟩, hF⟩ _ _ _ _
  refine ⟨fun q => ⟨rfl, fun i hi => hA i (by omega), hF⟩, fun q => ⟨by omega, fun E2 hE => ⟨by unfold c32 at *; omega, ⟨rfl, rfl, ⟨n + 1, rfl, by omega, fun i hi => ?_⟩, fun c i hc => ?_⟩, by omega⟩⟩⟩
  · rw [hE, show ((n : Int)).toNat = n by omega]
    by_cases e : i = n
    · subst e; exact hu_s _ _ _ _
    · rw [hu_i _ _ e]; exact hA i (by omega)
  · rw [hE, hu_k _ _ hc]; exact hF c i hc
theorem som_cell {D : HP} {o : Nat} {S : SC} (h : OKS S) (hM : CS D o S) {k : Nat} (hk : (k : Int) < S 0 3) : som S k = true ↔ fX1_isCell D o (S 6 k) ≠ 0 ∧ fX1_isWall D o (S 6 k) = 0 := by
  have h6 := (h.2.2.2.2.2.2 k hk).1
  rw [cs_cell h hM]
  unfold som
  rw [decide_eq_true_eq]
  by_cases q : S 6 k < S 0 1
  · rw [if_pos ⟨h6.1, q⟩, cs_wall h hM (Or.inr ⟨h6.1, q⟩)]
    unfold wal
    simp only [decide_eq_true_eq]
    by_cases z : S 1 (S 6 k).toNat = 0
    · rw [if_neg (fun y => y.2 z)]
      exact ⟨fun _ => ⟨by decide, rfl⟩, fun _ => ⟨q, z⟩⟩
    · rw [if_pos ⟨by omega, z⟩]
      exact ⟨fun y => absurd y.2 z, fun y => absurd y.2 (by decide)⟩
  · rw [if_neg (fun y => q y.2)]
    exact ⟨fun y => absurd y.1 q, fun y => absurd rfl y.1⟩
/-- what the running of a course at o leaves alone -/
def FC (o : Nat) (D E : HP) : Prop := ∀ a i, (a ≠ o ∨ i ≠ 1) → (a < o + 10 ∨ o + 15 < a) → E a i = D a i
theorem FC.rf (o : Nat) (D : HP) : FC o D D := fun _ _ _ _ => rfl
theorem FC.tr {o : Nat} {D E F : HP} (h : FC o D E) (g : FC o E F) : FC o D F := fun a i h1 h2 => (g a i h1 h2).trans (h a i h1 h2)
theorem FC.CS {o : Nat} {D E : HP} (h : FC o D E) {S : SC} (hM : CS D o S) : CS E o S := CS_of hM fun a i q => h a i (by omega) (by omega)
theorem FC.SV {o : Nat} {D E : HP} (h : FC o D E) {S : SC} (hV : SV D o S) : SV E o S := fun w hw c hc => by
  rw [h _ _ (by omega) (by omega), h _ _ (by omega) (by omega)]; exact hV w hw c hc
set_option maxHeartbeats 4000000 in
theorem C_start {o : Nat} (ho : o = 9 ∨ o = 25) {D : HP} {S : SC} (h : OKS S) (hM : CS D o S) : CT mX0_start [vR o] D (fun v E => v = none ∧ SD E o S ∧ TD E o S 0 ∧ (∀ k : Nat, (k : Int) < S 0 3 → E (o + 12) k = S 7 k) ∧ FC o D E) := by
  have h1 := h.2.1
  have h3 := h.2.2.2.1
  have hk25 : kc (o + 10) = (1, 25) := by rcases ho with rfl | rfl <;> decide
  refine V_X0_start ho
    (fun x E => ∃ n : Nat, x = n ∧ (n : Int) ≤ S 0 3 ∧ BS (E o 1) (fun k => decide (k < n) && som S k) ∧ (∀ c : Nat, c < 25 → BS (E (o + 10) c) (fun k => decide (k < n) && (som S k && decide (S 6 k = c)))) ∧ TD E o S 0 ∧ (∀ k : Nat, k < n → E (o + 12) k = S 7 k) ∧ FC o D E) (fun x _ => (S 0 3 - x).toNat)
    (fun _ => ⟨_, C_fillI hk25 (by unfold c32; decide) 0, ?_⟩) ?_
  · rintro D4 ⟨-, hA, hF⟩ _ E8 hE8 E10 hE10
    refine ⟨0, rfl, by omega, ?_, fun c hc => ?_, ?_, fun k hk => absurd hk (Nat.not_lt_zero _), fun a i p1 p2 => ?_⟩
    · rw [hE10, hu_k _ _ (by omega), hE8, hu_s]
      exact BS.z.eq fun k _ => by simp
    · rw [hE10, hu_k _ _ (by omega), hE8, hu_k _ _ (by omega), hA c hc]
      exact BS.z.eq fun k _ => by simp
    · unfold TD
      rw [hE10, hu_s]
      exact BS.z.eq fun k _ => by
        have : tu S 0 k = -1 := rfl
        simp [this]
    · rw [hE10, hu_k _ _ (by omega), hE8]
      by_cases e : a = o
      · subst e
        rw [hu_i _ _ (by omega)]; exact hF _ _ (by omega)
      · rw [hu_k _ _ e]; exact hF _ _ (by omega)
  · rintro x E ⟨n, rfl, hn, hs, ht, hT, hr, hF⟩ _ _
    have hME := hF.CS hM
    rw [hME.1.2.2.2]
    have fin : S 0 3 ≤ n → (none : Option MV) = none ∧ SD E o S ∧ TD E o S 0 ∧ (∀ k : Nat, (k : Int) < S 0 3 → E (o + 12) k = S 7 k) ∧ FC o D E := fun q => by
      have e : ∀ k : Nat, decide (k < n) = decide ((k : Int) < S 0 3) := fun k => decide_eq_decide.2 (by omega)
      refine ⟨rfl, ⟨hs.eq fun k _ => by rw [e], fun c hc => (ht c hc).eq fun k _ => by rw [e]⟩, hT, fun k hk => hr k (by omega), hF⟩
    refine ⟨fin, fun q => ⟨fun q8 => fin (by omega), fun q8 => ⟨by omega, by omega, by omega, ?_⟩⟩⟩
    rw [show ((n : Int)).toNat = n by omega, (hME.2.2.2 n (by omega)).1, (hME.2.2.2 n (by omega)).2.1]
    intro E14 hE14
    have hF14 : FC o D E14 := hF.tr fun a i p1 p2 => by rw [hE14, hu_k _ _ (by omega)]
    have hM14 := hF14.CS hM
    have hsm := som_cell h hM14 (k := n) (by omega)
    have h6 := (h.2.2.2.2.2.2 n (by omega)).1
    have hr14 : ∀ k : Nat, k < n + 1 → E14 (o + 12) k = S 7 k := fun k hk => by
      rw [hE14]
      by_cases e : k = n
      · subst e; exact hu_s _ _ _ _
      · rw [hu_i _ _ e]; exact hr k (by omega)
    have hs14 : E14 o 1 = E o 1 := by rw [hE14, hu_k _ _ (by omega)]
    have ht14 : ∀ c, E14 (o + 10) c = E (o + 10) c := fun c => by rw [hE14, hu_k _ _ (by omega)]
    have hT14 : TD E14 o S 0 := by unfold TD; rw [hE14, hu_k _ _ (by omega)]; exact hT
    have no : som S n = false → (c32 ((n : Int) + 1)) ∧ ((∃ m : Nat, (n : Int) + 1 = m ∧ (m : Int) ≤ S 0 3 ∧ BS (E14 o 1) (fun k => decide (k < m) && som S k) ∧ (∀ c : Nat, c < 25 → BS (E14 (o + 10) c) (fun k => decide (k < m) && (som S k && decide (S 6 k = c)))) ∧ TD E14 o S 0 ∧ (∀ k : Nat, k < m → E14 (o + 12) k = S 7 k) ∧ FC o D E14) ∧ (S 0 3 - ((n : Int) + 1)).toNat < (S 0 3 - n).toNat) := fun z => by
      have e : ∀ k : Nat, ∀ p : Bool, (decide (k < n + 1) && (som S k && p)) = (decide (k < n) && (som S k && p)) := fun k p => by
        by_cases y : k = n
        · subst y; rw [z]; simp
        · rw [decide_eq_decide.2 (show k < n + 1 ↔ k < n by omega)]
      refine ⟨by unfold c32; omega, ⟨n + 1, rfl, by omega, ?_, fun c hc => ?_, hT14, hr14, hF14⟩, by omega⟩
      · rw [hs14]; exact hs.eq fun k _ => by have := e k true; simpa using this.symm
      · rw [ht14]; exact (ht c hc).eq fun k _ => (e k _).symm
    refine ⟨fun z => no ?_, fun z => ⟨cs_wallo, fun y => ?_, fun y => no ?_⟩⟩
    · cases hc : som S n
      · rfl
      · exact absurd z (hsm.1 hc).1
    · have st : som S n = true := hsm.2 ⟨z, y⟩
      have sc : S 6 n < S 0 1 := by unfold som at st; rw [decide_eq_true_eq] at st; exact st.1
      intro E19 hE19
      refine ⟨by omega, by omega, fun E21 hE21 => ⟨by unfold c32; omega, ⟨n + 1, rfl, by omega, ?_, fun c hc => ?_, ?_, fun k hk => ?_, ?_⟩, by omega⟩⟩
      · rw [hE21, hu_k _ _ (by omega), hE19, hu_s, hs14]
        refine (hs.add (k := n) (by omega)).eq fun k _ => ?_
        by_cases y : k = n
        · subst y; simp [st]
        · simp [y]
          rw [decide_eq_decide.2 (show k < n + 1 ↔ k < n by omega)]
      · rw [hE21, hE19]
        by_cases e : c = (S 6 n).toNat
        · subst e
          rw [hu_s, hu_k _ _ (by omega), ht14]
          refine ((ht _ hc).add (k := n) (by omega)).eq fun k _ => ?_
          by_cases y : k = n
          · subst y; simp [st]; omega
          · simp [y]
            rw [decide_eq_decide.2 (show k < n + 1 ↔ k < n by omega)]
        · rw [hu_i _ _ e, hu_k _ _ (by omega), ht14]
          refine (ht c hc).eq fun k _ => ?_
          by_cases y : k = n
          · subst y
            have : ¬ S 6 k = (c : Int) := by omega
            simp [this]
          · rw [decide_eq_decide.2 (show k < n + 1 ↔ k < n by omega)]
      · unfold TD at *
        rw [hE21, hu_k _ _ (by omega), hE19, hu_k _ _ (by omega)]; exact hT14
      · rw [hE21, hu_k _ _ (by omega), hE19, hu_k _ _ (by omega)]; exact hr14 k hk
      · refine hF14.tr fun a i p1 p2 => ?_
        rw [hE21, hu_k _ _ (by omega), hE19]
        by_cases e : a = o
        · subst e; rw [hu_i _ _ (by omega)]
        · rw [hu_k _ _ e]
    · cases hc : som S n
      · rfl
      · exact absurd (hsm.1 hc).2 y
