/-- a course at o that has been run -/
def DC (D : HP) (o : Nat) (S : SC) : Prop := RC D o S (S 0 2).toNat ∧ ∀ j : Nat, (j : Int) < S 0 2 → D (o + 14) j = ele S j ∧ D (o + 15) j = inn S j ∧ BS (D (o + 13) j) (fun k => decide ((k : Int) < S 0 3) && rtp S (j + 1) k)
set_option maxHeartbeats 4000000 in
theorem C_end {o : Nat} (ho : o = 9 ∨ o = 25) {D : HP} {S : SC} (h : OKS S) (hM : CS D o S) (hR : RC D o S (S 0 2).toNat) : CT mX0_end [vR o] D (fun v E => v = none ∧ DC E o S ∧ FC o D E) := by
  have h2 := h.2.2.1
  refine V_X0_end ho (fun _ => ?_)
  rw [hM.1.2.2.1]
  refine ⟨by unfold c32; omega, ?_⟩
  by_cases z : S 0 2 = 0
  · rw [z]
    refine ⟨fun v E => v = none ∧ E = D, ?_, ?_⟩
    · exact V_X0_elect ho (0 - 1) 0 (fun _ _ _ _ _ _ _ => False) (fun _ _ _ _ _ _ _ => 0) (fun _ _ _ => ⟨fun _ => ⟨rfl, rfl⟩, fun q => absurd q (by decide)⟩) (fun _ _ _ _ _ _ _ hf => hf.elim)
    · rintro E ⟨-, rfl⟩ _
      exact ⟨rfl, ⟨hR, fun j hj => by omega⟩, FC.rf _ _⟩
  · obtain ⟨n, hn⟩ : ∃ n : Nat, S 0 2 = ((n + 1 : Nat) : Int) := ⟨(S 0 2).toNat - 1, by omega⟩
    have en : (S 0 2).toNat = n + 1 := by omega
    rw [en] at hR
    obtain ⟨hS, hT, hr, hE⟩ := hR
    have hno : ∀ k, rtd S n k = false := fun k => by
      unfold rtd
      rw [decide_eq_false_iff_not]
      intro y; omega
    have hz : BS 0 (fun k => decide ((k : Int) < S 0 3) && rtp S (n + 1) k) := BS.z.eq fun k _ => by simp [rtp, hno k]
    have ce := C_elect ho h (D := D) (m := n) (by omega) (b := 0) (hT n (by omega)) (hT (n + 1) (by omega)) hz (fun k hk => hr n (by omega) k hk) (fun hn => (hE (n - 1) (by omega)).2.1)
    rw [show S 0 2 - 1 = (n : Int) by omega]
    refine ⟨_, ce, ?_⟩
    rintro E ⟨-, hD⟩ _
    have hk : ∀ a i, a ≠ o + 13 → a ≠ o + 14 → a ≠ o + 15 → E a i = D a i := fun a i p1 p2 p3 => by rw [hD, hu_k _ _ p3, hu_k _ _ p2, hu_k _ _ p1]
    have hi : ∀ a i, i ≠ n → E a i = D a i := fun a i p => by rw [hD, hu_i _ _ p, hu_i _ _ p, hu_i _ _ p]
    have hA : ∀ j : Nat, (j : Int) < S 0 2 → E (o + 14) j = ele S j ∧ E (o + 15) j = inn S j ∧ BS (E (o + 13) j) (fun k => decide ((k : Int) < S 0 3) && rtp S (j + 1) k) := fun j hj => by
      by_cases e : j = n
      · subst e
        rw [hD]
        refine ⟨?_, ?_, ?_⟩
        · rw [hu_k _ _ (by omega), hu_s]
        · rw [hu_s]
        · rw [hu_k _ _ (by omega), hu_k _ _ (by omega), hu_s]; exact hz
      · rw [hi _ _ e, hi _ _ e, hi _ _ e]; exact hE j (by omega)
    refine ⟨rfl, ⟨⟨⟨?_, fun c hc => ?_⟩, fun j hj => ?_, fun j hj k hk2 => ?_, fun j hj => hA j (by omega)⟩, hA⟩, fun a i p1 p2 => hk a i (by omega) (by omega) (by omega)⟩
    · rw [hk _ _ (by omega) (by omega) (by omega)]; exact hS.1
    · rw [hk _ _ (by omega) (by omega) (by omega)]; exact hS.2 c hc
    · unfold TD
      rw [hk _ _ (by omega) (by omega) (by omega)]; exact hT j (by omega)
    · rw [hk _ _ (by omega) (by omega) (by omega)]; exact hr j (by omega) k hk2
theorem C_runOnFrom {o : Nat} (ho : o = 9 ∨ o = 25) {D : HP} {S : SC} (h : OKS S) (hM : CS D o S) (hV : SV D o S) {a : Nat} (ha : (a : Int) ≤ S 0 2) (hR : RC D o S a) : CT mX0_runOnFrom [vR o, vI a] D (fun v E => v = none ∧ DC E o S ∧ FC o D E) := by
  have h2 := h.2.2.1
  refine V_X0_runOnFrom ho a
    (fun _ y E => (∃ n : Nat, y = n ∧ (n : Int) ≤ S 0 2 ∧ RC E o S n) ∧ FC o D E) (fun _ y _ => (S 0 2 - y).toNat)
    (fun _ _ => ⟨⟨a, by split <;> omega, ha, hR⟩, FC.rf _ _⟩) ?_
  rintro x y E ⟨⟨n, rfl, hn, hR⟩, hF⟩ _ _ _
  have hME := hF.CS hM
  have hVE := hF.SV hV
  rw [hME.1.2.2.1]
  refine ⟨fun q => ⟨_, C_end ho h hME (by rwa [show (S 0 2).toNat = n by omega]), ?_⟩, fun q => ⟨_, C_pass ho h hME hVE (by omega) hR, ?_⟩⟩
  · rintro E5 ⟨-, hD, hF5⟩ _
    exact ⟨rfl, hD, hF.tr hF5⟩
  · rintro E5 ⟨-, hR5, hF5⟩ _
    exact ⟨by unfold c32; omega, ⟨⟨n + 1, by omega, by omega, hR5⟩, hF.tr hF5⟩, by omega⟩
theorem RC0 {D : HP} {o : Nat} {S : SC} (hS : SD D o S) (hT : TD D o S 0) (hr : ∀ k : Nat, (k : Int) < S 0 3 → D (o + 12) k = S 7 k) : RC D o S 0 :=
  ⟨hS, fun j hj => by rwa [show j = 0 by omega], fun j hj k hk => by rw [show j = 0 by omega, show 8 * 0 + k = k by omega]; exact hr k hk, fun j hj => absurd hj (by omega)⟩
theorem C_run {o : Nat} (ho : o = 9 ∨ o = 25) {D : HP} {S : SC} (h : OKS S) (hM : CS D o S) (hV : SV D o S) : CT mX0_run [vR o] D (fun v E => v = none ∧ DC E o S ∧ FC o D E) := by
  have h2 := h.2.2.1
  refine V_X0_run ho (fun _ => ⟨_, C_start ho h hM, ?_⟩)
  rintro E ⟨-, hS, hT, hr, hF⟩ _
  refine ⟨_, C_runOnFrom ho h (hF.CS hM) (hF.SV hV) (a := 0) (by omega) (RC0 hS hT hr), ?_⟩
  rintro E5 ⟨-, hD, hF5⟩ _
  exact ⟨rfl, hD, hF.tr hF5⟩
theorem tu_keeps {S : SC} {m k : Nat} (h : tu S m k ≠ -1) : ∀ d : Nat, tu S (m + d) k = tu S m k
  | 0 => rfl
  | d + 1 => by
    have e := tu_keeps h d
    rw [show m + (d + 1) = m + d + 1 by omega, tu_keep (by rw [e]; exact h), e]
theorem C_runUntilTurned {o : Nat} (ho : o = 9 ∨ o = 25) {D : HP} {S : SC} (h : OKS S) (hM : CS D o S) (hV : SV D o S) {k : Nat} (hk : (k : Int) < S 0 3) : CT mX0_runUntilTurned [vR o, vI k] D (fun v E => v = some (vI (trn S k)) ∧ FC o D E) := by
  have h2 := h.2.2.1
  have h3 := h.2.2.2.1
  refine V_X0_runUntilTurned ho k
    (fun x y E => x = k ∧ (∃ n : Nat, y = n ∧ (n : Int) ≤ S 0 2 ∧ RC E o S n ∧ tu S n k = -1) ∧ FC o D E) (fun _ y _ => (S 0 2 - y).toNat)
    (fun _ _ => ⟨_, C_start ho h hM, ?_⟩) ?_
  · rintro E ⟨-, hS, hT, hr, hF⟩ _
    exact ⟨rfl, ⟨0, rfl, by omega, RC0 hS hT hr, rfl⟩, hF⟩
  · rintro x y E ⟨rfl, ⟨n, rfl, hn, hR, ht⟩, hF⟩ _ _ _
    have hME := hF.CS hM
    have hVE := hF.SV hV
    rw [hME.1.2.2.1]
    refine ⟨fun q => ⟨?_, hF⟩, fun q => ⟨fun q2 => absurd q2 (by omega), fun _ => ⟨_, C_pass ho h hME hVE (by omega) hR, ?_⟩⟩⟩
    · unfold trn
      rw [show (S 0 2).toNat = n by omega, ht]
    · rintro E5 ⟨-, hR5, hF5⟩ _
      have hT5 := hR5.2.1 (n + 1) (Nat.le_refl _)
      rw [show (((n : Int)) + 1).toNat = n + 1 by omega, BS.has hT5 (by omega)]
      refine ⟨by unfold c32; omega, by omega, fun z => ⟨by unfold c32; omega, ⟨rfl, ⟨n + 1, by omega, by omega, hR5, ?_⟩, hF.tr hF5⟩, by omega⟩, fun z => ⟨?_, hF.tr hF5⟩⟩
      · by_cases y : tu S (n + 1) k = -1
        · exact y
        · rw [if_pos (by simp [hk, y])] at z; exact absurd z (by decide)
      · have y : tu S (n + 1) k ≠ -1 := fun y => z (by rw [if_neg (by simp [y])])
        have e := tu_keeps y ((S 0 2).toNat - (n + 1))
        unfold trn
        rw [show (S 0 2).toNat = n + 1 + ((S 0 2).toNat - (n + 1)) by omega, e, tu_new.1 ⟨y, ht⟩]
