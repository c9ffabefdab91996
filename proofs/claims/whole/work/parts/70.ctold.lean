/-! ===== the class: what a course that has been run answers ===== -/
def TC (D : HP) (o : Nat) (S : SC) : Prop := OKS S ∧ DV S ∧ CS D o S ∧ SV D o S ∧ DC D o S
theorem k_who {D : HP} {o : Nat} {S : SC} (h : TC D o S) {a : Int} : fX0_whoIsIn D o a = if 0 ≤ a ∧ a < S 0 2 then inn S a.toNat else -1 := by
  obtain ⟨hok, -, hM, -, hD⟩ := h
  have h2 := hok.2.2.1
  unfold fX0_whoIsIn
  rw [hM.1.2.2.1]
  by_cases z : 0 ≤ a ∧ a < S 0 2
  · rw [if_neg (by omega), if_neg (by omega), if_neg (by omega), if_pos z]
    exact (hD.2 a.toNat (by omega)).2.1
  · rw [if_neg z]
    repeat' split
    all_goals first | rfl | omega
theorem fsN_congr {p q : Nat → Bool} : ∀ {n : Nat}, (∀ k, k < n → p k = q k) → fsN p n = fsN q n
  | 0, _ => rfl
  | n + 1, h => by rw [fsN, fsN, fsN_congr (fun k hk => h k (by omega)), h n (by omega)]
theorem fs_tu {S : SC} {k : Nat} : ∀ n : Nat, fsN (fun m => decide (tu S (m + 1) k ≠ -1)) n = tu S n k
  | 0 => rfl
  | n + 1 => by
    rw [fsN, fs_tu n]
    by_cases z : tu S n k = -1
    · rw [if_neg (fun y => y z)]
      by_cases y : tu S (n + 1) k = -1
      · rw [if_neg (by simp [y]), y]
      · rw [if_pos (by simp [y]), tu_new.1 ⟨y, z⟩]
    · rw [if_pos z, tu_keep z]
theorem tu_at {S : SC} {k t : Nat} : ∀ n : Nat, tu S n k = t → tu S (t + 1) k = t
  | 0, h => by have : tu S 0 k = -1 := rfl; omega
  | n + 1, h => by
    by_cases z : tu S n k = -1
    · have e : tu S (n + 1) k = n := tu_new.1 ⟨by omega, z⟩
      obtain rfl : t = n := by omega
      exact h
    · exact tu_at n (by rw [← tu_keep z]; exact h)
theorem k_turns {D : HP} {o : Nat} {S : SC} (h : TC D o S) {k : Nat} (hk : (k : Int) < S 0 3) : fX0_turnsWhen D o k = trn S k := by
  obtain ⟨hok, -, hM, -, hD⟩ := h
  have h2 := hok.2.2.1
  have h3 := hok.2.2.2.1
  unfold fX0_turnsWhen trn
  rw [hM.1.2.2.1, ← fs_tu, show (if S 0 2 < 12 then S 0 2 else 12) = S 0 2 by split <;> omega]
  refine fsN_congr fun m hm => ?_
  have hT := hD.1.2.1 (m + 1) (by omega)
  rw [BS.has hT (by omega)]
  by_cases z : tu S (m + 1) k = -1 <;> simp [z, hk]
theorem trn_in {S : SC} (h : OKS S) {k : Nat} : trn S k = -1 ∨ (0 ≤ trn S k ∧ trn S k < S 0 2) := by
  have h2 := h.2.2.1
  have := tu_in (S := S) (k := k) (S 0 2).toNat
  unfold trn
  omega
theorem k_ret {D : HP} {o : Nat} {S : SC} (h : TC D o S) {k : Nat} (hk : (k : Int) < S 0 3) : fX0_isReturned D o k = retS S k := by
  have hok := h.1
  have h2 := hok.2.2.1
  have h3 := hok.2.2.2.1
  have ht := trn_in hok (k := k)
  unfold fX0_isReturned retS
  rw [k_turns h hk]
  by_cases z : trn S k = -1
  · rw [if_pos (by omega), if_pos z]
  · obtain ⟨t, et⟩ : ∃ t : Nat, trn S k = t := ⟨(trn S k).toNat, by omega⟩
    have e1 : tu S (t + 1) k = t := tu_at _ et
    have hb := (h.2.2.2.2.2 t (by omega)).2.2
    rw [et] at z ⊢
    rw [if_neg (by omega), if_neg (by omega), if_neg z, show ((t : Int)).toNat = t by omega, BS.has hb (by omega)]
    cases hq : rtd S t k <;> simp [rtp, e1, hq, hk]
theorem elc_tu {S : SC} {m : Nat} : ∀ n : Nat, ∀ k : Nat, elc S m n = k → tu S (m + 1) k = m
  | 0, k, h => by have : elc S m 0 = -1 := rfl; omega
  | n + 1, k, h => by
    rw [elc] at h
    by_cases z : tu S (m + 1) n = m ∧ rtd S m n = false ∧ (elc S m n = -1 ∨ rb S m n < rb S m (elc S m n).toNat)
    · rw [if_pos z] at h
      obtain rfl : n = k := by omega
      exact z.1
    · rw [if_neg z] at h
      exact elc_tu n k h
theorem k_elec {D : HP} {o : Nat} {S : SC} (h : TC D o S) {k : Nat} (hk : (k : Int) < S 0 3) : fX0_isElected D o k = eleS S k := by
  have hok := h.1
  have h2 := hok.2.2.1
  have ht := trn_in hok (k := k)
  unfold fX0_isElected
  rw [k_turns h hk]
  have hs1 : (∃ i : Nat, (i : Int) < S 0 2 ∧ (k : Int) = ele S i) → 1 = eleS S k := by
    rintro ⟨i, hi, e⟩
    unfold eleS
    rw [if_pos (exB_iff.2 ⟨i, by omega, by simpa using e⟩)]
  have hs0 : ¬ (∃ i : Nat, (i : Int) < S 0 2 ∧ (k : Int) = ele S i) → 0 = eleS S k := by
    intro z
    unfold eleS
    rw [if_neg]
    intro y
    obtain ⟨i, hi, e⟩ := exB_iff.1 y
    exact z ⟨i, by omega, by simpa using e⟩
  have el : ∀ i : Nat, (i : Int) < S 0 2 → (k : Int) = ele S i → trn S k = i := fun i hi e => by
    have a := elc_tu (S := S) (m := i) _ k (show elc S i (S 0 3).toNat = k from e.symm)
    have b := tu_keeps (S := S) (m := i + 1) (k := k) (by omega) ((S 0 2).toNat - (i + 1))
    unfold trn
    rw [show (S 0 2).toNat = i + 1 + ((S 0 2).toNat - (i + 1)) by omega, b, a]
  by_cases z : trn S k = -1
  · rw [if_pos (by omega)]
    refine hs0 ?_
    rintro ⟨i, hi, e⟩
    have := el i hi e
    omega
  · obtain ⟨t, et⟩ : ∃ t : Nat, trn S k = t := ⟨(trn S k).toNat, by omega⟩
    rw [et, if_neg (by omega), if_neg (by omega), show ((t : Int)).toNat = t by omega, (h.2.2.2.2.2 t (by omega)).1]
    by_cases y : ele S t = k
    · rw [if_pos y]
      exact hs1 ⟨t, by omega, y.symm⟩
    · rw [if_neg y]
      refine hs0 ?_
      rintro ⟨i, hi, e⟩
      have := el i hi e
      obtain rfl : i = t := by omega
      exact y e.symm
theorem k_for {D : HP} {o : Nat} {S : SC} (h : TC D o S) (a : Int) : fX0_minutesBehindWhichIn D o a = forS S a := by
  have h2 := h.1.2.2.1
  unfold fX0_minutesBehindWhichIn forS
  rw [h.2.2.1.1.2.2.1]
  refine cntB_congr fun m hm => ?_
  rw [k_who h, if_pos (by omega), show ((m : Int)).toNat = m by omega]
theorem k_last {D : HP} {o : Nat} {S : SC} (h : TC D o S) : fX0_whoIsInLast D o = lin S := by
  have h2 := h.1.2.2.1
  unfold fX0_whoIsInLast lin
  rw [h.2.2.1.1.2.2.1, k_who h]
  by_cases z : S 0 2 = 0
  · rw [if_pos z, if_neg (by omega)]
  · rw [if_neg z, if_pos (by omega)]
theorem k_many {D : HP} {o : Nat} {S : SC} (h : TC D o S) : fX0_manyTurned D o = cntB (fun k => decide ((k : Int) < S 0 3) && decide (trn S k ≠ -1)) 8 := by
  have h2 := h.1.2.2.1
  unfold fX0_manyTurned
  rw [h.2.2.1.1.2.2.1, if_neg (by omega), if_neg (by omega)]
  exact BS.cnt (h.2.2.2.2.1.2.1 (S 0 2).toNat (Nat.le_refl _))
theorem k_some {D : HP} {o : Nat} {S : SC} (h : TC D o S) {k : Nat} (hk : (k : Int) < S 0 3) : fX0_isSomewhere D o k = if som S k = true then 1 else 0 := by
  have h3 := h.1.2.2.2.1
  unfold fX0_isSomewhere
  rw [BS.has h.2.2.2.2.1.1.1 (by omega)]
  cases som S k <;> simp [hk]
theorem k_ribs {D : HP} {o : Nat} {S : SC} (h : TC D o S) {m k : Nat} (hm : (m : Int) < S 0 2) (hk : (k : Int) < S 0 3) : fX0_ribsAhead D o m k = rb S m k := by
  have h2 := h.1.2.2.1
  have h3 := h.1.2.2.2.1
  unfold fX0_ribsAhead
  rw [if_neg (by omega), if_neg (by omega), show (((m : Int) * 8) + (k : Int)).toNat = 8 * m + k by omega]
  exact h.2.2.2.2.1.2.2.1 m (by omega) k hk
theorem k_wind {D : HP} {o : Nat} {S : SC} (h : TC D o S) {m c : Nat} (hm : (m : Int) < S 0 2) (hc : (c : Int) < S 0 1) : fX0_windOn D o m c = wnd S (tu S m) m c :=
  cs_wind h.1 h.2.2.1 h.2.2.2.1 h.2.2.2.2.1.1 hm (h.2.2.2.2.1.2.1 m (by omega)) hc
