def tN (D : HP) (t : Nat) : Nat := (D 57 t).toNat
def tB (D : HP) (t : Nat) : Nat → Int := fun k => D 58 (39 * t + k)
/-- the model's texts: lengths and bytes -/
def TXM (D : HP) : Prop := (0 ≤ D 57 0 ∧ D 57 0 ≤ 29) ∧ (0 ≤ D 57 1 ∧ D 57 1 ≤ 24) ∧ (0 ≤ D 57 2 ∧ D 57 2 ≤ 39) ∧ ∀ i : Nat, i < 117 → 0 ≤ D 58 i ∧ D 58 i ≤ 255
theorem byM {D : HP} {t k : Nat} (h : (k : Int) < D 57 t) : fX6_byteAt D t k = tB D t k := by
  unfold fX6_byteAt tB
  rw [Int.toNat_natCast, if_neg (by omega), show (39 * (t : Int) + (k : Int)).toNat = 39 * t + k by omega]
theorem byMe {D : HP} {t k : Nat} (h : D 57 t ≤ k) : fX6_byteAt D t k = -1 := by
  unfold fX6_byteAt
  rw [Int.toNat_natCast, if_pos h]
theorem byMo {D : HP} {t : Nat} (h : TXM D) (ht : t < 3) {k : Int} (h0 : 0 ≤ k) : oX6_byteAt D t k := by
  obtain ⟨h1, h2, h3, -⟩ := h
  unfold oX6_byteAt
  rw [Int.toNat_natCast]
  have : t = 0 ∨ t = 1 ∨ t = 2 := by omega
  refine ⟨by omega, ⟨fun _ => trivial, fun q => ?_⟩, trivial⟩
  unfold c32
  rcases this with rfl | rfl | rfl <;> omega
theorem byMr {D : HP} {t : Nat} (h : TXM D) (ht : t < 3) {k : Int} (h0 : 0 ≤ k) : -1 ≤ fX6_byteAt D t k ∧ fX6_byteAt D t k ≤ 255 := by
  obtain ⟨h1, h2, h3, h4⟩ := h
  unfold fX6_byteAt
  rw [Int.toNat_natCast]
  split
  · omega
  · have : t = 0 ∨ t = 1 ∨ t = 2 := by omega
    have := h4 (39 * (t : Int) + k).toNat (by rcases this with rfl | rfl | rfl <;> omega)
    omega
theorem fiM {D : HP} {t k : Nat} (lo hi : Int) : fX6_figureAt D t k lo hi = if lo ≤ fX6_byteAt D t k - 48 ∧ fX6_byteAt D t k - 48 ≤ hi then fX6_byteAt D t k - 48 else -1 := by
  unfold fX6_figureAt fX6_within
  repeat' split
  all_goals first | omega | rfl
theorem fiMo {D : HP} {t : Nat} (h : TXM D) (ht : t < 3) {k : Int} (h0 : 0 ≤ k) (lo hi : Int) : oX6_figureAt D t k lo hi := by
  have := byMr h ht h0
  unfold oX6_figureAt
  exact ⟨byMo h ht h0, by unfold c32; omega, trivial⟩
theorem wyM {D : HP} {x : Int} : fX6_wayOf D x = wy x := rfl
set_option maxHeartbeats 4000000 in
theorem C_readsCorner {D : HP} (hT : TXM D) : CT mX6_readsCorner [vR 56] D (fun v E => v = some (vI (cfl (tB D 0) (tN D 0))) ∧ E 56 2 = cwd (tB D 0) (tN D 0) ∧ E 56 3 = ccl (tB D 0) (tN D 0) ∧ (∀ j : Nat, (j : Int) < ccl (tB D 0) (tN D 0) → E 59 j = cW (tB D 0) (tN D 0) j) ∧ (∀ a i, a ≠ 59 → (a ≠ 56 ∨ (i ≠ 2 ∧ i ≠ 3)) → E a i = D a i)) := by
  have hn := hT.1
  have hnn : (D 57 0) = (tN D 0 : Int) := by unfold tN; omega
  generalize hb : tB D 0 = b
  generalize hne : tN D 0 = n at *
  refine V_X6_readsCorner (I22 := fun x1 x2 x3 x4 x5 E => ∃ k : Nat, x5 = k ∧ k ≤ n ∧ (∀ i, i < k → cbad b i = false) ∧ x1 = cR b k ∧ x2 = cC b k ∧ x3 = cN b k ∧ x4 = cM b k ∧ (∀ j : Nat, (j : Int) < cN b k → E 59 j = cW b k j) ∧ (∀ a i, a ≠ 59 → (a ≠ 56 ∨ (i ≠ 2 ∧ i ≠ 3)) → E a i = D a i) ∧ E 56 2 = 1 ∧ E 56 3 = 0) (u22 := fun _ _ _ _ x5 E => (E 57 0 - x5).toNat) ?_ ?_
  · intro _
    rintro E1 rfl
    rintro E3 rfl
    refine ⟨0, rfl, Nat.zero_le _, fun i hi => absurd hi (Nat.not_lt_zero _), rfl, rfl, rfl, rfl, fun j hj => absurd hj (by show ¬ (j : Int) < 0; omega), fun a i h1 h2 => ?_, hu_s _ _ _ _, ?_⟩
    · rcases h2 with h2 | h2
      · rw [hu_k _ _ h2, hu_k _ _ h2]
      · rw [hu_i _ _ h2.1, hu_i _ _ h2.2]
    · rw [hu_i _ _ (by decide), hu_s]
  rintro x1 x2 x3 x4 x5 E ⟨k, rfl, hk, hnb, rfl, rfl, rfl, rfl, hw, hE, hE2, hE3⟩ hcD c1 c2 c3 c4 c5
  have e57 : E 57 0 = n := (hE 57 0 (by decide) (Or.inl (by decide))).trans hnn
  have hci := cinv b k hnb
  have hcn := cN_in hnb
  have hTE : TXM E := by
    refine ⟨?_, ?_, ?_, fun i hi => ?_⟩
    · rw [hE 57 0 (by decide) (Or.inl (by decide))]; exact hT.1
    · rw [hE 57 1 (by decide) (Or.inl (by decide))]; exact hT.2.1
    · rw [hE 57 2 (by decide) (Or.inl (by decide))]; exact hT.2.2.1
    · rw [hE 58 i (by decide) (Or.inl (by decide))]; exact hT.2.2.2 i hi
  rw [e57]
  -- a fault at k
  have faultQ : k < n → cbad b k = true → (some (vI (k : Int)) = some (vI (cfl b n)) ∧ E 56 2 = cwd b n ∧ E 56 3 = ccl b n ∧ (∀ j : Nat, (j : Int) < ccl b n → E 59 j = cW b n j) ∧ (∀ a i, a ≠ 59 → (a ≠ 56 ∨ (i ≠ 2 ∧ i ≠ 3)) → E a i = D a i)) := fun hkn hbad => by
    have e : cfl b n = k := by
      unfold cfl
      rw [fsN_yes hnb hbad hkn, if_neg (by omega)]
    have e2 : cwd b n = 1 := by unfold cwd; rw [e, if_neg (by omega)]
    have e3 : ccl b n = 0 := by unfold ccl; rw [e, if_neg (by omega)]
    refine ⟨by rw [e], by rw [e2]; exact hE2, by rw [e3]; exact hE3, fun j hj => absurd hj (by rw [e3]; omega), hE⟩
  refine ⟨fun hc => ?_, fun hc => ?_⟩
  · have hkn : k = n := by omega
    subst hkn
    have hfs : fsN (cbad b) k = -1 := fsN_no hnb
    have badQ : cend b k = true → (some (vI (k : Int)) = some (vI (cfl b k)) ∧ E 56 2 = cwd b k ∧ E 56 3 = ccl b k ∧ (∀ j : Nat, (j : Int) < ccl b k → E 59 j = cW b k j) ∧ (∀ a i, a ≠ 59 → (a ≠ 56 ∨ (i ≠ 2 ∧ i ≠ 3)) → E a i = D a i)) := fun hce => by
      have e : cfl b k = k := by unfold cfl; rw [if_pos hfs, if_pos hce]
      have e2 : cwd b k = 1 := by unfold cwd; rw [e, if_neg (by omega)]
      have e3 : ccl b k = 0 := by unfold ccl; rw [e, if_neg (by omega)]
      refine ⟨by rw [e], by rw [e2]; exact hE2, by rw [e3]; exact hE3, fun j hj => absurd hj (by rw [e3]; omega), hE⟩
    have okQ : cend b k = false → ∀ (F : HP), F = hu E 56 2 (if cR b k = 0 then ((if cC b k ≤ 0 then ((if cR b k ≤ 0 then (1 : Int) else cM b k) : Int) else cC b k) : Int) else (if cR b k ≤ 0 then (1 : Int) else cM b k)) → ∀ (G : HP), G = hu F 56 3 (cN b k) → (some (vI (-1)) = some (vI (cfl b k)) ∧ G 56 2 = cwd b k ∧ G 56 3 = ccl b k ∧ (∀ j : Nat, (j : Int) < ccl b k → G 59 j = cW b k j) ∧ (∀ a i, a ≠ 59 → (a ≠ 56 ∨ (i ≠ 2 ∧ i ≠ 3)) → G a i = D a i)) := fun hce F hF G hG => by
      have e : cfl b k = -1 := by unfold cfl; rw [if_pos hfs, hce]; rfl
      subst hG hF
      refine ⟨by rw [e], ?_, ?_, fun j hj => ?_, fun a i h1 h2 => ?_⟩
      · rw [hu_i _ _ (by decide), hu_s]
        unfold cwd
        rw [if_pos e]
        repeat' split
        all_goals omega
      · rw [hu_s]; unfold ccl; rw [if_pos e]
      · unfold ccl at hj
        rw [if_pos e] at hj
        rw [hu_k _ _ (by decide), hu_k _ _ (by decide)]
        exact hw j hj
      · rcases h2 with h2 | h2
        · rw [hu_k _ _ h2, hu_k _ _ h2]; exact hE a i h1 (Or.inl h2)
        · rw [hu_i _ _ h2.2, hu_i _ _ h2.1]; exact hE a i h1 (Or.inr h2)
    have ce : ∀ x : Bool, (x = true ↔ (0 < k ∧ (cC b k = 0 ∨ (0 < cR b k ∧ cC b k < cM b k)))) → cend b k = x := fun x hx => by
      unfold cend
      cases x with
      | true => exact decide_eq_true (hx.mp rfl)
      | false => exact decide_eq_false (fun q => by simpa using hx.mpr q)
    refine ⟨fun h0 => okQ (ce false ⟨fun q => by simp at q, fun q => by omega⟩), fun h0 => ⟨fun h1 => badQ (ce true ⟨fun _ => ⟨by omega, Or.inl h1⟩, fun _ => rfl⟩), fun h1 => ⟨fun h2 => okQ (ce false ⟨fun q => by simp at q, fun q => by omega⟩), fun h2 => ⟨fun h3 => okQ (ce false ⟨fun q => by simp at q, fun q => by omega⟩), fun h3 => badQ (ce true ⟨fun _ => ⟨by omega, Or.inr ⟨by omega, by omega⟩⟩, fun _ => rfl⟩)⟩⟩⟩⟩
  · have hkn : k < n := by omega
    have eb : fX6_byteAt E 0 (k : Int) = b k := by
      have := byM (D := E) (t := 0) (k := k) (by rw [e57]; omega)
      rw [← hb]
      exact this.trans (by unfold tB; exact hE 58 _ (by decide) (Or.inl (by decide)))
    rw [eb]
    have cb : (cR b k = 5 ∨ (b k = 59 ∧ (cC b k = 0 ∨ (0 < cR b k ∧ cC b k < cM b k))) ∨ (b k ≠ 59 ∧ ((b k ≠ 46 ∧ b k ≠ 35) ∨ cC b k = cM b k))) → cbad b k = true := fun q => by unfold cbad; exact decide_eq_true q
    have cg : ¬ (cR b k = 5 ∨ (b k = 59 ∧ (cC b k = 0 ∨ (0 < cR b k ∧ cC b k < cM b k))) ∨ (b k ≠ 59 ∧ ((b k ≠ 46 ∧ b k ≠ 35) ∨ cC b k = cM b k))) → ∀ i, i < k + 1 → cbad b i = false := fun q i hi => by
      by_cases e : i = k
      · subst e; unfold cbad; exact decide_eq_false q
      · exact hnb i (by omega)
    refine ⟨byMo hTE (t := 0) (by decide) (by omega), fun h5 => faultQ hkn (cb (Or.inl h5)), fun h5 => ⟨fun h59 => ⟨fun h0 => faultQ hkn (cb (Or.inr (Or.inl ⟨h59, Or.inl h0⟩))), fun h0 => ⟨fun hr => ?_, fun hr => ⟨fun hm => ?_, fun hm => faultQ hkn (cb (Or.inr (Or.inl ⟨h59, Or.inr ⟨by omega, by omega⟩⟩)))⟩⟩⟩, fun h59 => ⟨fun h46 => ⟨fun hm => faultQ hkn (cb (Or.inr (Or.inr ⟨h59, Or.inr hm⟩))), fun hm => ⟨by omega, ?_⟩⟩, fun h46 => ⟨fun h35 => ⟨fun hm => faultQ hkn (cb (Or.inr (Or.inr ⟨h59, Or.inr hm⟩))), fun hm => ⟨by omega, ?_⟩⟩, fun h35 => faultQ hkn (cb (Or.inr (Or.inr ⟨h59, Or.inl ⟨h46, h35⟩⟩)))⟩⟩⟩⟩
    · refine ⟨by unfold c32; omega, by unfold c32; omega, ⟨k + 1, by omega, by omega, cg (by omega), ?_, ?_, ?_, ?_, fun j hj => ?_, hE, hE2, hE3⟩, by omega⟩
      · rw [cR_s, if_pos h59]
      · rw [cC_s, if_pos h59]
      · rw [cN_s, if_pos h59]
      · rw [cM_s, if_pos h59]
      · rw [cN_s, if_pos h59] at hj
        rw [cW_s, if_pos h59]; exact hw j hj
    · refine ⟨by unfold c32; omega, by unfold c32; omega, ⟨k + 1, by omega, by omega, cg (by omega), ?_, ?_, ?_, ?_, fun j hj => ?_, hE, hE2, hE3⟩, by omega⟩
      · rw [cR_s, if_pos h59]
      · rw [cC_s, if_pos h59]
      · rw [cN_s, if_pos h59]
      · rw [cM_s, if_pos h59]
      · rw [cN_s, if_pos h59] at hj
        rw [cW_s, if_pos h59]; exact hw j hj
    all_goals
      rintro F rfl
      refine ⟨by unfold c32; omega, by unfold c32; omega, by unfold c32; omega, ⟨k + 1, by omega, by omega, cg (by omega), ?_, ?_, ?_, ?_, fun j hj => ?_, fun a i h1 h2 => ?_, ?_, ?_⟩, ?_⟩
      · rw [cR_s, if_neg h59]
      · rw [cC_s, if_neg h59]
      · rw [cN_s, if_neg h59]
      · rw [cM_s, if_neg h59]
      · rw [cN_s, if_neg h59] at hj
        rw [cW_s, if_neg h59]
        by_cases z : (j : Int) = cN b k
        · rw [if_pos z, show (cN b k).toNat = j by omega, hu_s]
        · rw [if_neg z, hu_i _ _ (by omega)]; exact hw j (by omega)
      · rw [hu_k _ _ h1]; exact hE a i h1 h2
      · rw [hu_k _ _ (by decide)]; exact hE2
      · rw [hu_k _ _ (by decide)]; exact hE3
      · rw [hu_k _ _ (by decide), e57]; omega
