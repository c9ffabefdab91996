theorem tu_som {S : SC} {k : Nat} : ∀ m : Nat, tu S m k ≠ -1 → som S k = true
  | 0, h => absurd rfl h
  | m + 1, h => by
    by_cases q : tu S m k = -1
    · unfold tu at *
      simp only [rt] at h
      by_cases c : som S k = true
      · exact c
      · rw [if_neg (fun z => c z.1)] at h
        exact absurd q h
    · exact tu_som m q
theorem som_in {S : SC} (h : OKS S) {k : Nat} (hk : (k : Int) < S 0 3) (hs : som S k = true) : 0 ≤ S 6 k ∧ S 6 k < S 0 1 := by
  have := (h.2.2.2.2.2.2 k hk).1
  unfold som at hs
  simp only [decide_eq_true_eq] at hs
  omega
theorem windMo {D : HP} {S : SC} (hM : MS D S) (h : OKS S) {m : Nat} (hm : (m : Int) < S 0 2) {c : Int} (h0 : 0 ≤ c) (h1 : c < S 0 1) : oX6_windNow D m c := by
  obtain ⟨hf, hg⟩ := h.2.2.2.2.2.1 m hm
  have hmn := h.2.2.1
  have hcn := h.2.1
  have e1 : D 60 (m : Int).toNat = S 4 m := (hM.2.2.1 m hm).1
  have e2 : D 61 (m : Int).toNat = S 5 m := (hM.2.2.1 m hm).2
  have i1 := bes_in h h0 h1 (w := S 4 m)
  have i2 := bes_in h h0 h1 (w := (S 4 m + 1) % 4)
  have i3 := bes_in h h0 h1 (w := (S 4 m + 3) % 4)
  have b1 := besM hM h h0 h1 hf
  have b2 := besM hM h h0 h1 (w := (S 4 m + 1) % 4) (by omega)
  have b3 := besM hM h h0 h1 (w := (S 4 m + 3) % 4) (by omega)
  have far : bes S c (S 4 m) ≠ -1 → (fX6_beside D (bes S c (S 4 m)) (S 4 m) = -1 ∨ (0 ≤ fX6_beside D (bes S c (S 4 m)) (S 4 m) ∧ fX6_beside D (bes S c (S 4 m)) (S 4 m) < S 0 1)) := fun q => by
    have z := i1.resolve_left q
    rw [besM hM h z.1 z.2 hf]
    exact bes_in h z.1 z.2
  unfold oX6_windNow
  rw [e1, e2, b1, b2, b3]
  have by0 : ∀ x : Int, (x = 0 ∨ x = S 5 m ∨ x = S 5 m / 2) → 0 ≤ x ∧ x ≤ 9 := fun x hx => by omega
  refine ⟨by omega, besMo hM h h0 h1, ⟨fun _ => trivial, fun q => besMo hM h (i1.resolve_left q).1 (i1.resolve_left q).2⟩, by omega, ⟨fun _ => ⟨walMo h i1, fun _ => ⟨?_, fun _ => by omega, fun _ => ⟨by omega, by omega⟩⟩, fun _ => trivial⟩, fun _ => trivial⟩, by unfold c32; omega, by omega, besMo hM h h0 h1, walMo h i2, ⟨fun _ => trivial, fun _ => ⟨by unfold c32; omega, by omega, besMo hM h h0 h1, walMo h i3⟩⟩, ?_⟩
  · by_cases q : bes S c (S 4 m) = -1
    · rw [if_pos q]; exact walMo h (Or.inl rfl)
    · rw [if_neg q]; exact walMo h (far q)
  · have hX : ∀ (p q r : Int), 0 ≤ (if p = 0 then ((if q = 0 then ((if r = 0 then (S 5 m : Int) else S 5 m / 2) : Int) else 0) : Int) else 0) ∧ (if p = 0 then ((if q = 0 then ((if r = 0 then (S 5 m : Int) else S 5 m / 2) : Int) else 0) : Int) else 0) ≤ 9 := fun p q r => by
      repeat' split
      all_goals omega
    have hY : ∀ (x p q : Int), (if x ≤ 0 then (0 : Int) else (if (if p = 0 then (0 : Int) else (if q = 0 then (0 : Int) else 1)) = 0 then (0 : Int) else 3)) = 0 ∨ (if x ≤ 0 then (0 : Int) else (if (if p = 0 then (0 : Int) else (if q = 0 then (0 : Int) else 1)) = 0 then (0 : Int) else 3)) = 3 := fun x p q => by
      by_cases z : x ≤ 0
      · exact Or.inl (if_pos z)
      · rw [if_neg z]
        repeat' split
        all_goals first | omega | simp_all
    have f1 : ∀ x y : Int, (0 ≤ x ∧ x ≤ 9) → (y = 0 ∨ y = 3) → c32 (x + y) := fun x y a b => by unfold c32; omega
    have f2 : ∀ x y : Int, (0 ≤ x ∧ x ≤ 9) → (y = 0 ∨ y = 3) → 0 ≤ x + y := fun x y a b => by omega
    exact ⟨f1 _ _ (hX _ _ _) (hY _ _ _), leeMo hM h i1, fun _ => trivial, fun _ => ⟨f2 _ _ (hX _ _ _) (hY _ _ _), trivial⟩⟩
set_option maxHeartbeats 4000000 in
/-- who is elected in a minute, by the model -/
theorem C_elects {D : HP} {S : SC} (h : OKS S) (hM : MS D S) {m : Nat} (hm : (m : Int) < S 0 2) (h66 : ∀ k : Nat, (k : Int) < S 0 3 → D 66 k = tu S (m + 1) k) (h65 : ∀ k : Nat, (k : Int) < S 0 3 → D 65 (8 * m + k) = rb S m k) (h69 : m ≠ 0 → D 69 (m - 1) = inn S (m - 1)) :
    CT mX6_elects [vR 56, vI m] D (fun v E => v = none ∧ (∀ a b, a ≠ 67 → a ≠ 68 → a ≠ 69 → E a b = D a b) ∧ (∀ k : Nat, (k : Int) < S 0 3 → E 67 k = if tu S (m + 1) k = m then (if rtd S m k = true then 1 else 0) else D 67 k) ∧ (∀ k : Nat, E 68 k = if (k : Int) = ele S m then 1 else D 68 k) ∧ (∀ j : Nat, E 69 j = if j = m then inn S m else D 69 j)) := by
  have hmn := h.2.2.1
  have hcn := h.2.2.2.1
  refine V_X6_elects m (I4 := fun x1 x2 x3 E => x1 = m ∧ ∃ j : Nat, x3 = j ∧ (j : Int) ≤ S 0 3 ∧ x2 = elc S m j ∧ (∀ a b, a ≠ 67 → E a b = D a b) ∧ (∀ k : Nat, E 67 k = if k < j ∧ tu S (m + 1) k = m then (if rtd S m k = true then 1 else 0) else D 67 k)) (u4 := fun _ _ x3 E => (E 56 8 - x3).toNat) (fun _ _ => ⟨rfl, 0, rfl, by omega, rfl, fun _ _ _ => rfl, fun k => by simp⟩) ?_
  rintro x1 x2 x3 E ⟨rfl, j, rfl, hj, rfl, hE, h67⟩ hcD c1 c2 c3
  have e8 : E 56 8 = S 0 3 := (hE 56 8 (by decide)).trans hM.1.2.2.2
  have e5 : E 56 5 = S 0 2 := (hE 56 5 (by decide)).trans hM.1.2.2.1
  have hME : MS E S := by
    refine ⟨?_, fun j hj => ?_, fun j hj => ?_, fun j hj => ?_⟩
    · simp only [hE _ _ (show (56 : Nat) ≠ 67 by decide)]; exact hM.1
    · rw [hE _ _ (by decide)]; exact hM.2.1 j hj
    · rw [hE _ _ (by decide), hE _ _ (by decide)]; exact hM.2.2.1 j hj
    · rw [hE _ _ (by decide), hE _ _ (by decide), hE _ _ (by decide)]; exact hM.2.2.2 j hj
  have hin := elc_in (S := S) (m := m) j
  rw [e8, e5]
  refine ⟨fun hc => ?_, fun hc => ⟨by omega, fun ht => ?_, fun ht => ?_⟩⟩
  · have hjj : (j : Int) = S 0 3 := by omega
    have hel : elc S m j = ele S m := by unfold ele; rw [show (S 0 3).toNat = j by omega]
    rw [hel] at hin ⊢
    have ei : (if (m : Int) = 0 then (-1 : Int) else E 69 ((m : Int) - 1).toNat) = if m = 0 then -1 else inn S (m - 1) := by
      by_cases z : m = 0
      · simp [z]
      · rw [if_neg (by omega), if_neg z, hE _ _ (by decide), show ((m : Int) - 1).toNat = m - 1 by omega, h69 z]
    have einn : inn S m = if ele S m = -1 then (if m = 0 then -1 else inn S (m - 1)) else ele S m := by
      cases m with
      | zero => simp only [inn, if_true]; split <;> simp_all
      | succ m => simp only [inn]; rw [if_neg (show ¬ m + 1 = 0 by omega), show m + 1 - 1 = m by omega]
    refine ⟨⟨fun _ => trivial, fun _ => ⟨by unfold c32; omega, by omega⟩⟩, by omega, ?_⟩
    rintro E3 rfl
    rw [ei]
    refine ⟨fun hn => ⟨rfl, fun a b h1 h2 h3 => ?_, fun k hk => ?_, fun k => ?_, fun i => ?_⟩, fun hn => ⟨by omega, ?_⟩⟩
    · rw [hu_k _ _ h3]; exact hE a b h1
    · rw [hu_k _ _ (by decide), h67 k]
      by_cases z : tu S (m + 1) k = m
      · rw [if_pos ⟨by omega, z⟩, if_pos z]
      · rw [if_neg (fun q => z q.2), if_neg z]
    · rw [hu_k _ _ (by decide), hE _ _ (by decide), hn, if_neg (by omega)]
    · by_cases z : i = m
      · subst z
        rw [if_pos rfl, Int.toNat_natCast, hu_s, einn, hn, if_pos rfl]
      · rw [if_neg z, hu_i _ _ (by omega), hE _ _ (by decide)]
    · rintro E6 rfl
      refine ⟨by omega, ?_⟩
      rintro E8 rfl
      refine ⟨rfl, fun a b h1 h2 h3 => ?_, fun k hk => ?_, fun k => ?_, fun i => ?_⟩
      · rw [hu_k _ _ h3, hu_k _ _ h2, hu_k _ _ h3]; exact hE a b h1
      · rw [hu_k _ _ (by decide), hu_k _ _ (by decide), hu_k _ _ (by decide), h67 k]
        by_cases z : tu S (m + 1) k = m
        · rw [if_pos ⟨by omega, z⟩, if_pos z]
        · rw [if_neg (fun q => z q.2), if_neg z]
      · rw [hu_k _ _ (by decide)]
        by_cases z : (k : Int) = ele S m
        · rw [if_pos z, show (ele S m).toNat = k by omega, hu_s]
        · rw [if_neg z, hu_i _ _ (by omega), hu_k _ _ (by decide), hE _ _ (by decide)]
      · by_cases z : i = m
        · subst z
          rw [if_pos rfl, Int.toNat_natCast, hu_s, einn, if_neg hn]
        · rw [if_neg z, hu_i _ _ (by omega), hu_k _ _ (by decide), hu_i _ _ (by omega), hE _ _ (by decide)]
  · rw [Int.toNat_natCast] at ht
    have ht2 : tu S (m + 1) j = m := by rw [← h66 j (by omega), ← hE 66 j (by decide)]; exact ht
    have hsm := tu_som (S := S) (k := j) (m + 1) (by omega)
    have hcl := som_in h (by omega) hsm
    have e62 : E 62 (j : Int).toNat = S 6 j := (hME.2.2.2 j (by omega)).1
    have hz : (if S 0 2 ≤ (m : Int) + 1 then (0 : Int) else (if (fX6_windNow E ((m : Int) + 1) (E 62 (j : Int).toNat)) = 0 then (1 : Int) else 0)) = if rtd S m j = true then 1 else 0 := by
      unfold rtd
      by_cases q : S 0 2 ≤ (m : Int) + 1
      · rw [if_pos q, if_neg (by simp; omega)]
      · rw [if_neg q, e62, show ((m : Int) + 1) = ((m + 1 : Nat) : Int) by omega, windM hME h (m := m + 1) (by omega) hcl.1 hcl.2, wnd_congr (t' := tu S (m + 1)) (fun k hk => by rw [hE 66 k (by decide), h66 k hk])]
        simp only [decide_eq_true_eq]
        by_cases y : wnd S (tu S (m + 1)) (m + 1) (S 6 j) = 0
        · rw [if_pos y, if_pos ⟨by omega, y⟩]
        · rw [if_neg y, if_neg (fun z => y z.2)]
    refine ⟨by unfold c32; omega, ⟨fun _ => trivial, fun q => ⟨by unfold c32; omega, by omega, ?_⟩⟩, by omega, ?_⟩
    · rw [e62, show ((m : Int) + 1) = ((m + 1 : Nat) : Int) by omega]
      exact windMo hME h (by omega) hcl.1 hcl.2
    rw [hz]
    rintro F rfl
    refine ⟨by omega, ⟨fun _ => ⟨fun _ => trivial, fun _ => ⟨by unfold c32; omega, by unfold c32; omega, by omega, by unfold c32; omega, by unfold c32; omega, by omega⟩⟩, fun _ => trivial⟩, ?_⟩
    rintro v rfl
    refine ⟨by unfold c32; omega, ⟨rfl, j + 1, by omega, by omega, ?_, fun a b hab => ?_, fun k => ?_⟩, ?_⟩
    · rw [elc]
      have g1 : ∀ i : Nat, (i : Int) < S 0 3 → E 65 (8 * (m : Int) + (i : Int)).toNat = rb S m i := fun i hi => by
        rw [show (8 * (m : Int) + (i : Int)).toNat = 8 * m + i by omega, hE 65 _ (by decide), h65 i hi]
      rw [Int.toNat_natCast, hu_s, hu_k _ _ (show (65 : Nat) ≠ 67 by decide), hu_k _ _ (show (65 : Nat) ≠ 67 by decide), g1 j (by omega)]
      rcases hin with q | q
      · simp only [q, ht2, if_true, true_or, and_true, true_and]
        cases hr : rtd S m j <;> simp
      · have g2 : E 65 (8 * (m : Int) + elc S m j).toNat = rb S m (elc S m j).toNat := by
          have := g1 (elc S m j).toNat (by omega)
          rw [← this]
          congr 2
          omega
        rw [g2]
        have q1 : elc S m j ≠ -1 := by omega
        simp only [q1, ht2, if_false, false_or, true_and]
        cases hr : rtd S m j
        · by_cases y : rb S m j < rb S m (elc S m j).toNat
          · rw [if_neg (show ¬ rb S m (elc S m j).toNat ≤ rb S m j by omega)]
            simp [y]
          · rw [if_pos (show rb S m (elc S m j).toNat ≤ rb S m j by omega)]
            simp [y]
        · simp
    · rw [hu_k _ _ hab]; exact hE a b hab
    · rw [Int.toNat_natCast]
      by_cases z : k = j
      · subst z
        rw [hu_s, if_pos (show k < k + 1 ∧ tu S (m + 1) k = m from ⟨by omega, ht2⟩)]
      · rw [hu_i _ _ z, h67 k]
        by_cases y : k < j ∧ tu S (m + 1) k = m
        · rw [if_pos y, if_pos (show k < j + 1 ∧ tu S (m + 1) k = m from ⟨by omega, y.2⟩)]
        · rw [if_neg y, if_neg (show ¬ (k < j + 1 ∧ tu S (m + 1) k = m) from fun q => y ⟨by omega, q.2⟩)]
    · rw [hu_k _ _ (by decide), e8]; omega
  · rw [Int.toNat_natCast] at ht
    have ht2 : tu S (m + 1) j ≠ m := by rw [← h66 j (by omega), ← hE 66 j (by decide)]; exact ht
    refine ⟨by unfold c32; omega, ⟨rfl, j + 1, by omega, by omega, ?_, hE, fun k => ?_⟩, by omega⟩
    · rw [elc, if_neg (fun q => ht2 q.1)]
    · rw [h67 k]
      by_cases y : k < j ∧ tu S (m + 1) k = m
      · rw [if_pos y, if_pos (show k < j + 1 ∧ tu S (m + 1) k = m from ⟨by omega, y.2⟩)]
      · rw [if_neg y, if_neg (show ¬ (k < j + 1 ∧ tu S (m + 1) k = m) from fun q => ?_)]
        by_cases e : k = j
        · rw [e] at q; exact ht2 q.2
        · exact y ⟨by have := q.1; omega, q.2⟩
