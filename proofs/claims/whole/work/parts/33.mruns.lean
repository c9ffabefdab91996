theorem somM {D : HP} {S : SC} (hM : MS D S) (h : OKS S) {k : Nat} (hk : (k : Int) < S 0 3) : fX6_isSomewhere D k = if som S k = true then 1 else 0 := by
  have h6 := (h.2.2.2.2.2.2 k hk).1
  unfold fX6_isSomewhere som
  rw [Int.toNat_natCast, (hM.2.2.2 k hk).1, hM.1.2.1]
  by_cases q : S 0 1 ≤ S 6 k
  · rw [if_pos q, if_neg (by simp; omega)]
  · rw [if_neg q, hM.2.1 (S 6 k).toNat (by omega)]
    by_cases z : S 1 (S 6 k).toNat = 0
    · rw [if_pos z, if_pos (by simp; exact ⟨by omega, z⟩)]
    · rw [if_neg z, if_neg (by simp; intro _; exact z)]
theorem somMo {D : HP} {S : SC} (hM : MS D S) (h : OKS S) {k : Nat} (hk : (k : Int) < S 0 3) : oX6_isSomewhere D k := by
  have h6 := (h.2.2.2.2.2.2 k hk).1
  have h8 := h.2.2.2.1
  have hc := h.2.1
  unfold oX6_isSomewhere
  rw [Int.toNat_natCast, (hM.2.2.2 k hk).1, hM.1.2.1]
  refine ⟨by omega, ⟨fun _ => trivial, fun _ => ?_⟩, trivial⟩
  omega
theorem stnM {D : HP} {S : SC} (hM : MS D S) {k : Nat} (hk : (k : Int) < S 0 3) (w : Int) : fX6_strain D k w = stn S k w := by
  unfold fX6_strain stn
  rw [Int.toNat_natCast, (hM.2.2.2 k hk).2.2]
theorem stnMo {D : HP} {S : SC} (hM : MS D S) (h : OKS S) {k : Nat} (hk : (k : Int) < S 0 3) {w : Int} (hw : 0 ≤ w ∧ w ≤ 12) : oX6_strain D k w := by
  have h8 := h.2.2.2.1
  unfold oX6_strain
  refine ⟨by omega, ⟨fun _ => by omega, fun _ => ⟨by omega, fun _ => trivial, fun _ => ?_⟩⟩, trivial⟩
  unfold c32
  omega
theorem MS_frame {D E : HP} {S : SC} (hM : MS D S) (hE : ∀ a b, (a < 65 ∨ 69 < a) → E a b = D a b) : MS E S := by
  refine ⟨?_, fun j hj => ?_, fun j hj => ?_, fun j hj => ?_⟩
  · simp only [hE 56 _ (by omega)]; exact hM.1
  · rw [hE _ _ (by omega)]; exact hM.2.1 j hj
  · rw [hE _ _ (by omega), hE _ _ (by omega)]; exact hM.2.2.1 j hj
  · rw [hE _ _ (by omega), hE _ _ (by omega), hE _ _ (by omega)]; exact hM.2.2.2 j hj
set_option maxHeartbeats 4000000 in
/-- a minute goes by, in the model -/
theorem C_goesBy {D : HP} {S : SC} (h : OKS S) (hM : MS D S) {m : Nat} (hm : (m : Int) < S 0 2) (h66 : ∀ k : Nat, (k : Int) < S 0 3 → D 66 k = tu S m k) (h65 : ∀ n k : Nat, n ≤ m → (k : Int) < S 0 3 → D 65 (8 * n + k) = rb S n k) (h69 : ∀ j : Nat, j < m → D 69 j = inn S j) :
    CT mX6_goesBy [vR 56, vI m] D (fun v E => v = none ∧ (∀ a b, (a < 65 ∨ 69 < a) → E a b = D a b) ∧ (∀ k : Nat, (k : Int) < S 0 3 → E 66 k = tu S (m + 1) k) ∧ (∀ n k : Nat, n ≤ m + 1 → (k : Int) < S 0 3 → E 65 (8 * n + k) = rb S n k) ∧ (∀ j : Nat, j < m + 1 → E 69 j = inn S j) ∧
      (∀ k : Nat, (k : Int) < S 0 3 → E 67 k = if tu S (m + 1) k = m then (if rtd S m k = true then 1 else 0) else D 67 k) ∧ (∀ k : Nat, E 68 k = if (k : Int) = ele S m then 1 else D 68 k)) := by
  have hmn := h.2.2.1
  have hcn := h.2.2.2.1
  refine V_X6_goesBy m (I2 := fun x1 x2 E => x1 = m ∧ ∃ j : Nat, x2 = j ∧ (j : Int) ≤ S 0 3 ∧ (∀ a b, a ≠ 65 → a ≠ 66 → E a b = D a b) ∧ (∀ k : Nat, (k : Int) < S 0 3 → E 66 k = if k < j then tu S (m + 1) k else tu S m k) ∧ (∀ i : Nat, i < 8 * m + 8 → E 65 i = D 65 i) ∧ (∀ k : Nat, k < j → E 65 (8 * (m + 1) + k) = rb S (m + 1) k)) (u2 := fun _ x2 E => (E 56 8 - x2).toNat)
    (fun _ _ => ⟨rfl, 0, rfl, by omega, fun _ _ _ _ => rfl, fun k hk => by rw [if_neg (by omega)]; exact h66 k hk, fun _ _ => rfl, fun k hk => absurd hk (Nat.not_lt_zero _)⟩) ?_
  rintro x1 x2 E ⟨rfl, j, rfl, hj, hE, hE66, hE65, hE65n⟩ hcD c1 c2
  have hME : MS E S := MS_frame hM (fun a b hab => hE a b (by omega) (by omega))
  have e8 : E 56 8 = S 0 3 := hME.1.2.2.2
  rw [e8]
  refine ⟨fun hc => ?_, fun hc => ?_⟩
  · have hjj : (j : Int) = S 0 3 := by omega
    refine ⟨_, C_elects h hME hm (fun k hk => by rw [hE66 k hk, if_pos (by omega)]) (fun k hk => by rw [hE65 _ (by omega)]; exact h65 m k (Nat.le_refl _) hk) (fun hm0 => by rw [hE _ _ (by decide) (by decide)]; exact h69 _ (by omega)), ?_⟩
    rintro F ⟨-, f1, f2, f3, f4⟩ hcF
    refine ⟨rfl, fun a b hab => ?_, fun k hk => ?_, fun n k hn hk => ?_, fun i hi => ?_, fun k hk => ?_, fun k => ?_⟩
    · rw [f1 a b (by omega) (by omega) (by omega)]; exact hE a b (by omega) (by omega)
    · rw [f1 _ _ (by decide) (by decide) (by decide), hE66 k hk, if_pos (by omega)]
    · rw [f1 _ _ (by decide) (by decide) (by decide)]
      rcases Nat.lt_or_ge n (m + 1) with q | q
      · rw [hE65 _ (by omega)]; exact h65 n k (by omega) hk
      · rw [show n = m + 1 by omega]; exact hE65n k (by omega)
    · rw [f4 i]
      by_cases z : i = m
      · rw [if_pos z, z]
      · rw [if_neg z, hE _ _ (by decide) (by decide)]; exact h69 i (by omega)
    · rw [f2 k hk, hE _ _ (by decide) (by decide)]
    · rw [f3 k, hE _ _ (by decide) (by decide)]
  · have hj3 : (j : Int) < S 0 3 := by omega
    have i1 : (8 * (m : Int) + (j : Int)).toNat = 8 * m + j := by omega
    have i2 : (8 * (m : Int) + 8 + (j : Int)).toNat = 8 * (m + 1) + j := by omega
    have v0 : E 65 (8 * (m : Int) + (j : Int)).toNat = rb S m j := by rw [i1, hE65 _ (by omega)]; exact h65 m j (Nat.le_refl _) hj3
    have hrb := rb_in h hj3 m
    rw [i2, v0]
    refine ⟨by unfold c32; omega, by unfold c32; omega, by omega, by unfold c32; omega, by unfold c32; omega, by unfold c32; omega, by omega, ?_⟩
    intro F hF
    have hMF : MS F S := MS_frame hME (fun a b hab => by rw [hF, hu_k _ _ (by omega)])
    have hF66 : F 66 (j : Int).toNat = tu S m j := by rw [hF, hu_k _ _ (by decide), Int.toNat_natCast, hE66 j hj3, if_neg (by omega)]
    rw [somM hMF h hj3, hF66]
    refine ⟨somMo hMF h hj3, fun hs => ⟨by unfold c32; omega, ⟨rfl, j + 1, by omega, by omega, fun a b h1 h2 => ?_, fun k hk => ?_, fun i hi => ?_, fun k hk => ?_⟩, ?_⟩, fun hs => ⟨by omega, fun ht => ?_, fun ht => ⟨by unfold c32; omega, ⟨rfl, j + 1, by omega, by omega, fun a b h1 h2 => ?_, fun k hk => ?_, fun i hi => ?_, fun k hk => ?_⟩, ?_⟩⟩⟩
    · rw [hF, hu_k _ _ h1]; exact hE a b h1 h2
    · rw [hF, hu_k _ _ (by decide), hE66 k hk]
      by_cases z : k = j
      · subst z
        rw [if_neg (by omega), if_pos (by omega)]
        unfold tu; simp only [rt]
        rw [if_neg (fun q => by rw [if_pos q.1] at hs; omega)]
      · by_cases y : k < j
        · rw [if_pos y, if_pos (by omega)]
        · rw [if_neg y, if_neg (by omega)]
    · rw [hF, hu_i _ _ (by omega)]; exact hE65 i hi
    · by_cases z : k = j
      · subst z
        rw [hF, hu_s]
        unfold rb; simp only [rt]
        rw [if_neg (fun q => by rw [if_pos q.1] at hs; omega)]
      · rw [hF, hu_i _ _ (by omega)]; exact hE65n k (by omega)
    · rw [hMF.1.2.2.2]; omega
    · -- not turned ahead: strained
      have hsm : som S j = true := by
        by_cases z : som S j = true
        · exact z
        · rw [if_neg z] at hs; omega
      have hcl := som_in h hj3 hsm
      have e62 : F 62 (j : Int).toNat = S 6 j := by rw [Int.toNat_natCast]; exact (hMF.2.2.2 j hj3).1
      have ew : fX6_windNow F m (F 62 (j : Int).toNat) = wnd S (tu S m) m (S 6 j) := by
        rw [e62, windM hMF h hm hcl.1 hcl.2]
        refine wnd_congr fun k hk => ?_
        rw [hF, hu_k _ _ (by decide), hE66 k hk]
        by_cases z : k < j
        · rw [if_pos z]
          by_cases y : tu S m k = -1
          · have : tu S (m + 1) k = -1 ∨ tu S (m + 1) k = m := by
              unfold tu at *; simp only [rt]; split
              · exact Or.inr rfl
              · exact Or.inl y
            omega
          · rw [tu_keep y]
        · rw [if_neg z]
      have hw := wnd_in h hm (t := tu S m) (c := S 6 j)
      rw [ew, stnM hMF hj3]
      refine ⟨by omega, ?_, stnMo hMF h hj3 hw, ?_⟩
      · rw [e62]; exact windMo hMF h hm hcl.1 hcl.2
      rintro v hv
      refine ⟨by omega, ?_⟩
      intro G hG
      refine ⟨by unfold c32; omega, by unfold c32; omega, by unfold c32; omega, ⟨fun _ => ⟨fun _ => trivial, fun _ => by unfold c32; omega⟩, fun _ => trivial⟩, by omega, ?_⟩
      intro K hK
      have hMK : MS K S := MS_frame hMF (fun a b hab => by rw [hK, hG, hu_k _ _ (by omega), hu_k _ _ (by omega)])
      refine ⟨by unfold c32; omega, ⟨rfl, j + 1, by omega, by omega, fun a b h1 h2 => ?_, fun k hk => ?_, fun i hi => ?_, fun k hk => ?_⟩, ?_⟩
      · rw [hK, hG, hF, hu_k _ _ h1, hu_k _ _ h2, hu_k _ _ h1]; exact hE a b h1 h2
      · rw [hK, hu_k _ _ (by decide), hG, Int.toNat_natCast]
        by_cases z : k = j
        · subst z
          rw [hu_s, if_pos (show k < k + 1 by omega)]
          unfold tu at *; simp only [rt]
          by_cases y : v ≤ rb S m k
          · rw [if_pos y, if_neg (fun q => by have := q.2.2; unfold rb at y; rw [← hv] at this; omega)]
            exact ht.symm
          · rw [if_neg y, if_pos ⟨hsm, ht, by rw [← hv]; unfold rb at y; omega⟩]
        · rw [hu_i _ _ z, hF, hu_k _ _ (by decide), hE66 k hk]
          by_cases y : k < j
          · rw [if_pos y, if_pos (by omega)]
          · rw [if_neg y, if_neg (by omega)]
      · rw [hK, hu_i _ _ (by omega), hG, hu_k _ _ (by decide), hF, hu_i _ _ (by omega)]; exact hE65 i hi
      · by_cases z : k = j
        · subst z
          rw [hK, hu_s]
          unfold rb at *; unfold tu at *; simp only [rt]
          rw [← hv]
          by_cases y : v = (rt S m).1 k
          · by_cases x : (rt S m).1 k ≤ 1
            · rw [if_pos y, if_pos x, if_neg (fun q => by omega)]
            · rw [if_pos y, if_neg x, if_pos ⟨hsm, ht, y, by omega⟩]
          · rw [if_neg y, if_neg (fun q => y q.2.2.1)]
        · rw [hK, hu_i _ _ (by omega), hG, hu_k _ _ (by decide), hF, hu_i _ _ (by omega)]; exact hE65n k (by omega)
      · rw [hMK.1.2.2.2]; omega
    · rw [hF, hu_k _ _ h1]; exact hE a b h1 h2
    · rw [hF, hu_k _ _ (by decide), hE66 k hk]
      by_cases z : k = j
      · subst z
        rw [if_neg (by omega), if_pos (by omega), tu_keep ht]
      · by_cases y : k < j
        · rw [if_pos y, if_pos (by omega)]
        · rw [if_neg y, if_neg (by omega)]
    · rw [hF, hu_i _ _ (by omega)]; exact hE65 i hi
    · by_cases z : k = j
      · subst z
        rw [hF, hu_s]
        unfold rb tu at *; simp only [rt]
        rw [if_neg (fun q => ht q.2.1)]
      · rw [hF, hu_i _ _ (by omega)]; exact hE65n k (by omega)
    · rw [hMF.1.2.2.2]; omega
set_option maxHeartbeats 4000000 in
/-- all minutes, in the model -/
theorem C_runs {D : HP} {S : SC} (h : OKS S) (hM : MS D S) :
    CT mX6_runs [vR 56] D (fun v E => v = none ∧ (∀ a b, (a < 65 ∨ 69 < a) → E a b = D a b) ∧ (∀ k : Nat, (k : Int) < S 0 3 → E 66 k = tu S (S 0 2).toNat k) ∧ (∀ n k : Nat, (n : Int) ≤ S 0 2 → (k : Int) < S 0 3 → E 65 (8 * n + k) = rb S n k) ∧ (∀ j : Nat, (j : Int) < S 0 2 → E 69 j = inn S j) ∧
      (∀ k : Nat, (k : Int) < S 0 3 → E 67 k = if tu S (S 0 2).toNat k = -1 then 0 else (if rtd S (tu S (S 0 2).toNat k).toNat k = true then 1 else 0)) ∧ (∀ k : Nat, k < 8 → E 68 k = if exB (fun i => decide ((k : Int) = ele S i)) (S 0 2).toNat = true then 1 else 0)) := by
  have hmn := h.2.2.1
  have hcn := h.2.2.2.1
  refine V_X6_runs (I2 := fun x1 E => ∃ j : Nat, x1 = j ∧ j ≤ 8 ∧ (∀ a b, (a < 65 ∨ 69 < a) → E a b = D a b) ∧ (∀ k : Nat, k < j → E 66 k = -1 ∧ E 67 k = 0 ∧ E 68 k = 0 ∧ E 65 k = D 63 k)) (u2 := fun x1 _ => (20 - x1).toNat)
    (I49 := fun x1 E => ∃ m : Nat, x1 = m ∧ (m : Int) ≤ S 0 2 ∧ (∀ a b, (a < 65 ∨ 69 < a) → E a b = D a b) ∧ (∀ k : Nat, (k : Int) < S 0 3 → E 66 k = tu S m k) ∧ (∀ n k : Nat, n ≤ m → (k : Int) < S 0 3 → E 65 (8 * n + k) = rb S n k) ∧ (∀ j : Nat, j < m → E 69 j = inn S j) ∧
      (∀ k : Nat, (k : Int) < S 0 3 → E 67 k = if tu S m k = -1 then 0 else (if rtd S (tu S m k).toNat k = true then 1 else 0)) ∧ (∀ k : Nat, k < 8 → E 68 k = if exB (fun i => decide ((k : Int) = ele S i)) m = true then 1 else 0)) (u49 := fun x1 _ => (12 - x1).toNat)
    (fun _ => ⟨0, rfl, by decide, fun _ _ _ => rfl, fun k hk => absurd hk (Nat.not_lt_zero _)⟩) ?_ ?_
  · rintro x1 E ⟨j, rfl, hj, hE, hk⟩ hcD c1
    refine ⟨fun hc => ⟨⟨0, rfl, by omega, hE, fun k hk3 => (hk k (by omega)).1, fun n k hn hk3 => ?_, fun i hi => absurd hi (Nat.not_lt_zero _), fun k hk3 => ?_, fun k hk8 => ?_⟩, by omega⟩, fun hc => ⟨by omega, ?_⟩⟩
    · rw [show n = 0 by omega, show 8 * 0 + k = k by omega, (hk k (by omega)).2.2.2]
      exact (hM.2.2.2 k hk3).2.1
    · rw [(hk k (by omega)).2.1]; rfl
    · rw [(hk k (by omega)).2.2.1]; rfl
    · rintro E2 rfl
      refine ⟨by omega, ?_⟩
      rintro E4 rfl
      refine ⟨by omega, ?_⟩
      rintro E6 rfl
      refine ⟨by omega, by omega, ?_⟩
      rintro E8 rfl
      rw [Int.toNat_natCast]
      refine ⟨by unfold c32; omega, ⟨j + 1, by omega, by omega, fun a b hab => ?_, fun k hk1 => ?_⟩, by omega⟩
      · rw [hu_k _ _ (by omega), hu_k _ _ (by omega), hu_k _ _ (by omega), hu_k _ _ (by omega)]; exact hE a b hab
      · by_cases z : k = j
        · subst z
          refine ⟨?_, ?_, ?_, ?_⟩
          · rw [hu_k _ _ (by decide), hu_k _ _ (by decide), hu_k _ _ (by decide), hu_s]
          · rw [hu_k _ _ (by decide), hu_k _ _ (by decide), hu_s]
          · rw [hu_k _ _ (by decide), hu_s]
          · rw [hu_s, hu_k _ _ (by decide), hu_k _ _ (by decide), hu_k _ _ (by decide)]; exact hE _ _ (by decide)
        · have := hk k (by omega)
          refine ⟨?_, ?_, ?_, ?_⟩
          · rw [hu_k _ _ (by decide), hu_k _ _ (by decide), hu_k _ _ (by decide), hu_i _ _ z]; exact this.1
          · rw [hu_k _ _ (by decide), hu_k _ _ (by decide), hu_i _ _ z, hu_k _ _ (by decide)]; exact this.2.1
          · rw [hu_k _ _ (by decide), hu_i _ _ z, hu_k _ _ (by decide), hu_k _ _ (by decide)]; exact this.2.2.1
          · rw [hu_i _ _ z, hu_k _ _ (by decide), hu_k _ _ (by decide), hu_k _ _ (by decide)]; exact this.2.2.2
  · rintro x1 E ⟨m, rfl, hm, hE, h66, h65, h69, h67, h68⟩ hcD c1
    have hME : MS E S := MS_frame hM hE
    rw [hME.1.2.2.1]
    refine ⟨fun hc => ?_, fun hc => ?_⟩
    · have e : (S 0 2).toNat = m := by omega
      rw [e]
      exact ⟨rfl, hE, h66, fun n k hn hk => h65 n k (by omega) hk, fun j hj => h69 j (by omega), h67, h68⟩
    · refine ⟨_, C_goesBy h hME (by omega) h66 h65 h69, ?_⟩
      rintro F ⟨-, f1, f2, f3, f4, f5, f6⟩ hcF
      refine ⟨by unfold c32; omega, ⟨m + 1, by omega, by omega, fun a b hab => (f1 a b hab).trans (hE a b hab), f2, f3, f4, fun k hk => ?_, fun k hk => ?_⟩, by omega⟩
      · rw [f5 k hk, h67 k hk]
        by_cases z : tu S (m + 1) k = m
        · rw [if_pos z, if_neg (show ¬ tu S (m + 1) k = -1 by omega), z, Int.toNat_natCast]
        · have y : tu S (m + 1) k = tu S m k := by
            unfold tu at *; simp only [rt] at z ⊢
            by_cases q : som S k = true ∧ (rt S m).2 k = -1 ∧ (rt S m).1 k < stn S k (wnd S (rt S m).2 m (S 6 k))
            · rw [if_pos q] at z; exact absurd rfl z
            · rw [if_neg q]
          rw [if_neg z, y]
      · rw [f6 k, h68 k hk]
        simp only [exB]
        by_cases z : (k : Int) = ele S m
        · simp [z]
        · simp [z]
