/-! ===== what the model's other calls do to its cells ===== -/
def mxT (a : Int) : Int := if a = 0 then 29 else if a = 1 then 24 else 39
theorem TXM_len {D : HP} (h : TXM D) {a : Int} (ha : 0 ≤ a ∧ a ≤ 2) : 0 ≤ D 57 a.toNat ∧ D 57 a.toNat ≤ mxT a := by
  obtain ⟨h1, h2, h3, -⟩ := h
  rcases (show a = 0 ∨ a = 1 ∨ a = 2 by omega) with rfl | rfl | rfl
  · exact h1
  · exact h2
  · exact h3
theorem M_type {D : HP} (hT : TXM D) (a b : Int) : CT mX6_type [vR 56, vI a, vI b] D (fun v E => if (0 ≤ a ∧ a ≤ 2) ∧ 0 ≤ b ∧ b ≤ 255 then (if D 57 a.toNat = mxT a then v = some (vI (-4)) ∧ E = D else v = some (vI (D 57 a.toNat + 1)) ∧ E = hu (hu D 58 (39 * a.toNat + (D 57 a.toNat).toNat) b) 57 a.toNat (D 57 a.toNat + 1)) else v = some (vI (-2)) ∧ E = D) := by
  refine V_X6_type a b (fun _ _ _ => ⟨fun h => ?_, fun h => ⟨fun h2 => ?_, fun h2 => ?_⟩⟩)
  · unfold fX6_isText at h
    rw [wi1] at h
    rw [if_neg (fun q => h q.1)]
    exact ⟨rfl, rfl⟩
  · rw [wi1] at h2
    rw [if_neg (fun q => h2 q.2)]
    exact ⟨rfl, rfl⟩
  · unfold fX6_isText at h
    rw [wi1] at h h2
    have h := Decidable.of_not_not h
    have h2 := Decidable.of_not_not h2
    have hl := TXM_len hT h
    have hmx : mxT a = (if a = 0 then (29 : Int) else (if a = 1 then (24 : Int) else 39)) := rfl
    rw [← hmx]
    simp only [if_pos (show (0 ≤ a ∧ a ≤ 2) ∧ 0 ≤ b ∧ b ≤ 255 from ⟨h, h2⟩)]
    have hm : mxT a ≤ 39 := by unfold mxT; repeat' split; all_goals omega
    refine ⟨by omega, fun hf => ?_, fun hf => ⟨by unfold c32; omega, by omega, by unfold c32; omega, by omega, ?_⟩⟩
    · rw [if_pos hf]; exact ⟨trivial, trivial⟩
    · rintro F hF
      have f57 : F 57 a.toNat = D 57 a.toNat := by rw [hF, hu_k _ _ (by decide)]
      rw [f57]
      refine ⟨by omega, by unfold c32; omega, by omega, ?_⟩
      rintro G hG
      refine ⟨by omega, ?_⟩
      rw [if_neg hf]
      have g57 : G 57 a.toNat = D 57 a.toNat + 1 := by rw [hG, hu_s]
      refine ⟨by rw [g57], ?_⟩
      rw [hG, hF, show (39 * a + D 57 a.toNat).toNat = 39 * a.toNat + (D 57 a.toNat).toNat by omega]
theorem M_wipe (D : HP) (a : Int) : CT mX6_wipe [vR 56, vI a] D (fun v E => if 0 ≤ a ∧ a ≤ 2 then v = some (vI (D 57 a.toNat)) ∧ E = hu D 57 a.toNat 0 else v = some (vI (-2)) ∧ E = D) := by
  refine V_X6_wipe a (fun _ _ => ⟨fun h => ?_, fun h => ?_⟩)
  · unfold fX6_isText at h
    rw [wi1] at h
    rw [if_neg h]
    exact ⟨rfl, rfl⟩
  · unfold fX6_isText at h
    rw [wi1] at h
    have h := Decidable.of_not_not h
    simp only [if_pos h]
    exact ⟨by omega, by omega, fun F hF => ⟨trivial, hF⟩⟩
theorem M_undo {D : HP} (hT : TXM D) (a : Int) : CT mX6_undo [vR 56, vI a] D (fun v E => if 0 ≤ a ∧ a ≤ 2 then (if D 57 a.toNat = 0 then v = some (vI (-3)) ∧ E = D else v = some (vI (D 57 a.toNat - 1)) ∧ E = hu D 57 a.toNat (D 57 a.toNat - 1)) else v = some (vI (-2)) ∧ E = D) := by
  refine V_X6_undo a (fun _ _ => ⟨fun h => ?_, fun h => ?_⟩)
  · unfold fX6_isText at h
    rw [wi1] at h
    rw [if_neg h]
    exact ⟨rfl, rfl⟩
  · unfold fX6_isText at h
    rw [wi1] at h
    have h := Decidable.of_not_not h
    have hl := TXM_len hT h
    have hm : mxT a ≤ 39 := by unfold mxT; repeat' split; all_goals omega
    simp only [if_pos h]
    refine ⟨by omega, fun h0 => ?_, fun h0 => ⟨by omega, by unfold c32; omega, by omega, ?_⟩⟩
    · rw [if_pos h0]; exact ⟨trivial, trivial⟩
    · rintro F rfl
      refine ⟨by omega, ?_⟩
      rw [if_neg h0, hu_s]
      exact ⟨rfl, rfl⟩
theorem M_seen {D : HP} (hG : SGM D) (a b : Int) : CT mX6_seen [vR 56, vI a, vI b] D (fun v E => if (0 ≤ a ∧ a ≤ 11) ∧ 0 ≤ b ∧ b ≤ 8 then (if D 56 17 = 8 then v = some (vI (-4)) ∧ E = D else v = some (vI (D 56 17 + 1)) ∧ E = hu (hu (hu D 70 (D 56 17).toNat a) 71 (D 56 17).toNat b) 56 17 (D 56 17 + 1)) else v = some (vI (-2)) ∧ E = D) := by
  have hg := hG.1
  refine V_X6_seen a b (fun _ _ _ => ⟨fun h => ?_, fun h => ⟨fun h2 => ?_, fun h2 => ?_⟩⟩)
  · rw [wi1] at h
    rw [if_neg (fun q => h q.1)]
    exact ⟨rfl, rfl⟩
  · rw [wi1] at h2
    rw [if_neg (fun q => h2 q.2)]
    exact ⟨rfl, rfl⟩
  · rw [wi1] at h h2
    have h := Decidable.of_not_not h
    have h2 := Decidable.of_not_not h2
    simp only [if_pos (show (0 ≤ a ∧ a ≤ 11) ∧ 0 ≤ b ∧ b ≤ 8 from ⟨h, h2⟩)]
    refine ⟨fun hf => ?_, fun hf => ⟨by omega, ?_⟩⟩
    · rw [if_pos hf]; exact ⟨trivial, trivial⟩
    · rintro F hF
      have f1 : F 56 17 = D 56 17 := by rw [hF, hu_k _ _ (by decide)]
      rw [f1]
      refine ⟨by omega, ?_⟩
      rintro G hG2
      have g1 : G 56 17 = D 56 17 := by rw [hG2, hu_k _ _ (by decide), f1]
      rw [g1]
      refine ⟨by unfold c32; omega, ?_⟩
      rintro K hK
      rw [if_neg hf]
      exact ⟨by rw [hK, hu_s], by rw [hK, hG2, hF]⟩
theorem M_forget (D : HP) : CT mX6_forget [vR 56] D (fun v E => v = some (vI (D 56 17)) ∧ E = hu D 56 17 0) :=
  V_X6_forget (fun _ F hF => ⟨rfl, hF⟩)
theorem C_meets (D : HP) {a : Int} (ha : 1 ≤ a ∧ a ≤ 5) : CT mX6_meets [vR 56, vI a] D (fun v E => v = some (vI (-10 - a)) ∧ E = hu D 56 28 a) :=
  V_X6_meets a (fun _ _ F hF => ⟨by unfold c32; omega, rfl, hF⟩)
/-- the model's sheets -/
def SHM (D : HP) : Prop := ∀ s : Nat, s < 4 → (D 75 s = 0 ∨ D 75 s = 1) ∧ (0 ≤ D 76 s ∧ D 76 s ≤ 2) ∧ 0 ≤ D 77 s ∧ D 77 s ≤ 60
theorem M_lose (D : HP) (a : Int) : CT mX6_lose [vR 56, vI a] D (fun v E => if 0 ≤ a ∧ a ≤ 3 then (if D 75 a.toNat = 0 then v = some (vI (-11)) ∧ E = hu D 56 28 1 else v = some (vI (D 77 a.toNat)) ∧ E = hu D 75 a.toNat 0) else v = some (vI (-2)) ∧ E = D) := by
  refine V_X6_lose a (fun _ _ => ⟨fun h => ?_, fun h => ?_⟩)
  · unfold fX6_isSheet at h
    rw [wi1] at h
    rw [if_neg h]
    exact ⟨rfl, rfl⟩
  · unfold fX6_isSheet at h
    rw [wi1] at h
    have h := Decidable.of_not_not h
    simp only [if_pos h]
    refine ⟨by omega, fun h0 => ⟨_, C_meets D (a := 1) (by decide), ?_⟩, fun h0 => ⟨by omega, ?_⟩⟩
    · rintro r E ⟨hr, hE⟩ _ _
      rw [if_pos h0]
      exact ⟨by rw [hr]; rfl, hE⟩
    · rintro F rfl
      refine ⟨by omega, ?_⟩
      rw [if_neg h0, hu_k _ _ (by decide)]
      exact ⟨rfl, rfl⟩
/-- what an item of a form holds of a value -/
def nrw (f v : Int) : Int := if f = 0 then b_i2b v else if f = 1 then b_i2s v else v
theorem C_keep {D : HP} {a b : Int} (ha : 0 ≤ a ∧ a ≤ 3) (hb : 0 ≤ b ∧ b < 60) (c : Int) : CT mX6_keep [vR 56, vI a, vI b, vI c] D (fun v E => v = none ∧ E = hu D 78 (60 * a.toNat + b.toNat) (nrw (D 76 a.toNat) c)) := by
  refine V_X6_keep a b c (fun _ _ _ _ => ⟨by unfold c32; omega, by unfold c32; omega, by omega, ⟨fun _ => trivial, fun _ => by omega⟩, by omega, fun F hF => ⟨rfl, ?_⟩⟩)
  rw [hF, show (60 * a + b).toNat = 60 * a.toNat + b.toNat by omega]
  rfl
def lckM (D : HP) (s : Nat) (f i : Int) : Int := if D 75 s = 0 then 1 else if D 76 s = f then (if 0 ≤ i ∧ i < D 77 s then 0 else 2) else 3
theorem lckM_eq {D : HP} (hS : SHM D) {a : Int} (ha : 0 ≤ a ∧ a ≤ 3) (f i : Int) : fX6_lacks D a f i = lckM D a.toNat f i := by
  have := (hS a.toNat (by omega)).2.2
  unfold fX6_lacks lckM
  rw [wiv]
  by_cases q : 0 ≤ i ∧ i < D 77 a.toNat
  · rw [if_pos (show 0 ≤ i ∧ i ≤ D 77 a.toNat - 1 by omega), if_pos q]; rfl
  · rw [if_neg (show ¬ (0 ≤ i ∧ i ≤ D 77 a.toNat - 1) by omega), if_neg q]; rfl
theorem lckM_o {D : HP} (hS : SHM D) {a : Int} (ha : 0 ≤ a ∧ a ≤ 3) (f i : Int) : oX6_lacks D a f i := by
  have := (hS a.toNat (by omega)).2.2
  unfold oX6_lacks
  exact ⟨by omega, ⟨fun _ => trivial, fun _ => ⟨by omega, fun _ => ⟨by omega, by unfold c32; omega⟩, fun _ => trivial⟩⟩, trivial⟩
theorem lckM_in (D : HP) (s : Nat) (f i : Int) : 0 ≤ lckM D s f i ∧ lckM D s f i ≤ 3 := by unfold lckM; repeat' split; all_goals omega
theorem lckM_0 {D : HP} {s : Nat} {f i : Int} (h : lckM D s f i ≤ 0) : D 75 s ≠ 0 ∧ D 76 s = f ∧ 0 ≤ i ∧ i < D 77 s := by
  unfold lckM at h
  by_cases q1 : D 75 s = 0
  · rw [if_pos q1] at h; omega
  · rw [if_neg q1] at h
    by_cases q2 : D 76 s = f
    · rw [if_pos q2] at h
      by_cases q3 : 0 ≤ i ∧ i < D 77 s
      · exact ⟨q1, q2, q3⟩
      · rw [if_neg q3] at h; omega
    · rw [if_neg q2] at h; omega
theorem M_put {D : HP} (hS : SHM D) (a f i x : Int) : CT mX6_put [vR 56, vI a, vI f, vI i, vI x] D (fun v E => if (0 ≤ a ∧ a ≤ 3) ∧ 0 ≤ f ∧ f ≤ 2 then (if lckM D a.toNat f i ≤ 0 then v = some (vI 1) ∧ E = hu D 78 (60 * a.toNat + i.toNat) (nrw f x) else v = some (vI (-10 - lckM D a.toNat f i)) ∧ E = hu D 56 28 (lckM D a.toNat f i)) else v = some (vI (-2)) ∧ E = D) := by
  refine V_X6_put a f i x (fun _ _ _ _ _ => ⟨fun h => ?_, fun h => ⟨fun h2 => ?_, fun h2 => ?_⟩⟩)
  · unfold fX6_isSheet at h
    rw [wi1] at h
    rw [if_neg (fun q => h q.1)]
    exact ⟨rfl, rfl⟩
  · rw [wi1] at h2
    rw [if_neg (fun q => h2 q.2)]
    exact ⟨rfl, rfl⟩
  · unfold fX6_isSheet at h
    rw [wi1] at h h2
    have h := Decidable.of_not_not h
    have h2 := Decidable.of_not_not h2
    have hs := (hS a.toNat (by omega)).2.2
    rw [lckM_eq hS h]
    simp only [if_pos (show (0 ≤ a ∧ a ≤ 3) ∧ 0 ≤ f ∧ f ≤ 2 from ⟨h, h2⟩)]
    have hl := lckM_in D a.toNat f i
    refine ⟨lckM_o hS h f i, fun h0 => ?_, fun h0 => ⟨_, C_meets D (by omega), ?_⟩⟩
    · have hc := lckM_0 h0
      refine ⟨_, C_keep h (by omega) x, ?_⟩
      rintro E ⟨-, hE⟩ _
      rw [if_pos h0]
      exact ⟨trivial, by rw [hE, hc.2.1]⟩
    · rintro r E ⟨hr, hE⟩ _ _
      rw [if_neg h0]
      exact ⟨hr, hE⟩
theorem M_get {D : HP} (hS : SHM D) (a f i : Int) : CT mX6_get [vR 56, vI a, vI f, vI i] D (fun v E => if (0 ≤ a ∧ a ≤ 3) ∧ 0 ≤ f ∧ f ≤ 2 then (if lckM D a.toNat f i ≤ 0 then v = some (vI (D 78 (60 * a.toNat + i.toNat))) ∧ E = D else v = some (vI (-2147483648)) ∧ E = hu D 56 28 (lckM D a.toNat f i)) else v = some (vI (-2147483648)) ∧ E = D) := by
  refine V_X6_get a f i (fun _ _ _ _ => ⟨fun h => ?_, fun h => ⟨fun h2 => ?_, fun h2 => ?_⟩⟩)
  · unfold fX6_isSheet at h
    rw [wi1] at h
    rw [if_neg (fun q => h q.1)]
    exact ⟨rfl, rfl⟩
  · rw [wi1] at h2
    rw [if_neg (fun q => h2 q.2)]
    exact ⟨rfl, rfl⟩
  · unfold fX6_isSheet at h
    rw [wi1] at h h2
    have h := Decidable.of_not_not h
    have h2 := Decidable.of_not_not h2
    have hs := (hS a.toNat (by omega)).2.2
    rw [lckM_eq hS h]
    simp only [if_pos (show (0 ≤ a ∧ a ≤ 3) ∧ 0 ≤ f ∧ f ≤ 2 from ⟨h, h2⟩)]
    refine ⟨lckM_o hS h f i, fun h0 => ?_, fun h0 => ?_⟩
    · have hc := lckM_0 h0
      rw [if_pos h0, show (60 * a + i).toNat = 60 * a.toNat + i.toNat by omega]
      exact ⟨by unfold c32; omega, by unfold c32; omega, by omega, rfl, trivial⟩
    · rintro E hE
      rw [if_neg h0]
      exact ⟨trivial, hE⟩
set_option maxHeartbeats 4000000 in
theorem M_sheet (D : HP) (a f n : Int) : CT mX6_sheet [vR 56, vI a, vI f, vI n] D (fun v E => if (0 ≤ a ∧ a ≤ 3) ∧ (0 ≤ f ∧ f ≤ 2) ∧ n ≤ 60 then (if n < 0 then v = some (vI (-15)) ∧ E = hu D 56 28 5 else v = some (vI n) ∧ E = (fun x y => if x = 78 ∧ 60 * a.toNat ≤ y ∧ y < 60 * a.toNat + 60 then 0 else hu (hu (hu D 75 a.toNat 1) 76 a.toNat f) 77 a.toNat n x y)) else v = some (vI (-2)) ∧ E = D) := by
  refine V_X6_sheet a f n (I59 := fun x1 x2 x3 x4 E => x1 = a ∧ x3 = n ∧ (0 ≤ a ∧ a ≤ 3) ∧ (0 ≤ f ∧ f ≤ 2) ∧ n ≤ 60 ∧ 0 ≤ n ∧ ∃ j : Nat, x4 = j ∧ j ≤ 60 ∧ E = (fun x y => if x = 78 ∧ 60 * a.toNat ≤ y ∧ y < 60 * a.toNat + j then 0 else hu (hu (hu D 75 a.toNat 1) 76 a.toNat f) 77 a.toNat n x y)) (u59 := fun _ _ _ x4 _ => (60 - x4).toNat) (fun _ _ _ _ => ⟨fun h => ?_, fun h => ⟨fun h2 => ?_, fun h2 => ⟨fun h3 => ⟨fun h4 => ?_, fun h4 => ⟨_, C_meets D (a := 5) (by decide), ?_⟩⟩, fun h3 => ?_⟩⟩⟩) ?_
  · unfold fX6_isSheet at h
    rw [wi1] at h
    rw [if_neg (fun q => h q.1)]
    exact ⟨rfl, rfl⟩
  · rw [wi1] at h2
    rw [if_neg (fun q => h2 q.2.1)]
    exact ⟨rfl, rfl⟩
  · unfold fX6_isSheet at h
    rw [wi1] at h h2
    have h := Decidable.of_not_not h
    have h2 := Decidable.of_not_not h2
    refine ⟨by omega, ?_⟩
    rintro E1 rfl
    refine ⟨by omega, ?_⟩
    rintro E2 rfl
    refine ⟨by omega, ?_⟩
    rintro E3 rfl
    refine ⟨rfl, rfl, h, h2, h3, h4, 0, rfl, by decide, ?_⟩
    funext x y
    rw [if_neg (by omega)]
  · unfold fX6_isSheet at h
    rw [wi1] at h h2
    have h := Decidable.of_not_not h
    have h2 := Decidable.of_not_not h2
    rintro r E ⟨hr, hE⟩ _ _
    rw [if_pos ⟨h, h2, h3⟩, if_pos (by omega)]
    exact ⟨by rw [hr]; rfl, hE⟩
  · rw [if_neg (fun q => h3 q.2.2)]
    exact ⟨rfl, rfl⟩
  · rintro x1 x2 x3 x4 E ⟨rfl, rfl, ha, hf, hn, h0, j, rfl, hj, hE⟩ hcD _ _ _ _
    refine ⟨fun hc => ?_, fun hc => ⟨by unfold c32; omega, by unfold c32; omega, by omega, ?_⟩⟩
    · have e : j = 60 := by omega
      subst e
      rw [if_pos ⟨ha, hf, hn⟩, if_neg (by omega)]
      exact ⟨rfl, hE⟩
    · rintro F hF
      refine ⟨by unfold c32; omega, ⟨rfl, rfl, ha, hf, hn, h0, j + 1, by omega, by omega, ?_⟩, by omega⟩
      rw [hF, hE, show (60 * x1 + (j : Int)).toNat = 60 * x1.toNat + j by omega]
      funext x y
      by_cases q : x = 78 ∧ y = 60 * x1.toNat + j
      · rw [q.1, q.2, hu_s, if_pos (by omega)]
      · rw [show hu (fun x y => if x = 78 ∧ 60 * x1.toNat ≤ y ∧ y < 60 * x1.toNat + j then 0 else hu (hu (hu D 75 x1.toNat 1) 76 x1.toNat f) 77 x1.toNat x3 x y) 78 (60 * x1.toNat + j) 0 x y = (if x = 78 ∧ 60 * x1.toNat ≤ y ∧ y < 60 * x1.toNat + j then 0 else hu (hu (hu D 75 x1.toNat 1) 76 x1.toNat f) 77 x1.toNat x3 x y) from if_neg q]
        by_cases z : x = 78 ∧ 60 * x1.toNat ≤ y ∧ y < 60 * x1.toNat + j
        · rw [if_pos z, if_pos (by omega)]
        · rw [if_neg z, if_neg (by omega)]
