/-! ===== the class: sheets ===== -/
theorem C_finding (D : HP) {n : Int} (hn : 1 ≤ n ∧ n ≤ 5) : CT mX5_finding [vR 0, vI n] D (fun v E => v = some (vI (-10 - n)) ∧ E = hu D 0 6 n) :=
  V_X5_finding n (fun _ _ E1 e1 => ⟨by unfold c32; omega, rfl, e1⟩)
/-- the class's sheets -/
def SHC (D : HP) : Prop := ∀ s : Nat, s < 4 → (-1 ≤ D (45 + s) 0 ∧ D (45 + s) 0 ≤ 2) ∧ 0 ≤ D (45 + s) 1 ∧ D (45 + s) 1 ≤ 60
theorem isSh {D : HP} {a : Int} : fX5_isSheet D a = 0 ↔ ¬ (0 ≤ a ∧ a ≤ 3) := by
  unfold fX5_isSheet
  repeat' split
  all_goals omega
theorem isFo {D : HP} {a : Int} : fX5_isForm D a = 0 ↔ ¬ (0 ≤ a ∧ a ≤ 2) := by
  unfold fX5_isForm
  repeat' split
  all_goals omega
theorem isLo {D : HP} {o : Nat} : fX3_isLost D o = 0 ↔ ¬ D o 0 = -1 := by
  unfold fX3_isLost
  split <;> omega
theorem ho4 {a : Int} (h : 0 ≤ a ∧ a ≤ 3) : 45 + a.toNat = 45 ∨ 45 + a.toNat = 46 ∨ 45 + a.toNat = 47 ∨ 45 + a.toNat = 48 := by omega
theorem kc49 {s : Nat} (h : s < 4) : kc (45 + s + 4) = (1, 60) := by
  rcases (show s = 0 ∨ s = 1 ∨ s = 2 ∨ s = 3 by omega) with rfl | rfl | rfl | rfl <;> decide
theorem K_sheet (D : HP) (a f n : Int) : CT mX5_sheet [vR 0, vI a, vI f, vI n] D (fun v E => if (0 ≤ a ∧ a ≤ 3) ∧ (0 ≤ f ∧ f ≤ 2) ∧ n ≤ 60 then (if n < 0 then v = some (vI (-15)) ∧ E = hu D 0 6 5 else v = some (vI n) ∧ (E (45 + a.toNat) 0 = f ∧ E (45 + a.toNat) 1 = n) ∧ (∀ i : Nat, i < 60 → E (49 + a.toNat) i = 0) ∧ ∀ x i, (x ≠ 45 + a.toNat ∨ (i ≠ 0 ∧ i ≠ 1)) → x ≠ 49 + a.toNat → E x i = D x i) else v = some (vI (-2)) ∧ E = D) := by
  refine V_X5_sheet a f n (fun _ _ _ _ => ⟨fun q => ?_, fun q => ⟨fun q2 => ?_, fun q2 => ⟨fun q3 => ⟨fun q4 => ⟨?_, ?_⟩, fun q4 => ⟨_, C_finding D (n := 5) (by omega), ?_⟩⟩, fun q3 => ?_⟩⟩⟩)
  · rw [isSh] at q
    rw [if_neg (fun w => q w.1)]; exact ⟨rfl, rfl⟩
  · rw [isFo] at q2
    rw [if_neg (fun w => q2 w.2.1)]; exact ⟨rfl, rfl⟩
  · rw [isSh] at q; omega
  · rw [isSh] at q
    rw [isFo] at q2
    have q := Decidable.of_not_not q
    have q2 := Decidable.of_not_not q2
    refine ⟨_, V_X3_renew (Q := fun v E => v = none ∧ (E (45 + a.toNat) 0 = f ∧ E (45 + a.toNat) 1 = n) ∧ (∀ i : Nat, i < 60 → E (49 + a.toNat) i = 0) ∧ ∀ x i, (x ≠ 45 + a.toNat ∨ (i ≠ 0 ∧ i ≠ 1)) → x ≠ 49 + a.toNat → E x i = D x i) (ho4 q) f n (fun _ _ _ E1 e1 E3 e3 => ⟨_, C_fillI (kc49 (by omega)) (by unfold c32; decide) 0, ?_⟩), ?_⟩
    · rintro E8 ⟨-, hA, hF⟩ _
      have e5 : 45 + a.toNat + 4 = 49 + a.toNat := by omega
      rw [e5] at hA hF
      have en : (if 0 < (if 60 < n then (60 : Int) else n) then (if 60 < n then (60 : Int) else n) else 0) = n := by
        repeat' split
        all_goals omega
      rw [en] at e3
      refine ⟨rfl, ⟨?_, ?_⟩, hA, fun x i h1 h2 => ?_⟩
      · rw [hF _ _ (by omega), e3, hu_i _ _ (by decide), e1, hu_s]
      · rw [hF _ _ (by omega), e3, hu_s]
      · rw [hF _ _ h2, e3]
        rcases h1 with h1 | h1
        · rw [hu_k _ _ h1, e1, hu_k _ _ h1]
        · rw [hu_i _ _ h1.2, e1, hu_i _ _ h1.1]
    · rintro E9 ⟨-, g⟩ _
      rw [if_pos ⟨q, q2, q3⟩, if_neg (by omega)]
      exact ⟨rfl, g⟩
  · rw [isSh] at q
    rw [isFo] at q2
    have q := Decidable.of_not_not q
    have q2 := Decidable.of_not_not q2
    rintro r E ⟨hr, hE⟩ _ _
    rw [if_pos ⟨q, q2, q3⟩, if_pos (by omega)]
    exact ⟨hr, hE⟩
  · rw [if_neg (fun w => q3 w.2.2)]; exact ⟨rfl, rfl⟩
theorem K_lose (D : HP) (a : Int) : CT mX5_lose [vR 0, vI a] D (fun v E => if 0 ≤ a ∧ a ≤ 3 then (if D (45 + a.toNat) 0 = -1 then v = some (vI (-11)) ∧ E = hu D 0 6 1 else v = some (vI (D (45 + a.toNat) 1)) ∧ E = hu (hu D (45 + a.toNat) 0 (-1)) (45 + a.toNat) 1 0) else v = some (vI (-2)) ∧ E = D) := by
  refine V_X5_lose a (fun _ _ => ⟨fun q => ?_, fun q => ?_⟩)
  · rw [isSh] at q
    rw [if_neg q]; exact ⟨rfl, rfl⟩
  · rw [isSh] at q
    have q := Decidable.of_not_not q
    rw [isLo]
    refine ⟨by omega, fun q2 => ⟨by omega, by omega, _, V_X3_discard (Q := fun v E => v = none ∧ E = hu (hu D (45 + a.toNat) 0 (-1)) (45 + a.toNat) 1 0) (ho4 q) (fun _ E1 e1 E3 e3 => ⟨rfl, by rw [e3, e1]⟩), ?_⟩, fun q2 => ⟨_, C_finding D (n := 1) (by omega), ?_⟩⟩
    · rintro E ⟨-, e⟩ _
      rw [if_pos q, if_neg q2]
      exact ⟨rfl, e⟩
    · rintro r E ⟨hr, hE⟩ _ _
      rw [if_pos q, if_pos (Decidable.of_not_not q2)]
      exact ⟨hr, hE⟩
def lckC (D : HP) (s : Nat) (f i : Int) : Int := if D (45 + s) 0 = -1 then 1 else if D (45 + s) 0 = f then (if 0 ≤ i ∧ i < D (45 + s) 1 then 0 else 2) else 3
theorem lckC_eq {D : HP} {s : Nat} {f i : Int} : fX3_hindrance D (45 + s) f i = lckC D s f i := by
  unfold fX3_hindrance lckC fX3_isLost
  by_cases h : D (45 + s) 0 = -1
  · rw [if_pos h, if_pos h]; rfl
  · rw [if_neg h, if_neg h]
    repeat' split
    all_goals omega
theorem lckC_in (D : HP) (s : Nat) (f i : Int) : 0 ≤ lckC D s f i ∧ lckC D s f i ≤ 3 := by unfold lckC; repeat' split; all_goals omega
theorem lckC_0 {D : HP} {s : Nat} {f i : Int} (h : lckC D s f i = 0) : D (45 + s) 0 ≠ -1 ∧ D (45 + s) 0 = f ∧ 0 ≤ i ∧ i < D (45 + s) 1 := by
  unfold lckC at h
  by_cases q1 : D (45 + s) 0 = -1
  · rw [if_pos q1] at h; omega
  · rw [if_neg q1] at h
    by_cases q2 : D (45 + s) 0 = f
    · rw [if_pos q2] at h
      by_cases q3 : 0 ≤ i ∧ i < D (45 + s) 1
      · exact ⟨q1, q2, q3⟩
      · rw [if_neg q3] at h; omega
    · rw [if_neg q2] at h; omega
theorem C_setItem {D : HP} {a : Int} (ha : 0 ≤ a ∧ a ≤ 3) {i : Int} (h : 0 ≤ i ∧ i < D (45 + a.toNat) 1 ∧ i < 60) (x : Int) : CT mX3_setItem [vR (45 + a.toNat), vI i, vI x] D (fun v E => v = none ∧ E = hu D (49 + a.toNat) i.toNat (nrw (D (45 + a.toNat) 0) x)) := by
  refine V_X3_setItem (ho4 ha) i x (fun _ _ _ => ⟨fun q => absurd q (by omega), fun _ => ⟨fun q => absurd q (by omega), fun _ => ⟨fun q => absurd q (by omega), fun _ => ⟨by omega, fun E e => ⟨rfl, ?_⟩⟩⟩⟩⟩)
  rw [e, show 45 + a.toNat + 4 = 49 + a.toNat by omega]
  rfl
theorem K_put {D : HP} (hS : SHC D) (a f i x : Int) : CT mX5_put [vR 0, vI a, vI f, vI i, vI x] D (fun v E => if (0 ≤ a ∧ a ≤ 3) ∧ 0 ≤ f ∧ f ≤ 2 then (if lckC D a.toNat f i = 0 then v = some (vI 1) ∧ E = hu D (49 + a.toNat) i.toNat (nrw f x) else v = some (vI (-10 - lckC D a.toNat f i)) ∧ E = hu D 0 6 (lckC D a.toNat f i)) else v = some (vI (-2)) ∧ E = D) := by
  refine V_X5_put a f i x (fun _ _ _ _ _ => ⟨fun q => ?_, fun q => ⟨fun q2 => ?_, fun q2 => ?_⟩⟩)
  · rw [isSh] at q
    rw [if_neg (fun w => q w.1)]; exact ⟨rfl, rfl⟩
  · rw [isFo] at q2
    rw [if_neg (fun w => q2 w.2)]; exact ⟨rfl, rfl⟩
  · rw [isSh] at q
    rw [isFo] at q2
    have q := Decidable.of_not_not q
    have q2 := Decidable.of_not_not q2
    rw [lckC_eq]
    have hl := lckC_in D a.toNat f i
    refine ⟨by omega, fun q3 => ?_, fun q3 => ⟨_, C_finding D (n := lckC D a.toNat f i) (by omega), ?_⟩⟩
    · have hc := lckC_0 q3
      have hs := hS a.toNat (by omega)
      refine ⟨by omega, _, C_setItem q (D := D) (i := i) (by omega) x, ?_⟩
      rintro E ⟨-, e⟩ _
      rw [if_pos ⟨q, q2⟩, if_pos q3]
      rw [hc.2.1] at e
      exact ⟨rfl, e⟩
    · rintro r E ⟨hr, hE⟩ _ _
      rw [if_pos ⟨q, q2⟩, if_neg q3]
      exact ⟨hr, hE⟩
theorem K_get {D : HP} (hS : SHC D) (a f i : Int) : CT mX5_get [vR 0, vI a, vI f, vI i] D (fun v E => if (0 ≤ a ∧ a ≤ 3) ∧ 0 ≤ f ∧ f ≤ 2 then (if lckC D a.toNat f i = 0 then v = some (vI (D (49 + a.toNat) i.toNat)) ∧ E = D else v = some (vI (-2147483648)) ∧ E = hu D 0 6 (lckC D a.toNat f i)) else v = some (vI (-2147483648)) ∧ E = D) := by
  refine V_X5_get a f i (fun _ _ _ _ => ⟨fun q => ?_, fun q => ⟨fun q2 => ?_, fun q2 => ?_⟩⟩)
  · rw [isSh] at q
    rw [if_neg (fun w => q w.1)]; exact ⟨rfl, rfl⟩
  · rw [isFo] at q2
    rw [if_neg (fun w => q2 w.2)]; exact ⟨rfl, rfl⟩
  · rw [isSh] at q
    rw [isFo] at q2
    have q := Decidable.of_not_not q
    have q2 := Decidable.of_not_not q2
    rw [lckC_eq]
    have hl := lckC_in D a.toNat f i
    refine ⟨by omega, fun q3 => ?_, fun q3 => ⟨_, C_finding D (n := lckC D a.toNat f i) (by omega), ?_⟩⟩
    · have hc := lckC_0 q3
      have hs := hS a.toNat (by omega)
      refine ⟨by omega, ⟨⟨fun _ => trivial, fun _ => ⟨fun _ => trivial, fun _ => ⟨fun _ => trivial, fun _ => by omega⟩⟩⟩, trivial⟩, ?_⟩
      rw [if_pos ⟨q, q2⟩, if_pos q3]
      unfold fX3_item
      rw [if_neg (by omega), if_neg (by omega), if_neg (by omega), show 45 + a.toNat + 4 = 49 + a.toNat by omega]
      exact ⟨rfl, rfl⟩
    · rintro r E ⟨hr, hE⟩ _ _
      rw [if_pos ⟨q, q2⟩, if_neg q3]
      exact ⟨rfl, hE⟩
def copC (D : HP) (s i t j n : Int) (v : Option MV) (E : HP) : Prop :=
  if (0 ≤ s ∧ s ≤ 3) ∧ 0 ≤ t ∧ t ≤ 3 then
    (if D (45 + s.toNat) 0 = -1 ∨ D (45 + t.toNat) 0 = -1 then v = some (vI (-11)) ∧ E = hu D 0 6 1
     else if D (45 + s.toNat) 0 ≠ D (45 + t.toNat) 0 then v = some (vI (-14)) ∧ E = hu D 0 6 4
     else if i < 0 ∨ j < 0 ∨ n < 0 ∨ D (45 + s.toNat) 1 < i + n ∨ D (45 + t.toNat) 1 < j + n then v = some (vI (-12)) ∧ E = hu D 0 6 2
     else v = some (vI 1) ∧ E = hc D (49 + s.toNat) i.toNat (49 + t.toNat) j.toNat n.toNat)
  else v = some (vI (-2)) ∧ E = D
theorem hasIt {D : HP} {o : Nat} (h : 0 ≤ D o 1 ∧ D o 1 ≤ 60) {i n : Int} : fX3_hasItems D o i n = 0 ↔ (i < 0 ∨ n < 0 ∨ D o 1 < i + n) := by
  unfold fX3_hasItems
  repeat' split
  all_goals omega
theorem hasIto {D : HP} {o : Nat} (h : 0 ≤ D o 1 ∧ D o 1 ≤ 60) {i n : Int} : oX3_hasItems D o i n := by
  unfold oX3_hasItems
  exact ⟨⟨fun _ => trivial, fun _ => ⟨fun _ => trivial, fun _ => ⟨fun _ => trivial, fun _ => by unfold c32; omega⟩⟩⟩, trivial⟩
theorem K_copy {D : HP} (hS : SHC D) (s i t j n : Int) : CT mX5_copy [vR 0, vI s, vI i, vI t, vI j, vI n] D (copC D s i t j n) := by
  refine V_X5_copy s i t j n (fun _ _ _ _ _ _ => ⟨fun q => ?_, fun q => ⟨fun q2 => ?_, fun q2 => ?_⟩⟩)
  · rw [isSh] at q
    unfold copC
    rw [if_neg (fun w => q w.1)]; exact ⟨rfl, rfl⟩
  · rw [isSh] at q2
    unfold copC
    rw [if_neg (fun w => q2 w.2)]; exact ⟨rfl, rfl⟩
  · rw [isSh] at q q2
    have q := Decidable.of_not_not q
    have q2 := Decidable.of_not_not q2
    have hs := (hS s.toNat (by omega)).2
    have ht := (hS t.toNat (by omega)).2
    rw [isLo, isLo, hasIt hs, hasIt ht]
    unfold copC
    simp only [if_pos (show (0 ≤ s ∧ s ≤ 3) ∧ 0 ≤ t ∧ t ≤ 3 from ⟨q, q2⟩)]
    refine ⟨by omega, fun q3 => ⟨by omega, fun q4 => ⟨by omega, by omega, fun q5 => ⟨by omega, hasIto hs, fun q6 => ⟨_, C_finding D (n := 2) (by omega), ?_⟩, fun q6 => ⟨by omega, hasIto ht, fun q7 => ⟨_, C_finding D (n := 2) (by omega), ?_⟩, fun q7 => ⟨by omega, by omega, by omega, fun E e => ?_⟩⟩⟩, fun q5 => ⟨_, C_finding D (n := 4) (by omega), ?_⟩⟩, fun q4 => ⟨_, C_finding D (n := 1) (by omega), ?_⟩⟩, fun q3 => ⟨_, C_finding D (n := 1) (by omega), ?_⟩⟩
    · rintro r E ⟨hr, hE⟩ _ _
      rw [if_neg (by omega), if_neg (fun w => w q5), if_pos (by omega)]
      exact ⟨hr, hE⟩
    · rintro r E ⟨hr, hE⟩ _ _
      rw [if_neg (by omega), if_neg (fun w => w q5), if_pos (by omega)]
      exact ⟨hr, hE⟩
    · rw [if_neg (by omega), if_neg (fun w => w q5), if_neg (by omega)]
      exact ⟨trivial, e⟩
    · rintro r E ⟨hr, hE⟩ _ _
      rw [if_neg (by omega), if_pos q5]
      exact ⟨hr, hE⟩
    · rintro r E ⟨hr, hE⟩ _ _
      rw [if_pos (by omega)]
      exact ⟨hr, hE⟩
    · rintro r E ⟨hr, hE⟩ _ _
      rw [if_pos (by omega)]
      exact ⟨hr, hE⟩
/-- the class's sheet s with its first n items written -/
def wrC (D : HP) (s n : Nat) (f : Int) (g : Nat → Int) : HP := fun x y => if x = 49 + s ∧ y < n then nrw f (g y) else D x y
set_option maxHeartbeats 4000000 in
theorem K_write {D : HP} {S : SC} (h : TC D 9 S) (hS : SHC D) (a s : Int) : CT mX5_write [vR 0, vI a, vI s] D (fun v E => if (0 ≤ a ∧ a < S 0 2) ∧ 0 ≤ s ∧ s ≤ 3 then (if D (45 + s.toNat) 0 = -1 then v = some (vI (-11)) ∧ E = hu D 0 6 1 else v = some (vI (mnW (D (45 + s.toNat) 1) (S 0 1))) ∧ E = wrC D s.toNat (mnW (D (45 + s.toNat) 1) (S 0 1)).toNat (D (45 + s.toNat) 0) (fun c => wnd S (tu S a.toNat) a.toNat c)) else v = some (vI (-2)) ∧ E = D) := by
  have hok := h.1
  have h1 := hok.2.1
  refine V_X5_write a s
    (fun x1 x2 x3 x4 E => x1 = a ∧ x2 = s ∧ ((0 ≤ a ∧ a < S 0 2) ∧ 0 ≤ s ∧ s ≤ 3) ∧ D (45 + s.toNat) 0 ≠ -1 ∧ x3 = mnW (D (45 + s.toNat) 1) (S 0 1) ∧ ∃ n : Nat, x4 = n ∧ (n : Int) ≤ mnW (D (45 + s.toNat) 1) (S 0 1) ∧ E = wrC D s.toNat n (D (45 + s.toNat) 0) (fun c => wnd S (tu S a.toNat) a.toNat c)) (fun _ _ x3 x4 _ => (x3 - x4).toNat)
    (fun _ _ _ => ?_) ?_
  · rw [k_isMin h, b10, isSh, isLo]
    refine ⟨fun q => ?_, fun q => ⟨fun q2 => ?_, fun q2 => ?_⟩⟩
    · rw [if_neg (fun w => q w.1)]; exact ⟨rfl, rfl⟩
    · rw [if_neg (fun w => q2 w.2)]; exact ⟨rfl, rfl⟩
    · have q := Decidable.of_not_not q
      have q2 := Decidable.of_not_not q2
      have hs := (hS s.toNat (by omega)).2
      have e1 : D 10 1 = S 0 1 := h.2.2.1.1.2.1
      refine ⟨by omega, fun q3 => ⟨by omega, fun v hv => ⟨rfl, rfl, ⟨q, q2⟩, q3, ?_, 0, rfl, by unfold mnW; split <;> omega, ?_⟩⟩, fun q3 => ⟨_, C_finding D (n := 1) (by omega), ?_⟩⟩
      · rw [hv, e1]
        unfold mnW
        repeat' split
        all_goals omega
      · funext x y
        unfold wrC
        rw [if_neg (by omega)]
      · rintro r E ⟨hr, hE⟩ _ _
        rw [if_pos ⟨q, q2⟩, if_pos (Decidable.of_not_not q3)]
        exact ⟨hr, hE⟩
  · rintro x1 x2 x3 x4 E ⟨rfl, rfl, hq, hl, rfl, n, rfl, hn, rfl⟩ _ _ _ _ _
    have hs := (hS x2.toNat (by omega)).2
    have hmn : mnW (D (45 + x2.toNat) 1) (S 0 1) ≤ D (45 + x2.toNat) 1 ∧ mnW (D (45 + x2.toNat) 1) (S 0 1) ≤ S 0 1 := by unfold mnW; split <;> omega
    refine ⟨fun q => ?_, fun q => ?_⟩
    · rw [if_pos hq, if_neg hl, show (mnW (D (45 + x2.toNat) 1) (S 0 1)).toNat = n by omega]
      exact ⟨rfl, rfl⟩
    · have hT : TC (wrC D x2.toNat n (D (45 + x2.toNat) 0) (fun c => wnd S (tu S x1.toNat) x1.toNat c)) 9 S := TC_fr h fun a i q1 q2 => by unfold wrC; rw [if_neg (by omega)]
      have hw := k_wind hT (m := x1.toNat) (c := n) (by omega) (by omega)
      have ho := cs_windo hT.1 hT.2.2.1 hT.2.2.2.1 (m := x1.toNat) (by omega) n
      rw [show ((x1.toNat : Nat) : Int) = x1 by omega] at hw ho
      have e0 : ∀ i, wrC D x2.toNat n (D (45 + x2.toNat) 0) (fun c => wnd S (tu S x1.toNat) x1.toNat c) (45 + x2.toNat) i = D (45 + x2.toNat) i := fun i => by unfold wrC; rw [if_neg (by omega)]
      refine ⟨by omega, ho, _, C_setItem hq.2 (i := n) ⟨by omega, by rw [e0]; omega, by omega⟩ _, ?_⟩
      rw [e0, hw, show ((n : Int)).toNat = n by omega]
      rintro E ⟨-, e⟩ _
      refine ⟨by unfold c32; omega, ⟨rfl, rfl, hq, hl, rfl, n + 1, by omega, by omega, ?_⟩, by omega⟩
      rw [e]
      funext x y
      by_cases z : x = 49 + x2.toNat ∧ y = n
      · rw [z.1, z.2, hu_s]
        unfold wrC
        rw [if_pos (by omega)]
      · rw [show hu (wrC D x2.toNat n (D (45 + x2.toNat) 0) (fun c => wnd S (tu S x1.toNat) x1.toNat c)) (49 + x2.toNat) n (nrw (D (45 + x2.toNat) 0) (wnd S (tu S x1.toNat) x1.toNat n)) x y = wrC D x2.toNat n (D (45 + x2.toNat) 0) (fun c => wnd S (tu S x1.toNat) x1.toNat c) x y from if_neg z]
        unfold wrC
        by_cases w : x = 49 + x2.toNat ∧ y < n
        · rw [if_pos w, if_pos (by omega)]
        · rw [if_neg w, if_neg (by omega)]
