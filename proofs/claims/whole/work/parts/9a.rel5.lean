/-! ===== sheets in both ===== -/
theorem cE0 {D E : HP} {n : Int} (e : E = hu D 0 6 n) : ∀ x i, 55 < x → E x i = D x i := fun x i p => by rw [e, hu_k _ _ (by omega)]
theorem st_lose {D : HP} (h : RLB D) (a : Int) : ST mX5_lose mX6_lose [vI a] D := by
  refine ⟨_, K_lose D a, fun v E hE => ?_⟩
  by_cases q : 0 ≤ a ∧ a ≤ 3
  · rw [if_pos q] at hE
    have ha : a.toNat < 4 := by omega
    have hM := h.1.2.2 a.toNat ha
    by_cases q2 : D (45 + a.toNat) 0 = -1
    · rw [if_pos q2] at hE
      obtain ⟨e1, e2⟩ := hE
      refine ⟨_, M_lose E a, fun v' F hF => ?_⟩
      rw [if_pos q, cE0 e2 75 _ (by decide), if_pos ((lost_eq h ha).1 q2)] at hF
      exact ⟨hF.1.trans e1.symm, by rw [hF.2]; exact RL_fnd h 1 e2 (FRw.rf E)⟩
    · rw [if_neg q2] at hE
      obtain ⟨e1, e2⟩ := hE
      have hnl : ¬ D 75 a.toNat = 0 := fun w => q2 ((lost_eq h ha).2 w)
      have hr : D (45 + a.toNat) 1 = D 77 a.toNat := by
        rcases h.2.2.2.2.1 a.toNat ha with g | g
        · exact absurd g.1 hnl
        · exact g.2.2.1
      have k : ∀ x i, x ≠ 45 + a.toNat → E x i = D x i := fun x i p => by rw [e2, hu_k _ _ p, hu_k _ _ p]
      refine ⟨_, M_lose E a, fun v' F hF => ?_⟩
      rw [if_pos q, k 75 _ (by omega), if_neg hnl, k 77 _ (by omega)] at hF
      have kF : ∀ x i, x ≠ 45 + a.toNat → (x ≠ 75 ∨ i ≠ a.toNat) → F x i = D x i := fun x i p1 p2 => by
        rw [hF.2]
        rcases p2 with p2 | p2
        · rw [hu_k _ _ p2, k x i p1]
        · rw [hu_i _ _ p2, k x i p1]
      refine ⟨by rw [hF.1, e1, hr], RL_sh h (fun x i p1 p2 => kF x i (by omega) (by omega)) (kF 56 17 (by omega) (by omega)) (fun s hs => ?_) (fun s hs => ?_) ?_⟩
      · have g := h.1.2.2 s hs
        rw [kF 76 s (by omega) (by omega), kF 77 s (by omega) (by omega)]
        refine ⟨?_, g.2⟩
        by_cases y : s = a.toNat
        · rw [hF.2, y, hu_s]; exact Or.inl rfl
        · rw [kF 75 s (by omega) (Or.inr y)]; exact g.1
      · by_cases y : s = a.toNat
        · refine Or.inl ⟨by rw [hF.2, y, hu_s], ?_, ?_⟩
          · rw [hF.2, hu_k _ _ (by omega), e2, y, hu_i _ _ (by decide), hu_s]
          · rw [hF.2, hu_k _ _ (by omega), e2, y, hu_s]; omega
        · unfold SHR
          rw [kF 75 s (by omega) (Or.inr y), kF 76 s (by omega) (by omega), kF 77 s (by omega) (by omega), kF (45 + s) 0 (by omega) (by omega), kF (45 + s) 1 (by omega) (by omega)]
          rcases h.2.2.2.2.1 s hs with g | g
          · exact Or.inl g
          · refine Or.inr ⟨g.1, g.2.1, g.2.2.1, fun i hi => ?_⟩
            rw [kF (49 + s) i (by omega) (by omega), kF 78 _ (by omega) (by omega)]
            exact g.2.2.2 i hi
      · rw [kF 0 6 (by omega) (by omega), kF 56 28 (by omega) (by omega)]; exact h.2.2.2.2.2.1
  · rw [if_neg q] at hE
    obtain ⟨e1, e2⟩ := hE
    subst e2
    refine ⟨_, M_lose E a, fun v' F hF => ?_⟩
    rw [if_neg q] at hF
    exact ⟨hF.1.trans e1.symm, by rw [hF.2]; exact h⟩
theorem st_sheet {D : HP} (h : RLB D) (a f n : Int) : ST mX5_sheet mX6_sheet [vI a, vI f, vI n] D := by
  refine ⟨_, K_sheet D a f n, fun v E hE => ?_⟩
  by_cases q : (0 ≤ a ∧ a ≤ 3) ∧ (0 ≤ f ∧ f ≤ 2) ∧ n ≤ 60
  · rw [if_pos q] at hE
    have ha : a.toNat < 4 := by omega
    by_cases q2 : n < 0
    · rw [if_pos q2] at hE
      obtain ⟨e1, e2⟩ := hE
      refine ⟨_, M_sheet E a f n, fun v' F hF => ?_⟩
      rw [if_pos q, if_pos q2] at hF
      exact ⟨hF.1.trans e1.symm, by rw [hF.2]; exact RL_fnd h 5 e2 (FRw.rf E)⟩
    · rw [if_neg q2] at hE
      obtain ⟨e1, ⟨e2, e3⟩, e4, e5⟩ := hE
      refine ⟨_, M_sheet E a f n, fun v' F hF => ?_⟩
      rw [if_pos q, if_neg q2] at hF
      obtain ⟨f1, f2⟩ := hF
      have k : ∀ x i, x ≠ 45 + a.toNat → x ≠ 49 + a.toNat → E x i = D x i := fun x i p1 p2 => e5 x i (Or.inl p1) p2
      have kF : ∀ x i, x ≠ 78 → (x ≠ 75 ∨ i ≠ a.toNat) → (x ≠ 76 ∨ i ≠ a.toNat) → (x ≠ 77 ∨ i ≠ a.toNat) → F x i = E x i := fun x i p1 p2 p3 p4 => by
        rw [f2]
        show (if x = 78 ∧ 60 * a.toNat ≤ i ∧ i < 60 * a.toNat + 60 then (0 : Int) else hu (hu (hu E 75 a.toNat 1) 76 a.toNat f) 77 a.toNat n x i) = _
        rw [if_neg (by omega)]
        unfold hu
        rw [if_neg (by omega), if_neg (by omega), if_neg (by omega)]
      have r75 : F 75 a.toNat = 1 := by
        rw [f2]
        show (if 75 = 78 ∧ _ then (0 : Int) else hu (hu (hu E 75 a.toNat 1) 76 a.toNat f) 77 a.toNat n 75 a.toNat) = _
        rw [if_neg (by omega), hu_k _ _ (by decide), hu_k _ _ (by decide), hu_s]
      have r76 : F 76 a.toNat = f := by
        rw [f2]
        show (if 76 = 78 ∧ _ then (0 : Int) else hu (hu (hu E 75 a.toNat 1) 76 a.toNat f) 77 a.toNat n 76 a.toNat) = _
        rw [if_neg (by omega), hu_k _ _ (by decide), hu_s]
      have r77 : F 77 a.toNat = n := by
        rw [f2]
        show (if 77 = 78 ∧ _ then (0 : Int) else hu (hu (hu E 75 a.toNat 1) 76 a.toNat f) 77 a.toNat n 77 a.toNat) = _
        rw [if_neg (by omega), hu_s]
      have r78 : ∀ i, F 78 i = if 60 * a.toNat ≤ i ∧ i < 60 * a.toNat + 60 then 0 else D 78 i := fun i => by
        rw [f2]
        show (if (78 : Nat) = 78 ∧ 60 * a.toNat ≤ i ∧ i < 60 * a.toNat + 60 then (0 : Int) else hu (hu (hu E 75 a.toNat 1) 76 a.toNat f) 77 a.toNat n 78 i) = _
        by_cases y : 60 * a.toNat ≤ i ∧ i < 60 * a.toNat + 60
        · rw [if_pos ⟨rfl, y⟩, if_pos y]
        · rw [if_neg (fun w => y w.2), if_neg y, hu_k _ _ (by decide), hu_k _ _ (by decide), hu_k _ _ (by decide), k 78 i (by omega) (by omega)]
      have kD : ∀ x i, x ≠ 78 → x ≠ 45 + a.toNat → x ≠ 49 + a.toNat → (x < 75 ∨ 77 < x ∨ i ≠ a.toNat) → F x i = D x i := fun x i p1 p2 p3 p4 => by rw [kF x i p1 (by omega) (by omega) (by omega), k x i p2 p3]
      refine ⟨by rw [f1, e1], RL_sh h (fun x i p1 p2 => kD x i (by omega) (by omega) (by omega) (by omega)) (kD 56 17 (by omega) (by omega) (by omega) (by omega)) (fun s hs => ?_) (fun s hs => ?_) ?_⟩
      · by_cases y : s = a.toNat
        · rw [y, r75, r76, r77]; omega
        · rw [kD 75 s (by omega) (by omega) (by omega) (by omega), kD 76 s (by omega) (by omega) (by omega) (by omega), kD 77 s (by omega) (by omega) (by omega) (by omega)]; exact h.1.2.2 s hs
      · by_cases y : s = a.toNat
        · refine Or.inr ⟨by rw [y, r75], ?_, ?_, fun i hi => ?_⟩
          · rw [y, r76, kF _ _ (by omega) (by omega) (by omega) (by omega)]; exact e2
          · rw [y, r77, kF _ _ (by omega) (by omega) (by omega) (by omega)]; exact e3
          · rw [y, r78, if_pos (by omega), kF _ _ (by omega) (by omega) (by omega) (by omega)]; exact e4 i hi
        · unfold SHR
          rw [kD 75 s (by omega) (by omega) (by omega) (by omega), kD 76 s (by omega) (by omega) (by omega) (by omega), kD 77 s (by omega) (by omega) (by omega) (by omega), kD (45 + s) 0 (by omega) (by omega) (by omega) (by omega), kD (45 + s) 1 (by omega) (by omega) (by omega) (by omega)]
          rcases h.2.2.2.2.1 s hs with g | g
          · exact Or.inl g
          · refine Or.inr ⟨g.1, g.2.1, g.2.2.1, fun i hi => ?_⟩
            rw [kD (49 + s) i (by omega) (by omega) (by omega) (by omega), r78, if_neg (by omega)]
            exact g.2.2.2 i hi
      · rw [kD 0 6 (by omega) (by omega) (by omega) (by omega), kD 56 28 (by omega) (by omega) (by omega) (by omega)]; exact h.2.2.2.2.2.1
  · rw [if_neg q] at hE
    obtain ⟨e1, e2⟩ := hE
    subst e2
    refine ⟨_, M_sheet E a f n, fun v' F hF => ?_⟩
    rw [if_neg q] at hF
    exact ⟨hF.1.trans e1.symm, by rw [hF.2]; exact h⟩
/-- items of sheet t change alike in both -/
theorem RL_it {D E F : HP} (h : RLB D) {t : Nat} (ht : t < 4) (hE : ∀ x i, x ≠ 49 + t → E x i = D x i) {E0 : HP} (hF0 : FRw E E0) (hF : ∀ x i, x ≠ 78 → x ≠ 79 → F x i = E0 x i) (h78 : ∀ s i : Nat, s < 4 → s ≠ t → i < 60 → F 78 (60 * s + i) = D 78 (60 * s + i)) (hit : ∀ i : Nat, i < 60 → E (49 + t) i = F 78 (60 * t + i)) (hl : D 75 t ≠ 0) : RLB F := by
  have k : ∀ x i, (x < 56 ∨ x = 57 ∨ x = 58 ∨ (69 < x ∧ x < 72) ∨ (74 < x ∧ x < 78)) → x ≠ 49 + t → F x i = D x i := fun x i p1 p2 => by rw [hF x i (by omega) (by omega), hF0 x i (by omega) (by omega), hE x i p2]
  have k5 : ∀ i, i = 17 ∨ i = 28 → F 56 i = D 56 i := fun i p => by rw [hF 56 i (by omega) (by omega), hF0 56 i (by omega) (by omega), hE 56 i (by omega)]
  refine RL_sh h (fun x i p1 p2 => k x i (by omega) (by omega)) (k5 17 (by omega)) (fun s hs => ?_) (fun s hs => ?_) ?_
  · rw [k 75 s (by omega) (by omega), k 76 s (by omega) (by omega), k 77 s (by omega) (by omega)]; exact h.1.2.2 s hs
  · unfold SHR
    rw [k 75 s (by omega) (by omega), k 76 s (by omega) (by omega), k 77 s (by omega) (by omega), k (45 + s) 0 (by omega) (by omega), k (45 + s) 1 (by omega) (by omega)]
    rcases h.2.2.2.2.1 s hs with g | g
    · exact Or.inl g
    · refine Or.inr ⟨g.1, g.2.1, g.2.2.1, fun i hi => ?_⟩
      by_cases y : s = t
      · subst y
        rw [← hit i hi, hF (49 + s) i (by omega) (by omega), hF0 (49 + s) i (by omega) (by omega)]
      · rw [h78 s i hs y hi, k (49 + s) i (by omega) (by omega)]
        exact g.2.2.2 i hi
  · rw [k 0 6 (by omega) (by omega), k5 28 (by omega)]; exact h.2.2.2.2.2.1
theorem RL_up {D : HP} (h : RLB D) {s : Nat} (hs : s < 4) (hl : D 75 s ≠ 0) : D (45 + s) 0 = D 76 s ∧ D (45 + s) 1 = D 77 s ∧ ∀ i : Nat, i < 60 → D (49 + s) i = D 78 (60 * s + i) := by
  rcases h.2.2.2.2.1 s hs with g | g
  · exact absurd g.1 hl
  · exact g.2
theorem lckM_c {D E : HP} (c : ∀ x i, 55 < x → E x i = D x i) (s : Nat) (f i : Int) : lckM E s f i = lckM D s f i := by
  unfold lckM
  rw [c 75 s (by decide), c 76 s (by decide), c 77 s (by decide)]
theorem st_put {D : HP} (h : RLB D) (a f i x : Int) : ST mX5_put mX6_put [vI a, vI f, vI i, vI x] D := by
  refine ⟨_, K_put (RL_SHC h) a f i x, fun v E hE => ?_⟩
  by_cases q : (0 ≤ a ∧ a ≤ 3) ∧ 0 ≤ f ∧ f ≤ 2
  · rw [if_pos q] at hE
    have ha : a.toNat < 4 := by omega
    have hl := lckM_in D a.toNat f i
    rw [lck_eq h ha] at hE
    by_cases q2 : lckM D a.toNat f i = 0
    · rw [if_pos q2] at hE
      obtain ⟨e1, e2⟩ := hE
      have hk := lckM_0 (show lckM D a.toNat f i ≤ 0 by omega)
      have hM := (h.1.2.2 a.toNat ha).2.2
      have hu2 := RL_up h ha hk.1
      have c : ∀ x i, 55 < x → E x i = D x i := fun x i p => by rw [e2, hu_k _ _ (by omega)]
      refine ⟨_, M_put (SHM_c h.1.2.2 c) a f i x, fun v' F hF => ?_⟩
      rw [if_pos q, lckM_c c, if_pos (by omega)] at hF
      refine ⟨hF.1.trans e1.symm, RL_it h ha (fun y j p => by rw [e2, hu_k _ _ p]) (FRw.rf E) (fun y j p1 p2 => by rw [hF.2, hu_k _ _ p1]) (fun s j p1 p2 p3 => ?_) (fun j hj => ?_) hk.1⟩
      · rw [hF.2, hu_i _ _ (by omega), c 78 _ (by decide)]
      · rw [hF.2, e2]
        by_cases y : j = i.toNat
        · rw [y, hu_s, hu_s]
        · rw [hu_i _ _ y, hu_i _ _ (by omega), hu_k _ _ (by omega)]
          exact hu2.2.2 j hj
    · rw [if_neg q2] at hE
      obtain ⟨e1, e2⟩ := hE
      have c := cE0 e2
      refine ⟨_, M_put (SHM_c h.1.2.2 c) a f i x, fun v' F hF => ?_⟩
      rw [if_pos q, lckM_c c, if_neg (by omega)] at hF
      exact ⟨hF.1.trans e1.symm, by rw [hF.2]; exact RL_fnd h _ e2 (FRw.rf E)⟩
  · rw [if_neg q] at hE
    obtain ⟨e1, e2⟩ := hE
    subst e2
    refine ⟨_, M_put h.1.2.2 a f i x, fun v' F hF => ?_⟩
    rw [if_neg q] at hF
    exact ⟨hF.1.trans e1.symm, by rw [hF.2]; exact h⟩
theorem st_get {D : HP} (h : RLB D) (a f i : Int) : ST mX5_get mX6_get [vI a, vI f, vI i] D := by
  refine ⟨_, K_get (RL_SHC h) a f i, fun v E hE => ?_⟩
  by_cases q : (0 ≤ a ∧ a ≤ 3) ∧ 0 ≤ f ∧ f ≤ 2
  · rw [if_pos q] at hE
    have ha : a.toNat < 4 := by omega
    have hl := lckM_in D a.toNat f i
    rw [lck_eq h ha] at hE
    by_cases q2 : lckM D a.toNat f i = 0
    · rw [if_pos q2] at hE
      obtain ⟨e1, e2⟩ := hE
      subst e2
      have hk := lckM_0 (show lckM E a.toNat f i ≤ 0 by omega)
      have hM := (h.1.2.2 a.toNat ha).2.2
      have hu2 := RL_up h ha hk.1
      refine ⟨_, M_get h.1.2.2 a f i, fun v' F hF => ?_⟩
      rw [if_pos q, if_pos (by omega)] at hF
      refine ⟨?_, by rw [hF.2]; exact h⟩
      rw [hF.1, e1, hu2.2.2 i.toNat (by omega)]
    · rw [if_neg q2] at hE
      obtain ⟨e1, e2⟩ := hE
      have c := cE0 e2
      refine ⟨_, M_get (SHM_c h.1.2.2 c) a f i, fun v' F hF => ?_⟩
      rw [if_pos q, lckM_c c, if_neg (by omega)] at hF
      exact ⟨hF.1.trans e1.symm, by rw [hF.2]; exact RL_fnd h _ e2 (FRw.rf E)⟩
  · rw [if_neg q] at hE
    obtain ⟨e1, e2⟩ := hE
    subst e2
    refine ⟨_, M_get h.1.2.2 a f i, fun v' F hF => ?_⟩
    rw [if_neg q] at hF
    exact ⟨hF.1.trans e1.symm, by rw [hF.2]; exact h⟩
set_option maxHeartbeats 4000000 in
theorem st_copy {D : HP} (h : RLB D) (s i t j n : Int) : ST mX5_copy mX6_copy [vI s, vI i, vI t, vI j, vI n] D := by
  refine ⟨_, K_copy (RL_SHC h) s i t j n, fun v E hE => ?_⟩
  unfold copC at hE
  by_cases q : (0 ≤ s ∧ s ≤ 3) ∧ 0 ≤ t ∧ t ≤ 3
  · rw [if_pos q] at hE
    have hs4 : s.toNat < 4 := by omega
    have ht4 : t.toNat < 4 := by omega
    have ls := lost_eq h hs4
    have lt := lost_eq h ht4
    have fnd1 : ∀ m : Int, E = hu D 0 6 m → ∀ F, F = fnd E m → RLB F := fun m e F f => by rw [f]; exact RL_fnd h m e (FRw.rf E)
    by_cases q1 : D (45 + s.toNat) 0 = -1 ∨ D (45 + t.toNat) 0 = -1
    · rw [if_pos q1] at hE
      have c := cE0 hE.2
      refine ⟨_, M_copy (SHM_c h.1.2.2 c) s i t j n, fun v' F hF => ?_⟩
      unfold copM at hF
      rw [if_pos q, c 75 _ (by decide), c 75 _ (by decide), if_pos (by rw [← ls, ← lt]; exact q1)] at hF
      exact ⟨hF.1.trans hE.1.symm, fnd1 1 hE.2 F hF.2⟩
    rw [if_neg q1] at hE
    have q1' : ¬ (D 75 s.toNat = 0 ∨ D 75 t.toNat = 0) := by rw [← ls, ← lt]; exact q1
    have us := RL_up h hs4 (fun w => q1' (Or.inl w))
    have ut := RL_up h ht4 (fun w => q1' (Or.inr w))
    rw [us.1, ut.1, us.2.1, ut.2.1] at hE
    by_cases q2 : D 76 s.toNat ≠ D 76 t.toNat
    · rw [if_pos q2] at hE
      have c := cE0 hE.2
      refine ⟨_, M_copy (SHM_c h.1.2.2 c) s i t j n, fun v' F hF => ?_⟩
      unfold copM at hF
      rw [if_pos q, c 75 _ (by decide), c 75 _ (by decide), if_neg q1', c 76 _ (by decide), c 76 _ (by decide), if_pos q2] at hF
      exact ⟨hF.1.trans hE.1.symm, fnd1 4 hE.2 F hF.2⟩
    rw [if_neg q2] at hE
    by_cases q3 : i < 0 ∨ j < 0 ∨ n < 0 ∨ D 77 s.toNat < i + n ∨ D 77 t.toNat < j + n
    · rw [if_pos q3] at hE
      have c := cE0 hE.2
      refine ⟨_, M_copy (SHM_c h.1.2.2 c) s i t j n, fun v' F hF => ?_⟩
      unfold copM at hF
      rw [if_pos q, c 75 _ (by decide), c 75 _ (by decide), if_neg q1', c 76 _ (by decide), c 76 _ (by decide), if_neg q2, c 77 _ (by decide), c 77 _ (by decide), if_pos q3] at hF
      exact ⟨hF.1.trans hE.1.symm, fnd1 2 hE.2 F hF.2⟩
    rw [if_neg q3] at hE
    obtain ⟨e1, e2⟩ := hE
    have zs := (h.1.2.2 s.toNat hs4).2.2
    have zt := (h.1.2.2 t.toNat ht4).2.2
    have c : ∀ x i, 55 < x → E x i = D x i := fun x i p => by rw [e2, hc_ne (by omega)]
    refine ⟨_, M_copy (SHM_c h.1.2.2 c) s i t j n, fun v' F hF => ?_⟩
    unfold copM at hF
    rw [if_pos q, c 75 _ (by decide), c 75 _ (by decide), if_neg q1', c 76 _ (by decide), c 76 _ (by decide), if_neg q2, c 77 _ (by decide), c 77 _ (by decide), if_neg q3] at hF
    obtain ⟨f1, f2⟩ := hF
    refine ⟨f1.trans e1.symm, RL_it h ht4 (fun y k p => by rw [e2, hc_ne p]) (FRw.rf E) (fun y k p1 p2 => ?_) (fun u k p1 p2 p3 => ?_) (fun k hk => ?_) (fun w => q1' (Or.inr w))⟩
    · rw [f2 y k p2]
      unfold cpM
      rw [if_neg (fun w => p1 w.1)]
    · rw [f2 78 _ (by decide)]
      unfold cpM
      rw [if_neg (by omega), c 78 _ (by decide)]
    · rw [f2 78 _ (by decide), e2]
      unfold cpM
      show (if 49 + t.toNat = 49 + t.toNat ∧ j.toNat ≤ k ∧ k < j.toNat + n.toNat then D (49 + s.toNat) (i.toNat + (k - j.toNat)) else D (49 + t.toNat) k) = _
      by_cases y : j.toNat ≤ k ∧ k < j.toNat + n.toNat
      · rw [if_pos ⟨rfl, y⟩, if_pos (by omega), us.2.2 _ (by omega), hc_ne (by omega), show 60 * s.toNat + i.toNat + (60 * t.toNat + k - (60 * t.toNat + j.toNat)) = 60 * s.toNat + (i.toNat + (k - j.toNat)) by omega]
      · rw [if_neg (fun w => y w.2), if_neg (by omega), ut.2.2 k hk, hc_ne (by omega)]
  · rw [if_neg q] at hE
    obtain ⟨e1, e2⟩ := hE
    subst e2
    refine ⟨_, M_copy h.1.2.2 s i t j n, fun v' F hF => ?_⟩
    unfold copM at hF
    rw [if_neg q] at hF
    exact ⟨hF.1.trans e1.symm, by rw [hF.2]; exact h⟩
set_option maxHeartbeats 4000000 in
theorem st_write {D : HP} (h : RLB D) (a s : Int) : ST mX5_write mX6_write [vI a, vI s] D := by
  have hok := tS_ok h.1.1
  have hcl := hok.2.1
  refine ⟨_, K_write h.2.2.1.1 (RL_SHC h) a s, fun v E hE => ?_⟩
  by_cases q : (0 ≤ a ∧ a < tS D 0 2) ∧ 0 ≤ s ∧ s ≤ 3
  · rw [if_pos q] at hE
    have hs4 : s.toNat < 4 := by omega
    have ls := lost_eq h hs4
    by_cases q1 : D (45 + s.toNat) 0 = -1
    · rw [if_pos q1] at hE
      have c := cE0 hE.2
      have hSE : tS E = tS D := tS_eq fun x i p => c x i (by omega)
      refine ⟨_, M_write (TXM_of h.1.1 (fun x i p => c x i (by omega))) (SHM_c h.1.2.2 c) a s, fun v' F hF => ?_⟩
      rw [hSE, if_pos q, c 75 _ (by decide), if_pos (ls.1 q1)] at hF
      obtain ⟨f1, E0, f2, f3⟩ := hF
      exact ⟨f1.trans hE.1.symm, by rw [f3]; exact RL_fnd h 1 hE.2 f2⟩
    · rw [if_neg q1] at hE
      have q1' : D 75 s.toNat ≠ 0 := fun w => q1 (ls.2 w)
      have us := RL_up h hs4 q1'
      rw [us.1, us.2.1] at hE
      obtain ⟨e1, e2⟩ := hE
      have c : ∀ x i, 55 < x → E x i = D x i := fun x i p => by rw [e2]; unfold wrC; rw [if_neg (by omega)]
      have hSE : tS E = tS D := tS_eq fun x i p => c x i (by omega)
      have zs := (h.1.2.2 s.toNat hs4).2.2
      refine ⟨_, M_write (TXM_of h.1.1 (fun x i p => c x i (by omega))) (SHM_c h.1.2.2 c) a s, fun v' F hF => ?_⟩
      rw [hSE, if_pos q, c 75 _ (by decide), if_neg q1', c 77 _ (by decide), c 76 _ (by decide)] at hF
      obtain ⟨f1, E0, f2, f3⟩ := hF
      have hmn : mnW (D 77 s.toNat) (tS D 0 1) ≤ D 77 s.toNat := by unfold mnW; split <;> omega
      have r78 : ∀ i, E0 78 i = D 78 i := fun i => by rw [f2 78 i (by omega) (by omega), c 78 i (by decide)]
      refine ⟨f1.trans e1.symm, RL_it h hs4 (fun y k p => by rw [e2]; unfold wrC; rw [if_neg (fun w => p w.1)]) f2 (fun y k p1 p2 => by rw [f3]; unfold wrM; rw [if_neg (fun w => p1 w.1)]) (fun u k p1 p2 p3 => ?_) (fun k hk => ?_) q1'⟩
      · rw [f3]
        unfold wrM
        rw [if_neg (by omega), r78]
      · rw [f3, e2]
        unfold wrM wrC
        by_cases y : k < (mnW (D 77 s.toNat) (tS D 0 1)).toNat
        · rw [if_pos ⟨rfl, y⟩, if_pos (by omega), show 60 * s.toNat + k - 60 * s.toNat = k by omega]
        · rw [if_neg (fun w => y w.2), if_neg (by omega), r78]
          exact us.2.2 k hk
  · rw [if_neg q] at hE
    obtain ⟨e1, e2⟩ := hE
    subst e2
    refine ⟨_, M_write h.1.1 h.1.2.2 a s, fun v' F hF => ?_⟩
    rw [if_neg q] at hF
    exact ⟨hF.1.trans e1.symm, RL_w h hF.2⟩
