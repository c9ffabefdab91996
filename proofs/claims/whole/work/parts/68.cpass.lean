def frp (S : SC) : Nat → Nat → Bool
  | 0, _ => false
  | m + 1, k => decide (tu S (m + 1) k = m)
def rtp (S : SC) : Nat → Nat → Bool
  | 0, _ => false
  | m + 1, k => decide (tu S (m + 1) k = m) && rtd S m k
theorem cs_has {x y : Int} {p q : Nat → Bool} {D : HP} (h : BS x p) (g : BS y q) {k : Nat} (hk : k < 8) : fX0_has D (b_iand x (b_ixor y (-1))) k = if (p k && !(q k)) = true then 1 else 0 := (h.but g).has hk
/-- a course at o, ahead of minute m -/
def RC (D : HP) (o : Nat) (S : SC) (m : Nat) : Prop := SD D o S ∧ (∀ j : Nat, j ≤ m → TD D o S j) ∧ (∀ j : Nat, j ≤ m → ∀ k : Nat, (k : Int) < S 0 3 → D (o + 12) (8 * j + k) = rb S j k) ∧
  (∀ j : Nat, j + 1 < m → D (o + 14) j = ele S j ∧ D (o + 15) j = inn S j ∧ BS (D (o + 13) j) (fun k => decide ((k : Int) < S 0 3) && rtp S (j + 1) k))
theorem tu_st {S : SC} {m k : Nat} : tu S (m + 1) k = if som S k = true ∧ tu S m k = -1 ∧ rb S m k < stn S k (wnd S (tu S m) m (S 6 k)) then (m : Int) else tu S m k := rfl
theorem rb_st {S : SC} {m k : Nat} : rb S (m + 1) k = if som S k = true ∧ tu S m k = -1 ∧ stn S k (wnd S (tu S m) m (S 6 k)) = rb S m k ∧ 1 < rb S m k then rb S m k - 1 else rb S m k := rfl
theorem BS.stp {x x' : Int} {p : Nat → Bool} {n : Nat} (h : BS x (fun k => decide (k < n) && p k)) (hn : n < 8) (e : x' = if p n = true then b_ior x (b_ishl 1 (n : Int)) else x) : BS x' (fun k => decide (k < n + 1) && p k) := by
  rw [e]
  by_cases q : p n = true
  · rw [if_pos q]
    refine (h.add hn).eq fun k _ => ?_
    by_cases y : k = n
    · subst y; simp [q]
    · simp only [y, decide_false, Bool.or_false]
      rw [decide_eq_decide.2 (show k < n + 1 ↔ k < n by omega)]
  · rw [if_neg q]
    refine h.eq fun k _ => ?_
    by_cases y : k = n
    · subst y; simp [q]
    · rw [decide_eq_decide.2 (show k < n + 1 ↔ k < n by omega)]
theorem stn_s {D : HP} {S : SC} (h : OKS S) {k : Nat} (hk : (k : Int) < S 0 3) {w : Int} : fX0_strainOf D w (S 8 k) = stn S k w := by
  have := (h.2.2.2.2.2.2 k hk).2.2
  unfold fX0_strainOf stn
  repeat' split
  all_goals omega
set_option maxHeartbeats 8000000 in
theorem C_pass {o : Nat} (ho : o = 9 ∨ o = 25) {D : HP} {S : SC} (h : OKS S) (hM : CS D o S) (hV : SV D o S) {m : Nat} (hm : (m : Int) < S 0 2) (hR : RC D o S m) : CT mX0_pass [vR o, vI m] D (fun v E => v = none ∧ RC E o S (m + 1) ∧ FC o D E) := by
  have h2 := h.2.2.1
  have h3 := h.2.2.2.1
  obtain ⟨hS, hT, hr, hE⟩ := hR
  have hTm := hT m (Nat.le_refl m)
  -- behind the candidates
  have fin : ∀ (E : HP) (x4 x5 : Int), BS x4 (fun k => decide ((k : Int) < S 0 3) && rtp S m k) → BS x5 (fun k => decide ((k : Int) < S 0 3) && decide (tu S (m + 1) k = m)) → (∀ a i, a ≠ o + 12 → E a i = D a i) → (∀ i, i < 8 * (m + 1) → E (o + 12) i = D (o + 12) i) → (∀ k : Nat, (k : Int) < S 0 3 → E (o + 12) (8 * (m + 1) + k) = rb S (m + 1) k) →
      (c32 ((m : Int) + 1)) ∧ ((0 ≤ ((m : Int) + 1) ∧ ((m : Int) + 1) < 13) ∧ (∀ (E13 : HP), E13 = (hu E (o + 11) (((m : Int) + 1)).toNat (b_ior (D (o + 11) m) x5)) → (((m : Int) ≤ 0 → ((none : Option MV) = none ∧ RC E13 o S (m + 1) ∧ FC o D E13)) ∧ (¬ ((m : Int) ≤ 0) → ((c32 ((m : Int) - 1)) ∧ (∃ Q16 : Option MV → HP → Prop, CT mX0_elect [vR o, vI ((m : Int) - 1), vI x4] E13 Q16 ∧ ∀ (D19 : HP), Q16 none D19 → cD D19 → ((none : Option MV) = none ∧ RC D19 o S (m + 1) ∧ FC o D D19))))))) := by
    intro E x4 x5 hx4 hx5 e1 e2 e3
    refine ⟨by unfold c32; omega, by omega, fun E13 hE13 => ?_⟩
    rw [show (((m : Int) + 1)).toNat = m + 1 by omega] at hE13
    have hTn : TD E13 o S (m + 1) := by
      unfold TD
      rw [hE13, hu_s]
      refine (BS.or hTm hx5).eq fun k _ => ?_
      have a := tu_in (S := S) (k := k) m
      rw [tu_st]
      by_cases z : som S k = true ∧ tu S m k = -1 ∧ rb S m k < stn S k (wnd S (tu S m) m (S 6 k))
      · simp only [if_pos z]
        have : ¬ (m : Int) = -1 := by omega
        simp [z.2.1, this]
      · simp only [if_neg z]
        by_cases y : tu S m k = -1
        · have : ¬ (-1 : Int) = m := by omega
          simp [y, this]
        · simp [y]
          intro q _; exact q
    have hS13 : SD E13 o S := by
      refine ⟨?_, fun c hc => ?_⟩
      · rw [hE13, hu_k _ _ (by omega), e1 _ _ (by omega)]; exact hS.1
      · rw [hE13, hu_k _ _ (by omega), e1 _ _ (by omega)]; exact hS.2 c hc
    have hT13 : ∀ j : Nat, j ≤ m + 1 → TD E13 o S j := fun j hj => by
      by_cases e : j = m + 1
      · rw [e]; exact hTn
      · unfold TD
        rw [hE13, hu_i _ _ e, e1 _ _ (by omega)]; exact hT j (by omega)
    have hr13 : ∀ j : Nat, j ≤ m + 1 → ∀ k : Nat, (k : Int) < S 0 3 → E13 (o + 12) (8 * j + k) = rb S j k := fun j hj k hk => by
      rw [hE13, hu_k _ _ (by omega)]
      by_cases e : j = m + 1
      · rw [e]; exact e3 k hk
      · rw [e2 _ (by omega)]; exact hr j (by omega) k hk
    have hF13 : FC o D E13 := fun a i p1 p2 => by rw [hE13, hu_k _ _ (by omega), e1 _ _ (by omega)]
    have hE13o : ∀ a i, a = o + 13 ∨ a = o + 14 ∨ a = o + 15 → E13 a i = D a i := fun a i q => by rw [hE13, hu_k _ _ (by omega), e1 _ _ (by omega)]
    refine ⟨fun q => ⟨rfl, ⟨hS13, hT13, hr13, fun j hj => absurd hj (by omega)⟩, hF13⟩, fun q => ⟨by unfold c32; omega, ?_⟩⟩
    obtain ⟨n, rfl⟩ : ∃ n, m = n + 1 := ⟨m - 1, by omega⟩
    have ce := C_elect ho h (D := E13) (m := n) (by omega) (b := x4) (hT13 n (by omega)) (hT13 (n + 1) (by omega)) hx4 (fun k hk => hr13 n (by omega) k hk) (fun hn => by
      rw [hE13o _ _ (by omega)]; exact (hE (n - 1) (by omega)).2.1)
    rw [show (((n + 1 : Nat) : Int) - 1) = n by omega]
    refine ⟨_, ce, ?_⟩
    rintro D19 ⟨-, hD⟩ _
    refine ⟨rfl, ⟨⟨?_, fun c hc => ?_⟩, fun j hj => ?_, fun j hj k hk => ?_, fun j hj => ?_⟩, fun a i p1 p2 => ?_⟩
    · rw [hD, hu_k _ _ (by omega), hu_k _ _ (by omega), hu_k _ _ (by omega)]; exact hS13.1
    · rw [hD, hu_k _ _ (by omega), hu_k _ _ (by omega), hu_k _ _ (by omega)]; exact hS13.2 c hc
    · unfold TD
      rw [hD, hu_k _ _ (by omega), hu_k _ _ (by omega), hu_k _ _ (by omega)]; exact hT13 j hj
    · rw [hD, hu_k _ _ (by omega), hu_k _ _ (by omega), hu_k _ _ (by omega)]; exact hr13 j hj k hk
    · by_cases e : j = n
      · subst e
        rw [hD]
        refine ⟨?_, ?_, ?_⟩
        · rw [hu_k _ _ (by omega), hu_s]
        · rw [hu_s]
        · rw [hu_k _ _ (by omega), hu_k _ _ (by omega), hu_s]; exact hx4
      · have g := hE j (by omega)
        rw [hD]
        refine ⟨?_, ?_, ?_⟩
        · rw [hu_k _ _ (by omega), hu_i _ _ e, hu_k _ _ (by omega), hE13o _ _ (by omega)]; exact g.1
        · rw [hu_i _ _ e, hu_k _ _ (by omega), hu_k _ _ (by omega), hE13o _ _ (by omega)]; exact g.2.1
        · rw [hu_k _ _ (by omega), hu_k _ _ (by omega), hu_i _ _ e, hE13o _ _ (by omega)]; exact g.2.2
    · rw [hD, hu_k _ _ (by omega), hu_k _ _ (by omega), hu_k _ _ (by omega)]; exact hF13 a i p1 p2
  refine V_X0_pass ho m
    (fun x1 x2 x3 x4 x5 x6 E => x1 = m ∧ x2 = D (o + 11) m ∧ BS x3 (fun k => decide ((k : Int) < S 0 3) && frp S m k) ∧ (∃ n : Nat, x6 = n ∧ (n : Int) ≤ S 0 3 ∧ BS x4 (fun k => decide (k < n) && rtp S m k) ∧ BS x5 (fun k => decide (k < n) && decide (tu S (m + 1) k = m)) ∧ (∀ k : Nat, k < n → E (o + 12) (8 * (m + 1) + k) = rb S (m + 1) k)) ∧ (∀ a i, a ≠ o + 12 → E a i = D a i) ∧ (∀ i, i < 8 * (m + 1) → E (o + 12) i = D (o + 12) i)) (fun _ _ _ _ _ x6 _ => (8 - x6).toNat)
    (fun _ _ => ?_) ?_
  · rw [hM.1.2.2.1, show ((m : Int)).toNat = m by omega]
    refine ⟨fun q => absurd q (by omega), fun _ => ⟨fun q => absurd q (by omega), fun _ => ⟨fun _ => ⟨by omega, ⟨fun _ => trivial, fun _ => ⟨by unfold c32; omega, by omega⟩⟩, fun v5 hv => ⟨rfl, rfl, ?_, ⟨0, rfl, by omega, BS.z.eq fun k _ => by simp, BS.z.eq fun k _ => by simp, fun k hk => absurd hk (Nat.not_lt_zero _)⟩, fun _ _ _ => rfl, fun _ _ => rfl⟩⟩, fun q => absurd q (by omega)⟩⟩⟩
    rw [hv]
    rcases m with _ | m
    · rw [if_pos (by omega)]
      exact BS.z.eq fun k _ => by simp [frp]
    · rw [if_neg (by omega), show (((m + 1 : Nat) : Int) - 1).toNat = m by omega]
      refine (hTm.but (hT m (by omega))).eq fun k _ => ?_
      have e := tu_new (S := S) (m := m) (k := k)
      unfold frp
      by_cases z : tu S (m + 1) k = m
      · have e := e.2 z
        simp [z, e.2]
      · by_cases y : tu S (m + 1) k = -1
        · simp [y]
        · have : ¬ tu S m k = -1 := fun w => z (e.1 ⟨y, w⟩)
          simp [z, this]
          intro q _; exact q
  · rintro x1 x2 x3 x4 x5 x6 E ⟨rfl, rfl, hx3, ⟨n, rfl, hn, hx4, hx5, e3⟩, e1, e2⟩ _ _ _ _ _ _ _
    have hF : FC o D E := fun a i p1 p2 => e1 a i (by omega)
    have hME := hF.CS hM
    have hVE := hF.SV hV
    have hSE : SD E o S := ⟨by rw [e1 _ _ (by omega)]; exact hS.1, fun c hc => by rw [e1 _ _ (by omega)]; exact hS.2 c hc⟩
    have hTE : TD E o S m := by unfold TD; rw [e1 _ _ (by omega)]; exact hTm
    rw [hME.1.2.2.2]
    have ek : S 0 3 ≤ (n : Int) → ∀ k : Nat, decide (k < n) = decide ((k : Int) < S 0 3) := fun q k => decide_eq_decide.2 (by omega)
    refine ⟨fun q => fin E x4 x5 (hx4.eq fun k _ => by rw [ek q]) (hx5.eq fun k _ => by rw [ek q]) e1 e2 (fun k hk => e3 k (by omega)), fun q => ⟨fun q8 => absurd q8 (by omega), fun _ => ?_⟩⟩
    have q : (n : Int) < S 0 3 := by omega
    have hc := hME.2.2.2 n q
    rw [show ((n : Int)).toNat = n by omega, hc.1, hc.2.2, show (((m : Int) * 8) + (n : Int)).toNat = 8 * m + n by omega, show ((((m : Int) + 1) * 8) + (n : Int)).toNat = 8 * (m + 1) + n by omega, e2 _ (by omega), hr m (Nat.le_refl m) n q, e1 o 1 (by omega)]
    have hrb := rb_in h q m
    -- the wind
    have hW : 0 ≤ fX0_windOn E o m (S 6 n) ∧ fX0_windOn E o m (S 6 n) ≤ 12 := by
      by_cases z : 0 ≤ S 6 n ∧ S 6 n < S 0 1
      · have e := cs_wind h hME hVE hSE hm hTE (c := (S 6 n).toNat) (by omega)
        rw [show (((S 6 n).toNat : Nat) : Int) = S 6 n by omega] at e
        rw [e]; exact wnd_in h hm
      · rw [cs_wind0 hME z]; omega
    have hWs : som S n = true → fX0_windOn E o m (S 6 n) = wnd S (tu S m) m (S 6 n) := fun hs => by
      have z := som_in h q hs
      have e := cs_wind h hME hVE hSE hm hTE (c := (S 6 n).toNat) (by omega)
      rwa [show (((S 6 n).toNat : Nat) : Int) = S 6 n by omega] at e
    have hWo := cs_windo h hME hVE hm (S 6 n)
    have hfr := hx3.has (D := E) (k := n) (by omega)
    have hst := cs_has (D := E) hS.1 hTm (k := n) (by omega)
    rw [hfr, hst]
    generalize fX0_windOn E o m (S 6 n) = W at *
    rw [stn_s h q]
    have hstb : 0 ≤ stn S n W ∧ stn S n W ≤ 24 := by unfold stn; repeat' split; all_goals omega
    refine ⟨by unfold c32; omega, by unfold c32; omega, by omega, by omega, hWo, by omega, ?_, fun v40 hv40 v42 hv42 => ?_⟩
    · unfold oX0_strainOf
      exact ⟨fun _ => ⟨hW.1, trivial⟩, fun _ => ⟨⟨fun _ => by unfold c32; omega, fun _ => trivial⟩, trivial⟩⟩
    have hv0 : v42 = 0 ↔ ¬ (som S n = true ∧ tu S m n = -1) := by
      rw [hv42]
      by_cases z : som S n = true <;> by_cases y : tu S m n = -1 <;> simp [q, z, y]
    have htn := tu_in (S := S) (k := n) m
    refine ⟨⟨fun _ => trivial, fun _ => ⟨fun _ => ⟨fun _ => trivial, fun _ => by unfold c32; omega⟩, fun _ => trivial⟩⟩, by unfold c32; omega, by unfold c32; omega, by unfold c32; omega, by omega, fun E45 hE45 => ⟨by unfold c32; omega, ⟨rfl, rfl, hx3, ⟨n + 1, rfl, by omega, ?_, ?_, ?_⟩, ?_, ?_⟩, by omega⟩⟩
    · refine hx4.stp (by omega) ?_
      rcases m with _ | m
      · simp [frp, rtp]
      · by_cases z : tu S (m + 1) n = m
        · have e := hWs (tu_som (m + 1) (by omega))
          rw [e]
          by_cases y : wnd S (tu S (m + 1)) (m + 1) (S 6 n) = 0
          · have hm' : (m : Int) + 1 < S 0 2 := by omega
            simp [frp, rtp, rtd, z, y, q, hm']
          · simp [frp, rtp, rtd, z, y, q]
        · simp [frp, rtp, z]
    · refine hx5.stp (p := fun k => decide (tu S (m + 1) k = m)) (by omega) ?_
      rw [tu_st]
      by_cases z : som S n = true ∧ tu S m n = -1
      · rw [if_neg (fun y => hv0.1 y z), hv40, hWs z.1]
        by_cases y : stn S n (wnd S (tu S m) m (S 6 n)) ≤ rb S m n
        · rw [if_pos y, if_neg (show ¬ (som S n = true ∧ tu S m n = -1 ∧ rb S m n < stn S n (wnd S (tu S m) m (S 6 n))) by omega), if_neg]
          simp only [decide_eq_true_eq]; omega
        · rw [if_neg y, if_pos (show (som S n = true ∧ tu S m n = -1 ∧ rb S m n < stn S n (wnd S (tu S m) m (S 6 n))) from ⟨z.1, z.2, by omega⟩), if_pos (by simp)]
      · rw [if_pos (hv0.2 z), if_neg (show ¬ (som S n = true ∧ tu S m n = -1 ∧ rb S m n < stn S n (wnd S (tu S m) m (S 6 n))) from fun y => z ⟨y.1, y.2.1⟩), if_neg]
        simp only [decide_eq_true_eq]; omega
    · intro k hk
      by_cases e : k = n
      · subst e
        rw [hE45, hu_s, rb_st]
        by_cases z : som S k = true ∧ tu S m k = -1
        · rw [if_neg (fun y => hv0.1 y z), hv40, hWs z.1]
          by_cases y : stn S k (wnd S (tu S m) m (S 6 k)) = rb S m k
          · rw [if_pos y]
            by_cases w : rb S m k ≤ 1
            · rw [if_pos w, if_neg (fun u => absurd u.2.2.2 (by omega))]
            · rw [if_neg w, if_pos ⟨z.1, z.2, y, by omega⟩]
          · rw [if_neg y, if_neg (fun u => y u.2.2.1)]
        · rw [if_pos (hv0.2 z), if_neg (fun u => z ⟨u.1, u.2.1⟩)]
      · rw [hE45, hu_i _ _ (by omega)]; exact e3 k (by omega)
    · intro a i p
      rw [hE45, hu_k _ _ p]; exact e1 a i p
    · intro i hi
      rw [hE45, hu_i _ _ (by omega)]; exact e2 i hi
