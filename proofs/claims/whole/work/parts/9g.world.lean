/-! ===== the first world (made by wip/whole/genworld.py) ===== -/
def D0 : HP := fun k i => if k = 0 ∧ (i = 7 ∨ i = 10) then -1 else if k = 2 ∧ i = 1 then 29 else if k = 3 ∧ i = 1 then 24 else if k = 4 ∧ i = 1 then 39 else if k = 8 ∧ i < 3 then -1 else if (k = 45 ∨ k = 46 ∨ k = 47 ∨ k = 48) ∧ i = 0 then -1 else 0
theorem D0_0 {k i : Nat} (h : k ≠ 0 ∧ k ≠ 2 ∧ k ≠ 3 ∧ k ≠ 4 ∧ k ≠ 8 ∧ (k < 45 ∨ 48 < k)) : D0 k i = 0 := by
  unfold D0
  rw [if_neg (by omega), if_neg (by omega), if_neg (by omega), if_neg (by omega), if_neg (by omega), if_neg (by omega)]
theorem D0_c : cD D0 := fun k i => by
  have h : -1 ≤ D0 k i ∧ D0 k i ≤ 39 := by
    unfold D0
    repeat' split
    all_goals omega
  unfold cB
  split
  · unfold c64; omega
  · unfold c32; omega
theorem gfl0 (b : Nat → Int) : gfl b 0 = -1 := by
  unfold gfl
  rw [if_pos (show fsN (gbad b) 0 = -1 from rfl), if_neg (by decide)]
theorem kfl0 (b : Nat → Int) : kfl b 0 = -1 := by
  unfold kfl
  rw [if_pos (show fsN (kbad b) 0 = -1 from rfl), if_neg (by decide)]
theorem RLB_0 : RLB D0 := by
  have z : ∀ k i, (55 < k ∨ (8 < k ∧ k < 45) ∨ k = 53 ∨ k = 54) → D0 k i = 0 := fun k i h => D0_0 (by omega)
  have hn : ∀ t, tN D0 t = 0 := fun t => by unfold tN; rw [z 57 t (by omega)]; rfl
  have hT : TXM D0 := by
    refine ⟨?_, ?_, ?_, fun i _ => ?_⟩
    · rw [z _ _ (by omega)]; decide
    · rw [z _ _ (by omega)]; decide
    · rw [z _ _ (by omega)]; decide
    · rw [z _ _ (by omega)]; decide
  have e1 : tS D0 0 1 = 0 := by
    show ccl (tB D0 0) (tN D0 0) = 0
    rw [hn]
    unfold ccl
    rw [if_pos (cfl0 _)]
    rfl
  have e2 : tS D0 0 2 = 0 := by
    show gmn (tB D0 1) (tN D0 1) = 0
    rw [hn]
    unfold gmn
    rw [if_pos (gfl0 _)]
    rfl
  have e3 : tS D0 0 3 = 0 := by
    show kcn (tB D0 2) (tN D0 2) = 0
    rw [hn]
    unfold kcn
    rw [if_pos (kfl0 _)]
    rfl
  have hC : CS D0 9 (tS D0) := by
    refine ⟨⟨fun q => by omega, ?_, ?_, ?_⟩, fun j hj => by omega, fun j hj => by omega, fun j hj => by omega⟩
    · rw [z _ _ (by omega), e1]
    · rw [z _ _ (by omega), e2]
    · rw [z _ _ (by omega), e3]
  have hR : RC D0 9 (tS D0) (tS D0 0 2).toNat := by
    rw [e2]
    refine ⟨⟨?_, fun c _ => ?_⟩, fun j hj => ?_, fun j _ k hk => by omega, fun j hj => absurd hj (by simp)⟩
    · rw [z _ _ (by omega)]
      exact BS.z.eq fun k _ => by rw [e3, decide_eq_false (by omega)]; rfl
    · rw [z _ _ (by omega)]
      exact BS.z.eq fun k _ => by rw [e3, decide_eq_false (by omega)]; rfl
    · unfold TD
      rw [z _ _ (by omega)]
      exact BS.z.eq fun k _ => by rw [e3, decide_eq_false (by omega)]; rfl
  have s0 : ∀ s, s < 4 → D0 (45 + s) 0 = -1 ∧ D0 (45 + s) 1 = 0 := fun s hs => by
    rcases (show s = 0 ∨ s = 1 ∨ s = 2 ∨ s = 3 by omega) with rfl | rfl | rfl | rfl <;> exact ⟨rfl, rfl⟩
  refine ⟨⟨hT, ⟨?_, fun i hi => ?_⟩, fun s hs => ?_⟩, ⟨⟨rfl, rfl, rfl⟩, fun t ht => ?_⟩, ⟨⟨tS_ok hT, scT_dv, hC, fun w hw c hc => by omega, hR, fun j hj => by omega⟩, fun t ht => ?_⟩, ⟨?_, fun i hi => ?_⟩, fun s hs => Or.inl ⟨z _ _ (by omega), (s0 s hs).1, ?_, ?_⟩, ?_, Or.inl rfl, Or.inl rfl⟩
  · rw [z _ _ (by omega)]; decide
  · rw [z _ _ (by omega)] at hi; omega
  · rw [z _ _ (by omega), z _ _ (by omega), z _ _ (by omega)]; decide
  · refine ⟨?_, fun i hi => ?_⟩
    · rw [z 57 t (by omega)]
      rcases (show t = 0 ∨ t = 1 ∨ t = 2 by omega) with rfl | rfl | rfl <;> rfl
    · rw [z 57 t (by omega)] at hi; omega
  · unfold tF
    rw [hn, hn, hn, cfl0, gfl0, kfl0]
    have : D0 8 t = -1 := by
      rcases (show t = 0 ∨ t = 1 ∨ t = 2 by omega) with rfl | rfl | rfl <;> rfl
    rw [this]
    repeat' split
    all_goals rfl
  · rw [z _ _ (by omega), z _ _ (by omega)]
  · rw [z _ _ (by omega)] at hi; omega
  · rw [(s0 s hs).2]; decide
  · rw [(s0 s hs).2]; decide
  · rw [z 56 28 (by omega)]; rfl
theorem lt_3 {j : Nat} (h : j < 3) : j = 0 ∨ j = 1 ∨ j = 2 := by omega
theorem lt_4 {j : Nat} (h : j < 4) : j = 0 ∨ j = 1 ∨ j = 2 ∨ j = 3 := by omega
theorem arrV_cg {c : ClassId} {n : Nat} {f g : Nat → Value} (e : ∀ j, j < n → f j = g j) : arrV c n f = arrV c n g := by
  unfold arrV
  congr 2
  funext j
  exact e j.val j.isLt
theorem at_I {dC : Nat → ClassId} {dI : Nat → Nat → Nat} {a n : Nat} {c : ClassId} {f g : Nat → Int32} {H : Heap} (h : va_at (dC, dI) vwCl (a, .inl (c, n, .inl f)) H) (e : ∀ j, j < n → f j = g j) : va_at (dC, dI) vwCl (a, .inl (c, n, .inl g)) H := by
  have h : H[a]? = some (vp_cell c (n, .inl f)) := h
  show H[a]? = some (vp_cell c (n, .inl g))
  rw [h, vp_cell_i, vp_cell_i, arrV_cg (fun j hj => by rw [e j hj])]
theorem at_L {dC : Nat → ClassId} {dI : Nat → Nat → Nat} {a n : Nat} {c : ClassId} {f g : Nat → Int64} {H : Heap} (h : va_at (dC, dI) vwCl (a, .inl (c, n, .inr (.inl f))) H) (e : ∀ j, j < n → f j = g j) : va_at (dC, dI) vwCl (a, .inl (c, n, .inr (.inl g))) H := by
  have h : H[a]? = some (vp_cell c (n, .inr (.inl f))) := h
  show H[a]? = some (vp_cell c (n, .inr (.inl g)))
  rw [h, vp_cell_l, vp_cell_l, arrV_cg (fun j hj => by rw [e j hj])]
theorem at_Q {dC : Nat → ClassId} {dI : Nat → Nat → Nat} {a n : Nat} {c : ClassId} {f g : Nat → Option Nat} {H : Heap} (h : va_at (dC, dI) vwCl (a, eQ c n f) H) (e : ∀ j, j < n → f j = g j) : va_at (dC, dI) vwCl (a, eQ c n g) H := by
  have h : H[a]? = some (vp_cell c (n, .inr (.inr (.inr (.inr f))))) := h
  show H[a]? = some (vp_cell c (n, .inr (.inr (.inr (.inr g)))))
  rw [h, vp_cell_q, vp_cell_q, arrV_cg (fun j hj => by rw [e j hj])]
def cA5 (cI cB cL c4 c5 : ClassId) : Nat → ClassId := fun k => if k = 1 then cI else if k = 2 then cB else if k = 3 then cL else if k = 4 then c4 else c5
def posW : List Nat := [0, 1, 42, 44, 46, 43, 45, 47, 2, 3, 4, 5, 6, 7, 8, 9, 10, 11, 12, 13, 14, 15, 16, 17, 18, 19, 20, 21, 22, 23, 24, 25, 26, 27, 28, 29, 30, 31, 32, 33, 34, 35, 36, 37, 38, 48, 50, 52, 54, 49, 51, 53, 55, 39, 40, 41, 56, 57, 58, 59, 60, 61, 62, 63, 64, 65, 66, 67, 68, 69, 70, 71, 72, 73, 74, 75, 76, 77, 78, 79]
theorem posW_inj : ∀ i, i < 80 → ∀ j, j < 80 → posW.getD i 0 = posW.getD j 0 → i = j := by decide +kernel
set_option maxHeartbeats 16000000 in
set_option maxRecDepth 100000 in
theorem WD_0 {dC : Nat → ClassId} {dI : Nat → Nat → Nat} {cI cB cL c4 c5 d4 d5 : ClassId} {h0 h1 : Nat} {uE uM : va_W} {H : Heap} {A : Nat → Prop} (hE : poX5_init cI cB cL h0 (uE, c4, c5)) (hM : poX6_init cI cB cL h1 (uM, d4, d5)) (hP : va_P (dC, dI) vwCl (uE ++ uM) H) (hD : va_D A (uE ++ uM)) : ∃ ad : Nat → Nat, ad 0 = h0 ∧ ad 56 = h1 ∧ GA ad ∧ va_P (dC, dI) vwCl (WD ad (cA5 cI cB cL c4 c5) D0) H ∧ ∀ k, k < 80 → A (ad k) := by
  obtain ⟨x1, x2, x3, x4, x5, x6, x7, x8, x9, x10, x11, x12, x13, x14, x15, x16, x17, x18, x19, x20, x21, x22, x23, x24, x25, x26, x27, x28, x29, x30, x31, x32, x33, x34, x35, x36, x37, x38, x39, x40, x41, x42, x43, x44, x45, x46, x47, x48, x49, x50, x51, x52, x53, x54, x55, hE⟩ := hE
  obtain ⟨y1, y2, y3, y4, y5, y6, y7, y8, y9, y10, y11, y12, y13, y14, y15, y16, y17, y18, y19, y20, y21, y22, y23, hM⟩ := hM
  have hE : uE = [(h0, eO 5 [.ref x1, .ref x2, .ref x3, .ref x19, .ref x35, .ref x38, .int 0, .int (-1), .long 0, .ref x39, .int (-1), .ref x40, .ref x41]), (x1, eQ c4 3 (va_up (va_up (va_up (fun _ => none) 0 (some x42)) 1 (some x44)) 2 (some x46))), (x2, .inl (cI, 3, .inl (upd (upd (upd (fun _ => 0) 0 ((-1))) 1 ((-1))) 2 ((-1))))), (x3, eO 0 [.ref x4, .int 0, .ref x13, .ref x14, .ref x15, .ref x16, .ref x17, .ref x18]), (x4, eO 1 [.int 0, .int 0, .int 0, .int 0, .ref x5, .ref x6, .ref x7, .ref x8, .ref x9, .ref x10, .ref x11, .ref x12]), (x5, eI cI 25), (x6, eI cI 100), (x7, eI cI 100), (x8, eI cI 12), (x9, eI cI 12), (x10, eI cI 8), (x11, eI cI 8), (x12, eI cI 8), (x13, eI cI 25), (x14, eI cI 13), (x15, eI cI 104), (x16, eI cI 12), (x17, eI cI 12), (x18, eI cI 12), (x19, eO 0 [.ref x20, .int 0, .ref x29, .ref x30, .ref x31, .ref x32, .ref x33, .ref x34]), (x20, eO 1 [.int 0, .int 0, .int 0, .int 0, .ref x21, .ref x22, .ref x23, .ref x24, .ref x25, .ref x26, .ref x27, .ref x28]), (x21, eI cI 25), (x22, eI cI 100), (x23, eI cI 100), (x24, eI cI 12), (x25, eI cI 12), (x26, eI cI 8), (x27, eI cI 8), (x28, eI cI 8), (x29, eI cI 25), (x30, eI cI 13), (x31, eI cI 104), (x32, eI cI 12), (x33, eI cI 12), (x34, eI cI 12), (x35, eO 4 [.int 0, .ref x36, .ref x37]), (x36, eI cI 8), (x37, eI cI 8), (x38, eQ c5 4 (va_up (va_up (va_up (va_up (fun _ => none) 0 (some x48)) 1 (some x50)) 2 (some x52)) 3 (some x54))), (x39, eI cI 108), (x40, eL cL 8), (x41, eL cL 13), (x42, eO 2 [.ref x43, .int (29), .int 0]), (x43, eI cI 39), (x44, eO 2 [.ref x45, .int (24), .int 0]), (x45, eI cI 39), (x46, eO 2 [.ref x47, .int (39), .int 0]), (x47, eI cI 39), (x48, eO 3 [.int (-1), .int 0, .ref x49]), (x49, eI cI 60), (x50, eO 3 [.int (-1), .int 0, .ref x51]), (x51, eI cI 60), (x52, eO 3 [.int (-1), .int 0, .ref x53]), (x53, eI cI 60), (x54, eO 3 [.int (-1), .int 0, .ref x55]), (x55, eI cI 60)] := hE
  have hM : uM = [(h1, eO 6 [.ref y1, .ref y2, .int 0, .int 0, .ref y3, .int 0, .ref y4, .ref y5, .int 0, .ref y6, .ref y7, .ref y8, .ref y9, .ref y10, .ref y11, .ref y12, .ref y13, .int 0, .ref y14, .ref y15, .ref y16, .ref y17, .ref y18, .ref y19, .ref y20, .ref y21, .ref y22, .ref y23, .int 0]), (y1, eI cI 3), (y2, eI cI 117), (y3, eI cB 26), (y4, eI cI 12), (y5, eI cI 12), (y6, eI cI 9), (y7, eI cI 9), (y8, eI cI 9), (y9, eI cI 104), (y10, eI cI 8), (y11, eI cB 8), (y12, eI cB 8), (y13, eI cI 12), (y14, eI cI 8), (y15, eI cI 8), (y16, eI cB 40), (y17, eI cI 480), (y18, eI cI 12), (y19, eI cB 4), (y20, eI cI 4), (y21, eI cI 4), (y22, eI cI 240), (y23, eI cI 60)] := hM
  subst hE
  subst hM
  have hP : va_P (dC, dI) vwCl [(h0, eO 5 [.ref x1, .ref x2, .ref x3, .ref x19, .ref x35, .ref x38, .int 0, .int (-1), .long 0, .ref x39, .int (-1), .ref x40, .ref x41]), (x1, eQ c4 3 (va_up (va_up (va_up (fun _ => none) 0 (some x42)) 1 (some x44)) 2 (some x46))), (x2, .inl (cI, 3, .inl (upd (upd (upd (fun _ => 0) 0 ((-1))) 1 ((-1))) 2 ((-1))))), (x3, eO 0 [.ref x4, .int 0, .ref x13, .ref x14, .ref x15, .ref x16, .ref x17, .ref x18]), (x4, eO 1 [.int 0, .int 0, .int 0, .int 0, .ref x5, .ref x6, .ref x7, .ref x8, .ref x9, .ref x10, .ref x11, .ref x12]), (x5, eI cI 25), (x6, eI cI 100), (x7, eI cI 100), (x8, eI cI 12), (x9, eI cI 12), (x10, eI cI 8), (x11, eI cI 8), (x12, eI cI 8), (x13, eI cI 25), (x14, eI cI 13), (x15, eI cI 104), (x16, eI cI 12), (x17, eI cI 12), (x18, eI cI 12), (x19, eO 0 [.ref x20, .int 0, .ref x29, .ref x30, .ref x31, .ref x32, .ref x33, .ref x34]), (x20, eO 1 [.int 0, .int 0, .int 0, .int 0, .ref x21, .ref x22, .ref x23, .ref x24, .ref x25, .ref x26, .ref x27, .ref x28]), (x21, eI cI 25), (x22, eI cI 100), (x23, eI cI 100), (x24, eI cI 12), (x25, eI cI 12), (x26, eI cI 8), (x27, eI cI 8), (x28, eI cI 8), (x29, eI cI 25), (x30, eI cI 13), (x31, eI cI 104), (x32, eI cI 12), (x33, eI cI 12), (x34, eI cI 12), (x35, eO 4 [.int 0, .ref x36, .ref x37]), (x36, eI cI 8), (x37, eI cI 8), (x38, eQ c5 4 (va_up (va_up (va_up (va_up (fun _ => none) 0 (some x48)) 1 (some x50)) 2 (some x52)) 3 (some x54))), (x39, eI cI 108), (x40, eL cL 8), (x41, eL cL 13), (x42, eO 2 [.ref x43, .int (29), .int 0]), (x43, eI cI 39), (x44, eO 2 [.ref x45, .int (24), .int 0]), (x45, eI cI 39), (x46, eO 2 [.ref x47, .int (39), .int 0]), (x47, eI cI 39), (x48, eO 3 [.int (-1), .int 0, .ref x49]), (x49, eI cI 60), (x50, eO 3 [.int (-1), .int 0, .ref x51]), (x51, eI cI 60), (x52, eO 3 [.int (-1), .int 0, .ref x53]), (x53, eI cI 60), (x54, eO 3 [.int (-1), .int 0, .ref x55]), (x55, eI cI 60), (h1, eO 6 [.ref y1, .ref y2, .int 0, .int 0, .ref y3, .int 0, .ref y4, .ref y5, .int 0, .ref y6, .ref y7, .ref y8, .ref y9, .ref y10, .ref y11, .ref y12, .ref y13, .int 0, .ref y14, .ref y15, .ref y16, .ref y17, .ref y18, .ref y19, .ref y20, .ref y21, .ref y22, .ref y23, .int 0]), (y1, eI cI 3), (y2, eI cI 117), (y3, eI cB 26), (y4, eI cI 12), (y5, eI cI 12), (y6, eI cI 9), (y7, eI cI 9), (y8, eI cI 9), (y9, eI cI 104), (y10, eI cI 8), (y11, eI cB 8), (y12, eI cB 8), (y13, eI cI 12), (y14, eI cI 8), (y15, eI cI 8), (y16, eI cB 40), (y17, eI cI 480), (y18, eI cI 12), (y19, eI cB 4), (y20, eI cI 4), (y21, eI cI 4), (y22, eI cI 240), (y23, eI cI 60)] H := hP
  have hD : va_D A [(h0, eO 5 [.ref x1, .ref x2, .ref x3, .ref x19, .ref x35, .ref x38, .int 0, .int (-1), .long 0, .ref x39, .int (-1), .ref x40, .ref x41]), (x1, eQ c4 3 (va_up (va_up (va_up (fun _ => none) 0 (some x42)) 1 (some x44)) 2 (some x46))), (x2, .inl (cI, 3, .inl (upd (upd (upd (fun _ => 0) 0 ((-1))) 1 ((-1))) 2 ((-1))))), (x3, eO 0 [.ref x4, .int 0, .ref x13, .ref x14, .ref x15, .ref x16, .ref x17, .ref x18]), (x4, eO 1 [.int 0, .int 0, .int 0, .int 0, .ref x5, .ref x6, .ref x7, .ref x8, .ref x9, .ref x10, .ref x11, .ref x12]), (x5, eI cI 25), (x6, eI cI 100), (x7, eI cI 100), (x8, eI cI 12), (x9, eI cI 12), (x10, eI cI 8), (x11, eI cI 8), (x12, eI cI 8), (x13, eI cI 25), (x14, eI cI 13), (x15, eI cI 104), (x16, eI cI 12), (x17, eI cI 12), (x18, eI cI 12), (x19, eO 0 [.ref x20, .int 0, .ref x29, .ref x30, .ref x31, .ref x32, .ref x33, .ref x34]), (x20, eO 1 [.int 0, .int 0, .int 0, .int 0, .ref x21, .ref x22, .ref x23, .ref x24, .ref x25, .ref x26, .ref x27, .ref x28]), (x21, eI cI 25), (x22, eI cI 100), (x23, eI cI 100), (x24, eI cI 12), (x25, eI cI 12), (x26, eI cI 8), (x27, eI cI 8), (x28, eI cI 8), (x29, eI cI 25), (x30, eI cI 13), (x31, eI cI 104), (x32, eI cI 12), (x33, eI cI 12), (x34, eI cI 12), (x35, eO 4 [.int 0, .ref x36, .ref x37]), (x36, eI cI 8), (x37, eI cI 8), (x38, eQ c5 4 (va_up (va_up (va_up (va_up (fun _ => none) 0 (some x48)) 1 (some x50)) 2 (some x52)) 3 (some x54))), (x39, eI cI 108), (x40, eL cL 8), (x41, eL cL 13), (x42, eO 2 [.ref x43, .int (29), .int 0]), (x43, eI cI 39), (x44, eO 2 [.ref x45, .int (24), .int 0]), (x45, eI cI 39), (x46, eO 2 [.ref x47, .int (39), .int 0]), (x47, eI cI 39), (x48, eO 3 [.int (-1), .int 0, .ref x49]), (x49, eI cI 60), (x50, eO 3 [.int (-1), .int 0, .ref x51]), (x51, eI cI 60), (x52, eO 3 [.int (-1), .int 0, .ref x53]), (x53, eI cI 60), (x54, eO 3 [.int (-1), .int 0, .ref x55]), (x55, eI cI 60), (h1, eO 6 [.ref y1, .ref y2, .int 0, .int 0, .ref y3, .int 0, .ref y4, .ref y5, .int 0, .ref y6, .ref y7, .ref y8, .ref y9, .ref y10, .ref y11, .ref y12, .ref y13, .int 0, .ref y14, .ref y15, .ref y16, .ref y17, .ref y18, .ref y19, .ref y20, .ref y21, .ref y22, .ref y23, .int 0]), (y1, eI cI 3), (y2, eI cI 117), (y3, eI cB 26), (y4, eI cI 12), (y5, eI cI 12), (y6, eI cI 9), (y7, eI cI 9), (y8, eI cI 9), (y9, eI cI 104), (y10, eI cI 8), (y11, eI cB 8), (y12, eI cB 8), (y13, eI cI 12), (y14, eI cI 8), (y15, eI cI 8), (y16, eI cB 40), (y17, eI cI 480), (y18, eI cI 12), (y19, eI cB 4), (y20, eI cI 4), (y21, eI cI 4), (y22, eI cI 240), (y23, eI cI 60)] := hD
  generalize hL : [(h0, eO 5 [.ref x1, .ref x2, .ref x3, .ref x19, .ref x35, .ref x38, .int 0, .int (-1), .long 0, .ref x39, .int (-1), .ref x40, .ref x41]), (x1, eQ c4 3 (va_up (va_up (va_up (fun _ => none) 0 (some x42)) 1 (some x44)) 2 (some x46))), (x2, .inl (cI, 3, .inl (upd (upd (upd (fun _ => 0) 0 ((-1))) 1 ((-1))) 2 ((-1))))), (x3, eO 0 [.ref x4, .int 0, .ref x13, .ref x14, .ref x15, .ref x16, .ref x17, .ref x18]), (x4, eO 1 [.int 0, .int 0, .int 0, .int 0, .ref x5, .ref x6, .ref x7, .ref x8, .ref x9, .ref x10, .ref x11, .ref x12]), (x5, eI cI 25), (x6, eI cI 100), (x7, eI cI 100), (x8, eI cI 12), (x9, eI cI 12), (x10, eI cI 8), (x11, eI cI 8), (x12, eI cI 8), (x13, eI cI 25), (x14, eI cI 13), (x15, eI cI 104), (x16, eI cI 12), (x17, eI cI 12), (x18, eI cI 12), (x19, eO 0 [.ref x20, .int 0, .ref x29, .ref x30, .ref x31, .ref x32, .ref x33, .ref x34]), (x20, eO 1 [.int 0, .int 0, .int 0, .int 0, .ref x21, .ref x22, .ref x23, .ref x24, .ref x25, .ref x26, .ref x27, .ref x28]), (x21, eI cI 25), (x22, eI cI 100), (x23, eI cI 100), (x24, eI cI 12), (x25, eI cI 12), (x26, eI cI 8), (x27, eI cI 8), (x28, eI cI 8), (x29, eI cI 25), (x30, eI cI 13), (x31, eI cI 104), (x32, eI cI 12), (x33, eI cI 12), (x34, eI cI 12), (x35, eO 4 [.int 0, .ref x36, .ref x37]), (x36, eI cI 8), (x37, eI cI 8), (x38, eQ c5 4 (va_up (va_up (va_up (va_up (fun _ => none) 0 (some x48)) 1 (some x50)) 2 (some x52)) 3 (some x54))), (x39, eI cI 108), (x40, eL cL 8), (x41, eL cL 13), (x42, eO 2 [.ref x43, .int (29), .int 0]), (x43, eI cI 39), (x44, eO 2 [.ref x45, .int (24), .int 0]), (x45, eI cI 39), (x46, eO 2 [.ref x47, .int (39), .int 0]), (x47, eI cI 39), (x48, eO 3 [.int (-1), .int 0, .ref x49]), (x49, eI cI 60), (x50, eO 3 [.int (-1), .int 0, .ref x51]), (x51, eI cI 60), (x52, eO 3 [.int (-1), .int 0, .ref x53]), (x53, eI cI 60), (x54, eO 3 [.int (-1), .int 0, .ref x55]), (x55, eI cI 60), (h1, eO 6 [.ref y1, .ref y2, .int 0, .int 0, .ref y3, .int 0, .ref y4, .ref y5, .int 0, .ref y6, .ref y7, .ref y8, .ref y9, .ref y10, .ref y11, .ref y12, .ref y13, .int 0, .ref y14, .ref y15, .ref y16, .ref y17, .ref y18, .ref y19, .ref y20, .ref y21, .ref y22, .ref y23, .int 0]), (y1, eI cI 3), (y2, eI cI 117), (y3, eI cB 26), (y4, eI cI 12), (y5, eI cI 12), (y6, eI cI 9), (y7, eI cI 9), (y8, eI cI 9), (y9, eI cI 104), (y10, eI cI 8), (y11, eI cB 8), (y12, eI cB 8), (y13, eI cI 12), (y14, eI cI 8), (y15, eI cI 8), (y16, eI cB 40), (y17, eI cI 480), (y18, eI cI 12), (y19, eI cB 4), (y20, eI cI 4), (y21, eI cI 4), (y22, eI cI 240), (y23, eI cI 60)] = L at hP hD
  have hads : ∃ ad : Nat → Nat, ad = fun k => [h0, x1, x42, x44, x46, x43, x45, x47, x2, x3, x4, x5, x6, x7, x8, x9, x10, x11, x12, x13, x14, x15, x16, x17, x18, x19, x20, x21, x22, x23, x24, x25, x26, x27, x28, x29, x30, x31, x32, x33, x34, x35, x36, x37, x38, x48, x50, x52, x54, x49, x51, x53, x55, x39, x40, x41, h1, y1, y2, y3, y4, y5, y6, y7, y8, y9, y10, y11, y12, y13, y14, y15, y16, y17, y18, y19, y20, y21, y22, y23].getD k 0 := ⟨_, rfl⟩
  obtain ⟨ad, had⟩ := hads
  have ha0 : ad 0 = h0 := by rw [had]; rfl
  have ha1 : ad 1 = x1 := by rw [had]; rfl
  have ha2 : ad 2 = x42 := by rw [had]; rfl
  have ha3 : ad 3 = x44 := by rw [had]; rfl
  have ha4 : ad 4 = x46 := by rw [had]; rfl
  have ha5 : ad 5 = x43 := by rw [had]; rfl
  have ha6 : ad 6 = x45 := by rw [had]; rfl
  have ha7 : ad 7 = x47 := by rw [had]; rfl
  have ha8 : ad 8 = x2 := by rw [had]; rfl
  have ha9 : ad 9 = x3 := by rw [had]; rfl
  have ha10 : ad 10 = x4 := by rw [had]; rfl
  have ha11 : ad 11 = x5 := by rw [had]; rfl
  have ha12 : ad 12 = x6 := by rw [had]; rfl
  have ha13 : ad 13 = x7 := by rw [had]; rfl
  have ha14 : ad 14 = x8 := by rw [had]; rfl
  have ha15 : ad 15 = x9 := by rw [had]; rfl
  have ha16 : ad 16 = x10 := by rw [had]; rfl
  have ha17 : ad 17 = x11 := by rw [had]; rfl
  have ha18 : ad 18 = x12 := by rw [had]; rfl
  have ha19 : ad 19 = x13 := by rw [had]; rfl
  have ha20 : ad 20 = x14 := by rw [had]; rfl
  have ha21 : ad 21 = x15 := by rw [had]; rfl
  have ha22 : ad 22 = x16 := by rw [had]; rfl
  have ha23 : ad 23 = x17 := by rw [had]; rfl
  have ha24 : ad 24 = x18 := by rw [had]; rfl
  have ha25 : ad 25 = x19 := by rw [had]; rfl
  have ha26 : ad 26 = x20 := by rw [had]; rfl
  have ha27 : ad 27 = x21 := by rw [had]; rfl
  have ha28 : ad 28 = x22 := by rw [had]; rfl
  have ha29 : ad 29 = x23 := by rw [had]; rfl
  have ha30 : ad 30 = x24 := by rw [had]; rfl
  have ha31 : ad 31 = x25 := by rw [had]; rfl
  have ha32 : ad 32 = x26 := by rw [had]; rfl
  have ha33 : ad 33 = x27 := by rw [had]; rfl
  have ha34 : ad 34 = x28 := by rw [had]; rfl
  have ha35 : ad 35 = x29 := by rw [had]; rfl
  have ha36 : ad 36 = x30 := by rw [had]; rfl
  have ha37 : ad 37 = x31 := by rw [had]; rfl
  have ha38 : ad 38 = x32 := by rw [had]; rfl
  have ha39 : ad 39 = x33 := by rw [had]; rfl
  have ha40 : ad 40 = x34 := by rw [had]; rfl
  have ha41 : ad 41 = x35 := by rw [had]; rfl
  have ha42 : ad 42 = x36 := by rw [had]; rfl
  have ha43 : ad 43 = x37 := by rw [had]; rfl
  have ha44 : ad 44 = x38 := by rw [had]; rfl
  have ha45 : ad 45 = x48 := by rw [had]; rfl
  have ha46 : ad 46 = x50 := by rw [had]; rfl
  have ha47 : ad 47 = x52 := by rw [had]; rfl
  have ha48 : ad 48 = x54 := by rw [had]; rfl
  have ha49 : ad 49 = x49 := by rw [had]; rfl
  have ha50 : ad 50 = x51 := by rw [had]; rfl
  have ha51 : ad 51 = x53 := by rw [had]; rfl
  have ha52 : ad 52 = x55 := by rw [had]; rfl
  have ha53 : ad 53 = x39 := by rw [had]; rfl
  have ha54 : ad 54 = x40 := by rw [had]; rfl
  have ha55 : ad 55 = x41 := by rw [had]; rfl
  have ha56 : ad 56 = h1 := by rw [had]; rfl
  have ha57 : ad 57 = y1 := by rw [had]; rfl
  have ha58 : ad 58 = y2 := by rw [had]; rfl
  have ha59 : ad 59 = y3 := by rw [had]; rfl
  have ha60 : ad 60 = y4 := by rw [had]; rfl
  have ha61 : ad 61 = y5 := by rw [had]; rfl
  have ha62 : ad 62 = y6 := by rw [had]; rfl
  have ha63 : ad 63 = y7 := by rw [had]; rfl
  have ha64 : ad 64 = y8 := by rw [had]; rfl
  have ha65 : ad 65 = y9 := by rw [had]; rfl
  have ha66 : ad 66 = y10 := by rw [had]; rfl
  have ha67 : ad 67 = y11 := by rw [had]; rfl
  have ha68 : ad 68 = y12 := by rw [had]; rfl
  have ha69 : ad 69 = y13 := by rw [had]; rfl
  have ha70 : ad 70 = y14 := by rw [had]; rfl
  have ha71 : ad 71 = y15 := by rw [had]; rfl
  have ha72 : ad 72 = y16 := by rw [had]; rfl
  have ha73 : ad 73 = y17 := by rw [had]; rfl
  have ha74 : ad 74 = y18 := by rw [had]; rfl
  have ha75 : ad 75 = y19 := by rw [had]; rfl
  have ha76 : ad 76 = y20 := by rw [had]; rfl
  have ha77 : ad 77 = y21 := by rw [had]; rfl
  have ha78 : ad 78 = y22 := by rw [had]; rfl
  have ha79 : ad 79 = y23 := by rw [had]; rfl
  have hg0 : L[0]? = some (h0, eO 5 [.ref x1, .ref x2, .ref x3, .ref x19, .ref x35, .ref x38, .int 0, .int (-1), .long 0, .ref x39, .int (-1), .ref x40, .ref x41]) := by rw [← hL]; rfl
  have hc0 : va_at (dC, dI) vwCl (ad 0, cellOf ad (cA5 cI cB cL c4 c5) D0 0) H := by
    have h := hP 0 _ hg0
    have e : cellOf ad (cA5 cI cB cL c4 c5) D0 0 = eO 5 [.ref x1, .ref x2, .ref x3, .ref x19, .ref x35, .ref x38, .int 0, .int (-1), .long 0, .ref x39, .int (-1), .ref x40, .ref x41] := by
      show (Sum.inr (5, [fV ad D0 0 5 0, fV ad D0 0 5 1, fV ad D0 0 5 2, fV ad D0 0 5 3, fV ad D0 0 5 4, fV ad D0 0 5 5, fV ad D0 0 5 6, fV ad D0 0 5 7, fV ad D0 0 5 8, fV ad D0 0 5 9, fV ad D0 0 5 10, fV ad D0 0 5 11, fV ad D0 0 5 12]) : va_E) = _
      rw [show fV ad D0 0 5 0 = .ref x1 from congrArg Value.ref ha1, show fV ad D0 0 5 1 = .ref x2 from congrArg Value.ref ha8, show fV ad D0 0 5 2 = .ref x3 from congrArg Value.ref ha9, show fV ad D0 0 5 3 = .ref x19 from congrArg Value.ref ha25, show fV ad D0 0 5 4 = .ref x35 from congrArg Value.ref ha41, show fV ad D0 0 5 5 = .ref x38 from congrArg Value.ref ha44, show fV ad D0 0 5 6 = .int 0 from congrArg (fun z => Value.int (Int32.ofInt z)) (show D0 0 6 = 0 from rfl), show fV ad D0 0 5 7 = .int (-1) from congrArg (fun z => Value.int (Int32.ofInt z)) (show D0 0 7 = (-1) from rfl), show fV ad D0 0 5 8 = .long 0 from congrArg (fun z => Value.long (Int64.ofInt z)) (show D0 0 8 = 0 from rfl), show fV ad D0 0 5 9 = .ref x39 from congrArg Value.ref ha53, show fV ad D0 0 5 10 = .int (-1) from congrArg (fun z => Value.int (Int32.ofInt z)) (show D0 0 10 = (-1) from rfl), show fV ad D0 0 5 11 = .ref x40 from congrArg Value.ref ha54, show fV ad D0 0 5 12 = .ref x41 from congrArg Value.ref ha55]
    rw [ha0, e]; exact h
  have hg1 : L[1]? = some (x1, eQ c4 3 (va_up (va_up (va_up (fun _ => none) 0 (some x42)) 1 (some x44)) 2 (some x46))) := by rw [← hL]; rfl
  have hc1 : va_at (dC, dI) vwCl (ad 1, cellOf ad (cA5 cI cB cL c4 c5) D0 1) H := by
    have h := hP 1 _ hg1
    rw [ha1]
    refine at_Q h (fun j hj => ?_)
    rcases lt_3 hj with rfl | rfl | rfl
    · exact congrArg some ha2.symm
    · exact congrArg some ha3.symm
    · exact congrArg some ha4.symm
  have hg2 : L[42]? = some (x42, eO 2 [.ref x43, .int (29), .int 0]) := by rw [← hL]; rfl
  have hc2 : va_at (dC, dI) vwCl (ad 2, cellOf ad (cA5 cI cB cL c4 c5) D0 2) H := by
    have h := hP 42 _ hg2
    have e : cellOf ad (cA5 cI cB cL c4 c5) D0 2 = eO 2 [.ref x43, .int (29), .int 0] := by
      show (Sum.inr (2, [fV ad D0 2 2 0, fV ad D0 2 2 1, fV ad D0 2 2 2]) : va_E) = _
      rw [show fV ad D0 2 2 0 = .ref x43 from congrArg Value.ref ha5, show fV ad D0 2 2 1 = .int (29) from congrArg (fun z => Value.int (Int32.ofInt z)) (show D0 2 1 = (29) from rfl), show fV ad D0 2 2 2 = .int 0 from congrArg (fun z => Value.int (Int32.ofInt z)) (show D0 2 2 = 0 from rfl)]
    rw [ha2, e]; exact h
  have hg3 : L[44]? = some (x44, eO 2 [.ref x45, .int (24), .int 0]) := by rw [← hL]; rfl
  have hc3 : va_at (dC, dI) vwCl (ad 3, cellOf ad (cA5 cI cB cL c4 c5) D0 3) H := by
    have h := hP 44 _ hg3
    have e : cellOf ad (cA5 cI cB cL c4 c5) D0 3 = eO 2 [.ref x45, .int (24), .int 0] := by
      show (Sum.inr (2, [fV ad D0 3 2 0, fV ad D0 3 2 1, fV ad D0 3 2 2]) : va_E) = _
      rw [show fV ad D0 3 2 0 = .ref x45 from congrArg Value.ref ha6, show fV ad D0 3 2 1 = .int (24) from congrArg (fun z => Value.int (Int32.ofInt z)) (show D0 3 1 = (24) from rfl), show fV ad D0 3 2 2 = .int 0 from congrArg (fun z => Value.int (Int32.ofInt z)) (show D0 3 2 = 0 from rfl)]
    rw [ha3, e]; exact h
  have hg4 : L[46]? = some (x46, eO 2 [.ref x47, .int (39), .int 0]) := by rw [← hL]; rfl
  have hc4 : va_at (dC, dI) vwCl (ad 4, cellOf ad (cA5 cI cB cL c4 c5) D0 4) H := by
    have h := hP 46 _ hg4
    have e : cellOf ad (cA5 cI cB cL c4 c5) D0 4 = eO 2 [.ref x47, .int (39), .int 0] := by
      show (Sum.inr (2, [fV ad D0 4 2 0, fV ad D0 4 2 1, fV ad D0 4 2 2]) : va_E) = _
      rw [show fV ad D0 4 2 0 = .ref x47 from congrArg Value.ref ha7, show fV ad D0 4 2 1 = .int (39) from congrArg (fun z => Value.int (Int32.ofInt z)) (show D0 4 1 = (39) from rfl), show fV ad D0 4 2 2 = .int 0 from congrArg (fun z => Value.int (Int32.ofInt z)) (show D0 4 2 = 0 from rfl)]
    rw [ha4, e]; exact h
  have hg5 : L[43]? = some (x43, eI cI 39) := by rw [← hL]; rfl
  have hc5 : va_at (dC, dI) vwCl (ad 5, cellOf ad (cA5 cI cB cL c4 c5) D0 5) H := by
    have h := hP 43 _ hg5
    rw [ha5]
    exact at_I h (fun j _ => by rw [D0_0 (by decide)]; rfl)
  have hg6 : L[45]? = some (x45, eI cI 39) := by rw [← hL]; rfl
  have hc6 : va_at (dC, dI) vwCl (ad 6, cellOf ad (cA5 cI cB cL c4 c5) D0 6) H := by
    have h := hP 45 _ hg6
    rw [ha6]
    exact at_I h (fun j _ => by rw [D0_0 (by decide)]; rfl)
  have hg7 : L[47]? = some (x47, eI cI 39) := by rw [← hL]; rfl
  have hc7 : va_at (dC, dI) vwCl (ad 7, cellOf ad (cA5 cI cB cL c4 c5) D0 7) H := by
    have h := hP 47 _ hg7
    rw [ha7]
    exact at_I h (fun j _ => by rw [D0_0 (by decide)]; rfl)
  have hg8 : L[2]? = some (x2, .inl (cI, 3, .inl (upd (upd (upd (fun _ => 0) 0 ((-1))) 1 ((-1))) 2 ((-1))))) := by rw [← hL]; rfl
  have hc8 : va_at (dC, dI) vwCl (ad 8, cellOf ad (cA5 cI cB cL c4 c5) D0 8) H := by
    have h := hP 2 _ hg8
    rw [ha8]
    exact at_I h (fun j hj => by rcases lt_3 hj with rfl | rfl | rfl <;> rfl)
  have hg9 : L[3]? = some (x3, eO 0 [.ref x4, .int 0, .ref x13, .ref x14, .ref x15, .ref x16, .ref x17, .ref x18]) := by rw [← hL]; rfl
  have hc9 : va_at (dC, dI) vwCl (ad 9, cellOf ad (cA5 cI cB cL c4 c5) D0 9) H := by
    have h := hP 3 _ hg9
    have e : cellOf ad (cA5 cI cB cL c4 c5) D0 9 = eO 0 [.ref x4, .int 0, .ref x13, .ref x14, .ref x15, .ref x16, .ref x17, .ref x18] := by
      show (Sum.inr (0, [fV ad D0 9 0 0, fV ad D0 9 0 1, fV ad D0 9 0 2, fV ad D0 9 0 3, fV ad D0 9 0 4, fV ad D0 9 0 5, fV ad D0 9 0 6, fV ad D0 9 0 7]) : va_E) = _
      rw [show fV ad D0 9 0 0 = .ref x4 from congrArg Value.ref ha10, show fV ad D0 9 0 1 = .int 0 from congrArg (fun z => Value.int (Int32.ofInt z)) (show D0 9 1 = 0 from rfl), show fV ad D0 9 0 2 = .ref x13 from congrArg Value.ref ha19, show fV ad D0 9 0 3 = .ref x14 from congrArg Value.ref ha20, show fV ad D0 9 0 4 = .ref x15 from congrArg Value.ref ha21, show fV ad D0 9 0 5 = .ref x16 from congrArg Value.ref ha22, show fV ad D0 9 0 6 = .ref x17 from congrArg Value.ref ha23, show fV ad D0 9 0 7 = .ref x18 from congrArg Value.ref ha24]
    rw [ha9, e]; exact h
  have hg10 : L[4]? = some (x4, eO 1 [.int 0, .int 0, .int 0, .int 0, .ref x5, .ref x6, .ref x7, .ref x8, .ref x9, .ref x10, .ref x11, .ref x12]) := by rw [← hL]; rfl
  have hc10 : va_at (dC, dI) vwCl (ad 10, cellOf ad (cA5 cI cB cL c4 c5) D0 10) H := by
    have h := hP 4 _ hg10
    have e : cellOf ad (cA5 cI cB cL c4 c5) D0 10 = eO 1 [.int 0, .int 0, .int 0, .int 0, .ref x5, .ref x6, .ref x7, .ref x8, .ref x9, .ref x10, .ref x11, .ref x12] := by
      show (Sum.inr (1, [fV ad D0 10 1 0, fV ad D0 10 1 1, fV ad D0 10 1 2, fV ad D0 10 1 3, fV ad D0 10 1 4, fV ad D0 10 1 5, fV ad D0 10 1 6, fV ad D0 10 1 7, fV ad D0 10 1 8, fV ad D0 10 1 9, fV ad D0 10 1 10, fV ad D0 10 1 11]) : va_E) = _
      rw [show fV ad D0 10 1 0 = .int 0 from congrArg (fun z => Value.int (Int32.ofInt z)) (show D0 10 0 = 0 from rfl), show fV ad D0 10 1 1 = .int 0 from congrArg (fun z => Value.int (Int32.ofInt z)) (show D0 10 1 = 0 from rfl), show fV ad D0 10 1 2 = .int 0 from congrArg (fun z => Value.int (Int32.ofInt z)) (show D0 10 2 = 0 from rfl), show fV ad D0 10 1 3 = .int 0 from congrArg (fun z => Value.int (Int32.ofInt z)) (show D0 10 3 = 0 from rfl), show fV ad D0 10 1 4 = .ref x5 from congrArg Value.ref ha11, show fV ad D0 10 1 5 = .ref x6 from congrArg Value.ref ha12, show fV ad D0 10 1 6 = .ref x7 from congrArg Value.ref ha13, show fV ad D0 10 1 7 = .ref x8 from congrArg Value.ref ha14, show fV ad D0 10 1 8 = .ref x9 from congrArg Value.ref ha15, show fV ad D0 10 1 9 = .ref x10 from congrArg Value.ref ha16, show fV ad D0 10 1 10 = .ref x11 from congrArg Value.ref ha17, show fV ad D0 10 1 11 = .ref x12 from congrArg Value.ref ha18]
    rw [ha10, e]; exact h
  have hg11 : L[5]? = some (x5, eI cI 25) := by rw [← hL]; rfl
  have hc11 : va_at (dC, dI) vwCl (ad 11, cellOf ad (cA5 cI cB cL c4 c5) D0 11) H := by
    have h := hP 5 _ hg11
    rw [ha11]
    exact at_I h (fun j _ => by rw [D0_0 (by decide)]; rfl)
  have hg12 : L[6]? = some (x6, eI cI 100) := by rw [← hL]; rfl
  have hc12 : va_at (dC, dI) vwCl (ad 12, cellOf ad (cA5 cI cB cL c4 c5) D0 12) H := by
    have h := hP 6 _ hg12
    rw [ha12]
    exact at_I h (fun j _ => by rw [D0_0 (by decide)]; rfl)
  have hg13 : L[7]? = some (x7, eI cI 100) := by rw [← hL]; rfl
  have hc13 : va_at (dC, dI) vwCl (ad 13, cellOf ad (cA5 cI cB cL c4 c5) D0 13) H := by
    have h := hP 7 _ hg13
    rw [ha13]
    exact at_I h (fun j _ => by rw [D0_0 (by decide)]; rfl)
  have hg14 : L[8]? = some (x8, eI cI 12) := by rw [← hL]; rfl
  have hc14 : va_at (dC, dI) vwCl (ad 14, cellOf ad (cA5 cI cB cL c4 c5) D0 14) H := by
    have h := hP 8 _ hg14
    rw [ha14]
    exact at_I h (fun j _ => by rw [D0_0 (by decide)]; rfl)
  have hg15 : L[9]? = some (x9, eI cI 12) := by rw [← hL]; rfl
  have hc15 : va_at (dC, dI) vwCl (ad 15, cellOf ad (cA5 cI cB cL c4 c5) D0 15) H := by
    have h := hP 9 _ hg15
    rw [ha15]
    exact at_I h (fun j _ => by rw [D0_0 (by decide)]; rfl)
  have hg16 : L[10]? = some (x10, eI cI 8) := by rw [← hL]; rfl
  have hc16 : va_at (dC, dI) vwCl (ad 16, cellOf ad (cA5 cI cB cL c4 c5) D0 16) H := by
    have h := hP 10 _ hg16
    rw [ha16]
    exact at_I h (fun j _ => by rw [D0_0 (by decide)]; rfl)
  have hg17 : L[11]? = some (x11, eI cI 8) := by rw [← hL]; rfl
  have hc17 : va_at (dC, dI) vwCl (ad 17, cellOf ad (cA5 cI cB cL c4 c5) D0 17) H := by
    have h := hP 11 _ hg17
    rw [ha17]
    exact at_I h (fun j _ => by rw [D0_0 (by decide)]; rfl)
  have hg18 : L[12]? = some (x12, eI cI 8) := by rw [← hL]; rfl
  have hc18 : va_at (dC, dI) vwCl (ad 18, cellOf ad (cA5 cI cB cL c4 c5) D0 18) H := by
    have h := hP 12 _ hg18
    rw [ha18]
    exact at_I h (fun j _ => by rw [D0_0 (by decide)]; rfl)
  have hg19 : L[13]? = some (x13, eI cI 25) := by rw [← hL]; rfl
  have hc19 : va_at (dC, dI) vwCl (ad 19, cellOf ad (cA5 cI cB cL c4 c5) D0 19) H := by
    have h := hP 13 _ hg19
    rw [ha19]
    exact at_I h (fun j _ => by rw [D0_0 (by decide)]; rfl)
  have hg20 : L[14]? = some (x14, eI cI 13) := by rw [← hL]; rfl
  have hc20 : va_at (dC, dI) vwCl (ad 20, cellOf ad (cA5 cI cB cL c4 c5) D0 20) H := by
    have h := hP 14 _ hg20
    rw [ha20]
    exact at_I h (fun j _ => by rw [D0_0 (by decide)]; rfl)
  have hg21 : L[15]? = some (x15, eI cI 104) := by rw [← hL]; rfl
  have hc21 : va_at (dC, dI) vwCl (ad 21, cellOf ad (cA5 cI cB cL c4 c5) D0 21) H := by
    have h := hP 15 _ hg21
    rw [ha21]
    exact at_I h (fun j _ => by rw [D0_0 (by decide)]; rfl)
  have hg22 : L[16]? = some (x16, eI cI 12) := by rw [← hL]; rfl
  have hc22 : va_at (dC, dI) vwCl (ad 22, cellOf ad (cA5 cI cB cL c4 c5) D0 22) H := by
    have h := hP 16 _ hg22
    rw [ha22]
    exact at_I h (fun j _ => by rw [D0_0 (by decide)]; rfl)
  have hg23 : L[17]? = some (x17, eI cI 12) := by rw [← hL]; rfl
  have hc23 : va_at (dC, dI) vwCl (ad 23, cellOf ad (cA5 cI cB cL c4 c5) D0 23) H := by
    have h := hP 17 _ hg23
    rw [ha23]
    exact at_I h (fun j _ => by rw [D0_0 (by decide)]; rfl)
  have hg24 : L[18]? = some (x18, eI cI 12) := by rw [← hL]; rfl
  have hc24 : va_at (dC, dI) vwCl (ad 24, cellOf ad (cA5 cI cB cL c4 c5) D0 24) H := by
    have h := hP 18 _ hg24
    rw [ha24]
    exact at_I h (fun j _ => by rw [D0_0 (by decide)]; rfl)
  have hg25 : L[19]? = some (x19, eO 0 [.ref x20, .int 0, .ref x29, .ref x30, .ref x31, .ref x32, .ref x33, .ref x34]) := by rw [← hL]; rfl
  have hc25 : va_at (dC, dI) vwCl (ad 25, cellOf ad (cA5 cI cB cL c4 c5) D0 25) H := by
    have h := hP 19 _ hg25
    have e : cellOf ad (cA5 cI cB cL c4 c5) D0 25 = eO 0 [.ref x20, .int 0, .ref x29, .ref x30, .ref x31, .ref x32, .ref x33, .ref x34] := by
      show (Sum.inr (0, [fV ad D0 25 0 0, fV ad D0 25 0 1, fV ad D0 25 0 2, fV ad D0 25 0 3, fV ad D0 25 0 4, fV ad D0 25 0 5, fV ad D0 25 0 6, fV ad D0 25 0 7]) : va_E) = _
      rw [show fV ad D0 25 0 0 = .ref x20 from congrArg Value.ref ha26, show fV ad D0 25 0 1 = .int 0 from congrArg (fun z => Value.int (Int32.ofInt z)) (show D0 25 1 = 0 from rfl), show fV ad D0 25 0 2 = .ref x29 from congrArg Value.ref ha35, show fV ad D0 25 0 3 = .ref x30 from congrArg Value.ref ha36, show fV ad D0 25 0 4 = .ref x31 from congrArg Value.ref ha37, show fV ad D0 25 0 5 = .ref x32 from congrArg Value.ref ha38, show fV ad D0 25 0 6 = .ref x33 from congrArg Value.ref ha39, show fV ad D0 25 0 7 = .ref x34 from congrArg Value.ref ha40]
    rw [ha25, e]; exact h
  have hg26 : L[20]? = some (x20, eO 1 [.int 0, .int 0, .int 0, .int 0, .ref x21, .ref x22, .ref x23, .ref x24, .ref x25, .ref x26, .ref x27, .ref x28]) := by rw [← hL]; rfl
  have hc26 : va_at (dC, dI) vwCl (ad 26, cellOf ad (cA5 cI cB cL c4 c5) D0 26) H := by
    have h := hP 20 _ hg26
    have e : cellOf ad (cA5 cI cB cL c4 c5) D0 26 = eO 1 [.int 0, .int 0, .int 0, .int 0, .ref x21, .ref x22, .ref x23, .ref x24, .ref x25, .ref x26, .ref x27, .ref x28] := by
      show (Sum.inr (1, [fV ad D0 26 1 0, fV ad D0 26 1 1, fV ad D0 26 1 2, fV ad D0 26 1 3, fV ad D0 26 1 4, fV ad D0 26 1 5, fV ad D0 26 1 6, fV ad D0 26 1 7, fV ad D0 26 1 8, fV ad D0 26 1 9, fV ad D0 26 1 10, fV ad D0 26 1 11]) : va_E) = _
      rw [show fV ad D0 26 1 0 = .int 0 from congrArg (fun z => Value.int (Int32.ofInt z)) (show D0 26 0 = 0 from rfl), show fV ad D0 26 1 1 = .int 0 from congrArg (fun z => Value.int (Int32.ofInt z)) (show D0 26 1 = 0 from rfl), show fV ad D0 26 1 2 = .int 0 from congrArg (fun z => Value.int (Int32.ofInt z)) (show D0 26 2 = 0 from rfl), show fV ad D0 26 1 3 = .int 0 from congrArg (fun z => Value.int (Int32.ofInt z)) (show D0 26 3 = 0 from rfl), show fV ad D0 26 1 4 = .ref x21 from congrArg Value.ref ha27, show fV ad D0 26 1 5 = .ref x22 from congrArg Value.ref ha28, show fV ad D0 26 1 6 = .ref x23 from congrArg Value.ref ha29, show fV ad D0 26 1 7 = .ref x24 from congrArg Value.ref ha30, show fV ad D0 26 1 8 = .ref x25 from congrArg Value.ref ha31, show fV ad D0 26 1 9 = .ref x26 from congrArg Value.ref ha32, show fV ad D0 26 1 10 = .ref x27 from congrArg Value.ref ha33, show fV ad D0 26 1 11 = .ref x28 from congrArg Value.ref ha34]
    rw [ha26, e]; exact h
  have hg27 : L[21]? = some (x21, eI cI 25) := by rw [← hL]; rfl
  have hc27 : va_at (dC, dI) vwCl (ad 27, cellOf ad (cA5 cI cB cL c4 c5) D0 27) H := by
    have h := hP 21 _ hg27
    rw [ha27]
    exact at_I h (fun j _ => by rw [D0_0 (by decide)]; rfl)
  have hg28 : L[22]? = some (x22, eI cI 100) := by rw [← hL]; rfl
  have hc28 : va_at (dC, dI) vwCl (ad 28, cellOf ad (cA5 cI cB cL c4 c5) D0 28) H := by
    have h := hP 22 _ hg28
    rw [ha28]
    exact at_I h (fun j _ => by rw [D0_0 (by decide)]; rfl)
  have hg29 : L[23]? = some (x23, eI cI 100) := by rw [← hL]; rfl
  have hc29 : va_at (dC, dI) vwCl (ad 29, cellOf ad (cA5 cI cB cL c4 c5) D0 29) H := by
    have h := hP 23 _ hg29
    rw [ha29]
    exact at_I h (fun j _ => by rw [D0_0 (by decide)]; rfl)
  have hg30 : L[24]? = some (x24, eI cI 12) := by rw [← hL]; rfl
  have hc30 : va_at (dC, dI) vwCl (ad 30, cellOf ad (cA5 cI cB cL c4 c5) D0 30) H := by
    have h := hP 24 _ hg30
    rw [ha30]
    exact at_I h (fun j _ => by rw [D0_0 (by decide)]; rfl)
  have hg31 : L[25]? = some (x25, eI cI 12) := by rw [← hL]; rfl
  have hc31 : va_at (dC, dI) vwCl (ad 31, cellOf ad (cA5 cI cB cL c4 c5) D0 31) H := by
    have h := hP 25 _ hg31
    rw [ha31]
    exact at_I h (fun j _ => by rw [D0_0 (by decide)]; rfl)
  have hg32 : L[26]? = some (x26, eI cI 8) := by rw [← hL]; rfl
  have hc32 : va_at (dC, dI) vwCl (ad 32, cellOf ad (cA5 cI cB cL c4 c5) D0 32) H := by
    have h := hP 26 _ hg32
    rw [ha32]
    exact at_I h (fun j _ => by rw [D0_0 (by decide)]; rfl)
  have hg33 : L[27]? = some (x27, eI cI 8) := by rw [← hL]; rfl
  have hc33 : va_at (dC, dI) vwCl (ad 33, cellOf ad (cA5 cI cB cL c4 c5) D0 33) H := by
    have h := hP 27 _ hg33
    rw [ha33]
    exact at_I h (fun j _ => by rw [D0_0 (by decide)]; rfl)
  have hg34 : L[28]? = some (x28, eI cI 8) := by rw [← hL]; rfl
  have hc34 : va_at (dC, dI) vwCl (ad 34, cellOf ad (cA5 cI cB cL c4 c5) D0 34) H := by
    have h := hP 28 _ hg34
    rw [ha34]
    exact at_I h (fun j _ => by rw [D0_0 (by decide)]; rfl)
  have hg35 : L[29]? = some (x29, eI cI 25) := by rw [← hL]; rfl
  have hc35 : va_at (dC, dI) vwCl (ad 35, cellOf ad (cA5 cI cB cL c4 c5) D0 35) H := by
    have h := hP 29 _ hg35
    rw [ha35]
    exact at_I h (fun j _ => by rw [D0_0 (by decide)]; rfl)
  have hg36 : L[30]? = some (x30, eI cI 13) := by rw [← hL]; rfl
  have hc36 : va_at (dC, dI) vwCl (ad 36, cellOf ad (cA5 cI cB cL c4 c5) D0 36) H := by
    have h := hP 30 _ hg36
    rw [ha36]
    exact at_I h (fun j _ => by rw [D0_0 (by decide)]; rfl)
  have hg37 : L[31]? = some (x31, eI cI 104) := by rw [← hL]; rfl
  have hc37 : va_at (dC, dI) vwCl (ad 37, cellOf ad (cA5 cI cB cL c4 c5) D0 37) H := by
    have h := hP 31 _ hg37
    rw [ha37]
    exact at_I h (fun j _ => by rw [D0_0 (by decide)]; rfl)
  have hg38 : L[32]? = some (x32, eI cI 12) := by rw [← hL]; rfl
  have hc38 : va_at (dC, dI) vwCl (ad 38, cellOf ad (cA5 cI cB cL c4 c5) D0 38) H := by
    have h := hP 32 _ hg38
    rw [ha38]
    exact at_I h (fun j _ => by rw [D0_0 (by decide)]; rfl)
  have hg39 : L[33]? = some (x33, eI cI 12) := by rw [← hL]; rfl
  have hc39 : va_at (dC, dI) vwCl (ad 39, cellOf ad (cA5 cI cB cL c4 c5) D0 39) H := by
    have h := hP 33 _ hg39
    rw [ha39]
    exact at_I h (fun j _ => by rw [D0_0 (by decide)]; rfl)
  have hg40 : L[34]? = some (x34, eI cI 12) := by rw [← hL]; rfl
  have hc40 : va_at (dC, dI) vwCl (ad 40, cellOf ad (cA5 cI cB cL c4 c5) D0 40) H := by
    have h := hP 34 _ hg40
    rw [ha40]
    exact at_I h (fun j _ => by rw [D0_0 (by decide)]; rfl)
  have hg41 : L[35]? = some (x35, eO 4 [.int 0, .ref x36, .ref x37]) := by rw [← hL]; rfl
  have hc41 : va_at (dC, dI) vwCl (ad 41, cellOf ad (cA5 cI cB cL c4 c5) D0 41) H := by
    have h := hP 35 _ hg41
    have e : cellOf ad (cA5 cI cB cL c4 c5) D0 41 = eO 4 [.int 0, .ref x36, .ref x37] := by
      show (Sum.inr (4, [fV ad D0 41 4 0, fV ad D0 41 4 1, fV ad D0 41 4 2]) : va_E) = _
      rw [show fV ad D0 41 4 0 = .int 0 from congrArg (fun z => Value.int (Int32.ofInt z)) (show D0 41 0 = 0 from rfl), show fV ad D0 41 4 1 = .ref x36 from congrArg Value.ref ha42, show fV ad D0 41 4 2 = .ref x37 from congrArg Value.ref ha43]
    rw [ha41, e]; exact h
  have hg42 : L[36]? = some (x36, eI cI 8) := by rw [← hL]; rfl
  have hc42 : va_at (dC, dI) vwCl (ad 42, cellOf ad (cA5 cI cB cL c4 c5) D0 42) H := by
    have h := hP 36 _ hg42
    rw [ha42]
    exact at_I h (fun j _ => by rw [D0_0 (by decide)]; rfl)
  have hg43 : L[37]? = some (x37, eI cI 8) := by rw [← hL]; rfl
  have hc43 : va_at (dC, dI) vwCl (ad 43, cellOf ad (cA5 cI cB cL c4 c5) D0 43) H := by
    have h := hP 37 _ hg43
    rw [ha43]
    exact at_I h (fun j _ => by rw [D0_0 (by decide)]; rfl)
  have hg44 : L[38]? = some (x38, eQ c5 4 (va_up (va_up (va_up (va_up (fun _ => none) 0 (some x48)) 1 (some x50)) 2 (some x52)) 3 (some x54))) := by rw [← hL]; rfl
  have hc44 : va_at (dC, dI) vwCl (ad 44, cellOf ad (cA5 cI cB cL c4 c5) D0 44) H := by
    have h := hP 38 _ hg44
    rw [ha44]
    refine at_Q h (fun j hj => ?_)
    rcases lt_4 hj with rfl | rfl | rfl | rfl
    · exact congrArg some ha45.symm
    · exact congrArg some ha46.symm
    · exact congrArg some ha47.symm
    · exact congrArg some ha48.symm
  have hg45 : L[48]? = some (x48, eO 3 [.int (-1), .int 0, .ref x49]) := by rw [← hL]; rfl
  have hc45 : va_at (dC, dI) vwCl (ad 45, cellOf ad (cA5 cI cB cL c4 c5) D0 45) H := by
    have h := hP 48 _ hg45
    have e : cellOf ad (cA5 cI cB cL c4 c5) D0 45 = eO 3 [.int (-1), .int 0, .ref x49] := by
      show (Sum.inr (3, [fV ad D0 45 3 0, fV ad D0 45 3 1, fV ad D0 45 3 2]) : va_E) = _
      rw [show fV ad D0 45 3 0 = .int (-1) from congrArg (fun z => Value.int (Int32.ofInt z)) (show D0 45 0 = (-1) from rfl), show fV ad D0 45 3 1 = .int 0 from congrArg (fun z => Value.int (Int32.ofInt z)) (show D0 45 1 = 0 from rfl), show fV ad D0 45 3 2 = .ref x49 from congrArg Value.ref ha49]
    rw [ha45, e]; exact h
  have hg46 : L[50]? = some (x50, eO 3 [.int (-1), .int 0, .ref x51]) := by rw [← hL]; rfl
  have hc46 : va_at (dC, dI) vwCl (ad 46, cellOf ad (cA5 cI cB cL c4 c5) D0 46) H := by
    have h := hP 50 _ hg46
    have e : cellOf ad (cA5 cI cB cL c4 c5) D0 46 = eO 3 [.int (-1), .int 0, .ref x51] := by
      show (Sum.inr (3, [fV ad D0 46 3 0, fV ad D0 46 3 1, fV ad D0 46 3 2]) : va_E) = _
      rw [show fV ad D0 46 3 0 = .int (-1) from congrArg (fun z => Value.int (Int32.ofInt z)) (show D0 46 0 = (-1) from rfl), show fV ad D0 46 3 1 = .int 0 from congrArg (fun z => Value.int (Int32.ofInt z)) (show D0 46 1 = 0 from rfl), show fV ad D0 46 3 2 = .ref x51 from congrArg Value.ref ha50]
    rw [ha46, e]; exact h
  have hg47 : L[52]? = some (x52, eO 3 [.int (-1), .int 0, .ref x53]) := by rw [← hL]; rfl
  have hc47 : va_at (dC, dI) vwCl (ad 47, cellOf ad (cA5 cI cB cL c4 c5) D0 47) H := by
    have h := hP 52 _ hg47
    have e : cellOf ad (cA5 cI cB cL c4 c5) D0 47 = eO 3 [.int (-1), .int 0, .ref x53] := by
      show (Sum.inr (3, [fV ad D0 47 3 0, fV ad D0 47 3 1, fV ad D0 47 3 2]) : va_E) = _
      rw [show fV ad D0 47 3 0 = .int (-1) from congrArg (fun z => Value.int (Int32.ofInt z)) (show D0 47 0 = (-1) from rfl), show fV ad D0 47 3 1 = .int 0 from congrArg (fun z => Value.int (Int32.ofInt z)) (show D0 47 1 = 0 from rfl), show fV ad D0 47 3 2 = .ref x53 from congrArg Value.ref ha51]
    rw [ha47, e]; exact h
  have hg48 : L[54]? = some (x54, eO 3 [.int (-1), .int 0, .ref x55]) := by rw [← hL]; rfl
  have hc48 : va_at (dC, dI) vwCl (ad 48, cellOf ad (cA5 cI cB cL c4 c5) D0 48) H := by
    have h := hP 54 _ hg48
    have e : cellOf ad (cA5 cI cB cL c4 c5) D0 48 = eO 3 [.int (-1), .int 0, .ref x55] := by
      show (Sum.inr (3, [fV ad D0 48 3 0, fV ad D0 48 3 1, fV ad D0 48 3 2]) : va_E) = _
      rw [show fV ad D0 48 3 0 = .int (-1) from congrArg (fun z => Value.int (Int32.ofInt z)) (show D0 48 0 = (-1) from rfl), show fV ad D0 48 3 1 = .int 0 from congrArg (fun z => Value.int (Int32.ofInt z)) (show D0 48 1 = 0 from rfl), show fV ad D0 48 3 2 = .ref x55 from congrArg Value.ref ha52]
    rw [ha48, e]; exact h
  have hg49 : L[49]? = some (x49, eI cI 60) := by rw [← hL]; rfl
  have hc49 : va_at (dC, dI) vwCl (ad 49, cellOf ad (cA5 cI cB cL c4 c5) D0 49) H := by
    have h := hP 49 _ hg49
    rw [ha49]
    exact at_I h (fun j _ => by rw [D0_0 (by decide)]; rfl)
  have hg50 : L[51]? = some (x51, eI cI 60) := by rw [← hL]; rfl
  have hc50 : va_at (dC, dI) vwCl (ad 50, cellOf ad (cA5 cI cB cL c4 c5) D0 50) H := by
    have h := hP 51 _ hg50
    rw [ha50]
    exact at_I h (fun j _ => by rw [D0_0 (by decide)]; rfl)
  have hg51 : L[53]? = some (x53, eI cI 60) := by rw [← hL]; rfl
  have hc51 : va_at (dC, dI) vwCl (ad 51, cellOf ad (cA5 cI cB cL c4 c5) D0 51) H := by
    have h := hP 53 _ hg51
    rw [ha51]
    exact at_I h (fun j _ => by rw [D0_0 (by decide)]; rfl)
  have hg52 : L[55]? = some (x55, eI cI 60) := by rw [← hL]; rfl
  have hc52 : va_at (dC, dI) vwCl (ad 52, cellOf ad (cA5 cI cB cL c4 c5) D0 52) H := by
    have h := hP 55 _ hg52
    rw [ha52]
    exact at_I h (fun j _ => by rw [D0_0 (by decide)]; rfl)
  have hg53 : L[39]? = some (x39, eI cI 108) := by rw [← hL]; rfl
  have hc53 : va_at (dC, dI) vwCl (ad 53, cellOf ad (cA5 cI cB cL c4 c5) D0 53) H := by
    have h := hP 39 _ hg53
    rw [ha53]
    exact at_I h (fun j _ => by rw [D0_0 (by decide)]; rfl)
  have hg54 : L[40]? = some (x40, eL cL 8) := by rw [← hL]; rfl
  have hc54 : va_at (dC, dI) vwCl (ad 54, cellOf ad (cA5 cI cB cL c4 c5) D0 54) H := by
    have h := hP 40 _ hg54
    rw [ha54]
    exact at_L h (fun j _ => by rw [D0_0 (by decide)]; rfl)
  have hg55 : L[41]? = some (x41, eL cL 13) := by rw [← hL]; rfl
  have hc55 : va_at (dC, dI) vwCl (ad 55, cellOf ad (cA5 cI cB cL c4 c5) D0 55) H := by
    have h := hP 41 _ hg55
    rw [ha55]
    exact at_L h (fun j _ => by rw [D0_0 (by decide)]; rfl)
  have hg56 : L[56]? = some (h1, eO 6 [.ref y1, .ref y2, .int 0, .int 0, .ref y3, .int 0, .ref y4, .ref y5, .int 0, .ref y6, .ref y7, .ref y8, .ref y9, .ref y10, .ref y11, .ref y12, .ref y13, .int 0, .ref y14, .ref y15, .ref y16, .ref y17, .ref y18, .ref y19, .ref y20, .ref y21, .ref y22, .ref y23, .int 0]) := by rw [← hL]; rfl
  have hc56 : va_at (dC, dI) vwCl (ad 56, cellOf ad (cA5 cI cB cL c4 c5) D0 56) H := by
    have h := hP 56 _ hg56
    have e : cellOf ad (cA5 cI cB cL c4 c5) D0 56 = eO 6 [.ref y1, .ref y2, .int 0, .int 0, .ref y3, .int 0, .ref y4, .ref y5, .int 0, .ref y6, .ref y7, .ref y8, .ref y9, .ref y10, .ref y11, .ref y12, .ref y13, .int 0, .ref y14, .ref y15, .ref y16, .ref y17, .ref y18, .ref y19, .ref y20, .ref y21, .ref y22, .ref y23, .int 0] := by
      show (Sum.inr (6, [fV ad D0 56 6 0, fV ad D0 56 6 1, fV ad D0 56 6 2, fV ad D0 56 6 3, fV ad D0 56 6 4, fV ad D0 56 6 5, fV ad D0 56 6 6, fV ad D0 56 6 7, fV ad D0 56 6 8, fV ad D0 56 6 9, fV ad D0 56 6 10, fV ad D0 56 6 11, fV ad D0 56 6 12, fV ad D0 56 6 13, fV ad D0 56 6 14, fV ad D0 56 6 15, fV ad D0 56 6 16, fV ad D0 56 6 17, fV ad D0 56 6 18, fV ad D0 56 6 19, fV ad D0 56 6 20, fV ad D0 56 6 21, fV ad D0 56 6 22, fV ad D0 56 6 23, fV ad D0 56 6 24, fV ad D0 56 6 25, fV ad D0 56 6 26, fV ad D0 56 6 27, fV ad D0 56 6 28]) : va_E) = _
      rw [show fV ad D0 56 6 0 = .ref y1 from congrArg Value.ref ha57, show fV ad D0 56 6 1 = .ref y2 from congrArg Value.ref ha58, show fV ad D0 56 6 2 = .int 0 from congrArg (fun z => Value.int (Int32.ofInt z)) (show D0 56 2 = 0 from rfl), show fV ad D0 56 6 3 = .int 0 from congrArg (fun z => Value.int (Int32.ofInt z)) (show D0 56 3 = 0 from rfl), show fV ad D0 56 6 4 = .ref y3 from congrArg Value.ref ha59, show fV ad D0 56 6 5 = .int 0 from congrArg (fun z => Value.int (Int32.ofInt z)) (show D0 56 5 = 0 from rfl), show fV ad D0 56 6 6 = .ref y4 from congrArg Value.ref ha60, show fV ad D0 56 6 7 = .ref y5 from congrArg Value.ref ha61, show fV ad D0 56 6 8 = .int 0 from congrArg (fun z => Value.int (Int32.ofInt z)) (show D0 56 8 = 0 from rfl), show fV ad D0 56 6 9 = .ref y6 from congrArg Value.ref ha62, show fV ad D0 56 6 10 = .ref y7 from congrArg Value.ref ha63, show fV ad D0 56 6 11 = .ref y8 from congrArg Value.ref ha64, show fV ad D0 56 6 12 = .ref y9 from congrArg Value.ref ha65, show fV ad D0 56 6 13 = .ref y10 from congrArg Value.ref ha66, show fV ad D0 56 6 14 = .ref y11 from congrArg Value.ref ha67, show fV ad D0 56 6 15 = .ref y12 from congrArg Value.ref ha68, show fV ad D0 56 6 16 = .ref y13 from congrArg Value.ref ha69, show fV ad D0 56 6 17 = .int 0 from congrArg (fun z => Value.int (Int32.ofInt z)) (show D0 56 17 = 0 from rfl), show fV ad D0 56 6 18 = .ref y14 from congrArg Value.ref ha70, show fV ad D0 56 6 19 = .ref y15 from congrArg Value.ref ha71, show fV ad D0 56 6 20 = .ref y16 from congrArg Value.ref ha72, show fV ad D0 56 6 21 = .ref y17 from congrArg Value.ref ha73, show fV ad D0 56 6 22 = .ref y18 from congrArg Value.ref ha74, show fV ad D0 56 6 23 = .ref y19 from congrArg Value.ref ha75, show fV ad D0 56 6 24 = .ref y20 from congrArg Value.ref ha76, show fV ad D0 56 6 25 = .ref y21 from congrArg Value.ref ha77, show fV ad D0 56 6 26 = .ref y22 from congrArg Value.ref ha78, show fV ad D0 56 6 27 = .ref y23 from congrArg Value.ref ha79, show fV ad D0 56 6 28 = .int 0 from congrArg (fun z => Value.int (Int32.ofInt z)) (show D0 56 28 = 0 from rfl)]
    rw [ha56, e]; exact h
  have hg57 : L[57]? = some (y1, eI cI 3) := by rw [← hL]; rfl
  have hc57 : va_at (dC, dI) vwCl (ad 57, cellOf ad (cA5 cI cB cL c4 c5) D0 57) H := by
    have h := hP 57 _ hg57
    rw [ha57]
    exact at_I h (fun j _ => by rw [D0_0 (by decide)]; rfl)
  have hg58 : L[58]? = some (y2, eI cI 117) := by rw [← hL]; rfl
  have hc58 : va_at (dC, dI) vwCl (ad 58, cellOf ad (cA5 cI cB cL c4 c5) D0 58) H := by
    have h := hP 58 _ hg58
    rw [ha58]
    exact at_I h (fun j _ => by rw [D0_0 (by decide)]; rfl)
  have hg59 : L[59]? = some (y3, eI cB 26) := by rw [← hL]; rfl
  have hc59 : va_at (dC, dI) vwCl (ad 59, cellOf ad (cA5 cI cB cL c4 c5) D0 59) H := by
    have h := hP 59 _ hg59
    rw [ha59]
    exact at_I h (fun j _ => by rw [D0_0 (by decide)]; rfl)
  have hg60 : L[60]? = some (y4, eI cI 12) := by rw [← hL]; rfl
  have hc60 : va_at (dC, dI) vwCl (ad 60, cellOf ad (cA5 cI cB cL c4 c5) D0 60) H := by
    have h := hP 60 _ hg60
    rw [ha60]
    exact at_I h (fun j _ => by rw [D0_0 (by decide)]; rfl)
  have hg61 : L[61]? = some (y5, eI cI 12) := by rw [← hL]; rfl
  have hc61 : va_at (dC, dI) vwCl (ad 61, cellOf ad (cA5 cI cB cL c4 c5) D0 61) H := by
    have h := hP 61 _ hg61
    rw [ha61]
    exact at_I h (fun j _ => by rw [D0_0 (by decide)]; rfl)
  have hg62 : L[62]? = some (y6, eI cI 9) := by rw [← hL]; rfl
  have hc62 : va_at (dC, dI) vwCl (ad 62, cellOf ad (cA5 cI cB cL c4 c5) D0 62) H := by
    have h := hP 62 _ hg62
    rw [ha62]
    exact at_I h (fun j _ => by rw [D0_0 (by decide)]; rfl)
  have hg63 : L[63]? = some (y7, eI cI 9) := by rw [← hL]; rfl
  have hc63 : va_at (dC, dI) vwCl (ad 63, cellOf ad (cA5 cI cB cL c4 c5) D0 63) H := by
    have h := hP 63 _ hg63
    rw [ha63]
    exact at_I h (fun j _ => by rw [D0_0 (by decide)]; rfl)
  have hg64 : L[64]? = some (y8, eI cI 9) := by rw [← hL]; rfl
  have hc64 : va_at (dC, dI) vwCl (ad 64, cellOf ad (cA5 cI cB cL c4 c5) D0 64) H := by
    have h := hP 64 _ hg64
    rw [ha64]
    exact at_I h (fun j _ => by rw [D0_0 (by decide)]; rfl)
  have hg65 : L[65]? = some (y9, eI cI 104) := by rw [← hL]; rfl
  have hc65 : va_at (dC, dI) vwCl (ad 65, cellOf ad (cA5 cI cB cL c4 c5) D0 65) H := by
    have h := hP 65 _ hg65
    rw [ha65]
    exact at_I h (fun j _ => by rw [D0_0 (by decide)]; rfl)
  have hg66 : L[66]? = some (y10, eI cI 8) := by rw [← hL]; rfl
  have hc66 : va_at (dC, dI) vwCl (ad 66, cellOf ad (cA5 cI cB cL c4 c5) D0 66) H := by
    have h := hP 66 _ hg66
    rw [ha66]
    exact at_I h (fun j _ => by rw [D0_0 (by decide)]; rfl)
  have hg67 : L[67]? = some (y11, eI cB 8) := by rw [← hL]; rfl
  have hc67 : va_at (dC, dI) vwCl (ad 67, cellOf ad (cA5 cI cB cL c4 c5) D0 67) H := by
    have h := hP 67 _ hg67
    rw [ha67]
    exact at_I h (fun j _ => by rw [D0_0 (by decide)]; rfl)
  have hg68 : L[68]? = some (y12, eI cB 8) := by rw [← hL]; rfl
  have hc68 : va_at (dC, dI) vwCl (ad 68, cellOf ad (cA5 cI cB cL c4 c5) D0 68) H := by
    have h := hP 68 _ hg68
    rw [ha68]
    exact at_I h (fun j _ => by rw [D0_0 (by decide)]; rfl)
  have hg69 : L[69]? = some (y13, eI cI 12) := by rw [← hL]; rfl
  have hc69 : va_at (dC, dI) vwCl (ad 69, cellOf ad (cA5 cI cB cL c4 c5) D0 69) H := by
    have h := hP 69 _ hg69
    rw [ha69]
    exact at_I h (fun j _ => by rw [D0_0 (by decide)]; rfl)
  have hg70 : L[70]? = some (y14, eI cI 8) := by rw [← hL]; rfl
  have hc70 : va_at (dC, dI) vwCl (ad 70, cellOf ad (cA5 cI cB cL c4 c5) D0 70) H := by
    have h := hP 70 _ hg70
    rw [ha70]
    exact at_I h (fun j _ => by rw [D0_0 (by decide)]; rfl)
  have hg71 : L[71]? = some (y15, eI cI 8) := by rw [← hL]; rfl
  have hc71 : va_at (dC, dI) vwCl (ad 71, cellOf ad (cA5 cI cB cL c4 c5) D0 71) H := by
    have h := hP 71 _ hg71
    rw [ha71]
    exact at_I h (fun j _ => by rw [D0_0 (by decide)]; rfl)
  have hg72 : L[72]? = some (y16, eI cB 40) := by rw [← hL]; rfl
  have hc72 : va_at (dC, dI) vwCl (ad 72, cellOf ad (cA5 cI cB cL c4 c5) D0 72) H := by
    have h := hP 72 _ hg72
    rw [ha72]
    exact at_I h (fun j _ => by rw [D0_0 (by decide)]; rfl)
  have hg73 : L[73]? = some (y17, eI cI 480) := by rw [← hL]; rfl
  have hc73 : va_at (dC, dI) vwCl (ad 73, cellOf ad (cA5 cI cB cL c4 c5) D0 73) H := by
    have h := hP 73 _ hg73
    rw [ha73]
    exact at_I h (fun j _ => by rw [D0_0 (by decide)]; rfl)
  have hg74 : L[74]? = some (y18, eI cI 12) := by rw [← hL]; rfl
  have hc74 : va_at (dC, dI) vwCl (ad 74, cellOf ad (cA5 cI cB cL c4 c5) D0 74) H := by
    have h := hP 74 _ hg74
    rw [ha74]
    exact at_I h (fun j _ => by rw [D0_0 (by decide)]; rfl)
  have hg75 : L[75]? = some (y19, eI cB 4) := by rw [← hL]; rfl
  have hc75 : va_at (dC, dI) vwCl (ad 75, cellOf ad (cA5 cI cB cL c4 c5) D0 75) H := by
    have h := hP 75 _ hg75
    rw [ha75]
    exact at_I h (fun j _ => by rw [D0_0 (by decide)]; rfl)
  have hg76 : L[76]? = some (y20, eI cI 4) := by rw [← hL]; rfl
  have hc76 : va_at (dC, dI) vwCl (ad 76, cellOf ad (cA5 cI cB cL c4 c5) D0 76) H := by
    have h := hP 76 _ hg76
    rw [ha76]
    exact at_I h (fun j _ => by rw [D0_0 (by decide)]; rfl)
  have hg77 : L[77]? = some (y21, eI cI 4) := by rw [← hL]; rfl
  have hc77 : va_at (dC, dI) vwCl (ad 77, cellOf ad (cA5 cI cB cL c4 c5) D0 77) H := by
    have h := hP 77 _ hg77
    rw [ha77]
    exact at_I h (fun j _ => by rw [D0_0 (by decide)]; rfl)
  have hg78 : L[78]? = some (y22, eI cI 240) := by rw [← hL]; rfl
  have hc78 : va_at (dC, dI) vwCl (ad 78, cellOf ad (cA5 cI cB cL c4 c5) D0 78) H := by
    have h := hP 78 _ hg78
    rw [ha78]
    exact at_I h (fun j _ => by rw [D0_0 (by decide)]; rfl)
  have hg79 : L[79]? = some (y23, eI cI 60) := by rw [← hL]; rfl
  have hc79 : va_at (dC, dI) vwCl (ad 79, cellOf ad (cA5 cI cB cL c4 c5) D0 79) H := by
    have h := hP 79 _ hg79
    rw [ha79]
    exact at_I h (fun j _ => by rw [D0_0 (by decide)]; rfl)
  have key : ∀ k, k < 80 → (∃ e, L[posW.getD k 0]? = some (ad k, e)) ∧ va_at (dC, dI) vwCl (ad k, cellOf ad (cA5 cI cB cL c4 c5) D0 k) H := fun k hk => by
    match k, hk with
    | 0, _ => exact ⟨⟨_, by rw [ha0]; exact hg0⟩, hc0⟩
    | 1, _ => exact ⟨⟨_, by rw [ha1]; exact hg1⟩, hc1⟩
    | 2, _ => exact ⟨⟨_, by rw [ha2]; exact hg2⟩, hc2⟩
    | 3, _ => exact ⟨⟨_, by rw [ha3]; exact hg3⟩, hc3⟩
    | 4, _ => exact ⟨⟨_, by rw [ha4]; exact hg4⟩, hc4⟩
    | 5, _ => exact ⟨⟨_, by rw [ha5]; exact hg5⟩, hc5⟩
    | 6, _ => exact ⟨⟨_, by rw [ha6]; exact hg6⟩, hc6⟩
    | 7, _ => exact ⟨⟨_, by rw [ha7]; exact hg7⟩, hc7⟩
    | 8, _ => exact ⟨⟨_, by rw [ha8]; exact hg8⟩, hc8⟩
    | 9, _ => exact ⟨⟨_, by rw [ha9]; exact hg9⟩, hc9⟩
    | 10, _ => exact ⟨⟨_, by rw [ha10]; exact hg10⟩, hc10⟩
    | 11, _ => exact ⟨⟨_, by rw [ha11]; exact hg11⟩, hc11⟩
    | 12, _ => exact ⟨⟨_, by rw [ha12]; exact hg12⟩, hc12⟩
    | 13, _ => exact ⟨⟨_, by rw [ha13]; exact hg13⟩, hc13⟩
    | 14, _ => exact ⟨⟨_, by rw [ha14]; exact hg14⟩, hc14⟩
    | 15, _ => exact ⟨⟨_, by rw [ha15]; exact hg15⟩, hc15⟩
    | 16, _ => exact ⟨⟨_, by rw [ha16]; exact hg16⟩, hc16⟩
    | 17, _ => exact ⟨⟨_, by rw [ha17]; exact hg17⟩, hc17⟩
    | 18, _ => exact ⟨⟨_, by rw [ha18]; exact hg18⟩, hc18⟩
    | 19, _ => exact ⟨⟨_, by rw [ha19]; exact hg19⟩, hc19⟩
    | 20, _ => exact ⟨⟨_, by rw [ha20]; exact hg20⟩, hc20⟩
    | 21, _ => exact ⟨⟨_, by rw [ha21]; exact hg21⟩, hc21⟩
    | 22, _ => exact ⟨⟨_, by rw [ha22]; exact hg22⟩, hc22⟩
    | 23, _ => exact ⟨⟨_, by rw [ha23]; exact hg23⟩, hc23⟩
    | 24, _ => exact ⟨⟨_, by rw [ha24]; exact hg24⟩, hc24⟩
    | 25, _ => exact ⟨⟨_, by rw [ha25]; exact hg25⟩, hc25⟩
    | 26, _ => exact ⟨⟨_, by rw [ha26]; exact hg26⟩, hc26⟩
    | 27, _ => exact ⟨⟨_, by rw [ha27]; exact hg27⟩, hc27⟩
    | 28, _ => exact ⟨⟨_, by rw [ha28]; exact hg28⟩, hc28⟩
    | 29, _ => exact ⟨⟨_, by rw [ha29]; exact hg29⟩, hc29⟩
    | 30, _ => exact ⟨⟨_, by rw [ha30]; exact hg30⟩, hc30⟩
    | 31, _ => exact ⟨⟨_, by rw [ha31]; exact hg31⟩, hc31⟩
    | 32, _ => exact ⟨⟨_, by rw [ha32]; exact hg32⟩, hc32⟩
    | 33, _ => exact ⟨⟨_, by rw [ha33]; exact hg33⟩, hc33⟩
    | 34, _ => exact ⟨⟨_, by rw [ha34]; exact hg34⟩, hc34⟩
    | 35, _ => exact ⟨⟨_, by rw [ha35]; exact hg35⟩, hc35⟩
    | 36, _ => exact ⟨⟨_, by rw [ha36]; exact hg36⟩, hc36⟩
    | 37, _ => exact ⟨⟨_, by rw [ha37]; exact hg37⟩, hc37⟩
    | 38, _ => exact ⟨⟨_, by rw [ha38]; exact hg38⟩, hc38⟩
    | 39, _ => exact ⟨⟨_, by rw [ha39]; exact hg39⟩, hc39⟩
    | 40, _ => exact ⟨⟨_, by rw [ha40]; exact hg40⟩, hc40⟩
    | 41, _ => exact ⟨⟨_, by rw [ha41]; exact hg41⟩, hc41⟩
    | 42, _ => exact ⟨⟨_, by rw [ha42]; exact hg42⟩, hc42⟩
    | 43, _ => exact ⟨⟨_, by rw [ha43]; exact hg43⟩, hc43⟩
    | 44, _ => exact ⟨⟨_, by rw [ha44]; exact hg44⟩, hc44⟩
    | 45, _ => exact ⟨⟨_, by rw [ha45]; exact hg45⟩, hc45⟩
    | 46, _ => exact ⟨⟨_, by rw [ha46]; exact hg46⟩, hc46⟩
    | 47, _ => exact ⟨⟨_, by rw [ha47]; exact hg47⟩, hc47⟩
    | 48, _ => exact ⟨⟨_, by rw [ha48]; exact hg48⟩, hc48⟩
    | 49, _ => exact ⟨⟨_, by rw [ha49]; exact hg49⟩, hc49⟩
    | 50, _ => exact ⟨⟨_, by rw [ha50]; exact hg50⟩, hc50⟩
    | 51, _ => exact ⟨⟨_, by rw [ha51]; exact hg51⟩, hc51⟩
    | 52, _ => exact ⟨⟨_, by rw [ha52]; exact hg52⟩, hc52⟩
    | 53, _ => exact ⟨⟨_, by rw [ha53]; exact hg53⟩, hc53⟩
    | 54, _ => exact ⟨⟨_, by rw [ha54]; exact hg54⟩, hc54⟩
    | 55, _ => exact ⟨⟨_, by rw [ha55]; exact hg55⟩, hc55⟩
    | 56, _ => exact ⟨⟨_, by rw [ha56]; exact hg56⟩, hc56⟩
    | 57, _ => exact ⟨⟨_, by rw [ha57]; exact hg57⟩, hc57⟩
    | 58, _ => exact ⟨⟨_, by rw [ha58]; exact hg58⟩, hc58⟩
    | 59, _ => exact ⟨⟨_, by rw [ha59]; exact hg59⟩, hc59⟩
    | 60, _ => exact ⟨⟨_, by rw [ha60]; exact hg60⟩, hc60⟩
    | 61, _ => exact ⟨⟨_, by rw [ha61]; exact hg61⟩, hc61⟩
    | 62, _ => exact ⟨⟨_, by rw [ha62]; exact hg62⟩, hc62⟩
    | 63, _ => exact ⟨⟨_, by rw [ha63]; exact hg63⟩, hc63⟩
    | 64, _ => exact ⟨⟨_, by rw [ha64]; exact hg64⟩, hc64⟩
    | 65, _ => exact ⟨⟨_, by rw [ha65]; exact hg65⟩, hc65⟩
    | 66, _ => exact ⟨⟨_, by rw [ha66]; exact hg66⟩, hc66⟩
    | 67, _ => exact ⟨⟨_, by rw [ha67]; exact hg67⟩, hc67⟩
    | 68, _ => exact ⟨⟨_, by rw [ha68]; exact hg68⟩, hc68⟩
    | 69, _ => exact ⟨⟨_, by rw [ha69]; exact hg69⟩, hc69⟩
    | 70, _ => exact ⟨⟨_, by rw [ha70]; exact hg70⟩, hc70⟩
    | 71, _ => exact ⟨⟨_, by rw [ha71]; exact hg71⟩, hc71⟩
    | 72, _ => exact ⟨⟨_, by rw [ha72]; exact hg72⟩, hc72⟩
    | 73, _ => exact ⟨⟨_, by rw [ha73]; exact hg73⟩, hc73⟩
    | 74, _ => exact ⟨⟨_, by rw [ha74]; exact hg74⟩, hc74⟩
    | 75, _ => exact ⟨⟨_, by rw [ha75]; exact hg75⟩, hc75⟩
    | 76, _ => exact ⟨⟨_, by rw [ha76]; exact hg76⟩, hc76⟩
    | 77, _ => exact ⟨⟨_, by rw [ha77]; exact hg77⟩, hc77⟩
    | 78, _ => exact ⟨⟨_, by rw [ha78]; exact hg78⟩, hc78⟩
    | 79, _ => exact ⟨⟨_, by rw [ha79]; exact hg79⟩, hc79⟩
    | k + 80, hk => omega
  refine ⟨ad, ha0, ha56, fun i j hi hj e => ?_, fun k x hx => ?_, fun k hk => ?_⟩
  · obtain ⟨⟨e1, g1⟩, -⟩ := key i hi
    obtain ⟨⟨e2, g2⟩, -⟩ := key j hj
    exact posW_inj i hi j hj (hD.1 _ _ _ _ g1 g2 e)
  · have hk : k < 80 := by
      rcases Nat.lt_or_ge k 80 with q | q
      · exact q
      · have : (WD ad (cA5 cI cB cL c4 c5) D0)[k]? = none := by simp [WD, q]
        rw [this] at hx
        cases hx
    rw [WD_at _ _ _ hk] at hx
    cases hx
    exact (key k hk).2
  · obtain ⟨⟨e1, g1⟩, -⟩ := key k hk
    exact hD.2 _ _ g1
