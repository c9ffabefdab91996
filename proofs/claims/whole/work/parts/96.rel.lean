/-! ===== both in one heap ===== -/
def SHR (D : HP) (s : Nat) : Prop := (D 75 s = 0 ∧ D (45 + s) 0 = -1 ∧ 0 ≤ D (45 + s) 1 ∧ D (45 + s) 1 ≤ 60) ∨ (D 75 s = 1 ∧ D (45 + s) 0 = D 76 s ∧ D (45 + s) 1 = D 77 s ∧ ∀ i : Nat, i < 60 → D (49 + s) i = D 78 (60 * s + i))
def RLt (D : HP) : Prop := (D 2 1 = 29 ∧ D 3 1 = 24 ∧ D 4 1 = 39) ∧ ∀ t : Nat, t < 3 → D (2 + t) 2 = D 57 t ∧ ∀ i : Nat, (i : Int) < D 57 t → D (5 + t) i = D 58 (39 * t + i)
def RLs (D : HP) : Prop := D 41 0 = D 56 17 ∧ ∀ i : Nat, (i : Int) < D 56 17 → D 42 i = D 70 i ∧ D 43 i = D 71 i
def RLB (D : HP) : Prop := (TXM D ∧ SGM D ∧ SHM D) ∧ RLt D ∧ (TC D 9 (tS D) ∧ ∀ t : Nat, t < 3 → D 8 t = tF D t) ∧ RLs D ∧ (∀ s : Nat, s < 4 → SHR D s) ∧ D 0 6 = D 56 28 ∧ IQ D (tS D) ∧ WC D (tS D)
theorem SHR_of {D E : HP} {s : Nat} (hs : s < 4) (h : SHR D s) (e1 : ∀ i, E 75 i = D 75 i ∧ E 76 i = D 76 i ∧ E 77 i = D 77 i ∧ E 78 i = D 78 i) (e2 : ∀ x i, 45 ≤ x → x ≤ 52 → E x i = D x i) : SHR E s := by
  unfold SHR
  rw [(e1 s).1, (e1 s).2.1, (e1 s).2.2.1, e2 (45 + s) 0 (by omega) (by omega), e2 (45 + s) 1 (by omega) (by omega)]
  rcases h with h | h
  · exact Or.inl h
  · refine Or.inr ⟨h.1, h.2.1, h.2.2.1, fun i hi => ?_⟩
    rw [e2 (49 + s) i (by omega) (by omega), (e1 _).2.2.2]
    exact h.2.2.2 i hi
theorem tF_eq {D E : HP} (h : ∀ a i, a = 57 ∨ a = 58 → E a i = D a i) (t : Int) : tF E t = tF D t := by
  unfold tF
  rw [tN_of h, tN_of h, tN_of h, tB_of h, tB_of h, tB_of h]
theorem SHM_of {D E : HP} (h : SHM D) (e : ∀ x i, x = 75 ∨ x = 76 ∨ x = 77 → E x i = D x i) : SHM E := fun s hs => by
  rw [e _ _ (by omega), e _ _ (by omega), e _ _ (by omega)]; exact h s hs
theorem RL_w {D E : HP} (h : RLB D) (hF : FRw D E) : RLB E := by
  obtain ⟨⟨hT, hG, hS⟩, ht, ⟨hC, hf⟩, hs, hh, hn, hQ, hW⟩ := h
  have c : ∀ a i, a < 56 → E a i = D a i := fun a i q => hF a i (by omega) (by omega)
  have m : ∀ a i, (a = 57 ∨ a = 58 ∨ a = 70 ∨ a = 71 ∨ a = 75 ∨ a = 76 ∨ a = 77 ∨ a = 78) → E a i = D a i := fun a i q => hF a i (by omega) (by omega)
  have e17 : E 56 17 = D 56 17 := hF 56 17 (by decide) (by decide)
  have e28 : E 56 28 = D 56 28 := hF 56 28 (by decide) (by decide)
  have eg : gC E = gC D := gC_of fun a i p1 p2 => c a i (by omega)
  refine ⟨⟨hF.TX hT, hF.SG hG, SHM_of hS (fun x i q => m x i (by omega))⟩, ⟨?_, fun t ht3 => ?_⟩, ⟨?_, fun t ht3 => ?_⟩, ⟨?_, fun i hi => ?_⟩, fun s hs4 => SHR_of hs4 (hh s hs4) (fun i => ⟨m _ _ (by omega), m _ _ (by omega), m _ _ (by omega), m _ _ (by omega)⟩) (fun x i p1 p2 => c x i (by omega)), ?_, ?_, ?_⟩
  · rw [c _ _ (by decide), c _ _ (by decide), c _ _ (by decide)]; exact ht.1
  · have g := ht.2 t ht3
    rw [c _ _ (by omega), m 57 _ (by decide)]
    refine ⟨g.1, fun i hi => ?_⟩
    rw [c _ _ (by omega), m 58 _ (by decide)]
    exact g.2 i hi
  · rw [hF.S]
    exact TC_fr hC fun a i p1 p2 => c a i (by omega)
  · rw [c _ _ (by decide), hF.F]; exact hf t ht3
  · rw [c _ _ (by decide), e17]; exact hs.1
  · rw [e17] at hi
    rw [c 42 _ (by decide), c 43 _ (by decide), m 70 _ (by decide), m 71 _ (by decide)]; exact hs.2 i hi
  · rw [c _ _ (by decide), e28]; exact hn
  · rw [hF.S]
    exact IQ_of hQ (c _ _ (by decide)) (c _ _ (by decide)) (fun i => c _ _ (by decide)) eg
  · rw [hF.S]
    exact WC_of hW (c _ _ (by decide)) (fun i => c _ _ (by decide))
theorem FQ_S {D E : HP} (h : FQ D E) : tS E = tS D := tS_eq fun a i q => h a i (by omega) (by omega) (by omega) (by omega) (by omega)
theorem RL_q {D E : HP} (h : RLB D) (q : QS D E (tS D)) : RLB E := by
  obtain ⟨⟨hT, hG, hS⟩, ht, ⟨hC, hf⟩, hs, hh, hn, hQ, hW⟩ := h
  obtain ⟨hF, hQ2, hW2⟩ := q
  have c : ∀ a i, (0 < a ∧ a < 25) ∨ (40 < a ∧ a < 53) ∨ 55 < a → E a i = D a i := fun a i z => hF a i (by omega) (by omega) (by omega) (by omega) (by omega)
  have hS' := FQ_S hF
  refine ⟨⟨TXM_of hT (fun a i z => c a i (by omega)), ⟨?_, fun i hi => ?_⟩, SHM_of hS (fun x i z => c x i (by omega))⟩, ⟨?_, fun t ht3 => ?_⟩, ⟨?_, fun t ht3 => ?_⟩, ⟨?_, fun i hi => ?_⟩, fun s hs4 => SHR_of hs4 (hh s hs4) (fun i => ⟨c _ _ (by omega), c _ _ (by omega), c _ _ (by omega), c _ _ (by omega)⟩) (fun x i p1 p2 => c x i (by omega)), ?_, ?_, ?_⟩
  · rw [c 56 17 (by decide)]; exact hG.1
  · rw [c 56 17 (by decide)] at hi
    rw [c 70 _ (by decide), c 71 _ (by decide)]; exact hG.2 i hi
  · rw [c _ _ (by decide), c _ _ (by decide), c _ _ (by decide)]; exact ht.1
  · have g := ht.2 t ht3
    rw [c _ _ (by omega), c 57 _ (by decide)]
    refine ⟨g.1, fun i hi => ?_⟩
    rw [c _ _ (by omega), c 58 _ (by decide)]
    exact g.2 i hi
  · rw [hS']; exact hF.TC hC
  · rw [c 8 _ (by decide), tF_eq (fun a i z => c a i (by omega))]; exact hf t ht3
  · rw [c 41 _ (by decide), c 56 _ (by decide)]; exact hs.1
  · rw [c 56 _ (by decide)] at hi
    rw [c 42 _ (by decide), c 43 _ (by decide), c 70 _ (by decide), c 71 _ (by decide)]; exact hs.2 i hi
  · rw [hF 0 6 (by decide) (by decide) (by decide) (by decide) (by decide), c 56 _ (by decide)]; exact hn
  · rw [hS']; exact hQ2
  · rw [hS']; exact hW2
theorem RL_SGC {D : HP} (h : RLB D) : SGC D := by
  obtain ⟨⟨hT, hG, hS⟩, ht, hC, hs, -⟩ := h
  unfold SGC
  rw [hs.1]
  refine ⟨hG.1, fun i hi => ?_⟩
  rw [(hs.2 i hi).1, (hs.2 i hi).2]
  exact hG.2 i hi
theorem RL_SHC {D : HP} (h : RLB D) : SHC D := fun s hs => by
  have hM := h.1.2.2 s hs
  rcases h.2.2.2.2.1 s hs with g | g
  · omega
  · rw [g.2.1, g.2.2.1]; omega
theorem cms_g {D : HP} (h : RLB D) (S : SC) : cms S (gC D) = cms S (gM D) := by
  have hs := h.2.2.2.1
  unfold cms
  have e1 : (gC D).1 = (gM D).1 := by show (D 41 0).toNat = (D 56 17).toNat; rw [hs.1]
  rw [e1]
  congr 1
  refine exB_congr fun i hi => ?_
  have hi : i < (D 56 17).toNat := hi
  have g := hs.2 i (by omega)
  unfold cmP
  show (!(decide (D 42 i < S 0 2 ∧ inn S (D 42 i).toNat = (if D 43 i = 8 then -1 else D 43 i)))) = (!(decide (D 70 i < S 0 2 ∧ inn S (D 70 i).toNat = (if D 71 i = 8 then -1 else D 71 i))))
  rw [g.1, g.2]
section GG
variable {g g' : SGt} (hc : ∀ S, cms S g = cms S g')
theorem blP_g (hc : ∀ S, cms S g = cms S g') (S : SC) (m : Nat) : blP S g m = blP S g' m := funext fun c => hc _
theorem vBlewOf_g (hc : ∀ S, cms S g = cms S g') (S : SC) (m : Nat) (i : Int) : vBlewOf S g m i = vBlewOf S g' m i := by
  unfold vBlewOf blK
  rw [blP_g hc]
theorem vBlew_g (hc : ∀ S, cms S g = cms S g') (S : SC) (a i : Int) : vBlew S g a i = vBlew S g' a i := by
  unfold vBlew
  rw [vBlewOf_g hc]
theorem grt_g (hc : ∀ S, cms S g = cms S g') (S : SC) (m j : Nat) : grt S g m j = grt S g' m j := by
  unfold grt tal
  rw [blP_g hc]
theorem akB_g (hc : ∀ S, cms S g = cms S g') (S : SC) (m : Nat) : ∀ n : Nat, akB S g m n = akB S g' m n
  | 0 => rfl
  | n + 1 => by rw [akB, akB, akB_g hc S m n, grt_g hc]
theorem vAskOf_g (hc : ∀ S, cms S g = cms S g') (S : SC) (m : Nat) : vAskOf S g m = vAskOf S g' m := by
  unfold vAskOf
  rw [akB_g hc]
theorem vAsk_g (hc : ∀ S, cms S g = cms S g') (S : SC) (a : Int) : vAsk S g a = vAsk S g' a := by
  unfold vAsk
  rw [vAskOf_g hc]
theorem hdB_g (hc : ∀ S, cms S g = cms S g') (S : SC) (k : Nat) : ∀ n : Nat, hdB S g k n = hdB S g' k n
  | 0 => rfl
  | n + 1 => by rw [hdB, hdB, hdB_g hc S k n, hc]
theorem vHadOf_g (hc : ∀ S, cms S g = cms S g') (S : SC) (k : Nat) : vHadOf S g k = vHadOf S g' k := hdB_g hc S k 9
theorem vHad_g (hc : ∀ S, cms S g = cms S g') (S : SC) (a : Int) : vHad S g a = vHad S g' a := by
  unfold vHad
  rw [vHadOf_g hc]
theorem vMin_g (hc : ∀ S, cms S g = cms S g') (S : SC) (h : Int) (m : Nat) : vMin S g h m = vMin S g' h m := by
  unfold vMin vMin2 vMin1 vMin0
  rw [vAskOf_g hc, vBlewOf_g hc, vBlewOf_g hc]
theorem vCd_g (hc : ∀ S, cms S g = cms S g') (S : SC) (h : Int) (k : Nat) : vCd S g h k = vCd S g' h k := by
  unfold vCd
  rw [vHadOf_g hc]
end GG
theorem hf_cg {f g : Nat → Int} {h : Int} : ∀ {n : Nat}, (∀ k, k < n → f k = g k) → hf f n h = hf g n h
  | 0, _ => rfl
  | n + 1, e => by rw [hf, hf, hf_cg (fun k hk => e k (by omega)), e n (by omega)]
theorem RL_cnt {D : HP} (h : RLB D) (a : Int) : vCountC D (tS D) a = vCount D a := by
  obtain ⟨-, ht, -, hs, -, hn, -⟩ := h
  have t0 := (ht.2 0 (by decide)).1
  have t1 := (ht.2 1 (by decide)).1
  have t2 := (ht.2 2 (by decide)).1
  unfold vCountC vCount
  rw [hs.1, hn, t0, t1, t2]
theorem RL_dig {D : HP} (h : RLB D) : vDigC D (tS D) = vDigest D := by
  have hc := cms_g h
  have hf3 := h.2.2.1.2
  have e1 : cg1 D (tS D) 8 = dg1 D 8 := hf_cg fun k _ => RL_cnt h k
  have e2 : cg2 D (tS D) 3 = dg2 D 3 := by
    unfold cg2 dg2
    rw [e1]
    exact hf_cg fun k hk => hf3 k hk
  have e3 : ∀ n, cg3 D (tS D) n = dg3 D n := fun n => by
    unfold cg3 dg3
    rw [e2]
  have e4 : ∀ n, cg4 D (tS D) n = dg4 D n := fun n => by
    induction n with
    | zero => exact e3 _
    | succ n ih => rw [cg4, dg4, ih, vMin_g hc]
  have e5 : ∀ n, cg5 D (tS D) n = dg5 D n := fun n => by
    induction n with
    | zero => exact e4 _
    | succ n ih => rw [cg5, dg5, ih, vCd_g hc]
  unfold vDigC vDigest
  rw [e5]
theorem dig_of {D E : HP} (c : ∀ a i, 55 < a → E a i = D a i) : vDigest E = vDigest D := by
  have hS : tS E = tS D := tS_eq fun a i z => c a i (by omega)
  have hg : gM E = gM D := by
    unfold gM
    rw [c 56 17 (by decide), show E 70 = D 70 from funext fun i => c 70 i (by decide), show E 71 = D 71 from funext fun i => c 71 i (by decide)]
  have hC : ∀ a, vCount E a = vCount D a := fun a => by
    unfold vCount
    rw [hS, c 57 0 (by decide), c 57 1 (by decide), c 57 2 (by decide), c 56 17 (by decide), c 56 28 (by decide)]
  have e1 : dg1 E 8 = dg1 D 8 := hf_cg fun k _ => hC k
  have e2 : dg2 E 3 = dg2 D 3 := by
    unfold dg2
    rw [e1]
    exact hf_cg fun k _ => tF_eq (fun a i z => c a i (by omega)) k
  have e3 : ∀ n, dg3 E n = dg3 D n := fun n => by
    unfold dg3
    rw [e2, hS]
  have e4 : ∀ n, dg4 E n = dg4 D n := fun n => by
    induction n with
    | zero => rw [dg4, dg4, hS]; exact e3 _
    | succ n ih => rw [dg4, dg4, ih, hS, hg]
  have e5 : ∀ n, dg5 E n = dg5 D n := fun n => by
    induction n with
    | zero => rw [dg5, dg5, hS]; exact e4 _
    | succ n ih => rw [dg5, dg5, ih, hS, hg]
  unfold vDigest
  rw [e5, hS]
/-! ===== a call of the one, then of the other ===== -/
def ST (g g' : MI) (as : List MV) (D : HP) : Prop := ∃ Q, CT g (vR 0 :: as) D Q ∧ ∀ v E, Q v E → ∃ Q', CT g' (vR 56 :: as) E Q' ∧ ∀ v' E', Q' v' E' → v' = v ∧ RLB E'
section STS
variable {D : HP}
theorem st_cell (h : RLB D) (a : Int) : ST mX5_cell mX6_cell [vI a] D :=
  ⟨_, K_cell h.2.2.1.1 a, fun v E ⟨e1, e2⟩ => by subst e2; exact ⟨_, M_cell h.1.1 a, fun v' E' ⟨f1, f2⟩ => ⟨f1.trans e1.symm, RL_w h f2⟩⟩⟩
theorem st_gust (h : RLB D) (a b : Int) : ST mX5_gust mX6_gust [vI a, vI b] D :=
  ⟨_, K_gust h.2.2.1.1 a b, fun v E ⟨e1, e2⟩ => by subst e2; exact ⟨_, M_gust h.1.1 a b, fun v' E' ⟨f1, f2⟩ => ⟨f1.trans e1.symm, RL_w h f2⟩⟩⟩
theorem st_candidate (h : RLB D) (a b : Int) : ST mX5_candidate mX6_candidate [vI a, vI b] D :=
  ⟨_, K_candidate h.2.2.1.1 a b, fun v E ⟨e1, e2⟩ => by subst e2; exact ⟨_, M_candidate h.1.1 a b, fun v' E' ⟨f1, f2⟩ => ⟨f1.trans e1.symm, RL_w h f2⟩⟩⟩
theorem st_wind (h : RLB D) (a b : Int) : ST mX5_wind mX6_wind [vI a, vI b] D :=
  ⟨_, K_wind h.2.2.1.1 a b, fun v E ⟨e1, e2⟩ => by subst e2; exact ⟨_, M_wind h.1.1 a b, fun v' E' ⟨f1, f2⟩ => ⟨f1.trans e1.symm, RL_w h f2⟩⟩⟩
theorem st_ribs (h : RLB D) (a b : Int) : ST mX5_ribs mX6_ribs [vI a, vI b] D :=
  ⟨_, K_ribs h.2.2.1.1 a b, fun v E ⟨e1, e2⟩ => by subst e2; exact ⟨_, M_ribs h.1.1 a b, fun v' E' ⟨f1, f2⟩ => ⟨f1.trans e1.symm, RL_w h f2⟩⟩⟩
theorem st_overturns (h : RLB D) (a b : Int) : ST mX5_overturns mX6_overturns [vI a, vI b] D :=
  ⟨_, K_overturns h.2.2.1.1 a b, fun v E ⟨e1, e2⟩ => by subst e2; exact ⟨_, M_overturns h.1.1 a b, fun v' E' ⟨f1, f2⟩ => ⟨f1.trans e1.symm, RL_w h f2⟩⟩⟩
theorem st_in (h : RLB D) (a : Int) : ST mX5_in mX6_in [vI a] D :=
  ⟨_, K_in h.2.2.1.1 a, fun v E ⟨e1, e2⟩ => by subst e2; exact ⟨_, M_in h.1.1 a, fun v' E' ⟨f1, f2⟩ => ⟨f1.trans e1.symm, RL_w h f2⟩⟩⟩
theorem st_first (h : RLB D) (a : Int) : ST mX5_first mX6_first [vI a] D :=
  ⟨_, K_first h.2.2.1.1 a, fun v E ⟨e1, e2⟩ => by subst e2; exact ⟨_, M_first h.1.1 a, fun v' E' ⟨f1, f2⟩ => ⟨f1.trans e1.symm, RL_w h f2⟩⟩⟩
theorem st_lulls (h : RLB D) : ST mX5_lulls mX6_lulls [] D :=
  ⟨_, K_lulls h.2.2.1.1, fun v E ⟨e1, e2⟩ => by subst e2; exact ⟨_, M_lulls h.1.1, fun v' E' ⟨f1, f2⟩ => ⟨f1.trans e1.symm, RL_w h f2⟩⟩⟩
theorem st_count (h : RLB D) (a : Int) : ST mX5_count mX6_count [vI a] D :=
  ⟨_, K_count h.2.2.1.1 a, fun v E ⟨e1, e2⟩ => by subst e2; exact ⟨_, M_count h.1.1 a, fun v' E' ⟨f1, f2⟩ => ⟨by rw [f1, e1, RL_cnt h], RL_w h f2⟩⟩⟩
theorem st_fault (h : RLB D) (a : Int) : ST mX5_fault mX6_fault [vI a] D := by
  refine ⟨_, P_X5_fault (a := a) ⟨⟨fun _ => trivial, fun q => ?_⟩, trivial⟩, fun v E ⟨e1, e2⟩ => ?_⟩
  · rw [isTx] at q; omega
  · subst e2
    refine ⟨_, M_fault h.1.1 a, fun v' E' ⟨f1, f2⟩ => ⟨?_, RL_w h f2⟩⟩
    rw [f1, e1]
    unfold fX5_fault
    by_cases q : 0 ≤ a ∧ a ≤ 2
    · rw [if_pos q, if_neg (fun w => isTx.1 w q)]
      have := h.2.2.1.2 a.toNat (by omega)
      rw [show ((a.toNat : Nat) : Int) = a by omega] at this
      rw [this]
    · rw [if_neg q, if_pos (isTx.2 q)]
theorem q0 (h : RLB D) : QS D D (tS D) := QS_rf h.2.2.2.2.2.2.1 h.2.2.2.2.2.2.2
theorem st_stand (h : RLB D) (a b : Int) : ST mX5_stand mX6_stand [vI a, vI b] D :=
  ⟨_, K_stand h.2.2.1.1 a b, fun v E ⟨e1, e2⟩ => by
    have hE := RL_q h (QS_R (q0 h) e2)
    exact ⟨_, M_stand hE.1.1 a b, fun v' E' ⟨f1, f2⟩ => ⟨by rw [f1, e1, FQ_S e2.Q], RL_w hE f2⟩⟩⟩
theorem st_shield (h : RLB D) (a : Int) : ST mX5_shield mX6_shield [vI a] D :=
  ⟨_, K_shield h.2.2.1.1 a, fun v E ⟨e1, e2⟩ => by
    have hE := RL_q h (QS_R (q0 h) e2)
    exact ⟨_, M_shield hE.1.1 a, fun v' E' ⟨f1, f2⟩ => ⟨by rw [f1, e1, FQ_S e2.Q], RL_w hE f2⟩⟩⟩
theorem st_move (h : RLB D) (a : Int) : ST mX5_move mX6_move [vI a] D :=
  ⟨_, K_move h.2.2.1.1 a, fun v E ⟨e1, e2⟩ => by
    have hE := RL_q h (QS_R (q0 h) e2)
    exact ⟨_, M_move hE.1.1 a, fun v' E' ⟨f1, f2⟩ => ⟨by rw [f1, e1, FQ_S e2.Q], RL_w hE f2⟩⟩⟩
theorem st_bribe (h : RLB D) (a : Int) : ST mX5_bribe mX6_bribe [vI a] D :=
  ⟨_, K_bribe h.2.2.1.1 a, fun v E ⟨e1, e2⟩ => by
    have hE := RL_q h (QS_R (q0 h) e2)
    exact ⟨_, M_bribe hE.1.1 a, fun v' E' ⟨f1, f2⟩ => ⟨by rw [f1, e1, FQ_S e2.Q], RL_w hE f2⟩⟩⟩
theorem st_weather (h : RLB D) (a b c : Int) : ST mX5_weather mX6_weather [vI a, vI b, vI c] D :=
  ⟨_, K_weather h.2.2.1.1 a b c, fun v E ⟨e1, e2⟩ => by
    have hE := RL_q h (QS_R (q0 h) e2)
    exact ⟨_, M_weather hE.1.1 a b c, fun v' E' ⟨f1, f2⟩ => ⟨by rw [f1, e1, FQ_S e2.Q], RL_w hE f2⟩⟩⟩
theorem st_had (h : RLB D) (a : Int) : ST mX5_had mX6_had [vI a] D :=
  ⟨_, K_had h.2.2.1.1 (RL_SGC h) a, fun v E ⟨e1, e2⟩ => by
    have hE := RL_q h (QS_R (q0 h) e2)
    have hg := cms_g hE
    rw [e2.Q.g] at hg
    exact ⟨_, M_had hE.1.1 hE.1.2.1 a, fun v' E' ⟨f1, f2⟩ => ⟨by rw [f1, e1, FQ_S e2.Q, vHad_g hg], RL_w hE f2⟩⟩⟩
theorem st_blew (h : RLB D) (a b : Int) : ST mX5_blew mX6_blew [vI a, vI b] D :=
  ⟨_, K_blew h.2.2.1.1 (RL_SGC h) h.2.2.2.2.2.2.1 a b, fun v E ⟨e1, e2, e3⟩ => by
    have hE := RL_q h (QS_I (q0 h) e2 e3)
    have hg := cms_g hE
    rw [e3.Q.g] at hg
    exact ⟨_, M_blew hE.1.1 hE.1.2.1 a b, fun v' E' ⟨f1, f2⟩ => ⟨by rw [f1, e1, FQ_S e3.Q, vBlew_g hg], RL_w hE f2⟩⟩⟩
theorem st_ask (h : RLB D) (a : Int) : ST mX5_ask mX6_ask [vI a] D :=
  ⟨_, K_ask h.2.2.1.1 (RL_SGC h) h.2.2.2.2.2.2.1 a, fun v E ⟨e1, e2, e3⟩ => by
    have hE := RL_q h (QS_I (q0 h) e2 e3)
    have hg := cms_g hE
    rw [e3.Q.g] at hg
    exact ⟨_, M_ask hE.1.1 hE.1.2.1 a, fun v' E' ⟨f1, f2⟩ => ⟨by rw [f1, e1, FQ_S e3.Q, vAsk_g hg], RL_w hE f2⟩⟩⟩
theorem st_calm (h : RLB D) (a b c : Int) : ST mX5_calm mX6_calm [vI a, vI b, vI c] D :=
  ⟨_, K_calm h.2.2.1.1 h.2.2.2.2.2.2.2 a b c, fun v E ⟨e1, e2, e3⟩ => by
    have hE := RL_q h (QS_W (q0 h) e2 e3)
    exact ⟨_, M_calm hE.1.1 a b c, fun v' E' ⟨f1, f2⟩ => ⟨by rw [f1, e1, FQ_S e3.Q], RL_w hE f2⟩⟩⟩
theorem st_digest (h : RLB D) : ST mX5_digest mX6_digest [] D :=
  ⟨_, K_digest h.2.2.1.1 (RL_SGC h) h.2.2.2.2.2.2.1 h.2.2.2.2.2.2.2, fun v E ⟨e1, e2⟩ => by
    have hE := RL_q h e2
    have ed : vDigest E = vDigest D := dig_of fun a i z => e2.1 a i (by omega) (by omega) (by omega) (by omega) (by omega)
    exact ⟨_, M_digest hE.1.1 hE.1.2.1, fun v' E' ⟨f1, f2⟩ => ⟨by rw [f1, e1, RL_dig h, ed], RL_w hE f2⟩⟩⟩
end STS
