/-- the model's sheet s with its first n items written -/
def wrM (E : HP) (s n : Nat) (f : Int) (g : Nat → Int) : HP := fun x y => if x = 78 ∧ 60 * s ≤ y ∧ y < 60 * s + n then nrw f (g (y - 60 * s)) else E x y
def mnW (a b : Int) : Int := if a ≤ b then a else b
set_option maxHeartbeats 4000000 in
theorem M_write {D : HP} (hT : TXM D) (hS : SHM D) (a s : Int) : CT mX6_write [vR 56, vI a, vI s] D (fun v E => if (0 ≤ a ∧ a < tS D 0 2) ∧ 0 ≤ s ∧ s ≤ 3 then (if D 75 s.toNat = 0 then v = some (vI (-11)) ∧ ∃ E0, FRw D E0 ∧ E = fnd E0 1 else v = some (vI (mnW (D 77 s.toNat) (tS D 0 1))) ∧ ∃ E0, FRw D E0 ∧ E = wrM E0 s.toNat (mnW (D 77 s.toNat) (tS D 0 1)).toNat (D 76 s.toNat) (fun c => wnd (tS D) (tu (tS D) a.toNat) a.toNat c)) else v = some (vI (-2)) ∧ FRw D E) := by
  have hok := tS_ok hT
  have hcl := hok.2.1
  have h2 := hok.2.2.1
  refine V_X6_write a s (I39 := fun x1 x2 x3 E => x1 = a ∧ x2 = s ∧ (0 ≤ a ∧ a < tS D 0 2) ∧ (0 ≤ s ∧ s ≤ 3) ∧ D 75 s.toNat ≠ 0 ∧ ∃ E0, FRw D E0 ∧ MS E0 (tS D) ∧ RM E0 (tS D) ∧ ∃ j : Nat, x3 = j ∧ (j : Int) ≤ mnW (D 77 s.toNat) (tS D 0 1) ∧ E = wrM E0 s.toNat j (D 76 s.toNat) (fun c => wnd (tS D) (tu (tS D) a.toNat) a.toNat c)) (u39 := fun _ _ x3 _ => (25 - x3).toNat) (fun _ _ _ => ⟨_, C_isMinute hT a, ?_⟩) ?_
  · rintro r E ⟨hr, hM, hF⟩ _ _
    have hr := vIj hr
    subst hr
    by_cases q : 0 ≤ a ∧ a < tS D 0 2
    · rw [if_pos q]
      have e75 : ∀ i, E 75 i = D 75 i := fun i => hF 75 i (by decide) (Or.inl (by decide))
      refine ⟨fun z => absurd z (by decide), fun _ => ⟨fun h => ?_, fun h => ⟨?_, fun h0 => ⟨_, C_meets E (a := 1) (by decide), ?_⟩, fun h0 => ⟨_, C_runsTold (hF.TX hT), ?_⟩⟩⟩⟩
      · unfold fX6_isSheet at h
        rw [wi1] at h
        rw [if_neg (fun y => h y.2)]; exact ⟨rfl, hF⟩
      · unfold fX6_isSheet at h
        rw [wi1] at h
        omega
      · unfold fX6_isSheet at h
        rw [wi1] at h
        have h := Decidable.of_not_not h
        rw [e75] at h0
        rintro r G ⟨hr, hG⟩ _ _
        rw [if_pos ⟨q, h⟩, if_pos h0]
        exact ⟨hr, E, hF, hG⟩
      · unfold fX6_isSheet at h
        rw [wi1] at h
        have h := Decidable.of_not_not h
        rw [e75] at h0
        have hs := (hS s.toNat (by omega)).2.2
        rw [hF.S]
        rintro G ⟨-, hR, hMG, hFG⟩ _
        refine ⟨rfl, rfl, q, h, h0, G, hF.tr hFG, hMG, hR, 0, rfl, by unfold mnW; split <;> omega, ?_⟩
        funext x y
        unfold wrM
        rw [if_neg (by omega)]
    · rw [if_neg q]
      exact ⟨fun _ => by rw [if_neg (fun y => q y.1)]; exact ⟨rfl, hF⟩, fun z => absurd rfl z⟩
  · rintro x1 x2 x3 E ⟨rfl, rfl, hq, hs3, h75, E0, hF, hM, hR, j, rfl, hj, hE⟩ hcD _ _ _
    have hs := hS x2.toNat (by omega)
    have k : ∀ a i, a ≠ 78 → E a i = E0 a i := fun a i h => by rw [hE]; unfold wrM; rw [if_neg (fun q => h q.1)]
    have hME : MS E (tS D) := MS_of hM (fun a i h => k a i (by omega))
    have hRE : RM E (tS D) := RM_of hR (fun a i h => k a i (by omega))
    have e77 : E 77 x2.toNat = D 77 x2.toNat := (k 77 _ (by decide)).trans (hF 77 _ (by decide) (Or.inl (by decide)))
    have e76 : E 76 x2.toNat = D 76 x2.toNat := (k 76 _ (by decide)).trans (hF 76 _ (by decide) (Or.inl (by decide)))
    have fin : (j : Int) = mnW (D 77 x2.toNat) (tS D 0 1) → (if (0 ≤ x1 ∧ x1 < tS D 0 2) ∧ 0 ≤ x2 ∧ x2 ≤ 3 then (if D 75 x2.toNat = 0 then some (vI (j : Int)) = some (vI (-11)) ∧ ∃ E0, FRw D E0 ∧ E = fnd E0 1 else some (vI (j : Int)) = some (vI (mnW (D 77 x2.toNat) (tS D 0 1))) ∧ ∃ E0, FRw D E0 ∧ E = wrM E0 x2.toNat (mnW (D 77 x2.toNat) (tS D 0 1)).toNat (D 76 x2.toNat) (fun c => wnd (tS D) (tu (tS D) x1.toNat) x1.toNat c)) else some (vI (j : Int)) = some (vI (-2)) ∧ FRw D E) := fun e => by
      rw [if_pos ⟨hq, hs3⟩, if_neg h75]
      refine ⟨by rw [e], E0, hF, ?_⟩
      rw [← e, Int.toNat_natCast]
      exact hE
    rw [e77, hME.1.2.1]
    have hmn : mnW (D 77 x2.toNat) (tS D 0 1) ≤ D 77 x2.toNat ∧ mnW (D 77 x2.toNat) (tS D 0 1) ≤ tS D 0 1 ∧ (mnW (D 77 x2.toNat) (tS D 0 1) = D 77 x2.toNat ∨ mnW (D 77 x2.toNat) (tS D 0 1) = tS D 0 1) := by unfold mnW; split <;> omega
    refine ⟨by omega, fun hc => fin (by omega), fun hc => ⟨fun hc2 => fin (by omega), fun hc2 => ?_⟩⟩
    have ea : ((x1.toNat : Nat) : Int) = x1 := by omega
    have hw := windM hME hok (m := x1.toNat) (c := j) (by omega) (by omega) (by omega)
    have hwo := windMo hME hok (m := x1.toNat) (c := j) (by omega) (by omega) (by omega)
    rw [ea] at hw hwo
    have hwv : fX6_windNow E x1 j = wnd (tS D) (tu (tS D) x1.toNat) x1.toNat j := by
      rw [hw, ← wnd_late (M := (tS D 0 2).toNat) (by omega) j, wnd_congr (t' := tu (tS D) (tS D 0 2).toNat) (fun i hi => by rw [hRE.1 i hi]; exact Iff.rfl)]
    rw [hwv]
    refine ⟨hwo, _, C_keep (D := E) (a := x2) (b := j) hs3 (by omega) _, ?_⟩
    rintro F ⟨-, hF1⟩ _
    rw [e76, Int.toNat_natCast] at hF1
    refine ⟨by unfold c32; omega, ⟨rfl, rfl, hq, hs3, h75, E0, hF, hM, hR, j + 1, by omega, by omega, ?_⟩, by omega⟩
    rw [hF1]
    funext x y
    by_cases q : x = 78 ∧ y = 60 * x2.toNat + j
    · rw [q.1, q.2, hu_s]
      unfold wrM
      rw [if_pos (by omega), show 60 * x2.toNat + j - 60 * x2.toNat = j by omega]
    · rw [show hu E 78 (60 * x2.toNat + j) (nrw (D 76 x2.toNat) (wnd (tS D) (tu (tS D) x1.toNat) x1.toNat j)) x y = E x y from if_neg q, hE]
      unfold wrM
      by_cases z : x = 78 ∧ 60 * x2.toNat ≤ y ∧ y < 60 * x2.toNat + j
      · rw [if_pos z, if_pos (by omega)]
      · rw [if_neg z, if_neg (by omega)]
