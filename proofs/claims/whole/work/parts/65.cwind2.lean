theorem layS_in {S : SC} {c w : Int} : 0 ≤ layS S c w ∧ layS S c w ≤ 6 := by
  unfold layS
  repeat' split
  all_goals omega
theorem cs_windo {D : HP} {o : Nat} {S : SC} (h : OKS S) (hM : CS D o S) (hV : SV D o S) {m : Nat} (hm : (m : Int) < S 0 2) (c : Int) : oX0_windOn D o m c := by
  have h1 := h.2.1
  have h2 := h.2.2.1
  have hg := h.2.2.2.2.2.1 m hm
  obtain ⟨w, hw⟩ : ∃ w : Nat, S 4 m = w := ⟨(S 4 m).toNat, by omega⟩
  unfold oX0_windOn
  refine ⟨fun _ => trivial, fun _ => ⟨fun _ => trivial, fun _ => ⟨fun _ => trivial, fun q0 => ?_⟩⟩⟩
  rw [show ((m : Int)).toNat = m by omega, (hM.2.2.1 m hm).1, (hM.2.2.1 m hm).2, hM.1.2.1, hw]
  refine ⟨fun q1 => ?_, fun _ => trivial⟩
  have hi : (((w : Int) * 25) + c).toNat = 25 * w + c.toNat := by omega
  have hv := hV w (by omega) c.toNat (by omega)
  rw [hi, hv.2]
  have hl := layS_in (S := S) (c := ((c.toNat : Nat) : Int)) (w := w)
  generalize layS S ((c.toNat : Nat) : Int) w = L at *
  generalize D (o + 3) (25 * w + c.toNat) = F
  generalize S 5 m = G at *
  refine ⟨by omega, by unfold c32; omega, by unfold c32; omega, fun _ => trivial, fun _ => ⟨fun _ => trivial, fun _ => ⟨by omega, fun _ => trivial, fun _ => ⟨by omega, by omega, ⟨fun _ => ⟨by omega, by omega⟩, fun _ => by omega⟩, ⟨fun _ => trivial, fun _ => ⟨fun _ => trivial, fun _ => ?_⟩⟩, by omega, ⟨fun _ => trivial, fun _ => ⟨fun _ => trivial, fun _ => ⟨by omega, by omega⟩⟩⟩, fun _ => trivial, fun _ => ⟨?_, trivial⟩⟩⟩⟩⟩
  · unfold c32
    split <;> omega
  · repeat' split
    all_goals omega
theorem cs_wind0 {D : HP} {o : Nat} {S : SC} (hM : CS D o S) {m c : Int} (hc : ¬ (0 ≤ c ∧ c < S 0 1)) : fX0_windOn D o m c = 0 := by
  unfold fX0_windOn
  rw [hM.1.2.1]
  repeat' split
  all_goals first | rfl | omega
