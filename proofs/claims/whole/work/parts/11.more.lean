theorem WP_fg (k : Nat) {mi : MI} {Q : Option MV → HP → Prop} {pc : Nat} {ls st ls1 : List MV} {D : HP} (h1 : ls.set k vU = ls1) (h : WP mi Q pc ls1 st D) : WP mi Q pc ls st D := by
  subst h1
  intro hl hs hD ad cA dC dI p l e s m args below meth c H lsR locs hA hG hK hP hS hL
  refine h (cVs_set hl k (show cV vU from trivial)) hs hD ad cA dC dI p l e s m args below meth c H lsR locs hA hG hK hP hS ⟨hL.1, hL.2.1, fun q hq => hL.2.2 q ?_⟩
  obtain ⟨i, v, q1, q2, q3⟩ := lvl_mem.mp hq
  refine lvl_mem.mpr ⟨i, v, ?_, q2, q3⟩
  by_cases e : k = i
  · subst e
    rw [set_some q1] at q2
    simp [vU] at q2
  · rw [List.getElem?_set, if_neg e] at q1
    exact q1
