/-! ===== a small machine over a fixed world: cells by number, whole numbers; WP says what the real machine does from a place of a method on ===== -/
abbrev MV : Type := Nat × Int
def vI (z : Int) : MV := (0, z)
def vL (z : Int) : MV := (1, z)
def vR (k : Nat) : MV := (2, (k : Int))
def vU : MV := (3, 0)
def reV (ad : Nat → Nat) (v : MV) : Value := match v.1 with
  | 0 => .int (Int32.ofInt v.2)
  | 1 => .long (Int64.ofInt v.2)
  | _ => .ref (ad v.2.toNat)
theorem reV_I (ad : Nat → Nat) (z : Int) : reV ad (vI z) = .int (Int32.ofInt z) := rfl
theorem reV_L (ad : Nat → Nat) (z : Int) : reV ad (vL z) = .long (Int64.ofInt z) := rfl
theorem reV_R (ad : Nat → Nat) (k : Nat) : reV ad (vR k) = .ref (ad k) := rfl
def w32 (z : Int) : Int := Int.bmod z 4294967296
def w64 (z : Int) : Int := Int.bmod z 18446744073709551616
def c32 (z : Int) : Prop := -2147483648 ≤ z ∧ z ≤ 2147483647
def c64 (z : Int) : Prop := -9223372036854775808 ≤ z ∧ z ≤ 9223372036854775807
theorem w32_id {z : Int} (h : c32 z) : w32 z = z := by
  obtain ⟨h1, h2⟩ := h
  exact Int.bmod_eq_of_le (by omega) (by omega)
theorem w64_id {z : Int} (h : c64 z) : w64 z = z := by
  obtain ⟨h1, h2⟩ := h
  exact Int.bmod_eq_of_le (by omega) (by omega)
theorem w32_c (z : Int) : c32 (w32 z) := by
  have h1 := Int.le_bmod (x := z) (m := 4294967296) (by decide)
  have h2 := Int.bmod_lt (x := z) (m := 4294967296) (by decide)
  unfold c32 w32
  constructor <;> omega
theorem w64_c (z : Int) : c64 (w64 z) := by
  have h1 := Int.le_bmod (x := z) (m := 18446744073709551616) (by decide)
  have h2 := Int.bmod_lt (x := z) (m := 18446744073709551616) (by decide)
  unfold c64 w64
  constructor <;> omega
theorem toInt_w32 (z : Int) : (Int32.ofInt z).toInt = w32 z := Int32.toInt_ofInt
theorem toInt_w64 (z : Int) : (Int64.ofInt z).toInt = w64 z := Int64.toInt_ofInt
theorem ofInt_toInt32 (x : Int32) : Int32.ofInt x.toInt = x := Int32.ofInt_toInt x
theorem ofInt_toInt64 (x : Int64) : Int64.ofInt x.toInt = x := Int64.ofInt_toInt x
theorem ofInt_w32 (z : Int) : Int32.ofInt (w32 z) = Int32.ofInt z := by rw [← toInt_w32, ofInt_toInt32]
theorem ofInt_w64 (z : Int) : Int64.ofInt (w64 z) = Int64.ofInt z := by rw [← toInt_w64, ofInt_toInt64]
theorem ti32 {z : Int} (h : c32 z) : (Int32.ofInt z).toInt = z := by rw [toInt_w32, w32_id h]
theorem ti64 {z : Int} (h : c64 z) : (Int64.ofInt z).toInt = z := by rw [toInt_w64, w64_id h]
theorem lt32 {a b : Int} (ha : c32 a) (hb : c32 b) : Int32.ofInt a < Int32.ofInt b ↔ a < b := by rw [Int32.lt_iff_toInt_lt, ti32 ha, ti32 hb]
theorem le32 {a b : Int} (ha : c32 a) (hb : c32 b) : Int32.ofInt a ≤ Int32.ofInt b ↔ a ≤ b := by rw [Int32.le_iff_toInt_le, ti32 ha, ti32 hb]
theorem eq32 {a b : Int} (ha : c32 a) (hb : c32 b) : Int32.ofInt a = Int32.ofInt b ↔ a = b := by rw [← Int32.toInt_inj, ti32 ha, ti32 hb]
theorem lt64 {a b : Int} (ha : c64 a) (hb : c64 b) : Int64.ofInt a < Int64.ofInt b ↔ a < b := by rw [Int64.lt_iff_toInt_lt, ti64 ha, ti64 hb]
theorem eq64 {a b : Int} (ha : c64 a) (hb : c64 b) : Int64.ofInt a = Int64.ofInt b ↔ a = b := by rw [← Int64.toInt_inj, ti64 ha, ti64 hb]
theorem add32 (a b : Int) : Int32.ofInt a + Int32.ofInt b = Int32.ofInt (a + b) := (Int32.ofInt_add a b).symm
theorem c0 : c32 0 := ⟨by decide, by decide⟩
theorem z32 : (0 : Int32) = Int32.ofInt 0 := by decide +kernel
theorem in32 {i : Int} {n : Nat} (h0 : 0 ≤ i) (h1 : i < n) (hc : c32 i) : vp_in (Int32.ofInt i) n := by
  rw [vp_in_iff, ti32 hc]
  exact ⟨h0, h1⟩
theorem cl32 {i : Int} (h0 : 0 ≤ i) (hc : c32 i) : (Int32.ofInt i).toNatClampNeg = i.toNat := by
  show (Int32.ofInt i).toInt.toNat = _
  rw [ti32 hc]
abbrev HP : Type := Nat → Nat → Int
/-- a heap with one place set -/
def hu (D : HP) (k i : Nat) (z : Int) : HP := fun a b => if a = k ∧ b = i then z else D a b
theorem hu_s (D : HP) (k i : Nat) (z : Int) : hu D k i z k i = z := by simp [hu]
theorem hu_k (D : HP) {k i a b : Nat} (z : Int) (h : a ≠ k) : hu D k i z a b = D a b := by simp [hu, h]
theorem hu_i (D : HP) {k i a b : Nat} (z : Int) (h : b ≠ i) : hu D k i z a b = D a b := by simp [hu, h]
def KC : List (Nat × Nat) := [(0, 5), (4, 3), (0, 2), (0, 2), (0, 2), (1, 39), (1, 39), (1, 39), (1, 3), (0, 0), (0, 1), (1, 25), (1, 100), (1, 100), (1, 12), (1, 12), (1, 8), (1, 8), (1, 8), (1, 25), (1, 13), (1, 104), (1, 12), (1, 12), (1, 12), (0, 0), (0, 1), (1, 25), (1, 100), (1, 100), (1, 12), (1, 12), (1, 8), (1, 8), (1, 8), (1, 25), (1, 13), (1, 104), (1, 12), (1, 12), (1, 12), (0, 4), (1, 8), (1, 8), (5, 4), (0, 3), (0, 3), (0, 3), (0, 3), (1, 60), (1, 60), (1, 60), (1, 60), (1, 108), (3, 8), (3, 13), (0, 6), (1, 3), (1, 117), (2, 26), (1, 12), (1, 12), (1, 9), (1, 9), (1, 9), (1, 104), (1, 8), (2, 8), (2, 8), (1, 12), (1, 8), (1, 8), (2, 40), (1, 480), (1, 12), (2, 4), (1, 4), (1, 4), (1, 240), (1, 60)]
def SRT : List (List Nat) := [[1, 8, 9, 25, 41, 44, 0, 0, 0, 53, 0, 54, 55], [2, 3, 4], [5], [6], [7], [], [], [], [], [10, 0, 19, 20, 21, 22, 23, 24], [0, 0, 0, 0, 11, 12, 13, 14, 15, 16, 17, 18], [], [], [], [], [], [], [], [], [], [], [], [], [], [], [26, 0, 35, 36, 37, 38, 39, 40], [0, 0, 0, 0, 27, 28, 29, 30, 31, 32, 33, 34], [], [], [], [], [], [], [], [], [], [], [], [], [], [], [0, 42, 43], [], [], [45, 46, 47, 48], [0, 0, 49], [0, 0, 50], [0, 0, 51], [0, 0, 52], [], [], [], [], [], [], [], [57, 58, 0, 0, 59, 0, 60, 61, 0, 62, 63, 64, 65, 66, 67, 68, 69, 0, 70, 71, 72, 73, 74, 75, 76, 77, 78, 79], [], [], [], [], [], [], [], [], [], [], [], [], [], [], [], [], [], [], [], [], [], [], []]
def FKT : List (List Nat) := [[2, 0, 2, 2, 2, 2, 2, 2], [0, 0, 0, 0, 2, 2, 2, 2, 2, 2, 2, 2], [2, 0, 0], [0, 0, 2], [0, 2, 2], [2, 2, 2, 2, 2, 2, 0, 0, 1, 2, 0, 2, 2], [2, 2, 0, 0, 2, 0, 2, 2, 0, 2, 2, 2, 2, 2, 2, 2, 2, 0, 2, 2, 2, 2, 2, 2, 2, 2, 2, 2, 0]]
/-! the world -/
def kc (k : Nat) : Nat × Nat := KC.getD k (9, 0)
def sr (k i : Nat) : Nat := (SRT.getD k []).getD i 0
def fk (ci i : Nat) : Nat := (FKT.getD ci []).getD i 9
def nf (ci : Nat) : Nat := (FKT.getD ci []).length
def fV (ad : Nat → Nat) (D : HP) (k ci i : Nat) : Value := match fk ci i with
  | 0 => .int (Int32.ofInt (D k i))
  | 1 => .long (Int64.ofInt (D k i))
  | _ => .ref (ad (sr k i))
def cellOf (ad : Nat → Nat) (cA : Nat → ClassId) (D : HP) (k : Nat) : va_E := match (kc k).1 with
  | 0 => .inr ((kc k).2, (List.range (nf (kc k).2)).map (fV ad D k (kc k).2))
  | 1 => .inl (cA 1, (kc k).2, .inl (fun j => Int32.ofInt (D k j)))
  | 2 => .inl (cA 2, (kc k).2, .inl (fun j => Int32.ofInt (D k j)))
  | 3 => .inl (cA 3, (kc k).2, .inr (.inl (fun j => Int64.ofInt (D k j))))
  | 4 => .inl (cA 4, (kc k).2, .inr (.inr (.inr (.inr (fun j => some (ad (sr k j)))))))
  | _ => .inl (cA 5, (kc k).2, .inr (.inr (.inr (.inr (fun j => some (ad (sr k j)))))))
def tysOf (cA : Nat → ClassId) : List (ClassId × FieldType) := [(cA 1, .int), (cA 2, .boolean), (cA 3, .long), (cA 4, .object RX2), (cA 5, .object RX3)]
def WD (ad : Nat → Nat) (cA : Nat → ClassId) (D : HP) : va_W := (List.range 80).map (fun k => (ad k, cellOf ad cA D k))
theorem WD_at (ad : Nat → Nat) (cA : Nat → ClassId) (D : HP) {k : Nat} (h : k < 80) : (WD ad cA D)[k]? = some (ad k, cellOf ad cA D k) := by simp [WD, h]
def GA (ad : Nat → Nat) : Prop := ∀ i j, i < 80 → j < 80 → ad i = ad j → i = j
def AW (ad : Nat → Nat) : Nat → Prop := fun q => ∃ k, k < 80 ∧ q = ad k
theorem WD_D {ad : Nat → Nat} {cA : Nat → ClassId} {D : HP} (h : GA ad) : va_D (AW ad) (WD ad cA D) := by
  refine ⟨fun i j p q hi hj hpq => ?_, fun k q hk => ?_⟩
  · by_cases i1 : i < 80
    · by_cases j1 : j < 80
      · rw [WD_at _ _ _ i1] at hi
        rw [WD_at _ _ _ j1] at hj
        cases hi; cases hj
        exact h i j i1 j1 hpq
      · simp [WD, j1] at hj
    · simp [WD, i1] at hi
  · by_cases k1 : k < 80
    · rw [WD_at _ _ _ k1] at hk
      cases hk
      exact ⟨k, k1, rfl⟩
    · simp [WD, k1] at hk
theorem kc_lt {k a b : Nat} (h : kc k = (a, b)) (ha : a < 9) : k < 80 := by
  rcases Nat.lt_or_ge k 80 with q | q
  · exact q
  · exfalso
    have : KC[k]? = none := by rw [List.getElem?_eq_none_iff]; exact q
    simp [kc, List.getD, this] at h
    omega
/-- two worlds that differ in one cell -/
theorem WD_set {ad : Nat → Nat} {cA : Nat → ClassId} {D D' : HP} {k : Nat} (hk : k < 80) {e : va_E} (he : cellOf ad cA D' k = e) (ho : ∀ a, a ≠ k → cellOf ad cA D' a = cellOf ad cA D a) : (WD ad cA D).set k (ad k, e) = WD ad cA D' := by
  refine List.ext_getElem? fun i => ?_
  rw [List.getElem?_set]
  by_cases hi : k = i
  · subst hi
    rw [if_pos rfl, WD_at _ _ _ hk, he]
    simp [WD, hk]
  · rw [if_neg hi]
    by_cases h1 : i < 80
    · rw [WD_at _ _ _ h1, WD_at _ _ _ h1, ho i (fun q => hi q.symm)]
    · simp [WD, h1]
theorem cellOf_ne {ad : Nat → Nat} {cA : Nat → ClassId} {D : HP} {k i a : Nat} {z : Int} (h : a ≠ k) : cellOf ad cA (hu D k i z) a = cellOf ad cA D a := by
  have h1 : ∀ j, hu D k i z a j = D a j := fun j => hu_k D z h
  have h2 : ∀ c j, fV ad (hu D k i z) a c j = fV ad D a c j := fun c j => by unfold fV; rw [h1]
  unfold cellOf
  rw [show (fun j => Int32.ofInt (hu D k i z a j)) = (fun j => Int32.ofInt (D a j)) from funext fun j => by rw [h1], show (fun j => Int64.ofInt (hu D k i z a j)) = (fun j => Int64.ofInt (D a j)) from funext fun j => by rw [h1], show fV ad (hu D k i z) a (kc a).2 = fV ad D a (kc a).2 from funext fun j => h2 _ j]
/-! values in range -/
def isL (k i : Nat) : Bool := (kc k).1 == 3 || ((kc k).1 == 0 && fk (kc k).2 i == 1)
def cB (b : Bool) (z : Int) : Prop := match b with | true => c64 z | false => c32 z
def cD (D : HP) : Prop := ∀ k i, cB (isL k i) (D k i)
def cV (v : MV) : Prop := match v.1 with | 0 => c32 v.2 | 1 => c64 v.2 | _ => True
def cVs (l : List MV) : Prop := ∀ v ∈ l, cV v
theorem cD_i {D : HP} (h : cD D) {k i : Nat} (hl : isL k i = false) : c32 (D k i) := by have := h k i; rw [hl] at this; exact this
theorem cD_l {D : HP} (h : cD D) {k i : Nat} (hl : isL k i = true) : c64 (D k i) := by have := h k i; rw [hl] at this; exact this
theorem cD_u {D : HP} (h : cD D) {k i : Nat} {z : Int} (hz : cB (isL k i) z) : cD (hu D k i z) := by
  intro a b
  unfold hu
  by_cases q : a = k ∧ b = i
  · rw [if_pos q, q.1, q.2]; exact hz
  · rw [if_neg q]; exact h a b
theorem cVs_nil : cVs [] := fun _ h => by cases h
theorem cVs_c {v : MV} {l : List MV} (h : cV v) (hl : cVs l) : cVs (v :: l) := fun w hw => (List.mem_cons.mp hw).elim (fun e => e ▸ h) (hl w)
theorem cVs_h {v : MV} {l : List MV} (h : cVs (v :: l)) : cV v := h v List.mem_cons_self
theorem cVs_t {v : MV} {l : List MV} (h : cVs (v :: l)) : cVs l := fun w hw => h w (List.mem_cons_of_mem _ hw)
theorem cVs_g {l : List MV} (h : cVs l) {i : Nat} {v : MV} (hi : l[i]? = some v) : cV v := h v (List.mem_of_getElem? hi)
theorem cVs_set {l : List MV} (h : cVs l) (i : Nat) {v : MV} (hv : cV v) : cVs (l.set i v) := fun w hw => by
  rcases List.mem_or_eq_of_mem_set hw with q | q
  · exact h w q
  · rw [q]; exact hv
theorem cVs_app {a b : List MV} (ha : cVs a) (hb : cVs b) : cVs (a ++ b) := fun w hw => (List.mem_append.mp hw).elim (ha w) (hb w)
/-! locals -/
def lvl (ad : Nat → Nat) : List MV → Nat → List (Nat × Value)
  | [], _ => []
  | v :: t, i => if v.1 < 3 then (i, reV ad v) :: lvl ad t (i + 1) else lvl ad t (i + 1)
theorem lvl_mem {ad : Nat → Nat} : ∀ {ls : List MV} {o : Nat} {q : Nat × Value}, q ∈ lvl ad ls o ↔ ∃ i v, ls[i]? = some v ∧ v.1 < 3 ∧ q = (o + i, reV ad v)
  | [], o, q => by simp [lvl]
  | v :: t, o, q => by
    have ih := @lvl_mem ad t (o + 1) q
    constructor
    · intro h
      unfold lvl at h
      split at h
      · rename_i hv
        rcases List.mem_cons.mp h with rfl | h
        · exact ⟨0, v, rfl, hv, rfl⟩
        · obtain ⟨i, w, h1, h2, h3⟩ := ih.mp h
          exact ⟨i + 1, w, h1, h2, by rw [h3]; congr 1; omega⟩
      · obtain ⟨i, w, h1, h2, h3⟩ := ih.mp h
        exact ⟨i + 1, w, h1, h2, by rw [h3]; congr 1; omega⟩
    · rintro ⟨i, w, h1, h2, h3⟩
      unfold lvl
      cases i with
      | zero =>
        have : v = w := by simpa using h1
        subst this
        rw [if_pos h2, h3]
        exact List.mem_cons_self
      | succ i =>
        have h4 : q ∈ lvl ad t (o + 1) := ih.mpr ⟨i, w, by simpa using h1, h2, by rw [h3]; congr 1; omega⟩
        split
        · exact List.mem_cons_of_mem _ h4
        · exact h4
def LR (ad : Nat → Nat) (n : Nat) (ls : List MV) (lsR : Array Slot) : Prop := lv_has lsR n (lvl ad ls 0)
theorem LR_at {ad : Nat → Nat} {n : Nat} {ls : List MV} {lsR : Array Slot} (h : LR ad n ls lsR) {i : Nat} {v : MV} (hi : ls[i]? = some v) (hv : v.1 < 3) : lsR[i]? = some (.val (reV ad v)) :=
  h.2.2 (i, reV ad v) (lvl_mem.mpr ⟨i, v, hi, hv, by rw [Nat.zero_add]⟩)
theorem reV_cat {ad : Nat → Nat} {v : MV} : (reV ad v).category = if v.1 = 1 then 2 else 1 := by
  obtain ⟨t, z⟩ := v
  match t with
  | 0 => rfl
  | 1 => rfl
  | t + 2 => rfl
/-- a store: what a long's half leaves is cleared -/
def st1 (ls : List MV) (i : Nat) (v : MV) : List MV := (match i with | 0 => ls | j + 1 => if (ls.getD j vU).1 = 1 then ls.set j vU else ls).set i v
def st2 (ls : List MV) (i : Nat) (v : MV) : List MV := ((match i with | 0 => ls | j + 1 => if (ls.getD j vU).1 = 1 then ls.set j vU else ls).set i v).set (i + 1) vU
theorem set_some {l : List MV} {i : Nat} {v w : MV} (h : (l.set i v)[i]? = some w) : w = v := by
  rw [List.getElem?_set] at h
  by_cases q : i < l.length
  · simp [q] at h; exact h.symm
  · simp [q] at h
theorem LR_st1 {ad : Nat → Nat} {n : Nat} {ls : List MV} {lsR : Array Slot} {i : Nat} {v : MV} (h : lv_has lsR n ((i, reV ad v) :: (lvl ad ls 0).filter (fun q => !(q.1 == i) && !(q.1 + 1 == i && q.2.category == 2)))) : LR ad n (st1 ls i v) lsR := by
  refine ⟨h.1, h.2.1, fun q hq => ?_⟩
  obtain ⟨j, w, h1, h2, h3⟩ := lvl_mem.mp hq
  rw [Nat.zero_add] at h3
  subst h3
  refine h.2.2 _ ?_
  by_cases e : j = i
  · subst e
    unfold st1 at h1
    rw [set_some h1]; exact List.mem_cons_self
  · refine List.mem_cons_of_mem _ (List.mem_filter.mpr ⟨?_, ?_⟩)
    · unfold st1 at h1
      rw [List.getElem?_set, if_neg (fun q => e q.symm)] at h1
      refine lvl_mem.mpr ⟨j, w, ?_, h2, by rw [Nat.zero_add]⟩
      cases i with
      | zero => exact h1
      | succ k =>
        dsimp only at h1
        split at h1
        · rw [List.getElem?_set] at h1
          split at h1
          · split at h1
            · cases h1; simp [vU] at h2
            · cases h1
          · exact h1
        · exact h1
    · simp only [Bool.and_eq_true, Bool.not_eq_true', beq_eq_false_iff_ne, ne_eq, Bool.and_eq_false_iff]
      refine ⟨e, ?_⟩
      by_cases e2 : j + 1 = i
      · right
        subst e2
        unfold st1 at h1
        rw [List.getElem?_set, if_neg (by omega)] at h1
        dsimp only at h1
        rw [reV_cat]
        split at h1
        · rename_i hc
          rw [List.getElem?_set] at h1
          simp only [if_true] at h1
          split at h1
          · cases h1; simp [vU] at h2
          · cases h1
        · rename_i hc
          simp only [List.getD, h1, Option.getD_some] at hc
          rw [if_neg hc]
          decide
      · left; exact e2
theorem LR_st2 {ad : Nat → Nat} {n : Nat} {ls : List MV} {lsR : Array Slot} {i : Nat} {v : MV} (h : lv_has lsR n ((i, reV ad v) :: (lvl ad ls 0).filter (fun q => !(q.1 == i) && (!(q.1 == i + 1) && !(q.1 + 1 == i && q.2.category == 2))))) : LR ad n (st2 ls i v) lsR := by
  refine ⟨h.1, h.2.1, fun q hq => ?_⟩
  obtain ⟨j, w, h1, h2, h3⟩ := lvl_mem.mp hq
  rw [Nat.zero_add] at h3
  subst h3
  refine h.2.2 _ ?_
  unfold st2 at h1
  by_cases e3 : i + 1 = j
  · rw [← e3] at h1
    rw [set_some h1] at h2; simp [vU] at h2
  rw [List.getElem?_set, if_neg e3] at h1
  by_cases e : j = i
  · subst e
    rw [set_some h1]; exact List.mem_cons_self
  · refine List.mem_cons_of_mem _ (List.mem_filter.mpr ⟨?_, ?_⟩)
    · rw [List.getElem?_set, if_neg (fun q => e q.symm)] at h1
      refine lvl_mem.mpr ⟨j, w, ?_, h2, by rw [Nat.zero_add]⟩
      cases i with
      | zero => exact h1
      | succ k =>
        dsimp only at h1
        split at h1
        · rw [List.getElem?_set] at h1
          split at h1
          · split at h1
            · cases h1; simp [vU] at h2
            · cases h1
          · exact h1
        · exact h1
    · simp only [Bool.and_eq_true, Bool.not_eq_true', beq_eq_false_iff_ne, ne_eq, Bool.and_eq_false_iff]
      refine ⟨e, fun q => e3 q.symm, ?_⟩
      by_cases e2 : j + 1 = i
      · right
        subst e2
        rw [List.getElem?_set, if_neg (by omega)] at h1
        dsimp only at h1
        rw [reV_cat]
        split at h1
        · rename_i hc
          rw [List.getElem?_set] at h1
          simp only [if_true] at h1
          split at h1
          · cases h1; simp [vU] at h2
          · cases h1
        · rename_i hc
          simp only [List.getD, h1, Option.getD_some] at hc
          rw [if_neg hc]
          decide
      · left; exact e2
theorem cVs_st1 {ls : List MV} (h : cVs ls) (i : Nat) {v : MV} (hv : cV v) : cVs (st1 ls i v) := by
  unfold st1
  cases i with
  | zero => exact cVs_set h _ hv
  | succ j =>
    dsimp only
    split
    · exact cVs_set (cVs_set h _ (show cV vU from trivial)) _ hv
    · exact cVs_set h _ hv
theorem cVs_st2 {ls : List MV} (h : cVs ls) (i : Nat) {v : MV} (hv : cV v) : cVs (st2 ls i v) := by
  unfold st2
  cases i with
  | zero => exact cVs_set (cVs_set h _ hv) _ (show cV vU from trivial)
  | succ j =>
    dsimp only
    split
    · exact cVs_set (cVs_set (cVs_set h _ (show cV vU from trivial)) _ hv) _ (show cV vU from trivial)
    · exact cVs_set (cVs_set h _ hv) _ (show cV vU from trivial)
/-! methods -/
/-- name, bytes, locals, answer, frames below, words below -/
abbrev MI : Type := MethodName × ByteArray × Nat × Option FieldType × Nat × Nat
def rmO (mi : MI) : Room := { frames := mi.2.2.2.2.1, cells := 0, slots := 0, locals := mi.2.2.2.2.2 }
def wsO (mi : MI) : List Cond := Cond.code mi.1 mi.2.1 mi.2.2.1 mi.2.2.2.1 :: wsL_law
def okR (ret : Option FieldType) (r : Option MV) : Prop := match ret with
  | none => r = none
  | some .long => ∃ z, r = some (vL z) ∧ c64 z
  | some _ => ∃ z, r = some (vI z) ∧ c32 z
def QX (ret : Option FieldType) (Q : Option MV → HP → Prop) (ad : Nat → Nat) (cA : Nat → ClassId) (dC : Nat → ClassId) (dI : Nat → Nat → Nat) : Array Value → State → Outcome → State → Prop := fun _ st o t =>
  (∃ (r : Option MV) (D' : HP), o = .returned (r.map (reV ad)) ∧ okR ret r ∧ cD D' ∧ Q r D' ∧ va_P (dC, dI) vwCl (WD ad cA D') t.heap) ∧ va_F (AW ad) st t
def PX (ad : Nat → Nat) (cA : Nat → ClassId) (dC : Nat → ClassId) (dI : Nat → Nat → Nat) (as : List MV) (D : HP) : Array Value → State → Prop := va_Pc (as.map (reV ad)) (fun U => va_P (dC, dI) vwCl (WD ad cA D) U.heap ∧ va_K (dC, dI) vwCl (tysOf cA) U)
/-- what holds in a method's frame -/
def GX (mi : MI) (p : Program) (s : State) (m : MethodId) (args : Array Value) (meth : Method) (c : Code) : Prop :=
  p.tables.exec = Jvm.exec ∧ c.code = mi.2.1 ∧ meth.sig.returnType = mi.2.2.2.1 ∧ (∀ w ∈ wsL_law, w.before args s = true) ∧ s.vm.findClass mi.1.cls = some m.cls ∧ meth.locks = false ∧ c.maxLocals = mi.2.2.1
def WP (mi : MI) (Q : Option MV → HP → Prop) (pc : Nat) (ls st : List MV) (D : HP) : Prop :=
  cVs ls → cVs st → cD D → ∀ (ad : Nat → Nat) (cA : Nat → ClassId) (dC : Nat → ClassId) (dI : Nat → Nat → Nat) (p : Program) (l : Launch) (e : Env) (s : State) (m : MethodId) (args : Array Value) (below : List Frame) (meth : Method) (c : Code) (H : Heap) (lsR : Array Slot) (locs : List Loc),
    GA ad → GX mi p s m args meth c → va_K (dC, dI) vwCl (tysOf cA) s → va_P (dC, dI) vwCl (WD ad cA D) H → va_S (AW ad) s.heap H locs → LR ad mi.2.2.1 ls lsR →
    W p l e (rmO mi) s m args below meth c H locs 0 0 (MQ below (QX mi.2.2.2.1 Q ad cA dC dI) args s 0 0 (AW ad)) (F0 m pc lsR (st.map (reV ad)))
def CT (mi : MI) (as : List MV) (D : HP) (Q : Option MV → HP → Prop) : Prop := cVs as → cD D → ∀ (l : Launch) (ad : Nat → Nat) (cA : Nat → ClassId) (dC : Nat → ClassId) (dI : Nat → Nat → Nat), GA ad →
  Met l mi.1 (wsO mi) (rmO mi) (PX ad cA dC dI as D) (QX mi.2.2.2.1 Q ad cA dC dI) 0 0 (AW ad)
def entL (n : Nat) (as : List MV) : List MV := as.flatMap (fun v => if v.1 = 1 then [v, vU] else [v]) ++ List.replicate n vU
theorem entL_mem {ad : Nat → Nat} (n : Nat) : ∀ (as : List MV) (o : Nat), ∀ q ∈ lvl ad (entL n as) o, q ∈ lv_args o (as.map (reV ad))
  | [], o, q, h => by
    obtain ⟨i, v, h1, h2, h3⟩ := lvl_mem.mp h
    simp only [entL, List.flatMap_nil, List.nil_append] at h1
    have := List.eq_of_mem_replicate (List.mem_of_getElem? h1)
    subst this
    simp [vU] at h2
  | v :: t, o, q, h => by
    have ih := entL_mem (ad := ad) n t
    unfold entL at h ih
    simp only [List.flatMap_cons, List.append_assoc] at h
    show q ∈ (o, reV ad v) :: lv_args _ (t.map (reV ad))
    rw [reV_cat]
    by_cases hv : v.1 = 1
    · rw [if_pos hv] at h
      rw [if_pos hv, if_pos rfl]
      simp only [List.cons_append, List.nil_append] at h
      unfold lvl at h
      rw [if_pos (by omega)] at h
      rcases List.mem_cons.mp h with h | h
      · rw [h]; exact List.mem_cons_self
      · unfold lvl at h
        rw [if_neg (by simp [vU])] at h
        exact List.mem_cons_of_mem _ (ih _ q h)
    · rw [if_neg hv] at h
      rw [if_neg hv, if_neg (by decide)]
      simp only [List.cons_append, List.nil_append] at h
      unfold lvl at h
      split at h
      · rcases List.mem_cons.mp h with h | h
        · rw [h]; exact List.mem_cons_self
        · exact List.mem_cons_of_mem _ (ih _ q h)
      · exact List.mem_cons_of_mem _ (ih _ q h)
theorem LR_entL {ad : Nat → Nat} {n k : Nat} {as : List MV} {lsR : Array Slot} (h : lv_has lsR k (lv_args 0 (as.map (reV ad)))) : LR ad k (entL n as) lsR := ⟨h.1, h.2.1, fun q hq => h.2.2 q (entL_mem n as 0 q hq)⟩
theorem cVs_entL {n : Nat} {as : List MV} (h : cVs as) : cVs (entL n as) := by
  refine cVs_app (fun w hw => ?_) (fun w hw => ?_)
  · obtain ⟨v, hv, hw⟩ := List.mem_flatMap.mp hw
    split at hw
    · rcases List.mem_cons.mp hw with q | q
      · rw [q]; exact h v hv
      · rw [List.mem_singleton.mp q]; trivial
    · rw [List.mem_singleton.mp hw]; exact h v hv
  · rw [List.eq_of_mem_replicate hw]; trivial
theorem CT.of {mi : MI} {as : List MV} {D : HP} {Q : Option MV → HP → Prop} (n : Nat) (hy : plainName mi.1.cls = true) (hn : (lg_sl (as.map (reV (fun k => k)))).length ≤ mi.2.2.1) (h : WP mi Q 0 (entL n as) [] D) : CT mi as D Q := by
  intro ha hD l ad cA dC dI hA
  refine Met.ofW (cc := mi.2.1) (maxL := mi.2.2.1) (ret := mi.2.2.2.1) hy rfl ?_
  intro p e s m args below meth c s₁ B hml hv
  obtain ⟨rfl, hP, hK⟩ := hv
  have hts := atoms_spec (ws := wsO mi) B.pre
  have hown : s.vm.findClass mi.1.cls = some m.cls := findClass_of_methodNamed B.named
  have hlen : (lg_sl (as.map (reV ad))).length ≤ mi.2.2.1 := by
    have e : ∀ f g : Nat → Nat, (lg_sl (as.map (reV f))).length = (lg_sl (as.map (reV g))).length := by
      intro f g
      simp only [lg_sl, List.length_flatMap, List.map_map]
      congr 1
      refine List.map_congr_left fun v _ => ?_
      simp only [Function.comp, reV_cat]
      split <;> simp
    rw [e ad (fun k => k)]
    exact hn
  have hl := lv_entry (as.map (reV ad)) hlen
  rw [lg_entry_eq]
  exact h (cVs_entL ha) cVs_nil hD ad cA dC dI p l e s m _ below meth c s.heap _ [] hA ⟨B.exec, B.bytes, B.returns, fun w hw => hts w (List.mem_cons_of_mem _ hw), hown, B.notSynchronized, hml⟩ hK hP va_S.rf (LR_entL hl)
