/-! ===== what both programs reckon: a scene S (row 0: columns, cells, minutes, candidates; 1 walls; 4 from; 5 force; 6 at; 7 ribs; 8 held) ===== -/
abbrev SC : Type := Nat → Nat → Int
def bes (S : SC) (c w : Int) : Int :=
  if w = 0 then (if 0 ≤ c - S 0 0 ∧ c - S 0 0 < S 0 1 then c - S 0 0 else -1)
  else if w = 1 then (if c % S 0 0 < S 0 0 - 1 ∧ c + 1 < S 0 1 then c + 1 else -1)
  else if w = 2 then (if c + S 0 0 < S 0 1 then c + S 0 0 else -1)
  else (if 0 < c % S 0 0 then c - 1 else -1)
def wal (S : SC) (c : Int) : Bool := decide (c ≠ -1 ∧ S 1 c.toNat ≠ 0)
def leeS (S : SC) (t : Nat → Int) (m c : Int) : Bool := exB (fun k => decide (c ≠ -1 ∧ S 6 k = c ∧ S 1 c.toNat = 0 ∧ (t k = -1 ∨ m ≤ t k))) (S 0 3).toNat
/-- the wind ahead of who shields -/
def wst (S : SC) (m : Nat) (c : Int) : Int :=
  if wal S c = true ∨ wal S (bes S c (S 4 m)) = true then 0
  else if bes S c (S 4 m) ≠ -1 ∧ wal S (bes S (bes S c (S 4 m)) (S 4 m)) = true then S 5 m / 2 else S 5 m
def wbs (S : SC) (m : Nat) (c : Int) : Int := if 0 < wst S m c ∧ wal S (bes S c ((S 4 m + 1) % 4)) = true ∧ wal S (bes S c ((S 4 m + 3) % 4)) = true then wst S m c + 3 else wst S m c
def wnd (S : SC) (t : Nat → Int) (m : Nat) (c : Int) : Int := if leeS S t m (bes S c (S 4 m)) = true then wbs S m c / 2 else wbs S m c
def som (S : SC) (k : Nat) : Bool := decide (S 6 k < S 0 1 ∧ S 1 (S 6 k).toNat = 0)
def stn (S : SC) (k : Nat) (w : Int) : Int := if S 8 k = 0 then w / 2 else if S 8 k = 1 then w else 2 * w
/-- ribs and the minute of turning, as they are ahead of a minute -/
def rt (S : SC) : Nat → (Nat → Int) × (Nat → Int)
  | 0 => (fun k => S 7 k, fun _ => -1)
  | m + 1 => (fun k => if som S k = true ∧ (rt S m).2 k = -1 ∧ stn S k (wnd S (rt S m).2 m (S 6 k)) = (rt S m).1 k ∧ 1 < (rt S m).1 k then (rt S m).1 k - 1 else (rt S m).1 k,
      fun k => if som S k = true ∧ (rt S m).2 k = -1 ∧ (rt S m).1 k < stn S k (wnd S (rt S m).2 m (S 6 k)) then (m : Int) else (rt S m).2 k)
def rb (S : SC) (m k : Nat) : Int := (rt S m).1 k
def tu (S : SC) (m : Nat) : Nat → Int := (rt S m).2
/-- returned, of those who turn in m -/
def rtd (S : SC) (m k : Nat) : Bool := decide ((m : Int) + 1 < S 0 2 ∧ wnd S (tu S (m + 1)) (m + 1) (S 6 k) = 0)
def elc (S : SC) (m : Nat) : Nat → Int
  | 0 => -1
  | n + 1 => if tu S (m + 1) n = m ∧ rtd S m n = false ∧ (elc S m n = -1 ∨ rb S m n < rb S m (elc S m n).toNat) then (n : Int) else elc S m n
def ele (S : SC) (m : Nat) : Int := elc S m (S 0 3).toNat
def inn (S : SC) : Nat → Int
  | 0 => ele S 0
  | m + 1 => if ele S (m + 1) = -1 then inn S m else ele S (m + 1)
/-- who is in behind the last minute -/
def lin (S : SC) : Int := if S 0 2 = 0 then -1 else inn S (S 0 2 - 1).toNat
/-- a scene as the texts, or the plans, make it -/
def OKS (S : SC) : Prop := (1 ≤ S 0 0 ∧ S 0 0 ≤ 25) ∧ (0 ≤ S 0 1 ∧ S 0 1 ≤ 25) ∧ (0 ≤ S 0 2 ∧ S 0 2 ≤ 12) ∧ (0 ≤ S 0 3 ∧ S 0 3 ≤ 8) ∧ (∀ j : Nat, (j : Int) < S 0 1 → S 1 j = 0 ∨ S 1 j = 1) ∧
  (∀ m : Nat, (m : Int) < S 0 2 → (0 ≤ S 4 m ∧ S 4 m ≤ 3) ∧ 0 ≤ S 5 m ∧ S 5 m ≤ 9) ∧ (∀ k : Nat, (k : Int) < S 0 3 → (0 ≤ S 6 k ∧ S 6 k ≤ 29) ∧ (1 ≤ S 7 k ∧ S 7 k ≤ 9) ∧ 0 ≤ S 8 k ∧ S 8 k ≤ 2)
theorem bes_in {S : SC} (h : OKS S) {c w : Int} (h0 : 0 ≤ c) (h1 : c < S 0 1) : bes S c w = -1 ∨ (0 ≤ bes S c w ∧ bes S c w < S 0 1) := by
  obtain ⟨hw, -⟩ := h
  have := Int.emod_nonneg c (show S 0 0 ≠ 0 by omega)
  have h5 : 0 < c % S 0 0 → 1 ≤ c := fun q => by
    rcases Int.lt_or_le 0 c with z | z
    · omega
    · have : c = 0 := by omega
      subst this
      simp at q
  unfold bes
  repeat' split
  all_goals first | omega | (right; constructor <;> omega) | (have := h5 (by assumption); omega)
theorem exB_congr {p q : Nat → Bool} : ∀ {n : Nat}, (∀ k, k < n → p k = q k) → exB p n = exB q n
  | 0, _ => rfl
  | n + 1, h => by rw [exB, exB, exB_congr (fun k hk => h k (by omega)), h n (by omega)]
theorem leeS_congr {S : SC} {t t' : Nat → Int} {m c : Int} (h : ∀ k : Nat, (k : Int) < S 0 3 → ((t k = -1 ∨ m ≤ t k) ↔ (t' k = -1 ∨ m ≤ t' k))) : leeS S t m c = leeS S t' m c := by
  unfold leeS
  refine exB_congr fun k hk => ?_
  have := h k (by omega)
  simp only [this]
theorem wnd_congr {S : SC} {t t' : Nat → Int} {m : Nat} {c : Int} (h : ∀ k : Nat, (k : Int) < S 0 3 → ((t k = -1 ∨ (m : Int) ≤ t k) ↔ (t' k = -1 ∨ (m : Int) ≤ t' k))) : wnd S t m c = wnd S t' m c := by
  unfold wnd
  rw [leeS_congr h]
theorem wst_in {S : SC} (h : OKS S) {m : Nat} (hm : (m : Int) < S 0 2) {c : Int} : 0 ≤ wst S m c ∧ wst S m c ≤ 9 := by
  obtain ⟨-, -, -, -, -, hf, -⟩ := h
  have := hf m hm
  unfold wst
  repeat' split
  all_goals omega
theorem wbs_in {S : SC} (h : OKS S) {m : Nat} (hm : (m : Int) < S 0 2) {c : Int} : 0 ≤ wbs S m c ∧ wbs S m c ≤ 12 := by
  have := wst_in h hm (c := c)
  unfold wbs
  split <;> omega
theorem wnd_in {S : SC} (h : OKS S) {t : Nat → Int} {m : Nat} (hm : (m : Int) < S 0 2) {c : Int} : 0 ≤ wnd S t m c ∧ wnd S t m c ≤ 12 := by
  have := wbs_in h hm (c := c)
  unfold wnd
  split <;> omega
theorem rb_in {S : SC} (h : OKS S) {k : Nat} (hk : (k : Int) < S 0 3) : ∀ m : Nat, 1 ≤ rb S m k ∧ rb S m k ≤ 9
  | 0 => (h.2.2.2.2.2.2 k hk).2.1
  | m + 1 => by
    have ih := rb_in h hk m
    unfold rb at *
    simp only [rt]
    split <;> omega
theorem tu_in {S : SC} {k : Nat} : ∀ m : Nat, tu S m k = -1 ∨ (0 ≤ tu S m k ∧ tu S m k < m)
  | 0 => Or.inl rfl
  | m + 1 => by
    have ih := tu_in (S := S) (k := k) m
    unfold tu at *
    simp only [rt]
    split <;> omega
theorem tu_keep {S : SC} {k m : Nat} (h : tu S m k ≠ -1) : tu S (m + 1) k = tu S m k := by
  unfold tu at *
  simp only [rt]
  rw [if_neg (fun q => h q.2.1)]
theorem elc_in {S : SC} {m : Nat} : ∀ n : Nat, elc S m n = -1 ∨ (0 ≤ elc S m n ∧ elc S m n < n)
  | 0 => Or.inl rfl
  | n + 1 => by
    have ih := elc_in (S := S) (m := m) n
    rw [elc]
    split <;> omega
