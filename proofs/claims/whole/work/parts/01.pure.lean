/-! 01: numbers, the count, the cleared array, the nearest member: nothing of the walks -/
theorem fq_256 : nI 256 = 256 := by decide +kernel
theorem fq_255 : nI 255 = 255 := by decide +kernel
theorem fq_m1i : (-1 : Int32).toInt = -1 := by decide +kernel
theorem fq_0i : (0 : Int32).toInt = 0 := by decide +kernel
theorem fq_0l : (0 : Int64).toInt = 0 := by decide +kernel
theorem fq_b0 : vp_nar .boolean 0 = 0 := by decide +kernel
theorem fq_b1 : vp_nar .boolean 1 = 1 := by decide +kernel
theorem fq_n0 : narrow .boolean (.int 0) = .int 0 := rfl
theorem fq_n1 : narrow .boolean (.int 1) = .int 1 := rfl
theorem fq_m1 (n : Nat) : nI (n + 1) + (-1) = nI n := by
  rw [← nI_1, Int32.add_assoc, show (1 : Int32) + (-1) = 0 from rfl, Int32.add_zero]
theorem fq_lt {j : Nat} (hj : j < 2 ^ 31) (x : Int32) : nI j < x ↔ (j : Int) < x.toInt := by
  rw [Int32.lt_iff_toInt_lt, nI_toInt hj]
theorem fq_le {j : Nat} (hj : j < 2 ^ 31) (x : Int32) : nI j ≤ x ↔ (j : Int) ≤ x.toInt := by
  rw [Int32.le_iff_toInt_le, nI_toInt hj]
theorem fq_gt {j : Nat} (hj : j < 2 ^ 31) (x : Int32) : x < nI j ↔ x.toInt < (j : Int) := by
  rw [Int32.lt_iff_toInt_lt, nI_toInt hj]
theorem fq_ge {j : Nat} (hj : j < 2 ^ 31) (x : Int32) : x ≤ nI j ↔ x.toInt ≤ (j : Int) := by
  rw [Int32.le_iff_toInt_le, nI_toInt hj]
theorem fq_nm1 {j : Nat} (hj : j < 2 ^ 31) : ¬ nI j = -1 := by
  intro h
  have h2 := congrArg Int32.toInt h
  rw [nI_toInt hj, fq_m1i] at h2
  omega
theorem fq_nneg {j : Nat} (hj : j < 2 ^ 31) : ¬ nI j < 0 := nI_pos hj
/-- a number of the span, or not -/
theorem fq_ix (x : Int32) : x < 0 ∨ (256 : Int32) ≤ x ∨ ∃ j : Nat, j < 256 ∧ x = nI j := by
  by_cases h : x < 0
  · exact Or.inl h
  · obtain ⟨j, hj, rfl⟩ := nI_of h
    by_cases h2 : j < 256
    · exact Or.inr (Or.inr ⟨j, h2, rfl⟩)
    · refine Or.inr (Or.inl ?_)
      rw [← fq_256]
      exact nI_le (by omega) hj
theorem fq_in {j : Nat} (h : j < 256) : vp_in (nI j) 256 := vp_in_nI h (by omega)
theorem fq_n256 {j : Nat} (h : j < 256) : ¬ (256 : Int32) ≤ nI j := by rw [← fq_256]; exact nI_ge h (by omega)
theorem fq_l256 {j : Nat} (h : j < 256) : nI j < (256 : Int32) := by rw [← fq_256]; exact nI_lt h (by omega)
theorem fq_y256 : (256 : Int32) ≤ nI 256 := by rw [fq_256]; decide
theorem fq_n255 {j : Nat} (h : j < 256) : ¬ (255 : Int32) < nI j := by rw [← fq_255]; exact nI_nlt (by omega) (by omega)
theorem fq_l255 {j : Nat} (h : j < 256) : nI j ≤ (255 : Int32) := by rw [← fq_255]; exact nI_le (by omega) (by omega)
theorem fq_256n0 {x : Int32} (h : (256 : Int32) ≤ x) : ¬ x < 0 := by
  intro h2
  have := Int32.lt_of_le_of_lt h h2
  exact absurd this (by decide)
theorem fq_256_255 {x : Int32} (h : (256 : Int32) ≤ x) : (255 : Int32) < x :=
  Int32.lt_of_lt_of_le (by decide) h

/-- the number of members below m from p to q -/
def fq_cn (a : Nat → Int32) (p q : Int32) : Nat → Int32
  | 0 => 0
  | m + 1 => if p ≤ nI m ∧ nI m ≤ q ∧ ¬ a m = 0 then fq_cn a p q m + 1 else fq_cn a p q m
theorem fq_cn_y {a : Nat → Int32} {p q : Int32} {m : Nat} (h1 : p ≤ nI m) (h2 : nI m ≤ q) (h3 : ¬ a m = 0) : fq_cn a p q (m + 1) = fq_cn a p q m + 1 := if_pos ⟨h1, h2, h3⟩
theorem fq_cn_n {a : Nat → Int32} {p q : Int32} {m : Nat} (h : ¬ (p ≤ nI m ∧ nI m ≤ q ∧ ¬ a m = 0)) : fq_cn a p q (m + 1) = fq_cn a p q m := if_neg h

/-- the array whose cells below m from p to q are cleared -/
def fq_db (a : Nat → Int32) (p q : Int32) (m : Nat) : Nat → Int32 := fun j => if j < m ∧ p ≤ nI j ∧ nI j ≤ q then 0 else a j
theorem fq_db_0 (a : Nat → Int32) (p q : Int32) : fq_db a p q 0 = a := funext fun j => if_neg (fun h => Nat.not_lt_zero j h.1)
theorem fq_db_at (a : Nat → Int32) (p q : Int32) (m : Nat) : fq_db a p q m m = a m := if_neg (fun h => Nat.lt_irrefl m h.1)
theorem fq_db_in {a : Nat → Int32} {p q : Int32} {m : Nat} (h1 : p ≤ nI m) (h2 : nI m ≤ q) : fq_db a p q (m + 1) m = 0 := if_pos ⟨Nat.lt_succ_self m, h1, h2⟩
theorem fq_db_out {a : Nat → Int32} {p q : Int32} {m : Nat} (h : ¬ (p ≤ nI m ∧ nI m ≤ q)) : fq_db a p q (m + 1) m = a m := if_neg (fun c => h c.2)
theorem fq_db_skip {a : Nat → Int32} {p q : Int32} {m : Nat} (h : ¬ (p ≤ nI m ∧ nI m ≤ q ∧ ¬ a m = 0)) : fq_db a p q (m + 1) = fq_db a p q m := by
  funext j
  by_cases e : j = m
  · subst e
    rw [fq_db_at]
    by_cases c : p ≤ nI j ∧ nI j ≤ q
    · rw [fq_db_in c.1 c.2]
      by_cases z : a j = 0
      · exact z.symm
      · exact absurd ⟨c.1, c.2, z⟩ h
    · exact fq_db_out c
  · unfold fq_db
    by_cases c : j < m ∧ p ≤ nI j ∧ nI j ≤ q
    · rw [if_pos c, if_pos ⟨by omega, c.2⟩]
    · rw [if_neg c, if_neg (fun h => c ⟨by omega, h.2⟩)]
theorem fq_db_put {a : Nat → Int32} {p q : Int32} {m : Nat} {x : Int32} (h : x = fq_db a p q (m + 1) m) : upd (fq_db a p q m) m x = fq_db a p q (m + 1) := by
  funext j
  by_cases e : j = m
  · subst e
    rw [← h]
    exact if_pos rfl
  · refine (if_neg e).trans ?_
    unfold fq_db
    by_cases c : j < m ∧ p ≤ nI j ∧ nI j ≤ q
    · rw [if_pos c, if_pos ⟨by omega, c.2⟩]
    · rw [if_neg c, if_neg (fun h => c ⟨by omega, h.2⟩)]
/-- every cell of the span is 0 or 1 -/
def fq_B (a : Nat → Int32) : Prop := ∀ j : Nat, j < 256 → a j = 0 ∨ a j = 1
theorem fq_B_db {a : Nat → Int32} (p q : Int32) (m : Nat) (h : fq_B a) : fq_B (fq_db a p q m) := by
  intro j hj
  unfold fq_db
  by_cases c : j < m ∧ p ≤ nI j ∧ nI j ≤ q
  · rw [if_pos c]; exact Or.inl rfl
  · rw [if_neg c]; exact h j hj
theorem fq_B_upd {a : Nat → Int32} {k : Nat} {x : Int32} (h : fq_B a) (hx : x = 0 ∨ x = 1) : fq_B (upd a k x) := by
  intro j hj
  unfold upd
  by_cases c : j = k
  · rw [if_pos c]; exact hx
  · rw [if_neg c]; exact h j hj
theorem fq_B_1 {a : Nat → Int32} (h : fq_B a) {j : Nat} (hj : j < 256) (z : ¬ a j = 0) : a j = 1 := (h j hj).resolve_left z

/-- how far i lies from x -/
def fq_ds (x : Int) (i : Nat) : Nat := ((i : Int) - x).natAbs
/-- r is the member below m that is nearest to x, of two the lesser; with its distance l -/
def fq_Bd (a : Nat → Int32) (x : Int) (m : Nat) (r : Int32) (l : Int) : Prop :=
  (r = -1 ∧ ∀ j : Nat, j < m → a j = 0) ∨ ∃ i : Nat, i < m ∧ r = nI i ∧ l = (fq_ds x i : Int) ∧ ¬ a i = 0 ∧ ∀ j : Nat, j < m → ¬ a j = 0 → fq_ds x i < fq_ds x j ∨ (fq_ds x i = fq_ds x j ∧ i ≤ j)
def fq_Best (a : Nat → Int32) (x : Int) (m : Nat) (r : Int32) : Prop :=
  (r = -1 ∧ ∀ j : Nat, j < m → a j = 0) ∨ ∃ i : Nat, i < m ∧ r = nI i ∧ ¬ a i = 0 ∧ ∀ j : Nat, j < m → ¬ a j = 0 → fq_ds x i < fq_ds x j ∨ (fq_ds x i = fq_ds x j ∧ i ≤ j)
theorem fq_Bd_B {a : Nat → Int32} {x : Int} {m : Nat} {r : Int32} {l : Int} (h : fq_Bd a x m r l) : fq_Best a x m r := by
  rcases h with h | ⟨i, h1, h2, _, h4, h5⟩
  · exact Or.inl h
  · exact Or.inr ⟨i, h1, h2, h4, h5⟩
theorem fq_uniq {a : Nat → Int32} {x : Int} {m : Nat} {r s : Int32} (h : fq_Best a x m r) (g : fq_Best a x m s) : r = s := by
  rcases h with ⟨h1, h2⟩ | ⟨i, h1, h2, h3, h4⟩
  · rcases g with ⟨g1, _⟩ | ⟨k, g1, _, g3, _⟩
    · rw [h1, g1]
    · exact absurd (h2 k g1) g3
  · rcases g with ⟨_, g2⟩ | ⟨k, g1, g2, g3, g4⟩
    · exact absurd (g2 i h1) h3
    · have e : i = k := by
        have A := h4 k g1 g3
        have B := g4 i h1 h3
        omega
      rw [h2, g2, e]
theorem fq_Bd_0 (a : Nat → Int32) (x : Int) (l : Int) : fq_Bd a x 0 (-1) l := Or.inl ⟨rfl, fun j hj => absurd hj (Nat.not_lt_zero j)⟩
theorem fq_Bd_skip {a : Nat → Int32} {x : Int} {m : Nat} {r : Int32} {l : Int} (h : fq_Bd a x m r l) (z : a m = 0) : fq_Bd a x (m + 1) r l := by
  rcases h with ⟨h1, h2⟩ | ⟨i, h1, h2, h3, h4, h5⟩
  · refine Or.inl ⟨h1, fun j hj => ?_⟩
    by_cases e : j = m
    · rw [e]; exact z
    · exact h2 j (by omega)
  · refine Or.inr ⟨i, by omega, h2, h3, h4, fun j hj nz => ?_⟩
    by_cases e : j = m
    · rw [e] at nz; exact absurd z nz
    · exact h5 j (by omega) nz
theorem fq_Bd_first {a : Nat → Int32} {x : Int} {m : Nat} {r : Int32} {l d : Int} (hm : m < 256) (h : fq_Bd a x m r l) (hr : r < 0) (z : ¬ a m = 0) (hd : d = (fq_ds x m : Int)) : fq_Bd a x (m + 1) (nI m) d := by
  rcases h with ⟨_, h2⟩ | ⟨i, h1, h2, _, _, _⟩
  · refine Or.inr ⟨m, by omega, rfl, hd, z, fun j hj nz => ?_⟩
    by_cases e : j = m
    · rw [e]; exact Or.inr ⟨rfl, Nat.le_refl m⟩
    · exact absurd (h2 j (by omega)) nz
  · rw [h2] at hr
    exact absurd hr (fq_nneg (by omega))
theorem fq_Bd_less {a : Nat → Int32} {x : Int} {m : Nat} {r : Int32} {l d : Int} (h : fq_Bd a x m r l) (hr : ¬ r < 0) (z : ¬ a m = 0) (hd : d = (fq_ds x m : Int)) (hl : d < l) : fq_Bd a x (m + 1) (nI m) d := by
  rcases h with ⟨h1, _⟩ | ⟨i, h1, h2, h3, h4, h5⟩
  · rw [h1] at hr
    exact absurd (by decide) hr
  · refine Or.inr ⟨m, by omega, rfl, hd, z, fun j hj nz => ?_⟩
    by_cases e : j = m
    · rw [e]; exact Or.inr ⟨rfl, Nat.le_refl m⟩
    · have := h5 j (by omega) nz
      left
      omega
theorem fq_Bd_more {a : Nat → Int32} {x : Int} {m : Nat} {r : Int32} {l d : Int} (h : fq_Bd a x m r l) (hr : ¬ r < 0) (hd : d = (fq_ds x m : Int)) (hl : ¬ d < l) : fq_Bd a x (m + 1) r l := by
  rcases h with ⟨h1, _⟩ | ⟨i, h1, h2, h3, h4, h5⟩
  · rw [h1] at hr
    exact absurd (by decide) hr
  · refine Or.inr ⟨i, by omega, h2, h3, h4, fun j hj nz => ?_⟩
    by_cases e : j = m
    · rw [e]
      have : fq_ds x i < fq_ds x m ∨ fq_ds x i = fq_ds x m := by omega
      rcases this with t | t
      · exact Or.inl t
      · exact Or.inr ⟨t, by omega⟩
    · exact h5 j (by omega) nz
/-- the distance in longs -/
theorem fq_dsub {m : Nat} (hm : m < 256) (x : Int32) : ((nI m).toInt64 - x.toInt64).toInt = (m : Int) - x.toInt := by
  rw [Int64.toInt_sub, Int32.toInt_toInt64, Int32.toInt_toInt64, nI_toInt (by omega)]
  have h1 := Int32.toInt_lt x
  have h2 := Int32.le_toInt x
  exact Int.bmod_eq_of_le (by omega) (by omega)
theorem fq_dpos {m : Nat} (hm : m < 256) (x : Int32) (h : ¬ (nI m).toInt64 - x.toInt64 < 0) : ((nI m).toInt64 - x.toInt64).toInt = (fq_ds x.toInt m : Int) := by
  rw [Int64.lt_iff_toInt_lt, fq_dsub hm x, fq_0l] at h
  rw [fq_dsub hm x]
  unfold fq_ds
  omega
theorem fq_dneg {m : Nat} (hm : m < 256) (x : Int32) (h : (nI m).toInt64 - x.toInt64 < 0) : (-((nI m).toInt64 - x.toInt64)).toInt = (fq_ds x.toInt m : Int) := by
  rw [Int64.lt_iff_toInt_lt, fq_dsub hm x, fq_0l] at h
  rw [Int64.toInt_neg, fq_dsub hm x]
  have h1 := Int32.toInt_lt x
  have h2 := Int32.le_toInt x
  unfold fq_ds
  refine (Int.bmod_eq_of_le (by omega) (by omega)).trans ?_
  omega

/-- r is the greatest member below x -/
def fq_Lo (a : Nat → Int32) (x : Int) (r : Int32) : Prop :=
  (r = -1 ∧ ∀ j : Nat, j < 256 → (j : Int) < x → a j = 0) ∨ ∃ i : Nat, i < 256 ∧ r = nI i ∧ (i : Int) < x ∧ ¬ a i = 0 ∧ ∀ j : Nat, j < 256 → (j : Int) < x → ¬ a j = 0 → j ≤ i
/-- r is the least member above x -/
def fq_Hi (a : Nat → Int32) (x : Int) (r : Int32) : Prop :=
  (r = -1 ∧ ∀ j : Nat, j < 256 → x < (j : Int) → a j = 0) ∨ ∃ i : Nat, i < 256 ∧ r = nI i ∧ x < (i : Int) ∧ ¬ a i = 0 ∧ ∀ j : Nat, j < 256 → x < (j : Int) → ¬ a j = 0 → i ≤ j
theorem fq_nr_mem {a : Nat → Int32} {i : Nat} (hi : i < 256) (z : ¬ a i = 0) : fq_Best a (i : Int) 256 (nI i) := by
  refine Or.inr ⟨i, hi, rfl, z, fun j hj nz => ?_⟩
  unfold fq_ds
  omega
theorem fq_nr_up {a : Nat → Int32} {x : Int} {r s : Int32} (no : ∀ i : Nat, i < 256 → x = (i : Int) → a i = 0) (L : fq_Lo a x r) (H : fq_Hi a x s) (hr : r = -1) : fq_Best a x 256 s := by
  have hnn : ∀ j : Nat, j < 256 → (j : Int) ≤ x → a j = 0 := by
    intro j hj hx
    by_cases e : x = (j : Int)
    · exact no j hj e
    · rcases L with ⟨_, L2⟩ | ⟨i, L1, L2, _, _, _⟩
      · exact L2 j hj (by omega)
      · exact absurd (L2.symm.trans hr) (fq_nm1 (by omega))
  rcases H with ⟨H1, H2⟩ | ⟨i, H1, H2, H3, H4, H5⟩
  · refine Or.inl ⟨H1, fun j hj => ?_⟩
    by_cases e : (j : Int) ≤ x
    · exact hnn j hj e
    · exact H2 j hj (by omega)
  · refine Or.inr ⟨i, H1, H2, H4, fun j hj nz => ?_⟩
    by_cases e : (j : Int) ≤ x
    · exact absurd (hnn j hj e) nz
    · have := H5 j hj (by omega) nz
      unfold fq_ds
      omega
theorem fq_nr_down {a : Nat → Int32} {x : Int} {r s : Int32} (no : ∀ i : Nat, i < 256 → x = (i : Int) → a i = 0) (L : fq_Lo a x r) (H : fq_Hi a x s) (hr : s = -1) : fq_Best a x 256 r := by
  have hnn : ∀ j : Nat, j < 256 → x ≤ (j : Int) → a j = 0 := by
    intro j hj hx
    by_cases e : x = (j : Int)
    · exact no j hj e
    · rcases H with ⟨_, L2⟩ | ⟨i, L1, L2, _, _, _⟩
      · exact L2 j hj (by omega)
      · exact absurd (L2.symm.trans hr) (fq_nm1 (by omega))
  rcases L with ⟨H1, H2⟩ | ⟨i, H1, H2, H3, H4, H5⟩
  · refine Or.inl ⟨H1, fun j hj => ?_⟩
    by_cases e : x ≤ (j : Int)
    · exact hnn j hj e
    · exact H2 j hj (by omega)
  · refine Or.inr ⟨i, H1, H2, H4, fun j hj nz => ?_⟩
    by_cases e : x ≤ (j : Int)
    · exact absurd (hnn j hj e) nz
    · have := H5 j hj (by omega) nz
      unfold fq_ds
      omega
/-- both neighbours are there: their differences tell -/
theorem fq_nr_two {a : Nat → Int32} {x : Int32} {r s : Int32} (no : ∀ i : Nat, i < 256 → x.toInt = (i : Int) → a i = 0) (L : fq_Lo a x.toInt r) (H : fq_Hi a x.toInt s) (hr : ¬ r = -1) (hs : ¬ s = -1) : (s - x < x - r → fq_Best a x.toInt 256 s) ∧ (¬ s - x < x - r → fq_Best a x.toInt 256 r) := by
  rcases L with ⟨L1, _⟩ | ⟨i, L1, L2, L3, L4, L5⟩
  · exact absurd L1 hr
  rcases H with ⟨H1, _⟩ | ⟨k, H1, H2, H3, H4, H5⟩
  · exact absurd H1 hs
  have A : (s - x).toInt = (k : Int) - x.toInt := by
    rw [H2, Int32.toInt_sub, nI_toInt (by omega)]
    exact Int.bmod_eq_of_le (by omega) (by omega)
  have B : (x - r).toInt = x.toInt - (i : Int) := by
    rw [L2, Int32.toInt_sub, nI_toInt (by omega)]
    exact Int.bmod_eq_of_le (by omega) (by omega)
  have side : ∀ j : Nat, j < 256 → ¬ a j = 0 → j ≤ i ∨ k ≤ j := by
    intro j hj nz
    by_cases e : x.toInt = (j : Int)
    · exact absurd (no j hj e) nz
    · by_cases f : (j : Int) < x.toInt
      · exact Or.inl (L5 j hj f nz)
      · exact Or.inr (H5 j hj (by omega) nz)
  rw [Int32.lt_iff_toInt_lt, A, B]
  constructor
  · intro c
    refine Or.inr ⟨k, H1, H2, H4, fun j hj nz => ?_⟩
    have := side j hj nz
    unfold fq_ds
    omega
  · intro c
    refine Or.inr ⟨i, L1, L2, L4, fun j hj nz => ?_⟩
    have := side j hj nz
    unfold fq_ds
    omega
