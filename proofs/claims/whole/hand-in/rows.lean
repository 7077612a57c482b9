section
/-! 01: numbers, the count, the cleared array, the nearest member: nothing of the walks -/
theorem fq_256 : nI 256 = 256 := by decide +kernel
theorem fq_255 : nI 255 = 255 := by decide +kernel
theorem fq_m1i : (-1 : Int32).toInt = -1 := by decide +kernel
theorem fq_0i : (0 : Int32).toInt = 0 := by decide +kernel
theorem fq_0l : (0 : Int64).toInt = 0 := by decide +kernel
theorem fq_b0 : vp_nar .boolean 0 = 0 := by decide +kernel
theorem fq_b1 : vp_nar .boolean 1 = 1 := by decide +kernel
theorem fq_n0 : narrow .boolean (.int 0) = .int 0 := rfl
theorem fq_n1 : narrow .boolean (.int 1) = .int 1 := rfl
theorem fq_m1 (n : Nat) : nI (n + 1) + (-1) = nI n := by
  rw [← nI_1, Int32.add_assoc, show (1 : Int32) + (-1) = 0 from rfl, Int32.add_zero]
theorem fq_lt {j : Nat} (hj : j < 2 ^ 31) (x : Int32) : nI j < x ↔ (j : Int) < x.toInt := by
  rw [Int32.lt_iff_toInt_lt, nI_toInt hj]
theorem fq_le {j : Nat} (hj : j < 2 ^ 31) (x : Int32) : nI j ≤ x ↔ (j : Int) ≤ x.toInt := by
  rw [Int32.le_iff_toInt_le, nI_toInt hj]
theorem fq_gt {j : Nat} (hj : j < 2 ^ 31) (x : Int32) : x < nI j ↔ x.toInt < (j : Int) := by
  rw [Int32.lt_iff_toInt_lt, nI_toInt hj]
theorem fq_ge {j : Nat} (hj : j < 2 ^ 31) (x : Int32) : x ≤ nI j ↔ x.toInt ≤ (j : Int) := by
  rw [Int32.le_iff_toInt_le, nI_toInt hj]
theorem fq_nm1 {j : Nat} (hj : j < 2 ^ 31) : ¬ nI j = -1 := by
  intro h
  have h2 := congrArg Int32.toInt h
  rw [nI_toInt hj, fq_m1i] at h2
  omega
theorem fq_nneg {j : Nat} (hj : j < 2 ^ 31) : ¬ nI j < 0 := nI_pos hj
/-- a number of the span, or not -/
theorem fq_ix (x : Int32) : x < 0 ∨ (256 : Int32) ≤ x ∨ ∃ j : Nat, j < 256 ∧ x = nI j := by
  by_cases h : x < 0
  · exact Or.inl h
  · obtain ⟨j, hj, rfl⟩ := nI_of h
    by_cases h2 : j < 256
    · exact Or.inr (Or.inr ⟨j, h2, rfl⟩)
    · refine Or.inr (Or.inl ?_)
      rw [← fq_256]
      exact nI_le (by omega) hj
theorem fq_in {j : Nat} (h : j < 256) : vp_in (nI j) 256 := vp_in_nI h (by omega)
theorem fq_n256 {j : Nat} (h : j < 256) : ¬ (256 : Int32) ≤ nI j := by rw [← fq_256]; exact nI_ge h (by omega)
theorem fq_l256 {j : Nat} (h : j < 256) : nI j < (256 : Int32) := by rw [← fq_256]; exact nI_lt h (by omega)
theorem fq_y256 : (256 : Int32) ≤ nI 256 := by rw [fq_256]; decide
theorem fq_n255 {j : Nat} (h : j < 256) : ¬ (255 : Int32) < nI j := by rw [← fq_255]; exact nI_nlt (by omega) (by omega)
theorem fq_l255 {j : Nat} (h : j < 256) : nI j ≤ (255 : Int32) := by rw [← fq_255]; exact nI_le (by omega) (by omega)
theorem fq_256n0 {x : Int32} (h : (256 : Int32) ≤ x) : ¬ x < 0 := by
  intro h2
  have := Int32.lt_of_le_of_lt h h2
  exact absurd this (by decide)
theorem fq_256_255 {x : Int32} (h : (256 : Int32) ≤ x) : (255 : Int32) < x :=
  Int32.lt_of_lt_of_le (by decide) h

/-- the number of members below m from p to q -/
def fq_cn (a : Nat → Int32) (p q : Int32) : Nat → Int32
  | 0 => 0
  | m + 1 => if p ≤ nI m ∧ nI m ≤ q ∧ ¬ a m = 0 then fq_cn a p q m + 1 else fq_cn a p q m
theorem fq_cn_y {a : Nat → Int32} {p q : Int32} {m : Nat} (h1 : p ≤ nI m) (h2 : nI m ≤ q) (h3 : ¬ a m = 0) : fq_cn a p q (m + 1) = fq_cn a p q m + 1 := if_pos ⟨h1, h2, h3⟩
theorem fq_cn_n {a : Nat → Int32} {p q : Int32} {m : Nat} (h : ¬ (p ≤ nI m ∧ nI m ≤ q ∧ ¬ a m = 0)) : fq_cn a p q (m + 1) = fq_cn a p q m := if_neg h

/-- the array whose cells below m from p to q are cleared -/
def fq_db (a : Nat → Int32) (p q : Int32) (m : Nat) : Nat → Int32 := fun j => if j < m ∧ p ≤ nI j ∧ nI j ≤ q then 0 else a j
theorem fq_db_0 (a : Nat → Int32) (p q : Int32) : fq_db a p q 0 = a := funext fun j => if_neg (fun h => Nat.not_lt_zero j h.1)
theorem fq_db_at (a : Nat → Int32) (p q : Int32) (m : Nat) : fq_db a p q m m = a m := if_neg (fun h => Nat.lt_irrefl m h.1)
theorem fq_db_in {a : Nat → Int32} {p q : Int32} {m : Nat} (h1 : p ≤ nI m) (h2 : nI m ≤ q) : fq_db a p q (m + 1) m = 0 := if_pos ⟨Nat.lt_succ_self m, h1, h2⟩
theorem fq_db_out {a : Nat → Int32} {p q : Int32} {m : Nat} (h : ¬ (p ≤ nI m ∧ nI m ≤ q)) : fq_db a p q (m + 1) m = a m := if_neg (fun c => h c.2)
theorem fq_db_skip {a : Nat → Int32} {p q : Int32} {m : Nat} (h : ¬ (p ≤ nI m ∧ nI m ≤ q ∧ ¬ a m = 0)) : fq_db a p q (m + 1) = fq_db a p q m := by
  funext j
  by_cases e : j = m
  · subst e
    rw [fq_db_at]
    by_cases c : p ≤ nI j ∧ nI j ≤ q
    · rw [fq_db_in c.1 c.2]
      by_cases z : a j = 0
      · exact z.symm
      · exact absurd ⟨c.1, c.2, z⟩ h
    · exact fq_db_out c
  · unfold fq_db
    by_cases c : j < m ∧ p ≤ nI j ∧ nI j ≤ q
    · rw [if_pos c, if_pos ⟨by omega, c.2⟩]
    · rw [if_neg c, if_neg (fun h => c ⟨by omega, h.2⟩)]
theorem fq_db_put {a : Nat → Int32} {p q : Int32} {m : Nat} {x : Int32} (h : x = fq_db a p q (m + 1) m) : upd (fq_db a p q m) m x = fq_db a p q (m + 1) := by
  funext j
  by_cases e : j = m
  · subst e
    rw [← h]
    exact if_pos rfl
  · refine (if_neg e).trans ?_
    unfold fq_db
    by_cases c : j < m ∧ p ≤ nI j ∧ nI j ≤ q
    · rw [if_pos c, if_pos ⟨by omega, c.2⟩]
    · rw [if_neg c, if_neg (fun h => c ⟨by omega, h.2⟩)]
/-- every cell of the span is 0 or 1 -/
def fq_B (a : Nat → Int32) : Prop := ∀ j : Nat, j < 256 → a j = 0 ∨ a j = 1
theorem fq_B_db {a : Nat → Int32} (p q : Int32) (m : Nat) (h : fq_B a) : fq_B (fq_db a p q m) := by
  intro j hj
  unfold fq_db
  by_cases c : j < m ∧ p ≤ nI j ∧ nI j ≤ q
  · rw [if_pos c]; exact Or.inl rfl
  · rw [if_neg c]; exact h j hj
theorem fq_B_upd {a : Nat → Int32} {k : Nat} {x : Int32} (h : fq_B a) (hx : x = 0 ∨ x = 1) : fq_B (upd a k x) := by
  intro j hj
  unfold upd
  by_cases c : j = k
  · rw [if_pos c]; exact hx
  · rw [if_neg c]; exact h j hj
theorem fq_B_1 {a : Nat → Int32} (h : fq_B a) {j : Nat} (hj : j < 256) (z : ¬ a j = 0) : a j = 1 := (h j hj).resolve_left z

/-- how far i lies from x -/
def fq_ds (x : Int) (i : Nat) : Nat := ((i : Int) - x).natAbs
/-- r is the member below m that is nearest to x, of two the lesser; with its distance l -/
def fq_Bd (a : Nat → Int32) (x : Int) (m : Nat) (r : Int32) (l : Int) : Prop :=
  (r = -1 ∧ ∀ j : Nat, j < m → a j = 0) ∨ ∃ i : Nat, i < m ∧ r = nI i ∧ l = (fq_ds x i : Int) ∧ ¬ a i = 0 ∧ ∀ j : Nat, j < m → ¬ a j = 0 → fq_ds x i < fq_ds x j ∨ (fq_ds x i = fq_ds x j ∧ i ≤ j)
def fq_Best (a : Nat → Int32) (x : Int) (m : Nat) (r : Int32) : Prop :=
  (r = -1 ∧ ∀ j : Nat, j < m → a j = 0) ∨ ∃ i : Nat, i < m ∧ r = nI i ∧ ¬ a i = 0 ∧ ∀ j : Nat, j < m → ¬ a j = 0 → fq_ds x i < fq_ds x j ∨ (fq_ds x i = fq_ds x j ∧ i ≤ j)
theorem fq_Bd_B {a : Nat → Int32} {x : Int} {m : Nat} {r : Int32} {l : Int} (h : fq_Bd a x m r l) : fq_Best a x m r := by
  rcases h with h | ⟨i, h1, h2, _, h4, h5⟩
  · exact Or.inl h
  · exact Or.inr ⟨i, h1, h2, h4, h5⟩
theorem fq_uniq {a : Nat → Int32} {x : Int} {m : Nat} {r s : Int32} (h : fq_Best a x m r) (g : fq_Best a x m s) : r = s := by
  rcases h with ⟨h1, h2⟩ | ⟨i, h1, h2, h3, h4⟩
  · rcases g with ⟨g1, _⟩ | ⟨k, g1, _, g3, _⟩
    · rw [h1, g1]
    · exact absurd (h2 k g1) g3
  · rcases g with ⟨_, g2⟩ | ⟨k, g1, g2, g3, g4⟩
    · exact absurd (g2 i h1) h3
    · have e : i = k := by
        have A := h4 k g1 g3
        have B := g4 i h1 h3
        omega
      rw [h2, g2, e]
theorem fq_Bd_0 (a : Nat → Int32) (x : Int) (l : Int) : fq_Bd a x 0 (-1) l := Or.inl ⟨rfl, fun j hj => absurd hj (Nat.not_lt_zero j)⟩
theorem fq_Bd_skip {a : Nat → Int32} {x : Int} {m : Nat} {r : Int32} {l : Int} (h : fq_Bd a x m r l) (z : a m = 0) : fq_Bd a x (m + 1) r l := by
  rcases h with ⟨h1, h2⟩ | ⟨i, h1, h2, h3, h4, h5⟩
  · refine Or.inl ⟨h1, fun j hj => ?_⟩
    by_cases e : j = m
    · rw [e]; exact z
    · exact h2 j (by omega)
  · refine Or.inr ⟨i, by omega, h2, h3, h4, fun j hj nz => ?_⟩
    by_cases e : j = m
    · rw [e] at nz; exact absurd z nz
    · exact h5 j (by omega) nz
theorem fq_Bd_first {a : Nat → Int32} {x : Int} {m : Nat} {r : Int32} {l d : Int} (hm : m < 256) (h : fq_Bd a x m r l) (hr : r < 0) (z : ¬ a m = 0) (hd : d = (fq_ds x m : Int)) : fq_Bd a x (m + 1) (nI m) d := by
  rcases h with ⟨_, h2⟩ | ⟨i, h1, h2, _, _, _⟩
  · refine Or.inr ⟨m, by omega, rfl, hd, z, fun j hj nz => ?_⟩
    by_cases e : j = m
    · rw [e]; exact Or.inr ⟨rfl, Nat.le_refl m⟩
    · exact absurd (h2 j (by omega)) nz
  · rw [h2] at hr
    exact absurd hr (fq_nneg (by omega))
theorem fq_Bd_less {a : Nat → Int32} {x : Int} {m : Nat} {r : Int32} {l d : Int} (h : fq_Bd a x m r l) (hr : ¬ r < 0) (z : ¬ a m = 0) (hd : d = (fq_ds x m : Int)) (hl : d < l) : fq_Bd a x (m + 1) (nI m) d := by
  rcases h with ⟨h1, _⟩ | ⟨i, h1, h2, h3, h4, h5⟩
  · rw [h1] at hr
    exact absurd (by decide) hr
  · refine Or.inr ⟨m, by omega, rfl, hd, z, fun j hj nz => ?_⟩
    by_cases e : j = m
    · rw [e]; exact Or.inr ⟨rfl, Nat.le_refl m⟩
    · have := h5 j (by omega) nz
      left
      omega
theorem fq_Bd_more {a : Nat → Int32} {x : Int} {m : Nat} {r : Int32} {l d : Int} (h : fq_Bd a x m r l) (hr : ¬ r < 0) (hd : d = (fq_ds x m : Int)) (hl : ¬ d < l) : fq_Bd a x (m + 1) r l := by
  rcases h with ⟨h1, _⟩ | ⟨i, h1, h2, h3, h4, h5⟩
  · rw [h1] at hr
    exact absurd (by decide) hr
  · refine Or.inr ⟨i, by omega, h2, h3, h4, fun j hj nz => ?_⟩
    by_cases e : j = m
    · rw [e]
      have : fq_ds x i < fq_ds x m ∨ fq_ds x i = fq_ds x m := by omega
      rcases this with t | t
      · exact Or.inl t
      · exact Or.inr ⟨t, by omega⟩
    · exact h5 j (by omega) nz
/-- the distance in longs -/
theorem fq_dsub {m : Nat} (hm : m < 256) (x : Int32) : ((nI m).toInt64 - x.toInt64).toInt = (m : Int) - x.toInt := by
  rw [Int64.toInt_sub, Int32.toInt_toInt64, Int32.toInt_toInt64, nI_toInt (by omega)]
  have h1 := Int32.toInt_lt x
  have h2 := Int32.le_toInt x
  exact Int.bmod_eq_of_le (by omega) (by omega)
theorem fq_dpos {m : Nat} (hm : m < 256) (x : Int32) (h : ¬ (nI m).toInt64 - x.toInt64 < 0) : ((nI m).toInt64 - x.toInt64).toInt = (fq_ds x.toInt m : Int) := by
  rw [Int64.lt_iff_toInt_lt, fq_dsub hm x, fq_0l] at h
  rw [fq_dsub hm x]
  unfold fq_ds
  omega
theorem fq_dneg {m : Nat} (hm : m < 256) (x : Int32) (h : (nI m).toInt64 - x.toInt64 < 0) : (-((nI m).toInt64 - x.toInt64)).toInt = (fq_ds x.toInt m : Int) := by
  rw [Int64.lt_iff_toInt_lt, fq_dsub hm x, fq_0l] at h
  rw [Int64.toInt_neg, fq_dsub hm x]
  have h1 := Int32.toInt_lt x
  have h2 := Int32.le_toInt x
  unfold fq_ds
  refine (Int.bmod_eq_of_le (by omega) (by omega)).trans ?_
  omega

/-- r is the greatest member below x -/
def fq_Lo (a : Nat → Int32) (x : Int) (r : Int32) : Prop :=
  (r = -1 ∧ ∀ j : Nat, j < 256 → (j : Int) < x → a j = 0) ∨ ∃ i : Nat, i < 256 ∧ r = nI i ∧ (i : Int) < x ∧ ¬ a i = 0 ∧ ∀ j : Nat, j < 256 → (j : Int) < x → ¬ a j = 0 → j ≤ i
/-- r is the least member above x -/
def fq_Hi (a : Nat → Int32) (x : Int) (r : Int32) : Prop :=
  (r = -1 ∧ ∀ j : Nat, j < 256 → x < (j : Int) → a j = 0) ∨ ∃ i : Nat, i < 256 ∧ r = nI i ∧ x < (i : Int) ∧ ¬ a i = 0 ∧ ∀ j : Nat, j < 256 → x < (j : Int) → ¬ a j = 0 → i ≤ j
theorem fq_nr_mem {a : Nat → Int32} {i : Nat} (hi : i < 256) (z : ¬ a i = 0) : fq_Best a (i : Int) 256 (nI i) := by
  refine Or.inr ⟨i, hi, rfl, z, fun j hj nz => ?_⟩
  unfold fq_ds
  omega
theorem fq_nr_up {a : Nat → Int32} {x : Int} {r s : Int32} (no : ∀ i : Nat, i < 256 → x = (i : Int) → a i = 0) (L : fq_Lo a x r) (H : fq_Hi a x s) (hr : r = -1) : fq_Best a x 256 s := by
  have hnn : ∀ j : Nat, j < 256 → (j : Int) ≤ x → a j = 0 := by
    intro j hj hx
    by_cases e : x = (j : Int)
    · exact no j hj e
    · rcases L with ⟨_, L2⟩ | ⟨i, L1, L2, _, _, _⟩
      · exact L2 j hj (by omega)
      · exact absurd (L2.symm.trans hr) (fq_nm1 (by omega))
  rcases H with ⟨H1, H2⟩ | ⟨i, H1, H2, H3, H4, H5⟩
  · refine Or.inl ⟨H1, fun j hj => ?_⟩
    by_cases e : (j : Int) ≤ x
    · exact hnn j hj e
    · exact H2 j hj (by omega)
  · refine Or.inr ⟨i, H1, H2, H4, fun j hj nz => ?_⟩
    by_cases e : (j : Int) ≤ x
    · exact absurd (hnn j hj e) nz
    · have := H5 j hj (by omega) nz
      unfold fq_ds
      omega
theorem fq_nr_down {a : Nat → Int32} {x : Int} {r s : Int32} (no : ∀ i : Nat, i < 256 → x = (i : Int) → a i = 0) (L : fq_Lo a x r) (H : fq_Hi a x s) (hr : s = -1) : fq_Best a x 256 r := by
  have hnn : ∀ j : Nat, j < 256 → x ≤ (j : Int) → a j = 0 := by
    intro j hj hx
    by_cases e : x = (j : Int)
    · exact no j hj e
    · rcases H with ⟨_, L2⟩ | ⟨i, L1, L2, _, _, _⟩
      · exact L2 j hj (by omega)
      · exact absurd (L2.symm.trans hr) (fq_nm1 (by omega))
  rcases L with ⟨H1, H2⟩ | ⟨i, H1, H2, H3, H4, H5⟩
  · refine Or.inl ⟨H1, fun j hj => ?_⟩
    by_cases e : x ≤ (j : Int)
    · exact hnn j hj e
    · exact H2 j hj (by omega)
  · refine Or.inr ⟨i, H1, H2, H4, fun j hj nz => ?_⟩
    by_cases e : x ≤ (j : Int)
    · exact absurd (hnn j hj e) nz
    · have := H5 j hj (by omega) nz
      unfold fq_ds
      omega
/-- both neighbours are there: their differences tell -/
theorem fq_nr_two {a : Nat → Int32} {x : Int32} {r s : Int32} (no : ∀ i : Nat, i < 256 → x.toInt = (i : Int) → a i = 0) (L : fq_Lo a x.toInt r) (H : fq_Hi a x.toInt s) (hr : ¬ r = -1) (hs : ¬ s = -1) : (s - x < x - r → fq_Best a x.toInt 256 s) ∧ (¬ s - x < x - r → fq_Best a x.toInt 256 r) := by
  rcases L with ⟨L1, _⟩ | ⟨i, L1, L2, L3, L4, L5⟩
  · exact absurd L1 hr
  rcases H with ⟨H1, _⟩ | ⟨k, H1, H2, H3, H4, H5⟩
  · exact absurd H1 hs
  have A : (s - x).toInt = (k : Int) - x.toInt := by
    rw [H2, Int32.toInt_sub, nI_toInt (by omega)]
    exact Int.bmod_eq_of_le (by omega) (by omega)
  have B : (x - r).toInt = x.toInt - (i : Int) := by
    rw [L2, Int32.toInt_sub, nI_toInt (by omega)]
    exact Int.bmod_eq_of_le (by omega) (by omega)
  have side : ∀ j : Nat, j < 256 → ¬ a j = 0 → j ≤ i ∨ k ≤ j := by
    intro j hj nz
    by_cases e : x.toInt = (j : Int)
    · exact absurd (no j hj e) nz
    · by_cases f : (j : Int) < x.toInt
      · exact Or.inl (L5 j hj f nz)
      · exact Or.inr (H5 j hj (by omega) nz)
  rw [Int32.lt_iff_toInt_lt, A, B]
  constructor
  · intro c
    refine Or.inr ⟨k, H1, H2, H4, fun j hj nz => ?_⟩
    have := side j hj nz
    unfold fq_ds
    omega
  · intro c
    refine Or.inr ⟨i, L1, L2, L4, fun j hj nz => ?_⟩
    have := side j hj nz
    unfold fq_ds
    omega
end
section
/-! 02: the methods without a loop, each side against the same pure answer -/
theorem fq_z0 {a : Nat → Int32} {j : Nat} (hj : j < 256) (z : a j = 0) : a (nI j).toNatClampNeg = 0 := by
  rw [nI_clamp (by omega)]; exact z
theorem fq_z1 {a : Nat → Int32} {j : Nat} (hj : j < 256) (z : ¬ a j = 0) : ¬ a (nI j).toNatClampNeg = 0 := by
  rw [nI_clamp (by omega)]; exact z
theorem fq_u0 {a : Nat → Int32} {j : Nat} (hj : j < 256) : upd a (nI j).toNatClampNeg (vp_nar .boolean 0) = upd a j 0 := by
  rw [nI_clamp (by omega), fq_b0]
theorem fq_u1 {a : Nat → Int32} {j : Nat} (hj : j < 256) : upd a (nI j).toNatClampNeg (vp_nar .boolean 1) = upd a j 1 := by
  rw [nI_clamp (by omega), fq_b1]
theorem fq_ne10 : ¬ (1 : Int32) = 0 := by decide
theorem fq_spO {post : Int32 → Prop} {x : Int32} (h : x < 0 ∨ (256 : Int32) ≤ x) (hp : post 0) : wpX_inSpan post x := by
  unfold wpX_inSpan
  rcases h with h | h
  · exact br_t h hp
  · exact br_f (fq_256n0 h) (br_t h hp)
theorem fq_spI {post : Int32 → Prop} {j : Nat} (hj : j < 256) (hp : post 1) : wpX_inSpan post (nI j) := by
  unfold wpX_inSpan
  exact br_f (fq_nneg (by omega)) (br_f (fq_n256 hj) hp)
theorem fq_nuO {post : Int32 → Prop} {a : Nat → Int32} {x : Int32} (h : x < 0 ∨ (256 : Int32) ≤ x) (hp : post 0) : wpY_number post a x := by
  unfold wpY_number
  rcases h with h | h
  · exact br_t h hp
  · exact br_f (fq_256n0 h) (br_t (fq_256_255 h) hp)
theorem fq_nuI {post : Int32 → Prop} {a : Nat → Int32} {j : Nat} (hj : j < 256) (hp : post 1) : wpY_number post a (nI j) := by
  unfold wpY_number
  exact br_f (fq_nneg (by omega)) (br_f (fq_n255 hj) hp)

theorem fq_meXO {post : Int32 → Prop} {a : Nat → Int32} {x : Int32} (h : x < 0 ∨ (256 : Int32) ≤ x) (hp : post 0) : wpX_member post a x := by
  unfold wpX_member
  exact fq_spO h (br_t rfl hp)
theorem fq_meX0 {post : Int32 → Prop} {a : Nat → Int32} {j : Nat} (hj : j < 256) (z : a j = 0) (hp : post 0) : wpX_member post a (nI j) := by
  unfold wpX_member
  exact fq_spI hj (br_f fq_ne10 ⟨fq_in hj, br_t (fq_z0 hj z) hp⟩)
theorem fq_meX1 {post : Int32 → Prop} {a : Nat → Int32} {j : Nat} (hj : j < 256) (z : ¬ a j = 0) (hp : post 1) : wpX_member post a (nI j) := by
  unfold wpX_member
  exact fq_spI hj (br_f fq_ne10 ⟨fq_in hj, br_f (fq_z1 hj z) hp⟩)
theorem fq_meYO {post : Int32 → Prop} {a : Nat → Int32} {x : Int32} (h : x < 0 ∨ (256 : Int32) ≤ x) (hp : post 0) : wpY_member post a x := by
  unfold wpY_member
  exact fq_nuO h (br_t rfl hp)
theorem fq_meY0 {post : Int32 → Prop} {a : Nat → Int32} {j : Nat} (hj : j < 256) (z : a j = 0) (hp : post 0) : wpY_member post a (nI j) := by
  unfold wpY_member
  exact fq_nuI hj (br_f fq_ne10 ⟨fq_in hj, br_t (fq_z0 hj z) hp⟩)
theorem fq_meY1 {post : Int32 → Prop} {a : Nat → Int32} {j : Nat} (hj : j < 256) (z : ¬ a j = 0) (hp : post 1) : wpY_member post a (nI j) := by
  unfold wpY_member
  exact fq_nuI hj (br_f fq_ne10 ⟨fq_in hj, br_f (fq_z1 hj z) hp⟩)

theorem fq_inXO {post : Int32 → SX → Prop} {a : Nat → Int32} {x : Int32} (h : x < 0 ∨ (256 : Int32) ≤ x) (hp : post 0 a) : wpX_insert post a x := by
  unfold wpX_insert
  exact fq_spO h (br_t rfl hp)
theorem fq_inX0 {post : Int32 → SX → Prop} {a : Nat → Int32} {j : Nat} (hj : j < 256) (z : a j = 0) (hp : post 1 (upd a j 1)) : wpX_insert post a (nI j) := by
  unfold wpX_insert
  exact fq_spI hj (br_f fq_ne10 ⟨fq_in hj, br_t (fq_z0 hj z) ⟨fq_in hj, nm_r (fq_u1 hj) hp⟩⟩)
theorem fq_inX1 {post : Int32 → SX → Prop} {a : Nat → Int32} {j : Nat} (hj : j < 256) (z : ¬ a j = 0) (hp : post 0 a) : wpX_insert post a (nI j) := by
  unfold wpX_insert
  exact fq_spI hj (br_f fq_ne10 ⟨fq_in hj, br_f (fq_z1 hj z) hp⟩)
theorem fq_inYO {post : Int32 → SY → Prop} {a : Nat → Int32} {x : Int32} (h : x < 0 ∨ (256 : Int32) ≤ x) (hp : post 0 a) : wpY_insert post a x := by
  unfold wpY_insert
  exact fq_nuO h (br_t rfl hp)
theorem fq_inY0 {post : Int32 → SY → Prop} {a : Nat → Int32} {j : Nat} (hj : j < 256) (z : a j = 0) (hp : post 1 (upd a j 1)) : wpY_insert post a (nI j) := by
  unfold wpY_insert
  exact fq_nuI hj (br_f fq_ne10 ⟨fq_in hj, br_t (fq_z0 hj z) ⟨fq_in hj, nm_r (fq_u1 hj) hp⟩⟩)
theorem fq_inY1 {post : Int32 → SY → Prop} {a : Nat → Int32} {j : Nat} (hj : j < 256) (z : ¬ a j = 0) (hp : post 0 a) : wpY_insert post a (nI j) := by
  unfold wpY_insert
  exact fq_nuI hj (br_f fq_ne10 ⟨fq_in hj, br_f (fq_z1 hj z) hp⟩)

theorem fq_deXO {post : Int32 → SX → Prop} {a : Nat → Int32} {x : Int32} (h : x < 0 ∨ (256 : Int32) ≤ x) (hp : post 0 a) : wpX_delete post a x := by
  unfold wpX_delete
  exact fq_meXO h (br_t rfl hp)
theorem fq_deX0 {post : Int32 → SX → Prop} {a : Nat → Int32} {j : Nat} (hj : j < 256) (z : a j = 0) (hp : post 0 a) : wpX_delete post a (nI j) := by
  unfold wpX_delete
  exact fq_meX0 hj z (br_t rfl hp)
theorem fq_deX1 {post : Int32 → SX → Prop} {a : Nat → Int32} {j : Nat} (hj : j < 256) (z : ¬ a j = 0) (hp : post 1 (upd a j 0)) : wpX_delete post a (nI j) := by
  unfold wpX_delete
  exact fq_meX1 hj z (br_f fq_ne10 ⟨fq_in hj, nm_r (fq_u0 hj) hp⟩)
theorem fq_deYO {post : Int32 → SY → Prop} {a : Nat → Int32} {x : Int32} (h : x < 0 ∨ (256 : Int32) ≤ x) (hp : post 0 a) : wpY_delete post a x := by
  unfold wpY_delete
  exact fq_nuO h (br_t rfl hp)
theorem fq_deY0 {post : Int32 → SY → Prop} {a : Nat → Int32} {j : Nat} (hj : j < 256) (z : a j = 0) (hp : post 0 a) : wpY_delete post a (nI j) := by
  unfold wpY_delete
  exact fq_nuI hj (br_f fq_ne10 ⟨fq_in hj, br_t (fq_z0 hj z) hp⟩)
theorem fq_deY1 {post : Int32 → SY → Prop} {a : Nat → Int32} {j : Nat} (hj : j < 256) (z : ¬ a j = 0) (hp : post 1 (upd a j 0)) : wpY_delete post a (nI j) := by
  unfold wpY_delete
  exact fq_nuI hj (br_f fq_ne10 ⟨fq_in hj, br_f (fq_z1 hj z) ⟨fq_in hj, nm_r (fq_u0 hj) hp⟩⟩)
end
section
/-! 03: after, before, select, gapFrom: both sides in lockstep -/
/-- r is the least member above x from j on -/
def fq_Hj (a : Nat → Int32) (x : Int) (j : Nat) (r : Int32) : Prop :=
  (r = -1 ∧ ∀ l : Nat, j ≤ l → l < 256 → x < (l : Int) → a l = 0) ∨ ∃ i : Nat, i < 256 ∧ r = nI i ∧ x < (i : Int) ∧ ¬ a i = 0 ∧ ∀ l : Nat, j ≤ l → l < 256 → x < (l : Int) → ¬ a l = 0 → i ≤ l
theorem fq_Hj_skip {a : Nat → Int32} {x : Int} {j : Nat} {r : Int32} (h : fq_Hj a x (j + 1) r) (z : x < (j : Int) → a j = 0) : fq_Hj a x j r := by
  rcases h with ⟨h1, h2⟩ | ⟨i, h1, h2, h3, h4, h5⟩
  · refine Or.inl ⟨h1, fun l g1 g2 g3 => ?_⟩
    by_cases e : l = j
    · rw [e] at g3; rw [e]; exact z g3
    · exact h2 l (by omega) g2 g3
  · refine Or.inr ⟨i, h1, h2, h3, h4, fun l g1 g2 g3 g4 => ?_⟩
    by_cases e : l = j
    · rw [e] at g3 g4; exact absurd (z g3) g4
    · exact h5 l (by omega) g2 g3 g4
theorem fq_after (a : Nat → Int32) (x : Int32) : ∀ d j : Nat, j + d = 256 → ∃ r : Int32, fq_Hj a x.toInt j r ∧ (∀ post : Int32 → Prop, post r → wX_after_2 post x a (d + 1) (nI j)) ∧ (∀ post : Int32 → Prop, post r → wY_after_2 post x a (d + 1) (nI j)) := by
  intro d
  induction d with
  | zero =>
    intro j hj
    obtain rfl : j = 256 := by omega
    exact ⟨-1, Or.inl ⟨rfl, fun l h1 h2 => by omega⟩, fun _ hp => br_t fq_y256 hp, fun _ hp => br_t fq_y256 hp⟩
  | succ d ih =>
    intro j hj
    have hj2 : j < 256 := by omega
    have h := fq_n256 hj2
    have hi := fq_in hj2
    by_cases hx : nI j ≤ x
    · obtain ⟨r, hr, hX, hY⟩ := ih (j + 1) (by omega)
      have hx2 := (fq_le (by omega) x).mp hx
      exact ⟨r, fq_Hj_skip hr (fun t => by omega), fun post hp => br_f h (br_t hx (nm_r (nI_1 j) (hX post hp))), fun post hp => br_f h (br_t hx (nm_r (nI_1 j) (hY post hp)))⟩
    · by_cases z : a j = 0
      · obtain ⟨r, hr, hX, hY⟩ := ih (j + 1) (by omega)
        exact ⟨r, fq_Hj_skip hr (fun _ => z), fun post hp => br_f h (br_f hx ⟨hi, br_t (fq_z0 hj2 z) (nm_r (nI_1 j) (hX post hp))⟩), fun post hp => br_f h (br_f hx ⟨hi, br_t (fq_z0 hj2 z) (nm_r (nI_1 j) (hY post hp))⟩)⟩
      · have hx2 : ¬ (j : Int) ≤ x.toInt := fun t => hx ((fq_le (by omega) x).mpr t)
        exact ⟨nI j, Or.inr ⟨j, hj2, rfl, by omega, z, fun l h1 _ _ _ => h1⟩, fun post hp => br_f h (br_f hx ⟨hi, br_f (fq_z1 hj2 z) hp⟩), fun post hp => br_f h (br_f hx ⟨hi, br_f (fq_z1 hj2 z) hp⟩)⟩
theorem fq_aft (a : Nat → Int32) (x : Int32) : ∃ r : Int32, fq_Hi a x.toInt r ∧ (∀ post : Int32 → Prop, post r → wpX_after post a x) ∧ (∀ post : Int32 → Prop, post r → wpY_after post a x) := by
  obtain ⟨r, hr, hX, hY⟩ := fq_after a x 256 0 rfl
  rw [nI_0] at hX hY
  refine ⟨r, ?_, fun post hp => ⟨_, hX post hp⟩, fun post hp => ⟨_, hY post hp⟩⟩
  rcases hr with ⟨h1, h2⟩ | ⟨i, h1, h2, h3, h4, h5⟩
  · exact Or.inl ⟨h1, fun l => h2 l (Nat.zero_le l)⟩
  · exact Or.inr ⟨i, h1, h2, h3, h4, fun l => h5 l (Nat.zero_le l)⟩
/-- r is the greatest member below x and below d -/
def fq_Lj (a : Nat → Int32) (x : Int) (d : Nat) (r : Int32) : Prop :=
  (r = -1 ∧ ∀ l : Nat, l < d → (l : Int) < x → a l = 0) ∨ ∃ i : Nat, i < 256 ∧ r = nI i ∧ (i : Int) < x ∧ ¬ a i = 0 ∧ ∀ l : Nat, l < d → (l : Int) < x → ¬ a l = 0 → l ≤ i
theorem fq_Lj_skip {a : Nat → Int32} {x : Int} {d : Nat} {r : Int32} (h : fq_Lj a x d r) (z : (d : Int) < x → a d = 0) : fq_Lj a x (d + 1) r := by
  rcases h with ⟨h1, h2⟩ | ⟨i, h1, h2, h3, h4, h5⟩
  · refine Or.inl ⟨h1, fun l g1 g3 => ?_⟩
    by_cases e : l = d
    · rw [e] at g3; rw [e]; exact z g3
    · exact h2 l (by omega) g3
  · refine Or.inr ⟨i, h1, h2, h3, h4, fun l g1 g3 g4 => ?_⟩
    by_cases e : l = d
    · rw [e] at g3 g4; exact absurd (z g3) g4
    · exact h5 l (by omega) g3 g4
theorem fq_start0 : nI 0 + (-1) < 0 := by decide +kernel
theorem fq_start255 : nI 256 + (-1) = 255 := by decide +kernel
theorem fq_before (a : Nat → Int32) (x : Int32) : ∀ d : Nat, d ≤ 256 → ∃ r : Int32, fq_Lj a x.toInt d r ∧ (∀ post : Int32 → Prop, post r → wX_before_4 post x a (d + 1) (nI d + (-1))) ∧ (∀ post : Int32 → Prop, post r → wY_before_4 post x a (d + 1) (nI d + (-1))) := by
  intro d
  induction d with
  | zero =>
    intro _
    exact ⟨-1, Or.inl ⟨rfl, fun l h1 => absurd h1 (Nat.not_lt_zero l)⟩, fun _ hp => br_t fq_start0 hp, fun _ hp => br_t fq_start0 hp⟩
  | succ d ih =>
    intro hd
    have hd2 : d < 256 := by omega
    have h : ¬ nI d < 0 := fq_nneg (by omega)
    have hi := fq_in hd2
    rw [fq_m1 d]
    by_cases hx : x ≤ nI d
    · obtain ⟨r, hr, hX, hY⟩ := ih (by omega)
      have hx2 := (fq_ge (by omega) x).mp hx
      exact ⟨r, fq_Lj_skip hr (fun t => by omega), fun post hp => br_f h (br_t hx (nm_e (hX post hp))), fun post hp => br_f h (br_t hx (nm_e (hY post hp)))⟩
    · by_cases z : a d = 0
      · obtain ⟨r, hr, hX, hY⟩ := ih (by omega)
        exact ⟨r, fq_Lj_skip hr (fun _ => z), fun post hp => br_f h (br_f hx ⟨hi, br_t (fq_z0 hd2 z) (nm_e (hX post hp))⟩), fun post hp => br_f h (br_f hx ⟨hi, br_t (fq_z0 hd2 z) (nm_e (hY post hp))⟩)⟩
      · have hx2 : ¬ x.toInt ≤ (d : Int) := fun t => hx ((fq_ge (by omega) x).mpr t)
        exact ⟨nI d, Or.inr ⟨d, hd2, rfl, by omega, z, fun l h1 _ _ => by omega⟩, fun post hp => br_f h (br_f hx ⟨hi, br_f (fq_z1 hd2 z) hp⟩), fun post hp => br_f h (br_f hx ⟨hi, br_f (fq_z1 hd2 z) hp⟩)⟩
theorem fq_bef (a : Nat → Int32) (x : Int32) : ∃ r : Int32, fq_Lo a x.toInt r ∧ (∀ post : Int32 → Prop, post r → wpX_before post a x) ∧ (∀ post : Int32 → Prop, post r → wpY_before post a x) := by
  obtain ⟨r, hr, hX, hY⟩ := fq_before a x 256 (Nat.le_refl 256)
  rw [fq_start255] at hX hY
  exact ⟨r, hr, fun post hp => ⟨_, hX post hp⟩, fun post hp => ⟨_, hY post hp⟩⟩
theorem fq_select (a : Nat → Int32) (x : Int32) : ∀ (d j : Nat) (c : Int32), j + d = 256 → ∃ r : Int32, (∀ post : Int32 → Prop, post r → wX_select_4 post x a (d + 1) c (nI j)) ∧ (∀ post : Int32 → Prop, post r → wY_select_4 post x a (d + 1) c (nI j)) := by
  intro d
  induction d with
  | zero =>
    intro j c hj
    obtain rfl : j = 256 := by omega
    exact ⟨-1, fun _ hp => br_t fq_y256 hp, fun _ hp => br_t fq_y256 hp⟩
  | succ d ih =>
    intro j c hj
    have hj2 : j < 256 := by omega
    have h := fq_n256 hj2
    have hi := fq_in hj2
    by_cases z : a j = 0
    · obtain ⟨r, hX, hY⟩ := ih (j + 1) c (by omega)
      exact ⟨r, fun post hp => br_f h ⟨hi, br_t (fq_z0 hj2 z) (nm_r (nI_1 j) (hX post hp))⟩, fun post hp => br_f h ⟨hi, br_t (fq_z0 hj2 z) (nm_r (nI_1 j) (hY post hp))⟩⟩
    · by_cases e : c = x
      · exact ⟨nI j, fun post hp => br_f h ⟨hi, br_f (fq_z1 hj2 z) (br_t e hp)⟩, fun post hp => br_f h ⟨hi, br_f (fq_z1 hj2 z) (br_t e hp)⟩⟩
      · obtain ⟨r, hX, hY⟩ := ih (j + 1) (c + 1) (by omega)
        exact ⟨r, fun post hp => br_f h ⟨hi, br_f (fq_z1 hj2 z) (br_f e (nm_e (nm_r (nI_1 j) (hX post hp))))⟩, fun post hp => br_f h ⟨hi, br_f (fq_z1 hj2 z) (br_f e (nm_e (nm_r (nI_1 j) (hY post hp))))⟩⟩
theorem fq_sel (a : Nat → Int32) (x : Int32) : ∃ r : Int32, (∀ post : Int32 → Prop, post r → wpX_select post a x) ∧ (∀ post : Int32 → Prop, post r → wpY_select post a x) := by
  obtain ⟨r, hX, hY⟩ := fq_select a x 256 0 0 rfl
  rw [nI_0] at hX hY
  exact ⟨r, fun post hp => ⟨_, hX post hp⟩, fun post hp => ⟨_, hY post hp⟩⟩
theorem fq_gap (a : Nat → Int32) : ∀ d j : Nat, j + d = 256 → ∃ r : Int32, (∀ post : Int32 → Prop, post r → wX_gapFrom_11 post a (d + 1) (nI j)) ∧ (∀ post : Int32 → Prop, post r → wY_gapFrom_2 post a (d + 1) (nI j)) := by
  intro d
  induction d with
  | zero =>
    intro j hj
    obtain rfl : j = 256 := by omega
    refine ⟨-1, fun _ hp => br_t fq_y256 hp, fun post hp => ?_⟩
    rw [wY_gapFrom_2]
    exact fq_nuO (Or.inr fq_y256) (br_t rfl hp)
  | succ d ih =>
    intro j hj
    have hj2 : j < 256 := by omega
    have h := fq_n256 hj2
    have hi := fq_in hj2
    by_cases z : a j = 0
    · refine ⟨nI j, fun post hp => br_f h ⟨hi, br_t (fq_z0 hj2 z) hp⟩, fun post hp => ?_⟩
      rw [wY_gapFrom_2]
      exact fq_nuI hj2 (br_f fq_ne10 ⟨hi, br_t (fq_z0 hj2 z) hp⟩)
    · obtain ⟨r, hX, hY⟩ := ih (j + 1) (by omega)
      refine ⟨r, fun post hp => br_f h ⟨hi, br_f (fq_z1 hj2 z) (nm_r (nI_1 j) (hX post hp))⟩, fun post hp => ?_⟩
      rw [wY_gapFrom_2]
      exact fq_nuI hj2 (br_f fq_ne10 ⟨hi, br_f (fq_z1 hj2 z) (nm_r (nI_1 j) (hY post hp))⟩)
theorem fq_gapF (a : Nat → Int32) (x : Int32) : ∃ r : Int32, (∀ post : Int32 → Prop, post r → wpX_gapFrom post a x) ∧ (∀ post : Int32 → Prop, post r → wpY_gapFrom post a x) := by
  have out : (x < 0 ∨ (256 : Int32) ≤ x) → ∃ r : Int32, (∀ post : Int32 → Prop, post r → wpX_gapFrom post a x) ∧ (∀ post : Int32 → Prop, post r → wpY_gapFrom post a x) := by
    intro h
    refine ⟨-1, fun post hp => ?_, fun post hp => ?_⟩
    · unfold wpX_gapFrom
      exact fq_spO h (br_t rfl hp)
    · unfold wpY_gapFrom
      refine ⟨1, ?_⟩
      rw [wY_gapFrom_2]
      exact fq_nuO h (br_t rfl hp)
  rcases fq_ix x with h | h | ⟨j, hj, rfl⟩
  · exact out (Or.inl h)
  · exact out (Or.inr h)
  · obtain ⟨r, hX, hY⟩ := fq_gap a (256 - j) j (by omega)
    refine ⟨r, fun post hp => ?_, fun post hp => ⟨_, hY post hp⟩⟩
    unfold wpX_gapFrom
    exact fq_spI hj (br_f fq_ne10 ⟨_, hX post hp⟩)
end
section
/-! 04: countBetween, deleteBetween: each side against the pure count and the pure array -/
theorem fq_cb_lo {a : Nat → Int32} {p q : Int32} {j : Nat} (h : nI j < p) : ¬ (p ≤ nI j ∧ nI j ≤ q ∧ ¬ a j = 0) := fun c => Int32.not_le.mpr h c.1
theorem fq_cb_hi {a : Nat → Int32} {p q : Int32} {j : Nat} (h : q < nI j) : ¬ (p ≤ nI j ∧ nI j ≤ q ∧ ¬ a j = 0) := fun c => Int32.not_le.mpr h c.2.1
theorem fq_cb_z {a : Nat → Int32} {p q : Int32} {j : Nat} (h : a j = 0) : ¬ (p ≤ nI j ∧ nI j ≤ q ∧ ¬ a j = 0) := fun c => c.2.2 h
theorem fq_cbX (a : Nat → Int32) (p q : Int32) (post : Int32 → Prop) (hp : post (fq_cn a p q 256)) : ∀ d j : Nat, j + d = 256 → wX_countBetween_5 post p q a (d + 1) (fq_cn a p q j) (nI j) := by
  intro d
  induction d with
  | zero =>
    intro j hj
    obtain rfl : j = 256 := by omega
    exact br_t fq_y256 hp
  | succ d ih =>
    intro j hj
    have hj2 : j < 256 := by omega
    have h := fq_n256 hj2
    have hi := fq_in hj2
    have I := ih (j + 1) (by omega)
    by_cases h1 : nI j < p
    · rw [fq_cn_n (fq_cb_lo h1)] at I
      exact br_f h (br_t h1 (nm_r (nI_1 j) I))
    · by_cases h2 : q < nI j
      · rw [fq_cn_n (fq_cb_hi h2)] at I
        exact br_f h (br_f h1 (br_t h2 (nm_r (nI_1 j) I)))
      · by_cases z : a j = 0
        · rw [fq_cn_n (fq_cb_z z)] at I
          exact br_f h (br_f h1 (br_f h2 ⟨hi, br_t (fq_z0 hj2 z) (nm_r (nI_1 j) I)⟩))
        · rw [fq_cn_y (Int32.not_lt.mp h1) (Int32.not_lt.mp h2) z] at I
          exact br_f h (br_f h1 (br_f h2 ⟨hi, br_f (fq_z1 hj2 z) (nm_e (nm_r (nI_1 j) I))⟩))
theorem fq_cbY (a : Nat → Int32) (p q : Int32) (post : Int32 → Prop) (hp : post (fq_cn a p q 256)) : ∀ d j : Nat, j + d = 256 → wY_countBetween_5 post p q a (d + 1) (fq_cn a p q j) (nI j) := by
  intro d
  induction d with
  | zero =>
    intro j hj
    obtain rfl : j = 256 := by omega
    exact br_t fq_y256 hp
  | succ d ih =>
    intro j hj
    have hj2 : j < 256 := by omega
    have h := fq_n256 hj2
    have hi := fq_in hj2
    have I := ih (j + 1) (by omega)
    by_cases z : a j = 0
    · rw [fq_cn_n (fq_cb_z z)] at I
      exact br_f h ⟨hi, br_t (fq_z0 hj2 z) (nm_r (nI_1 j) I)⟩
    · by_cases h1 : nI j < p
      · rw [fq_cn_n (fq_cb_lo h1)] at I
        exact br_f h ⟨hi, br_f (fq_z1 hj2 z) (br_t h1 (nm_r (nI_1 j) I))⟩
      · by_cases h2 : q < nI j
        · rw [fq_cn_n (fq_cb_hi h2)] at I
          exact br_f h ⟨hi, br_f (fq_z1 hj2 z) (br_f h1 (br_t h2 (nm_r (nI_1 j) I)))⟩
        · rw [fq_cn_y (Int32.not_lt.mp h1) (Int32.not_lt.mp h2) z] at I
          exact br_f h ⟨hi, br_f (fq_z1 hj2 z) (br_f h1 (br_f h2 (nm_e (nm_r (nI_1 j) I))))⟩
theorem fq_countX {a : Nat → Int32} {p q : Int32} {post : Int32 → Prop} (hp : post (fq_cn a p q 256)) : wpX_countBetween post a p q := by
  have I := fq_cbX a p q post hp 256 0 rfl
  rw [nI_0] at I
  exact ⟨_, I⟩
theorem fq_countY {a : Nat → Int32} {p q : Int32} {post : Int32 → Prop} (hp : post (fq_cn a p q 256)) : wpY_countBetween post a p q := by
  have I := fq_cbY a p q post hp 256 0 rfl
  rw [nI_0] at I
  exact ⟨_, I⟩
theorem fq_dz0 {a : Nat → Int32} {p q : Int32} {j : Nat} (hj : j < 256) (z : a j = 0) : fq_db a p q j (nI j).toNatClampNeg = 0 := by
  rw [nI_clamp (by omega), fq_db_at]; exact z
theorem fq_dz1 {a : Nat → Int32} {p q : Int32} {j : Nat} (hj : j < 256) (z : ¬ a j = 0) : ¬ fq_db a p q j (nI j).toNatClampNeg = 0 := by
  rw [nI_clamp (by omega), fq_db_at]; exact z
theorem fq_dbX (a : Nat → Int32) (p q : Int32) (post : Int32 → SX → Prop) (hp : post (fq_cn a p q 256) (fq_db a p q 256)) : ∀ d j : Nat, j + d = 256 → wX_deleteBetween_5 post p q (d + 1) (fq_cn a p q j) (nI j) (fq_db a p q j) := by
  intro d
  induction d with
  | zero =>
    intro j hj
    obtain rfl : j = 256 := by omega
    exact br_t fq_y256 hp
  | succ d ih =>
    intro j hj
    have hj2 : j < 256 := by omega
    have h := fq_n256 hj2
    have hi := fq_in hj2
    have I := ih (j + 1) (by omega)
    by_cases h1 : nI j < p
    · rw [fq_cn_n (fq_cb_lo h1), fq_db_skip (fq_cb_lo h1)] at I
      exact br_f h (br_t h1 (nm_r (nI_1 j) I))
    · by_cases h2 : q < nI j
      · rw [fq_cn_n (fq_cb_hi h2), fq_db_skip (fq_cb_hi h2)] at I
        exact br_f h (br_f h1 (br_t h2 (nm_r (nI_1 j) I)))
      · by_cases z : a j = 0
        · rw [fq_cn_n (fq_cb_z z), fq_db_skip (fq_cb_z z)] at I
          exact br_f h (br_f h1 (br_f h2 ⟨hi, br_t (fq_dz0 hj2 z) (nm_r (nI_1 j) I)⟩))
        · have g1 := Int32.not_lt.mp h1
          have g2 := Int32.not_lt.mp h2
          rw [fq_cn_y g1 g2 z] at I
          have e : upd (fq_db a p q j) (nI j).toNatClampNeg (vp_nar .boolean 0) = fq_db a p q (j + 1) := by
            rw [fq_u0 hj2]; exact fq_db_put (fq_db_in g1 g2).symm
          exact br_f h (br_f h1 (br_f h2 ⟨hi, br_f (fq_dz1 hj2 z) ⟨hi, nm_r e (nm_e (nm_r (nI_1 j) I))⟩⟩))
theorem fq_dbY (a : Nat → Int32) (B : fq_B a) (p q c : Int32) (post : Int32 → SY → Prop) (hp : post c (fq_db a p q 256)) : ∀ d j : Nat, j + d = 256 → wY_deleteBetween_10 post p q c (d + 1) (nI j) (fq_db a p q j) := by
  intro d
  induction d with
  | zero =>
    intro j hj
    obtain rfl : j = 256 := by omega
    exact br_t fq_y256 hp
  | succ d ih =>
    intro j hj
    have hj2 : j < 256 := by omega
    have h := fq_n256 hj2
    have hi := fq_in hj2
    have I := ih (j + 1) (by omega)
    by_cases z : a j = 0
    · have e : upd (fq_db a p q j) (nI j).toNatClampNeg (vp_nar .boolean 0) = fq_db a p q (j + 1) := by
        rw [fq_u0 hj2]
        refine fq_db_put ?_
        by_cases c : p ≤ nI j ∧ nI j ≤ q
        · exact (fq_db_in c.1 c.2).symm
        · rw [fq_db_out c, z]
      exact br_f h ⟨hi, br_t (fq_dz0 hj2 z) ⟨hi, nm_r e (nm_r (nI_1 j) I)⟩⟩
    · by_cases h1 : nI j < p
      · have e : upd (fq_db a p q j) (nI j).toNatClampNeg (vp_nar .boolean 1) = fq_db a p q (j + 1) := by
          rw [fq_u1 hj2]
          refine fq_db_put ?_
          rw [fq_db_out (fun c => Int32.not_le.mpr h1 c.1), fq_B_1 B hj2 z]
        exact br_f h ⟨hi, br_f (fq_dz1 hj2 z) (br_t h1 ⟨hi, nm_r e (nm_r (nI_1 j) I)⟩)⟩
      · by_cases h2 : nI j ≤ q
        · have e : upd (fq_db a p q j) (nI j).toNatClampNeg (vp_nar .boolean 0) = fq_db a p q (j + 1) := by
            rw [fq_u0 hj2]; exact fq_db_put (fq_db_in (Int32.not_lt.mp h1) h2).symm
          exact br_f h ⟨hi, br_f (fq_dz1 hj2 z) (br_f h1 (br_t h2 ⟨hi, nm_r e (nm_r (nI_1 j) I)⟩))⟩
        · have e : upd (fq_db a p q j) (nI j).toNatClampNeg (vp_nar .boolean 1) = fq_db a p q (j + 1) := by
            rw [fq_u1 hj2]
            refine fq_db_put ?_
            rw [fq_db_out (fun c => h2 c.2), fq_B_1 B hj2 z]
          exact br_f h ⟨hi, br_f (fq_dz1 hj2 z) (br_f h1 (br_f h2 ⟨hi, nm_r e (nm_r (nI_1 j) I)⟩))⟩
theorem fq_delX {a : Nat → Int32} {p q : Int32} {post : Int32 → SX → Prop} (hp : post (fq_cn a p q 256) (fq_db a p q 256)) : wpX_deleteBetween post a p q := by
  have I := fq_dbX a p q post hp 256 0 rfl
  rw [nI_0, fq_db_0] at I
  exact ⟨_, I⟩
theorem fq_delY {a : Nat → Int32} (B : fq_B a) {p q : Int32} {post : Int32 → SY → Prop} (hp : post (fq_cn a p q 256) (fq_db a p q 256)) : wpY_deleteBetween post a p q := by
  unfold wpY_deleteBetween
  refine fq_countY ?_
  have I := fq_dbY a B p q (fq_cn a p q 256) post hp 256 0 rfl
  rw [nI_0, fq_db_0] at I
  exact ⟨_, I⟩
end
section
/-! 05: nearest: either side gives the one nearest member -/
theorem fq_nrX (a : Nat → Int32) (x : Int32) (no : ∀ i : Nat, i < 256 → x.toInt = (i : Int) → a i = 0) (M : ∀ post : Int32 → Prop, post 0 → wpX_member post a x) : ∃ r : Int32, fq_Best a x.toInt 256 r ∧ ∀ post : Int32 → Prop, post r → wpX_nearest post a x := by
  obtain ⟨s, hs, hB, _⟩ := fq_bef a x
  obtain ⟨t, ht, hA, _⟩ := fq_aft a x
  by_cases e1 : s = -1
  · refine ⟨t, fq_nr_up no hs ht e1, fun post hp => ?_⟩
    unfold wpX_nearest
    exact M _ (br_t rfl (hB _ (hA _ (br_t e1 hp))))
  · by_cases e2 : t = -1
    · refine ⟨s, fq_nr_down no hs ht e2, fun post hp => ?_⟩
      unfold wpX_nearest
      exact M _ (br_t rfl (hB _ (hA _ (br_f e1 (br_t e2 hp)))))
    · by_cases e3 : t - x < x - s
      · refine ⟨t, (fq_nr_two no hs ht e1 e2).1 e3, fun post hp => ?_⟩
        unfold wpX_nearest
        exact M _ (br_t rfl (hB _ (hA _ (br_f e1 (br_f e2 (br_t e3 hp))))))
      · refine ⟨s, (fq_nr_two no hs ht e1 e2).2 e3, fun post hp => ?_⟩
        unfold wpX_nearest
        exact M _ (br_t rfl (hB _ (hA _ (br_f e1 (br_f e2 (br_f e3 hp))))))
theorem fq_nearX (a : Nat → Int32) (x : Int32) : ∃ r : Int32, fq_Best a x.toInt 256 r ∧ ∀ post : Int32 → Prop, post r → wpX_nearest post a x := by
  rcases fq_ix x with h | h | ⟨j, hj, rfl⟩
  · refine fq_nrX a x (fun i hi e => ?_) (fun post hp => fq_meXO (Or.inl h) hp)
    rw [Int32.lt_iff_toInt_lt, fq_0i] at h
    omega
  · refine fq_nrX a x (fun i hi e => ?_) (fun post hp => fq_meXO (Or.inr h) hp)
    rw [← fq_256, fq_le (by omega)] at h
    omega
  · by_cases z : a j = 0
    · refine fq_nrX a (nI j) (fun i hi e => ?_) (fun post hp => fq_meX0 hj z hp)
      rw [nI_toInt (by omega)] at e
      obtain rfl : j = i := by omega
      exact z
    · refine ⟨nI j, ?_, fun post hp => ?_⟩
      · rw [nI_toInt (by omega)]
        exact fq_nr_mem hj z
      · unfold wpX_nearest
        exact fq_meX1 hj z (br_f fq_ne10 hp)
theorem fq_nr38 {a : Nat → Int32} {x : Int32} {n j : Nat} (hj : j < 256) (ih : ∀ (b : Int32) (l : Int64), fq_Bd a x.toInt (j + 1) b l.toInt → ∃ r : Int32, fq_Best a x.toInt 256 r ∧ ∀ post : Int32 → Prop, post r → wY_nearest_7 post x a n b l (nI (j + 1))) {b : Int32} {l : Int64} (h : fq_Bd a x.toInt j b l.toInt) {w : Int64} (hw : w.toInt = (fq_ds x.toInt j : Int)) : ∃ r : Int32, fq_Best a x.toInt 256 r ∧ ∀ post : Int32 → Prop, post r → wY_nearest_38 post (wY_nearest_7 post x a n) x b l (nI j) w a := by
  by_cases z : a j = 0
  · obtain ⟨r, hr, H⟩ := ih b l (fq_Bd_skip h z)
    exact ⟨r, hr, fun post hp => ⟨fq_in hj, br_t (fq_z0 hj z) (nm_r (nI_1 j) (H post hp))⟩⟩
  · by_cases c : b < 0
    · obtain ⟨r, hr, H⟩ := ih (nI j) w (fq_Bd_first hj h c z hw)
      exact ⟨r, hr, fun post hp => ⟨fq_in hj, br_f (fq_z1 hj z) (br_t c (nm_r (nI_1 j) (H post hp)))⟩⟩
    · by_cases t : l ≤ w
      · obtain ⟨r, hr, H⟩ := ih b l (fq_Bd_more h c hw (by rw [Int64.le_iff_toInt_le] at t; omega))
        exact ⟨r, hr, fun post hp => ⟨fq_in hj, br_f (fq_z1 hj z) (br_f c (br_t t (nm_r (nI_1 j) (H post hp))))⟩⟩
      · obtain ⟨r, hr, H⟩ := ih (nI j) w (fq_Bd_less h c z hw (by rw [Int64.le_iff_toInt_le] at t; omega))
        exact ⟨r, hr, fun post hp => ⟨fq_in hj, br_f (fq_z1 hj z) (br_f c (br_f t (nm_r (nI_1 j) (H post hp))))⟩⟩
theorem fq_nrY (a : Nat → Int32) (x : Int32) : ∀ d j : Nat, j + d = 256 → ∀ (b : Int32) (l : Int64), fq_Bd a x.toInt j b l.toInt → ∃ r : Int32, fq_Best a x.toInt 256 r ∧ ∀ post : Int32 → Prop, post r → wY_nearest_7 post x a (d + 1) b l (nI j) := by
  intro d
  induction d with
  | zero =>
    intro j hj b l hb
    obtain rfl : j = 256 := by omega
    exact ⟨b, fq_Bd_B hb, fun post hp => br_t fq_y256 hp⟩
  | succ d ih =>
    intro j hj b l hb
    have hj2 : j < 256 := by omega
    have h := fq_n256 hj2
    by_cases c : 0 ≤ (nI j).toInt64 - x.toInt64
    · obtain ⟨r, hr, H⟩ := fq_nr38 hj2 (ih (j + 1) (by omega)) hb (fq_dpos hj2 x (Int64.not_lt.mpr c))
      exact ⟨r, hr, fun post hp => br_f h (nm_e (br_t c (H post hp)))⟩
    · obtain ⟨r, hr, H⟩ := fq_nr38 hj2 (ih (j + 1) (by omega)) hb (fq_dneg hj2 x (Int64.not_le.mp c))
      exact ⟨r, hr, fun post hp => br_f h (nm_e (br_f c (H post hp)))⟩
theorem fq_nearY (a : Nat → Int32) (x : Int32) : ∃ r : Int32, fq_Best a x.toInt 256 r ∧ ∀ post : Int32 → Prop, post r → wpY_nearest post a x := by
  obtain ⟨r, hr, H⟩ := fq_nrY a x 256 0 rfl (-1) 0 (fq_Bd_0 a x.toInt _)
  rw [nI_0] at H
  exact ⟨r, hr, fun post hp => ⟨_, H post hp⟩⟩
theorem fq_near (a : Nat → Int32) (x : Int32) : ∃ r : Int32, (∀ post : Int32 → Prop, post r → wpX_nearest post a x) ∧ (∀ post : Int32 → Prop, post r → wpY_nearest post a x) := by
  obtain ⟨r, hr, hX⟩ := fq_nearX a x
  obtain ⟨s, hs, hY⟩ := fq_nearY a x
  obtain rfl := fq_uniq hr hs
  exact ⟨r, hX, hY⟩
theorem fq_takeL (a : Nat → Int32) (B : fq_B a) : ∃ (r : Int32) (b : Nat → Int32), fq_B b ∧ (∀ post : Int32 → SX → Prop, post r b → wpX_takeLeast post a) ∧ (∀ post : Int32 → SY → Prop, post r b → wpY_takeLeast post a) := by
  obtain ⟨r, hr, hX, hY⟩ := fq_aft a (-1)
  rcases hr with ⟨rfl, _⟩ | ⟨i, hi, rfl, _, z, _⟩
  · refine ⟨-1, a, B, fun post hp => ?_, fun post hp => ?_⟩
    · unfold wpX_takeLeast wpX_least
      exact hX _ (fq_deXO (Or.inl (by decide)) hp)
    · unfold wpY_takeLeast wpY_least
      exact hY _ (fq_deYO (Or.inl (by decide)) hp)
  · refine ⟨nI i, upd a i 0, fq_B_upd B (Or.inl rfl), fun post hp => ?_, fun post hp => ?_⟩
    · unfold wpX_takeLeast wpX_least
      exact hX _ (fq_deX1 hi z hp)
    · unfold wpY_takeLeast wpY_least
      exact hY _ (fq_deY1 hi z hp)
theorem fq_takeG (a : Nat → Int32) (B : fq_B a) : ∃ (r : Int32) (b : Nat → Int32), fq_B b ∧ (∀ post : Int32 → SX → Prop, post r b → wpX_takeGreatest post a) ∧ (∀ post : Int32 → SY → Prop, post r b → wpY_takeGreatest post a) := by
  obtain ⟨r, hr, hX, hY⟩ := fq_bef a 256
  rcases hr with ⟨rfl, _⟩ | ⟨i, hi, rfl, _, z, _⟩
  · refine ⟨-1, a, B, fun post hp => ?_, fun post hp => ?_⟩
    · unfold wpX_takeGreatest wpX_greatest
      exact hX _ (fq_deXO (Or.inl (by decide)) hp)
    · unfold wpY_takeGreatest wpY_greatest
      exact hY _ (fq_deYO (Or.inl (by decide)) hp)
  · refine ⟨nI i, upd a i 0, fq_B_upd B (Or.inl rfl), fun post hp => ?_, fun post hp => ?_⟩
    · unfold wpX_takeGreatest wpX_greatest
      exact hX _ (fq_deX1 hi z hp)
    · unfold wpY_takeGreatest wpY_greatest
      exact hY _ (fq_deY1 hi z hp)
end
section
/-! 06: the owed statements: the two arrays are one, of zeros and ones -/
def i_Rel (k : Nat) (u : SX) (v : SY) : Prop := u = v ∧ fq_B u
theorem fq_R {k : Nat} {a : Nat → Int32} (h : fq_B a) : i_Rel k a a := ⟨rfl, h⟩
theorem i_up {k : Nat} {u : SX} {v : SY} (h : i_Rel k u v) : i_Rel (k + 3) u v := h
theorem i_vc0 : wpX_init (fun u => wpY_init (fun v => i_Rel 0 u v)) := fq_R (k := 0) (a := fun _ => 0) (fun _ _ => Or.inl rfl)
theorem i_vc_insert {k : Nat} {u : SX} {v : SY} (I : i_Rel k u v) (hk : k + 3 ≤ 1536) (v1 : Int32) : wpX_insert (fun r u' => wpY_insert (fun r' v' => r' = r ∧ i_Rel (k + 3) u' v') v v1) u v1 := by
  obtain ⟨rfl, hB⟩ := I
  rcases fq_ix v1 with h | h | ⟨j, hj, rfl⟩
  · exact fq_inXO (Or.inl h) (fq_inYO (Or.inl h) ⟨rfl, fq_R hB⟩)
  · exact fq_inXO (Or.inr h) (fq_inYO (Or.inr h) ⟨rfl, fq_R hB⟩)
  · by_cases z : u j = 0
    · exact fq_inX0 hj z (fq_inY0 hj z ⟨rfl, fq_R (fq_B_upd hB (Or.inr rfl))⟩)
    · exact fq_inX1 hj z (fq_inY1 hj z ⟨rfl, fq_R hB⟩)
theorem i_vc_delete {k : Nat} {u : SX} {v : SY} (I : i_Rel k u v) (hk : k + 3 ≤ 1536) (v1 : Int32) : wpX_delete (fun r u' => wpY_delete (fun r' v' => r' = r ∧ i_Rel (k + 3) u' v') v v1) u v1 := by
  obtain ⟨rfl, hB⟩ := I
  rcases fq_ix v1 with h | h | ⟨j, hj, rfl⟩
  · exact fq_deXO (Or.inl h) (fq_deYO (Or.inl h) ⟨rfl, fq_R hB⟩)
  · exact fq_deXO (Or.inr h) (fq_deYO (Or.inr h) ⟨rfl, fq_R hB⟩)
  · by_cases z : u j = 0
    · exact fq_deX0 hj z (fq_deY0 hj z ⟨rfl, fq_R hB⟩)
    · exact fq_deX1 hj z (fq_deY1 hj z ⟨rfl, fq_R (fq_B_upd hB (Or.inl rfl))⟩)
theorem i_vc_member {k : Nat} {u : SX} {v : SY} (I : i_Rel k u v) (hk : k + 3 ≤ 1536) (v1 : Int32) : wpX_member (fun r => wpY_member (fun r' => r' = r ∧ i_Rel (k + 3) u v) v v1) u v1 := by
  obtain ⟨rfl, hB⟩ := I
  rcases fq_ix v1 with h | h | ⟨j, hj, rfl⟩
  · exact fq_meXO (Or.inl h) (fq_meYO (Or.inl h) ⟨rfl, fq_R hB⟩)
  · exact fq_meXO (Or.inr h) (fq_meYO (Or.inr h) ⟨rfl, fq_R hB⟩)
  · by_cases z : u j = 0
    · exact fq_meX0 hj z (fq_meY0 hj z ⟨rfl, fq_R hB⟩)
    · exact fq_meX1 hj z (fq_meY1 hj z ⟨rfl, fq_R hB⟩)
theorem i_vc_size {k : Nat} {u : SX} {v : SY} (I : i_Rel k u v) (hk : k + 3 ≤ 1536) : wpX_size (fun r => wpY_size (fun r' => r' = r ∧ i_Rel (k + 3) u v) v) u := by
  obtain ⟨rfl, hB⟩ := I
  unfold wpX_size wpY_size
  exact fq_countX (fq_countY ⟨rfl, fq_R hB⟩)
theorem i_vc_least {k : Nat} {u : SX} {v : SY} (I : i_Rel k u v) (hk : k + 3 ≤ 1536) : wpX_least (fun r => wpY_least (fun r' => r' = r ∧ i_Rel (k + 3) u v) v) u := by
  obtain ⟨rfl, hB⟩ := I
  obtain ⟨r, _, hX, hY⟩ := fq_aft u (-1)
  unfold wpX_least wpY_least
  exact hX _ (hY _ ⟨rfl, fq_R hB⟩)
theorem i_vc_greatest {k : Nat} {u : SX} {v : SY} (I : i_Rel k u v) (hk : k + 3 ≤ 1536) : wpX_greatest (fun r => wpY_greatest (fun r' => r' = r ∧ i_Rel (k + 3) u v) v) u := by
  obtain ⟨rfl, hB⟩ := I
  obtain ⟨r, _, hX, hY⟩ := fq_bef u 256
  unfold wpX_greatest wpY_greatest
  exact hX _ (hY _ ⟨rfl, fq_R hB⟩)
theorem i_vc_after {k : Nat} {u : SX} {v : SY} (I : i_Rel k u v) (hk : k + 3 ≤ 1536) (v1 : Int32) : wpX_after (fun r => wpY_after (fun r' => r' = r ∧ i_Rel (k + 3) u v) v v1) u v1 := by
  obtain ⟨rfl, hB⟩ := I
  obtain ⟨r, _, hX, hY⟩ := fq_aft u v1
  exact hX _ (hY _ ⟨rfl, fq_R hB⟩)
theorem i_vc_before {k : Nat} {u : SX} {v : SY} (I : i_Rel k u v) (hk : k + 3 ≤ 1536) (v1 : Int32) : wpX_before (fun r => wpY_before (fun r' => r' = r ∧ i_Rel (k + 3) u v) v v1) u v1 := by
  obtain ⟨rfl, hB⟩ := I
  obtain ⟨r, _, hX, hY⟩ := fq_bef u v1
  exact hX _ (hY _ ⟨rfl, fq_R hB⟩)
theorem i_vc_takeLeast {k : Nat} {u : SX} {v : SY} (I : i_Rel k u v) (hk : k + 3 ≤ 1536) : wpX_takeLeast (fun r u' => wpY_takeLeast (fun r' v' => r' = r ∧ i_Rel (k + 3) u' v') v) u := by
  obtain ⟨rfl, hB⟩ := I
  obtain ⟨r, b, hb, hX, hY⟩ := fq_takeL u hB
  exact hX _ (hY _ ⟨rfl, fq_R hb⟩)
theorem i_vc_takeGreatest {k : Nat} {u : SX} {v : SY} (I : i_Rel k u v) (hk : k + 3 ≤ 1536) : wpX_takeGreatest (fun r u' => wpY_takeGreatest (fun r' v' => r' = r ∧ i_Rel (k + 3) u' v') v) u := by
  obtain ⟨rfl, hB⟩ := I
  obtain ⟨r, b, hb, hX, hY⟩ := fq_takeG u hB
  exact hX _ (hY _ ⟨rfl, fq_R hb⟩)
theorem i_vc_countBetween {k : Nat} {u : SX} {v : SY} (I : i_Rel k u v) (hk : k + 3 ≤ 1536) (v1 : Int32) (v2 : Int32) : wpX_countBetween (fun r => wpY_countBetween (fun r' => r' = r ∧ i_Rel (k + 3) u v) v v1 v2) u v1 v2 := by
  obtain ⟨rfl, hB⟩ := I
  exact fq_countX (fq_countY ⟨rfl, fq_R hB⟩)
theorem i_vc_select {k : Nat} {u : SX} {v : SY} (I : i_Rel k u v) (hk : k + 3 ≤ 1536) (v1 : Int32) : wpX_select (fun r => wpY_select (fun r' => r' = r ∧ i_Rel (k + 3) u v) v v1) u v1 := by
  obtain ⟨rfl, hB⟩ := I
  obtain ⟨r, hX, hY⟩ := fq_sel u v1
  exact hX _ (hY _ ⟨rfl, fq_R hB⟩)
theorem i_vc_gapFrom {k : Nat} {u : SX} {v : SY} (I : i_Rel k u v) (hk : k + 3 ≤ 1536) (v1 : Int32) : wpX_gapFrom (fun r => wpY_gapFrom (fun r' => r' = r ∧ i_Rel (k + 3) u v) v v1) u v1 := by
  obtain ⟨rfl, hB⟩ := I
  obtain ⟨r, hX, hY⟩ := fq_gapF u v1
  exact hX _ (hY _ ⟨rfl, fq_R hB⟩)
theorem i_vc_deleteBetween {k : Nat} {u : SX} {v : SY} (I : i_Rel k u v) (hk : k + 3 ≤ 1536) (v1 : Int32) (v2 : Int32) : wpX_deleteBetween (fun r u' => wpY_deleteBetween (fun r' v' => r' = r ∧ i_Rel (k + 3) u' v') v v1 v2) u v1 v2 := by
  obtain ⟨rfl, hB⟩ := I
  exact fq_delX (fq_delY hB ⟨rfl, fq_R (fq_B_db v1 v2 256 hB)⟩)
theorem i_vc_nearest {k : Nat} {u : SX} {v : SY} (I : i_Rel k u v) (hk : k + 3 ≤ 1536) (v1 : Int32) : wpX_nearest (fun r => wpY_nearest (fun r' => r' = r ∧ i_Rel (k + 3) u v) v v1) u v1 := by
  obtain ⟨rfl, hB⟩ := I
  obtain ⟨r, hX, hY⟩ := fq_near u v1
  exact hX _ (hY _ ⟨rfl, fq_R hB⟩)
end
