/-! 03: after, before, select, gapFrom: both sides in lockstep -/
/-- r is the least member above x from j on -/
def fq_Hj (a : Nat → Int32) (x : Int) (j : Nat) (r : Int32) : Prop :=
  (r = -1 ∧ ∀ l : Nat, j ≤ l → l < 256 → x < (l : Int) → a l = 0) ∨ ∃ i : Nat, i < 256 ∧ r = nI i ∧ x < (i : Int) ∧ ¬ a i = 0 ∧ ∀ l : Nat, j ≤ l → l < 256 → x < (l : Int) → ¬ a l = 0 → i ≤ l
theorem fq_Hj_skip {a : Nat → Int32} {x : Int} {j : Nat} {r : Int32} (h : fq_Hj a x (j + 1) r) (z : x < (j : Int) → a j = 0) : fq_Hj a x j r := by
  rcases h with ⟨h1, h2⟩ | ⟨i, h1, h2, h3, h4, h5⟩
  · refine Or.inl ⟨h1, fun l g1 g2 g3 => ?_⟩
    by_cases e : l = j
    · rw [e] at g3; rw [e]; exact z g3
    · exact h2 l (by omega) g2 g3
  · refine Or.inr ⟨i, h1, h2, h3, h4, fun l g1 g2 g3 g4 => ?_⟩
    by_cases e : l = j
    · rw [e] at g3 g4; exact absurd (z g3) g4
    · exact h5 l (by omega) g2 g3 g4
theorem fq_after (a : Nat → Int32) (x : Int32) : ∀ d j : Nat, j + d = 256 → ∃ r : Int32, fq_Hj a x.toInt j r ∧ (∀ post : Int32 → Prop, post r → wX_after_2 post x a (d + 1) (nI j)) ∧ (∀ post : Int32 → Prop, post r → wY_after_2 post x a (d + 1) (nI j)) := by
  intro d
  induction d with
  | zero =>
    intro j hj
    obtain rfl : j = 256 := by omega
    exact ⟨-1, Or.inl ⟨rfl, fun l h1 h2 => by omega⟩, fun _ hp => br_t fq_y256 hp, fun _ hp => br_t fq_y256 hp⟩
  | succ d ih =>
    intro j hj
    have hj2 : j < 256 := by omega
    have h := fq_n256 hj2
    have hi := fq_in hj2
    by_cases hx : nI j ≤ x
    · obtain ⟨r, hr, hX, hY⟩ := ih (j + 1) (by omega)
      have hx2 := (fq_le (by omega) x).mp hx
      exact ⟨r, fq_Hj_skip hr (fun t => by omega), fun post hp => br_f h (br_t hx (nm_r (nI_1 j) (hX post hp))), fun post hp => br_f h (br_t hx (nm_r (nI_1 j) (hY post hp)))⟩
    · by_cases z : a j = 0
      · obtain ⟨r, hr, hX, hY⟩ := ih (j + 1) (by omega)
        exact ⟨r, fq_Hj_skip hr (fun _ => z), fun post hp => br_f h (br_f hx ⟨hi, br_t (fq_z0 hj2 z) (nm_r (nI_1 j) (hX post hp))⟩), fun post hp => br_f h (br_f hx ⟨hi, br_t (fq_z0 hj2 z) (nm_r (nI_1 j) (hY post hp))⟩)⟩
      · have hx2 : ¬ (j : Int) ≤ x.toInt := fun t => hx ((fq_le (by omega) x).mpr t)
        exact ⟨nI j, Or.inr ⟨j, hj2, rfl, by omega, z, fun l h1 _ _ _ => h1⟩, fun post hp => br_f h (br_f hx ⟨hi, br_f (fq_z1 hj2 z) hp⟩), fun post hp => br_f h (br_f hx ⟨hi, br_f (fq_z1 hj2 z) hp⟩)⟩
theorem fq_aft (a : Nat → Int32) (x : Int32) : ∃ r : Int32, fq_Hi a x.toInt r ∧ (∀ post : Int32 → Prop, post r → wpX_after post a x) ∧ (∀ post : Int32 → Prop, post r → wpY_after post a x) := by
  obtain ⟨r, hr, hX, hY⟩ := fq_after a x 256 0 rfl
  rw [nI_0] at hX hY
  refine ⟨r, ?_, fun post hp => ⟨_, hX post hp⟩, fun post hp => ⟨_, hY post hp⟩⟩
  rcases hr with ⟨h1, h2⟩ | ⟨i, h1, h2, h3, h4, h5⟩
  · exact Or.inl ⟨h1, fun l => h2 l (Nat.zero_le l)⟩
  · exact Or.inr ⟨i, h1, h2, h3, h4, fun l => h5 l (Nat.zero_le l)⟩
/-- r is the greatest member below x and below d -/
def fq_Lj (a : Nat → Int32) (x : Int) (d : Nat) (r : Int32) : Prop :=
  (r = -1 ∧ ∀ l : Nat, l < d → (l : Int) < x → a l = 0) ∨ ∃ i : Nat, i < 256 ∧ r = nI i ∧ (i : Int) < x ∧ ¬ a i = 0 ∧ ∀ l : Nat, l < d → (l : Int) < x → ¬ a l = 0 → l ≤ i
theorem fq_Lj_skip {a : Nat → Int32} {x : Int} {d : Nat} {r : Int32} (h : fq_Lj a x d r) (z : (d : Int) < x → a d = 0) : fq_Lj a x (d + 1) r := by
  rcases h with ⟨h1, h2⟩ | ⟨i, h1, h2, h3, h4, h5⟩
  · refine Or.inl ⟨h1, fun l g1 g3 => ?_⟩
    by_cases e : l = d
    · rw [e] at g3; rw [e]; exact z g3
    · exact h2 l (by omega) g3
  · refine Or.inr ⟨i, h1, h2, h3, h4, fun l g1 g3 g4 => ?_⟩
    by_cases e : l = d
    · rw [e] at g3 g4; exact absurd (z g3) g4
    · exact h5 l (by omega) g3 g4
theorem fq_start0 : nI 0 + (-1) < 0 := by decide +kernel
theorem fq_start255 : nI 256 + (-1) = 255 := by decide +kernel
theorem fq_before (a : Nat → Int32) (x : Int32) : ∀ d : Nat, d ≤ 256 → ∃ r : Int32, fq_Lj a x.toInt d r ∧ (∀ post : Int32 → Prop, post r → wX_before_4 post x a (d + 1) (nI d + (-1))) ∧ (∀ post : Int32 → Prop, post r → wY_before_4 post x a (d + 1) (nI d + (-1))) := by
  intro d
  induction d with
  | zero =>
    intro _
    exact ⟨-1, Or.inl ⟨rfl, fun l h1 => absurd h1 (Nat.not_lt_zero l)⟩, fun _ hp => br_t fq_start0 hp, fun _ hp => br_t fq_start0 hp⟩
  | succ d ih =>
    intro hd
    have hd2 : d < 256 := by omega
    have h : ¬ nI d < 0 := fq_nneg (by omega)
    have hi := fq_in hd2
    rw [fq_m1 d]
    by_cases hx : x ≤ nI d
    · obtain ⟨r, hr, hX, hY⟩ := ih (by omega)
      have hx2 := (fq_ge (by omega) x).mp hx
      exact ⟨r, fq_Lj_skip hr (fun t => by omega), fun post hp => br_f h (br_t hx (nm_e (hX post hp))), fun post hp => br_f h (br_t hx (nm_e (hY post hp)))⟩
    · by_cases z : a d = 0
      · obtain ⟨r, hr, hX, hY⟩ := ih (by omega)
        exact ⟨r, fq_Lj_skip hr (fun _ => z), fun post hp => br_f h (br_f hx ⟨hi, br_t (fq_z0 hd2 z) (nm_e (hX post hp))⟩), fun post hp => br_f h (br_f hx ⟨hi, br_t (fq_z0 hd2 z) (nm_e (hY post hp))⟩)⟩
      · have hx2 : ¬ x.toInt ≤ (d : Int) := fun t => hx ((fq_ge (by omega) x).mpr t)
        exact ⟨nI d, Or.inr ⟨d, hd2, rfl, by omega, z, fun l h1 _ _ => by omega⟩, fun post hp => br_f h (br_f hx ⟨hi, br_f (fq_z1 hd2 z) hp⟩), fun post hp => br_f h (br_f hx ⟨hi, br_f (fq_z1 hd2 z) hp⟩)⟩
theorem fq_bef (a : Nat → Int32) (x : Int32) : ∃ r : Int32, fq_Lo a x.toInt r ∧ (∀ post : Int32 → Prop, post r → wpX_before post a x) ∧ (∀ post : Int32 → Prop, post r → wpY_before post a x) := by
  obtain ⟨r, hr, hX, hY⟩ := fq_before a x 256 (Nat.le_refl 256)
  rw [fq_start255] at hX hY
  exact ⟨r, hr, fun post hp => ⟨_, hX post hp⟩, fun post hp => ⟨_, hY post hp⟩⟩
theorem fq_select (a : Nat → Int32) (x : Int32) : ∀ (d j : Nat) (c : Int32), j + d = 256 → ∃ r : Int32, (∀ post : Int32 → Prop, post r → wX_select_4 post x a (d + 1) c (nI j)) ∧ (∀ post : Int32 → Prop, post r → wY_select_4 post x a (d + 1) c (nI j)) := by
  intro d
  induction d with
  | zero =>
    intro j c hj
    obtain rfl : j = 256 := by omega
    exact ⟨-1, fun _ hp => br_t fq_y256 hp, fun _ hp => br_t fq_y256 hp⟩
  | succ d ih =>
    intro j c hj
    have hj2 : j < 256 := by omega
    have h := fq_n256 hj2
    have hi := fq_in hj2
    by_cases z : a j = 0
    · obtain ⟨r, hX, hY⟩ := ih (j + 1) c (by omega)
      exact ⟨r, fun post hp => br_f h ⟨hi, br_t (fq_z0 hj2 z) (nm_r (nI_1 j) (hX post hp))⟩, fun post hp => br_f h ⟨hi, br_t (fq_z0 hj2 z) (nm_r (nI_1 j) (hY post hp))⟩⟩
    · by_cases e : c = x
      · exact ⟨nI j, fun post hp => br_f h ⟨hi, br_f (fq_z1 hj2 z) (br_t e hp)⟩, fun post hp => br_f h ⟨hi, br_f (fq_z1 hj2 z) (br_t e hp)⟩⟩
      · obtain ⟨r, hX, hY⟩ := ih (j + 1) (c + 1) (by omega)
        exact ⟨r, fun post hp => br_f h ⟨hi, br_f (fq_z1 hj2 z) (br_f e (nm_e (nm_r (nI_1 j) (hX post hp))))⟩, fun post hp => br_f h ⟨hi, br_f (fq_z1 hj2 z) (br_f e (nm_e (nm_r (nI_1 j) (hY post hp))))⟩⟩
theorem fq_sel (a : Nat → Int32) (x : Int32) : ∃ r : Int32, (∀ post : Int32 → Prop, post r → wpX_select post a x) ∧ (∀ post : Int32 → Prop, post r → wpY_select post a x) := by
  obtain ⟨r, hX, hY⟩ := fq_select a x 256 0 0 rfl
  rw [nI_0] at hX hY
  exact ⟨r, fun post hp => ⟨_, hX post hp⟩, fun post hp => ⟨_, hY post hp⟩⟩
theorem fq_gap (a : Nat → Int32) : ∀ d j : Nat, j + d = 256 → ∃ r : Int32, (∀ post : Int32 → Prop, post r → wX_gapFrom_11 post a (d + 1) (nI j)) ∧ (∀ post : Int32 → Prop, post r → wY_gapFrom_2 post a (d + 1) (nI j)) := by
  intro d
  induction d with
  | zero =>
    intro j hj
    obtain rfl : j = 256 := by omega
    refine ⟨-1, fun _ hp => br_t fq_y256 hp, fun post hp => ?_⟩
    rw [wY_gapFrom_2]
    exact fq_nuO (Or.inr fq_y256) (br_t rfl hp)
  | succ d ih =>
    intro j hj
    have hj2 : j < 256 := by omega
    have h := fq_n256 hj2
    have hi := fq_in hj2
    by_cases z : a j = 0
    · refine ⟨nI j, fun post hp => br_f h ⟨hi, br_t (fq_z0 hj2 z) hp⟩, fun post hp => ?_⟩
      rw [wY_gapFrom_2]
      exact fq_nuI hj2 (br_f fq_ne10 ⟨hi, br_t (fq_z0 hj2 z) hp⟩)
    · obtain ⟨r, hX, hY⟩ := ih (j + 1) (by omega)
      refine ⟨r, fun post hp => br_f h ⟨hi, br_f (fq_z1 hj2 z) (nm_r (nI_1 j) (hX post hp))⟩, fun post hp => ?_⟩
      rw [wY_gapFrom_2]
      exact fq_nuI hj2 (br_f fq_ne10 ⟨hi, br_f (fq_z1 hj2 z) (nm_r (nI_1 j) (hY post hp))⟩)
theorem fq_gapF (a : Nat → Int32) (x : Int32) : ∃ r : Int32, (∀ post : Int32 → Prop, post r → wpX_gapFrom post a x) ∧ (∀ post : Int32 → Prop, post r → wpY_gapFrom post a x) := by
  have out : (x < 0 ∨ (256 : Int32) ≤ x) → ∃ r : Int32, (∀ post : Int32 → Prop, post r → wpX_gapFrom post a x) ∧ (∀ post : Int32 → Prop, post r → wpY_gapFrom post a x) := by
    intro h
    refine ⟨-1, fun post hp => ?_, fun post hp => ?_⟩
    · unfold wpX_gapFrom
      exact fq_spO h (br_t rfl hp)
    · unfold wpY_gapFrom
      refine ⟨1, ?_⟩
      rw [wY_gapFrom_2]
      exact fq_nuO h (br_t rfl hp)
  rcases fq_ix x with h | h | ⟨j, hj, rfl⟩
  · exact out (Or.inl h)
  · exact out (Or.inr h)
  · obtain ⟨r, hX, hY⟩ := fq_gap a (256 - j) j (by omega)
    refine ⟨r, fun post hp => ?_, fun post hp => ⟨_, hY post hp⟩⟩
    unfold wpX_gapFrom
    exact fq_spI hj (br_f fq_ne10 ⟨_, hX post hp⟩)
