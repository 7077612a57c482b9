/-! 04: countBetween, deleteBetween: each side against the pure count and the pure array -/
theorem fq_cb_lo {a : Nat → Int32} {p q : Int32} {j : Nat} (h : nI j < p) : ¬ (p ≤ nI j ∧ nI j ≤ q ∧ ¬ a j = 0) := fun c => Int32.not_le.mpr h c.1
theorem fq_cb_hi {a : Nat → Int32} {p q : Int32} {j : Nat} (h : q < nI j) : ¬ (p ≤ nI j ∧ nI j ≤ q ∧ ¬ a j = 0) := fun c => Int32.not_le.mpr h c.2.1
theorem fq_cb_z {a : Nat → Int32} {p q : Int32} {j : Nat} (h : a j = 0) : ¬ (p ≤ nI j ∧ nI j ≤ q ∧ ¬ a j = 0) := fun c => c.2.2 h
theorem fq_cbX (a : Nat → Int32) (p q : Int32) (post : Int32 → Prop) (hp : post (fq_cn a p q 256)) : ∀ d j : Nat, j + d = 256 → wX_countBetween_5 post p q a (d + 1) (fq_cn a p q j) (nI j) := by
  intro d
  induction d with
  | zero =>
    intro j hj
    obtain rfl : j = 256 := by omega
    exact br_t fq_y256 hp
  | succ d ih =>
    intro j hj
    have hj2 : j < 256 := by omega
    have h := fq_n256 hj2
    have hi := fq_in hj2
    have I := ih (j + 1) (by omega)
    by_cases h1 : nI j < p
    · rw [fq_cn_n (fq_cb_lo h1)] at I
      exact br_f h (br_t h1 (nm_r (nI_1 j) I))
    · by_cases h2 : q < nI j
      · rw [fq_cn_n (fq_cb_hi h2)] at I
        exact br_f h (br_f h1 (br_t h2 (nm_r (nI_1 j) I)))
      · by_cases z : a j = 0
        · rw [fq_cn_n (fq_cb_z z)] at I
          exact br_f h (br_f h1 (br_f h2 ⟨hi, br_t (fq_z0 hj2 z) (nm_r (nI_1 j) I)⟩))
        · rw [fq_cn_y (Int32.not_lt.mp h1) (Int32.not_lt.mp h2) z] at I
          exact br_f h (br_f h1 (br_f h2 ⟨hi, br_f (fq_z1 hj2 z) (nm_e (nm_r (nI_1 j) I))⟩))
theorem fq_cbY (a : Nat → Int32) (p q : Int32) (post : Int32 → Prop) (hp : post (fq_cn a p q 256)) : ∀ d j : Nat, j + d = 256 → wY_countBetween_5 post p q a (d + 1) (fq_cn a p q j) (nI j) := by
  intro d
  induction d with
  | zero =>
    intro j hj
    obtain rfl : j = 256 := by omega
    exact br_t fq_y256 hp
  | succ d ih =>
    intro j hj
    have hj2 : j < 256 := by omega
    have h := fq_n256 hj2
    have hi := fq_in hj2
    have I := ih (j + 1) (by omega)
    by_cases z : a j = 0
    · rw [fq_cn_n (fq_cb_z z)] at I
      exact br_f h ⟨hi, br_t (fq_z0 hj2 z) (nm_r (nI_1 j) I)⟩
    · by_cases h1 : nI j < p
      · rw [fq_cn_n (fq_cb_lo h1)] at I
        exact br_f h ⟨hi, br_f (fq_z1 hj2 z) (br_t h1 (nm_r (nI_1 j) I))⟩
      · by_cases h2 : q < nI j
        · rw [fq_cn_n (fq_cb_hi h2)] at I
          exact br_f h ⟨hi, br_f (fq_z1 hj2 z) (br_f h1 (br_t h2 (nm_r (nI_1 j) I)))⟩
        · rw [fq_cn_y (Int32.not_lt.mp h1) (Int32.not_lt.mp h2) z] at I
          exact br_f h ⟨hi, br_f (fq_z1 hj2 z) (br_f h1 (br_f h2 (nm_e (nm_r (nI_1 j) I))))⟩
theorem fq_countX {a : Nat → Int32} {p q : Int32} {post : Int32 → Prop} (hp : post (fq_cn a p q 256)) : wpX_countBetween post a p q := by
  have I := fq_cbX a p q post hp 256 0 rfl
  rw [nI_0] at I
  exact ⟨_, I⟩
theorem fq_countY {a : Nat → Int32} {p q : Int32} {post : Int32 → Prop} (hp : post (fq_cn a p q 256)) : wpY_countBetween post a p q := by
  have I := fq_cbY a p q post hp 256 0 rfl
  rw [nI_0] at I
  exact ⟨_, I⟩
theorem fq_dz0 {a : Nat → Int32} {p q : Int32} {j : Nat} (hj : j < 256) (z : a j = 0) : fq_db a p q j (nI j).toNatClampNeg = 0 := by
  rw [nI_clamp (by omega), fq_db_at]; exact z
theorem fq_dz1 {a : Nat → Int32} {p q : Int32} {j : Nat} (hj : j < 256) (z : ¬ a j = 0) : ¬ fq_db a p q j (nI j).toNatClampNeg = 0 := by
  rw [nI_clamp (by omega), fq_db_at]; exact z
theorem fq_dbX (a : Nat → Int32) (p q : Int32) (post : Int32 → SX → Prop) (hp : post (fq_cn a p q 256) (fq_db a p q 256)) : ∀ d j : Nat, j + d = 256 → wX_deleteBetween_5 post p q (d + 1) (fq_cn a p q j) (nI j) (fq_db a p q j) := by
  intro d
  induction d with
  | zero =>
    intro j hj
    obtain rfl : j = 256 := by omega
    exact br_t fq_y256 hp
  | succ d ih =>
    intro j hj
    have hj2 : j < 256 := by omega
    have h := fq_n256 hj2
    have hi := fq_in hj2
    have I := ih (j + 1) (by omega)
    by_cases h1 : nI j < p
    · rw [fq_cn_n (fq_cb_lo h1), fq_db_skip (fq_cb_lo h1)] at I
      exact br_f h (br_t h1 (nm_r (nI_1 j) I))
    · by_cases h2 : q < nI j
      · rw [fq_cn_n (fq_cb_hi h2), fq_db_skip (fq_cb_hi h2)] at I
        exact br_f h (br_f h1 (br_t h2 (nm_r (nI_1 j) I)))
      · by_cases z : a j = 0
        · rw [fq_cn_n (fq_cb_z z), fq_db_skip (fq_cb_z z)] at I
          exact br_f h (br_f h1 (br_f h2 ⟨hi, br_t (fq_dz0 hj2 z) (nm_r (nI_1 j) I)⟩))
        · have g1 := Int32.not_lt.mp h1
          have g2 := Int32.not_lt.mp h2
          rw [fq_cn_y g1 g2 z] at I
          have e : upd (fq_db a p q j) (nI j).toNatClampNeg (vp_nar .boolean 0) = fq_db a p q (j + 1) := by
            rw [fq_u0 hj2]; exact fq_db_put (fq_db_in g1 g2).symm
          exact br_f h (br_f h1 (br_f h2 ⟨hi, br_f (fq_dz1 hj2 z) ⟨hi, nm_r e (nm_e (nm_r (nI_1 j) I))⟩⟩))
theorem fq_dbY (a : Nat → Int32) (B : fq_B a) (p q c : Int32) (post : Int32 → SY → Prop) (hp : post c (fq_db a p q 256)) : ∀ d j : Nat, j + d = 256 → wY_deleteBetween_10 post p q c (d + 1) (nI j) (fq_db a p q j) := by
  intro d
  induction d with
  | zero =>
    intro j hj
    obtain rfl : j = 256 := by omega
    exact br_t fq_y256 hp
  | succ d ih =>
    intro j hj
    have hj2 : j < 256 := by omega
    have h := fq_n256 hj2
    have hi := fq_in hj2
    have I := ih (j + 1) (by omega)
    by_cases z : a j = 0
    · have e : upd (fq_db a p q j) (nI j).toNatClampNeg (vp_nar .boolean 0) = fq_db a p q (j + 1) := by
        rw [fq_u0 hj2]
        refine fq_db_put ?_
        by_cases c : p ≤ nI j ∧ nI j ≤ q
        · exact (fq_db_in c.1 c.2).symm
        · rw [fq_db_out c, z]
      exact br_f h ⟨hi, br_t (fq_dz0 hj2 z) ⟨hi, nm_r e (nm_r (nI_1 j) I)⟩⟩
    · by_cases h1 : nI j < p
      · have e : upd (fq_db a p q j) (nI j).toNatClampNeg (vp_nar .boolean 1) = fq_db a p q (j + 1) := by
          rw [fq_u1 hj2]
          refine fq_db_put ?_
          rw [fq_db_out (fun c => Int32.not_le.mpr h1 c.1), fq_B_1 B hj2 z]
        exact br_f h ⟨hi, br_f (fq_dz1 hj2 z) (br_t h1 ⟨hi, nm_r e (nm_r (nI_1 j) I)⟩)⟩
      · by_cases h2 : nI j ≤ q
        · have e : upd (fq_db a p q j) (nI j).toNatClampNeg (vp_nar .boolean 0) = fq_db a p q (j + 1) := by
            rw [fq_u0 hj2]; exact fq_db_put (fq_db_in (Int32.not_lt.mp h1) h2).symm
          exact br_f h ⟨hi, br_f (fq_dz1 hj2 z) (br_f h1 (br_t h2 ⟨hi, nm_r e (nm_r (nI_1 j) I)⟩))⟩
        · have e : upd (fq_db a p q j) (nI j).toNatClampNeg (vp_nar .boolean 1) = fq_db a p q (j + 1) := by
            rw [fq_u1 hj2]
            refine fq_db_put ?_
            rw [fq_db_out (fun c => h2 c.2), fq_B_1 B hj2 z]
          exact br_f h ⟨hi, br_f (fq_dz1 hj2 z) (br_f h1 (br_f h2 ⟨hi, nm_r e (nm_r (nI_1 j) I)⟩))⟩
theorem fq_delX {a : Nat → Int32} {p q : Int32} {post : Int32 → SX → Prop} (hp : post (fq_cn a p q 256) (fq_db a p q 256)) : wpX_deleteBetween post a p q := by
  have I := fq_dbX a p q post hp 256 0 rfl
  rw [nI_0, fq_db_0] at I
  exact ⟨_, I⟩
theorem fq_delY {a : Nat → Int32} (B : fq_B a) {p q : Int32} {post : Int32 → SY → Prop} (hp : post (fq_cn a p q 256) (fq_db a p q 256)) : wpY_deleteBetween post a p q := by
  unfold wpY_deleteBetween
  refine fq_countY ?_
  have I := fq_dbY a B p q (fq_cn a p q 256) post hp 256 0 rfl
  rw [nI_0, fq_db_0] at I
  exact ⟨_, I⟩
