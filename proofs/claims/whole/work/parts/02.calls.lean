/-! 02: the methods without a loop, each side against the same pure answer -/
theorem fq_z0 {a : Nat → Int32} {j : Nat} (hj : j < 256) (z : a j = 0) : a (nI j).toNatClampNeg = 0 := by
  rw [nI_clamp (by omega)]; exact z
theorem fq_z1 {a : Nat → Int32} {j : Nat} (hj : j < 256) (z : ¬ a j = 0) : ¬ a (nI j).toNatClampNeg = 0 := by
  rw [nI_clamp (by omega)]; exact z
theorem fq_u0 {a : Nat → Int32} {j : Nat} (hj : j < 256) : upd a (nI j).toNatClampNeg (vp_nar .boolean 0) = upd a j 0 := by
  rw [nI_clamp (by omega), fq_b0]
theorem fq_u1 {a : Nat → Int32} {j : Nat} (hj : j < 256) : upd a (nI j).toNatClampNeg (vp_nar .boolean 1) = upd a j 1 := by
  rw [nI_clamp (by omega), fq_b1]
theorem fq_ne10 : ¬ (1 : Int32) = 0 := by decide
theorem fq_spO {post : Int32 → Prop} {x : Int32} (h : x < 0 ∨ (256 : Int32) ≤ x) (hp : post 0) : wpX_inSpan post x := by
  unfold wpX_inSpan
  rcases h with h | h
  · exact br_t h hp
  · exact br_f (fq_256n0 h) (br_t h hp)
theorem fq_spI {post : Int32 → Prop} {j : Nat} (hj : j < 256) (hp : post 1) : wpX_inSpan post (nI j) := by
  unfold wpX_inSpan
  exact br_f (fq_nneg (by omega)) (br_f (fq_n256 hj) hp)
theorem fq_nuO {post : Int32 → Prop} {a : Nat → Int32} {x : Int32} (h : x < 0 ∨ (256 : Int32) ≤ x) (hp : post 0) : wpY_number post a x := by
  unfold wpY_number
  rcases h with h | h
  · exact br_t h hp
  · exact br_f (fq_256n0 h) (br_t (fq_256_255 h) hp)
theorem fq_nuI {post : Int32 → Prop} {a : Nat → Int32} {j : Nat} (hj : j < 256) (hp : post 1) : wpY_number post a (nI j) := by
  unfold wpY_number
  exact br_f (fq_nneg (by omega)) (br_f (fq_n255 hj) hp)

theorem fq_meXO {post : Int32 → Prop} {a : Nat → Int32} {x : Int32} (h : x < 0 ∨ (256 : Int32) ≤ x) (hp : post 0) : wpX_member post a x := by
  unfold wpX_member
  exact fq_spO h (br_t rfl hp)
theorem fq_meX0 {post : Int32 → Prop} {a : Nat → Int32} {j : Nat} (hj : j < 256) (z : a j = 0) (hp : post 0) : wpX_member post a (nI j) := by
  unfold wpX_member
  exact fq_spI hj (br_f fq_ne10 ⟨fq_in hj, br_t (fq_z0 hj z) hp⟩)
theorem fq_meX1 {post : Int32 → Prop} {a : Nat → Int32} {j : Nat} (hj : j < 256) (z : ¬ a j = 0) (hp : post 1) : wpX_member post a (nI j) := by
  unfold wpX_member
  exact fq_spI hj (br_f fq_ne10 ⟨fq_in hj, br_f (fq_z1 hj z) hp⟩)
theorem fq_meYO {post : Int32 → Prop} {a : Nat → Int32} {x : Int32} (h : x < 0 ∨ (256 : Int32) ≤ x) (hp : post 0) : wpY_member post a x := by
  unfold wpY_member
  exact fq_nuO h (br_t rfl hp)
theorem fq_meY0 {post : Int32 → Prop} {a : Nat → Int32} {j : Nat} (hj : j < 256) (z : a j = 0) (hp : post 0) : wpY_member post a (nI j) := by
  unfold wpY_member
  exact fq_nuI hj (br_f fq_ne10 ⟨fq_in hj, br_t (fq_z0 hj z) hp⟩)
theorem fq_meY1 {post : Int32 → Prop} {a : Nat → Int32} {j : Nat} (hj : j < 256) (z : ¬ a j = 0) (hp : post 1) : wpY_member post a (nI j) := by
  unfold wpY_member
  exact fq_nuI hj (br_f fq_ne10 ⟨fq_in hj, br_f (fq_z1 hj z) hp⟩)

theorem fq_inXO {post : Int32 → SX → Prop} {a : Nat → Int32} {x : Int32} (h : x < 0 ∨ (256 : Int32) ≤ x) (hp : post 0 a) : wpX_insert post a x := by
  unfold wpX_insert
  exact fq_spO h (br_t rfl hp)
theorem fq_inX0 {post : Int32 → SX → Prop} {a : Nat → Int32} {j : Nat} (hj : j < 256) (z : a j = 0) (hp : post 1 (upd a j 1)) : wpX_insert post a (nI j) := by
  unfold wpX_insert
  exact fq_spI hj (br_f fq_ne10 ⟨fq_in hj, br_t (fq_z0 hj z) ⟨fq_in hj, nm_r (fq_u1 hj) hp⟩⟩)
theorem fq_inX1 {post : Int32 → SX → Prop} {a : Nat → Int32} {j : Nat} (hj : j < 256) (z : ¬ a j = 0) (hp : post 0 a) : wpX_insert post a (nI j) := by
  unfold wpX_insert
  exact fq_spI hj (br_f fq_ne10 ⟨fq_in hj, br_f (fq_z1 hj z) hp⟩)
theorem fq_inYO {post : Int32 → SY → Prop} {a : Nat → Int32} {x : Int32} (h : x < 0 ∨ (256 : Int32) ≤ x) (hp : post 0 a) : wpY_insert post a x := by
  unfold wpY_insert
  exact fq_nuO h (br_t rfl hp)
theorem fq_inY0 {post : Int32 → SY → Prop} {a : Nat → Int32} {j : Nat} (hj : j < 256) (z : a j = 0) (hp : post 1 (upd a j 1)) : wpY_insert post a (nI j) := by
  unfold wpY_insert
  exact fq_nuI hj (br_f fq_ne10 ⟨fq_in hj, br_t (fq_z0 hj z) ⟨fq_in hj, nm_r (fq_u1 hj) hp⟩⟩)
theorem fq_inY1 {post : Int32 → SY → Prop} {a : Nat → Int32} {j : Nat} (hj : j < 256) (z : ¬ a j = 0) (hp : post 0 a) : wpY_insert post a (nI j) := by
  unfold wpY_insert
  exact fq_nuI hj (br_f fq_ne10 ⟨fq_in hj, br_f (fq_z1 hj z) hp⟩)

theorem fq_deXO {post : Int32 → SX → Prop} {a : Nat → Int32} {x : Int32} (h : x < 0 ∨ (256 : Int32) ≤ x) (hp : post 0 a) : wpX_delete post a x := by
  unfold wpX_delete
  exact fq_meXO h (br_t rfl hp)
theorem fq_deX0 {post : Int32 → SX → Prop} {a : Nat → Int32} {j : Nat} (hj : j < 256) (z : a j = 0) (hp : post 0 a) : wpX_delete post a (nI j) := by
  unfold wpX_delete
  exact fq_meX0 hj z (br_t rfl hp)
theorem fq_deX1 {post : Int32 → SX → Prop} {a : Nat → Int32} {j : Nat} (hj : j < 256) (z : ¬ a j = 0) (hp : post 1 (upd a j 0)) : wpX_delete post a (nI j) := by
  unfold wpX_delete
  exact fq_meX1 hj z (br_f fq_ne10 ⟨fq_in hj, nm_r (fq_u0 hj) hp⟩)
theorem fq_deYO {post : Int32 → SY → Prop} {a : Nat → Int32} {x : Int32} (h : x < 0 ∨ (256 : Int32) ≤ x) (hp : post 0 a) : wpY_delete post a x := by
  unfold wpY_delete
  exact fq_nuO h (br_t rfl hp)
theorem fq_deY0 {post : Int32 → SY → Prop} {a : Nat → Int32} {j : Nat} (hj : j < 256) (z : a j = 0) (hp : post 0 a) : wpY_delete post a (nI j) := by
  unfold wpY_delete
  exact fq_nuI hj (br_f fq_ne10 ⟨fq_in hj, br_t (fq_z0 hj z) hp⟩)
theorem fq_deY1 {post : Int32 → SY → Prop} {a : Nat → Int32} {j : Nat} (hj : j < 256) (z : ¬ a j = 0) (hp : post 1 (upd a j 0)) : wpY_delete post a (nI j) := by
  unfold wpY_delete
  exact fq_nuI hj (br_f fq_ne10 ⟨fq_in hj, br_f (fq_z1 hj z) ⟨fq_in hj, nm_r (fq_u0 hj) hp⟩⟩)
