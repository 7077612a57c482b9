/-! 06: the owed statements: the two arrays are one, of zeros and ones -/
def i_Rel (k : Nat) (u : SX) (v : SY) : Prop := u = v ∧ fq_B u
theorem fq_R {k : Nat} {a : Nat → Int32} (h : fq_B a) : i_Rel k a a := ⟨rfl, h⟩
theorem i_up {k : Nat} {u : SX} {v : SY} (h : i_Rel k u v) : i_Rel (k + 3) u v := h
theorem i_vc0 : wpX_init (fun u => wpY_init (fun v => i_Rel 0 u v)) := fq_R (k := 0) (a := fun _ => 0) (fun _ _ => Or.inl rfl)
theorem i_vc_insert {k : Nat} {u : SX} {v : SY} (I : i_Rel k u v) (hk : k + 3 ≤ 1536) (v1 : Int32) : wpX_insert (fun r u' => wpY_insert (fun r' v' => r' = r ∧ i_Rel (k + 3) u' v') v v1) u v1 := by
  obtain ⟨rfl, hB⟩ := I
  rcases fq_ix v1 with h | h | ⟨j, hj, rfl⟩
  · exact fq_inXO (Or.inl h) (fq_inYO (Or.inl h) ⟨rfl, fq_R hB⟩)
  · exact fq_inXO (Or.inr h) (fq_inYO (Or.inr h) ⟨rfl, fq_R hB⟩)
  · by_cases z : u j = 0
    · exact fq_inX0 hj z (fq_inY0 hj z ⟨rfl, fq_R (fq_B_upd hB (Or.inr rfl))⟩)
    · exact fq_inX1 hj z (fq_inY1 hj z ⟨rfl, fq_R hB⟩)
theorem i_vc_delete {k : Nat} {u : SX} {v : SY} (I : i_Rel k u v) (hk : k + 3 ≤ 1536) (v1 : Int32) : wpX_delete (fun r u' => wpY_delete (fun r' v' => r' = r ∧ i_Rel (k + 3) u' v') v v1) u v1 := by
  obtain ⟨rfl, hB⟩ := I
  rcases fq_ix v1 with h | h | ⟨j, hj, rfl⟩
  · exact fq_deXO (Or.inl h) (fq_deYO (Or.inl h) ⟨rfl, fq_R hB⟩)
  · exact fq_deXO (Or.inr h) (fq_deYO (Or.inr h) ⟨rfl, fq_R hB⟩)
  · by_cases z : u j = 0
    · exact fq_deX0 hj z (fq_deY0 hj z ⟨rfl, fq_R hB⟩)
    · exact fq_deX1 hj z (fq_deY1 hj z ⟨rfl, fq_R (fq_B_upd hB (Or.inl rfl))⟩)
theorem i_vc_member {k : Nat} {u : SX} {v : SY} (I : i_Rel k u v) (hk : k + 3 ≤ 1536) (v1 : Int32) : wpX_member (fun r => wpY_member (fun r' => r' = r ∧ i_Rel (k + 3) u v) v v1) u v1 := by
  obtain ⟨rfl, hB⟩ := I
  rcases fq_ix v1 with h | h | ⟨j, hj, rfl⟩
  · exact fq_meXO (Or.inl h) (fq_meYO (Or.inl h) ⟨rfl, fq_R hB⟩)
  · exact fq_meXO (Or.inr h) (fq_meYO (Or.inr h) ⟨rfl, fq_R hB⟩)
  · by_cases z : u j = 0
    · exact fq_meX0 hj z (fq_meY0 hj z ⟨rfl, fq_R hB⟩)
    · exact fq_meX1 hj z (fq_meY1 hj z ⟨rfl, fq_R hB⟩)
theorem i_vc_size {k : Nat} {u : SX} {v : SY} (I : i_Rel k u v) (hk : k + 3 ≤ 1536) : wpX_size (fun r => wpY_size (fun r' => r' = r ∧ i_Rel (k + 3) u v) v) u := by
  obtain ⟨rfl, hB⟩ := I
  unfold wpX_size wpY_size
  exact fq_countX (fq_countY ⟨rfl, fq_R hB⟩)
theorem i_vc_least {k : Nat} {u : SX} {v : SY} (I : i_Rel k u v) (hk : k + 3 ≤ 1536) : wpX_least (fun r => wpY_least (fun r' => r' = r ∧ i_Rel (k + 3) u v) v) u := by
  obtain ⟨rfl, hB⟩ := I
  obtain ⟨r, _, hX, hY⟩ := fq_aft u (-1)
  unfold wpX_least wpY_least
  exact hX _ (hY _ ⟨rfl, fq_R hB⟩)
theorem i_vc_greatest {k : Nat} {u : SX} {v : SY} (I : i_Rel k u v) (hk : k + 3 ≤ 1536) : wpX_greatest (fun r => wpY_greatest (fun r' => r' = r ∧ i_Rel (k + 3) u v) v) u := by
  obtain ⟨rfl, hB⟩ := I
  obtain ⟨r, _, hX, hY⟩ := fq_bef u 256
  unfold wpX_greatest wpY_greatest
  exact hX _ (hY _ ⟨rfl, fq_R hB⟩)
theorem i_vc_after {k : Nat} {u : SX} {v : SY} (I : i_Rel k u v) (hk : k + 3 ≤ 1536) (v1 : Int32) : wpX_after (fun r => wpY_after (fun r' => r' = r ∧ i_Rel (k + 3) u v) v v1) u v1 := by
  obtain ⟨rfl, hB⟩ := I
  obtain ⟨r, _, hX, hY⟩ := fq_aft u v1
  exact hX _ (hY _ ⟨rfl, fq_R hB⟩)
theorem i_vc_before {k : Nat} {u : SX} {v : SY} (I : i_Rel k u v) (hk : k + 3 ≤ 1536) (v1 : Int32) : wpX_before (fun r => wpY_before (fun r' => r' = r ∧ i_Rel (k + 3) u v) v v1) u v1 := by
  obtain ⟨rfl, hB⟩ := I
  obtain ⟨r, _, hX, hY⟩ := fq_bef u v1
  exact hX _ (hY _ ⟨rfl, fq_R hB⟩)
theorem i_vc_takeLeast {k : Nat} {u : SX} {v : SY} (I : i_Rel k u v) (hk : k + 3 ≤ 1536) : wpX_takeLeast (fun r u' => wpY_takeLeast (fun r' v' => r' = r ∧ i_Rel (k + 3) u' v') v) u := by
  obtain ⟨rfl, hB⟩ := I
  obtain ⟨r, b, hb, hX, hY⟩ := fq_takeL u hB
  exact hX _ (hY _ ⟨rfl, fq_R hb⟩)
theorem i_vc_takeGreatest {k : Nat} {u : SX} {v : SY} (I : i_Rel k u v) (hk : k + 3 ≤ 1536) : wpX_takeGreatest (fun r u' => wpY_takeGreatest (fun r' v' => r' = r ∧ i_Rel (k + 3) u' v') v) u := by
  obtain ⟨rfl, hB⟩ := I
  obtain ⟨r, b, hb, hX, hY⟩ := fq_takeG u hB
  exact hX _ (hY _ ⟨rfl, fq_R hb⟩)
theorem i_vc_countBetween {k : Nat} {u : SX} {v : SY} (I : i_Rel k u v) (hk : k + 3 ≤ 1536) (v1 : Int32) (v2 : Int32) : wpX_countBetween (fun r => wpY_countBetween (fun r' => r' = r ∧ i_Rel (k + 3) u v) v v1 v2) u v1 v2 := by
  obtain ⟨rfl, hB⟩ := I
  exact fq_countX (fq_countY ⟨rfl, fq_R hB⟩)
theorem i_vc_select {k : Nat} {u : SX} {v : SY} (I : i_Rel k u v) (hk : k + 3 ≤ 1536) (v1 : Int32) : wpX_select (fun r => wpY_select (fun r' => r' = r ∧ i_Rel (k + 3) u v) v v1) u v1 := by
  obtain ⟨rfl, hB⟩ := I
  obtain ⟨r, hX, hY⟩ := fq_sel u v1
  exact hX _ (hY _ ⟨rfl, fq_R hB⟩)
theorem i_vc_gapFrom {k : Nat} {u : SX} {v : SY} (I : i_Rel k u v) (hk : k + 3 ≤ 1536) (v1 : Int32) : wpX_gapFrom (fun r => wpY_gapFrom (fun r' => r' = r ∧ i_Rel (k + 3) u v) v v1) u v1 := by
  obtain ⟨rfl, hB⟩ := I
  obtain ⟨r, hX, hY⟩ := fq_gapF u v1
  exact hX _ (hY _ ⟨rfl, fq_R hB⟩)
theorem i_vc_deleteBetween {k : Nat} {u : SX} {v : SY} (I : i_Rel k u v) (hk : k + 3 ≤ 1536) (v1 : Int32) (v2 : Int32) : wpX_deleteBetween (fun r u' => wpY_deleteBetween (fun r' v' => r' = r ∧ i_Rel (k + 3) u' v') v v1 v2) u v1 v2 := by
  obtain ⟨rfl, hB⟩ := I
  exact fq_delX (fq_delY hB ⟨rfl, fq_R (fq_B_db v1 v2 256 hB)⟩)
theorem i_vc_nearest {k : Nat} {u : SX} {v : SY} (I : i_Rel k u v) (hk : k + 3 ≤ 1536) (v1 : Int32) : wpX_nearest (fun r => wpY_nearest (fun r' => r' = r ∧ i_Rel (k + 3) u v) v v1) u v1 := by
  obtain ⟨rfl, hB⟩ := I
  obtain ⟨r, hX, hY⟩ := fq_near u v1
  exact hX _ (hY _ ⟨rfl, fq_R hB⟩)
