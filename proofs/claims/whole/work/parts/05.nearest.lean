/-! 05: nearest: either side gives the one nearest member -/
theorem fq_nrX (a : Nat → Int32) (x : Int32) (no : ∀ i : Nat, i < 256 → x.toInt = (i : Int) → a i = 0) (M : ∀ post : Int32 → Prop, post 0 → wpX_member post a x) : ∃ r : Int32, fq_Best a x.toInt 256 r ∧ ∀ post : Int32 → Prop, post r → wpX_nearest post a x := by
  obtain ⟨s, hs, hB, _⟩ := fq_bef a x
  obtain ⟨t, ht, hA, _⟩ := fq_aft a x
  by_cases e1 : s = -1
  · refine ⟨t, fq_nr_up no hs ht e1, fun post hp => ?_⟩
    unfold wpX_nearest
    exact M _ (br_t rfl (hB _ (hA _ (br_t e1 hp))))
  · by_cases e2 : t = -1
    · refine ⟨s, fq_nr_down no hs ht e2, fun post hp => ?_⟩
      unfold wpX_nearest
      exact M _ (br_t rfl (hB _ (hA _ (br_f e1 (br_t e2 hp)))))
    · by_cases e3 : t - x < x - s
      · refine ⟨t, (fq_nr_two no hs ht e1 e2).1 e3, fun post hp => ?_⟩
        unfold wpX_nearest
        exact M _ (br_t rfl (hB _ (hA _ (br_f e1 (br_f e2 (br_t e3 hp))))))
      · refine ⟨s, (fq_nr_two no hs ht e1 e2).2 e3, fun post hp => ?_⟩
        unfold wpX_nearest
        exact M _ (br_t rfl (hB _ (hA _ (br_f e1 (br_f e2 (br_f e3 hp))))))
theorem fq_nearX (a : Nat → Int32) (x : Int32) : ∃ r : Int32, fq_Best a x.toInt 256 r ∧ ∀ post : Int32 → Prop, post r → wpX_nearest post a x := by
  rcases fq_ix x with h | h | ⟨j, hj, rfl⟩
  · refine fq_nrX a x (fun i hi e => ?_) (fun post hp => fq_meXO (Or.inl h) hp)
    rw [Int32.lt_iff_toInt_lt, fq_0i] at h
    omega
  · refine fq_nrX a x (fun i hi e => ?_) (fun post hp => fq_meXO (Or.inr h) hp)
    rw [← fq_256, fq_le (by omega)] at h
    omega
  · by_cases z : a j = 0
    · refine fq_nrX a (nI j) (fun i hi e => ?_) (fun post hp => fq_meX0 hj z hp)
      rw [nI_toInt (by omega)] at e
      obtain rfl : j = i := by omega
      exact z
    · refine ⟨nI j, ?_, fun post hp => ?_⟩
      · rw [nI_toInt (by omega)]
        exact fq_nr_mem hj z
      · unfold wpX_nearest
        exact fq_meX1 hj z (br_f fq_ne10 hp)
theorem fq_nr38 {a : Nat → Int32} {x : Int32} {n j : Nat} (hj : j < 256) (ih : ∀ (b : Int32) (l : Int64), fq_Bd a x.toInt (j + 1) b l.toInt → ∃ r : Int32, fq_Best a x.toInt 256 r ∧ ∀ post : Int32 → Prop, post r → wY_nearest_7 post x a n b l (nI (j + 1))) {b : Int32} {l : Int64} (h : fq_Bd a x.toInt j b l.toInt) {w : Int64} (hw : w.toInt = (fq_ds x.toInt j : Int)) : ∃ r : Int32, fq_Best a x.toInt 256 r ∧ ∀ post : Int32 → Prop, post r → wY_nearest_38 post (wY_nearest_7 post x a n) x b l (nI j) w a := by
  by_cases z : a j = 0
  · obtain ⟨r, hr, H⟩ := ih b l (fq_Bd_skip h z)
    exact ⟨r, hr, fun post hp => ⟨fq_in hj, br_t (fq_z0 hj z) (nm_r (nI_1 j) (H post hp))⟩⟩
  · by_cases c : b < 0
    · obtain ⟨r, hr, H⟩ := ih (nI j) w (fq_Bd_first hj h c z hw)
      exact ⟨r, hr, fun post hp => ⟨fq_in hj, br_f (fq_z1 hj z) (br_t c (nm_r (nI_1 j) (H post hp)))⟩⟩
    · by_cases t : l ≤ w
      · obtain ⟨r, hr, H⟩ := ih b l (fq_Bd_more h c hw (by rw [Int64.le_iff_toInt_le] at t; omega))
        exact ⟨r, hr, fun post hp => ⟨fq_in hj, br_f (fq_z1 hj z) (br_f c (br_t t (nm_r (nI_1 j) (H post hp))))⟩⟩
      · obtain ⟨r, hr, H⟩ := ih (nI j) w (fq_Bd_less h c z hw (by rw [Int64.le_iff_toInt_le] at t; omega))
        exact ⟨r, hr, fun post hp => ⟨fq_in hj, br_f (fq_z1 hj z) (br_f c (br_f t (nm_r (nI_1 j) (H post hp))))⟩⟩
theorem fq_nrY (a : Nat → Int32) (x : Int32) : ∀ d j : Nat, j + d = 256 → ∀ (b : Int32) (l : Int64), fq_Bd a x.toInt j b l.toInt → ∃ r : Int32, fq_Best a x.toInt 256 r ∧ ∀ post : Int32 → Prop, post r → wY_nearest_7 post x a (d + 1) b l (nI j) := by
  intro d
  induction d with
  | zero =>
    intro j hj b l hb
    obtain rfl : j = 256 := by omega
    exact ⟨b, fq_Bd_B hb, fun post hp => br_t fq_y256 hp⟩
  | succ d ih =>
    intro j hj b l hb
    have hj2 : j < 256 := by omega
    have h := fq_n256 hj2
    by_cases c : 0 ≤ (nI j).toInt64 - x.toInt64
    · obtain ⟨r, hr, H⟩ := fq_nr38 hj2 (ih (j + 1) (by omega)) hb (fq_dpos hj2 x (Int64.not_lt.mpr c))
      exact ⟨r, hr, fun post hp => br_f h (nm_e (br_t c (H post hp)))⟩
    · obtain ⟨r, hr, H⟩ := fq_nr38 hj2 (ih (j + 1) (by omega)) hb (fq_dneg hj2 x (Int64.not_le.mp c))
      exact ⟨r, hr, fun post hp => br_f h (nm_e (br_f c (H post hp)))⟩
theorem fq_nearY (a : Nat → Int32) (x : Int32) : ∃ r : Int32, fq_Best a x.toInt 256 r ∧ ∀ post : Int32 → Prop, post r → wpY_nearest post a x := by
  obtain ⟨r, hr, H⟩ := fq_nrY a x 256 0 rfl (-1) 0 (fq_Bd_0 a x.toInt _)
  rw [nI_0] at H
  exact ⟨r, hr, fun post hp => ⟨_, H post hp⟩⟩
theorem fq_near (a : Nat → Int32) (x : Int32) : ∃ r : Int32, (∀ post : Int32 → Prop, post r → wpX_nearest post a x) ∧ (∀ post : Int32 → Prop, post r → wpY_nearest post a x) := by
  obtain ⟨r, hr, hX⟩ := fq_nearX a x
  obtain ⟨s, hs, hY⟩ := fq_nearY a x
  obtain rfl := fq_uniq hr hs
  exact ⟨r, hX, hY⟩
theorem fq_takeL (a : Nat → Int32) (B : fq_B a) : ∃ (r : Int32) (b : Nat → Int32), fq_B b ∧ (∀ post : Int32 → SX → Prop, post r b → wpX_takeLeast post a) ∧ (∀ post : Int32 → SY → Prop, post r b → wpY_takeLeast post a) := by
  obtain ⟨r, hr, hX, hY⟩ := fq_aft a (-1)
  rcases hr with ⟨rfl, _⟩ | ⟨i, hi, rfl, _, z, _⟩
  · refine ⟨-1, a, B, fun post hp => ?_, fun post hp => ?_⟩
    · unfold wpX_takeLeast wpX_least
      exact hX _ (fq_deXO (Or.inl (by decide)) hp)
    · unfold wpY_takeLeast wpY_least
      exact hY _ (fq_deYO (Or.inl (by decide)) hp)
  · refine ⟨nI i, upd a i 0, fq_B_upd B (Or.inl rfl), fun post hp => ?_, fun post hp => ?_⟩
    · unfold wpX_takeLeast wpX_least
      exact hX _ (fq_deX1 hi z hp)
    · unfold wpY_takeLeast wpY_least
      exact hY _ (fq_deY1 hi z hp)
theorem fq_takeG (a : Nat → Int32) (B : fq_B a) : ∃ (r : Int32) (b : Nat → Int32), fq_B b ∧ (∀ post : Int32 → SX → Prop, post r b → wpX_takeGreatest post a) ∧ (∀ post : Int32 → SY → Prop, post r b → wpY_takeGreatest post a) := by
  obtain ⟨r, hr, hX, hY⟩ := fq_bef a 256
  rcases hr with ⟨rfl, _⟩ | ⟨i, hi, rfl, _, z, _⟩
  · refine ⟨-1, a, B, fun post hp => ?_, fun post hp => ?_⟩
    · unfold wpX_takeGreatest wpX_greatest
      exact hX _ (fq_deXO (Or.inl (by decide)) hp)
    · unfold wpY_takeGreatest wpY_greatest
      exact hY _ (fq_deYO (Or.inl (by decide)) hp)
  · refine ⟨nI i, upd a i 0, fq_B_upd B (Or.inl rfl), fun post hp => ?_, fun post hp => ?_⟩
    · unfold wpX_takeGreatest wpX_greatest
      exact hX _ (fq_deX1 hi z hp)
    · unfold wpY_takeGreatest wpY_greatest
      exact hY _ (fq_deY1 hi z hp)
