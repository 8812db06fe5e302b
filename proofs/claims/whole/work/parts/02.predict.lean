theorem mv_in {x : Int32} (h0 : ¬ x < 0) (h7 : x ≤ 7) : vp_in x 8 := by
  obtain ⟨j, hj, rfl⟩ := nI_of2 (n := 7) (by decide) h0 h7
  exact vp_in_nI (by omega) (by decide)
theorem mv_next {x : Int32} (hx : vp_in x 8) (h7 : ¬ x = 7) : vp_in (x + 1) 8 := by
  obtain ⟨j, hj, rfl⟩ := vp_in_of hx (by decide)
  have hn : j ≠ 7 := fun e => h7 (by rw [e]; decide +kernel)
  rw [nI_1]
  exact vp_in_nI (by omega) (by decide)
theorem mv_10 : ¬ (1 : Int32) = 0 := by decide
/-- isColumn says 1 within the row -/
theorem mv_colT {x : Int32} (h0 : ¬ x < 0) (h7 : x ≤ 7) (post : Int32 → Prop) (hp : post 1) : wpX_isColumn post x :=
  br_f h0 (br_f (Int32.not_lt.mpr h7) hp)
/-- and 0 outside of it -/
theorem mv_colF {x : Int32} (h : x < 0 ∨ ¬ x ≤ 7) (post : Int32 → Prop) (hp : post 0) : wpX_isColumn post x := by
  by_cases h0 : x < 0
  · exact br_t h0 hp
  · exact br_f h0 (br_t (Int32.not_le.mp (h.resolve_left h0)) hp)
/-- predict behind its guard, with the left neighbour z chosen -/
theorem mv_body (x z f : Int32) (t : Nat → Int32) (hx : vp_in x 8) : ∃ r : Int32, (∀ post : Int32 → Prop, post r → wX_predict_22 post x z f t) ∧ (∀ post : Int32 → Prop, post r → wY_predict_25 post x z f t) := by
  by_cases h7 : x = 7
  · obtain ⟨r, hX, hY⟩ := mv_med z (t x.toNatClampNeg) (t 6) f t
    exact ⟨r, fun post hp => ⟨hx, nm_e (br_t h7 (hX post hp))⟩, fun post hp => ⟨hx, nm_e (br_t h7 (hY post hp))⟩⟩
  · have h1 : vp_in (x + 1) 8 := mv_next hx h7
    obtain ⟨r, hX, hY⟩ := mv_med z (t x.toNatClampNeg) (t (x + 1).toNatClampNeg) f t
    exact ⟨r, fun post hp => ⟨hx, nm_e (br_f h7 ⟨h1, hX post hp⟩)⟩, fun post hp => ⟨hx, nm_e (br_f h7 ⟨h1, hY post hp⟩)⟩⟩
/-- predict of every column, refused ones too: one answer r, for every post -/
theorem mv_pred (f x : Int32) (t : Nat → Int32) : ∃ r : Int32, (∀ post : Int32 → Prop, post r → wpX_predict post (f, t) x) ∧ (∀ post : Int32 → Prop, post r → wpY_predict post (f, t) x) := by
  unfold wpX_predict wpY_predict
  dsimp only
  by_cases h0 : x < 0
  · exact ⟨1048576, fun post hp => mv_colF (Or.inl h0) _ (br_t rfl hp), fun post hp => br_t h0 hp⟩
  · by_cases h7 : x ≤ 7
    · by_cases z : x = 0
      · obtain ⟨r, hX, hY⟩ := mv_body x 0 f t (mv_in h0 h7)
        exact ⟨r, fun post hp => mv_colT h0 h7 _ (br_f mv_10 (br_t z (hX post hp))), fun post hp => br_f h0 (br_t h7 (br_t z (hY post hp)))⟩
      · obtain ⟨r, hX, hY⟩ := mv_body x f f t (mv_in h0 h7)
        exact ⟨r, fun post hp => mv_colT h0 h7 _ (br_f mv_10 (br_f z (hX post hp))), fun post hp => br_f h0 (br_t h7 (br_f z (hY post hp)))⟩
    · exact ⟨1048576, fun post hp => mv_colF (Or.inr h7) _ (br_t rfl hp), fun post hp => br_f h0 (br_f h7 hp)⟩
