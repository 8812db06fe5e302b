section
/-- the two rows of eight blocks hold the same vectors, and the two left fields are equal -/
def i_Rel (_ : Nat) (u : SX) (v : SY) : Prop := u = v
/-- with lo ≤ hi, clamping c into lo .. hi (the class) is the greater of lo and the lesser of c and hi (the reference): one answer r, for every post -/
theorem mv_clamp (lo hi c l : Int32) (t : Nat → Int32) (h : lo ≤ hi) : ∃ r : Int32, (∀ post : Int32 → Prop, post r → wX_median_21 post c lo hi) ∧ (∀ post : Int32 → Prop, post r → wY_predict_81 post c lo hi l t) := by
  by_cases h1 : lo ≤ c
  · by_cases h2 : c ≤ hi
    · refine ⟨c, fun post hp => br_t h1 (br_t h2 hp), fun post hp => br_c (fun h3 => ?_) (fun h3 => ?_)⟩
      · have e : hi = c := Int32.le_antisymm h3 h2
        refine br_c (fun h4 => ?_) (fun _ => ?_)
        · have e2 : lo = c := Int32.le_antisymm h1 (e ▸ h4)
          rw [e2]; exact hp
        · rw [e]; exact hp
      · refine br_c (fun h4 => ?_) (fun _ => hp)
        have e2 : lo = c := Int32.le_antisymm h1 h4
        rw [e2]; exact hp
    · have h3 : hi ≤ c := Int32.le_of_lt (Int32.not_le.mp h2)
      refine ⟨hi, fun post hp => br_t h1 (br_f h2 hp), fun post hp => br_t h3 (br_c (fun h4 => ?_) (fun _ => hp))⟩
      have e2 : lo = hi := Int32.le_antisymm h h4
      rw [e2]; exact hp
  · have h3 : ¬ hi ≤ c := fun z => h1 (Int32.le_trans h z)
    have h4 : c ≤ lo := Int32.le_of_lt (Int32.not_le.mp h1)
    exact ⟨lo, fun post hp => br_f h1 hp, fun post hp => br_f h3 (br_t h4 hp)⟩
/-- the median of a, b, c on both sides -/
theorem mv_med (a b c l : Int32) (t : Nat → Int32) : ∃ r : Int32, (∀ post : Int32 → Prop, post r → wpX_median post a b c) ∧ (∀ post : Int32 → Prop, post r → wY_predict_57 post a b c l t) := by
  by_cases h : b ≤ a
  · obtain ⟨r, hX, hY⟩ := mv_clamp b a c l t h
    exact ⟨r, fun post hp => br_t h (br_t h (hX post hp)), fun post hp => br_t h (br_t h (hY post hp))⟩
  · obtain ⟨r, hX, hY⟩ := mv_clamp a b c l t (Int32.le_of_lt (Int32.not_le.mp h))
    exact ⟨r, fun post hp => br_f h (br_f h (hX post hp)), fun post hp => br_f h (br_f h (hY post hp))⟩
end
section
theorem mv_in {x : Int32} (h0 : ¬ x < 0) (h7 : x ≤ 7) : vp_in x 8 := by
  obtain ⟨j, hj, rfl⟩ := nI_of2 (n := 7) (by decide) h0 h7
  exact vp_in_nI (by omega) (by decide)
theorem mv_next {x : Int32} (hx : vp_in x 8) (h7 : ¬ x = 7) : vp_in (x + 1) 8 := by
  obtain ⟨j, hj, rfl⟩ := vp_in_of hx (by decide)
  have hn : j ≠ 7 := fun e => h7 (by rw [e]; decide +kernel)
  rw [nI_1]
  exact vp_in_nI (by omega) (by decide)
theorem mv_10 : ¬ (1 : Int32) = 0 := by decide
/-- isColumn says 1 within the row -/
theorem mv_colT {x : Int32} (h0 : ¬ x < 0) (h7 : x ≤ 7) (post : Int32 → Prop) (hp : post 1) : wpX_isColumn post x :=
  br_f h0 (br_f (Int32.not_lt.mpr h7) hp)
/-- and 0 outside of it -/
theorem mv_colF {x : Int32} (h : x < 0 ∨ ¬ x ≤ 7) (post : Int32 → Prop) (hp : post 0) : wpX_isColumn post x := by
  by_cases h0 : x < 0
  · exact br_t h0 hp
  · exact br_f h0 (br_t (Int32.not_le.mp (h.resolve_left h0)) hp)
/-- predict behind its guard, with the left neighbour z chosen -/
theorem mv_body (x z f : Int32) (t : Nat → Int32) (hx : vp_in x 8) : ∃ r : Int32, (∀ post : Int32 → Prop, post r → wX_predict_22 post x z f t) ∧ (∀ post : Int32 → Prop, post r → wY_predict_25 post x z f t) := by
  by_cases h7 : x = 7
  · obtain ⟨r, hX, hY⟩ := mv_med z (t x.toNatClampNeg) (t 6) f t
    exact ⟨r, fun post hp => ⟨hx, nm_e (br_t h7 (hX post hp))⟩, fun post hp => ⟨hx, nm_e (br_t h7 (hY post hp))⟩⟩
  · have h1 : vp_in (x + 1) 8 := mv_next hx h7
    obtain ⟨r, hX, hY⟩ := mv_med z (t x.toNatClampNeg) (t (x + 1).toNatClampNeg) f t
    exact ⟨r, fun post hp => ⟨hx, nm_e (br_f h7 ⟨h1, hX post hp⟩)⟩, fun post hp => ⟨hx, nm_e (br_f h7 ⟨h1, hY post hp⟩)⟩⟩
/-- predict of every column, refused ones too: one answer r, for every post -/
theorem mv_pred (f x : Int32) (t : Nat → Int32) : ∃ r : Int32, (∀ post : Int32 → Prop, post r → wpX_predict post (f, t) x) ∧ (∀ post : Int32 → Prop, post r → wpY_predict post (f, t) x) := by
  unfold wpX_predict wpY_predict
  dsimp only
  by_cases h0 : x < 0
  · exact ⟨1048576, fun post hp => mv_colF (Or.inl h0) _ (br_t rfl hp), fun post hp => br_t h0 hp⟩
  · by_cases h7 : x ≤ 7
    · by_cases z : x = 0
      · obtain ⟨r, hX, hY⟩ := mv_body x 0 f t (mv_in h0 h7)
        exact ⟨r, fun post hp => mv_colT h0 h7 _ (br_f mv_10 (br_t z (hX post hp))), fun post hp => br_f h0 (br_t h7 (br_t z (hY post hp)))⟩
      · obtain ⟨r, hX, hY⟩ := mv_body x f f t (mv_in h0 h7)
        exact ⟨r, fun post hp => mv_colT h0 h7 _ (br_f mv_10 (br_f z (hX post hp))), fun post hp => br_f h0 (br_t h7 (br_f z (hY post hp)))⟩
    · exact ⟨1048576, fun post hp => mv_colF (Or.inr h7) _ (br_t rfl hp), fun post hp => br_f h0 (br_f h7 hp)⟩
end
section
theorem pk_ns (z : Int32) : narrow .short (.int z.toInt16.toInt32) = .int z.toInt16.toInt32 := congrArg Value.int (by simp)
theorem pk_fs (r : Int32) : fits .short (.int r.toInt16.toInt32) = true := by
  have ⟨a, b⟩ := lg_i2s_range r
  have h1 : (-32768 : Int32).toInt = -32768 := by decide
  have h2 : (32767 : Int32).toInt = 32767 := by decide
  simp only [fits, Bool.and_eq_true, decide_eq_true_eq, Int32.le_iff_toInt_le, h1, h2]
  omega
theorem i_up {k : Nat} {u : SX} {v : SY} (h : i_Rel k u v) : i_Rel (k + 3) u v := h
theorem i_vc0 : wpX_init (fun u => wpY_init (fun v => i_Rel 0 u v)) := rfl
theorem i_vc_predict {k : Nat} {u : SX} {v : SY} (I : i_Rel k u v) (hk : k + 3 ≤ 1536) (v1 : Int32) : wpX_predict (fun r => wpY_predict (fun r' => r' = r ∧ i_Rel (k + 3) u v) v v1) u v1 := by
  cases I
  obtain ⟨f, t⟩ := u
  obtain ⟨r, hX, hY⟩ := mv_pred f v1 t
  exact hX _ (hY _ ⟨rfl, rfl⟩)
theorem i_vc_code {k : Nat} {u : SX} {v : SY} (I : i_Rel k u v) (hk : k + 3 ≤ 1536) (v1 : Int32) (v2 : Int32) : wpX_code (fun r u' => wpY_code (fun r' v' => r' = r ∧ i_Rel (k + 3) u' v') v v1 v2) u v1 v2 := by
  cases I
  obtain ⟨f, t⟩ := u
  unfold wpX_code wpY_code
  dsimp only
  by_cases h0 : v1 < 0
  · exact mv_colF (Or.inl h0) _ (br_t rfl (br_t h0 ⟨rfl, rfl⟩))
  · by_cases h7 : v1 ≤ 7
    · have hx := mv_in h0 h7
      obtain ⟨r, hX, hY⟩ := mv_pred f v1 t
      refine mv_colT h0 h7 _ (br_f mv_10 (hX _ ⟨hx, fun a ea => ⟨pk_ns v2, pk_fs v2, ?_⟩⟩))
      refine br_f h0 (br_t h7 (hY _ ⟨hx, fun b eb => ⟨pk_ns v2, pk_fs v2, rfl, ?_⟩⟩))
      rw [ea, eb]; exact rfl
    · exact mv_colF (Or.inr h7) _ (br_t rfl (br_f h0 (br_f h7 ⟨rfl, rfl⟩)))
theorem i_vc_top {k : Nat} {u : SX} {v : SY} (I : i_Rel k u v) (hk : k + 3 ≤ 1536) (v1 : Int32) : wpX_top (fun r => wpY_top (fun r' => r' = r ∧ i_Rel (k + 3) u v) v v1) u v1 := by
  cases I
  obtain ⟨f, t⟩ := u
  unfold wpX_top wpY_top
  dsimp only
  by_cases h0 : v1 < 0
  · exact mv_colF (Or.inl h0) _ (br_t rfl (br_t h0 ⟨rfl, rfl⟩))
  · by_cases h7 : v1 ≤ 7
    · have hx := mv_in h0 h7
      exact mv_colT h0 h7 _ (br_f mv_10 ⟨hx, br_f h0 (br_t h7 ⟨hx, rfl, rfl⟩)⟩)
    · exact mv_colF (Or.inr h7) _ (br_t rfl (br_f h0 (br_f h7 ⟨rfl, rfl⟩)))
theorem i_vc_left {k : Nat} {u : SX} {v : SY} (I : i_Rel k u v) (hk : k + 3 ≤ 1536) : wpX_left (fun r => wpY_left (fun r' => r' = r ∧ i_Rel (k + 3) u v) v) u := by
  cases I
  obtain ⟨f, t⟩ := u
  exact ⟨rfl, rfl⟩
end
