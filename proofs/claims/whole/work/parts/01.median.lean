/-- the two rows of eight blocks hold the same vectors, and the two left fields are equal -/
def i_Rel (_ : Nat) (u : SX) (v : SY) : Prop := u = v
/-- with lo ≤ hi, clamping c into lo .. hi (the class) is the greater of lo and the lesser of c and hi (the reference): one answer r, for every post -/
theorem mv_clamp (lo hi c l : Int32) (t : Nat → Int32) (h : lo ≤ hi) : ∃ r : Int32, (∀ post : Int32 → Prop, post r → wX_median_21 post c lo hi) ∧ (∀ post : Int32 → Prop, post r → wY_predict_81 post c lo hi l t) := by
  by_cases h1 : lo ≤ c
  · by_cases h2 : c ≤ hi
    · refine ⟨c, fun post hp => br_t h1 (br_t h2 hp), fun post hp => br_c (fun h3 => ?_) (fun h3 => ?_)⟩
      · have e : hi = c := Int32.le_antisymm h3 h2
        refine br_c (fun h4 => ?_) (fun _ => ?_)
        · have e2 : lo = c := Int32.le_antisymm h1 (e ▸ h4)
          rw [e2]; exact hp
        · rw [e]; exact hp
      · refine br_c (fun h4 => ?_) (fun _ => hp)
        have e2 : lo = c := Int32.le_antisymm h1 h4
        rw [e2]; exact hp
    · have h3 : hi ≤ c := Int32.le_of_lt (Int32.not_le.mp h2)
      refine ⟨hi, fun post hp => br_t h1 (br_f h2 hp), fun post hp => br_t h3 (br_c (fun h4 => ?_) (fun _ => hp))⟩
      have e2 : lo = hi := Int32.le_antisymm h h4
      rw [e2]; exact hp
  · have h3 : ¬ hi ≤ c := fun z => h1 (Int32.le_trans h z)
    have h4 : c ≤ lo := Int32.le_of_lt (Int32.not_le.mp h1)
    exact ⟨lo, fun post hp => br_f h1 hp, fun post hp => br_f h3 (br_t h4 hp)⟩
/-- the median of a, b, c on both sides -/
theorem mv_med (a b c l : Int32) (t : Nat → Int32) : ∃ r : Int32, (∀ post : Int32 → Prop, post r → wpX_median post a b c) ∧ (∀ post : Int32 → Prop, post r → wY_predict_57 post a b c l t) := by
  by_cases h : b ≤ a
  · obtain ⟨r, hX, hY⟩ := mv_clamp b a c l t h
    exact ⟨r, fun post hp => br_t h (br_t h (hX post hp)), fun post hp => br_t h (br_t h (hY post hp))⟩
  · obtain ⟨r, hX, hY⟩ := mv_clamp a b c l t (Int32.le_of_lt (Int32.not_le.mp h))
    exact ⟨r, fun post hp => br_f h (br_f h (hX post hp)), fun post hp => br_f h (br_f h (hY post hp))⟩
