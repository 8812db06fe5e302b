theorem pk_ns (z : Int32) : narrow .short (.int z.toInt16.toInt32) = .int z.toInt16.toInt32 := congrArg Value.int (by simp)
theorem pk_fs (r : Int32) : fits .short (.int r.toInt16.toInt32) = true := by
  have ⟨a, b⟩ := lg_i2s_range r
  have h1 : (-32768 : Int32).toInt = -32768 := by decide
  have h2 : (32767 : Int32).toInt = 32767 := by decide
  simp only [fits, Bool.and_eq_true, decide_eq_true_eq, Int32.le_iff_toInt_le, h1, h2]
  omega
theorem i_up {k : Nat} {u : SX} {v : SY} (h : i_Rel k u v) : i_Rel (k + 3) u v := h
theorem i_vc0 : wpX_init (fun u => wpY_init (fun v => i_Rel 0 u v)) := rfl
theorem i_vc_predict {k : Nat} {u : SX} {v : SY} (I : i_Rel k u v) (hk : k + 3 ≤ 1536) (v1 : Int32) : wpX_predict (fun r => wpY_predict (fun r' => r' = r ∧ i_Rel (k + 3) u v) v v1) u v1 := by
  cases I
  obtain ⟨f, t⟩ := u
  obtain ⟨r, hX, hY⟩ := mv_pred f v1 t
  exact hX _ (hY _ ⟨rfl, rfl⟩)
theorem i_vc_code {k : Nat} {u : SX} {v : SY} (I : i_Rel k u v) (hk : k + 3 ≤ 1536) (v1 : Int32) (v2 : Int32) : wpX_code (fun r u' => wpY_code (fun r' v' => r' = r ∧ i_Rel (k + 3) u' v') v v1 v2) u v1 v2 := by
  cases I
  obtain ⟨f, t⟩ := u
  unfold wpX_code wpY_code
  dsimp only
  by_cases h0 : v1 < 0
  · exact mv_colF (Or.inl h0) _ (br_t rfl (br_t h0 ⟨rfl, rfl⟩))
  · by_cases h7 : v1 ≤ 7
    · have hx := mv_in h0 h7
      obtain ⟨r, hX, hY⟩ := mv_pred f v1 t
      refine mv_colT h0 h7 _ (br_f mv_10 (hX _ ⟨hx, fun a ea => ⟨pk_ns v2, pk_fs v2, ?_⟩⟩))
      refine br_f h0 (br_t h7 (hY _ ⟨hx, fun b eb => ⟨pk_ns v2, pk_fs v2, rfl, ?_⟩⟩))
      rw [ea, eb]; exact rfl
    · exact mv_colF (Or.inr h7) _ (br_t rfl (br_f h0 (br_f h7 ⟨rfl, rfl⟩)))
theorem i_vc_top {k : Nat} {u : SX} {v : SY} (I : i_Rel k u v) (hk : k + 3 ≤ 1536) (v1 : Int32) : wpX_top (fun r => wpY_top (fun r' => r' = r ∧ i_Rel (k + 3) u v) v v1) u v1 := by
  cases I
  obtain ⟨f, t⟩ := u
  unfold wpX_top wpY_top
  dsimp only
  by_cases h0 : v1 < 0
  · exact mv_colF (Or.inl h0) _ (br_t rfl (br_t h0 ⟨rfl, rfl⟩))
  · by_cases h7 : v1 ≤ 7
    · have hx := mv_in h0 h7
      exact mv_colT h0 h7 _ (br_f mv_10 ⟨hx, br_f h0 (br_t h7 ⟨hx, rfl, rfl⟩)⟩)
    · exact mv_colF (Or.inr h7) _ (br_t rfl (br_f h0 (br_f h7 ⟨rfl, rfl⟩)))
theorem i_vc_left {k : Nat} {u : SX} {v : SY} (I : i_Rel k u v) (hk : k + 3 ≤ 1536) : wpX_left (fun r => wpY_left (fun r' => r' = r ∧ i_Rel (k + 3) u v) v) u := by
  cases I
  obtain ⟨f, t⟩ := u
  exact ⟨rfl, rfl⟩
