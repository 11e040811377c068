/-! ===== a new town ===== -/
theorem st_id {σ : Mm} {k i : Nat} {v : Int32} (h : σ k i = v) : ms_st σ k i v = σ := by
  funext a b
  rw [ms_rd]
  by_cases q : a = k ∧ b = i
  · rw [if_pos q, q.1, q.2, h]
  · rw [if_neg q]
theorem parse0 {σ : Mm} (h3 : σ 1 3 = 0) (h4 : σ 1 4 = 0) (h5 : σ 1 5 = 0) (h6 : σ 1 6 = 0) (h7 : σ 1 7 = -1) (h8 : σ 1 8 = 0) : fX4_parse σ = some σ := by
  have hf : fX4_forgetParts σ = some σ := by
    unfold fX4_forgetParts
    simp only [ms_lt, st_id h4, st_id h5, st_id h6]
  have h29 : fX4_parse_29 ms_fu 0 0 σ = some σ := by
    obtain ⟨n, hn⟩ : ∃ z, ms_fu = z + 1 := ⟨19999, rfl⟩
    rw [hn, fX4_parse_29, if_neg (by decide), if_pos rfl]
    unfold fX4_parse_96
    rw [if_pos h7]
  unfold fX4_parse
  rw [hf, Option.bind_some, lt_eq, st_id h7, lt_eq, st_id h8, h3, if_pos (by decide)]
  unfold fX4_parse_26
  exact h29
theorem town0 {σ : Mm} (h3 : σ 1 3 = 0) (h4 : σ 1 4 = 0) (h5 : σ 1 5 = 0) (h6 : σ 1 6 = 0) (h7 : σ 1 7 = -1) (h8 : σ 1 8 = 0) : TownOK σ := by
  obtain ⟨σ', p1, p2, p3⟩ := parse_ok (n := 0) (by omega) (σ := σ) h3
  rw [parse0 h3 h4 h5 h6 h7 h8] at p1
  obtain rfl := Option.some.inj p1
  exact p3
