/-! ===== a new object: both sides alike ===== -/
theorem sf_tab : ∀ i, i < 9 → ms_sf i = nI (ms_ix (ms_sf i)) ∧ ms_ix (ms_sf i) ≤ ms_ix (ms_sm i) := by decide
theorem bt_0 (t : Nat) : bt 0 t = 0 := by
  unfold bt
  rw [Nat.zero_div]
theorem rel0 {σ τ : Mm} (s3 : σ 0 3 = 0) (s10 : σ 0 10 = 0) (t3 : σ 1 3 = 0) (t4 : σ 1 4 = 0) (t5 : σ 1 5 = 0) (t6 : σ 1 6 = 0) (t7 : σ 1 7 = -1) (t8 : σ 1 8 = 0) (x2 : ∀ i, i < 100 → σ 2 i = 0) (x5 : ∀ i, i < 9 → σ 5 i = ms_sf i) (x6 : ∀ i, i < 6 → σ 6 i = 0) (d5 : σ 12 5 = 0) (p7 : σ 18 7 = 0) (w3 : σ 22 3 = 0) (w8 : σ 22 8 = 0) (x23 : ∀ i, i < 12 → σ 23 i = 0) (x24 : ∀ i, i < 12 → σ 24 i = 0) (q1 : ∀ s, s < 4 → σ (27 + 2 * s) 1 = 0 ∧ σ (27 + 2 * s) 2 = 0 ∧ σ (27 + 2 * s) 3 = 1 ∧ ∀ i, i < 48 → σ (28 + 2 * s) i = 0) (m0 : τ 0 0 = 0) (m25 : τ 0 25 = 0) (m33 : τ 0 33 = 0) (y1 : ∀ i, i < 100 → τ 1 i = 0) (y2 : ∀ i, i < 9 → τ 2 i = ms_sf i) (y7 : ∀ i, i < 6 → τ 7 i = 0) (y8 : ∀ i, i < 6 → τ 8 i = 0) (y22 : ∀ i, i < 12 → τ 22 i = 0) (y23 : ∀ i, i < 12 → τ 23 i = 0) (y24 : ∀ s, s < 4 → τ 24 s = 0 ∧ τ 25 s = 0 ∧ τ 26 s = 0) (y27 : ∀ i, i < 192 → τ 27 i = 0) : Rel σ τ := by
  have eS : ∀ i, i < 9 → sg σ i = ms_ix (ms_sf i) := fun i hi => by unfold sg; rw [x5 i hi]
  have eB : sB σ = 0 := by unfold sB; rw [s3]; rfl
  have eN : sN σ = 0 := by unfold sN; rw [w3]; rfl
  refine ⟨⟨⟨0, by omega, t3, m0, fun i hi => by rw [x2 i hi, y1 i hi]⟩, town0 t3 t4 t5 t6 t7 t8, (SW_iff σ).2 fun i hi => ?_, ⟨0, by decide, s3⟩, fun t ht => ⟨0, by decide, x6 t ht⟩, fun i hi => ?_, fun t ht => by rw [y7 t ht, eB, bt_0]; rfl, fun t ht => by rw [y8 t ht, x6 t ht], ?_, fun s hs => ?_, by rw [m33, s10]⟩, Or.inl d5, Or.inl p7, Or.inl w8⟩
  · obtain ⟨a, b⟩ := sf_tab i hi
    rw [x5 i hi, eS i hi]
    exact ⟨a, b⟩
  · rw [y2 i hi, eS i hi]
    exact (sf_tab i hi).1
  · unfold NotesOK
    rw [eN]
    exact ⟨w3, by omega, fun i hi => by omega, by rw [m25, w3], fun i hi => by rw [y22 i hi, x23 i hi, y23 i hi, x24 i hi]; exact ⟨rfl, rfl⟩⟩
  · obtain ⟨a, b, c, d⟩ := q1 s hs
    obtain ⟨e, f, g⟩ := y24 s hs
    exact ⟨Or.inr ⟨c, e⟩, ⟨0, by decide, a⟩, ⟨0, by decide, b⟩, by rw [f, a], by rw [g, b], fun i hi => by rw [d i hi, y27 _ (by omega)]⟩
