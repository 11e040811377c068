/-! ===== numbers: Int32 by naturals; memory reads ===== -/
theorem ms_rd (σ : Mm) (k i : Nat) (v : Int32) (k' i' : Nat) : ms_st σ k i v k' i' = if k' = k ∧ i' = i then v else σ k' i' := by
  unfold ms_st
  by_cases h : k' = k
  · subst h
    by_cases h2 : i' = i
    · subst h2; simp [upd]
    · simp [upd, h2]
  · simp [h]
theorem ms_rdr (σ : Mm) (k : Nat) (f : Nat → Int32) (k' i' : Nat) : ms_row σ k f k' i' = if k' = k then f i' else σ k' i' := by
  unfold ms_row
  by_cases h : k' = k
  · subst h; simp
  · simp [h]
theorem ix_nI {n : Nat} (h : n < 2147483648) : ms_ix (nI n) = n := nI_clamp h
theorem in_nI {n N : Nat} (h : n < N) (hN : N ≤ 2147483648) : ms_in (nI n) N := by
  have e : (nI n).toInt = (n : Int) := nI_toInt (by omega)
  refine ⟨by rw [e]; omega, by rw [e]; omega⟩
theorem in_iff {n N : Nat} (h : n < 2147483648) : ms_in (nI n) N ↔ n < N := by
  have e : (nI n).toInt = (n : Int) := nI_toInt h
  unfold ms_in
  rw [e]
  omega
theorem le_nI {a b : Nat} (ha : a < 2147483648) (hb : b < 2147483648) : (nI a ≤ nI b) = (a ≤ b) := propext (nI_leI ha hb)
theorem lt_nI {a b : Nat} (ha : a < 2147483648) (hb : b < 2147483648) : (nI a < nI b) = (a < b) := propext (nI_ltI ha hb)
theorem eq_nI {a b : Nat} (ha : a < 2147483648) (hb : b < 2147483648) : (nI a = nI b) = (a = b) := propext (nI_eq ha hb)
theorem rem_nI {a d : Nat} (ha : a < 2147483648) (h0 : 0 < d) (hd : d < 2147483648) : ms_rem (nI a) (nI d) = nI (a % d) := pk_rem ha h0 hd
theorem m1_ne {n : Nat} (h : n < 2147483648) : ¬ nI n = (-1 : Int32) := by
  intro e
  have h1 : (nI n).toInt = (n : Int) := nI_toInt h
  rw [e] at h1
  have h2 : (-1 : Int32).toInt = -1 := by decide
  rw [h2] at h1
  omega
theorem m1_lt {n : Nat} (h : n < 2147483648) : (-1 : Int32) < nI n := by
  rw [Int32.lt_iff_toInt_lt, nI_toInt h]
  have h2 : (-1 : Int32).toInt = -1 := by decide
  rw [h2]; omega
theorem m1_nle {n : Nat} (h : n < 2147483648) : ¬ nI n ≤ (-1 : Int32) := by
  rw [Int32.le_iff_toInt_le, nI_toInt h]
  have h2 : (-1 : Int32).toInt = -1 := by decide
  rw [h2]; omega
/-- a number that isn't negative, by its natural -/
theorem nI_ix {x : Int32} (h : ¬ x < 0) : x = nI (ms_ix x) ∧ ms_ix x < 2147483648 := by
  obtain ⟨j, hj, rfl⟩ := nI_of h
  rw [ix_nI hj]
  exact ⟨rfl, hj⟩
abbrev nn (x : Int32) (b : Nat) : Prop := ∃ n, n < b ∧ x = nI n
theorem minv_nI {a b : Nat} (ha : a < 2147483648) (hb : b < 2147483648) : ms_minv (nI a) (nI b) = nI (min a b) := by
  unfold ms_minv
  simp only [lt_nI hb ha]
  by_cases h : b < a
  · rw [if_pos h, Nat.min_eq_right (by omega)]
  · rw [if_neg h, Nat.min_eq_left (by omega)]
theorem maxv_nI {a b : Nat} (ha : a < 2147483648) (hb : b < 2147483648) : ms_maxv (nI a) (nI b) = nI (max a b) := by
  unfold ms_maxv
  simp only [lt_nI ha hb]
  by_cases h : a < b
  · rw [if_pos h, Nat.max_eq_right (by omega)]
  · rw [if_neg h, Nat.max_eq_left (by omega)]
theorem in_same (x a b : Int32) : fX8_in x a b = fX7_within x a b := rfl
theorem wi_01 {x a b : Int32} : ∃ r : Int32, fX7_within x a b = some r ∧ (r = 0 ∨ r = 1) := by
  unfold fX7_within
  split
  · exact ⟨0, rfl, Or.inl rfl⟩
  · split
    · exact ⟨0, rfl, Or.inl rfl⟩
    · exact ⟨1, rfl, Or.inr rfl⟩
/-- both ways of the question -/
theorem wi_cases (x : Int32) {a b : Nat} (ha : a < 2147483648) (hb : b < 2147483648) : (fX7_within x (nI a) (nI b) = some 0) ∨ (∃ n, a ≤ n ∧ n ≤ b ∧ x = nI n ∧ fX7_within x (nI a) (nI b) = some 1) := by
  unfold fX7_within
  by_cases h0 : x < 0
  · exact Or.inl (by rw [if_pos (Int32.lt_of_lt_of_le h0 (nI_pos' ha))])
  · obtain ⟨n, hn, rfl⟩ := nI_of h0
    simp only [lt_nI hn ha, lt_nI hb hn]
    by_cases h1 : n < a
    · exact Or.inl (by rw [if_pos h1])
    · by_cases h2 : b < n
      · exact Or.inl (by rw [if_neg h1, if_pos h2])
      · exact Or.inr ⟨n, by omega, by omega, rfl, by rw [if_neg h1, if_neg h2]⟩
/-- memories alike but in some places -/
def Fr (W : Nat → Nat → Prop) (σ σ' : Mm) : Prop := ∀ k i, ¬ W k i → σ' k i = σ k i
theorem Fr.rf {W : Nat → Nat → Prop} {σ : Mm} : Fr W σ σ := fun _ _ _ => rfl
theorem Fr.tr {W : Nat → Nat → Prop} {σ σ1 σ2 : Mm} (h1 : Fr W σ σ1) (h2 : Fr W σ1 σ2) : Fr W σ σ2 := fun k i h => (h2 k i h).trans (h1 k i h)
theorem Fr.mo {W V : Nat → Nat → Prop} {σ σ1 : Mm} (h1 : Fr W σ σ1) (h : ∀ k i, W k i → V k i) : Fr V σ σ1 := fun k i hn => h1 k i (fun q => hn (h k i q))
theorem Fr.st {W : Nat → Nat → Prop} {σ σ1 : Mm} (h1 : Fr W σ σ1) {k i : Nat} (v : Int32) (h : W k i) : Fr W σ (ms_st σ1 k i v) := fun k' i' hn => by
  rw [ms_rd]
  by_cases q : k' = k ∧ i' = i
  · exact absurd (by rw [q.1, q.2]; exact h) hn
  · rw [if_neg q]; exact h1 k' i' hn
theorem Fr.row {W : Nat → Nat → Prop} {σ σ1 : Mm} (h1 : Fr W σ σ1) {k : Nat} {f : Nat → Int32} (h : ∀ i, W k i) : Fr W σ (ms_row σ1 k f) := fun k' i' hn => by
  rw [ms_rdr]
  by_cases q : k' = k
  · exact absurd (by rw [q]; exact h i') hn
  · rw [if_neg q]; exact h1 k' i' hn
theorem fu_lt {n : Nat} (h : n < 20000) : n < ms_fu := h
