/-! ===== read, write, copy ===== -/
theorem e48 (s i : Nat) : (48 : Int32) * nI s + nI i = nI (48 * s + i) := by rw [show (48 : Int32) = nI 48 from rfl, pk_mul, nI_add]
theorem readXM {s z : Nat} (hs : s < 4) (hz : z < 49) : ∀ (d n i : Nat), i + d = min z 6 → d < n → ∀ σ τ : Mm, Core σ τ → σ (27 + 2 * s) 2 = nI z → ∃ (r : Int32) (σ' τ' : Mm), fX7_read_48 n s (nI (min z 6)) (nI i) σ = some (r, σ') ∧ fX8_read_27 n (nI s) (nI i) τ = some (r, τ') ∧ Rel σ' τ' := by
  have i4 : ms_in (nI s) 4 := in_nI hs (by decide)
  have ixs : ms_ix (nI s) = s := ix_nI (by omega)
  intro d
  induction d with
  | zero =>
    intro n i hd hn σ τ hc hσ
    obtain ⟨n, rfl⟩ : ∃ z, n = z + 1 := ⟨n - 1, by omega⟩
    obtain ⟨σ', o1, o2, -⟩ := outX hc
    have e := (hc.sht s hs).2.2.2.2.1
    refine ⟨nI i, σ', τ, ?_, ?_, o2⟩
    · rw [fX7_read_48, ifle (by omega) (by omega), if_pos (by omega)]
      unfold fX7_read_90
      rw [o1, Option.bind_some]
    · rw [fX8_read_27, ms_g_t i4, ixs, e, hσ, ifle (by omega) (by omega), show (6 : Int32) = nI 6 from rfl, ifle (by decide) (by omega)]
      by_cases c : z ≤ i
      · rw [if_pos c]
      · rw [if_neg c, if_pos (by omega)]
  | succ d ih =>
    intro n i hd hn σ τ hc hσ
    obtain ⟨n, rfl⟩ : ∃ z, n = z + 1 := ⟨n - 1, by omega⟩
    obtain ⟨-, -, -, -, e, f⟩ := hc.sht s hs
    have i48 : ms_in (nI i) 48 := in_nI (by omega) (by decide)
    have i6 : ms_in (nI i) 6 := in_nI (by omega) (by decide)
    have ixi : ms_ix (nI i) = i := ix_nI (by omega)
    have i192 : ms_in (nI (48 * s + i)) 192 := in_nI (by omega) (by decide)
    have ixa : ms_ix (nI (48 * s + i)) = 48 * s + i := ix_nI (by omega)
    rw [fX7_read_48, fX8_read_27, ifle (by omega) (by omega), if_neg (by omega)]
    simp only [ms_g_t i4, ixs, ms_g_t i48, ms_g_t i6, ixi, e48, ms_g_t i192, ixa, e, hσ, f i (by omega), ms_lt]
    rw [ifle (by omega) (by omega), if_neg (by omega), show (6 : Int32) = nI 6 from rfl, ifle (by decide) (by omega), if_neg (by omega), in_same]
    rcases wi_cases (σ (28 + 2 * s) i) (a := 0) (b := 23) (by decide) (by decide) with c | ⟨w, -, c2, c3, c4⟩
    · obtain ⟨σ', o1, o2, -⟩ := outX hc
      rw [show fX7_within (σ (28 + 2 * s) i) 0 23 = some 0 from c, Option.bind_some, Option.bind_some, if_pos rfl, if_pos rfl]
      unfold fX7_read_90
      rw [o1, Option.bind_some]
      exact ⟨_, σ', τ, rfl, rfl, o2⟩
    · rw [show fX7_within (σ (28 + 2 * s) i) 0 23 = some 1 from c4, Option.bind_some, Option.bind_some, if_neg n10, if_neg n10, c3, nI_1]
      exact ih n (i + 1) (by omega) (by omega) _ _ (shiftC hc (by omega)) (by rw [ms_rd, if_neg (by omega)]; exact hσ)
theorem s_read {σ τ : Mm} (h : Rel σ τ) (p0 : Int32) : ∃ (r : Int32) (σ' τ' : Mm), fX7_read p0 σ = some (r, σ') ∧ fX8_read p0 τ = some (r, τ') ∧ Rel σ' τ' := by
  rcases sheet_cases p0 with ⟨c1, c2⟩ | ⟨s, hs, rfl, c1, c2⟩
  · refine ⟨-2, σ, τ, ?_, ?_, h⟩
    · unfold fX7_read
      rw [c1, Option.bind_some, if_pos rfl]
    · unfold fX8_read
      rw [c2, Option.bind_some, if_pos rfl]
  have i4 : ms_in (nI s) 4 := in_nI hs (by decide)
  have ixs : ms_ix (nI s) = s := ix_nI (by omega)
  obtain ⟨a, b, ⟨z, z1, z2⟩, d, e, f⟩ := h.1.sht s hs
  unfold fX7_read fX8_read
  rw [c1, c2, Option.bind_some, Option.bind_some, if_neg n10, if_neg n10]
  simp only [ms_g_t i4, ixs, ms_lt]
  rcases a with ⟨a1, a2⟩ | ⟨a1, a2⟩
  · rw [if_pos a1, if_neg (show ¬ τ 24 s = 0 by rw [a2]; decide), z2, show ms_minv (nI z) 6 = nI (min z 6) from minv_nI (b := 6) (by omega) (by decide)]
    exact readXM hs z1 (min z 6) ms_fu 0 (by omega) (fu_lt (by omega)) σ τ h.1 z2
  · rw [if_neg (show ¬ σ (27 + 2 * s) 3 = 0 by rw [a1]; decide), if_pos a2]
    unfold fX7_find fX8_meets
    simp only [ms_lt, Option.bind_some]
    exact ⟨_, _, _, rfl, rfl, findR h 1⟩
theorem writeXM {s z k : Nat} (hs : s < 4) (hz : z < 49) (hk : k < 240) : ∀ (d n i : Nat), i + d = min z (240 - k) → d < n → ∀ σ τ : Mm, Rel σ τ → σ (27 + 2 * s) 2 = nI z → (∀ j, j < 240 → τ 14 j = σ 13 j) → ∃ (r : Int32) (σ' τ' : Mm), fX7_write_60 n (nI k) (nI s) (nI (min z (240 - k))) (nI i) σ = some (r, σ') ∧ fX8_write_38 n (nI k) (nI s) (nI i) τ = some (r, τ') ∧ Rel σ' τ' := by
  have i4 : ms_in (nI s) 4 := in_nI hs (by decide)
  have ixs : ms_ix (nI s) = s := ix_nI (by omega)
  intro d
  induction d with
  | zero =>
    intro n i hd hn σ τ h hσ hl
    obtain ⟨n, rfl⟩ : ∃ z, n = z + 1 := ⟨n - 1, by omega⟩
    have e := (h.1.sht s hs).2.2.2.2.1
    refine ⟨nI i, σ, τ, ?_, ?_, h⟩
    · rw [fX7_write_60, ifle (by omega) (by omega), if_pos (by omega), show min z (240 - k) = i by omega]
    · rw [fX8_write_38, ms_g_t i4, ixs, e, hσ, ifle (by omega) (by omega), nI_add, show (240 : Int32) = nI 240 from rfl, ifle (by decide) (by omega)]
      by_cases c : z ≤ i
      · rw [if_pos c]
      · rw [if_neg c, if_pos (by omega)]
  | succ d ih =>
    intro n i hd hn σ τ h hσ hl
    obtain ⟨n, rfl⟩ : ∃ z, n = z + 1 := ⟨n - 1, by omega⟩
    obtain ⟨-, -, -, -, e, f⟩ := h.1.sht s hs
    obtain ⟨v, v1, v2⟩ := keep_s h hs (show i < 48 by omega) (σ 13 (k + i))
    have i240 : ms_in (nI (k + i)) 240 := in_nI (by omega) (by decide)
    have ixa : ms_ix (nI (k + i)) = k + i := ix_nI (by omega)
    rw [fX7_write_60, fX8_write_38, ifle (by omega) (by omega), if_neg (by omega), nI_add]
    simp only [ms_g_t i4, ixs, ms_g_t i240, ixa, e, hσ, hl (k + i) (by omega)]
    rw [ifle (by omega) (by omega), if_neg (by omega), show (240 : Int32) = nI 240 from rfl, ifle (by decide) (by omega), if_neg (by omega), v1, v2, Option.bind_some, Option.bind_some, nI_1]
    exact ih n (i + 1) (by omega) (by omega) _ _ (itemR h hs (by omega) v) (by rw [ms_rd, if_neg (by omega)]; exact hσ) (fun j hj => by rw [ms_rd, if_neg (by omega), ms_rd, if_neg (by omega)]; exact hl j hj)
theorem s_write {σ τ : Mm} (h : Rel σ τ) (p0 p1 : Int32) : ∃ (r : Int32) (σ' τ' : Mm), fX7_write p0 p1 σ = some (r, σ') ∧ fX8_write p0 p1 τ = some (r, τ') ∧ Rel σ' τ' := by
  rcases hour_cases p0 with ⟨c1, c2⟩ | ⟨k, c0, rfl, c1, c2⟩
  · refine ⟨-2, σ, τ, ?_, ?_, h⟩
    · unfold fX7_write
      rw [c1, Option.bind_some, if_pos rfl]
    · unfold fX8_write
      rw [c2, Option.bind_some, if_pos rfl]
  rcases sheet_cases p1 with ⟨d1, d2⟩ | ⟨s, hs, rfl, d1, d2⟩
  · refine ⟨-2, σ, τ, ?_, ?_, h⟩
    · unfold fX7_write
      rw [c1, Option.bind_some, if_neg n10, d1, Option.bind_some, if_pos rfl]
    · unfold fX8_write
      rw [c2, Option.bind_some, if_neg n10, d2, Option.bind_some, if_pos rfl]
  have i4 : ms_in (nI s) 4 := in_nI hs (by decide)
  have ixs : ms_ix (nI s) = s := ix_nI (by omega)
  obtain ⟨a, b, ⟨z, z1, z2⟩, d, e, f⟩ := h.1.sht s hs
  unfold fX7_write fX8_write
  rw [c1, c2, Option.bind_some, Option.bind_some, if_neg n10, if_neg n10, d1, d2, Option.bind_some, Option.bind_some, if_neg n10, if_neg n10]
  simp only [ms_g_t i4, ixs, ms_lt]
  rcases a with ⟨a1, a2⟩ | ⟨a1, a2⟩
  · obtain ⟨σ1, g1, g2, g3, g4, g5⟩ := daysX h
    obtain ⟨τ1, k1, k2, k3, k4⟩ := laysM h.1
    have z2' : σ1 (27 + 2 * s) 2 = nI z := by rw [g3 _ _ (fun q => by rcases q with q | q | q | q | q | q | q | q <;> omega)]; exact z2
    rw [if_pos a1, if_neg (show ¬ τ 24 s = 0 by rw [a2]; decide), g1, Option.bind_some, k1, Option.bind_some, z2', show (240 : Int32) - nI k = nI (240 - k) by rw [show (240 : Int32) = nI 240 from rfl, pk_sub (by omega)], minv_nI (by omega) (by omega)]
    exact writeXM hs z1 c0 (min z (240 - k)) ms_fu 0 (by omega) (fu_lt (by omega)) σ1 τ1 (g2.frM k2) z2' (fun j hj => by rw [(g4 j hj).1, (k4 j hj).1])
  · rw [if_neg (show ¬ σ (27 + 2 * s) 3 = 0 by rw [a1]; decide), if_pos a2]
    unfold fX7_find fX8_meets
    simp only [ms_lt, Option.bind_some]
    exact ⟨_, _, _, rfl, rfl, findR h 1⟩
/-! copy -/
def runP (z : Nat) (p c : Int32) : Prop := ∃ a b, a < 2147483648 ∧ b < 2147483648 ∧ p = nI a ∧ c = nI b ∧ a + b ≤ z
theorem hasRun_c {σ : Mm} {s z : Nat} (hz : z < 49) (hσ : σ (27 + 2 * s) 2 = nI z) (p c : Int32) : (fX2_hasRun σ s p c = some 1 ∧ runP z p c) ∨ (fX2_hasRun σ s p c = some 0 ∧ ¬ runP z p c) := by
  unfold fX2_hasRun
  by_cases h1 : p < 0
  · rw [if_pos h1]
    refine Or.inr ⟨rfl, fun ⟨a, b, ha, hb, e1, _⟩ => ?_⟩
    rw [e1, show (0 : Int32) = nI 0 from rfl, lt_nI ha (by decide)] at h1
    omega
  by_cases h2 : c < 0
  · rw [if_neg h1, if_pos h2]
    refine Or.inr ⟨rfl, fun ⟨a, b, ha, hb, _, e2, _⟩ => ?_⟩
    rw [e2, show (0 : Int32) = nI 0 from rfl, lt_nI hb (by decide)] at h2
    omega
  obtain ⟨a, ha, rfl⟩ := nI_of h1
  obtain ⟨b, hb, rfl⟩ := nI_of h2
  rw [if_neg h1, if_neg h2, hσ, iflt (by omega) hb]
  have key : runP z (nI a) (nI b) ↔ a + b ≤ z := by
    constructor
    · rintro ⟨a', b', ha', hb', e1, e2, e3⟩
      rw [eq_nI ha ha'] at e1
      rw [eq_nI hb hb'] at e2
      omega
    · intro q
      exact ⟨a, b, ha, hb, rfl, rfl, q⟩
  rw [key]
  by_cases h3 : z < b
  · rw [if_pos h3]
    exact Or.inr ⟨rfl, by omega⟩
  · rw [if_neg h3, pk_sub (by omega), iflt (by omega) ha]
    by_cases h4 : z - b < a
    · rw [if_pos h4]
      exact Or.inr ⟨rfl, by omega⟩
    · rw [if_neg h4]
      exact Or.inl ⟨rfl, by omega⟩
theorem lgle {a b z : Nat} (ha : a < 2147483648) (hb : b < 2147483648) (hz : z < 49) : ((nI a).toInt64 + (nI b).toInt64 ≤ (nI z).toInt64) ↔ a + b ≤ z := by
  rw [Int64.le_iff_toInt_le, lg_i2l_add, Int32.toInt_toInt64, nI_toInt ha, nI_toInt hb, nI_toInt (by omega)]
  omega
theorem lggt {a b z : Nat} (ha : a < 2147483648) (hb : b < 2147483648) (hz : z < 49) : ((nI z).toInt64 < (nI a).toInt64 + (nI b).toInt64) ↔ z < a + b := by
  rw [Int64.lt_iff_toInt_lt, lg_i2l_add, Int32.toInt_toInt64, nI_toInt ha, nI_toInt hb, nI_toInt (by omega)]
  omega
theorem cop120 {s1 a s2 c b : Nat} (h1 : s1 < 4) (hab : a + b ≤ 48) : ∀ (d n j : Nat), j + d = b → d < n → ∀ τ : Mm, (∀ i, i < j → τ 28 i = τ 27 (48 * s1 + a + i)) → ∃ τ', fX8_copy_120 n (nI s1) (nI a) (nI s2) (nI c) (nI b) (nI j) τ = fX8_copy_157 ms_fu (nI s2) (nI c) (nI b) 0 τ' ∧ Fr (fun k _ => k = 28) τ τ' ∧ ∀ i, i < b → τ' 28 i = τ 27 (48 * s1 + a + i) := by
  intro d
  induction d with
  | zero =>
    intro n j hd hn τ hj
    obtain ⟨n, rfl⟩ : ∃ z, n = z + 1 := ⟨n - 1, by omega⟩
    obtain rfl : j = b := by omega
    rw [fX8_copy_120, ifle (by omega) (by omega), if_pos (Nat.le_refl _)]
    exact ⟨τ, rfl, Fr.rf, hj⟩
  | succ d ih =>
    intro n j hd hn τ hj
    obtain ⟨n, rfl⟩ : ∃ z, n = z + 1 := ⟨n - 1, by omega⟩
    rw [fX8_copy_120, ifle (by omega) (by omega), if_neg (by omega), e48, nI_add, ms_g_t (in_nI (by omega) (by decide)), ms_g_t (in_nI (by omega) (by decide)), ix_nI (by omega), ix_nI (by omega)]
    simp only [ms_lt]
    rw [nI_1]
    have F : Fr (fun k _ => k = 28) τ (ms_st τ 28 j (τ 27 (48 * s1 + a + j))) := Fr.rf.st _ rfl
    obtain ⟨τ', q1, q2, q3⟩ := ih n (j + 1) (by omega) (by omega) (ms_st τ 28 j (τ 27 (48 * s1 + a + j))) (fun i hi => by
      rw [ms_rd, ms_rd, if_neg (show ¬ (27 = 28 ∧ _) by simp)]
      by_cases q : i = j
      · rw [if_pos ⟨rfl, q⟩, q]
      · rw [if_neg (fun z => q z.2)]; exact hj i (by omega))
    refine ⟨τ', q1, F.tr q2, fun i hi => ?_⟩
    rw [q3 i hi, ms_rd, if_neg (by simp)]
theorem cop157 {s2 c b : Nat} (h2 : s2 < 4) (hcb : c + b ≤ 48) {τ0 : Mm} : ∀ (d n j : Nat), j + d = b → d < n → ∀ τ : Mm, Fr (fun k i => k = 27 ∧ 48 * s2 ≤ i ∧ i < 48 * s2 + 48) τ0 τ → (∀ i, i < 48 → τ 27 (48 * s2 + i) = if c ≤ i ∧ i < c + j then τ0 28 (i - c) else τ0 27 (48 * s2 + i)) → ∃ τ', fX8_copy_157 n (nI s2) (nI c) (nI b) (nI j) τ = some (1, τ') ∧ Fr (fun k i => k = 27 ∧ 48 * s2 ≤ i ∧ i < 48 * s2 + 48) τ0 τ' ∧ ∀ i, i < 48 → τ' 27 (48 * s2 + i) = if c ≤ i ∧ i < c + b then τ0 28 (i - c) else τ0 27 (48 * s2 + i) := by
  intro d
  induction d with
  | zero =>
    intro n j hd hn τ hF hj
    obtain ⟨n, rfl⟩ : ∃ z, n = z + 1 := ⟨n - 1, by omega⟩
    obtain rfl : j = b := by omega
    rw [fX8_copy_157, ifle (by omega) (by omega), if_pos (Nat.le_refl _)]
    exact ⟨τ, rfl, hF, hj⟩
  | succ d ih =>
    intro n j hd hn τ hF hj
    obtain ⟨n, rfl⟩ : ∃ z, n = z + 1 := ⟨n - 1, by omega⟩
    rw [fX8_copy_157, ifle (by omega) (by omega), if_neg (by omega), e48, nI_add, ms_g_t (in_nI (show j < 48 by omega) (by decide)), ms_g_t (in_nI (by omega) (by decide)), ix_nI (show 48 * s2 + c + j < 2147483648 by omega), ix_nI (show j < 2147483648 by omega)]
    simp only [ms_lt]
    rw [nI_1, hF 28 j (by simp)]
    refine ih n (j + 1) (by omega) (by omega) _ (hF.st _ ⟨rfl, by omega, by omega⟩) (fun i hi => ?_)
    rw [ms_rd]
    by_cases q : i = c + j
    · rw [if_pos ⟨rfl, by omega⟩, if_pos (by omega), show i - c = j by omega]
    · rw [if_neg (by omega), hj i hi]
      by_cases q2 : c ≤ i ∧ i < c + j
      · rw [if_pos q2, if_pos (by omega)]
      · rw [if_neg q2, if_neg (by omega)]
theorem s_copy {σ τ : Mm} (h : Rel σ τ) (p0 p1 p2 p3 p4 : Int32) : ∃ (r : Int32) (σ' τ' : Mm), fX7_copy p0 p1 p2 p3 p4 σ = some (r, σ') ∧ fX8_copy p0 p1 p2 p3 p4 τ = some (r, τ') ∧ Rel σ' τ' := by
  rcases sheet_cases p0 with ⟨c1, c2⟩ | ⟨s1, hs1, rfl, c1, c2⟩
  · refine ⟨-2, σ, τ, ?_, ?_, h⟩
    · unfold fX7_copy
      rw [c1, Option.bind_some, if_pos rfl]
    · unfold fX8_copy
      rw [c2, Option.bind_some, if_pos rfl]
  rcases sheet_cases p2 with ⟨d1, d2⟩ | ⟨s2, hs2, rfl, d1, d2⟩
  · refine ⟨-2, σ, τ, ?_, ?_, h⟩
    · unfold fX7_copy
      rw [c1, Option.bind_some, if_neg n10, d1, Option.bind_some, if_pos rfl]
    · unfold fX8_copy
      rw [c2, Option.bind_some, if_neg n10, d2, Option.bind_some, if_pos rfl]
  have i4 : ms_in (nI s1) 4 := in_nI hs1 (by decide)
  have ixs : ms_ix (nI s1) = s1 := ix_nI (by omega)
  have i4' : ms_in (nI s2) 4 := in_nI hs2 (by decide)
  have ixs' : ms_ix (nI s2) = s2 := ix_nI (by omega)
  obtain ⟨a, b, ⟨z, z1, z2⟩, d, e, f⟩ := h.1.sht s1 hs1
  obtain ⟨a', b', ⟨z', z1', z2'⟩, d', e', f'⟩ := h.1.sht s2 hs2
  have fnd : ∀ p : Int32, fX7_find p σ = some ((-10) - p, ms_st σ 0 10 p) ∧ fX8_meets p τ = some ((-10) - p, ms_st τ 0 33 p) := fun p => ⟨rfl, rfl⟩
  unfold fX7_copy fX8_copy fX7_copy_49 fX7_copy_97 fX8_copy_35 fX8_copy_111
  rw [c1, c2, Option.bind_some, Option.bind_some, if_neg n10, if_neg n10, d1, d2, Option.bind_some, Option.bind_some, if_neg n10, if_neg n10]
  simp only [ms_g_t i4, ixs, ms_g_t i4', ixs', (fnd 1).1, (fnd 1).2, (fnd 2).1, (fnd 2).2, (fnd 4).1, (fnd 4).2, Option.bind_some]
  rcases a with ⟨a1, a2⟩ | ⟨a1, a2⟩
  · rw [if_pos a1, if_neg (show ¬ τ 24 s1 = 0 by rw [a2]; decide)]
    rcases a' with ⟨a1', a2'⟩ | ⟨a1', a2'⟩
    · rw [if_pos a1', if_neg (show ¬ τ 24 s2 = 0 by rw [a2']; decide), d, d', e, e', z2, z2']
      by_cases cf : σ (27 + 2 * s1) 1 = σ (27 + 2 * s2) 1
      · rw [if_pos cf, if_pos cf]
        -- no run
        have bad : ¬ (runP z p1 p4 ∧ runP z' p3 p4) → (∃ (r : Int32) (σ' : Mm), ((fX2_hasRun σ s1 p1 p4).bind fun r8 => if r8 = 0 then some ((-10) - (2 : Int32), ms_st σ 0 10 2) else (fX2_hasRun σ s2 p3 p4).bind fun r10 => if r10 = 0 then some ((-10) - (2 : Int32), ms_st σ 0 10 2) else ms_g (ms_cg p1 p3 p4) (ms_lt (ms_cp σ (28 + 2 * s1) (28 + 2 * s2) p1 p3 p4) (fun σ11 => some (1, σ11)))) = some ((-10) - (2 : Int32), ms_st σ 0 10 2)) := fun hb => by
          refine ⟨0, σ, ?_⟩
          rcases hasRun_c z1 z2 p1 p4 with ⟨q1, q2⟩ | ⟨q1, q2⟩
          · rw [q1, Option.bind_some, if_neg n10]
            rcases hasRun_c z1' z2' p3 p4 with ⟨r1, r2⟩ | ⟨r1, r2⟩
            · exact absurd ⟨q2, r2⟩ hb
            · rw [r1, Option.bind_some, if_pos rfl]
          · rw [q1, Option.bind_some, if_pos rfl]
        have bd : ∀ q : ¬ (runP z p1 p4 ∧ runP z' p3 p4), ((fX2_hasRun σ s1 p1 p4).bind fun r8 => if r8 = 0 then some ((-10) - (2 : Int32), ms_st σ 0 10 2) else (fX2_hasRun σ s2 p3 p4).bind fun r10 => if r10 = 0 then some ((-10) - (2 : Int32), ms_st σ 0 10 2) else ms_g (ms_cg p1 p3 p4) (ms_lt (ms_cp σ (28 + 2 * s1) (28 + 2 * s2) p1 p3 p4) (fun σ11 => some (1, σ11)))) = some ((-10) - (2 : Int32), ms_st σ 0 10 2) := fun q => (bad q).choose_spec.choose_spec
        have neg : ∀ {p : Int32} {n : Nat}, p < 0 → n < 2147483648 → ¬ p = nI n := fun {p n} hp hn q => by
          rw [q, show (0 : Int32) = nI 0 from rfl, lt_nI hn (by decide)] at hp
          omega
        by_cases n1 : p1 < 0
        · rw [if_pos n1]
          exact ⟨_, _, _, bd (fun q => by obtain ⟨⟨x, y, hx, hy, e1, -⟩, -⟩ := q; exact neg n1 hx e1), rfl, findR h 2⟩
        by_cases n3 : p3 < 0
        · rw [if_neg n1, if_pos n3]
          exact ⟨_, _, _, bd (fun q => by obtain ⟨-, x, y, hx, hy, e1, -⟩ := q; exact neg n3 hx e1), rfl, findR h 2⟩
        by_cases n4 : p4 < 0
        · rw [if_neg n1, if_neg n3, if_pos n4]
          exact ⟨_, _, _, bd (fun q => by obtain ⟨-, x, y, hx, hy, -, e2, -⟩ := q; exact neg n4 hy e2), rfl, findR h 2⟩
        rw [if_neg n1, if_neg n3, if_neg n4]
        obtain ⟨x, hx, rfl⟩ := nI_of n1
        obtain ⟨y, hy, rfl⟩ := nI_of n3
        obtain ⟨w, hw, rfl⟩ := nI_of n4
        have rp : ∀ {z u : Nat}, u < 2147483648 → (runP z (nI u) (nI w) ↔ u + w ≤ z) := fun {z u} hu => by
          constructor
          · rintro ⟨a', b', ha', hb', e1, e2, e3⟩
            rw [eq_nI hu ha'] at e1
            rw [eq_nI hw hb'] at e2
            omega
          · intro q
            exact ⟨u, w, hu, hw, rfl, rfl, q⟩
        by_cases g1 : z < x + w
        · rw [if_pos (show 0 < lg_cmp ((nI x).toInt64 + (nI w).toInt64) (nI z).toInt64 by rw [lg_cmp_gt, lggt hx hw z1]; exact g1)]
          exact ⟨_, _, _, bd (fun q => by have := (rp hx).1 q.1; omega), rfl, findR h 2⟩
        rw [if_neg (show ¬ 0 < lg_cmp ((nI x).toInt64 + (nI w).toInt64) (nI z).toInt64 by rw [lg_cmp_gt, lggt hx hw z1]; exact g1)]
        by_cases g2 : y + w ≤ z'
        · rw [if_pos (show lg_cmp ((nI y).toInt64 + (nI w).toInt64) (nI z').toInt64 ≤ 0 by rw [lg_cmp_le, lgle hy hw z1']; exact g2)]
          obtain ⟨τ1, t1, t2, t3⟩ := cop120 (s2 := s2) (c := y) hs1 (show x + w ≤ 48 by omega) w ms_fu 0 (by omega) (fu_lt (by omega)) τ (fun i hi => by omega)
          obtain ⟨τ2, u1, u2, u3⟩ := cop157 hs2 (show y + w ≤ 48 by omega) (τ0 := τ1) w ms_fu 0 (by omega) (fu_lt (by omega)) τ1 Fr.rf (fun i hi => by rw [if_neg (by omega)])
          have hr1 : fX2_hasRun σ s1 (nI x) (nI w) = some 1 := by
            rcases hasRun_c z1 z2 (nI x) (nI w) with ⟨q1, -⟩ | ⟨-, q2⟩
            · exact q1
            · exact absurd ((rp hx).2 (by omega)) q2
          have hr2 : fX2_hasRun σ s2 (nI y) (nI w) = some 1 := by
            rcases hasRun_c z1' z2' (nI y) (nI w) with ⟨q1, -⟩ | ⟨-, q2⟩
            · exact q1
            · exact absurd ((rp hy).2 g2) q2
          have ix : ms_ix (nI x) = x := ix_nI hx
          have iy : ms_ix (nI y) = y := ix_nI hy
          have iw : ms_ix (nI w) = w := ix_nI hw
          rw [hr1, Option.bind_some, if_neg n10, hr2, Option.bind_some, if_neg n10, ms_g_t ⟨n1, n3, n4, by rw [ix, iw]; omega, by rw [iy, iw]; omega⟩, show fX8_copy_120 ms_fu (nI s1) (nI x) (nI s2) (nI y) (nI w) 0 τ = _ from t1, show fX8_copy_157 ms_fu (nI s2) (nI y) (nI w) 0 τ1 = _ from u1]
          simp only [ms_lt]
          refine ⟨_, _, _, rfl, rfl, ?_⟩
          have F : Fr (fun k _ => k = 27 + 2 * s2 ∨ k = 28 + 2 * s2) σ (ms_cp σ (28 + 2 * s1) (28 + 2 * s2) (nI x) (nI y) (nI w)) := by
            unfold ms_cp
            exact Fr.rf.row (fun _ => Or.inr rfl)
          have G : Fr (fun k i => (24 ≤ k ∧ k ≤ 26 ∧ i = s2) ∨ (k = 27 ∧ 48 * s2 ≤ i ∧ i < 48 * s2 + 48) ∨ k = 28) τ τ2 := (t2.mo fun k i q => Or.inr (Or.inr q)).tr (u2.mo fun k i q => Or.inr (Or.inl q))
          have gm : ∀ k, 24 ≤ k → k ≤ 26 → τ2 k s2 = τ k s2 := fun k q1 q2 => by rw [u2 k s2 (by omega), t2 k s2 (by omega)]
          have gx : ∀ i, ms_cp σ (28 + 2 * s1) (28 + 2 * s2) (nI x) (nI y) (nI w) (27 + 2 * s2) i = σ (27 + 2 * s2) i := fun i => by
            unfold ms_cp
            rw [ms_rdr, if_neg (by omega)]
          refine h.sh1 hs2 F G ⟨?_, ?_, ?_, ?_, ?_, fun i hi => ?_⟩
          · rw [gx, gm 24 (by decide) (by decide)]; exact Or.inl ⟨a1', a2'⟩
          · rw [gx]; exact b'
          · rw [gx]; exact ⟨z', z1', z2'⟩
          · rw [gx, gm 25 (by decide) (by decide)]; exact d'
          · rw [gx, gm 26 (by decide) (by decide)]; exact e'
          · rw [u3 i hi]
            unfold ms_cp va_cpy
            rw [ms_rdr, if_pos rfl, ix, iy, iw]
            by_cases q : y ≤ i ∧ i < y + w
            · rw [if_pos q, if_pos q, t3 (i - y) (by omega), ← f (x + (i - y)) (by omega), Nat.add_assoc]
            · rw [if_neg q, if_neg q, t2 27 _ (by simp)]; exact f' i hi
        · rw [if_neg (show ¬ lg_cmp ((nI y).toInt64 + (nI w).toInt64) (nI z').toInt64 ≤ 0 by rw [lg_cmp_le, lgle hy hw z1']; exact g2)]
          exact ⟨_, _, _, bd (fun q => g2 ((rp hy).1 q.2)), rfl, findR h 2⟩
      · rw [if_neg cf, if_neg cf]
        exact ⟨_, _, _, rfl, rfl, findR h 4⟩
    · rw [if_neg (show ¬ σ (27 + 2 * s2) 3 = 0 by rw [a1']; decide), if_pos a2']
      exact ⟨_, _, _, rfl, rfl, findR h 1⟩
  · rw [if_neg (show ¬ σ (27 + 2 * s1) 3 = 0 by rw [a1]; decide), if_pos a2]
    exact ⟨_, _, _, rfl, rfl, findR h 1⟩
