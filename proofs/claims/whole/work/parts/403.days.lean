/-! ===== the class's loops over hours ===== -/
abbrev Wrec (k i : Nat) : Prop := (k = 8 ∧ 12 ≤ i) ∨ (k = 12 ∧ i = 5) ∨ (13 ≤ k ∧ k ≤ 17)
def RecAt (σ : Mm) (e : ev) (h : Nat) : Prop := σ 13 h = nI (rl e h) ∧ σ 14 h = nI (rs e h) ∧ σ 15 h = rf e h ∧ σ 16 h = nI (rp e h) ∧ σ 17 h = nI (rq e h)
theorem Rd_.wrec {σ σ' : Mm} {e : ev} (h : Rd_ σ e) (hF : Fr Wrec σ σ') : Rd_ σ' e := h.fr hF (fun i hi q => by rcases q with q | q | q <;> omega) (fun i q => by rcases q with q | q | q <;> omega) (fun i q => by rcases q with q | q | q <;> omega) (fun i q => by rcases q with q | q | q <;> omega)
theorem recordX6 {e : ev} (hE : EvOK e) : ∀ (d n h : Nat), h + d = 240 → d < n → ∀ σ : Mm, Rd_ σ e → σ 8 12 = nI (rn_ e h).1 → σ 8 13 = nI (rn_ e h).2 → (∀ j, j < h → RecAt σ e j) → ∃ σ', fX0_record_6 n (nI h) σ = some σ' ∧ Fr Wrec σ σ' ∧ σ' 12 5 = 1 ∧ ∀ j, j < 240 → RecAt σ' e j := by
  intro d
  induction d with
  | zero =>
    intro n h hd hn σ hR h12 h13 hrec
    obtain ⟨n, rfl⟩ : ∃ z, n = z + 1 := ⟨n - 1, by omega⟩
    obtain rfl : h = 240 := by omega
    rw [fX0_record_6, if_pos (by rw [show (240 : Int32) = nI 240 from rfl, le_nI (by decide) (by decide)]; exact Nat.le_refl _)]
    simp only [ms_lt]
    refine ⟨_, rfl, Fr.rf.st _ (Or.inr (Or.inl ⟨rfl, rfl⟩)), by rw [ms_rd, if_pos (by decide)], fun j hj => ?_⟩
    obtain ⟨a, b, c, d, e'⟩ := hrec j hj
    refine ⟨?_, ?_, ?_, ?_, ?_⟩ <;> rw [ms_rd, if_neg (by simp)] <;> assumption
  | succ d ih =>
    intro n h hd hn σ hR h12 h13 hrec
    obtain ⟨n, rfl⟩ : ∃ z, n = z + 1 := ⟨n - 1, by omega⟩
    obtain ⟨σ1, t1, t2, t3, t4, t5, t6, t7⟩ := turnH hE hR (h := h) (by omega) h12 h13
    have i240 : ms_in (nI h) 240 := in_nI (by omega) (by decide)
    rw [fX0_record_6, if_neg (by rw [show (240 : Int32) = nI 240 from rfl, le_nI (by decide) (by omega)]; omega), t1]
    simp only [Option.bind_some, ms_lt, ms_g_t i240, ix_nI (show h < 2147483648 by omega)]
    generalize hσ : ms_st (ms_st (ms_st (ms_st (ms_st σ1 13 h (σ1 8 12)) 14 h (ms_st σ1 13 h (σ1 8 12) 8 13)) 15 h (ms_st (ms_st σ1 13 h (σ1 8 12)) 14 h (ms_st σ1 13 h (σ1 8 12) 8 13) 8 15)) 16 h (ms_st (ms_st (ms_st σ1 13 h (σ1 8 12)) 14 h (ms_st σ1 13 h (σ1 8 12) 8 13)) 15 h (ms_st (ms_st σ1 13 h (σ1 8 12)) 14 h (ms_st σ1 13 h (σ1 8 12) 8 13) 8 15) 8 14)) 17 h (ms_st (ms_st (ms_st (ms_st σ1 13 h (σ1 8 12)) 14 h (ms_st σ1 13 h (σ1 8 12) 8 13)) 15 h (ms_st (ms_st σ1 13 h (σ1 8 12)) 14 h (ms_st σ1 13 h (σ1 8 12) 8 13) 8 15)) 16 h (ms_st (ms_st (ms_st σ1 13 h (σ1 8 12)) 14 h (ms_st σ1 13 h (σ1 8 12) 8 13)) 15 h (ms_st (ms_st σ1 13 h (σ1 8 12)) 14 h (ms_st σ1 13 h (σ1 8 12) 8 13) 8 15) 8 14) 8 16) = σ2
    have F1 : Fr Wrec σ σ1 := t2.mo (fun k i q => Or.inl q)
    have F2 : Fr Wrec σ σ2 := by
      rw [← hσ]
      exact ((((F1.st _ (Or.inr (Or.inr ⟨by decide, by decide⟩))).st _ (Or.inr (Or.inr ⟨by decide, by decide⟩))).st _ (Or.inr (Or.inr ⟨by decide, by decide⟩))).st _ (Or.inr (Or.inr ⟨by decide, by decide⟩))).st _ (Or.inr (Or.inr ⟨by decide, by decide⟩))
    have hat : RecAt σ2 e h := by
      refine ⟨?_, ?_, ?_, ?_, ?_⟩ <;> rw [← hσ] <;> simp only [ms_rd] <;> simp [t3, t4, t5, t6, t7, rl, rs]
    have hold : ∀ j, j < h → RecAt σ2 e j := fun j hj => by
      obtain ⟨a, b, c, d, e'⟩ := hrec j hj
      have hne : j ≠ h := by omega
      have F : ∀ k, 13 ≤ k → k ≤ 17 → σ1 k j = σ k j := fun k h1 h2 => t2 k j (fun q => by have := q.1; omega)
      refine ⟨?_, ?_, ?_, ?_, ?_⟩ <;> rw [← hσ] <;> simp only [ms_rd] <;> simp [hne] <;> rw [F _ (by decide) (by decide)] <;> assumption
    obtain ⟨σ', q1, q2, q3, q4⟩ := ih n (h + 1) (by omega) (by omega) σ2 (hR.wrec F2) (by rw [← hσ]; simp only [ms_rd]; simp [t3]) (by rw [← hσ]; simp only [ms_rd]; simp [t4]) (fun j hj => by
      rcases Nat.lt_or_ge j h with q | q
      · exact hold j q
      · obtain rfl : j = h := by omega
        exact hat)
    exact ⟨σ', by rw [nI_1]; exact q1, F2.tr q2, q3, q4⟩
theorem recordX {e : ev} (hE : EvOK e) {σ : Mm} (hR : Rd_ σ e) : ∃ σ', fX0_record σ = some σ' ∧ Fr Wrec σ σ' ∧ σ' 12 5 = 1 ∧ ∀ j, j < 240 → RecAt σ' e j := by
  obtain ⟨σ1, t1, t2, t3, t4⟩ := beginX hR
  unfold fX0_record
  rw [t1, Option.bind_some]
  have F1 : Fr Wrec σ σ1 := t2.mo (fun k i q => Or.inl q)
  obtain ⟨σ', q1, q2, q3, q4⟩ := recordX6 hE 240 ms_fu 0 (by decide) (fu_lt (by decide)) σ1 (hR.w8 t2) t3 t4 (fun j hj => by omega)
  exact ⟨σ', q1, F1.tr q2, q3, q4⟩
/-- the least level of the first hours -/
def mnl (e : ev) : Nat → Nat
  | 0 => 999
  | h + 1 => min (mnl e h) (rl e h)
theorem mnl_b (e : ev) : ∀ h, mnl e h ≤ 999
  | 0 => Nat.le_refl _
  | h + 1 => by have := mnl_b e h; unfold mnl; omega
theorem leastX10 {e : ev} (hE : EvOK e) {N : Nat} (hN : N ≤ 240) : ∀ (d n h : Nat), h + d = N → d < n → ∀ σ : Mm, Rd_ σ e → σ 8 12 = nI (rn_ e h).1 → σ 8 13 = nI (rn_ e h).2 → ∃ σ', fX3_leastLevel_10 n (nI N) (nI (mnl e h)) (nI h) σ = some (nI (mnl e N), σ') ∧ Fr W8 σ σ' := by
  intro d
  induction d with
  | zero =>
    intro n h hd hn σ hR h12 h13
    obtain ⟨n, rfl⟩ : ∃ z, n = z + 1 := ⟨n - 1, by omega⟩
    obtain rfl : h = N := by omega
    rw [fX3_leastLevel_10, if_pos (by rw [le_nI (by omega) (by omega)]; exact Nat.le_refl _)]
    exact ⟨σ, rfl, Fr.rf⟩
  | succ d ih =>
    intro n h hd hn σ hR h12 h13
    obtain ⟨n, rfl⟩ : ∃ z, n = z + 1 := ⟨n - 1, by omega⟩
    obtain ⟨σ1, t1, t2, t3, t4, -⟩ := turnH hE hR (h := h) (by omega) h12 h13
    rw [fX3_leastLevel_10, if_neg (by rw [le_nI (by omega) (by omega)]; omega), t1]
    simp only [Option.bind_some]
    have := mnl_b e h
    have hb := rl_b hE h
    obtain ⟨σ', q1, q2⟩ := ih n (h + 1) (by omega) (by omega) σ1 (hR.w8 t2) t3 t4
    refine ⟨σ', ?_, t2.tr q2⟩
    have e1 : ms_minv (nI (mnl e h)) (σ1 8 12) = nI (mnl e (h + 1)) := by rw [t3]; exact minv_nI (by omega) (by unfold rl at hb; omega)
    rw [e1, nI_1]
    exact q1
theorem leastX {e : ev} (hE : EvOK e) {σ : Mm} (hR : Rd_ σ e) {N : Nat} (hN : N ≤ 240) : ∃ σ', fX3_leastLevel (nI N) σ = some (nI (mnl e N), σ') ∧ Fr W8 σ σ' := by
  obtain ⟨σ1, t1, t2, t3, t4⟩ := beginX hR
  unfold fX3_leastLevel
  rw [t1, Option.bind_some]
  obtain ⟨σ', q1, q2⟩ := leastX10 hE hN N ms_fu 0 (by omega) (fu_lt (by omega)) σ1 (hR.w8 t2) t3 t4
  exact ⟨σ', q1, t2.tr q2⟩
/-- nobody stands in the first hours -/
def agX (e : ev) (N : Nat) : Prop := ∀ h, h < N → rq e h = 0
theorem allgX6 {e : ev} (hE : EvOK e) {N : Nat} (hN : N ≤ 240) : ∀ (d n h : Nat), h + d = N → d < n → ∀ σ : Mm, Rd_ σ e → σ 8 12 = nI (rn_ e h).1 → σ 8 13 = nI (rn_ e h).2 → (∀ j, j < h → rq e j = 0) → ∃ (r : Int32) (σ' : Mm), fX3_allGoWithin_6 n (nI N) (nI h) σ = some (r, σ') ∧ Fr W8 σ σ' ∧ ((r = 1 ∧ agX e N) ∨ (r = 0 ∧ ¬ agX e N)) := by
  intro d
  induction d with
  | zero =>
    intro n h hd hn σ hR h12 h13 hz
    obtain ⟨n, rfl⟩ : ∃ z, n = z + 1 := ⟨n - 1, by omega⟩
    obtain rfl : h = N := by omega
    rw [fX3_allGoWithin_6, if_pos (by rw [le_nI (by omega) (by omega)]; exact Nat.le_refl _)]
    exact ⟨1, σ, rfl, Fr.rf, Or.inl ⟨rfl, hz⟩⟩
  | succ d ih =>
    intro n h hd hn σ hR h12 h13 hz
    obtain ⟨n, rfl⟩ : ∃ z, n = z + 1 := ⟨n - 1, by omega⟩
    obtain ⟨σ1, t1, t2, t3, t4, -, -, t7⟩ := turnH hE hR (h := h) (by omega) h12 h13
    rw [fX3_allGoWithin_6, if_neg (by rw [le_nI (by omega) (by omega)]; omega), t1]
    simp only [Option.bind_some, t7]
    have hq := rq_64 hE h
    by_cases c : rq e h = 0
    · rw [if_pos (by rw [c]; rfl)]
      obtain ⟨r, σ', q1, q2, q3⟩ := ih n (h + 1) (by omega) (by omega) σ1 (hR.w8 t2) t3 t4 (fun j hj => by
        rcases Nat.lt_or_ge j h with q | q
        · exact hz j q
        · obtain rfl : j = h := by omega
          exact c)
      exact ⟨r, σ', by rw [nI_1]; exact q1, t2.tr q2, q3⟩
    · rw [if_neg (by rw [show (0 : Int32) = nI 0 from rfl, eq_nI (by omega) (by decide)]; exact c)]
      exact ⟨0, σ1, rfl, t2, Or.inr ⟨rfl, fun q => c (q h (by omega))⟩⟩
theorem allgX {e : ev} (hE : EvOK e) {σ : Mm} (hR : Rd_ σ e) {N : Nat} (hN : N ≤ 240) : ∃ (r : Int32) (σ' : Mm), fX3_allGoWithin (nI N) σ = some (r, σ') ∧ Fr W8 σ σ' ∧ ((r = 1 ∧ agX e N) ∨ (r = 0 ∧ ¬ agX e N)) := by
  obtain ⟨σ1, t1, t2, t3, t4⟩ := beginX hR
  unfold fX3_allGoWithin
  rw [t1, Option.bind_some]
  obtain ⟨r, σ', q1, q2, q3⟩ := allgX6 hE hN N ms_fu 0 (by omega) (fu_lt (by omega)) σ1 (hR.w8 t2) t3 t4 (fun j hj => by omega)
  exact ⟨r, σ', q1, t2.tr q2, q3⟩
/-- robbed: the level behind an hour -/
theorem robX64 {e : ev} (hE : EvOK e) {N : Nat} (hN : N < 240) : ∀ (d n h : Nat), h + d = N + 1 → d < n → ∀ σ : Mm, Rd_ σ e → σ 8 12 = nI (rn_ e h).1 → σ 8 13 = nI (rn_ e h).2 → ∃ σ', fX7_robbed_64 n (nI N) (nI h) σ = some (nI (rl e N), σ') ∧ Fr W8 σ σ' := by
  intro d
  induction d with
  | zero =>
    intro n h hd hn σ hR h12 h13
    obtain ⟨n, rfl⟩ : ∃ z, n = z + 1 := ⟨n - 1, by omega⟩
    obtain rfl : h = N + 1 := by omega
    rw [fX7_robbed_64, if_pos (by rw [lt_nI (by omega) (by omega)]; exact Nat.lt_succ_self _), h12]
    exact ⟨σ, rfl, Fr.rf⟩
  | succ d ih =>
    intro n h hd hn σ hR h12 h13
    obtain ⟨n, rfl⟩ : ∃ z, n = z + 1 := ⟨n - 1, by omega⟩
    obtain ⟨σ1, t1, t2, t3, t4, -⟩ := turnH hE hR (h := h) (by omega) h12 h13
    rw [fX7_robbed_64, if_neg (by rw [lt_nI (by omega) (by omega)]; omega), t1]
    simp only [Option.bind_some]
    obtain ⟨σ', q1, q2⟩ := ih n (h + 1) (by omega) (by omega) σ1 (hR.w8 t2) t3 t4
    exact ⟨σ', by rw [nI_1]; exact q1, t2.tr q2⟩
