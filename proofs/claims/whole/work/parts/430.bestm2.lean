/-! ===== the best shifts: the reference's rows ===== -/
theorem b310 {σ : Mm} (h6 : tN σ ≤ 6) (K : Int32 → Int32 → Int32 → Int32 → Int32 → Int32 → Mm → Option (Int32 × Mm)) (y1 y2 y3 y4 y5 y6 : Int32) : ∀ (d n t : Nat), t + d = tN σ → d < n → ∀ τ : Mm, τ 0 3 = nI (tN σ) → (∀ j, j < t → τ 21 j = τ 8 j) → ∃ τ', fX8_best_310 K n y1 y2 y3 y4 y5 y6 (nI t) τ = K y1 y2 y3 y4 y5 (y6 + 1) τ' ∧ Fr (fun k _ => k = 21) τ τ' ∧ ∀ j, j < tN σ → τ' 21 j = τ 8 j := by
  intro d
  induction d with
  | zero =>
    intro n t hd hn τ h0 hj
    obtain ⟨n, rfl⟩ : ∃ z, n = z + 1 := ⟨n - 1, by omega⟩
    obtain rfl : t = tN σ := by omega
    rw [fX8_best_310, h0, ifle (by omega) (by omega), if_pos (Nat.le_refl _), fX8_best_339]
    exact ⟨τ, rfl, Fr.rf, hj⟩
  | succ d ih =>
    intro n t hd hn τ h0 hj
    obtain ⟨n, rfl⟩ : ∃ z, n = z + 1 := ⟨n - 1, by omega⟩
    have i6 : ms_in (nI t) 6 := in_nI (by omega) (by decide)
    rw [fX8_best_310, h0, ifle (by omega) (by omega), if_neg (by omega), ms_g_t i6, ms_g_t i6, ix_nI (by omega), lt_eq, nI_1]
    have F : Fr (fun k _ => k = 21) τ (ms_st τ 21 t (τ 8 t)) := Fr.rf.st _ rfl
    obtain ⟨τ', p1, p2, p3⟩ := ih n (t + 1) (by omega) (by omega) (ms_st τ 21 t (τ 8 t)) (by rw [F 0 3 (by simp)]; exact h0) (fun j hj' => by
      rw [F 8 j (by simp), ms_rd]
      by_cases q : j = t
      · rw [if_pos ⟨rfl, q⟩, q]
      · rw [if_neg (fun z => q z.2)]; exact hj j (by omega))
    exact ⟨τ', p1, F.tr p2, fun j hj' => by rw [p3 j hj', F 8 j (by simp)]⟩
theorem b348 {σ : Mm} (h6 : tN σ ≤ 6) (y1 y2 y3 : Int32) : ∀ (d n t : Nat), t + d = tN σ → d < n → ∀ τ : Mm, τ 0 3 = nI (tN σ) → (∀ j, j < t → τ 8 j = τ 20 j) → ∃ τ', fX8_best_348 n y1 y2 y3 (nI t) τ = fX8_best_348 1 y1 y2 y3 (nI (tN σ)) τ' ∧ Fr (fun k i => k = 8 ∧ i < tN σ) τ τ' ∧ ∀ j, j < tN σ → τ' 8 j = τ 20 j := by
  intro d
  induction d with
  | zero =>
    intro n t hd hn τ h0 hj
    obtain ⟨n, rfl⟩ : ∃ z, n = z + 1 := ⟨n - 1, by omega⟩
    obtain rfl : t = tN σ := by omega
    have hc : τ 0 3 ≤ nI (tN σ) := by rw [h0, le_nI (by omega) (by omega)]; exact Nat.le_refl _
    refine ⟨τ, ?_, Fr.rf, hj⟩
    rw [fX8_best_348, fX8_best_348, if_pos hc, if_pos hc]
  | succ d ih =>
    intro n t hd hn τ h0 hj
    obtain ⟨n, rfl⟩ : ∃ z, n = z + 1 := ⟨n - 1, by omega⟩
    have i6 : ms_in (nI t) 6 := in_nI (by omega) (by decide)
    have F : Fr (fun k i => k = 8 ∧ i < tN σ) τ (ms_st τ 8 t (τ 20 t)) := Fr.rf.st _ ⟨rfl, by omega⟩
    obtain ⟨τ', p1, p2, p3⟩ := ih n (t + 1) (by omega) (by omega) (ms_st τ 8 t (τ 20 t)) (by rw [F 0 3 (by simp)]; exact h0) (fun j hj' => by
      rw [F 20 j (by simp), ms_rd]
      by_cases q : j = t
      · rw [if_pos ⟨rfl, q⟩, q]
      · rw [if_neg (fun z => q z.2)]; exact hj j (by omega))
    refine ⟨τ', ?_, F.tr p2, fun j hj' => by rw [p3 j hj', F 20 j (by simp)]⟩
    rw [← p1]
    rw [fX8_best_348.eq_2, h0, ifle (by omega) (by omega), if_neg (by omega), ms_g_t i6, ms_g_t i6, ix_nI (by omega), lt_eq, nI_1]
theorem b150 {σ τ0 : Mm} (h : Core σ τ0) (hL : (wl σ).length ≤ 3) {N : Nat} (hN : N ≤ 13824) (hN0 : 0 < N) (y1 : Int32) : ∀ (d n r : Nat), r + d = N → d < n → ∀ (τ : Mm) (y4 y5 : Int32), RB σ τ → ((r = 0 ∧ y4 = -1 ∧ y5 = 0) ∨ (0 < r ∧ y4 = nI (mu σ (bst σ r)) ∧ y5 = nI (al σ (bst σ r)) ∧ ∀ t, t < tN σ → τ 21 t = nI (shR σ (bst σ r) t))) → ∃ τ', fX8_best_150 n y1 (nI (wl σ).length) (nI N) y4 y5 (nI r) τ = fX8_best_348 ms_fu y1 (nI (mu σ (bst σ N))) (nI (al σ (bst σ N))) 0 τ' ∧ Fr Wb τ τ' ∧ RB σ τ' ∧ ∀ t, t < tN σ → τ' 21 t = nI (shR σ (bst σ N) t) := by
  have h6 := h.tw.2.1
  intro d
  induction d with
  | zero =>
    intro n r hd hn τ y4 y5 hB' hb
    obtain ⟨n, rfl⟩ : ∃ z, n = z + 1 := ⟨n - 1, by omega⟩
    obtain rfl : r = N := by omega
    rcases hb with ⟨z, -⟩ | ⟨-, a, b, c⟩
    · omega
    · rw [fX8_best_150, ifle (by omega) (by omega), if_pos (Nat.le_refl _), a, b]
      exact ⟨τ, rfl, Fr.rf, hB', c⟩
  | succ d ih =>
    intro n r hd hn τ y4 y5 hB' hb
    obtain ⟨n, rfl⟩ : ∃ z, n = z + 1 := ⟨n - 1, by omega⟩
    have hE := eS_ok h (shR σ r)
    obtain ⟨τ1, a1, a2, a3, a4⟩ := b166 (σ := σ) (r := r) rfl hL h6 (by omega) (fX8_best_150 n) y1 (nI (wl σ).length) (nI N) y4 y5 (nI r) (wl σ).length ms_fu (Nat.le_refl _) (fu_lt (by omega)) τ hB'.2.2.2.2.1 (fun j u hj hu => by have := wl_lt hu; omega)
    rw [Nat.sub_self, Nat.pow_zero, Nat.div_one] at a1
    have hB1 : RB σ τ1 := hB'.fr (a2.mo fun k i q => Or.inl q) (fun t ht hn => by rw [a4 t hn]; exact hB'.2.2.2.2.2.2 t ht hn)
    have h8 : ∀ t, t < 6 → τ1 8 t = nI (shR σ r t) ∧ shR σ r t < 24 := fun t ht => by
      by_cases c : t ∈ wl σ
      · obtain ⟨k, hk⟩ := List.getElem?_of_mem c
        rw [a3 k t hk, shR_at hk]
        exact ⟨rfl, dgt_24 _ _ _⟩
      · rw [shR_out c, hB1.2.2.2.2.2.2 t ht c]
        exact ⟨rfl, (h.shf ht).1⟩
    have hRm := rmM (w := 0) h.tw h.sw hB1.1 hB1.2.1 h.sb.1 (by decide) hB1.2.2.1 h8 hB1.2.2.2.1 (-1) 0
    rw [Nat.or_zero] at hRm
    obtain ⟨τ2, c1, c2, c3⟩ := runsM hE hRm (N := 48) (by decide)
    have hB2 : RB σ τ2 := hB1.fr (c2.mo fun k i q => Or.inr (Or.inl q)) (fun t ht hn => by rw [c2 8 t (by simp)]; exact hB1.2.2.2.2.2.2 t ht hn)
    have F2 : Fr Wb τ τ2 := (a2.mo fun k i q => Or.inl q).tr (c2.mo fun k i q => Or.inr (Or.inl q))
    have s := b219 h.tw hB2.1 hE c3 (fX8_best_150 n) y1 (nI (wl σ).length) (nI N) y4 y5 (nI r) (tN σ) ms_fu 0 (by omega) (fu_lt (by omega))
    rw [tA_al h.tw hE rfl, tM_mu h.tw hE rfl] at s
    have e1 : muS σ (eS σ (shR σ r)) 48 = mu σ r := rfl
    have e2 : alS (eS σ (shR σ r)) 48 = al σ r := rfl
    rw [e1, e2] at s
    have hmb := mu_b h r
    have hc : τ2 0 3 ≤ nI (tN σ) := by rw [hB2.1.1, le_nI (by omega) (by omega)]; exact Nat.le_refl _
    rw [fX8_best_150, ifle (by omega) (by omega), if_neg (by omega), a1, show fX8_runs 48 0 (-1) 0 τ1 = some τ2 from c1, Option.bind_some, show fX8_best_219 (fX8_best_150 n) ms_fu y1 (nI (wl σ).length) (nI N) y4 y5 (nI r) 0 0 0 τ2 = _ from s, fX8_best_219, if_pos hc, fX8_best_339, fX8_best_299]
    have take : (r = 0 ∨ mu σ r < mu σ (bst σ r) ∨ (mu σ r = mu σ (bst σ r) ∧ al σ r < al σ (bst σ r))) → ∃ τ', fX8_best_310 (fX8_best_150 n) ms_fu y1 (nI (wl σ).length) (nI N) (nI (mu σ r)) (nI (al σ r)) (nI r) 0 τ2 = fX8_best_348 ms_fu y1 (nI (mu σ (bst σ N))) (nI (al σ (bst σ N))) 0 τ' ∧ Fr Wb τ τ' ∧ RB σ τ' ∧ ∀ t, t < tN σ → τ' 21 t = nI (shR σ (bst σ N) t) := fun hbt => by
      have eb : bst σ (r + 1) = r := by rw [bst_s, if_pos hbt]
      obtain ⟨τ3, p1, p2, p3⟩ := b310 h6 (fX8_best_150 n) y1 (nI (wl σ).length) (nI N) (nI (mu σ r)) (nI (al σ r)) (nI r) (tN σ) ms_fu 0 (by omega) (fu_lt (by omega)) τ2 hB2.1.1 (fun j hj => by omega)
      have hB3 : RB σ τ3 := hB2.fr (p2.mo fun k i q => Or.inr (Or.inr q)) (fun t ht hn => by rw [p2 8 t (by simp)]; exact hB2.2.2.2.2.2.2 t ht hn)
      obtain ⟨τ4, q1, q2, q3, q4⟩ := ih n (r + 1) (by omega) (by omega) τ3 (nI (mu σ r)) (nI (al σ r)) hB3 (Or.inr ⟨by omega, by rw [eb], by rw [eb], fun t ht => by rw [eb, p3 t ht, c2 8 t (by simp)]; exact (h8 t (by omega)).1⟩)
      refine ⟨τ4, ?_, (F2.tr (p2.mo fun k i q => Or.inr (Or.inr q))).tr q2, q3, q4⟩
      rw [show fX8_best_310 (fX8_best_150 n) ms_fu y1 (nI (wl σ).length) (nI N) (nI (mu σ r)) (nI (al σ r)) (nI r) 0 τ2 = _ from p1, nI_1]
      exact q1
    rcases id hb with ⟨z, a, b⟩ | ⟨z, a, b, c⟩
    · rw [if_pos a]
      exact take (Or.inl z)
    · have hmb' := mu_b h (bst σ r)
      have skip : (¬ (mu σ r < mu σ (bst σ r) ∨ (mu σ r = mu σ (bst σ r) ∧ al σ r < al σ (bst σ r)))) → ∃ τ', fX8_best_150 n y1 (nI (wl σ).length) (nI N) y4 y5 (nI r + 1) τ2 = fX8_best_348 ms_fu y1 (nI (mu σ (bst σ N))) (nI (al σ (bst σ N))) 0 τ' ∧ Fr Wb τ τ' ∧ RB σ τ' ∧ ∀ t, t < tN σ → τ' 21 t = nI (shR σ (bst σ N) t) := fun hbt => by
        have eb : bst σ (r + 1) = bst σ r := by rw [bst_s, if_neg (by omega)]
        obtain ⟨τ4, q1, q2, q3, q4⟩ := ih n (r + 1) (by omega) (by omega) τ2 y4 y5 hB2 (Or.inr ⟨by omega, by rw [eb]; exact a, by rw [eb]; exact b, fun t ht => by rw [eb, c2 21 t (by simp), a2 21 t (by simp)]; exact c t ht⟩)
        exact ⟨τ4, by rw [nI_1]; exact q1, F2.tr q2, q3, q4⟩
      have hcs : nI (mu σ r) < y4 ↔ mu σ r < mu σ (bst σ r) := by rw [a, lt_nI (by omega) (by omega)]
      have hce : nI (mu σ r) = y4 ↔ mu σ r = mu σ (bst σ r) := by rw [a, eq_nI (by omega) (by omega)]
      have hcl : y5 ≤ nI (al σ r) ↔ al σ (bst σ r) ≤ al σ r := by rw [b, le_nI (by omega) (by omega)]
      rw [if_neg (show ¬ y4 = -1 by rw [a]; exact m1_ne (by omega))]
      by_cases d1 : mu σ r < mu σ (bst σ r)
      · rw [if_pos (hcs.2 d1)]
        exact take (by omega)
      · rw [if_neg (fun q => d1 (hcs.1 q))]
        by_cases d2 : mu σ r = mu σ (bst σ r)
        · rw [if_pos (hce.2 d2)]
          by_cases d3 : al σ (bst σ r) ≤ al σ r
          · rw [if_pos (hcl.2 d3)]
            exact skip (by omega)
          · rw [if_neg (fun q => d3 (hcl.1 q))]
            exact take (by omega)
        · rw [if_neg (fun q => d2 (hce.1 q))]
          exact skip (by omega)
