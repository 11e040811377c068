/-! ===== best: both sides ===== -/
theorem mayW {σ τ : Mm} {hb : Nat} (hT : TR σ τ hb) (h7 : ∀ t, t < 6 → τ 7 t = nI (bt (sB σ) t)) (h : TW σ) {t : Nat} (ht : t < tN σ) : (wts σ t ∧ fX8_mayWait τ (nI t) = some 1) ∨ (¬ wts σ t ∧ fX8_mayWait τ (nI t) = some 0) := by
  have h6 := h.2.1
  have h3 := (h.2.2.2.2.2.2.1 t ht).2.2.2.2.2.2
  have b2 := bt_2 (sB σ) t
  unfold fX8_mayWait wts
  rw [ms_g_t (in_nI (by omega) (by decide)), ms_g_t (in_nI (by omega) (by decide)), ix_nI (by omega), (hT.2.2.2.1 t ht).2.2.2, h7 t (by omega)]
  rcases (show td σ t 3 = 0 ∨ td σ t 3 = 1 by omega) with c | c
  · rcases (show bt (sB σ) t = 0 ∨ bt (sB σ) t = 1 by omega) with q | q
    · rw [c, q, if_pos (by decide), if_pos (by decide)]
      exact Or.inl ⟨⟨rfl, rfl⟩, rfl⟩
    · rw [c, q, if_pos (by decide), if_neg (by decide)]
      exact Or.inr ⟨fun z => absurd z.2 (by decide), rfl⟩
  · rw [c, if_neg (by decide)]
    exact Or.inr ⟨fun z => absurd z.1 (by decide), rfl⟩
theorem b35 {σ : Mm} (h : TW σ) {hb : Nat} (y1 : Int32) (hsf : ∀ t, t < 6 → sf σ t < 24) : ∀ (d n t : Nat), t + d = tN σ → d < n → ∀ τ : Mm, TR σ τ hb → (∀ t, t < 6 → τ 7 t = nI (bt (sB σ) t)) → (∀ t, t < 6 → τ 8 t = nI (sf σ t)) → (∀ j, j < t → τ 20 j = nI (sf σ j)) → (∀ k u, (wtL σ t)[k]? = some u → τ 19 k = nI u) → ∃ τ', fX8_best_35 n y1 (nI (wtL σ t).length) (nI t) τ = fX8_best_35 1 y1 (nI (wl σ).length) (nI (tN σ)) τ' ∧ Fr (fun k _ => k = 19 ∨ k = 20) τ τ' ∧ (∀ j, j < tN σ → τ' 20 j = nI (sf σ j)) ∧ ∀ k u, (wl σ)[k]? = some u → τ' 19 k = nI u := by
  have h6 := h.2.1
  intro d
  induction d with
  | zero =>
    intro n t hd hn τ hT h7 h8 h20 h19
    obtain ⟨n, rfl⟩ : ∃ z, n = z + 1 := ⟨n - 1, by omega⟩
    obtain rfl : t = tN σ := by omega
    have hc : τ 0 3 ≤ nI (tN σ) := by rw [hT.1, le_nI (by omega) (by omega)]; exact Nat.le_refl _
    refine ⟨τ, ?_, Fr.rf, h20, h19⟩
    rw [fX8_best_35, fX8_best_35, if_pos hc, if_pos hc]
    rfl
  | succ d ih =>
    intro n t hd hn τ hT h7 h8 h20 h19
    obtain ⟨n, rfl⟩ : ∃ z, n = z + 1 := ⟨n - 1, by omega⟩
    have i6 : ms_in (nI t) 6 := in_nI (by omega) (by decide)
    have hl := wtL_len σ t
    have e : wtL σ (t + 1) = if td σ t 3 = 0 ∧ bt (sB σ) t = 0 then wtL σ t ++ [t] else wtL σ t := rfl
    have F1 : Fr (fun k _ => k = 19 ∨ k = 20) τ (ms_st τ 20 t (nI (sf σ t))) := Fr.rf.st _ (Or.inr rfl)
    have hT1 : TR σ (ms_st τ 20 t (nI (sf σ t))) hb := hT.fr F1 (by simp) (by simp) (by simp) (fun k i p q r z => by omega)
    have h71 : ∀ t', t' < 6 → ms_st τ 20 t (nI (sf σ t)) 7 t' = nI (bt (sB σ) t') := fun t' ht => by rw [F1 7 t' (by simp)]; exact h7 t' ht
    have r20 : ∀ j, j < t + 1 → ms_st τ 20 t (nI (sf σ t)) 20 j = nI (sf σ j) := fun j hj => by
      rw [ms_rd]
      by_cases q : j = t
      · rw [if_pos ⟨rfl, q⟩, q]
      · rw [if_neg (fun z => q z.2)]; exact h20 j (by omega)
    have step : fX8_best_35 (n + 1) y1 (nI (wtL σ t).length) (nI t) τ = (fX8_mayWait (ms_st τ 20 t (nI (sf σ t))) (nI t)).bind (fun r5 => (if r5 = 0 then fX8_best_35 n y1 (nI (wtL σ t).length) (nI (t + 1)) (ms_st τ 20 t (nI (sf σ t))) else fX8_best_35 n y1 (nI ((wtL σ t).length + 1)) (nI (t + 1)) (ms_st (ms_st τ 20 t (nI (sf σ t))) 19 (wtL σ t).length (nI t)))) := by
      rw [fX8_best_35, hT.1, ifle (by omega) (by omega), if_neg (by omega), ms_g_t i6, ms_g_t i6, ix_nI (by omega), h8 t (by omega), lt_eq]
      simp only [fX8_best_78, nI_1, ms_g_t (show ms_in (nI (wtL σ t).length) 6 from in_nI (by omega) (by decide)), ix_nI (show (wtL σ t).length < 2147483648 by omega), lt_eq]
    rw [step]
    rcases mayW hT1 h71 h (t := t) (by omega) with ⟨w, m⟩ | ⟨w, m⟩
    · rw [m, Option.bind_some, if_neg n10]
      rw [if_pos (show td σ t 3 = 0 ∧ bt (sB σ) t = 0 from w)] at e
      have F2 : Fr (fun k _ => k = 19 ∨ k = 20) τ (ms_st (ms_st τ 20 t (nI (sf σ t))) 19 (wtL σ t).length (nI t)) := F1.st _ (Or.inl rfl)
      obtain ⟨τ', p1, p2, p3⟩ := ih n (t + 1) (by omega) (by omega) (ms_st (ms_st τ 20 t (nI (sf σ t))) 19 (wtL σ t).length (nI t)) (hT.fr F2 (by simp) (by simp) (by simp) (fun k i p q r z => by omega)) (fun t' ht => by rw [F2 7 t' (by simp)]; exact h7 t' ht) (fun t' ht => by rw [F2 8 t' (by simp)]; exact h8 t' ht) (fun j hj => by rw [ms_rd, if_neg (by simp)]; exact r20 j hj) (fun k u hk => by
        rw [e] at hk
        rw [ms_rd]
        rcases Nat.lt_or_ge k (wtL σ t).length with z | z
        · rw [List.getElem?_append_left z] at hk
          rw [if_neg (fun y => by omega), ms_rd, if_neg (by simp)]
          exact h19 k u hk
        · rw [List.getElem?_append_right z] at hk
          have hk0 : k - (wtL σ t).length = 0 := by
            rcases Nat.eq_zero_or_pos (k - (wtL σ t).length) with y | y
            · exact y
            · rw [List.getElem?_eq_none (by simp; omega)] at hk
              exact absurd hk (by simp)
          rw [hk0] at hk
          simp at hk
          rw [if_pos ⟨rfl, by omega⟩, hk])
      rw [show (wtL σ (t + 1)).length = (wtL σ t).length + 1 by rw [e]; simp] at p1
      exact ⟨τ', p1, F2.tr p2, p3⟩
    · rw [m, Option.bind_some, if_pos rfl]
      rw [if_neg (show ¬ (td σ t 3 = 0 ∧ bt (sB σ) t = 0) from w)] at e
      obtain ⟨τ', p1, p2, p3⟩ := ih n (t + 1) (by omega) (by omega) (ms_st τ 20 t (nI (sf σ t))) hT1 h71 (fun t' ht => by rw [F1 8 t' (by simp)]; exact h8 t' ht) r20 (fun k u hk => by rw [e] at hk; rw [ms_rd, if_neg (by simp)]; exact h19 k u hk)
      rw [e] at p1
      exact ⟨τ', p1, F1.tr p2, p3⟩
theorem b107 {L : Nat} (hL : L ≤ 3) (y1 : Int32) (τ : Mm) : fX8_best_107 y1 (nI L) τ = fX8_best_150 ms_fu y1 (nI L) (nI (24 ^ L)) (-1) 0 0 τ := by
  rw [fX8_best_107]
  rcases (show L = 0 ∨ L = 1 ∨ L = 2 ∨ L = 3 by omega) with rfl | rfl | rfl | rfl
  · rw [if_pos (by decide), fX8_best_139, show (1 : Int32) = nI (24 ^ 0) by decide]
  · rw [if_neg (by decide), if_pos (by decide), fX8_best_139, show (24 : Int32) = nI (24 ^ 1) by decide]
  · rw [if_neg (by decide), if_neg (by decide), if_pos (by decide), fX8_best_139, show (576 : Int32) = nI (24 ^ 2) by decide]
  · rw [if_neg (by decide), if_neg (by decide), if_neg (by decide), fX8_best_139, show (13824 : Int32) = nI (24 ^ 3) by decide]
