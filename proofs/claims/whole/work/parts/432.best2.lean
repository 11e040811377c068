/-! ===== best: the call ===== -/
theorem best25 {σ τ : Mm} (h : Rel σ τ) (p : Int32) (hp : (p = -1 ∨ p = -2) ∨ ∃ t, t < tN σ ∧ p = nI t) : ∃ (r : Int32) (σ' τ' : Mm), fX7_best_25 p σ = some (r, σ') ∧ fX8_best_21 p τ = some (r, τ') ∧ Rel σ' τ' := by
  have hc := h.1
  have h6 := hc.tw.2.1
  obtain ⟨w1, w2⟩ := waitX hc
  obtain ⟨wb1, wb2, wb3⟩ := wB_s σ (tN σ) h6
  have hlen := wtL_len σ (tN σ)
  have hlen' : (wl σ).length ≤ tN σ := hlen
  have wb2' : pc9 (wB σ (tN σ)) = (wl σ).length := wb2
  obtain ⟨x, τ1, τ2, e1, e2, e3, e4⟩ := readyM hc
  obtain ⟨τ3, a1, a2, a3, a4⟩ := b35 hc.tw (hb := hB σ) p (fun t ht => (hc.shf ht).1) (tN σ) ms_fu 0 (by omega) (fu_lt (by omega)) τ2 e4.2.1 e4.1.m7 (fun t ht => (e4.1.m8 t ht).1) (fun j hj => by omega) (fun k u hu => by simp [wtL] at hu)
  have hT3 : TR σ τ3 (hB σ) := e4.2.1.fr a2 (by simp) (by simp) (by simp) (fun k i p q r z => by omega)
  have F3 : Fr Wms τ τ3 := e3.tr (a2.mo fun k i q => Or.inr (Or.inr (Or.inl (by omega))))
  have hm7 : ∀ t, t < 6 → τ3 7 t = nI (bt (sB σ) t) := fun t ht => by rw [a2 7 t (by simp)]; exact e4.1.m7 t ht
  have cc : τ3 0 3 ≤ nI (tN σ) := by rw [hT3.1, le_nI (by omega) (by omega)]; exact Nat.le_refl _
  have m21 : fX8_best_21 p τ = (if nI (wl σ).length ≤ 3 then (if p < 0 then fX8_best_107 p (nI (wl σ).length) τ3 else (fX8_mayWait τ3 p).bind (fun r2 => (if r2 = 0 then some ((-3), τ3) else fX8_best_107 p (nI (wl σ).length) τ3))) else some ((-4), τ3)) := by
    rw [fX8_best_21, e1, Option.bind_some]
    simp only
    rw [e2, Option.bind_some, show fX8_best_35 ms_fu p 0 0 τ2 = _ from a1, fX8_best_35, if_pos cc]
  rw [m21, fX7_best_25, w1, Option.bind_some, bc9 _ (by omega), Option.bind_some, wb2']
  have hle : nI (wl σ).length ≤ 3 ↔ (wl σ).length ≤ 3 := by rw [show (3 : Int32) = nI 3 from rfl, le_nI (by omega) (by decide)]
  by_cases c3 : (wl σ).length ≤ 3
  · rw [if_pos (hle.2 c3), if_pos (hle.2 c3)]
    obtain ⟨n1, n2⟩ := pow_tab (wl σ).length (by omega)
    obtain ⟨σ', g1, g2, g3, g4, g5, g6⟩ := best56 h c3
    have hRB : RB σ τ3 := ⟨hT3, fun i hi => by rw [a2 2 i (by simp)]; exact e4.1.sr i hi, hm7, fun j hj => by rw [a2 13 j (by simp)]; exact e4.2.2 j hj, a4, a3, fun t ht _ => by rw [a2 8 t (by simp)]; exact (e4.1.m8 t ht).1⟩
    obtain ⟨τ4, k1, k2, k3, k4⟩ := b150 hc c3 n1 n2 p (24 ^ (wl σ).length) ms_fu 0 (by omega) (fu_lt (by omega)) τ3 (-1) 0 hRB (Or.inl ⟨rfl, rfl, rfl⟩)
    obtain ⟨τ5, l1, l2, l3⟩ := b348 h6 p (nI (mu σ (bst σ (24 ^ (wl σ).length)))) (nI (al σ (bst σ (24 ^ (wl σ).length)))) (tN σ) ms_fu 0 (by omega) (fu_lt (by omega)) τ4 k3.1.1 (fun j hj => by omega)
    have cc5 : τ5 0 3 ≤ nI (tN σ) := by rw [l2 0 3 (by simp), k3.1.1, le_nI (by omega) (by omega)]; exact Nat.le_refl _
    have v8 : ∀ t, t < 6 → τ5 8 t = nI (sf σ t) := fun t ht => by
      rcases Nat.lt_or_ge t (tN σ) with q | q
      · rw [l3 t q]; exact k3.2.2.2.2.2.1 t q
      · rw [l2 8 t (by omega)]
        refine k3.2.2.2.2.2.2 t ht (fun hm => ?_)
        obtain ⟨k, hk⟩ := List.getElem?_of_mem hm
        have := (wl_at hk).1
        omega
    have v21 : ∀ t, t < tN σ → τ5 21 t = nI (shR σ (bst σ (24 ^ (wl σ).length)) t) := fun t ht => by rw [l2 21 t (by simp)]; exact k4 t ht
    have G : Fr (fun k i => Wms k i ∨ k = 8) τ τ5 := ((F3.mo fun k i q => Or.inl q).tr (k2.mo fun k i q => by
      rcases q with q | q | q
      · exact Or.inr q
      · exact Or.inl (Or.inr (Or.inr (Or.inl (by omega))))
      · exact Or.inl (Or.inr (Or.inr (Or.inl (by omega)))))).tr (l2.mo fun k i q => Or.inr q.1)
    have hc' := g2.1
    have hcore : Core σ' τ5 := by
      have s6 : ∀ t, σ' 6 t = σ 6 t := fun t => fr_6 g3 t
      refine hc'.upd (W := fun _ _ => False) (fun _ _ _ => rfl) G (fun k i q z => z) (fun k i q r z => by rcases z with (z | z | z | z) | z <;> omega) (fun z => z) (by simp) (by simp) (hc'.1.fr rfl (fun _ => rfl) (G 0 0 (by simp)) (fun i => G 1 i (by simp))) hc'.2.1 hc'.sw hc'.2.2.2.1 hc'.2.2.2.2.1 (hc'.sr.cp (fun _ => rfl) (fun i => G 2 i (by simp))) (fun t ht => by rw [G 7 t (by simp)]; exact hc'.m7 t ht) (fun t ht => by rw [v8 t ht, s6]; exact (hc.shf ht).2.symm)
    have hrel : Rel σ' τ5 := ⟨hcore, g2.2⟩
    have m107 : fX8_best_107 p (nI (wl σ).length) τ3 = (if p = (-1) then some (nI (mu σ (bst σ (24 ^ (wl σ).length))), τ5) else (if p = (-2) then some (nI (al σ (bst σ (24 ^ (wl σ).length))), τ5) else ms_g (ms_in p 6) (some (τ5 21 (ms_ix p), τ5)))) := by
      rw [b107 c3, show fX8_best_150 ms_fu p (nI (wl σ).length) (nI (24 ^ (wl σ).length)) (-1) 0 0 τ3 = _ from k1, show fX8_best_348 ms_fu p (nI (mu σ (bst σ (24 ^ (wl σ).length)))) (nI (al σ (bst σ (24 ^ (wl σ).length)))) 0 τ4 = _ from l1, fX8_best_348, if_pos cc5]
    rw [m107, g1, fX7_best_97, g4, g5]
    rcases hp with (rfl | rfl) | ⟨t, ht, rfl⟩
    · have c0 : (-1 : Int32) < 0 := by decide
      rw [if_pos c0, if_pos c0, if_pos rfl, if_pos rfl]
      exact ⟨_, _, _, rfl, rfl, hrel⟩
    · have c0 : (-2 : Int32) < 0 := by decide
      have c1 : ¬ (-2 : Int32) = -1 := by decide
      rw [if_pos c0, if_pos c0, if_neg c1, if_neg c1, if_pos rfl, if_pos rfl]
      exact ⟨_, _, _, rfl, rfl, hrel⟩
    · have c0 : ¬ nI t < 0 := by rw [show (0 : Int32) = nI 0 from rfl, lt_nI (by omega) (by decide)]; omega
      have c1 : ¬ nI t = -1 := m1_ne (by omega)
      have c2 : ¬ nI t = -2 := fun q => c0 (by rw [q]; decide)
      have wb := wb3 t (by omega)
      have b2 := bt_2 (wB σ (tN σ)) t
      rw [if_neg c0, if_neg c0, bit_X (by omega) (by omega), Option.bind_some]
      rcases mayW hT3 hm7 hc.tw ht with ⟨w, m⟩ | ⟨w, m⟩
      · obtain ⟨k, hk⟩ := wl_of ht w
        rw [wb.2 ⟨ht, w⟩, m, Option.bind_some, if_neg n10, if_neg (show ¬ nI 1 = 0 by decide), if_neg c1, if_neg c1, if_neg c2, if_neg c2, fX1_shiftOf, ms_g_t (in_nI (by omega) (by decide)), ms_g_t (in_nI (by omega) (by decide)), ix_nI (by omega), Option.bind_some, g6 k t hk, v21 t ht, shR_at hk]
        exact ⟨_, _, _, rfl, rfl, hrel⟩
      · have q0 : bt (wB σ (tN σ)) t = 0 := by
          rcases (show bt (wB σ (tN σ)) t = 0 ∨ bt (wB σ (tN σ)) t = 1 by omega) with q | q
          · exact q
          · exact absurd (wb.1 q).2 w
        rw [q0, m, Option.bind_some, if_pos rfl, if_pos (show nI 0 = 0 from rfl)]
        exact ⟨_, _, _, rfl, rfl, h.frM F3⟩
  · rw [if_neg (fun q => c3 (hle.1 q)), if_neg (fun q => c3 (hle.1 q))]
    exact ⟨_, _, _, rfl, rfl, h.frM F3⟩
theorem in_m2 {p : Int32} (h1 : ¬ p = -1) (h2 : ¬ p = -2) : fX8_in p (-2) (-1) = some 0 := by
  have g1 := ms_ne_toInt h1
  have g2 := ms_ne_toInt h2
  rw [show (-1 : Int32).toInt = -1 by decide] at g1
  rw [show (-2 : Int32).toInt = -2 by decide] at g2
  unfold fX8_in
  by_cases c : p < -2
  · rw [if_pos c]
  · rw [if_neg c, if_pos]
    rw [Int32.lt_iff_toInt_lt, show (-2 : Int32).toInt = -2 by decide] at c
    rw [Int32.lt_iff_toInt_lt, show (-1 : Int32).toInt = -1 by decide]
    omega
theorem s_best {σ τ : Mm} (h : Rel σ τ) (p0 : Int32) : ∃ (r : Int32) (σ' τ' : Mm), fX7_best p0 σ = some (r, σ') ∧ fX8_best p0 τ = some (r, τ') ∧ Rel σ' τ' := by
  by_cases c1 : p0 = -1
  · obtain ⟨r, σ', τ', a, b, c⟩ := best25 h p0 (Or.inl (Or.inl c1))
    refine ⟨r, σ', τ', by rw [fX7_best, if_pos c1]; exact a, ?_, c⟩
    rw [fX8_best, show fX8_in p0 (-2) (-1) = some 1 by rw [c1]; decide, Option.bind_some, if_neg n10]
    exact b
  by_cases c2 : p0 = -2
  · obtain ⟨r, σ', τ', a, b, c⟩ := best25 h p0 (Or.inl (Or.inr c2))
    refine ⟨r, σ', τ', by rw [fX7_best, if_neg c1, if_pos c2]; exact a, ?_, c⟩
    rw [fX8_best, show fX8_in p0 (-2) (-1) = some 1 by rw [c2]; decide, Option.bind_some, if_neg n10]
    exact b
  obtain ⟨τ1, a1, a2, a3⟩ := thing_cases h.1 p0
  rw [fX7_best, if_neg c1, if_neg c2, fX8_best, in_m2 c1 c2, Option.bind_some, if_pos rfl]
  rcases a3 with ⟨b1, b2⟩ | ⟨t, ht, hpt, b1, b2⟩
  · rw [b1, b2, Option.bind_some, Option.bind_some]
    simp only [if_true]
    exact ⟨_, _, _, rfl, rfl, h.frM a1⟩
  · obtain ⟨r, σ', τ', a, b, c⟩ := best25 (h.frM a1) p0 (Or.inr ⟨t, ht, hpt⟩)
    rw [b1, b2, Option.bind_some, Option.bind_some, if_neg n10]
    simp only
    rw [if_neg n10]
    exact ⟨r, σ', τ', a, b, c⟩
