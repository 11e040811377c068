/-! ===== what each asks first: the fault, the days ===== -/
theorem Wpm_ms : ∀ k i, Wpm k i → Wms k i := fun k i q => by
  rcases q with q | q | q
  · exact Or.inl q
  · exact Or.inr (Or.inl q)
  · exact Or.inr (Or.inr (Or.inl ⟨q.1, by omega⟩))
theorem fnowM {σ τ : Mm} (h : Core σ τ) : ∃ τ', fX8_faultNow τ = some (σ 1 7, τ') ∧ Fr Wms τ τ' ∧ TR σ τ' (hB σ) := by
  obtain ⟨τ', a, b, c⟩ := h.2.1.2 τ h.1
  exact ⟨τ', a, b.mo Wpm_ms, c⟩
theorem Core.tw {σ τ : Mm} (h : Core σ τ) : TW σ := h.2.1.1
theorem Core.sw {σ τ : Mm} (h : Core σ τ) : SW σ := h.2.2.1
theorem Core.sr {σ τ : Mm} (h : Core σ τ) : SR σ τ := h.2.2.2.2.2.1
theorem Core.hb {σ τ : Mm} (h : Core σ τ) : hB σ < 512 ∧ σ 1 6 = nI (hB σ) := ⟨h.tw.2.2.2.2.2.1, h.tw.2.2.2.2.1⟩
theorem Core.sb {σ τ : Mm} (h : Core σ τ) : sB σ < 64 ∧ σ 0 3 = nI (sB σ) := by
  obtain ⟨n, h1, h2⟩ := h.2.2.2.1
  unfold sB
  rw [h2, ix_nI (by omega)]
  exact ⟨h1, rfl⟩
theorem Core.shf {σ τ : Mm} (h : Core σ τ) {t : Nat} (ht : t < 6) : sf σ t < 24 ∧ σ 6 t = nI (sf σ t) := by
  obtain ⟨n, h1, h2⟩ := h.2.2.2.2.1 t ht
  unfold sf
  rw [h2, ix_nI (by omega)]
  exact ⟨h1, rfl⟩
theorem Core.m8 {σ τ : Mm} (h : Core σ τ) : ∀ t, t < 6 → τ 8 t = nI (sf σ t) ∧ sf σ t < 24 := fun t ht => by
  rw [h.2.2.2.2.2.2.2.1 t ht]
  exact ⟨(h.shf ht).2, (h.shf ht).1⟩
theorem Core.m7 {σ τ : Mm} (h : Core σ τ) : ∀ t, t < 6 → τ 7 t = nI (bt (sB σ) t) := h.2.2.2.2.2.2.1
theorem eD_ok {σ τ : Mm} (h : Core σ τ) : EvOK (eD σ) := evX_ok h.tw h.sw _ _ _ _ (by decide)
theorem eS_ok {σ τ : Mm} (h : Core σ τ) (sh : Nat → Nat) : EvOK (eS σ sh) := evX_ok h.tw h.sw _ _ _ _ (by decide)
theorem eT_ok {σ τ : Mm} (h : Core σ τ) (q : Nat) : EvOK (eT σ q) := evX_ok h.tw h.sw _ _ _ _ (by have := Nat.mod_lt q (show 0 < 40 by decide); omega)
/-- the reference's days -/
theorem laysM {σ τ : Mm} (h : Core σ τ) : ∃ τ', fX8_lays τ = some τ' ∧ Fr Wms τ τ' ∧ TR σ τ' (hB σ) ∧ ∀ j, j < 240 → RunAt τ' (eD σ) j := by
  obtain ⟨τ1, a1, a2, a3⟩ := fnowM h
  have h1 := h.frM a2
  obtain ⟨τ2, b1, b2, b3⟩ := windsM h.tw h.sw h.hb.1 a3 h1.sr
  have F2 : Fr Wms τ1 τ2 := b2.mo fun k i q => Or.inr (Or.inr (Or.inl (by omega)))
  have h2 := h1.frM F2
  have hR2 : TR σ τ2 (hB σ) := a3.fr b2 (by decide) (by decide) (by decide) (fun k i p q r z => by omega)
  have hRm := rmM (w := 0) h.tw h.sw hR2 h2.sr h.sb.1 (by decide) h2.m7 h2.m8 b3 (-1) 0
  rw [Nat.or_zero] at hRm
  obtain ⟨τ3, c1, c2, c3⟩ := runsM (eD_ok h) hRm (N := 240) (by decide)
  have F3 : Fr Wms τ2 τ3 := c2.mo fun k i q => Or.inr (Or.inr (Or.inl (by omega)))
  refine ⟨τ3, ?_, (a2.tr F2).tr F3, hR2.fr c2 (by decide) (by decide) (by decide) (fun k i p q r z => by have := z.1; omega), c3⟩
  unfold fX8_lays
  rw [a1, Option.bind_some]
  simp only
  rw [b1, Option.bind_some, show fX8_runs 240 0 (-1) 0 τ2 = some τ3 from c1, Option.bind_some]
/-- the class's days -/
theorem daysX {σ τ : Mm} (h : Rel σ τ) : ∃ σ', fX7_recordDays σ = some σ' ∧ Rel σ' τ ∧ Fr Wscr σ σ' ∧ (∀ j, j < 240 → RecAt σ' (eD σ) j) ∧ eD σ' = eD σ := by
  obtain ⟨hc, hd, hp, ht⟩ := h
  unfold fX7_recordDays
  rcases hd with hd | ⟨hd, hr⟩
  · rw [if_pos hd, hc.hb.2, hc.sb.2]
    obtain ⟨σ1, a1, a2, a3⟩ := readyX hc.tw hc.sw hc.hb.1 hc.sb.1 hc.2.2.2.2.1
    obtain ⟨σ2, b1, b2, b3, b4⟩ := recordX (eD_ok hc) a3
    rw [a1, Option.bind_some, b1, Option.bind_some]
    have F1 : Fr Wscr σ σ1 := a2.mo Wmr_scr
    have F2 : Fr Wscr σ1 σ2 := b2.mo fun k i q => by
      rcases q with q | q | q
      · exact Or.inl ⟨q.1, by omega⟩
      · exact Or.inr (Or.inr (Or.inl q))
      · exact Or.inr (Or.inr (Or.inr (Or.inl q)))
    have F := F1.tr F2
    have out : ∀ k i, 18 ≤ k → σ2 k i = σ k i := fun k i hk => by
      rw [b2 k i (fun q => by rcases q with q | q | q <;> omega), a2 k i (fun q => by rcases q with q | q <;> omega)]
    refine ⟨σ2, rfl, ⟨hc.frX F, Or.inr ⟨b3, fun j hj => by rw [eD_fr F]; exact b4 j hj⟩, hp.fr F (fun i => out _ _ (by decide)) (fun i => out _ _ (by decide)), ht.fr F (fun i => out _ _ (by decide))⟩, F, b4, eD_fr F⟩
  · rw [if_neg (by rw [hd]; decide)]
    exact ⟨σ, rfl, ⟨hc, Or.inr ⟨hd, hr⟩, hp, ht⟩, Fr.rf, hr, rfl⟩
/-- a number below a count, asked of both -/
theorem has_cases (p : Int32) {n : Nat} (hn : n ≤ 100) : ((if p < 0 then some (0 : Int32) else if nI n ≤ p then some 0 else some 1) = some 0 ∧ fX8_in p 0 (nI n - 1) = some 0) ∨ (∃ t, t < n ∧ p = nI t ∧ (if p < 0 then some (0 : Int32) else if nI n ≤ p then some 0 else some 1) = some 1 ∧ fX8_in p 0 (nI n - 1) = some 1) := by
  rw [in_same]
  unfold fX7_within
  by_cases h0 : p < 0
  · exact Or.inl ⟨by rw [if_pos h0], by rw [if_pos h0]⟩
  · obtain ⟨t, ht, rfl⟩ := nI_of h0
    rw [if_neg h0, if_neg h0, ifle (by omega) ht]
    by_cases c : n ≤ t
    · refine Or.inl ⟨by rw [if_pos c], ?_⟩
      rw [if_pos]
      rcases Nat.eq_zero_or_pos n with q | q
      · subst q
        rw [show nI 0 - 1 = (-1 : Int32) by decide]
        exact m1_lt ht
      · rw [show (1 : Int32) = nI 1 from rfl, pk_sub q, lt_nI (by omega) ht]; omega
    · refine Or.inr ⟨t, by omega, rfl, by rw [if_neg c], ?_⟩
      rw [if_neg]
      rw [show (1 : Int32) = nI 1 from rfl, pk_sub (by omega), lt_nI (by omega) ht]; omega
theorem thing_cases {σ τ : Mm} (h : Core σ τ) (p : Int32) : ∃ τ', Fr Wms τ τ' ∧ TR σ τ' (hB σ) ∧ ((fX4_hasThing σ p = some 0 ∧ fX8_isThing p τ = some (0, τ')) ∨ (∃ t, t < tN σ ∧ p = nI t ∧ fX4_hasThing σ p = some 1 ∧ fX8_isThing p τ = some (1, τ'))) := by
  obtain ⟨τ1, a1, a2, a3⟩ := fnowM h
  refine ⟨τ1, a2, a3, ?_⟩
  have h6 := h.tw.2.1
  unfold fX4_hasThing fX8_isThing
  rw [h.tw.1, a1, Option.bind_some]
  simp only
  rw [a3.1]
  rcases has_cases p (n := tN σ) (by omega) with ⟨q1, q2⟩ | ⟨t, q0, q1, q2, q3⟩
  · exact Or.inl ⟨q1, by rw [q2, Option.bind_some, ms_g_t (Or.inl rfl)]⟩
  · exact Or.inr ⟨t, q0, q1, q2, by rw [q3, Option.bind_some, ms_g_t (Or.inr rfl)]⟩
theorem group_cases {σ τ : Mm} (h : Core σ τ) (p : Int32) : ∃ τ', Fr Wms τ τ' ∧ TR σ τ' (hB σ) ∧ ((fX4_hasGroup σ p = some 0 ∧ fX8_isGroup p τ = some (0, τ')) ∨ (∃ t, t < gN σ ∧ p = nI t ∧ fX4_hasGroup σ p = some 1 ∧ fX8_isGroup p τ = some (1, τ'))) := by
  obtain ⟨τ1, a1, a2, a3⟩ := fnowM h
  refine ⟨τ1, a2, a3, ?_⟩
  have h6 := h.tw.2.2.2.1
  unfold fX4_hasGroup fX8_isGroup
  rw [h.tw.2.2.1, a1, Option.bind_some]
  simp only
  rw [a3.2.1]
  rcases has_cases p (n := gN σ) (by omega) with ⟨q1, q2⟩ | ⟨t, q0, q1, q2, q3⟩
  · exact Or.inl ⟨q1, by rw [q2, Option.bind_some, ms_g_t (Or.inl rfl)]⟩
  · exact Or.inr ⟨t, q0, q1, q2, by rw [q3, Option.bind_some, ms_g_t (Or.inr rfl)]⟩
theorem s_fault {σ τ : Mm} (h : Rel σ τ) : ∃ (r : Int32) (τ' : Mm), fX7_fault σ = some r ∧ fX8_fault τ = some (r, τ') ∧ Rel σ τ' := by
  obtain ⟨τ1, a1, a2, a3⟩ := fnowM h.1
  refine ⟨_, τ1, rfl, ?_, h.frM a2⟩
  unfold fX8_fault
  rw [a1, Option.bind_some]
/-- of a thing, all that is told of it -/
theorem thingOf_s {σ τ : Mm} (h : Core σ τ) (hR : TR σ τ (hB σ)) {t w : Nat} (ht : t < tN σ) (hw : w ≤ 5) : ∃ r : Int32, fX8_thingOf τ (nI t) (nI w) = some r ∧ fX7_thing σ (nI t) (nI w) = some r := by
  have h6 := h.tw.2.1
  have i7 : ms_in (nI t) 7 := in_nI (by omega) (by decide)
  have i6 : ms_in (nI t) 6 := in_nI (by omega) (by decide)
  have ixt : ms_ix (nI t) = t := ix_nI (by omega)
  obtain ⟨r0, r1, r2, r3⟩ := hR.2.2.2.1 t ht
  have hh : fX4_hasThing σ (nI t) = some 1 := by
    unfold fX4_hasThing
    rw [if_neg (nI_pos (by omega)), h.tw.1, ifle (by omega) (by omega), if_neg (by omega)]
  have hw' : fX7_within (nI w) 0 5 = some 1 := by
    unfold fX7_within
    rw [show (0 : Int32) = nI 0 from rfl, show (5 : Int32) = nI 5 from rfl, iflt (by omega) (by decide), if_neg (by omega), iflt (by decide) (by omega), if_neg (by omega)]
  unfold fX8_thingOf fX7_thing
  rw [hh, Option.bind_some, if_neg (show ¬ (1 : Int32) = 0 by decide), hw', Option.bind_some, if_neg (show ¬ (1 : Int32) = 0 by decide), ms_g_t i7, ms_g_t i7, ms_g_t i7, ms_g_t i7, ms_g_t i6, ms_g_t i6, ms_g_t i6, ixt, r0, r1, r2, r3, h.m7 t (by omega), (h.m8 t (by omega)).1, (h.shf (by omega)).2, h.sb.2, bit_X (by have := h.sb.1; omega) (by omega), Option.bind_some]
  rcases (show w = 0 ∨ w = 1 ∨ w = 2 ∨ w = 3 ∨ w = 4 ∨ w = 5 by omega) with rfl | rfl | rfl | rfl | rfl | rfl
  · rw [ofThX h.tw ht (j := 0) (by decide), Option.bind_some]
    exact ⟨_, by rw [if_pos (by decide)], by rw [if_neg (by decide), if_neg (by decide)]⟩
  · rw [ofThX h.tw ht (j := 1) (by decide), Option.bind_some]
    exact ⟨_, by rw [if_neg (by decide), if_pos (by decide)], by rw [if_neg (by decide), if_neg (by decide)]⟩
  · rw [ofThX h.tw ht (j := 2) (by decide), Option.bind_some]
    exact ⟨_, by rw [if_neg (by decide), if_neg (by decide), if_pos (by decide)], by rw [if_neg (by decide), if_neg (by decide)]⟩
  · rw [ofThX h.tw ht (j := 3) (by decide), Option.bind_some]
    exact ⟨_, by rw [if_neg (by decide), if_neg (by decide), if_neg (by decide), if_pos (by decide)], by rw [if_neg (by decide), if_neg (by decide)]⟩
  · exact ⟨_, by rw [if_neg (by decide), if_neg (by decide), if_neg (by decide), if_neg (by decide), if_pos (by decide)], by rw [if_pos (by decide)]⟩
  · exact ⟨_, by rw [if_neg (by decide), if_neg (by decide), if_neg (by decide), if_neg (by decide), if_neg (by decide)], by rw [if_neg (by decide), if_pos (by decide)]⟩
theorem s_thing {σ τ : Mm} (h : Rel σ τ) (p0 p1 : Int32) : ∃ (r : Int32) (τ' : Mm), fX7_thing σ p0 p1 = some r ∧ fX8_thing p0 p1 τ = some (r, τ') ∧ Rel σ τ' := by
  obtain ⟨τ1, a1, a2, a3⟩ := thing_cases h.1 p0
  rcases a3 with ⟨b1, b2⟩ | ⟨t, b0, rfl, b1, b2⟩
  · refine ⟨-2, τ1, ?_, ?_, h.frM a1⟩
    · unfold fX7_thing
      rw [b1, Option.bind_some, if_pos rfl]
    · unfold fX8_thing
      rw [b2, Option.bind_some]; rfl
  · rcases wi_cases p1 (a := 0) (b := 5) (by decide) (by decide) with c | ⟨w, c1, c2, rfl, c4⟩
    · have c' : fX7_within p1 0 5 = some 0 := c
      refine ⟨-2, τ1, ?_, ?_, h.frM a1⟩
      · unfold fX7_thing
        rw [b1, Option.bind_some, if_neg (by decide), c', Option.bind_some, if_pos rfl]
      · unfold fX8_thing
        rw [b2, Option.bind_some]
        simp only
        rw [if_neg (by decide), in_same, c', Option.bind_some, if_pos rfl]
    · obtain ⟨r, d1, d2⟩ := thingOf_s (h.1.frM a1) a2 b0 c2
      have c' : fX7_within (nI w) 0 5 = some 1 := c4
      refine ⟨r, τ1, d2, ?_, h.frM a1⟩
      unfold fX8_thing
      rw [b2, Option.bind_some]
      simp only
      rw [if_neg (by decide), in_same, c', Option.bind_some, if_neg (by decide), d1, Option.bind_some]
theorem s_handle {σ τ : Mm} (h : Rel σ τ) (p0 : Int32) : ∃ (r : Int32) (τ' : Mm), fX7_handle σ p0 = some r ∧ fX8_handle p0 τ = some (r, τ') ∧ Rel σ τ' := by
  unfold fX7_handle fX8_handle
  rw [in_same]
  rcases wi_cases p0 (a := 0) (b := 8) (by decide) (by decide) with c | ⟨w, c1, c2, rfl, c4⟩
  · rw [show fX7_within p0 0 8 = some 0 from c, Option.bind_some, Option.bind_some, if_pos rfl, if_pos rfl]
    exact ⟨_, _, rfl, rfl, h⟩
  · rw [show fX7_within (nI w) 0 8 = some 1 from c4, Option.bind_some, Option.bind_some, if_neg (by decide), if_neg (by decide)]
    obtain ⟨τ1, a1, a2, a3⟩ := fnowM h.1
    have b2 := bt_2 (hB σ) w
    have h5 := h.1.hb.1
    unfold fX8_handleOf
    rw [a1, Option.bind_some]
    simp only
    rw [a3.2.2.1, h.1.hb.2, bit_X (by omega) (by omega), isIn_M (by omega) (by omega), Option.bind_some, Option.bind_some]
    rcases (show bt (hB σ) w = 0 ∨ bt (hB σ) w = 1 by omega) with q | q
    · rw [q, if_pos (show nI 0 = (0 : Int32) from rfl), Option.bind_some]
      exact ⟨_, _, rfl, rfl, h.frM a2⟩
    · rw [q, if_neg (show ¬ nI 1 = (0 : Int32) by decide), Option.bind_some]
      exact ⟨_, _, rfl, rfl, h.frM a2⟩
theorem s_group {σ τ : Mm} (h : Rel σ τ) (p0 p1 : Int32) : ∃ (r : Int32) (τ' : Mm), fX7_group σ p0 p1 = some r ∧ fX8_group p0 p1 τ = some (r, τ') ∧ Rel σ τ' := by
  obtain ⟨τ1, a1, a2, a3⟩ := group_cases h.1 p0
  unfold fX7_group fX8_group
  rcases a3 with ⟨b1, b2⟩ | ⟨g, b0, rfl, b1, b2⟩
  · rw [b1, b2, Option.bind_some, Option.bind_some, if_pos rfl]
    exact ⟨_, τ1, rfl, rfl, h.frM a1⟩
  · rw [b1, b2, Option.bind_some, Option.bind_some, if_neg (by decide)]
    simp only
    rw [if_neg (by decide), in_same]
    have h8 := h.1.tw.2.2.2.1
    rcases wi_cases p1 (a := 0) (b := 5) (by decide) (by decide) with c | ⟨w, c1, c2, rfl, c4⟩
    · rw [show fX7_within p1 0 5 = some 0 from c, Option.bind_some, Option.bind_some, if_pos rfl, if_pos rfl]
      exact ⟨_, τ1, rfl, rfl, h.frM a1⟩
    · rw [show fX7_within (nI w) 0 5 = some 1 from c4, Option.bind_some, Option.bind_some, if_neg (by decide), if_neg (by decide), ofGrX h.1.tw b0 (by omega), Option.bind_some]
      obtain ⟨x0, x1, x2, x3, x4, x5⟩ := a2.2.2.2.2 g b0
      have i9 : ms_in (nI g) 9 := in_nI (by omega) (by decide)
      have ixg : ms_ix (nI g) = g := ix_nI (by omega)
      rw [ms_g_t i9, ms_g_t i9, ixg, x0, x1]
      have e2 : (2 : Int32) * nI g = nI (2 * g) := by rw [show (2 : Int32) = nI 2 from rfl, pk_mul]
      rw [e2, nI_add]
      refine ⟨_, τ1, rfl, ?_, h.frM a1⟩
      rcases (show w = 0 ∨ w = 1 ∨ w = 2 ∨ w = 3 ∨ w = 4 ∨ w = 5 by omega) with rfl | rfl | rfl | rfl | rfl | rfl
      · rw [if_pos (by decide)]
      · rw [if_neg (by decide), if_pos (by decide)]
      · rw [if_neg (by decide), if_neg (by decide), if_neg (by decide), show (2 : Int32) = nI 2 from rfl, pk_sub (by omega), Nat.add_sub_cancel, ms_g_t (in_nI (show 2 * g < 18 by omega) (by decide)), ix_nI (by omega), x2]
      · rw [if_neg (by decide), if_neg (by decide), if_neg (by decide), show (2 : Int32) = nI 2 from rfl, pk_sub (by omega), show 2 * g + 3 - 2 = 2 * g + 1 by omega, ms_g_t (in_nI (show 2 * g + 1 < 18 by omega) (by decide)), ix_nI (by omega), x3]
      · rw [if_neg (by decide), if_neg (by decide), if_pos (by decide), show (4 : Int32) = nI 4 from rfl, pk_sub (by omega), Nat.add_sub_cancel, ms_g_t (in_nI (show 2 * g < 18 by omega) (by decide)), ix_nI (by omega), x4]
      · rw [if_neg (by decide), if_neg (by decide), if_pos (by decide), show (4 : Int32) = nI 4 from rfl, pk_sub (by omega), show 2 * g + 5 - 4 = 2 * g + 1 by omega, ms_g_t (in_nI (show 2 * g + 1 < 18 by omega) (by decide)), ix_nI (by omega), x5]
theorem goesOf_s {σ τ : Mm} (h : Core σ τ) (hR : TR σ τ (hB σ)) {g : Nat} (hg : g < gN σ) : ∃ r : Int32, fX8_goesOf τ (nI g) = some r ∧ fX7_goes σ (nI g) = some r := by
  have h8 := h.tw.2.2.2.1
  have s5 := h.sw.2.2.2.2.2.2.1
  have hh : fX4_hasGroup σ (nI g) = some 1 := by
    unfold fX4_hasGroup
    rw [if_neg (nI_pos (by omega)), h.tw.2.2.1, ifle (by omega) (by omega), if_neg (by omega)]
  refine ⟨_, goesOfM h.tw h.sw hR h.sr h.hb.1 hg, ?_⟩
  have h2 := sd_2 σ (hB σ) g (sg σ 5)
  unfold fX7_goes
  rw [hh, Option.bind_some, if_neg (by decide), ms_g_t (show ms_in 5 9 by decide), show σ 5 (ms_ix 5) = nI (sg σ 5) from h.sw.1 5 (by decide), h.hb.2, sideX h.tw h.sw hg h.hb.1 (by omega), Option.bind_some, show (2 : Int32) = nI 2 from rfl, nI_add, ofGrX h.tw hg (by omega), Option.bind_some]
theorem s_goes {σ τ : Mm} (h : Rel σ τ) (p0 : Int32) : ∃ (r : Int32) (τ' : Mm), fX7_goes σ p0 = some r ∧ fX8_goes p0 τ = some (r, τ') ∧ Rel σ τ' := by
  obtain ⟨τ1, a1, a2, a3⟩ := group_cases h.1 p0
  rcases a3 with ⟨b1, b2⟩ | ⟨g, b0, rfl, b1, b2⟩
  · unfold fX7_goes fX8_goes
    rw [b1, b2, Option.bind_some, Option.bind_some, if_pos rfl]
    exact ⟨_, τ1, rfl, rfl, h.frM a1⟩
  · obtain ⟨r, d1, d2⟩ := goesOf_s (h.1.frM a1) a2 b0
    refine ⟨r, τ1, d2, ?_, h.frM a1⟩
    unfold fX8_goes
    rw [b2, Option.bind_some]
    simp only
    rw [if_neg (by decide), d1, Option.bind_some]
