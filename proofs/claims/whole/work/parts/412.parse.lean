/-! ===== class and reference read the town alike ===== -/
abbrev Wpx (k i : Nat) : Prop := (k = 1 ∧ 4 ≤ i ∧ i ≤ 8) ∨ k = 3 ∨ k = 4
theorem by_lt {n p : Nat} {f : Nat → Int32} (h : dg (by_ n f p) < 10) : p < n := by
  rcases Nat.lt_or_ge p n with q | q
  · exact q
  · unfold by_ at h
    rw [if_pos q] at h
    exact absurd h (by decide)
theorem by_lt2 {n p : Nat} {f : Nat → Int32} {c : Int32} (h : by_ n f p = c) (hc : ¬ (-1 : Int32) = c) : p < n := by
  rcases Nat.lt_or_ge p n with q | q
  · exact q
  · unfold by_ at h
    rw [if_pos q] at h
    exact absurd h hc
theorem TW_thing {σ σ2 : Mm} (h : TW σ) (ht : tN σ < 6) (a4 : σ2 1 4 = nI (tN σ + 1)) (a5 : σ2 1 5 = σ 1 5) (a6 : σ2 1 6 = σ 1 6) (hk4 : ∀ i, σ2 4 i = σ 4 i) (hk3 : ∀ i, i < 4 * tN σ → σ2 3 i = σ 3 i) {a b c d : Nat} (r0 : σ2 3 (4 * tN σ) = nI a) (r1 : σ2 3 (4 * tN σ + 1) = nI b) (r2 : σ2 3 (4 * tN σ + 2) = nI c) (r3 : σ2 3 (4 * tN σ + 3) = nI d) (ha : 1 ≤ a ∧ a ≤ 40) (hb : b < 24) (hc : 1 ≤ c ∧ c ≤ 24) (hd : d < 2) :
    TW σ2 ∧ tN σ2 = tN σ + 1 ∧ gN σ2 = gN σ ∧ hB σ2 = hB σ ∧ (∀ t, t < tN σ → ∀ j, j < 4 → td σ2 t j = td σ t j) ∧ (∀ g j, gd σ2 g j = gd σ g j) ∧ td σ2 (tN σ) 0 = a ∧ td σ2 (tN σ) 1 = b ∧ td σ2 (tN σ) 2 = c ∧ td σ2 (tN σ) 3 = d := by
  obtain ⟨b1, b2, b3, b4, b5, b6, b7, b8⟩ := h
  have n1 : tN σ2 = tN σ + 1 := by
    have e : tN σ2 = ms_ix (σ2 1 4) := rfl
    rw [e, a4, ix_nI (by omega)]
  have n2 : gN σ2 = gN σ := by show ms_ix (σ2 1 5) = ms_ix (σ 1 5); rw [a5]
  have n3 : hB σ2 = hB σ := by show ms_ix (σ2 1 6) = ms_ix (σ 1 6); rw [a6]
  have n4 : ∀ t, t < tN σ → ∀ j, j < 4 → td σ2 t j = td σ t j := fun t ht j hj => by unfold td; rw [hk3 _ (by omega)]
  have n5 : ∀ g j, gd σ2 g j = gd σ g j := fun g j => by unfold gd; rw [hk4]
  have m0 : td σ2 (tN σ) 0 = a := by show ms_ix (σ2 3 (4 * tN σ)) = a; rw [r0, ix_nI (by omega)]
  have m1 : td σ2 (tN σ) 1 = b := by show ms_ix (σ2 3 (4 * tN σ + 1)) = b; rw [r1, ix_nI (by omega)]
  have m2 : td σ2 (tN σ) 2 = c := by show ms_ix (σ2 3 (4 * tN σ + 2)) = c; rw [r2, ix_nI (by omega)]
  have m3 : td σ2 (tN σ) 3 = d := by show ms_ix (σ2 3 (4 * tN σ + 3)) = d; rw [r3, ix_nI (by omega)]
  refine ⟨⟨by rw [a4, n1], by omega, by rw [a5, n2]; exact b3, by omega, by rw [a6, n3]; exact b5, by omega, fun t ht => ?_, fun g hg => ?_⟩, n1, n2, n3, n4, n5, m0, m1, m2, m3⟩
  · rcases Nat.lt_or_ge t (tN σ) with q | q
    · obtain ⟨c1, c2, c3, c4, c5, c6, c7⟩ := b7 t q
      rw [n4 t q 0 (by decide), n4 t q 1 (by decide), n4 t q 2 (by decide), n4 t q 3 (by decide)]
      exact ⟨fun j hj => by rw [hk3 _ (by omega), n4 t q j hj]; exact c1 j hj, c2, c3, c4, c5, c6, c7⟩
    · obtain rfl : t = tN σ := by omega
      rw [m0, m1, m2, m3]
      refine ⟨fun j hj => ?_, ha.1, ha.2, hb, hc.1, hc.2, hd⟩
      rcases (show j = 0 ∨ j = 1 ∨ j = 2 ∨ j = 3 by omega) with rfl | rfl | rfl | rfl
      · rw [m0]; exact r0
      · rw [m1]; exact r1
      · rw [m2]; exact r2
      · rw [m3]; exact r3
  · obtain ⟨c1, c2⟩ := b8 g (by omega)
    simp only [n5, hk4]
    exact ⟨c1, c2⟩
theorem TW_group {σ σ2 : Mm} (h : TW σ) (ht : gN σ < 8) (a4 : σ2 1 4 = σ 1 4) (a5 : σ2 1 5 = nI (gN σ + 1)) (a6 : σ2 1 6 = σ 1 6) (hk3 : ∀ i, σ2 3 i = σ 3 i) (hk4 : ∀ i, i < 6 * gN σ → σ2 4 i = σ 4 i) {r : Nat → Nat} (hr : ∀ j, j < 6 → σ2 4 (6 * gN σ + j) = nI (r j) ∧ r j ≤ 99) (h1 : r 1 < 24) (h2 : r 2 ≤ 8) (h3 : r 3 ≤ 8) (h4 : r 4 ≤ 9) (h5 : r 5 ≤ 9) :
    TW σ2 ∧ tN σ2 = tN σ ∧ gN σ2 = gN σ + 1 ∧ hB σ2 = hB σ ∧ (∀ t j, td σ2 t j = td σ t j) ∧ (∀ g, g < gN σ → ∀ j, j < 6 → gd σ2 g j = gd σ g j) ∧ (∀ j, j < 6 → gd σ2 (gN σ) j = r j) := by
  obtain ⟨b1, b2, b3, b4, b5, b6, b7, b8⟩ := h
  have n1 : gN σ2 = gN σ + 1 := by
    have e : gN σ2 = ms_ix (σ2 1 5) := rfl
    rw [e, a5, ix_nI (by omega)]
  have n2 : tN σ2 = tN σ := by show ms_ix (σ2 1 4) = ms_ix (σ 1 4); rw [a4]
  have n3 : hB σ2 = hB σ := by show ms_ix (σ2 1 6) = ms_ix (σ 1 6); rw [a6]
  have n4 : ∀ g, g < gN σ → ∀ j, j < 6 → gd σ2 g j = gd σ g j := fun t ht j hj => by unfold gd; rw [hk4 _ (by omega)]
  have n5 : ∀ g j, td σ2 g j = td σ g j := fun g j => by unfold td; rw [hk3]
  have m : ∀ j, j < 6 → gd σ2 (gN σ) j = r j := fun j hj => by unfold gd; rw [(hr j hj).1, ix_nI (by have := (hr j hj).2; omega)]
  refine ⟨⟨by rw [a4, n2]; exact b1, by omega, by rw [a5, n1], by omega, by rw [a6, n3]; exact b5, by omega, fun t ht => ?_, fun g hg => ?_⟩, n2, n1, n3, n5, n4, m⟩
  · obtain ⟨c1, c2⟩ := b7 t (by omega)
    simp only [n5, hk3]
    exact ⟨c1, c2⟩
  · rcases Nat.lt_or_ge g (gN σ) with q | q
    · obtain ⟨c1, c2, c3, c4, c5, c6, c7⟩ := b8 g q
      rw [n4 g q 0 (by decide), n4 g q 1 (by decide), n4 g q 2 (by decide), n4 g q 3 (by decide), n4 g q 4 (by decide), n4 g q 5 (by decide)]
      exact ⟨fun j hj => by rw [hk4 _ (by omega), n4 g q j hj]; exact c1 j hj, c2, c3, c4, c5, c6, c7⟩
    · obtain rfl : g = gN σ := by omega
      rw [m 0 (by decide), m 1 (by decide), m 2 (by decide), m 3 (by decide), m 4 (by decide), m 5 (by decide)]
      exact ⟨fun j hj => by rw [m j hj]; exact (hr j hj).1, (hr 0 (by decide)).2, h1, h2, h3, h4, h5⟩
set_option maxRecDepth 100000 in
theorem or_hand : ∀ b, b < 512 → ∀ d, d < 9 → nI b ||| ms_shl 1 (nI d) = nI (b ||| 2 ^ d) ∧ b ||| 2 ^ d < 512 := by decide +kernel
/-- one part -/
theorem pstep {σ τ : Mm} {n p : Nat} {f : Nat → Int32} (hc : TXc σ n f) (hm : TXm τ n f) (hT : TW σ) (hR : TR σ τ (hB σ)) (h7 : σ 1 7 = -1) (h8 : σ 1 8 = nI p) (hp : p ≤ n) : ∃ σ2, fX4_parsePart σ = some σ2 ∧ Fr Wpx σ σ2 ∧
    ((∃ w, w < 1000 ∧ σ2 1 7 = nI w ∧ ∃ τ', (∀ K, fX8_reads_29 K (nI p) τ = some (nI w, τ')) ∧ Fr Wpm τ τ') ∨
     (σ2 1 7 = -1 ∧ ∃ q, p + 2 ≤ q ∧ q ≤ n ∧ σ2 1 8 = nI q ∧ TW σ2 ∧ ∃ τ', (∀ K, fX8_reads_29 K (nI p) τ = fX8_reads_386 K (nI q) (-1) τ') ∧ Fr Wpm τ τ' ∧ TR σ2 τ' (hB σ2))) := by
  have hn := hc.2.1
  obtain ⟨b1, b2, b3, b4, b5, b6, b7, b8⟩ := id hT
  have nx := nextX hc (p := p) (by omega) h8
  -- the wrong byte, or a part too many
  have bad : ∀ σ2, fX4_parsePart σ = fX4_parsePart_125 σ → (∀ K, fX8_reads_29 K (nI p) τ = some (nI p, τ)) → fX4_parsePart_125 σ = some σ2 → fX4_parsePart σ = some σ2 ∧ Fr Wpx σ σ2 ∧ ((∃ w, w < 1000 ∧ σ2 1 7 = nI w ∧ ∃ τ', (∀ K, fX8_reads_29 K (nI p) τ = some (nI w, τ')) ∧ Fr Wpm τ τ') ∨ (σ2 1 7 = -1 ∧ ∃ q, p + 2 ≤ q ∧ q ≤ n ∧ σ2 1 8 = nI q ∧ TW σ2 ∧ ∃ τ', (∀ K, fX8_reads_29 K (nI p) τ = fX8_reads_386 K (nI q) (-1) τ') ∧ Fr Wpm τ τ' ∧ TR σ2 τ' (hB σ2))) := by
    intro σ2 q1 q2 q3
    have e : σ2 = ms_st σ 1 7 (σ 1 8) := by unfold fX4_parsePart_125 at q3; exact (Option.some.inj q3).symm
    subst e
    refine ⟨q1.trans q3, Fr.rf.st _ (Or.inl ⟨rfl, by decide, by decide⟩), Or.inl ⟨p, by omega, by rw [ms_rd, if_pos (by decide), h8], τ, q2, Fr.rf⟩⟩
  have e125 : fX4_parsePart_125 σ = some (ms_st σ 1 7 (σ 1 8)) := rfl
  have F8 : Fr Wpx σ (ms_st σ 1 8 (nI (p + 1))) := Fr.rf.st _ (Or.inl ⟨rfl, by decide, by decide⟩)
  have T8 := hc.fr F8 (by simp) (fun i => by simp)
  have v8 : ms_st σ 1 8 (nI (p + 1)) 1 8 = nI (p + 1) := by rw [ms_rd, if_pos (by decide)]
  have v7 : ms_st σ 1 8 (nI (p + 1)) 1 7 = -1 := by rw [ms_rd, if_neg (by decide)]; exact h7
  have v6 : ms_st σ 1 8 (nI (p + 1)) 1 6 = nI (hB σ) := by rw [ms_rd, if_neg (by decide)]; exact b5
  have v5 : ms_st σ 1 8 (nI (p + 1)) 1 5 = nI (gN σ) := by rw [ms_rd, if_neg (by decide)]; exact b3
  have v4 : ms_st σ 1 8 (nI (p + 1)) 1 4 = nI (tN σ) := by rw [ms_rd, if_neg (by decide)]; exact b1
  by_cases ct : by_ n f p = 116
  · by_cases c6 : 6 ≤ tN σ
    · refine ⟨_, bad _ ?_ (fun K => ?_) e125⟩
      · unfold fX4_parsePart
        rw [nx, Option.bind_some, ct, if_pos rfl, b1, if_pos (by rw [show (6 : Int32) = nI 6 from rfl, le_nI (by decide) (by omega)]; exact c6)]
        unfold fX4_parsePart_53
        rw [if_neg (by decide), if_neg (by decide)]
      · unfold fX8_reads_29
        rw [byteM hm (by omega), Option.bind_some, ct, if_pos rfl, hR.1, if_pos (by rw [show (6 : Int32) = nI 6 from rfl, le_nI (by decide) (by omega)]; exact c6)]
        unfold fX8_reads_175
        rw [if_neg (by decide), if_neg (by decide)]
    · obtain ⟨τ', k1, k2, k3, k4, k5, k6, k7⟩ := m29T hm (p := p) (by omega) ct hR.1 (by omega)
      have kF : Fr Wpm τ τ' := k2.mo fun k i q => by
        rcases q with q | q
        · exact Or.inl ⟨q.1, Or.inl q.2⟩
        · exact Or.inr (Or.inl ⟨q.1, q.2.1⟩)
      obtain ⟨σ1, x1, x2, x3⟩ := thingX T8 (k := p + 1) (by omega) v8 v7 (t := tN σ) (by omega)
      have Wt : ∀ k i, Wth (tN σ) k i → Wpx k i := fun k i q => by
        rcases q with q | q
        · exact Or.inl ⟨q.1, by omega, by omega⟩
        · exact Or.inr (Or.inl q.1)
      have start : fX4_parsePart σ = some (ms_st σ1 1 4 (σ1 1 4 + 1)) := by
        unfold fX4_parsePart
        rw [nx, Option.bind_some, ct, if_pos rfl, b1, if_neg (by rw [show (6 : Int32) = nI 6 from rfl, le_nI (by decide) (by omega)]; exact c6), h8, nI_1]
        simp only [ms_lt]
        rw [v4, show nI (tN σ) * 4 = nI (4 * tN σ) by rw [show (4 : Int32) = nI 4 from rfl, pk_mul, Nat.mul_comm], x1, Option.bind_some]
      have FF : Fr Wpx σ (ms_st σ1 1 4 (σ1 1 4 + 1)) := (F8.tr (x2.mo Wt)).st _ (Or.inl ⟨rfl, by decide, by decide⟩)
      have s14 : σ1 1 4 = nI (tN σ) := by rw [x2 1 4 (by simp)]; exact v4
      refine ⟨_, start, FF, ?_⟩
      rcases x3 with ⟨y1, y2, y3, y4, y5, y6, y7, ⟨z1, z2, z3, z4, z5⟩, z6⟩ | ⟨y1, y2⟩
      · right
        refine ⟨by rw [ms_rd, if_neg (by decide)]; exact y2, p + 7 + (if by_ n f (p + 7) = 33 then 1 else 0), by omega, ?_, by rw [ms_rd, if_neg (by decide)]; exact y3, ?_⟩
        · have := by_lt (z6 5 (by decide))
          by_cases c : by_ n f (p + 7) = 33
          · rw [if_pos c]
            have := by_lt2 c (by decide)
            omega
          · rw [if_neg c]; omega
        · have rd3 : ∀ i, ms_st σ1 1 4 (σ1 1 4 + 1) 3 i = σ1 3 i := fun i => by rw [ms_rd, if_neg (by simp)]
          have hd2 : (if by_ n f (p + 1 + 6) = 33 then 1 else 0) < 2 := by split <;> decide
          obtain ⟨w1, w2, w3, w4, w5, w6, w7, w8, w9, w10⟩ := TW_thing (σ2 := ms_st σ1 1 4 (σ1 1 4 + 1)) hT (by omega) (by rw [ms_rd, if_pos (by decide), s14, nI_1]) (by rw [ms_rd, if_neg (by decide), x2 1 5 (by simp), v5, b3]) (by rw [ms_rd, if_neg (by decide), x2 1 6 (by simp), v6, b5]) (fun i => by rw [ms_rd, if_neg (by simp), x2 4 i (by simp), ms_rd, if_neg (by simp)]) (fun i hi => by rw [rd3, x2 3 i (by simp; omega), ms_rd, if_neg (by simp)]) ((rd3 _).trans y4) ((rd3 _).trans y5) ((rd3 _).trans y6) ((rd3 _).trans y7) ⟨z1, z2⟩ (by omega) ⟨z4, z5⟩ hd2
          refine ⟨w1, τ', fun K => ?_, kF, ?_⟩
          · rw [k1 K, y1, en_m1]
          · have g : ∀ k i, (k = 0 → i ≠ 3) → (3 ≤ k → k ≤ 6 → i ≠ tN σ) → τ' k i = τ k i := fun k i q1 q2 => k2 k i (fun q => by
              rcases q with q | q
              · exact q1 q.1 q.2
              · exact q2 q.1 q.2.1 q.2.2)
            refine ⟨by rw [k3, w2], by rw [g 0 11 (fun _ => by decide) (fun q => by omega), w3]; exact hR.2.1, by rw [g 0 10 (fun _ => by decide) (fun q => by omega), w4]; exact hR.2.2.1, fun t ht => ?_, fun gg hg => ?_⟩
            · rcases Nat.lt_or_ge t (tN σ) with q | q
              · obtain ⟨u1, u2, u3, u4⟩ := hR.2.2.2.1 t q
                rw [g 3 t (fun z => by omega) (fun _ _ => by omega), g 4 t (fun z => by omega) (fun _ _ => by omega), g 5 t (fun z => by omega) (fun _ _ => by omega), g 6 t (fun z => by omega) (fun _ _ => by omega), w5 t q 0 (by decide), w5 t q 1 (by decide), w5 t q 2 (by decide), w5 t q 3 (by decide)]
                exact ⟨u1, u2, u3, u4⟩
              · obtain rfl : t = tN σ := by omega
                rw [w7, w8, w9, w10, k4, k5, k6, k7]
                exact ⟨num_v (z6 0 (by decide)) (z6 1 (by decide)), num_v (z6 2 (by decide)) (z6 3 (by decide)), num_v (z6 4 (by decide)) (z6 5 (by decide)), rfl⟩
            · obtain ⟨u1, u2, u3, u4, u5, u6⟩ := hR.2.2.2.2 gg (by omega)
              simp only [w6]
              rw [g 9 gg (fun z => by omega) (fun _ _ => by omega), g 10 gg (fun z => by omega) (fun _ _ => by omega), g 11 (2 * gg) (fun z => by omega) (fun _ _ => by omega), g 11 (2 * gg + 1) (fun z => by omega) (fun _ _ => by omega), g 12 (2 * gg) (fun z => by omega) (fun _ _ => by omega), g 12 (2 * gg + 1) (fun z => by omega) (fun _ _ => by omega)]
              exact ⟨u1, u2, u3, u4, u5, u6⟩
      · left
        have hwb : wT (Dg n f) (p + 1) < 902 := by
          have h1 := w2_b (a := Dg n f (p + 1)) (b := Dg n f (p + 1 + 1)) (k := p + 1) (lo := 1) (hi := 40) (by omega)
          have h2 := w2_b (a := Dg n f (p + 1 + 2)) (b := Dg n f (p + 1 + 3)) (k := p + 1 + 2) (lo := 0) (hi := 23) (by omega)
          have h3 := w2_b (a := Dg n f (p + 1 + 4)) (b := Dg n f (p + 1 + 5)) (k := p + 1 + 4) (lo := 1) (hi := 24) (by omega)
          have h4 := f2_b h2.1 h3.1 h2.2 h3.2
          exact (f2_b h1.1 h4.1 h1.2 h4.2).2 y1
        refine ⟨wT (Dg n f) (p + 1), by omega, by rw [ms_rd, if_neg (by decide)]; exact y2, τ', fun K => ?_, kF⟩
        rw [k1 K, en_n y1]
        unfold fX8_reads_386
        rw [if_neg (m1_ne (by omega))]
  · by_cases ch : by_ n f p = 104
    · obtain ⟨τ', k1, k2, k3⟩ := m29H hm (p := p) (by omega) ch hR.2.2.1 b6
      have kF : Fr Wpm τ τ' := k2.mo fun k i q => Or.inl ⟨q.1, Or.inr (Or.inl q.2)⟩
      obtain ⟨σ1, x1, x2, x3⟩ := handX T8 (k := p + 1) (by omega) v8 v7 v6 b6
      have start : fX4_parsePart σ = some σ1 := by
        unfold fX4_parsePart
        rw [nx, Option.bind_some, ch, if_neg (by decide)]
        unfold fX4_parsePart_53
        rw [if_pos rfl, h8, nI_1]
        simp only [ms_lt]
        rw [x1, Option.bind_some]
      have FF : Fr Wpx σ σ1 := F8.tr (x2.mo fun k i q => Or.inl ⟨q.1, by omega, by omega⟩)
      refine ⟨_, start, FF, ?_⟩
      rcases x3 with ⟨y1, y2, y3, y4, y5, y6⟩ | ⟨y1, y2⟩
      · right
        obtain ⟨o1, o2⟩ := or_hand (hB σ) b6 (Dg n f (p + 1)) (by omega)
        have s6 : σ1 1 6 = nI (hB σ ||| 2 ^ Dg n f (p + 1)) := by rw [y4, o1]
        have e6 : hB σ1 = hB σ ||| 2 ^ Dg n f (p + 1) := by show ms_ix (σ1 1 6) = _; rw [s6, ix_nI (by omega)]
        have f4 : σ1 1 4 = σ 1 4 := by rw [x2 1 4 (by simp), v4, b1]
        have f5 : σ1 1 5 = σ 1 5 := by rw [x2 1 5 (by simp), v5, b3]
        have f3 : ∀ i, σ1 3 i = σ 3 i := fun i => by rw [x2 3 i (by simp), ms_rd, if_neg (by simp)]
        have f44 : ∀ i, σ1 4 i = σ 4 i := fun i => by rw [x2 4 i (by simp), ms_rd, if_neg (by simp)]
        have t1 : tN σ1 = tN σ := by unfold tN; rw [f4]
        have t2 : gN σ1 = gN σ := by unfold gN; rw [f5]
        have t3 : ∀ t j, td σ1 t j = td σ t j := fun t j => by unfold td; rw [f3]
        have t4 : ∀ t j, gd σ1 t j = gd σ t j := fun t j => by unfold gd; rw [f44]
        refine ⟨y2, p + 2, by omega, ?_, y3, ?_, τ', fun K => by rw [k1 K, y1, en_m1], kF, ?_⟩
        · have := by_lt (n := n) (f := f) (p := p + 1) (by show Dg n f (p + 1) < 10; omega)
          omega
        · unfold TW
          simp only [t1, t2, t3, t4, e6, f4, f5, s6, f3, f44]
          exact ⟨b1, b2, b3, b4, trivial, o2, b7, b8⟩
        · have g : ∀ k i, ¬ (k = 0 ∧ i = 10) → τ' k i = τ k i := fun k i q => k2 k i q
          unfold TR
          simp only [t1, t2, t3, t4, e6]
          rw [g 0 3 (by simp), g 0 11 (by simp), k3 y1, o1]
          simp only [g 3 _ (by simp), g 4 _ (by simp), g 5 _ (by simp), g 6 _ (by simp), g 9 _ (by simp), g 10 _ (by simp), g 11 _ (by simp), g 12 _ (by simp)]
          exact ⟨hR.1, hR.2.1, trivial, hR.2.2.2.1, hR.2.2.2.2⟩
      · left
        have hwb : wH (Dg n f) (hB σ) (p + 1) < 902 := by
          have h1 := w1_b (a := Dg n f (p + 1)) (k := p + 1) (hi := 8) (by omega)
          have h2 : (if bt (hB σ) (Dg n f (p + 1)) = 1 then p + 1 else 1000) ≤ 1000 ∧ ((if bt (hB σ) (Dg n f (p + 1)) = 1 then p + 1 else 1000) ≠ 1000 → (if bt (hB σ) (Dg n f (p + 1)) = 1 then p + 1 else 1000) < 902) := by split <;> omega
          exact (f2_b h1.1 h2.1 h1.2 h2.2).2 y1
        refine ⟨wH (Dg n f) (hB σ) (p + 1), by omega, y2, τ', fun K => ?_, kF⟩
        rw [k1 K, en_n y1]
        unfold fX8_reads_386
        rw [if_neg (m1_ne (by omega))]
    · by_cases cg : by_ n f p = 103
      · by_cases c8 : 8 ≤ gN σ
        · refine ⟨_, bad _ ?_ (fun K => ?_) e125⟩
          · unfold fX4_parsePart
            rw [nx, Option.bind_some, cg, if_neg (by decide)]
            unfold fX4_parsePart_53
            rw [if_neg (by decide), if_pos rfl, b3, if_pos (by rw [show (8 : Int32) = nI 8 from rfl, le_nI (by decide) (by omega)]; exact c8)]
          · unfold fX8_reads_29
            rw [byteM hm (by omega), Option.bind_some, cg, if_neg (by decide)]
            unfold fX8_reads_175
            rw [if_neg (by decide), if_pos rfl, hR.2.1, if_pos (by rw [show (8 : Int32) = nI 8 from rfl, le_nI (by decide) (by omega)]; exact c8)]
        · obtain ⟨τ', k1, k2, k3, k4, k5, k6, k7, k8, k9⟩ := m29G hm (p := p) (by omega) cg hR.2.1 (by omega)
          have kF : Fr Wpm τ τ' := k2.mo fun k i q => by
            rcases q with q | q | q
            · exact Or.inl ⟨q.1, Or.inr (Or.inr q.2)⟩
            · exact Or.inr (Or.inr ⟨q.1, by omega⟩)
            · exact Or.inr (Or.inr ⟨by omega, q.2.1⟩)
          obtain ⟨σ1, x1, x2, x3⟩ := groupX T8 (k := p + 1) (by omega) v8 v7 (g := gN σ) (by omega)
          have Wt : ∀ k i, Wgr (gN σ) k i → Wpx k i := fun k i q => by
            rcases q with q | q
            · exact Or.inl ⟨q.1, by omega, by omega⟩
            · exact Or.inr (Or.inr q.1)
          have start : fX4_parsePart σ = some (ms_st σ1 1 5 (σ1 1 5 + 1)) := by
            unfold fX4_parsePart
            rw [nx, Option.bind_some, cg, if_neg (by decide)]
            unfold fX4_parsePart_53
            rw [if_neg (by decide), if_pos rfl, b3, if_neg (by rw [show (8 : Int32) = nI 8 from rfl, le_nI (by decide) (by omega)]; exact c8), h8, nI_1]
            simp only [ms_lt]
            rw [v5, show nI (gN σ) * 6 = nI (6 * gN σ) by rw [show (6 : Int32) = nI 6 from rfl, pk_mul, Nat.mul_comm], x1, Option.bind_some]
          have FF : Fr Wpx σ (ms_st σ1 1 5 (σ1 1 5 + 1)) := (F8.tr (x2.mo Wt)).st _ (Or.inl ⟨rfl, by decide, by decide⟩)
          have s15 : σ1 1 5 = nI (gN σ) := by rw [x2 1 5 (by simp)]; exact v5
          refine ⟨_, start, FF, ?_⟩
          rcases x3 with ⟨y1, y2, y3, y4, y5, y6, y7, y8, y9, ⟨z1, z2, z3, z4, z5, z6, z7⟩, zD⟩ | ⟨y1, y2⟩
          · right
            refine ⟨by rw [ms_rd, if_neg (by decide)]; exact y2, p + 9, by omega, ?_, by rw [ms_rd, if_neg (by decide)]; exact y3, ?_⟩
            · have := by_lt (zD 7 (by decide))
              omega
            · have rd4 : ∀ i, ms_st σ1 1 5 (σ1 1 5 + 1) 4 i = σ1 4 i := fun i => by rw [ms_rd, if_neg (by simp)]
              obtain ⟨w1, w2, w3, w4, w5, w6, w7⟩ := TW_group (σ2 := ms_st σ1 1 5 (σ1 1 5 + 1)) hT (by omega) (by rw [ms_rd, if_neg (by decide), x2 1 4 (by simp), v4, b1]) (by rw [ms_rd, if_pos (by decide), s15, nI_1]) (by rw [ms_rd, if_neg (by decide), x2 1 6 (by simp), v6, b5]) (fun i => by rw [ms_rd, if_neg (by simp), x2 3 i (by simp), ms_rd, if_neg (by simp)]) (fun i hi => by rw [rd4, x2 4 i (by simp; omega), ms_rd, if_neg (by simp)]) (r := fun j => match j with | 0 => 10 * Dg n f (p + 1) + Dg n f (p + 1 + 1) | 1 => 10 * Dg n f (p + 1 + 2) + Dg n f (p + 1 + 3) | 2 => Dg n f (p + 1 + 4) | 3 => Dg n f (p + 1 + 5) | 4 => Dg n f (p + 1 + 6) | _ => Dg n f (p + 1 + 7)) (fun j hj => by
                rcases (show j = 0 ∨ j = 1 ∨ j = 2 ∨ j = 3 ∨ j = 4 ∨ j = 5 by omega) with rfl | rfl | rfl | rfl | rfl | rfl
                · exact ⟨(rd4 _).trans y4, z2⟩
                · exact ⟨(rd4 _).trans y5, by show 10 * Dg n f (p + 1 + 2) + Dg n f (p + 1 + 3) ≤ 99; omega⟩
                · exact ⟨(rd4 _).trans y6, by show Dg n f (p + 1 + 4) ≤ 99; omega⟩
                · exact ⟨(rd4 _).trans y7, by show Dg n f (p + 1 + 5) ≤ 99; omega⟩
                · exact ⟨(rd4 _).trans y8, by show Dg n f (p + 1 + 6) ≤ 99; omega⟩
                · exact ⟨(rd4 _).trans y9, by show Dg n f (p + 1 + 7) ≤ 99; omega⟩) (by show 10 * Dg n f (p + 1 + 2) + Dg n f (p + 1 + 3) < 24; omega) z4 z5 z6 z7
              refine ⟨w1, τ', fun K => ?_, kF, ?_⟩
              · rw [k1 K, y1, en_m1]
              · have g : ∀ k i, (k = 0 → i ≠ 11) → (9 ≤ k → k ≤ 10 → i ≠ gN σ) → (11 ≤ k → k ≤ 12 → ¬ (2 * gN σ ≤ i ∧ i < 2 * gN σ + 2)) → τ' k i = τ k i := fun k i q1 q2 q3 => k2 k i (fun q => by
                  rcases q with q | q | q
                  · exact q1 q.1 q.2
                  · exact q2 q.1 q.2.1 q.2.2
                  · exact q3 q.1 q.2.1 q.2.2)
                have fz : ∀ j, j < 8 → fv (Dg n f (p + 1 + j)) = nI (Dg n f (p + 1 + j)) := fun j hj => by
                  have := zD j hj
                  unfold fv; rw [if_neg (by omega)]
                refine ⟨by rw [g 0 3 (fun _ => by decide) (fun q => by omega) (fun q => by omega), w2]; exact hR.1, by rw [k3, w3], by rw [g 0 10 (fun _ => by decide) (fun q => by omega) (fun q => by omega), w4]; exact hR.2.2.1, fun t ht => ?_, fun gg hg => ?_⟩
                · obtain ⟨u1, u2, u3, u4⟩ := hR.2.2.2.1 t (by omega)
                  simp only [w5]
                  rw [g 3 t (fun z => by omega) (fun _ _ => by omega) (fun _ _ => by omega), g 4 t (fun z => by omega) (fun _ _ => by omega) (fun _ _ => by omega), g 5 t (fun z => by omega) (fun _ _ => by omega) (fun _ _ => by omega), g 6 t (fun z => by omega) (fun _ _ => by omega) (fun _ _ => by omega)]
                  exact ⟨u1, u2, u3, u4⟩
                · rcases Nat.lt_or_ge gg (gN σ) with q | q
                  · obtain ⟨u1, u2, u3, u4, u5, u6⟩ := hR.2.2.2.2 gg q
                    rw [w6 gg q 0 (by decide), w6 gg q 1 (by decide), w6 gg q 2 (by decide), w6 gg q 3 (by decide), w6 gg q 4 (by decide), w6 gg q 5 (by decide), g 9 gg (fun z => by omega) (fun _ _ => by omega) (fun _ _ => by omega), g 10 gg (fun z => by omega) (fun _ _ => by omega) (fun _ _ => by omega), g 11 (2 * gg) (fun z => by omega) (fun _ _ => by omega) (fun _ _ => by omega), g 11 (2 * gg + 1) (fun z => by omega) (fun _ _ => by omega) (fun _ _ => by omega), g 12 (2 * gg) (fun z => by omega) (fun _ _ => by omega) (fun _ _ => by omega), g 12 (2 * gg + 1) (fun z => by omega) (fun _ _ => by omega) (fun _ _ => by omega)]
                    exact ⟨u1, u2, u3, u4, u5, u6⟩
                  · obtain rfl : gg = gN σ := by omega
                    rw [w7 0 (by decide), w7 1 (by decide), w7 2 (by decide), w7 3 (by decide), w7 4 (by decide), w7 5 (by decide), k4, k5, k6, k7, k8, k9]
                    exact ⟨num_v (zD 0 (by decide)) (zD 1 (by decide)), num_v (zD 2 (by decide)) (zD 3 (by decide)), fz 4 (by decide), fz 5 (by decide), fz 6 (by decide), fz 7 (by decide)⟩
          · left
            have hwb : wG (Dg n f) (p + 1) < 902 := by
              have h1 := w2_b (a := Dg n f (p + 1)) (b := Dg n f (p + 1 + 1)) (k := p + 1) (lo := 1) (hi := 99) (by omega)
              have h2 := w2_b (a := Dg n f (p + 1 + 2)) (b := Dg n f (p + 1 + 3)) (k := p + 1 + 2) (lo := 0) (hi := 23) (by omega)
              have h3 := w1_b (a := Dg n f (p + 1 + 4)) (k := p + 1 + 4) (hi := 8) (by omega)
              have h4 := w1_b (a := Dg n f (p + 1 + 5)) (k := p + 1 + 5) (hi := 8) (by omega)
              have h5 : (if Dg n f (p + 1 + 4) = Dg n f (p + 1 + 5) then p + 1 + 5 else 1000) ≤ 1000 ∧ ((if Dg n f (p + 1 + 4) = Dg n f (p + 1 + 5) then p + 1 + 5 else 1000) ≠ 1000 → (if Dg n f (p + 1 + 4) = Dg n f (p + 1 + 5) then p + 1 + 5 else 1000) < 902) := by split <;> omega
              have h6 := w1_b (a := Dg n f (p + 1 + 6)) (k := p + 1 + 6) (hi := 9) (by omega)
              have h7 := w1_b (a := Dg n f (p + 1 + 7)) (k := p + 1 + 7) (hi := 9) (by omega)
              have i6 := f2_b h6.1 h7.1 h6.2 h7.2
              have i5 := f2_b h5.1 i6.1 h5.2 i6.2
              have i4 := f2_b h4.1 i5.1 h4.2 i5.2
              have i3 := f2_b h3.1 i4.1 h3.2 i4.2
              have i2 := f2_b h2.1 i3.1 h2.2 i3.2
              exact (f2_b h1.1 i2.1 h1.2 i2.2).2 y1
            refine ⟨wG (Dg n f) (p + 1), by omega, by rw [ms_rd, if_neg (by decide)]; exact y2, τ', fun K => ?_, kF⟩
            rw [k1 K, en_n y1]
            unfold fX8_reads_386
            rw [if_neg (m1_ne (by omega))]
      · refine ⟨_, bad _ ?_ (fun K => ?_) e125⟩
        · unfold fX4_parsePart
          rw [nx, Option.bind_some, if_neg ct]
          unfold fX4_parsePart_53
          rw [if_neg ch, if_neg cg]
        · unfold fX8_reads_29
          rw [byteM hm (by omega), Option.bind_some, if_neg ct]
          unfold fX8_reads_175
          rw [if_neg ch, if_neg cg]
