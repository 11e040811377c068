/-! ===== the whole town, read by both ===== -/
/-- the end of a text with a fault: no parts -/
theorem endF {σ : Mm} {w : Nat} (hw : w < 1000) (h7 : σ 1 7 = nI w) : ∃ σ', fX4_parse_96 σ = some σ' ∧ σ' 1 7 = nI w ∧ Fr Wpx σ σ' ∧ σ' 1 4 = 0 ∧ σ' 1 5 = 0 ∧ σ' 1 6 = 0 := by
  unfold fX4_parse_96 fX4_forgetParts
  rw [if_neg (by rw [h7]; exact m1_ne (by omega))]
  simp only [ms_lt, Option.bind_some]
  refine ⟨_, rfl, ?_, ((Fr.rf.st _ (Or.inl ⟨rfl, by decide, by decide⟩)).st _ (Or.inl ⟨rfl, by decide, by decide⟩)).st _ (Or.inl ⟨rfl, by decide, by decide⟩), ?_, ?_, ?_⟩
  · simp only [ms_rd]; simp; exact h7
  · simp only [ms_rd]; simp
  · simp only [ms_rd]; simp
  · simp only [ms_rd]; simp
theorem p29_0 (k : Nat) (y : Nat) (hy : y < 1000) (σ : Mm) : fX4_parse_29 (k + 1) 0 (nI y) σ = fX4_parse_96 σ := by
  rw [fX4_parse_29]
  by_cases c : (100 : Int32) ≤ nI y
  · rw [if_pos c]
  · rw [if_neg c, if_pos rfl]
theorem psim {n : Nat} {f : Nat → Int32} : ∀ (d p : Nat), p + d = n → ∀ (kx km part : Nat), d + 3 < kx → d + 3 < km → ∀ σ τ : Mm, TXc σ n f → TXm τ n f → TW σ → TR σ τ (hB σ) → σ 1 7 = -1 → σ 1 8 = nI p → 3 * part ≤ p → (p < n ∨ 0 < p) →
    ∃ (σ' τ' : Mm) (r : Int32), fX4_parse_29 kx 1 (nI part) σ = some σ' ∧ fX8_reads_17 km (nI p) τ = some (r, τ') ∧ σ' 1 7 = r ∧ Fr Wpx σ σ' ∧ Fr Wpm τ τ' ∧ ((r = -1 ∧ TW σ' ∧ TR σ' τ' (hB σ')) ∨ (¬ r = -1 ∧ σ' 1 4 = 0 ∧ σ' 1 5 = 0 ∧ σ' 1 6 = 0)) := by
  intro d
  induction d using Nat.strongRecOn with
  | _ d ih =>
    intro p hd kx km part hkx hkm σ τ hc hm hT hR h7 h8 hpart hpos
    have hn := hc.2.1
    obtain ⟨kx, rfl⟩ : ∃ z, kx = z + 1 := ⟨kx - 1, by omega⟩
    obtain ⟨km, rfl⟩ : ∃ z, km = z + 1 := ⟨km - 1, by omega⟩
    obtain ⟨σ2, s1, s2, s3⟩ := pstep hc hm hT hR h7 h8 (by omega)
    have hhead : fX8_reads_17 (km + 1) (nI p) τ = fX8_reads_29 (fX8_reads_17 km) (nI p) τ := by
      rw [fX8_reads_17, hm.1]
      by_cases c : p < n
      · rw [if_pos (by rw [lt_nI (by omega) (by omega)]; exact c)]
      · rw [if_neg (by rw [lt_nI (by omega) (by omega)]; exact c), if_neg (by rw [show (0 : Int32) = nI 0 from rfl, le_nI (by omega) (by decide)]; omega)]
    have hstart : fX4_parse_29 (kx + 1) 1 (nI part) σ = (if σ2 1 7 = -1 then (if σ2 1 3 ≤ σ2 1 8 then fX4_parse_66 (fX4_parse_29 kx) (nI part) σ2 else fX4_parse_67 (fX4_parse_29 kx) (nI part) 1 σ2) else fX4_parse_66 (fX4_parse_29 kx) (nI part) σ2) := by
      rw [fX4_parse_29, if_neg (by rw [show (100 : Int32) = nI 100 from rfl, le_nI (by decide) (by omega)]; omega), if_neg (by decide), s1, Option.bind_some]
    have h66 : ∀ σ3, fX4_parse_66 (fX4_parse_29 kx) (nI part) σ3 = fX4_parse_96 σ3 := by
      intro σ3
      obtain ⟨kx, rfl⟩ : ∃ z, kx = z + 1 := ⟨kx - 1, by omega⟩
      unfold fX4_parse_66 fX4_parse_67 fX4_parse_90
      rw [if_pos rfl, nI_1]
      exact p29_0 kx (part + 1) (by omega) σ3
    rw [hhead, hstart]
    have TX2 := hc.fr s2 (by simp) (fun i => by simp)
    rcases s3 with ⟨w, w1, w2, τ', w3, w4⟩ | ⟨w2, q, q1, q2, q3, q4, τ', w3, w4, w5⟩
    · obtain ⟨σ', g1, g2, g3, g4, g5, g6⟩ := endF w1 w2
      rw [if_neg (by rw [w2]; exact m1_ne (by omega)), h66, g1, w3]
      exact ⟨σ', τ', nI w, rfl, rfl, g2, s2.tr g3, w4, Or.inr ⟨m1_ne (by omega), g4, g5, g6⟩⟩
    · rw [if_pos w2, w3, TX2.1, q3, ifle (by omega) (by omega), h66]
      have Tm2 := hm.fr w4 (by simp) (fun i => by simp)
      unfold fX8_reads_386
      rw [if_pos rfl, Tm2.1, ifeq (by omega) (by omega)]
      by_cases ce : q = n
      · rw [if_pos (by omega), if_pos ce]
        refine ⟨σ2, τ', -1, ?_, rfl, w2, s2, w4, Or.inl ⟨rfl, q4, w5⟩⟩
        unfold fX4_parse_96
        rw [if_pos w2]
      · rw [if_neg (by omega), if_neg ce, byteM Tm2 (p := q) (by omega), Option.bind_some]
        unfold fX4_parse_67 fX4_parseBetween
        rw [if_neg (by decide), nextX TX2 (p := q) (by omega) q3, Option.bind_some]
        by_cases c59 : by_ n f q = 59
        · rw [if_pos c59, if_pos c59, q3, nI_1]
          simp only [ms_lt, Option.bind_some]
          have F3 : Fr Wpx σ2 (ms_st σ2 1 8 (nI (q + 1))) := Fr.rf.st _ (Or.inl ⟨rfl, by decide, by decide⟩)
          have f1 : ∀ i, i ≠ 8 → ms_st σ2 1 8 (nI (q + 1)) 1 i = σ2 1 i := fun i hi => by rw [ms_rd, if_neg (fun z => hi z.2)]
          have f3 : ∀ i, ms_st σ2 1 8 (nI (q + 1)) 3 i = σ2 3 i := fun i => by rw [ms_rd, if_neg (by simp)]
          have f4 : ∀ i, ms_st σ2 1 8 (nI (q + 1)) 4 i = σ2 4 i := fun i => by rw [ms_rd, if_neg (by simp)]
          have t1 : tN (ms_st σ2 1 8 (nI (q + 1))) = tN σ2 := by unfold tN; rw [f1 4 (by decide)]
          have t2 : gN (ms_st σ2 1 8 (nI (q + 1))) = gN σ2 := by unfold gN; rw [f1 5 (by decide)]
          have t6 : hB (ms_st σ2 1 8 (nI (q + 1))) = hB σ2 := by unfold hB; rw [f1 6 (by decide)]
          have t3 : ∀ t j, td (ms_st σ2 1 8 (nI (q + 1))) t j = td σ2 t j := fun t j => by unfold td; rw [f3]
          have t4 : ∀ t j, gd (ms_st σ2 1 8 (nI (q + 1))) t j = gd σ2 t j := fun t j => by unfold gd; rw [f4]
          have hT3 : TW (ms_st σ2 1 8 (nI (q + 1))) := by
            unfold TW at q4 ⊢
            simp only [t1, t2, t3, t4, t6, f1 4 (by decide), f1 5 (by decide), f1 6 (by decide), f3, f4]
            exact q4
          have hR3 : TR (ms_st σ2 1 8 (nI (q + 1))) τ' (hB (ms_st σ2 1 8 (nI (q + 1)))) := by
            unfold TR at w5 ⊢
            simp only [t1, t2, t3, t4, t6]
            exact w5
          obtain ⟨σ', τ'', r, e1, e2, e3, e4, e5, e6⟩ := ih (n - (q + 1)) (by omega) (q + 1) (by omega) kx km (part + 1) (by omega) (by omega) (ms_st σ2 1 8 (nI (q + 1))) τ' (TX2.fr F3 (by simp) (fun i => by simp)) Tm2 hT3 hR3 (by rw [f1 7 (by decide)]; exact w2) (by rw [ms_rd, if_pos (by decide)]) (by omega) (Or.inr (by omega))
          rw [if_pos (show ms_st σ2 1 8 (nI (q + 1)) 1 7 = -1 by rw [f1 7 (by decide)]; exact w2)]
          unfold fX4_parse_89 fX4_parse_90
          rw [nI_1]
          exact ⟨σ', τ'', r, e1, e2, e3, (s2.tr F3).tr e4, w4.tr e5, e6⟩
        · rw [if_neg c59, if_neg c59, q3]
          simp only [ms_lt, Option.bind_some]
          have F3 : Fr Wpx σ2 (ms_st σ2 1 7 (nI q)) := Fr.rf.st _ (Or.inl ⟨rfl, by decide, by decide⟩)
          have e2 : ms_st σ2 1 7 (nI q) 1 7 = nI q := by rw [ms_rd, if_pos (by decide)]
          obtain ⟨σ', g1, g2, g3, g4, g5, g6⟩ := endF (show q < 1000 by omega) e2
          refine ⟨σ', τ', nI q, ?_, rfl, g2, (s2.tr F3).tr g3, w4, Or.inr ⟨m1_ne (by omega), g4, g5, g6⟩⟩
          obtain ⟨kx, rfl⟩ : ∃ z, kx = z + 1 := ⟨kx - 1, by omega⟩
          rw [if_neg (show ¬ ms_st σ2 1 7 (nI q) 1 7 = -1 by rw [e2]; exact m1_ne (by omega))]
          unfold fX4_parse_89 fX4_parse_90
          rw [nI_1, p29_0 kx (part + 1) (by omega)]
          exact g1
/-- the class reads the town, the reference reads it, alike -/
theorem parseXM {σ τ : Mm} {n : Nat} {f : Nat → Int32} (hc : TXc σ n f) (hm : TXm τ n f) : ∃ (σ' τ' : Mm), fX4_parse σ = some σ' ∧ fX8_faultNow τ = some (σ' 1 7, τ') ∧ Fr Wpx σ σ' ∧ Fr Wpm τ τ' ∧ TW σ' ∧ TR σ' τ' (hB σ') := by
  have hn := hc.2.1
  generalize hs : ms_st (ms_st (ms_st (ms_st (ms_st σ 1 4 0) 1 5 0) 1 6 0) 1 7 (-1)) 1 8 0 = σ1
  have F1 : Fr Wpx σ σ1 := by
    rw [← hs]
    exact ((((Fr.rf.st _ (Or.inl ⟨rfl, by decide, by decide⟩)).st _ (Or.inl ⟨rfl, by decide, by decide⟩)).st _ (Or.inl ⟨rfl, by decide, by decide⟩)).st _ (Or.inl ⟨rfl, by decide, by decide⟩)).st _ (Or.inl ⟨rfl, by decide, by decide⟩)
  have a3 : σ1 1 3 = nI n := by rw [← hs]; simp only [ms_rd]; simp; exact hc.1
  have a4 : σ1 1 4 = nI 0 := by rw [← hs]; simp only [ms_rd]; simp; rfl
  have a5 : σ1 1 5 = nI 0 := by rw [← hs]; simp only [ms_rd]; simp; rfl
  have a6 : σ1 1 6 = nI 0 := by rw [← hs]; simp only [ms_rd]; simp; rfl
  have a7 : σ1 1 7 = -1 := by rw [← hs]; simp only [ms_rd]; simp
  have a8 : σ1 1 8 = nI 0 := by rw [← hs]; simp only [ms_rd]; simp; rfl
  have z1 : tN σ1 = 0 := by unfold tN; rw [a4]; rfl
  have z2 : gN σ1 = 0 := by unfold gN; rw [a5]; rfl
  have z3 : hB σ1 = 0 := by unfold hB; rw [a6]; rfl
  have hT1 : TW σ1 := ⟨by rw [z1]; exact a4, by omega, by rw [z2]; exact a5, by omega, by rw [z3]; exact a6, by omega, fun t ht => by omega, fun g hg => by omega⟩
  generalize ht : ms_st (ms_st (ms_st τ 0 3 0) 0 10 0) 0 11 0 = τ1
  have G1 : Fr Wpm τ τ1 := by
    rw [← ht]
    exact ((Fr.rf.st _ (Or.inl ⟨rfl, Or.inl rfl⟩)).st _ (Or.inl ⟨rfl, Or.inr (Or.inl rfl)⟩)).st _ (Or.inl ⟨rfl, Or.inr (Or.inr rfl)⟩)
  have hR1 : TR σ1 τ1 (hB σ1) := by
    refine ⟨?_, ?_, ?_, fun t ht => by omega, fun g hg => by omega⟩
    · rw [z1, ← ht]; simp only [ms_rd]; simp; rfl
    · rw [z2, ← ht]; simp only [ms_rd]; simp; rfl
    · rw [z3, ← ht]; simp only [ms_rd]; simp; rfl
  have hparse : fX4_parse σ = if σ1 1 3 ≤ 0 then fX4_parse_26 0 σ1 else fX4_parse_26 1 σ1 := by
    unfold fX4_parse fX4_forgetParts
    simp only [ms_lt, Option.bind_some]
    rw [hs]
  have hreads : fX8_reads τ = fX8_reads_17 ms_fu (nI 0) τ1 := by
    unfold fX8_reads
    simp only [ms_lt]
    rw [ht]; rfl
  have fin : ∀ (σ' τ' : Mm) (r : Int32), fX4_parse σ = some σ' → fX8_reads τ = some (r, τ') → σ' 1 7 = r → Fr Wpx σ1 σ' → Fr Wpm τ1 τ' → ((r = -1 ∧ TW σ' ∧ TR σ' τ' (hB σ')) ∨ (¬ r = -1 ∧ σ' 1 4 = 0 ∧ σ' 1 5 = 0 ∧ σ' 1 6 = 0)) → ∃ (σ' τ' : Mm), fX4_parse σ = some σ' ∧ fX8_faultNow τ = some (σ' 1 7, τ') ∧ Fr Wpx σ σ' ∧ Fr Wpm τ τ' ∧ TW σ' ∧ TR σ' τ' (hB σ') := by
    intro σ' τ' r e1 e2 e3 e4 e5 e6
    rcases e6 with ⟨e6, e7, e8⟩ | ⟨e6, e7, e8, e9⟩
    · refine ⟨σ', τ', e1, ?_, F1.tr e4, G1.tr e5, e7, e8⟩
      unfold fX8_faultNow
      rw [e2, Option.bind_some]
      simp only
      rw [if_pos e6, e3]
    · have y1 : tN σ' = 0 := by unfold tN; rw [e7]; rfl
      have y2 : gN σ' = 0 := by unfold gN; rw [e8]; rfl
      have y3 : hB σ' = 0 := by unfold hB; rw [e9]; rfl
      refine ⟨σ', ms_st (ms_st (ms_st τ' 0 3 0) 0 10 0) 0 11 0, e1, ?_, F1.tr e4, (((G1.tr e5).st _ (Or.inl ⟨rfl, Or.inl rfl⟩)).st _ (Or.inl ⟨rfl, Or.inr (Or.inl rfl)⟩)).st _ (Or.inl ⟨rfl, Or.inr (Or.inr rfl)⟩), ⟨by rw [y1]; exact e7, by omega, by rw [y2]; exact e8, by omega, by rw [y3]; exact e9, by omega, fun t ht => by omega, fun g hg => by omega⟩, ?_, ?_, ?_, fun t ht => by omega, fun g hg => by omega⟩
      · unfold fX8_faultNow
        rw [e2, Option.bind_some]
        simp only
        rw [if_neg e6, e3]; rfl
      · rw [y1]; simp only [ms_rd]; simp; rfl
      · rw [y2]; simp only [ms_rd]; simp; rfl
      · rw [y3]; simp only [ms_rd]; simp; rfl
  have TX1 := hc.fr F1 (by simp) (fun i => by simp)
  have Tm1 := hm.fr G1 (by simp) (fun i => by simp)
  by_cases c0 : n = 0
  · refine fin σ1 τ1 (-1) ?_ ?_ a7 Fr.rf Fr.rf (Or.inl ⟨rfl, hT1, hR1⟩)
    · rw [hparse, a3, c0, if_pos (show nI 0 ≤ (0 : Int32) by decide)]
      unfold fX4_parse_26
      rw [show ms_fu = 19999 + 1 from rfl]
      have e := p29_0 19999 0 (by decide) σ1
      rw [show (0 : Int32) = nI 0 from rfl] at e ⊢
      rw [e]
      unfold fX4_parse_96
      rw [if_pos a7]
    · rw [hreads, show ms_fu = 19999 + 1 from rfl, fX8_reads_17, Tm1.1, c0, if_neg (by decide), if_pos (by decide)]
  · obtain ⟨σ', τ', r, e1, e2, e3, e4, e5, e6⟩ := psim n 0 (by omega) ms_fu ms_fu 0 (fu_lt (by omega)) (fu_lt (by omega)) σ1 τ1 TX1 Tm1 hT1 hR1 a7 a8 (by omega) (Or.inl (by omega))
    refine fin σ' τ' r ?_ (hreads.trans e2) e3 e4 e5 e6
    rw [hparse, a3, if_neg (by rw [show (0 : Int32) = nI 0 from rfl, le_nI (by omega) (by decide)]; omega)]
    exact e1
