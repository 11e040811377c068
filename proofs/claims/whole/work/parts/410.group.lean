/-! ===== a group, as the class reads it ===== -/
theorem groupS {σ : Mm} (h7 : ¬ σ 1 7 = -1) {g : Nat} (hg : g < 8) : ∃ σ', fX4_parseGroup (nI (6 * g)) σ = some σ' ∧ Fr (fun a b => a = 4 ∧ 6 * g ≤ b ∧ b < 6 * g + 6) σ σ' := by
  obtain ⟨j0, j1, j2, j3, j4, j5⟩ := group_ix g
  have r1 : ∀ (τ : Mm) (i j : Nat) (v : Int32), ms_st τ 4 i v 1 j = τ 1 j := fun τ i j v => by rw [ms_rd, if_neg (by simp)]
  have stk : ∀ (τ : Mm) (i : Nat) (v : Int32), ¬ τ 1 7 = -1 → ¬ ms_st τ 4 i v 1 7 = -1 := fun τ i v q => by rw [r1]; exact q
  have F : Fr (fun a b => a = 4 ∧ 6 * g ≤ b ∧ b < 6 * g + 6) σ σ := Fr.rf
  unfold fX4_parseGroup
  rw [j0, j1, j2, j3]
  obtain ⟨v1, q1⟩ := twoS h7 1 99
  rw [q1, Option.bind_some]
  simp only
  rw [ms_g_t (in_nI (show 6 * g < 48 by omega) (by decide)), ix_nI (show 6 * g < 2147483648 by omega)]
  simp only [ms_lt]
  obtain ⟨v2, q2⟩ := twoS (stk σ (6 * g) v1 h7) 0 23
  rw [q2, Option.bind_some]
  simp only
  rw [ms_g_t (in_nI (show 6 * g + 1 < 48 by omega) (by decide)), ix_nI (show 6 * g + 1 < 2147483648 by omega), oneS (stk _ _ _ (stk _ _ _ h7)), Option.bind_some]
  simp only
  rw [ms_g_t (in_nI (show 6 * g + 2 < 48 by omega) (by decide)), ix_nI (show 6 * g + 2 < 2147483648 by omega), oneS (stk _ _ _ (stk _ _ _ (stk _ _ _ h7))), Option.bind_some]
  simp only
  rw [ms_g_t (in_nI (show 6 * g + 3 < 48 by omega) (by decide)), ix_nI (show 6 * g + 3 < 2147483648 by omega), if_neg (stk _ _ _ (stk _ _ _ (stk _ _ _ (stk _ _ _ h7))))]
  obtain ⟨σ', p1, p2⟩ := group98S (stk _ (6 * g + 3) 0 (stk _ (6 * g + 2) 0 (stk _ (6 * g + 1) v2 (stk σ (6 * g) v1 h7)))) hg
  exact ⟨σ', p1, ((((F.st _ ⟨rfl, by omega, by omega⟩).st _ ⟨rfl, by omega, by omega⟩).st _ ⟨rfl, by omega, by omega⟩).st _ ⟨rfl, by omega, by omega⟩).tr p2⟩
theorem groupX {σ : Mm} {n k : Nat} {f : Nat → Int32} (h : TXc σ n f) (hk : k < 200) (h8 : σ 1 8 = nI k) (h7 : σ 1 7 = -1) {g : Nat} (hg : g < 8) : ∃ σ', fX4_parseGroup (nI (6 * g)) σ = some σ' ∧ Fr (Wgr g) σ σ' ∧
    ((wG (Dg n f) k = 1000 ∧ σ' 1 7 = -1 ∧ σ' 1 8 = nI (k + 8) ∧ σ' 4 (6 * g) = nI (10 * Dg n f k + Dg n f (k + 1)) ∧ σ' 4 (6 * g + 1) = nI (10 * Dg n f (k + 2) + Dg n f (k + 3)) ∧ σ' 4 (6 * g + 2) = nI (Dg n f (k + 4)) ∧ σ' 4 (6 * g + 3) = nI (Dg n f (k + 5)) ∧ σ' 4 (6 * g + 4) = nI (Dg n f (k + 6)) ∧ σ' 4 (6 * g + 5) = nI (Dg n f (k + 7)) ∧
      (1 ≤ 10 * Dg n f k + Dg n f (k + 1) ∧ 10 * Dg n f k + Dg n f (k + 1) ≤ 99 ∧ 10 * Dg n f (k + 2) + Dg n f (k + 3) ≤ 23 ∧ Dg n f (k + 4) ≤ 8 ∧ Dg n f (k + 5) ≤ 8 ∧ Dg n f (k + 6) ≤ 9 ∧ Dg n f (k + 7) ≤ 9) ∧ (∀ j, j < 8 → Dg n f (k + j) < 10)) ∨ (wG (Dg n f) k ≠ 1000 ∧ σ' 1 7 = nI (wG (Dg n f) k))) := by
  obtain ⟨j0, j1, j2, j3, j4, j5⟩ := group_ix g
  have r1 : ∀ (τ : Mm) (i j : Nat) (v : Int32), ms_st τ 4 i v 1 j = τ 1 j := fun τ i j v => by rw [ms_rd, if_neg (by simp)]
  have stk : ∀ (τ : Mm) (i : Nat) (v : Int32), ¬ τ 1 7 = -1 → ¬ ms_st τ 4 i v 1 7 = -1 := fun τ i v q => by rw [r1]; exact q
  have Wa : ∀ a b, Wat a b → Wgr g a b := fun a b q => Or.inl q
  have Wr : ∀ j, j < 6 → Wgr g 4 (6 * g + j) := fun j hj => Or.inr ⟨rfl, by omega, by omega⟩
  have W4 : ∀ a b, (a = 4 ∧ 6 * g ≤ b ∧ b < 6 * g + 6) → Wgr g a b := fun a b q => Or.inr q
  have W5 : ∀ a b, ((a = 1 ∧ (b = 7 ∨ b = 8)) ∨ (a = 4 ∧ 6 * g + 4 ≤ b ∧ b < 6 * g + 6)) → Wgr g a b := fun a b q => by
    rcases q with q | q
    · exact Or.inl q
    · exact Or.inr ⟨q.1, by omega, q.2.2⟩
  unfold fX4_parseGroup
  rw [j0, j1, j2, j3]
  obtain ⟨v0, σa0, x0, y0, z0⟩ := twoX h (k := k) (by omega) h8 h7 (lo := 1) (hi := 99) (by decide) (by decide)
  rw [show fX4_twoFigures 1 99 σ = some (v0, σa0) from x0, Option.bind_some]
  simp only
  rw [ms_g_t (in_nI (show 6 * g < 48 by omega) (by decide)), ix_nI (show 6 * g < 2147483648 by omega)]
  simp only [ms_lt]
  generalize hs0 : ms_st σa0 4 (6 * g) v0 = σb0
  have F0 : Fr (Wgr g) σ σb0 := by rw [← hs0]; exact (Fr.tr (Fr.rf) (y0.mo Wa)).st _ (Wr 0 (by decide))
  have T0 : TXc σb0 n f := h.fr F0 (by simp) (fun i => by simp)
  have p70 : σb0 1 7 = σa0 1 7 := by rw [← hs0]; exact r1 _ _ _ _
  have p80 : σb0 1 8 = σa0 1 8 := by rw [← hs0]; exact r1 _ _ _ _
  have e0_0 : σb0 4 (6 * g) = v0 := by rw [← hs0, ms_rd, if_pos (by simp)]
  by_cases wc0 : w2 (Dg n f k) (Dg n f (k + 1)) k 1 99 = 1000
  · obtain ⟨ve0, lo0, hi0, da0, db0, c70, c80⟩ : v0 = nI (10 * Dg n f k + Dg n f (k + 1)) ∧ 1 ≤ 10 * Dg n f k + Dg n f (k + 1) ∧ 10 * Dg n f k + Dg n f (k + 1) ≤ 99 ∧ Dg n f k < 10 ∧ Dg n f (k + 1) < 10 ∧ σa0 1 7 = -1 ∧ σa0 1 8 = nI (k + 2) := by
      rcases z0 with ⟨-, q⟩ | ⟨q, -⟩
      · exact q
      · exact absurd wc0 q
    obtain ⟨v1, σa1, x1, y1, z1⟩ := twoX T0 (k := k + 2) (by omega) (by rw [p80]; exact c80) (by rw [p70]; exact c70) (lo := 0) (hi := 23) (by decide) (by decide)
    rw [show fX4_twoFigures 0 23 σb0 = some (v1, σa1) from x1, Option.bind_some]
    simp only
    rw [ms_g_t (in_nI (show 6 * g + 1 < 48 by omega) (by decide)), ix_nI (show 6 * g + 1 < 2147483648 by omega)]
    generalize hs1 : ms_st σa1 4 (6 * g + 1) v1 = σb1
    have F1 : Fr (Wgr g) σ σb1 := by rw [← hs1]; exact (Fr.tr (F0) (y1.mo Wa)).st _ (Wr 1 (by decide))
    have T1 : TXc σb1 n f := h.fr F1 (by simp) (fun i => by simp)
    have p71 : σb1 1 7 = σa1 1 7 := by rw [← hs1]; exact r1 _ _ _ _
    have p81 : σb1 1 8 = σa1 1 8 := by rw [← hs1]; exact r1 _ _ _ _
    have e1_1 : σb1 4 (6 * g + 1) = v1 := by rw [← hs1, ms_rd, if_pos (by simp)]
    have e0_1 : σb1 4 (6 * g) = v0 := by rw [← hs1, ms_rd, if_neg (by simp), y1 4 _ (by simp)]; exact e0_0
    by_cases wc1 : w2 (Dg n f (k + 2)) (Dg n f (k + 3)) (k + 2) 0 23 = 1000
    · obtain ⟨ve1, lo1, hi1, da1, db1, c71, c81⟩ : v1 = nI (10 * Dg n f (k + 2) + Dg n f (k + 3)) ∧ 0 ≤ 10 * Dg n f (k + 2) + Dg n f (k + 3) ∧ 10 * Dg n f (k + 2) + Dg n f (k + 3) ≤ 23 ∧ Dg n f (k + 2) < 10 ∧ Dg n f (k + 3) < 10 ∧ σa1 1 7 = -1 ∧ σa1 1 8 = nI (k + 2 + 2) := by
        rcases z1 with ⟨-, q⟩ | ⟨q, -⟩
        · exact q
        · exact absurd wc1 q
      obtain ⟨v2, σa2, x2, y2, z2⟩ := oneX T1 (k := k + 4) (by omega) (by rw [p81]; exact c81) (by rw [p71]; exact c71) (hi := 8) (by decide)
      rw [show fX4_oneFigure 8 σb1 = some (v2, σa2) from x2, Option.bind_some]
      simp only
      rw [ms_g_t (in_nI (show 6 * g + 2 < 48 by omega) (by decide)), ix_nI (show 6 * g + 2 < 2147483648 by omega)]
      generalize hs2 : ms_st σa2 4 (6 * g + 2) v2 = σb2
      have F2 : Fr (Wgr g) σ σb2 := by rw [← hs2]; exact (Fr.tr (F1) (y2.mo Wa)).st _ (Wr 2 (by decide))
      have T2 : TXc σb2 n f := h.fr F2 (by simp) (fun i => by simp)
      have p72 : σb2 1 7 = σa2 1 7 := by rw [← hs2]; exact r1 _ _ _ _
      have p82 : σb2 1 8 = σa2 1 8 := by rw [← hs2]; exact r1 _ _ _ _
      have e2_2 : σb2 4 (6 * g + 2) = v2 := by rw [← hs2, ms_rd, if_pos (by simp)]
      have e0_2 : σb2 4 (6 * g) = v0 := by rw [← hs2, ms_rd, if_neg (by simp), y2 4 _ (by simp)]; exact e0_1
      have e1_2 : σb2 4 (6 * g + 1) = v1 := by rw [← hs2, ms_rd, if_neg (by simp), y2 4 _ (by simp)]; exact e1_1
      by_cases wc2 : w1 (Dg n f (k + 4)) (k + 4) 8 = 1000
      · obtain ⟨ve2, hi2, da2, c72, c82⟩ : v2 = nI (Dg n f (k + 4)) ∧ Dg n f (k + 4) ≤ 8 ∧ Dg n f (k + 4) < 10 ∧ σa2 1 7 = -1 ∧ σa2 1 8 = nI (k + 4 + 1) := by
          rcases z2 with ⟨-, q⟩ | ⟨q, -⟩
          · exact q
          · exact absurd wc2 q
        obtain ⟨v3, σa3, x3, y3, z3⟩ := oneX T2 (k := k + 5) (by omega) (by rw [p82]; exact c82) (by rw [p72]; exact c72) (hi := 8) (by decide)
        rw [show fX4_oneFigure 8 σb2 = some (v3, σa3) from x3, Option.bind_some]
        simp only
        rw [ms_g_t (in_nI (show 6 * g + 3 < 48 by omega) (by decide)), ix_nI (show 6 * g + 3 < 2147483648 by omega)]
        generalize hs3 : ms_st σa3 4 (6 * g + 3) v3 = σb3
        have F3 : Fr (Wgr g) σ σb3 := by rw [← hs3]; exact (Fr.tr (F2) (y3.mo Wa)).st _ (Wr 3 (by decide))
        have T3 : TXc σb3 n f := h.fr F3 (by simp) (fun i => by simp)
        have p73 : σb3 1 7 = σa3 1 7 := by rw [← hs3]; exact r1 _ _ _ _
        have p83 : σb3 1 8 = σa3 1 8 := by rw [← hs3]; exact r1 _ _ _ _
        have e3_3 : σb3 4 (6 * g + 3) = v3 := by rw [← hs3, ms_rd, if_pos (by simp)]
        have e0_3 : σb3 4 (6 * g) = v0 := by rw [← hs3, ms_rd, if_neg (by simp), y3 4 _ (by simp)]; exact e0_2
        have e1_3 : σb3 4 (6 * g + 1) = v1 := by rw [← hs3, ms_rd, if_neg (by simp), y3 4 _ (by simp)]; exact e1_2
        have e2_3 : σb3 4 (6 * g + 2) = v2 := by rw [← hs3, ms_rd, if_neg (by simp), y3 4 _ (by simp)]; exact e2_2
        by_cases wc3 : w1 (Dg n f (k + 5)) (k + 5) 8 = 1000
        · obtain ⟨ve3, hi3, da3, c73, c83⟩ : v3 = nI (Dg n f (k + 5)) ∧ Dg n f (k + 5) ≤ 8 ∧ Dg n f (k + 5) < 10 ∧ σa3 1 7 = -1 ∧ σa3 1 8 = nI (k + 5 + 1) := by
            rcases z3 with ⟨-, q⟩ | ⟨q, -⟩
            · exact q
            · exact absurd wc3 q
          rw [if_pos (show σb3 1 7 = -1 by rw [p73]; exact c73), ms_g_t (in_nI (show 6 * g + 2 < 48 by omega) (by decide)), ms_g_t (in_nI (show 6 * g + 3 < 48 by omega) (by decide)), e2_3, e3_3, ve2, ve3, ifeq (by omega) (by omega)]
          have q8 : σb3 1 8 = nI (k + 5 + 1) := by rw [p83]; exact c83
          have q7 : σb3 1 7 = -1 := by rw [p73]; exact c73
          unfold fX4_parseGroup_95
          rw [refuseX q8, refuseX q8]
          by_cases ce : Dg n f (k + 4) = Dg n f (k + 5)
          · rw [if_pos ce, if_neg (by decide), Option.bind_some]
            have u7 : ms_st σb3 1 7 (nI (k + 5)) 1 7 = nI (k + 5) := by rw [ms_rd, if_pos (by decide)]
            have ew : wG (Dg n f) k = k + 5 := by unfold wG f2; rw [if_pos wc0, if_pos wc1, if_pos wc2, if_pos wc3, if_pos ce, if_neg (by omega)]
            obtain ⟨σ', p1, p2⟩ := group98S (σ := ms_st σb3 1 7 (nI (k + 5))) (by rw [u7]; exact m1_ne (by omega)) hg
            refine ⟨σ', p1, Fr.tr (F3.st _ (Or.inl ⟨rfl, Or.inl rfl⟩)) (p2.mo W4), Or.inr ⟨by omega, ?_⟩⟩
            rw [p2 1 7 (by simp), u7, ew]
          · rw [if_neg ce, if_pos rfl, Option.bind_some]
            have ew : wG (Dg n f) k = f2 (w1 (Dg n f (k + 6)) (k + 6) 9) (w1 (Dg n f (k + 7)) (k + 7) 9) := by unfold wG; rw [show ∀ a b, f2 a b = if a = 1000 then b else a from fun _ _ => rfl, if_pos wc0, show ∀ a b, f2 a b = if a = 1000 then b else a from fun _ _ => rfl, if_pos wc1, show ∀ a b, f2 a b = if a = 1000 then b else a from fun _ _ => rfl, if_pos wc2, show ∀ a b, f2 a b = if a = 1000 then b else a from fun _ _ => rfl, if_pos wc3, if_neg ce]; rfl
            obtain ⟨σ', p1, p2, p3⟩ := group98X T3 (k := k + 6) (by omega) q8 q7 hg
            refine ⟨σ', p1, Fr.tr F3 (p2.mo W5), ?_⟩
            rw [ew]
            rcases p3 with ⟨s1, s2, s3, s4, s5, s6, s7⟩ | s1
            · refine Or.inl ⟨s1, s2, s3, ?_, ?_, ?_, ?_, s4, s5, ⟨lo0, hi0, hi1, hi2, hi3, Nat.le_of_lt_succ s6, Nat.le_of_lt_succ s7⟩, fun j hj => ?_⟩
              · rw [p2 4 _ (by simp), e0_3, ve0]
              · rw [p2 4 _ (by simp), e1_3, ve1]
              · rw [p2 4 _ (by simp), e2_3, ve2]
              · rw [p2 4 _ (by simp), e3_3, ve3]
              · rcases (show j = 0 ∨ j = 1 ∨ j = 2 ∨ j = 3 ∨ j = 4 ∨ j = 5 ∨ j = 6 ∨ j = 7 by omega) with rfl | rfl | rfl | rfl | rfl | rfl | rfl | rfl
                · exact da0
                · exact db0
                · exact da1
                · exact db1
                · exact da2
                · exact da3
                · exact s6
                · exact s7
            · exact Or.inr s1
        · have z7 : σb3 1 7 = nI (w1 (Dg n f (k + 5)) (k + 5) 8) := by
            rcases z3 with ⟨q, -⟩ | ⟨-, q⟩
            · exact absurd q wc3
            · rw [p73]; exact q
          have hb := (w1_b (a := Dg n f (k + 5)) (k := k + 5) (hi := 8) (by omega)).2 wc3
          have n7 : ¬ σb3 1 7 = -1 := by rw [z7]; exact m1_ne (by omega)
          have ew : wG (Dg n f) k = w1 (Dg n f (k + 5)) (k + 5) 8 := by unfold wG f2; rw [if_pos wc0, if_pos wc1, if_pos wc2, if_neg wc3]
          rw [if_neg (n7)]
          obtain ⟨σ', p1, p2⟩ := group98S (n7) hg
          refine ⟨σ', p1, Fr.tr (F3) (p2.mo W4), Or.inr ⟨by rw [ew]; exact wc3, ?_⟩⟩
          rw [p2 1 7 (by simp), z7, ew]
      · have z7 : σb2 1 7 = nI (w1 (Dg n f (k + 4)) (k + 4) 8) := by
          rcases z2 with ⟨q, -⟩ | ⟨-, q⟩
          · exact absurd q wc2
          · rw [p72]; exact q
        have hb := (w1_b (a := Dg n f (k + 4)) (k := k + 4) (hi := 8) (by omega)).2 wc2
        have n7 : ¬ σb2 1 7 = -1 := by rw [z7]; exact m1_ne (by omega)
        have ew : wG (Dg n f) k = w1 (Dg n f (k + 4)) (k + 4) 8 := by unfold wG f2; rw [if_pos wc0, if_pos wc1, if_neg wc2]
        rw [oneS (n7), Option.bind_some]
        simp only
        rw [ms_g_t (in_nI (show 6 * g + 3 < 48 by omega) (by decide)), ix_nI (show 6 * g + 3 < 2147483648 by omega)]
        rw [if_neg (stk _ (6 * g + 3) 0 (n7))]
        obtain ⟨σ', p1, p2⟩ := group98S (stk _ (6 * g + 3) 0 (n7)) hg
        refine ⟨σ', p1, Fr.tr ((F2).st 0 (Wr 3 (by decide))) (p2.mo W4), Or.inr ⟨by rw [ew]; exact wc2, ?_⟩⟩
        rw [p2 1 7 (by simp), r1, z7, ew]
    · have z7 : σb1 1 7 = nI (w2 (Dg n f (k + 2)) (Dg n f (k + 3)) (k + 2) 0 23) := by
        rcases z1 with ⟨q, -⟩ | ⟨-, q⟩
        · exact absurd q wc1
        · rw [p71]; exact q
      have hb := (w2_b (a := Dg n f (k + 2)) (b := Dg n f (k + 3)) (k := k + 2) (lo := 0) (hi := 23) (by omega)).2 wc1
      have n7 : ¬ σb1 1 7 = -1 := by rw [z7]; exact m1_ne (by omega)
      have ew : wG (Dg n f) k = w2 (Dg n f (k + 2)) (Dg n f (k + 3)) (k + 2) 0 23 := by unfold wG f2; rw [if_pos wc0, if_neg wc1]
      rw [oneS (n7), Option.bind_some]
      simp only
      rw [ms_g_t (in_nI (show 6 * g + 2 < 48 by omega) (by decide)), ix_nI (show 6 * g + 2 < 2147483648 by omega)]
      rw [oneS (stk _ (6 * g + 2) 0 (n7)), Option.bind_some]
      simp only
      rw [ms_g_t (in_nI (show 6 * g + 3 < 48 by omega) (by decide)), ix_nI (show 6 * g + 3 < 2147483648 by omega)]
      rw [if_neg (stk _ (6 * g + 3) 0 (stk _ (6 * g + 2) 0 (n7)))]
      obtain ⟨σ', p1, p2⟩ := group98S (stk _ (6 * g + 3) 0 (stk _ (6 * g + 2) 0 (n7))) hg
      refine ⟨σ', p1, Fr.tr (((F1).st 0 (Wr 2 (by decide))).st 0 (Wr 3 (by decide))) (p2.mo W4), Or.inr ⟨by rw [ew]; exact wc1, ?_⟩⟩
      rw [p2 1 7 (by simp), r1, r1, z7, ew]
  · have z7 : σb0 1 7 = nI (w2 (Dg n f k) (Dg n f (k + 1)) k 1 99) := by
      rcases z0 with ⟨q, -⟩ | ⟨-, q⟩
      · exact absurd q wc0
      · rw [p70]; exact q
    have hb := (w2_b (a := Dg n f k) (b := Dg n f (k + 1)) (k := k) (lo := 1) (hi := 99) (by omega)).2 wc0
    have n7 : ¬ σb0 1 7 = -1 := by rw [z7]; exact m1_ne (by omega)
    have ew : wG (Dg n f) k = w2 (Dg n f k) (Dg n f (k + 1)) k 1 99 := by unfold wG f2; rw [if_neg wc0]
    obtain ⟨u1, q1⟩ := twoS (n7) 0 23
    rw [q1, Option.bind_some]
    simp only
    rw [ms_g_t (in_nI (show 6 * g + 1 < 48 by omega) (by decide)), ix_nI (show 6 * g + 1 < 2147483648 by omega)]
    rw [oneS (stk _ (6 * g + 1) u1 (n7)), Option.bind_some]
    simp only
    rw [ms_g_t (in_nI (show 6 * g + 2 < 48 by omega) (by decide)), ix_nI (show 6 * g + 2 < 2147483648 by omega)]
    rw [oneS (stk _ (6 * g + 2) 0 (stk _ (6 * g + 1) u1 (n7))), Option.bind_some]
    simp only
    rw [ms_g_t (in_nI (show 6 * g + 3 < 48 by omega) (by decide)), ix_nI (show 6 * g + 3 < 2147483648 by omega)]
    rw [if_neg (stk _ (6 * g + 3) 0 (stk _ (6 * g + 2) 0 (stk _ (6 * g + 1) u1 (n7))))]
    obtain ⟨σ', p1, p2⟩ := group98S (stk _ (6 * g + 3) 0 (stk _ (6 * g + 2) 0 (stk _ (6 * g + 1) u1 (n7)))) hg
    refine ⟨σ', p1, Fr.tr ((((F0).st u1 (Wr 1 (by decide))).st 0 (Wr 2 (by decide))).st 0 (Wr 3 (by decide))) (p2.mo W4), Or.inr ⟨by rw [ew]; exact wc0, ?_⟩⟩
    rw [p2 1 7 (by simp), r1, r1, r1, z7, ew]
