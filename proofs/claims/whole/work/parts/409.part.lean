/-! ===== the parts of the town, as the class reads them ===== -/
def wT (D : Nat → Nat) (k : Nat) : Nat := f2 (w2 (D k) (D (k + 1)) k 1 40) (f2 (w2 (D (k + 2)) (D (k + 3)) (k + 2) 0 23) (w2 (D (k + 4)) (D (k + 5)) (k + 4) 1 24))
abbrev Wth (t : Nat) (k i : Nat) : Prop := (k = 1 ∧ (i = 7 ∨ i = 8)) ∨ (k = 3 ∧ 4 * t ≤ i ∧ i < 4 * t + 4)
abbrev Dg (n : Nat) (f : Nat → Int32) : Nat → Nat := fun p => dg (by_ n f p)
theorem i6_0 (a : Nat) : nI a + 0 = nI a := Int32.add_zero _
theorem i6_k (a : Nat) (b : Nat) : nI a + nI b = nI (a + b) := nI_add a b
theorem thing_ix (t : Nat) : nI (4 * t) + 0 = nI (4 * t) ∧ nI (4 * t) + 1 = nI (4 * t + 1) ∧ nI (4 * t) + 2 = nI (4 * t + 2) ∧ nI (4 * t) + 3 = nI (4 * t + 3) := ⟨Int32.add_zero _, nI_1 _, nI_add _ 2, nI_add _ 3⟩
theorem thingS {σ : Mm} (h7 : ¬ σ 1 7 = -1) {t : Nat} (ht : t < 6) : ∃ σ', fX4_parseThing (nI (4 * t)) σ = some σ' ∧ Fr (fun k _ => k = 3) σ σ' := by
  obtain ⟨j0, j1, j2, j3⟩ := thing_ix t
  have st7 : ∀ (τ : Mm) (i : Nat) (v : Int32), ¬ τ 1 7 = -1 → ¬ ms_st τ 3 i v 1 7 = -1 := fun τ i v q => by rw [ms_rd, if_neg (by simp)]; exact q
  unfold fX4_parseThing
  rw [j0, j1, j2, j3]
  obtain ⟨v1, q1⟩ := twoS h7 1 40
  rw [q1, Option.bind_some]
  simp only
  rw [ms_g_t (in_nI (show 4 * t < 24 by omega) (by decide)), ix_nI (by omega)]
  simp only [ms_lt]
  obtain ⟨v2, q2⟩ := twoS (st7 σ (4 * t) v1 h7) 0 23
  rw [q2, Option.bind_some]
  simp only
  rw [ms_g_t (in_nI (show 4 * t + 1 < 24 by omega) (by decide)), ix_nI (show 4 * t + 1 < 2147483648 by omega)]
  obtain ⟨v3, q3⟩ := twoS (st7 _ (4 * t + 1) v2 (st7 σ (4 * t) v1 h7)) 1 24
  rw [q3, Option.bind_some]
  simp only
  rw [ms_g_t (in_nI (show 4 * t + 2 < 24 by omega) (by decide)), ix_nI (show 4 * t + 2 < 2147483648 by omega), ms_g_t (in_nI (show 4 * t + 3 < 24 by omega) (by decide)), ix_nI (show 4 * t + 3 < 2147483648 by omega), if_neg (st7 _ _ _ (st7 _ _ _ (st7 _ _ _ (st7 _ _ _ h7))))]
  have F : Fr (fun k _ => k = 3) σ σ := Fr.rf
  exact ⟨_, rfl, (((F.st _ rfl).st _ rfl).st _ rfl).st _ rfl⟩
theorem thingX {σ : Mm} {n k : Nat} {f : Nat → Int32} (h : TXc σ n f) (hk : k < 200) (h8 : σ 1 8 = nI k) (h7 : σ 1 7 = -1) {t : Nat} (ht : t < 6) : ∃ σ', fX4_parseThing (nI (4 * t)) σ = some σ' ∧ Fr (Wth t) σ σ' ∧
    ((wT (Dg n f) k = 1000 ∧ σ' 1 7 = -1 ∧ σ' 1 8 = nI (k + 6 + if by_ n f (k + 6) = 33 then 1 else 0) ∧ σ' 3 (4 * t) = nI (10 * Dg n f k + Dg n f (k + 1)) ∧ σ' 3 (4 * t + 1) = nI (10 * Dg n f (k + 2) + Dg n f (k + 3)) ∧ σ' 3 (4 * t + 2) = nI (10 * Dg n f (k + 4) + Dg n f (k + 5)) ∧ σ' 3 (4 * t + 3) = nI (if by_ n f (k + 6) = 33 then 1 else 0) ∧
      (1 ≤ 10 * Dg n f k + Dg n f (k + 1) ∧ 10 * Dg n f k + Dg n f (k + 1) ≤ 40 ∧ 10 * Dg n f (k + 2) + Dg n f (k + 3) ≤ 23 ∧ 1 ≤ 10 * Dg n f (k + 4) + Dg n f (k + 5) ∧ 10 * Dg n f (k + 4) + Dg n f (k + 5) ≤ 24) ∧ (∀ j, j < 6 → Dg n f (k + j) < 10)) ∨ (wT (Dg n f) k ≠ 1000 ∧ σ' 1 7 = nI (wT (Dg n f) k))) := by
  obtain ⟨j0, j1, j2, j3⟩ := thing_ix t
  have ix0 : ms_ix (nI (4 * t)) = 4 * t := ix_nI (by omega)
  have ix1 : ms_ix (nI (4 * t + 1)) = 4 * t + 1 := ix_nI (by omega)
  have ix2 : ms_ix (nI (4 * t + 2)) = 4 * t + 2 := ix_nI (by omega)
  have ix3 : ms_ix (nI (4 * t + 3)) = 4 * t + 3 := ix_nI (by omega)
  have g0 : ms_in (nI (4 * t)) 24 := in_nI (by omega) (by decide)
  have g1 : ms_in (nI (4 * t + 1)) 24 := in_nI (by omega) (by decide)
  have g2 : ms_in (nI (4 * t + 2)) 24 := in_nI (by omega) (by decide)
  have g3 : ms_in (nI (4 * t + 3)) 24 := in_nI (by omega) (by decide)
  have r1 : ∀ (τ : Mm) (i j : Nat) (v : Int32), ms_st τ 3 i v 1 j = τ 1 j := fun τ i j v => by rw [ms_rd, if_neg (by simp)]
  have Wr : ∀ j, j < 4 → Wth t 3 (4 * t + j) := fun j hj => Or.inr ⟨rfl, by omega, by omega⟩
  have Wa : ∀ a b, Wat a b → Wth t a b := fun a b q => Or.inl q
  have stk : ∀ (τ : Mm) (i : Nat) (v : Int32), ¬ τ 1 7 = -1 → ¬ ms_st τ 3 i v 1 7 = -1 := fun τ i v q => by rw [r1]; exact q
  unfold fX4_parseThing
  rw [j0, j1, j2, j3]
  -- the first number
  obtain ⟨v1, σ1, a1, a2, a3⟩ := twoX h (k := k) (by omega) h8 h7 (lo := 1) (hi := 40) (by decide) (by decide)
  rw [show (fX4_twoFigures 1 40 σ) = some (v1, σ1) from a1, Option.bind_some]
  simp only
  rw [ms_g_t g0, ix0]
  simp only [ms_lt]
  generalize hs1 : ms_st σ1 3 (4 * t) v1 = σ2
  have F2 : Fr (Wth t) σ σ2 := by rw [← hs1]; exact (a2.mo Wa).st _ (Wr 0 (by decide))
  have T2 : TXc σ2 n f := h.fr F2 (by simp) (fun i => by simp)
  have b7 : σ2 1 7 = σ1 1 7 := by rw [← hs1]; exact r1 _ _ _ _
  have b8 : σ2 1 8 = σ1 1 8 := by rw [← hs1]; exact r1 _ _ _ _
  have e0 : σ2 3 (4 * t) = v1 := by rw [← hs1, ms_rd, if_pos (by simp)]
  rcases a3 with ⟨w1a, v1e, lo1, hi1, d0, d1, c7, c8⟩ | ⟨w1a, c7⟩
  · obtain ⟨v2, σ3, a4, a5, a6⟩ := twoX T2 (k := k + 2) (by omega) (by rw [b8]; exact c8) (by rw [b7]; exact c7) (lo := 0) (hi := 23) (by decide) (by decide)
    rw [show (fX4_twoFigures 0 23 σ2) = some (v2, σ3) from a4, Option.bind_some]
    simp only
    rw [ms_g_t g1, ix1]
    generalize hs2 : ms_st σ3 3 (4 * t + 1) v2 = σ4
    have F4 : Fr (Wth t) σ σ4 := by rw [← hs2]; exact (F2.tr (a5.mo Wa)).st _ (Wr 1 (by decide))
    have T4 : TXc σ4 n f := h.fr F4 (by simp) (fun i => by simp)
    have b7' : σ4 1 7 = σ3 1 7 := by rw [← hs2]; exact r1 _ _ _ _
    have b8' : σ4 1 8 = σ3 1 8 := by rw [← hs2]; exact r1 _ _ _ _
    have e1 : σ4 3 (4 * t + 1) = v2 := by rw [← hs2, ms_rd, if_pos (by simp)]
    have e0' : σ4 3 (4 * t) = v1 := by rw [← hs2, ms_rd, if_neg (by simp), a5 3 _ (by simp)]; exact e0
    rcases a6 with ⟨w2a, v2e, lo2, hi2, d2, d3, c7', c8'⟩ | ⟨w2a, c7'⟩
    · obtain ⟨v3, σ5, a7, a8, a9⟩ := twoX T4 (k := k + 4) (by omega) (by rw [b8']; exact c8') (by rw [b7']; exact c7') (lo := 1) (hi := 24) (by decide) (by decide)
      rw [show (fX4_twoFigures 1 24 σ4) = some (v3, σ5) from a7, Option.bind_some]
      simp only
      rw [ms_g_t g2, ix2, ms_g_t g3, ix3]
      generalize hs3 : ms_st (ms_st σ5 3 (4 * t + 2) v3) 3 (4 * t + 3) 0 = σ6
      have F6 : Fr (Wth t) σ σ6 := by rw [← hs3]; exact ((F4.tr (a8.mo Wa)).st _ (Wr 2 (by decide))).st _ (Wr 3 (by decide))
      have T6 : TXc σ6 n f := h.fr F6 (by simp) (fun i => by simp)
      have b7'' : σ6 1 7 = σ5 1 7 := by rw [← hs3, r1, r1]
      have b8'' : σ6 1 8 = σ5 1 8 := by rw [← hs3, r1, r1]
      have e0'' : σ6 3 (4 * t) = v1 := by rw [← hs3, ms_rd, if_neg (by simp), ms_rd, if_neg (by simp), a8 3 _ (by simp)]; exact e0'
      have e1' : σ6 3 (4 * t + 1) = v2 := by rw [← hs3, ms_rd, if_neg (by simp), ms_rd, if_neg (by simp), a8 3 _ (by simp)]; exact e1
      have e2 : σ6 3 (4 * t + 2) = v3 := by rw [← hs3, ms_rd, if_neg (by simp), ms_rd, if_pos (by simp)]
      have e3 : σ6 3 (4 * t + 3) = 0 := by rw [← hs3, ms_rd, if_pos (by simp)]
      rcases a9 with ⟨w3a, v3e, lo3, hi3, d4, d5, c7'', c8''⟩ | ⟨w3a, c7''⟩
      · have ewT : wT (Dg n f) k = 1000 := by unfold wT f2; rw [if_pos w1a, if_pos w2a]; exact w3a
        have hD : ∀ j, j < 6 → Dg n f (k + j) < 10 := fun j hj => by
          rcases (show j = 0 ∨ j = 1 ∨ j = 2 ∨ j = 3 ∨ j = 4 ∨ j = 5 by omega) with rfl | rfl | rfl | rfl | rfl | rfl
          · exact d0
          · exact d1
          · exact d2
          · exact d3
          · exact d4
          · exact d5
        have n8 : σ6 1 8 = nI (k + 6) := by rw [b8'']; exact c8''
        rw [if_pos (show σ6 1 7 = -1 by rw [b7'']; exact c7''), nextX T6 (p := k + 6) (by omega) n8, Option.bind_some]
        by_cases c : by_ n f (k + 6) = 33
        · rw [if_pos c, ms_g_t g3]
          refine ⟨_, rfl, (F6.st _ (Wr 3 (by decide))).st _ (Or.inl ⟨rfl, Or.inr rfl⟩), Or.inl ⟨ewT, ?_, ?_, ?_, ?_, ?_, ?_, ⟨lo1, hi1, hi2, lo3, hi3⟩, hD⟩⟩
          · rw [ms_rd, if_neg (by decide), r1, b7'']; exact c7''
          · rw [ms_rd, if_pos (by decide), r1, n8, if_pos c, nI_1]
          · rw [ms_rd, if_neg (by simp), ms_rd, if_neg (by simp), e0'', v1e]
          · rw [ms_rd, if_neg (by simp), ms_rd, if_neg (by simp), e1', v2e]
          · rw [ms_rd, if_neg (by simp), ms_rd, if_neg (by simp), e2, v3e]
          · rw [ms_rd, if_neg (by simp), ms_rd, if_pos (by simp), if_pos c]; rfl
        · rw [if_neg c]
          refine ⟨_, rfl, F6, Or.inl ⟨ewT, by rw [b7'']; exact c7'', by rw [n8, if_neg c], by rw [e0'', v1e], by rw [e1', v2e], by rw [e2, v3e], by rw [e3, if_neg c]; rfl, ⟨lo1, hi1, hi2, lo3, hi3⟩, hD⟩⟩
      · have hb := w2_b (a := Dg n f (k + 4)) (b := Dg n f (k + 5)) (k := k + 4) (lo := 1) (hi := 24) (by omega)
        have ewT : wT (Dg n f) k = w2 (Dg n f (k + 4)) (Dg n f (k + 5)) (k + 4) 1 24 := by unfold wT f2; rw [if_pos w1a, if_pos w2a]
        have w3a' : w2 (Dg n f (k + 4)) (Dg n f (k + 5)) (k + 4) 1 24 ≠ 1000 := w3a
        have z7 : σ6 1 7 = nI (w2 (Dg n f (k + 4)) (Dg n f (k + 5)) (k + 4) 1 24) := by rw [b7'']; exact c7''
        rw [if_neg (by rw [z7]; exact m1_ne (by have := hb.2 w3a'; omega))]
        exact ⟨_, rfl, F6, Or.inr ⟨by rw [ewT]; exact w3a', by rw [z7, ewT]⟩⟩
    · have hb := w2_b (a := Dg n f (k + 2)) (b := Dg n f (k + 3)) (k := k + 2) (lo := 0) (hi := 23) (by omega)
      have w2a' : w2 (Dg n f (k + 2)) (Dg n f (k + 3)) (k + 2) 0 23 ≠ 1000 := w2a
      have ewT : wT (Dg n f) k = w2 (Dg n f (k + 2)) (Dg n f (k + 3)) (k + 2) 0 23 := by unfold wT f2; rw [if_pos w1a, if_neg w2a']
      have z7 : σ4 1 7 = nI (w2 (Dg n f (k + 2)) (Dg n f (k + 3)) (k + 2) 0 23) := by rw [b7']; exact c7'
      have n7 : ¬ σ4 1 7 = -1 := by rw [z7]; exact m1_ne (by have := hb.2 w2a'; omega)
      obtain ⟨v3, q3⟩ := twoS n7 1 24
      rw [q3, Option.bind_some]
      simp only
      rw [ms_g_t g2, ix2, ms_g_t g3, ix3, if_neg (stk _ _ _ (stk _ _ _ n7))]
      exact ⟨_, rfl, (F4.st _ (Wr 2 (by decide))).st _ (Wr 3 (by decide)), Or.inr ⟨by rw [ewT]; exact w2a', by rw [r1, r1, z7, ewT]⟩⟩
  · have hb := w2_b (a := Dg n f k) (b := Dg n f (k + 1)) (k := k) (lo := 1) (hi := 40) (by omega)
    have w1a' : w2 (Dg n f k) (Dg n f (k + 1)) k 1 40 ≠ 1000 := w1a
    have ewT : wT (Dg n f) k = w2 (Dg n f k) (Dg n f (k + 1)) k 1 40 := by unfold wT f2; rw [if_neg w1a']
    have z7 : σ2 1 7 = nI (w2 (Dg n f k) (Dg n f (k + 1)) k 1 40) := by rw [b7]; exact c7
    have n7 : ¬ σ2 1 7 = -1 := by rw [z7]; exact m1_ne (by have := hb.2 w1a'; omega)
    obtain ⟨v2, q2⟩ := twoS n7 0 23
    rw [q2, Option.bind_some]
    simp only
    rw [ms_g_t g1, ix1]
    obtain ⟨v3, q3⟩ := twoS (stk σ2 (4 * t + 1) v2 n7) 1 24
    rw [q3, Option.bind_some]
    simp only
    rw [ms_g_t g2, ix2, ms_g_t g3, ix3, if_neg (stk _ _ _ (stk _ _ _ (stk _ _ _ n7)))]
    exact ⟨_, rfl, ((F2.st _ (Wr 1 (by decide))).st _ (Wr 2 (by decide))).st _ (Wr 3 (by decide)), Or.inr ⟨by rw [ewT]; exact w1a', by rw [r1, r1, r1, z7, ewT]⟩⟩
/-! a handle -/
def wH (D : Nat → Nat) (hb k : Nat) : Nat := f2 (w1 (D k) k 8) (if bt hb (D k) = 1 then k else 1000)
theorem handS {σ : Mm} (h7 : ¬ σ 1 7 = -1) : fX4_parseHandle σ = some σ := by
  unfold fX4_parseHandle
  rw [oneS h7, Option.bind_some]
  simp only
  rw [if_neg h7]
theorem handX {σ : Mm} {n k hb : Nat} {f : Nat → Int32} (h : TXc σ n f) (hk : k < 200) (h8 : σ 1 8 = nI k) (h7 : σ 1 7 = -1) (h6 : σ 1 6 = nI hb) (hhb : hb < 512) : ∃ σ', fX4_parseHandle σ = some σ' ∧ Fr (fun a b => a = 1 ∧ (b = 6 ∨ b = 7 ∨ b = 8)) σ σ' ∧
    ((wH (Dg n f) hb k = 1000 ∧ σ' 1 7 = -1 ∧ σ' 1 8 = nI (k + 1) ∧ σ' 1 6 = nI hb ||| ms_shl 1 (nI (Dg n f k)) ∧ Dg n f k ≤ 8 ∧ bt hb (Dg n f k) = 0) ∨ (wH (Dg n f) hb k ≠ 1000 ∧ σ' 1 7 = nI (wH (Dg n f) hb k))) := by
  have Wa : ∀ a b, Wat a b → (a = 1 ∧ (b = 6 ∨ b = 7 ∨ b = 8)) := fun a b q => ⟨q.1, Or.inr q.2⟩
  obtain ⟨v, σ1, a1, a2, a3⟩ := oneX h (k := k) (by omega) h8 h7 (hi := 8) (by decide)
  unfold fX4_parseHandle
  rw [show fX4_oneFigure 8 σ = some (v, σ1) from a1, Option.bind_some]
  simp only
  rcases a3 with ⟨w, ve, d8, d10, c7, c8⟩ | ⟨w, c7⟩
  · have s6 : σ1 1 6 = nI hb := by rw [a2 1 6 (by decide)]; exact h6
    have b2 := bt_2 hb (dg (by_ n f k))
    rw [if_pos c7, s6, ve, bit_X (by omega) (by omega), Option.bind_some]
    unfold fX4_parseHandle_33
    rw [refuseX (k := k) c8, refuseX (k := k) c8]
    by_cases c : bt hb (dg (by_ n f k)) = 1
    · have ewH : wH (Dg n f) hb k = k := by unfold wH f2; rw [if_pos w, if_pos c]
      rw [if_pos (by rw [c]; rfl), if_neg (by decide), Option.bind_some]
      refine ⟨_, rfl, ((a2.mo Wa).st _ ⟨rfl, Or.inr (Or.inl rfl)⟩).st _ ⟨rfl, Or.inl rfl⟩, Or.inr ⟨by omega, ?_⟩⟩
      rw [ms_rd, if_neg (by decide), ms_rd, if_pos (by decide), ewH]
    · have ewH : wH (Dg n f) hb k = 1000 := by unfold wH f2; rw [if_pos w, if_neg c]
      rw [if_neg (by rw [show (1 : Int32) = nI 1 from rfl, eq_nI (by omega) (by decide)]; exact c), if_pos rfl, Option.bind_some]
      refine ⟨_, rfl, (a2.mo Wa).st _ ⟨rfl, Or.inl rfl⟩, Or.inl ⟨ewH, ?_, ?_, ?_, d8, by show bt hb (dg (by_ n f k)) = 0; omega⟩⟩
      · rw [ms_rd, if_neg (by decide)]; exact c7
      · rw [ms_rd, if_neg (by decide)]; exact c8
      · rw [ms_rd, if_pos (by decide), s6]
  · have hb1 := w1_b (a := Dg n f k) (k := k) (hi := 8) (by omega)
    have w' : w1 (Dg n f k) k 8 ≠ 1000 := w
    have ewH : wH (Dg n f) hb k = w1 (Dg n f k) k 8 := by unfold wH f2; rw [if_neg w']
    rw [if_neg (by rw [c7]; exact m1_ne (by have := hb1.2 w'; show w1 (Dg n f k) k 8 < _; omega))]
    exact ⟨_, rfl, a2.mo Wa, Or.inr ⟨by rw [ewH]; exact w', by rw [ewH]; exact c7⟩⟩
/-! a group -/
def wG (D : Nat → Nat) (k : Nat) : Nat := f2 (w2 (D k) (D (k + 1)) k 1 99) (f2 (w2 (D (k + 2)) (D (k + 3)) (k + 2) 0 23) (f2 (w1 (D (k + 4)) (k + 4) 8) (f2 (w1 (D (k + 5)) (k + 5) 8) (f2 (if D (k + 4) = D (k + 5) then k + 5 else 1000) (f2 (w1 (D (k + 6)) (k + 6) 9) (w1 (D (k + 7)) (k + 7) 9))))))
abbrev Wgr (g : Nat) (k i : Nat) : Prop := (k = 1 ∧ (i = 7 ∨ i = 8)) ∨ (k = 4 ∧ 6 * g ≤ i ∧ i < 6 * g + 6)
theorem group_ix (g : Nat) : nI (6 * g) + 0 = nI (6 * g) ∧ nI (6 * g) + 1 = nI (6 * g + 1) ∧ nI (6 * g) + 2 = nI (6 * g + 2) ∧ nI (6 * g + 2) + 1 = nI (6 * g + 3) ∧ nI (6 * g) + 4 = nI (6 * g + 4) ∧ nI (6 * g + 4) + 1 = nI (6 * g + 5) := ⟨Int32.add_zero _, nI_1 _, nI_add _ 2, nI_1 _, nI_add _ 4, nI_1 _⟩
/-- the two lengths, where all is well -/
theorem group98X {σ : Mm} {n k : Nat} {f : Nat → Int32} (h : TXc σ n f) (hk : k < 300) (h8 : σ 1 8 = nI k) (h7 : σ 1 7 = -1) {g : Nat} (hg : g < 8) : ∃ σ', fX4_parseGroup_98 (nI (6 * g)) σ = some σ' ∧ Fr (fun a b => (a = 1 ∧ (b = 7 ∨ b = 8)) ∨ (a = 4 ∧ 6 * g + 4 ≤ b ∧ b < 6 * g + 6)) σ σ' ∧
    ((f2 (w1 (Dg n f k) k 9) (w1 (Dg n f (k + 1)) (k + 1) 9) = 1000 ∧ σ' 1 7 = -1 ∧ σ' 1 8 = nI (k + 2) ∧ σ' 4 (6 * g + 4) = nI (Dg n f k) ∧ σ' 4 (6 * g + 5) = nI (Dg n f (k + 1)) ∧ Dg n f k < 10 ∧ Dg n f (k + 1) < 10) ∨ (f2 (w1 (Dg n f k) k 9) (w1 (Dg n f (k + 1)) (k + 1) 9) ≠ 1000 ∧ σ' 1 7 = nI (f2 (w1 (Dg n f k) k 9) (w1 (Dg n f (k + 1)) (k + 1) 9)))) := by
  obtain ⟨j0, j1, j2, j3, j4, j5⟩ := group_ix g
  have r1 : ∀ (τ : Mm) (i j : Nat) (v : Int32), ms_st τ 4 i v 1 j = τ 1 j := fun τ i j v => by rw [ms_rd, if_neg (by simp)]
  have Wa : ∀ a b, Wat a b → ((a = 1 ∧ (b = 7 ∨ b = 8)) ∨ (a = 4 ∧ 6 * g + 4 ≤ b ∧ b < 6 * g + 6)) := fun a b q => Or.inl q
  unfold fX4_parseGroup_98
  rw [j4, j5]
  obtain ⟨v1, σ1, a1, a2, a3⟩ := oneX h (k := k) (by omega) h8 h7 (hi := 9) (by decide)
  rw [show fX4_oneFigure 9 σ = some (v1, σ1) from a1, Option.bind_some]
  simp only
  rw [ms_g_t (in_nI (show 6 * g + 4 < 48 by omega) (by decide)), ix_nI (show 6 * g + 4 < 2147483648 by omega)]
  simp only [ms_lt]
  generalize hs1 : ms_st σ1 4 (6 * g + 4) v1 = σ2
  have F2 : Fr (fun a b => (a = 1 ∧ (b = 7 ∨ b = 8)) ∨ (a = 4 ∧ 6 * g + 4 ≤ b ∧ b < 6 * g + 6)) σ σ2 := by rw [← hs1]; exact (a2.mo Wa).st _ (Or.inr ⟨rfl, by omega, by omega⟩)
  have T2 : TXc σ2 n f := h.fr F2 (by simp) (fun i => by simp)
  have b7 : σ2 1 7 = σ1 1 7 := by rw [← hs1]; exact r1 _ _ _ _
  have b8 : σ2 1 8 = σ1 1 8 := by rw [← hs1]; exact r1 _ _ _ _
  have e0 : σ2 4 (6 * g + 4) = v1 := by rw [← hs1, ms_rd, if_pos (by simp)]
  rcases a3 with ⟨wa, ve, d9, d10, c7, c8⟩ | ⟨wa, c7⟩
  · have wa' : w1 (Dg n f k) k 9 = 1000 := wa
    have ew : f2 (w1 (Dg n f k) k 9) (w1 (Dg n f (k + 1)) (k + 1) 9) = w1 (Dg n f (k + 1)) (k + 1) 9 := by unfold f2; rw [if_pos wa']
    rw [ew]
    obtain ⟨v2, σ3, a4, a5, a6⟩ := oneX T2 (k := k + 1) (by omega) (by rw [b8]; exact c8) (by rw [b7]; exact c7) (hi := 9) (by decide)
    rw [show fX4_oneFigure 9 σ2 = some (v2, σ3) from a4, Option.bind_some]
    simp only
    rw [ms_g_t (in_nI (show 6 * g + 5 < 48 by omega) (by decide)), ix_nI (show 6 * g + 5 < 2147483648 by omega)]
    refine ⟨_, rfl, (F2.tr (a5.mo Wa)).st _ (Or.inr ⟨rfl, by omega, by omega⟩), ?_⟩
    rcases a6 with ⟨wb, vb, q9, q10, p7, p8⟩ | ⟨wb, p7⟩
    · refine Or.inl ⟨wb, by rw [r1]; exact p7, by rw [r1]; exact p8, ?_, ?_, d10, q10⟩
      · rw [ms_rd, if_neg (by simp), a5 4 _ (by simp), e0, ve]
      · rw [ms_rd, if_pos (by simp), vb]
    · exact Or.inr ⟨wb, by rw [r1]; exact p7⟩
  · have wa' : w1 (Dg n f k) k 9 ≠ 1000 := wa
    have hb1 := (w1_b (a := Dg n f k) (k := k) (hi := 9) (by omega)).2 wa'
    have ew : f2 (w1 (Dg n f k) k 9) (w1 (Dg n f (k + 1)) (k + 1) 9) = w1 (Dg n f k) k 9 := by unfold f2; rw [if_neg wa']
    rw [ew]
    have z7 : σ2 1 7 = nI (w1 (Dg n f k) k 9) := by rw [b7]; exact c7
    have n7 : ¬ σ2 1 7 = -1 := by rw [z7]; exact m1_ne (by omega)
    rw [oneS n7, Option.bind_some]
    simp only
    rw [ms_g_t (in_nI (show 6 * g + 5 < 48 by omega) (by decide)), ix_nI (show 6 * g + 5 < 2147483648 by omega)]
    exact ⟨_, rfl, F2.st _ (Or.inr ⟨rfl, by omega, by omega⟩), Or.inr ⟨wa', by rw [r1]; exact z7⟩⟩
theorem group98S {σ : Mm} (h7 : ¬ σ 1 7 = -1) {g : Nat} (hg : g < 8) : ∃ σ', fX4_parseGroup_98 (nI (6 * g)) σ = some σ' ∧ Fr (fun a b => a = 4 ∧ 6 * g ≤ b ∧ b < 6 * g + 6) σ σ' := by
  obtain ⟨j0, j1, j2, j3, j4, j5⟩ := group_ix g
  have r1 : ∀ (τ : Mm) (i j : Nat) (v : Int32), ms_st τ 4 i v 1 j = τ 1 j := fun τ i j v => by rw [ms_rd, if_neg (by simp)]
  have F : Fr (fun a b => a = 4 ∧ 6 * g ≤ b ∧ b < 6 * g + 6) σ σ := Fr.rf
  unfold fX4_parseGroup_98
  rw [j4, j5, oneS h7, Option.bind_some]
  simp only
  rw [ms_g_t (in_nI (show 6 * g + 4 < 48 by omega) (by decide)), ix_nI (show 6 * g + 4 < 2147483648 by omega)]
  simp only [ms_lt]
  rw [oneS (by rw [r1]; exact h7), Option.bind_some]
  simp only
  rw [ms_g_t (in_nI (show 6 * g + 5 < 48 by omega) (by decide)), ix_nI (show 6 * g + 5 < 2147483648 by omega)]
  exact ⟨_, rfl, (F.st _ ⟨rfl, by omega, by omega⟩).st _ ⟨rfl, by omega, by omega⟩⟩
