/-! ===== the parts of the town, as the reference reads them ===== -/
abbrev Wpm (k i : Nat) : Prop := (k = 0 ∧ (i = 3 ∨ i = 10 ∨ i = 11)) ∨ (3 ≤ k ∧ k ≤ 6) ∨ (9 ≤ k ∧ k ≤ 12)
theorem addk (a b : Nat) : nI a + nI b = nI (a + b) := nI_add a b
theorem wrThM {τ : Mm} {n k : Nat} {f : Nat → Int32} (h : TXm τ n f) (hk : k < 700) : fX8_wrongThing τ (nI k) = some (en (wT (Dg n f) k)) := by
  have e1 : nI k + 2 = nI (k + 2) := nI_add k 2
  have e2 : nI k + 4 = nI (k + 4) := nI_add k 4
  have a1 : fX8_wrongAt τ (nI k) 1 40 = some (en (w2 (Dg n f k) (Dg n f (k + 1)) k 1 40)) := wrongM h (by omega) (lo := 1) (hi := 40) (by decide) (by decide)
  have a2 : fX8_wrongAt τ (nI (k + 2)) 0 23 = some (en (w2 (Dg n f (k + 2)) (Dg n f (k + 3)) (k + 2) 0 23)) := wrongM h (k := k + 2) (by omega) (lo := 0) (hi := 23) (by decide) (by decide)
  have a3 : fX8_wrongAt τ (nI (k + 4)) 1 24 = some (en (w2 (Dg n f (k + 4)) (Dg n f (k + 5)) (k + 4) 1 24)) := wrongM h (k := k + 4) (by omega) (lo := 1) (hi := 24) (by decide) (by decide)
  have b1 := (w2_b (a := Dg n f k) (b := Dg n f (k + 1)) (k := k) (lo := 1) (hi := 40) (by omega)).1
  have b2 := (w2_b (a := Dg n f (k + 2)) (b := Dg n f (k + 3)) (k := k + 2) (lo := 0) (hi := 23) (by omega)).1
  unfold fX8_wrongThing
  rw [a1, Option.bind_some, e1, a2, Option.bind_some, e2, a3, Option.bind_some]
  simp only [en_eq b1, en_eq b2]
  unfold wT f2
  by_cases c1 : w2 (Dg n f k) (Dg n f (k + 1)) k 1 40 = 1000
  · rw [if_pos c1, if_pos c1]
    by_cases c2 : w2 (Dg n f (k + 2)) (Dg n f (k + 3)) (k + 2) 0 23 = 1000
    · rw [if_pos c2, if_pos c2]
    · rw [if_neg c2, if_neg c2]
  · rw [if_neg c1, if_neg c1]
theorem in08 {d : Nat} (h : d ≤ 10) : fX8_in (fv d) 0 8 = some (if d ≤ 8 then 1 else 0) := by
  rw [in_same]
  unfold fX7_within fv
  by_cases c : d = 10
  · subst c; decide
  · rw [if_neg c, show (0 : Int32) = nI 0 from rfl, show (8 : Int32) = nI 8 from rfl, iflt (by omega) (by decide), if_neg (by omega), iflt (by decide) (by omega)]
    by_cases c2 : d ≤ 8
    · rw [if_neg (by omega), if_pos c2]
    · rw [if_pos (by omega), if_neg c2]
theorem wrGrM {τ : Mm} {n k : Nat} {f : Nat → Int32} (h : TXm τ n f) (hk : k < 700) : fX8_wrongGroup τ (nI k) = some (en (wG (Dg n f) k)) := by
  have e1 : nI k + 2 = nI (k + 2) := nI_add k 2
  have e4 : nI k + 4 = nI (k + 4) := nI_add k 4
  have e5 : nI k + 5 = nI (k + 5) := nI_add k 5
  have e6 : nI k + 6 = nI (k + 6) := nI_add k 6
  have e7 : nI k + 7 = nI (k + 7) := nI_add k 7
  have a1 : fX8_wrongAt τ (nI k) 1 99 = some (en (w2 (Dg n f k) (Dg n f (k + 1)) k 1 99)) := wrongM h (by omega) (lo := 1) (hi := 99) (by decide) (by decide)
  have a2 : fX8_wrongAt τ (nI (k + 2)) 0 23 = some (en (w2 (Dg n f (k + 2)) (Dg n f (k + 3)) (k + 2) 0 23)) := wrongM h (k := k + 2) (by omega) (lo := 0) (hi := 23) (by decide) (by decide)
  have b1 := (w2_b (a := Dg n f k) (b := Dg n f (k + 1)) (k := k) (lo := 1) (hi := 99) (by omega)).1
  have b2 := (w2_b (a := Dg n f (k + 2)) (b := Dg n f (k + 3)) (k := k + 2) (lo := 0) (hi := 23) (by omega)).1
  have f4 := figM h (p := k + 4) (by omega)
  have f5 := figM h (p := k + 5) (by omega)
  have f6 := figM h (p := k + 6) (by omega)
  have f7 := figM h (p := k + 7) (by omega)
  have d4 := dg_10 (by_ n f (k + 4))
  have d5 := dg_10 (by_ n f (k + 5))
  have d6 := dg_10 (by_ n f (k + 6))
  have d7 := dg_10 (by_ n f (k + 7))
  unfold fX8_wrongGroup fX8_wrongGroup_30
  rw [a1, Option.bind_some, e1, a2, Option.bind_some, e4, e5, e6, e7, f4, Option.bind_some, in08 d4, Option.bind_some, f5, Option.bind_some, in08 d5, Option.bind_some, Option.bind_some, Option.bind_some, f6, Option.bind_some, f7, Option.bind_some]
  simp only [en_eq b1, en_eq b2, fv_eq d6, fv_eq d7]
  unfold wG f2
  by_cases c1 : w2 (Dg n f k) (Dg n f (k + 1)) k 1 99 = 1000
  · simp only [if_pos c1]
    by_cases c2 : w2 (Dg n f (k + 2)) (Dg n f (k + 3)) (k + 2) 0 23 = 1000
    · simp only [if_pos c2]
      unfold w1
      by_cases c4 : dg (by_ n f (k + 4)) ≤ 8
      · have t10 : ¬ dg (by_ n f (k + 4)) = 10 := by omega
        have t8 : ¬ 8 < dg (by_ n f (k + 4)) := by omega
        simp only [if_pos c4, if_neg t10, if_neg t8, if_neg (show ¬ (1 : Int32) = 0 by decide), if_true]
        by_cases c5 : dg (by_ n f (k + 5)) ≤ 8
        · have u10 : ¬ dg (by_ n f (k + 5)) = 10 := by omega
          have u8 : ¬ 8 < dg (by_ n f (k + 5)) := by omega
          simp only [if_pos c5, if_neg u10, if_neg u8, if_neg (show ¬ (1 : Int32) = 0 by decide), if_true]
          have hfe : (fv (dg (by_ n f (k + 5))) = fv (dg (by_ n f (k + 4)))) ↔ (dg (by_ n f (k + 4)) = dg (by_ n f (k + 5))) := by
            unfold fv
            rw [if_neg (by omega), if_neg (by omega), eq_nI (by omega) (by omega)]
            exact ⟨fun q => q.symm, fun q => q.symm⟩
          by_cases ce : dg (by_ n f (k + 4)) = dg (by_ n f (k + 5))
          · simp only [if_pos (hfe.mpr ce), if_pos ce, if_neg (show ¬ k + 5 = 1000 by omega)]
            rw [en_n (by omega)]
          · simp only [if_neg (show ¬ fv (dg (by_ n f (k + 5))) = fv (dg (by_ n f (k + 4))) from fun q => ce (hfe.mp q)), if_neg ce, if_true]
            by_cases c6 : dg (by_ n f (k + 6)) = 10
            · simp only [if_pos c6, if_neg (show ¬ k + 6 = 1000 by omega)]
              rw [en_n (by omega)]
            · simp only [if_neg c6, if_neg (show ¬ 9 < dg (by_ n f (k + 6)) by omega), if_true]
              by_cases c7 : dg (by_ n f (k + 7)) = 10
              · simp only [if_pos c7]
                rw [en_n (by omega)]
              · simp only [if_neg c7, if_neg (show ¬ 9 < dg (by_ n f (k + 7)) by omega)]
                rfl
        · simp only [if_neg c5, if_true]
          by_cases c5' : dg (by_ n f (k + 5)) = 10
          · simp only [if_pos c5', if_neg (show ¬ k + 5 = 1000 by omega)]
            rw [en_n (by omega)]
          · simp only [if_neg c5', if_pos (show 8 < dg (by_ n f (k + 5)) by omega), if_neg (show ¬ k + 5 = 1000 by omega)]
            rw [en_n (by omega)]
      · simp only [if_neg c4, if_true]
        by_cases c4' : dg (by_ n f (k + 4)) = 10
        · simp only [if_pos c4', if_neg (show ¬ k + 4 = 1000 by omega)]
          rw [en_n (by omega)]
        · simp only [if_neg c4', if_pos (show 8 < dg (by_ n f (k + 4)) by omega), if_neg (show ¬ k + 4 = 1000 by omega)]
          rw [en_n (by omega)]
    · simp only [if_neg c2]
  · simp only [if_neg c1]
/-- a thing -/
theorem m29T {τ : Mm} {n p t : Nat} {f : Nat → Int32} (h : TXm τ n f) (hp : p < 200) (hb : by_ n f p = 116) (h3 : τ 0 3 = nI t) (ht : t < 6) : ∃ τ', (∀ K, fX8_reads_29 K (nI p) τ = fX8_reads_386 K (nI (p + 7 + if by_ n f (p + 7) = 33 then 1 else 0)) (en (wT (Dg n f) (p + 1))) τ') ∧ Fr (fun k i => (k = 0 ∧ i = 3) ∨ (3 ≤ k ∧ k ≤ 6 ∧ i = t)) τ τ' ∧ τ' 0 3 = nI (t + 1) ∧ τ' 3 t = 10 * fv (Dg n f (p + 1)) + fv (Dg n f (p + 2)) ∧ τ' 4 t = 10 * fv (Dg n f (p + 3)) + fv (Dg n f (p + 4)) ∧ τ' 5 t = 10 * fv (Dg n f (p + 5)) + fv (Dg n f (p + 6)) ∧ τ' 6 t = nI (if by_ n f (p + 7) = 33 then 1 else 0) := by
  have e1 : nI p + 1 = nI (p + 1) := nI_1 p
  have e3 : nI p + 3 = nI (p + 3) := nI_add p 3
  have e5 : nI p + 5 = nI (p + 5) := nI_add p 5
  have e7 : nI p + 7 = nI (p + 7) := nI_add p 7
  have e8 : nI p + 8 = nI (p + 8) := nI_add p 8
  have i7 : ms_in (nI t) 7 := in_nI (by omega) (by decide)
  have ixt : ms_ix (nI t) = t := ix_nI (by omega)
  generalize hn1 : (10 * fv (Dg n f (p + 1)) + fv (Dg n f (p + 2))) = n1
  generalize hn2 : (10 * fv (Dg n f (p + 3)) + fv (Dg n f (p + 4))) = n2
  generalize hn3 : (10 * fv (Dg n f (p + 5)) + fv (Dg n f (p + 6))) = n3
  generalize hs1 : ms_st τ 3 t n1 = τ1
  generalize hs2 : ms_st τ1 4 t n2 = τ2
  generalize hs3 : ms_st τ2 5 t n3 = τ3
  have F1 : Fr (fun k i => (k = 0 ∧ i = 3) ∨ (3 ≤ k ∧ k ≤ 6 ∧ i = t)) τ τ1 := by rw [← hs1]; exact Fr.rf.st _ (Or.inr ⟨by decide, by decide, rfl⟩)
  have F2 : Fr (fun k i => (k = 0 ∧ i = 3) ∨ (3 ≤ k ∧ k ≤ 6 ∧ i = t)) τ τ2 := by rw [← hs2]; exact F1.st _ (Or.inr ⟨by decide, by decide, rfl⟩)
  have F3 : Fr (fun k i => (k = 0 ∧ i = 3) ∨ (3 ≤ k ∧ k ≤ 6 ∧ i = t)) τ τ3 := by rw [← hs3]; exact F2.st _ (Or.inr ⟨by decide, by decide, rfl⟩)
  have T1 := h.fr F1 (by simp) (fun i => by simp)
  have T2 := h.fr F2 (by simp) (fun i => by simp)
  have T3 := h.fr F3 (by simp) (fun i => by simp)
  have z1 : τ1 0 3 = nI t := by rw [← hs1, ms_rd, if_neg (by simp)]; exact h3
  have z2 : τ2 0 3 = nI t := by rw [← hs2, ms_rd, if_neg (by simp)]; exact z1
  have z3 : τ3 0 3 = nI t := by rw [← hs3, ms_rd, if_neg (by simp)]; exact z2
  have q1 : fX8_numberAt τ (nI (p + 1)) = some n1 := by rw [← hn1]; exact numM h (p := p + 1) (by omega)
  have q2 : fX8_numberAt τ1 (nI (p + 3)) = some n2 := by rw [← hn2]; exact numM T1 (p := p + 3) (by omega)
  have q3 : fX8_numberAt τ2 (nI (p + 5)) = some n3 := by rw [← hn3]; exact numM T2 (p := p + 5) (by omega)
  have step : ∀ K, fX8_reads_29 K (nI p) τ = if by_ n f (p + 7) = 33 then fX8_reads_126 K (nI p) (en (wT (Dg n f) (p + 1))) 1 τ3 else fX8_reads_126 K (nI p) (en (wT (Dg n f) (p + 1))) 0 τ3 := by
    intro K
    unfold fX8_reads_29
    rw [byteM h (by omega), Option.bind_some, if_pos hb, h3, if_neg (by rw [show (6 : Int32) = nI 6 from rfl, le_nI (by decide) (by omega)]; omega), e1, wrThM h (by omega), Option.bind_some, q1, Option.bind_some, ms_g_t i7, ixt]
    simp only [ms_lt]
    rw [hs1, e3, q2, Option.bind_some, z1, ms_g_t i7, ixt, hs2, e5, q3, Option.bind_some, z2, ms_g_t i7, ixt, hs3, e7, byteM T3 (by omega), Option.bind_some]
  have tail : ∀ (is : Nat), is < 2 → ∀ K, fX8_reads_126 K (nI p) (en (wT (Dg n f) (p + 1))) (nI is) τ3 = fX8_reads_386 K (nI (p + 7 + is)) (en (wT (Dg n f) (p + 1))) (ms_st (ms_st τ3 6 t (nI is)) 0 3 (nI (t + 1))) := by
    intro is his K
    have rr : ms_st τ3 6 t (nI is) 0 3 = nI t := by rw [ms_rd, if_neg (by simp)]; exact z3
    unfold fX8_reads_126
    rcases (show is = 0 ∨ is = 1 by omega) with rfl | rfl
    · rw [if_pos (show nI 0 = (0 : Int32) from rfl), z3]
      unfold fX8_reads_146
      rw [ms_g_t i7, ixt]
      simp only [ms_lt]
      rw [show (0 : Int32) = nI 0 from rfl, rr, nI_1, if_pos rfl]
      unfold fX8_reads_170
      rw [e7]
    · rw [if_neg (show ¬ nI 1 = (0 : Int32) by decide), z3]
      unfold fX8_reads_146
      rw [ms_g_t i7, ixt]
      simp only [ms_lt]
      rw [if_neg (show ¬ nI 1 = (0 : Int32) by decide)]
      unfold fX8_reads_170
      rw [e8, show ms_st τ3 6 t 1 0 3 = nI t from rr, nI_1]; rfl
  refine ⟨ms_st (ms_st τ3 6 t (nI (if by_ n f (p + 7) = 33 then 1 else 0))) 0 3 (nI (t + 1)), fun K => ?_, (F3.st _ (Or.inr ⟨by decide, by decide, rfl⟩)).st _ (Or.inl ⟨rfl, rfl⟩), ?_, ?_, ?_, ?_, ?_⟩
  · rw [step K]
    by_cases c : by_ n f (p + 7) = 33
    · rw [if_pos c, if_pos c]; exact tail 1 (by decide) K
    · rw [if_neg c, if_neg c]; exact tail 0 (by decide) K
  · rw [ms_rd, if_pos (by simp)]
  · rw [ms_rd, if_neg (by simp), ms_rd, if_neg (by simp), ← hs3, ms_rd, if_neg (by simp), ← hs2, ms_rd, if_neg (by simp), ← hs1, ms_rd, if_pos (by simp)]
  · rw [ms_rd, if_neg (by simp), ms_rd, if_neg (by simp), ← hs3, ms_rd, if_neg (by simp), ← hs2, ms_rd, if_pos (by simp)]
  · rw [ms_rd, if_neg (by simp), ms_rd, if_neg (by simp), ← hs3, ms_rd, if_pos (by simp)]
  · rw [ms_rd, if_neg (by simp), ms_rd, if_pos (by simp)]
/-- a handle -/
theorem m29H {τ : Mm} {n p hb : Nat} {f : Nat → Int32} (h : TXm τ n f) (hp : p < 200) (hby : by_ n f p = 104) (h10 : τ 0 10 = nI hb) (hhb : hb < 512) : ∃ τ', (∀ K, fX8_reads_29 K (nI p) τ = fX8_reads_386 K (nI (p + 2)) (en (wH (Dg n f) hb (p + 1))) τ') ∧ Fr (fun k i => k = 0 ∧ i = 10) τ τ' ∧ (wH (Dg n f) hb (p + 1) = 1000 → τ' 0 10 = nI hb ||| ms_shl 1 (nI (Dg n f (p + 1)))) := by
  have e1 : nI p + 1 = nI (p + 1) := nI_1 p
  have e2 : nI p + 2 = nI (p + 2) := nI_add p 2
  have d1 := dg_10 (by_ n f (p + 1))
  have b2 := bt_2 hb (dg (by_ n f (p + 1)))
  have f1 := figM h (p := p + 1) (by omega)
  have start : ∀ K, fX8_reads_29 K (nI p) τ = fX8_reads_175 K (nI p) 104 τ := by
    intro K
    unfold fX8_reads_29
    rw [byteM h (by omega), Option.bind_some, hby, if_neg (by decide)]
  by_cases c : dg (by_ n f (p + 1)) ≤ 8
  · by_cases cb : bt hb (dg (by_ n f (p + 1))) = 1
    · have ew : wH (Dg n f) hb (p + 1) = p + 1 := by
        unfold wH f2 w1
        rw [if_neg (show ¬ Dg n f (p + 1) = 10 by show ¬ dg (by_ n f (p + 1)) = 10; omega), if_neg (show ¬ 8 < Dg n f (p + 1) by show ¬ 8 < dg (by_ n f (p + 1)); omega), if_pos rfl, if_pos (show bt hb (Dg n f (p + 1)) = 1 from cb)]
      refine ⟨ms_st τ 0 10 (nI hb ||| 0), fun K => ?_, Fr.rf.st _ ⟨rfl, rfl⟩, fun q => by omega⟩
      rw [start, ew, en_n (by omega)]
      unfold fX8_reads_175
      rw [if_pos rfl, e1, f1, Option.bind_some, in08 d1, if_pos c, Option.bind_some, if_neg (by decide), h10]
      have efv : fv (dg (by_ n f (p + 1))) = nI (dg (by_ n f (p + 1))) := by unfold fv; rw [if_neg (by omega)]
      rw [efv, isIn_M (by omega) (by omega), cb, Option.bind_some, if_neg (show ¬ nI 1 = (0 : Int32) by decide)]
      unfold fX8_reads_213 fX8_reads_220 fX8_reads_239
      rw [e1, if_neg (m1_ne (by omega)), h10, e2]; rfl
    · have ew : wH (Dg n f) hb (p + 1) = 1000 := by
        unfold wH f2 w1
        rw [if_neg (show ¬ Dg n f (p + 1) = 10 by show ¬ dg (by_ n f (p + 1)) = 10; omega), if_neg (show ¬ 8 < Dg n f (p + 1) by show ¬ 8 < dg (by_ n f (p + 1)); omega), if_pos rfl, if_neg (show ¬ bt hb (Dg n f (p + 1)) = 1 from cb)]
      refine ⟨ms_st τ 0 10 (nI hb ||| ms_shl 1 (nI (Dg n f (p + 1)))), fun K => ?_, Fr.rf.st _ ⟨rfl, rfl⟩, fun _ => by rw [ms_rd, if_pos (by decide)]⟩
      rw [start, ew, en_m1]
      unfold fX8_reads_175
      rw [if_pos rfl, e1, f1, Option.bind_some, in08 d1, if_pos c, Option.bind_some, if_neg (by decide), h10]
      have efv : fv (dg (by_ n f (p + 1))) = nI (dg (by_ n f (p + 1))) := by unfold fv; rw [if_neg (by omega)]
      rw [efv, isIn_M (by omega) (by omega), show bt hb (dg (by_ n f (p + 1))) = 0 by omega, Option.bind_some, if_pos (show nI 0 = (0 : Int32) from rfl)]
      unfold fX8_reads_220 fX8_reads_239
      rw [if_pos rfl, h10, e2]; rfl
  · have ew : wH (Dg n f) hb (p + 1) = p + 1 := by
      unfold wH f2 w1
      by_cases c10 : Dg n f (p + 1) = 10
      · rw [if_pos c10, if_neg (by omega)]
      · rw [if_neg c10, if_pos (show 8 < Dg n f (p + 1) by show 8 < dg (by_ n f (p + 1)); omega), if_neg (by omega)]
    refine ⟨ms_st τ 0 10 (nI hb ||| 0), fun K => ?_, Fr.rf.st _ ⟨rfl, rfl⟩, fun q => by omega⟩
    rw [start, ew, en_n (by omega)]
    unfold fX8_reads_175
    rw [if_pos rfl, e1, f1, Option.bind_some, in08 d1, if_neg c, Option.bind_some, if_pos rfl]
    unfold fX8_reads_213 fX8_reads_220 fX8_reads_239
    rw [e1, if_neg (m1_ne (by omega)), h10, e2]; rfl
/-- a group -/
theorem m29G {τ : Mm} {n p g : Nat} {f : Nat → Int32} (h : TXm τ n f) (hp : p < 200) (hby : by_ n f p = 103) (h11 : τ 0 11 = nI g) (hg : g < 8) : ∃ τ', (∀ K, fX8_reads_29 K (nI p) τ = fX8_reads_386 K (nI (p + 9)) (en (wG (Dg n f) (p + 1))) τ') ∧ Fr (fun k i => (k = 0 ∧ i = 11) ∨ (9 ≤ k ∧ k ≤ 10 ∧ i = g) ∨ (11 ≤ k ∧ k ≤ 12 ∧ 2 * g ≤ i ∧ i < 2 * g + 2)) τ τ' ∧ τ' 0 11 = nI (g + 1) ∧ τ' 9 g = 10 * fv (Dg n f (p + 1)) + fv (Dg n f (p + 2)) ∧ τ' 10 g = 10 * fv (Dg n f (p + 3)) + fv (Dg n f (p + 4)) ∧ τ' 11 (2 * g) = fv (Dg n f (p + 5)) ∧ τ' 11 (2 * g + 1) = fv (Dg n f (p + 6)) ∧ τ' 12 (2 * g) = fv (Dg n f (p + 7)) ∧ τ' 12 (2 * g + 1) = fv (Dg n f (p + 8)) := by
  have e1 : nI p + 1 = nI (p + 1) := nI_1 p
  have e3 : nI p + 3 = nI (p + 3) := nI_add p 3
  have e9 : nI p + 9 = nI (p + 9) := nI_add p 9
  have e50 : nI p + 5 + 0 = nI (p + 5) := by rw [Int32.add_zero]; exact nI_add p 5
  have e70 : nI p + 7 + 0 = nI (p + 7) := by rw [Int32.add_zero]; exact nI_add p 7
  have e51 : nI p + 5 + (0 + 1) = nI (p + 6) := by rw [show (5 : Int32) = nI 5 from rfl, show (0 : Int32) + 1 = nI 1 from rfl, nI_add, nI_add]
  have e71 : nI p + 7 + (0 + 1) = nI (p + 8) := by rw [show (7 : Int32) = nI 7 from rfl, show (0 : Int32) + 1 = nI 1 from rfl, nI_add, nI_add]
  have i9 : ms_in (nI g) 9 := in_nI (by omega) (by decide)
  have ixg : ms_ix (nI g) = g := ix_nI (by omega)
  have s0 : (2 : Int32) * nI g + 0 = nI (2 * g) := by rw [show (2 : Int32) = nI 2 from rfl, pk_mul, Int32.add_zero]
  have s1 : (2 : Int32) * nI g + (0 + 1) = nI (2 * g + 1) := by rw [show (2 : Int32) = nI 2 from rfl, show (0 : Int32) + 1 = nI 1 from rfl, pk_mul, nI_add]
  have j0 : ms_in (nI (2 * g)) 18 := in_nI (by omega) (by decide)
  have j1 : ms_in (nI (2 * g + 1)) 18 := in_nI (by omega) (by decide)
  have x0 : ms_ix (nI (2 * g)) = 2 * g := ix_nI (by omega)
  have x1 : ms_ix (nI (2 * g + 1)) = 2 * g + 1 := ix_nI (by omega)
  generalize hn1 : (10 * fv (Dg n f (p + 1)) + fv (Dg n f (p + 2))) = n1
  generalize hn2 : (10 * fv (Dg n f (p + 3)) + fv (Dg n f (p + 4))) = n2
  generalize hs1 : ms_st τ 9 g n1 = τ1
  generalize hs2 : ms_st τ1 10 g n2 = τ2
  generalize hs3 : ms_st τ2 11 (2 * g) (fv (Dg n f (p + 5))) = τ3
  generalize hs4 : ms_st τ3 12 (2 * g) (fv (Dg n f (p + 7))) = τ4
  generalize hs5 : ms_st τ4 11 (2 * g + 1) (fv (Dg n f (p + 6))) = τ5
  generalize hs6 : ms_st τ5 12 (2 * g + 1) (fv (Dg n f (p + 8))) = τ6
  have F1 : Fr (fun k i => (k = 0 ∧ i = 11) ∨ (9 ≤ k ∧ k ≤ 10 ∧ i = g) ∨ (11 ≤ k ∧ k ≤ 12 ∧ 2 * g ≤ i ∧ i < 2 * g + 2)) τ τ1 := by rw [← hs1]; exact Fr.rf.st _ (Or.inr (Or.inl ⟨by decide, by decide, rfl⟩))
  have F2 : Fr (fun k i => (k = 0 ∧ i = 11) ∨ (9 ≤ k ∧ k ≤ 10 ∧ i = g) ∨ (11 ≤ k ∧ k ≤ 12 ∧ 2 * g ≤ i ∧ i < 2 * g + 2)) τ τ2 := by rw [← hs2]; exact F1.st _ (Or.inr (Or.inl ⟨by decide, by decide, rfl⟩))
  have F3 : Fr (fun k i => (k = 0 ∧ i = 11) ∨ (9 ≤ k ∧ k ≤ 10 ∧ i = g) ∨ (11 ≤ k ∧ k ≤ 12 ∧ 2 * g ≤ i ∧ i < 2 * g + 2)) τ τ3 := by rw [← hs3]; exact F2.st _ (Or.inr (Or.inr ⟨by decide, by decide, by omega, by omega⟩))
  have F4 : Fr (fun k i => (k = 0 ∧ i = 11) ∨ (9 ≤ k ∧ k ≤ 10 ∧ i = g) ∨ (11 ≤ k ∧ k ≤ 12 ∧ 2 * g ≤ i ∧ i < 2 * g + 2)) τ τ4 := by rw [← hs4]; exact F3.st _ (Or.inr (Or.inr ⟨by decide, by decide, by omega, by omega⟩))
  have F5 : Fr (fun k i => (k = 0 ∧ i = 11) ∨ (9 ≤ k ∧ k ≤ 10 ∧ i = g) ∨ (11 ≤ k ∧ k ≤ 12 ∧ 2 * g ≤ i ∧ i < 2 * g + 2)) τ τ5 := by rw [← hs5]; exact F4.st _ (Or.inr (Or.inr ⟨by decide, by decide, by omega, by omega⟩))
  have F6 : Fr (fun k i => (k = 0 ∧ i = 11) ∨ (9 ≤ k ∧ k ≤ 10 ∧ i = g) ∨ (11 ≤ k ∧ k ≤ 12 ∧ 2 * g ≤ i ∧ i < 2 * g + 2)) τ τ6 := by rw [← hs6]; exact F5.st _ (Or.inr (Or.inr ⟨by decide, by decide, by omega, by omega⟩))
  have T1 := h.fr F1 (by simp) (fun i => by simp)
  have T2 := h.fr F2 (by simp) (fun i => by simp)
  have T3 := h.fr F3 (by simp) (fun i => by simp)
  have T4 := h.fr F4 (by simp) (fun i => by simp)
  have T5 := h.fr F5 (by simp) (fun i => by simp)
  have z1 : τ1 0 11 = nI g := by rw [← hs1, ms_rd, if_neg (by simp)]; exact h11
  have z2 : τ2 0 11 = nI g := by rw [← hs2, ms_rd, if_neg (by simp)]; exact z1
  have z3 : τ3 0 11 = nI g := by rw [← hs3, ms_rd, if_neg (by simp)]; exact z2
  have z4 : τ4 0 11 = nI g := by rw [← hs4, ms_rd, if_neg (by simp)]; exact z3
  have z5 : τ5 0 11 = nI g := by rw [← hs5, ms_rd, if_neg (by simp)]; exact z4
  have z6 : τ6 0 11 = nI g := by rw [← hs6, ms_rd, if_neg (by simp)]; exact z5
  have q1 : fX8_numberAt τ (nI (p + 1)) = some n1 := by rw [← hn1]; exact numM h (p := p + 1) (by omega)
  have q2 : fX8_numberAt τ1 (nI (p + 3)) = some n2 := by rw [← hn2]; exact numM T1 (p := p + 3) (by omega)
  have loop : ∀ K (m : Nat), fX8_reads_307 K (m + 3) (nI p) (en (wG (Dg n f) (p + 1))) 0 τ2 = fX8_reads_386 K (nI (p + 9)) (en (wG (Dg n f) (p + 1))) (ms_st τ6 0 11 (nI (g + 1))) := by
    intro K m
    rw [fX8_reads_307, if_neg (by decide), e50, e70, figM T2 (p := p + 5) (by omega), Option.bind_some, z2, s0, ms_g_t j0, x0]
    simp only [ms_lt]
    rw [show ms_st τ2 11 (2 * g) (fv (dg (by_ n f (p + 5)))) = τ3 from hs3, figM T3 (p := p + 7) (by omega), Option.bind_some, z3, s0, ms_g_t j0, x0, show ms_st τ3 12 (2 * g) (fv (dg (by_ n f (p + 7)))) = τ4 from hs4]
    rw [fX8_reads_307, if_neg (by decide), e51, e71, figM T4 (p := p + 6) (by omega), Option.bind_some, z4, s1, ms_g_t j1, x1]
    simp only [ms_lt]
    rw [show ms_st τ4 11 (2 * g + 1) (fv (dg (by_ n f (p + 6)))) = τ5 from hs5, figM T5 (p := p + 8) (by omega), Option.bind_some, z5, s1, ms_g_t j1, x1, show ms_st τ5 12 (2 * g + 1) (fv (dg (by_ n f (p + 8)))) = τ6 from hs6]
    rw [fX8_reads_307, if_pos (by decide)]
    simp only [ms_lt]
    rw [z6, nI_1, e9]
  refine ⟨ms_st τ6 0 11 (nI (g + 1)), fun K => ?_, F6.st _ (Or.inl ⟨rfl, rfl⟩), ?_, ?_, ?_, ?_, ?_, ?_, ?_⟩
  · unfold fX8_reads_29
    rw [byteM h (by omega), Option.bind_some, hby, if_neg (by decide)]
    unfold fX8_reads_175
    rw [if_neg (by decide), if_pos rfl, h11, if_neg (by rw [show (8 : Int32) = nI 8 from rfl, le_nI (by decide) (by omega)]; omega), e1, wrGrM h (by omega), Option.bind_some, q1, Option.bind_some, ms_g_t i9, ixg]
    simp only [ms_lt]
    rw [hs1, e3, q2, Option.bind_some, z1, ms_g_t i9, ixg, hs2]
    exact loop K 19997
  · rw [ms_rd, if_pos (by simp)]
  · rw [ms_rd, if_neg (by simp), ← hs6, ms_rd, if_neg (by simp), ← hs5, ms_rd, if_neg (by simp), ← hs4, ms_rd, if_neg (by simp), ← hs3, ms_rd, if_neg (by simp), ← hs2, ms_rd, if_neg (by simp), ← hs1, ms_rd, if_pos (by simp)]
  · rw [ms_rd, if_neg (by simp), ← hs6, ms_rd, if_neg (by simp), ← hs5, ms_rd, if_neg (by simp), ← hs4, ms_rd, if_neg (by simp), ← hs3, ms_rd, if_neg (by simp), ← hs2, ms_rd, if_pos (by simp)]
  · rw [ms_rd, if_neg (by simp), ← hs6, ms_rd, if_neg (by simp), ← hs5, ms_rd, if_neg (by simp), ← hs4, ms_rd, if_neg (by simp), ← hs3, ms_rd, if_pos (by simp)]
  · rw [ms_rd, if_neg (by simp), ← hs6, ms_rd, if_neg (by simp), ← hs5, ms_rd, if_pos (by simp)]
  · rw [ms_rd, if_neg (by simp), ← hs6, ms_rd, if_neg (by simp), ← hs5, ms_rd, if_neg (by simp), ← hs4, ms_rd, if_pos (by simp)]
  · rw [ms_rd, if_neg (by simp), ← hs6, ms_rd, if_pos (by simp)]
