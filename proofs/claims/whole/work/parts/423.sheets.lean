/-! ===== notes and sheets ===== -/
theorem n10 : ¬ (1 : Int32) = 0 := by decide
theorem Rel.nts {σ τ σ' τ' : Mm} (h : Rel σ τ) (hW : Fr (fun k i => (k = 22 ∧ (i = 3 ∨ i = 8)) ∨ k = 23 ∨ k = 24) σ σ') (hV : Fr (fun k i => (k = 0 ∧ i = 25) ∨ k = 22 ∨ k = 23) τ τ') (hn : NotesOK σ' τ') (h8 : σ' 22 8 = 0) : Rel σ' τ' := by
  obtain ⟨hc, hd, hp, ht⟩ := h
  have hF : Fr Wsh σ σ' := hW.mo fun k i q => Or.inr (by omega)
  obtain ⟨a, b, c, d, e, f, g, i, j, k, l⟩ := hc
  refine ⟨⟨a.fr (hW 1 3 (by simp)) (fun i => hW 2 i (by simp)) (hV 0 0 (by simp)) (fun i => hV 1 i (by simp)), b.fr hW (fun i => by simp) (fun i => by simp) (fun i => by simp) (fun i => by simp), c.cp (fun i => hW 5 i (by simp)), by rw [hW 0 3 (by simp)]; exact d, fun t ht => by rw [hW 6 t (by simp)]; exact e t ht, f.cp (fun i => hW 5 i (by simp)) (fun i => hV 2 i (by simp)), fun t ht => by rw [hV 7 t (by simp), sB_sr hF]; exact g t ht, fun t ht => by rw [hW 6 t (by simp), hV 8 t (by simp)]; exact i t ht, hn, fun s hs => (k s hs).cp (fun i => hW _ i (fun q => by omega)) (fun i => hW _ i (fun q => by omega)) (fun z h1 h2 => hV z s (fun q => by omega)) (fun i _ => hV _ _ (by simp)), by rw [hV 0 33 (by simp), hW 0 10 (by simp)]; exact l⟩, hd.sr hF, hp.sr hF, Or.inl h8⟩
theorem s_seen {σ τ : Mm} (h : Rel σ τ) (p0 p1 : Int32) : ∃ (r : Int32) (σ' τ' : Mm), fX7_seen p0 p1 σ = some (r, σ') ∧ fX8_seen p0 p1 τ = some (r, τ') ∧ Rel σ' τ' := by
  rcases hour_cases p0 with ⟨c1, c2⟩ | ⟨k, c0, rfl, c1, c2⟩
  · refine ⟨-2, σ, τ, ?_, ?_, h⟩
    · unfold fX7_seen
      rw [c1, Option.bind_some, if_pos rfl]
    · unfold fX8_seen
      rw [c2, Option.bind_some, if_pos rfl]
  rcases wi_cases p1 (a := 0) (b := 999) (by decide) (by decide) with d | ⟨w, -, d2, rfl, d4⟩
  · refine ⟨-2, σ, τ, ?_, ?_, h⟩
    · unfold fX7_seen
      rw [c1, Option.bind_some, if_neg (by decide), show fX7_within p1 0 999 = some 0 from d, Option.bind_some, if_pos rfl]
    · unfold fX8_seen
      rw [c2, Option.bind_some, if_neg (by decide), in_same, show fX7_within p1 0 999 = some 0 from d, Option.bind_some, if_pos rfl]
  obtain ⟨n1, n2, n3, n4, n5⟩ := h.1.notes
  have m1 : τ 0 25 = nI (sN σ) := n4.trans n1
  by_cases c12 : sN σ = 12
  · refine ⟨-4, σ, τ, ?_, ?_, h⟩
    · unfold fX7_seen
      rw [c1, Option.bind_some, if_neg (by decide), show fX7_within (nI w) 0 999 = some 1 from d4, Option.bind_some, if_neg (by decide), n1, c12, if_neg (by decide)]
    · unfold fX8_seen
      rw [c2, Option.bind_some, if_neg (by decide), in_same, show fX7_within (nI w) 0 999 = some 1 from d4, Option.bind_some, if_neg (by decide), m1, c12, if_pos (by decide)]
  have hn : sN σ < 12 := by omega
  generalize hN : sN σ = N at *
  refine ⟨nI (N + 1), ms_st (ms_st (ms_st (ms_st σ 23 N (nI k)) 24 N (nI w)) 22 3 (nI (N + 1))) 22 8 0, ms_st (ms_st (ms_st τ 22 N (nI k)) 23 N (nI w)) 0 25 (nI (N + 1)), ?_, ?_, ?_⟩
  · unfold fX7_seen fX5_note
    rw [c1, Option.bind_some, if_neg (by decide), show fX7_within (nI w) 0 999 = some 1 from d4, Option.bind_some, if_neg (by decide), n1, show (12 : Int32) = nI 12 from rfl, iflt (by omega) (by decide), if_pos hn, ifle (by decide) (by omega), if_neg (by omega), ms_g_t (in_nI hn (by decide)), ix_nI (by omega)]
    simp only [ms_lt]
    have e1 : ms_st σ 23 N (nI k) 22 3 = nI N := by rw [ms_rd, if_neg (by simp)]; exact n1
    have e2 : ms_st (ms_st σ 23 N (nI k)) 24 N (nI w) 22 3 = nI N := by rw [ms_rd, if_neg (by simp)]; exact e1
    rw [e1, ms_g_t (in_nI hn (by decide)), ix_nI (by omega), e2, nI_1, Option.bind_some]
    simp only [ms_rd]
    simp
  · unfold fX8_seen
    rw [c2, Option.bind_some, if_neg (by decide), in_same, show fX7_within (nI w) 0 999 = some 1 from d4, Option.bind_some, if_neg (by decide), m1, show (12 : Int32) = nI 12 from rfl, ifeq (by omega) (by decide), if_neg c12, ms_g_t (in_nI hn (by decide)), ix_nI (by omega)]
    simp only [ms_lt]
    have e1 : ms_st τ 22 N (nI k) 0 25 = nI N := by rw [ms_rd, if_neg (by simp)]; exact m1
    have e2 : ms_st (ms_st τ 22 N (nI k)) 23 N (nI w) 0 25 = nI N := by rw [ms_rd, if_neg (by simp)]; exact e1
    rw [e1, ms_g_t (in_nI hn (by decide)), ix_nI (by omega), e2, nI_1]
    simp only [ms_rd]
    simp
  · refine h.nts ((((Fr.rf.st _ (Or.inr (Or.inl rfl))).st _ (Or.inr (Or.inr rfl))).st _ (Or.inl ⟨rfl, Or.inl rfl⟩)).st _ (Or.inl ⟨rfl, Or.inr rfl⟩)) (((Fr.rf.st _ (Or.inr (Or.inl rfl))).st _ (Or.inr (Or.inr rfl))).st _ (Or.inl ⟨rfl, rfl⟩)) ?_ (by rw [ms_rd, if_pos (by decide)])
    have eN : sN (ms_st (ms_st (ms_st (ms_st σ 23 N (nI k)) 24 N (nI w)) 22 3 (nI (N + 1))) 22 8 0) = N + 1 := by
      unfold sN
      rw [ms_rd, if_neg (by decide), ms_rd, if_pos (by decide), ix_nI (by omega)]
    unfold NotesOK
    rw [eN]
    refine ⟨by rw [ms_rd, if_neg (by decide), ms_rd, if_pos (by decide)], by omega, fun i hi => ?_, by simp only [ms_rd]; simp, fun i hi => ?_⟩
    · simp only [ms_rd]
      by_cases q : i = N
      · simp [q]; exact ⟨⟨k, c0, rfl⟩, ⟨w, by omega, rfl⟩⟩
      · simp [q]; exact n3 i (by omega)
    · simp only [ms_rd]
      by_cases q : i = N
      · simp [q]
      · simp [q]; exact n5 i hi
theorem s_forget {σ τ : Mm} (h : Rel σ τ) : ∃ (r : Int32) (σ' τ' : Mm), fX7_forget σ = some (r, σ') ∧ fX8_forget τ = some (r, τ') ∧ Rel σ' τ' := by
  obtain ⟨n1, n2, n3, n4, n5⟩ := h.1.notes
  refine ⟨σ 22 3, ms_st (ms_st σ 22 3 0) 22 8 0, ms_st τ 0 25 0, ?_, ?_, ?_⟩
  · unfold fX7_forget fX5_clearNotes
    simp only [ms_lt, Option.bind_some]
  · unfold fX8_forget
    simp only [ms_lt]
    rw [n4]
  · refine h.nts ((Fr.rf.st _ (Or.inl ⟨rfl, Or.inl rfl⟩)).st _ (Or.inl ⟨rfl, Or.inr rfl⟩)) (Fr.rf.st _ (Or.inl ⟨rfl, rfl⟩)) ?_ (by rw [ms_rd, if_pos (by decide)])
    have eN : sN (ms_st (ms_st σ 22 3 0) 22 8 0) = 0 := by
      unfold sN
      rw [ms_rd, if_neg (by decide), ms_rd, if_pos (by decide)]
      rfl
    unfold NotesOK
    rw [eN]
    refine ⟨by simp only [ms_rd]; simp; rfl, by omega, fun i hi => by omega, by simp only [ms_rd]; simp, fun i hi => ?_⟩
    simp only [ms_rd]; simp; exact n5 i hi
/-! what is found -/
theorem Core.sht {σ τ : Mm} (h : Core σ τ) : ∀ s, s < 4 → SheetOK σ τ s := h.2.2.2.2.2.2.2.2.2.1
theorem findR {σ τ : Mm} (h : Rel σ τ) (p : Int32) : Rel (ms_st σ 0 10 p) (ms_st τ 0 33 p) := by
  have F : Fr (fun k i => k = 0 ∧ i = 10) σ (ms_st σ 0 10 p) := Fr.rf.st _ ⟨rfl, rfl⟩
  have G : Fr (fun k i => k = 0 ∧ i = 33) τ (ms_st τ 0 33 p) := Fr.rf.st _ ⟨rfl, rfl⟩
  exact h.shs (F.mo fun k i q => Or.inl q) (G.mo fun k i q => Or.inl q) (fun s hs => (h.1.sht s hs).cp (fun i => F _ i (fun q => by have := q.1; omega)) (fun i => F _ i (fun q => by have := q.1; omega)) (fun z h1 h2 => G z s (fun q => by have := q.1; omega)) (fun i _ => G _ _ (by simp))) (by rw [ms_rd, if_pos (by decide), ms_rd, if_pos (by decide)])
theorem sheet_cases (p : Int32) : (fX7_isSheet p = some 0 ∧ fX8_isSheet p = some 0) ∨ (∃ s, s < 4 ∧ p = nI s ∧ fX7_isSheet p = some 1 ∧ fX8_isSheet p = some 1) := by
  unfold fX7_isSheet fX8_isSheet
  rw [in_same]
  rcases wi_cases p (a := 0) (b := 3) (by decide) (by decide) with c | ⟨w, c1, c2, c3, c4⟩
  · rw [show fX7_within p 0 3 = some 0 from c, Option.bind_some, ms_g_t (Or.inl rfl)]
    exact Or.inl ⟨rfl, rfl⟩
  · rw [show fX7_within p 0 3 = some 1 from c4, Option.bind_some, ms_g_t (Or.inr rfl)]
    exact Or.inr ⟨w, by omega, c3, rfl, rfl⟩
theorem form_cases (p : Int32) : (fX7_isForm p = some 0 ∧ fX8_in p 0 2 = some 0) ∨ (∃ s, s < 3 ∧ p = nI s ∧ fX7_isForm p = some 1 ∧ fX8_in p 0 2 = some 1) := by
  unfold fX7_isForm
  rw [in_same]
  rcases wi_cases p (a := 0) (b := 2) (by decide) (by decide) with c | ⟨w, c1, c2, c3, c4⟩
  · rw [show fX7_within p 0 2 = some 0 from c, Option.bind_some, ms_g_t (Or.inl rfl)]
    exact Or.inl ⟨rfl, rfl⟩
  · rw [show fX7_within p 0 2 = some 1 from c4, Option.bind_some, ms_g_t (Or.inr rfl)]
    exact Or.inr ⟨w, by omega, c3, rfl, rfl⟩
theorem Rel.sh1 {σ τ σ' τ' : Mm} (h : Rel σ τ) {s : Nat} (hs : s < 4) (hW : Fr (fun k _ => k = 27 + 2 * s ∨ k = 28 + 2 * s) σ σ') (hV : Fr (fun k i => (24 ≤ k ∧ k ≤ 26 ∧ i = s) ∨ (k = 27 ∧ 48 * s ≤ i ∧ i < 48 * s + 48) ∨ k = 28) τ τ') (ho : SheetOK σ' τ' s) : Rel σ' τ' := by
  refine h.shs (hW.mo fun k i q => Or.inr (by omega)) (hV.mo fun k i q => Or.inr (by omega)) (fun z hz => ?_) (by rw [hV 0 33 (by simp), hW 0 10 (by omega)]; exact h.1.2.2.2.2.2.2.2.2.2.2)
  by_cases c : z = s
  · rw [c]; exact ho
  · exact (h.1.sht z hz).cp (fun i => hW _ _ (by omega)) (fun i => hW _ _ (by omega)) (fun k h1 h2 => hV _ _ (by omega)) (fun i hi => hV _ _ (by omega))
theorem s_lose {σ τ : Mm} (h : Rel σ τ) (p0 : Int32) : ∃ (r : Int32) (σ' τ' : Mm), fX7_lose p0 σ = some (r, σ') ∧ fX8_lose p0 τ = some (r, τ') ∧ Rel σ' τ' := by
  rcases sheet_cases p0 with ⟨c1, c2⟩ | ⟨s, hs, rfl, c1, c2⟩
  · refine ⟨-2, σ, τ, ?_, ?_, h⟩
    · unfold fX7_lose
      rw [c1, Option.bind_some, if_pos rfl]
    · unfold fX8_lose
      rw [c2, Option.bind_some, if_pos rfl]
  have i4 : ms_in (nI s) 4 := in_nI hs (by decide)
  have ixs : ms_ix (nI s) = s := ix_nI (by omega)
  obtain ⟨a, b, c, d, e, f⟩ := h.1.sht s hs
  unfold fX7_lose fX8_lose
  rw [c1, c2, Option.bind_some, Option.bind_some, if_neg n10, if_neg n10, ixs]
  simp only [ms_g_t i4, ms_lt]
  rcases a with ⟨a1, a2⟩ | ⟨a1, a2⟩
  · rw [if_pos a1, if_neg (show ¬ τ 24 s = 0 by rw [a2]; decide)]
    refine ⟨ms_st σ (27 + 2 * s) 3 1 (27 + 2 * s) 2, ms_st σ (27 + 2 * s) 3 1, ms_st τ 24 s 0, rfl, ?_, h.sh1 hs (Fr.rf.st _ (Or.inl rfl)) (Fr.rf.st _ (Or.inl ⟨by decide, by decide, rfl⟩)) ⟨Or.inr ⟨by rw [ms_rd, if_pos ⟨rfl, rfl⟩], by rw [ms_rd, if_pos ⟨rfl, rfl⟩]⟩, ?_, ?_, ?_, ?_, fun i hi => ?_⟩⟩
    · rw [ms_rd, if_neg (by simp), ms_rd, if_neg (by simp), e]
    · rw [ms_rd, if_neg (by simp)]; exact b
    · rw [ms_rd, if_neg (by simp)]; exact c
    · rw [ms_rd, if_neg (by simp), ms_rd, if_neg (by simp)]; exact d
    · rw [ms_rd, if_neg (by simp), ms_rd, if_neg (by simp)]; exact e
    · rw [ms_rd, if_neg (by simp), ms_rd, if_neg (by omega)]; exact f i hi
  · rw [if_neg (show ¬ σ (27 + 2 * s) 3 = 0 by rw [a1]; decide), if_pos a2]
    unfold fX7_find fX8_meets
    simp only [ms_lt, Option.bind_some]
    exact ⟨_, _, _, rfl, rfl, findR h 1⟩
theorem sht59 {s : Nat} (hs : s < 4) (v : Int32) : ∀ (d n i : Nat), i + d = 48 → d < n → ∀ τ : Mm, (∀ j, j < i → τ 27 (48 * s + j) = 0) → ∃ τ', fX8_sheet_59 n (nI s) v (nI i) τ = some (v, τ') ∧ Fr (fun k i => k = 27 ∧ 48 * s ≤ i ∧ i < 48 * s + 48) τ τ' ∧ ∀ j, j < 48 → τ' 27 (48 * s + j) = 0 := by
  intro d
  induction d with
  | zero =>
    intro n i hd hn τ hj
    obtain ⟨n, rfl⟩ : ∃ z, n = z + 1 := ⟨n - 1, by omega⟩
    obtain rfl : i = 48 := by omega
    rw [fX8_sheet_59, if_pos (by decide)]
    exact ⟨τ, rfl, Fr.rf, hj⟩
  | succ d ih =>
    intro n i hd hn τ hj
    obtain ⟨n, rfl⟩ : ∃ z, n = z + 1 := ⟨n - 1, by omega⟩
    have e1 : (48 : Int32) * nI s + nI i = nI (48 * s + i) := by rw [show (48 : Int32) = nI 48 from rfl, pk_mul, nI_add]
    have c48 : ¬ (48 : Int32) ≤ nI i := by rw [show (48 : Int32) = nI 48 from rfl, le_nI (by decide) (by omega)]; omega
    rw [fX8_sheet_59, if_neg c48, e1, ms_g_t (in_nI (by omega) (by decide)), ix_nI (by omega)]
    simp only [ms_lt]
    rw [nI_1]
    have F : Fr (fun k i => k = 27 ∧ 48 * s ≤ i ∧ i < 48 * s + 48) τ (ms_st τ 27 (48 * s + i) 0) := Fr.rf.st _ ⟨rfl, by omega, by omega⟩
    obtain ⟨τ', q1, q2, q3⟩ := ih n (i + 1) (by omega) (by omega) (ms_st τ 27 (48 * s + i) 0) (fun j hj' => by
      rw [ms_rd]
      by_cases q : j = i
      · rw [if_pos ⟨rfl, by omega⟩]
      · rw [if_neg (by omega)]; exact hj j (by omega))
    exact ⟨τ', q1, F.tr q2, q3⟩
theorem s_sheet {σ τ : Mm} (h : Rel σ τ) (p0 p1 p2 : Int32) : ∃ (r : Int32) (σ' τ' : Mm), fX7_sheet p0 p1 p2 σ = some (r, σ') ∧ fX8_sheet p0 p1 p2 τ = some (r, τ') ∧ Rel σ' τ' := by
  rcases sheet_cases p0 with ⟨c1, c2⟩ | ⟨s, hs, rfl, c1, c2⟩
  · refine ⟨-2, σ, τ, ?_, ?_, h⟩
    · unfold fX7_sheet
      rw [c1, Option.bind_some, if_pos rfl]
    · unfold fX8_sheet
      rw [c2, Option.bind_some, if_pos rfl]
  rcases form_cases p1 with ⟨d1, d2⟩ | ⟨f, hf, rfl, d1, d2⟩
  · refine ⟨-2, σ, τ, ?_, ?_, h⟩
    · unfold fX7_sheet
      rw [c1, Option.bind_some, if_neg (by decide), d1, Option.bind_some, if_pos rfl]
    · unfold fX8_sheet
      rw [c2, Option.bind_some, if_neg (by decide), d2, Option.bind_some, if_pos rfl]
  have i4 : ms_in (nI s) 4 := in_nI hs (by decide)
  have ixs : ms_ix (nI s) = s := ix_nI (by omega)
  by_cases c48 : p2 ≤ 48
  · by_cases c0 : 0 ≤ p2
    · obtain ⟨z, hz, rfl⟩ := nI_of (show ¬ p2 < 0 from fun q => by
        rw [Int32.lt_iff_toInt_lt] at q
        rw [Int32.le_iff_toInt_le] at c0
        omega)
      have hz48 : z ≤ 48 := by
        rw [show (48 : Int32) = nI 48 from rfl, le_nI hz (by decide)] at c48
        exact c48
      generalize hτ1 : ms_st (ms_st (ms_st τ 24 s 1) 25 s (nI f)) 26 s (nI z) = τ1
      obtain ⟨τ2, q1, q2, q3⟩ := sht59 hs (nI z) 48 ms_fu 0 (by decide) (fu_lt (by decide)) τ1 (fun j hj => by omega)
      generalize hσ1 : ms_st (ms_st (ms_st (ms_fl1 σ (28 + 2 * s) 48 0) (27 + 2 * s) 1 (nI f)) (27 + 2 * s) 2 (nI z)) (27 + 2 * s) 3 0 = σ1
      refine ⟨nI z, σ1, τ2, ?_, ?_, ?_⟩
      · unfold fX7_sheet fX2_renew
        rw [c1, Option.bind_some, if_neg (by decide), d1, Option.bind_some, if_neg (by decide), if_pos c48, if_pos c0, ms_g_t i4, ixs]
        simp only [ms_lt, Option.bind_some]
        rw [hσ1]
      · unfold fX8_sheet
        rw [c2, Option.bind_some, if_neg (by decide), d2, Option.bind_some, if_neg (by decide), if_pos c48, if_pos c0, ms_g_t i4, ixs]
        simp only [ms_lt, ms_g_t i4]
        rw [hτ1]
        exact q1
      · have F : Fr (fun k _ => k = 27 + 2 * s ∨ k = 28 + 2 * s) σ σ1 := by
          rw [← hσ1]
          exact (((Fr.rf.row (fun _ => Or.inr rfl)).st _ (Or.inl rfl)).st _ (Or.inl rfl)).st _ (Or.inl rfl)
        have G1 : Fr (fun k i => (24 ≤ k ∧ k ≤ 26 ∧ i = s) ∨ (k = 27 ∧ 48 * s ≤ i ∧ i < 48 * s + 48) ∨ k = 28) τ τ1 := by
          rw [← hτ1]
          exact ((Fr.rf.st _ (Or.inl ⟨by decide, by decide, rfl⟩)).st _ (Or.inl ⟨by decide, by decide, rfl⟩)).st _ (Or.inl ⟨by decide, by decide, rfl⟩)
        refine h.sh1 hs F (G1.tr (q2.mo fun k i q => Or.inr (Or.inl q))) ⟨Or.inl ⟨?_, ?_⟩, ⟨f, hf, ?_⟩, ⟨z, by omega, ?_⟩, ?_, ?_, fun i hi => ?_⟩
        · rw [← hσ1, ms_rd, if_pos ⟨rfl, rfl⟩]
        · rw [q2 24 s (by simp), ← hτ1]; simp only [ms_rd]; simp
        · rw [← hσ1]; simp only [ms_rd]; simp
        · rw [← hσ1]; simp only [ms_rd]; simp
        · rw [q2 25 s (by simp), ← hτ1, ← hσ1]; simp only [ms_rd]; simp
        · rw [q2 26 s (by simp), ← hτ1, ← hσ1]; simp only [ms_rd]; simp
        · rw [q3 i hi, ← hσ1, ms_rd, if_neg (by omega), ms_rd, if_neg (by omega), ms_rd, if_neg (by omega)]
          unfold ms_fl1 ms_fp
          rw [ms_rdr, if_pos rfl, if_pos hi]
    · unfold fX7_sheet fX8_sheet
      rw [c1, c2, Option.bind_some, Option.bind_some, if_neg n10, if_neg n10, d1, d2, Option.bind_some, Option.bind_some, if_neg n10, if_neg n10, if_pos c48, if_pos c48, if_neg c0, if_neg c0]
      unfold fX7_find fX8_meets
      simp only [ms_lt, Option.bind_some]
      exact ⟨_, _, _, rfl, rfl, findR h 5⟩
  · unfold fX7_sheet fX8_sheet
    rw [c1, c2, Option.bind_some, Option.bind_some, if_neg n10, if_neg n10, d1, d2, Option.bind_some, Option.bind_some, if_neg n10, if_neg n10, if_neg c48, if_neg c48]
    exact ⟨_, _, _, rfl, rfl, h⟩
/-! put and get -/
theorem lack_s {σ τ : Mm} (h : Rel σ τ) {s : Nat} (hs : s < 4) (p1 p2 : Int32) : ∃ r : Int32, fX7_findingOfItem σ s p1 p2 = some r ∧ fX8_lacks τ (nI s) p1 p2 = some r ∧ ((r = 0 ∧ ∃ i, i < 48 ∧ p2 = nI i) ∨ (¬ r = 0 ∧ ¬ r ≤ 0)) := by
  have i4 : ms_in (nI s) 4 := in_nI hs (by decide)
  have ixs : ms_ix (nI s) = s := ix_nI (by omega)
  obtain ⟨a, b, ⟨z, z1, z2⟩, d, e, f⟩ := h.1.sht s hs
  unfold fX7_findingOfItem fX8_lacks
  simp only [ms_g_t i4, ixs]
  rw [d, e, z2]
  rcases a with ⟨a1, a2⟩ | ⟨a1, a2⟩
  · rw [if_pos a1, if_neg (show ¬ τ 24 s = 0 by rw [a2]; decide)]
    by_cases c : σ (27 + 2 * s) 1 = p1
    · rw [if_pos c, if_pos c]
      rcases has_cases p2 (n := z) (by omega) with ⟨-, q⟩ | ⟨i, q1, q2, -, q⟩
      · rw [← in_same, q, Option.bind_some, if_pos rfl]
        exact ⟨2, rfl, rfl, Or.inr ⟨by decide, by decide⟩⟩
      · rw [← in_same, q, Option.bind_some, if_neg (by decide)]
        exact ⟨0, rfl, rfl, Or.inl ⟨rfl, i, by omega, q2⟩⟩
    · rw [if_neg c, if_neg c]
      exact ⟨3, rfl, rfl, Or.inr ⟨by decide, by decide⟩⟩
  · rw [if_neg (show ¬ σ (27 + 2 * s) 3 = 0 by rw [a1]; decide), if_pos a2]
    exact ⟨1, rfl, rfl, Or.inr ⟨by decide, by decide⟩⟩
theorem itemR {σ τ : Mm} (h : Rel σ τ) {s i : Nat} (hs : s < 4) (hi : i < 48) (v : Int32) : Rel (ms_st σ (28 + 2 * s) i v) (ms_st τ 27 (48 * s + i) v) := by
  obtain ⟨a, b, c, d, e, f⟩ := h.1.sht s hs
  refine h.sh1 hs (Fr.rf.st _ (Or.inr rfl)) (Fr.rf.st _ (Or.inr (Or.inl ⟨rfl, by omega, by omega⟩))) ⟨?_, ?_, ?_, ?_, ?_, fun j hj => ?_⟩
  · rw [ms_rd, if_neg (by omega), ms_rd, if_neg (by omega)]; exact a
  · rw [ms_rd, if_neg (by omega)]; exact b
  · rw [ms_rd, if_neg (by omega)]; exact c
  · rw [ms_rd, if_neg (by omega), ms_rd, if_neg (by omega)]; exact d
  · rw [ms_rd, if_neg (by omega), ms_rd, if_neg (by omega)]; exact e
  · rw [ms_rd, ms_rd]
    by_cases q : j = i
    · rw [if_pos ⟨rfl, by omega⟩, if_pos ⟨rfl, q⟩]
    · rw [if_neg (by omega), if_neg (fun z => q z.2)]; exact f j hj
theorem keep_s {σ τ : Mm} (h : Rel σ τ) {s i : Nat} (hs : s < 4) (hi : i < 48) (p : Int32) : ∃ v : Int32, fX2_store s (nI i) p σ = some (ms_st σ (28 + 2 * s) i v) ∧ fX8_keep (nI s) (nI i) p τ = some (ms_st τ 27 (48 * s + i) v) := by
  have i4 : ms_in (nI s) 4 := in_nI hs (by decide)
  have ixs : ms_ix (nI s) = s := ix_nI (by omega)
  have i48 : ms_in (nI i) 48 := in_nI hi (by decide)
  have ixi : ms_ix (nI i) = i := ix_nI (by omega)
  have e1 : (48 : Int32) * nI s + nI i = nI (48 * s + i) := by rw [show (48 : Int32) = nI 48 from rfl, pk_mul, nI_add]
  have i192 : ms_in (nI (48 * s + i)) 192 := in_nI (by omega) (by decide)
  have ixa : ms_ix (nI (48 * s + i)) = 48 * s + i := ix_nI (by omega)
  obtain ⟨a, b, c, d, e, f⟩ := h.1.sht s hs
  unfold fX2_store fX8_keep
  rw [e1]
  simp only [ms_g_t i4, ixs, ms_g_t i48, ixi, ms_g_t i192, ixa, ms_lt, d]
  by_cases c0 : σ (27 + 2 * s) 1 = 0
  · rw [if_pos c0, if_pos c0]; exact ⟨_, rfl, rfl⟩
  · rw [if_neg c0, if_neg c0]
    by_cases c1 : σ (27 + 2 * s) 1 = 1
    · rw [if_pos c1, if_pos c1]; exact ⟨_, rfl, rfl⟩
    · rw [if_neg c1, if_neg c1]; exact ⟨_, rfl, rfl⟩
theorem s_put {σ τ : Mm} (h : Rel σ τ) (p0 p1 p2 p3 : Int32) : ∃ (r : Int32) (σ' τ' : Mm), fX7_put p0 p1 p2 p3 σ = some (r, σ') ∧ fX8_put p0 p1 p2 p3 τ = some (r, τ') ∧ Rel σ' τ' := by
  rcases sheet_cases p0 with ⟨c1, c2⟩ | ⟨s, hs, rfl, c1, c2⟩
  · refine ⟨-2, σ, τ, ?_, ?_, h⟩
    · unfold fX7_put
      rw [c1, Option.bind_some, if_pos rfl]
    · unfold fX8_put
      rw [c2, Option.bind_some, if_pos rfl]
  rcases form_cases p1 with ⟨d1, d2⟩ | ⟨f, hf, rfl, d1, d2⟩
  · refine ⟨-2, σ, τ, ?_, ?_, h⟩
    · unfold fX7_put
      rw [c1, Option.bind_some, if_neg (by decide), d1, Option.bind_some, if_pos rfl]
    · unfold fX8_put
      rw [c2, Option.bind_some, if_neg (by decide), d2, Option.bind_some, if_pos rfl]
  have i4 : ms_in (nI s) 4 := in_nI hs (by decide)
  have ixs : ms_ix (nI s) = s := ix_nI (by omega)
  obtain ⟨r, r1, r2, r3⟩ := lack_s h hs (nI f) p2
  unfold fX7_put fX8_put
  rw [c1, c2, Option.bind_some, Option.bind_some, if_neg n10, if_neg n10, d1, d2, Option.bind_some, Option.bind_some, if_neg n10, if_neg n10, ms_g_t i4, ixs, r1, r2, Option.bind_some, Option.bind_some]
  rcases r3 with ⟨rfl, i, hi, rfl⟩ | ⟨q1, q2⟩
  · obtain ⟨v, v1, v2⟩ := keep_s h hs hi p3
    rw [if_pos rfl, if_pos (by decide), ms_g_t i4, v1, v2, Option.bind_some, Option.bind_some]
    exact ⟨_, _, _, rfl, rfl, itemR h hs hi v⟩
  · rw [if_neg q1, if_neg q2]
    unfold fX7_find fX8_meets
    simp only [ms_lt, Option.bind_some]
    exact ⟨_, _, _, rfl, rfl, findR h r⟩
theorem s_get {σ τ : Mm} (h : Rel σ τ) (p0 p1 p2 : Int32) : ∃ (r : Int32) (σ' τ' : Mm), fX7_get p0 p1 p2 σ = some (r, σ') ∧ fX8_get p0 p1 p2 τ = some (r, τ') ∧ Rel σ' τ' := by
  rcases sheet_cases p0 with ⟨c1, c2⟩ | ⟨s, hs, rfl, c1, c2⟩
  · refine ⟨-2147483648, σ, τ, ?_, ?_, h⟩
    · unfold fX7_get
      rw [c1, Option.bind_some, if_pos rfl]
    · unfold fX8_get
      rw [c2, Option.bind_some, if_pos rfl]
  rcases form_cases p1 with ⟨d1, d2⟩ | ⟨f, hf, rfl, d1, d2⟩
  · refine ⟨-2147483648, σ, τ, ?_, ?_, h⟩
    · unfold fX7_get
      rw [c1, Option.bind_some, if_neg (by decide), d1, Option.bind_some, if_pos rfl]
    · unfold fX8_get
      rw [c2, Option.bind_some, if_neg (by decide), d2, Option.bind_some, if_pos rfl]
  have i4 : ms_in (nI s) 4 := in_nI hs (by decide)
  have ixs : ms_ix (nI s) = s := ix_nI (by omega)
  obtain ⟨r, r1, r2, r3⟩ := lack_s h hs (nI f) p2
  unfold fX7_get fX8_get
  rw [c1, c2, Option.bind_some, Option.bind_some, if_neg n10, if_neg n10, d1, d2, Option.bind_some, Option.bind_some, if_neg n10, if_neg n10, ms_g_t i4, ixs, r1, r2, Option.bind_some, Option.bind_some]
  rcases r3 with ⟨rfl, i, hi, rfl⟩ | ⟨q1, q2⟩
  · have e1 : (48 : Int32) * nI s + nI i = nI (48 * s + i) := by rw [show (48 : Int32) = nI 48 from rfl, pk_mul, nI_add]
    rw [if_pos rfl, if_pos (by decide), ms_g_t i4, ms_g_t (in_nI hi (by decide)), e1, ms_g_t (in_nI (by omega) (by decide)), ix_nI (by omega), ix_nI (by omega), (h.1.sht s hs).2.2.2.2.2 i hi]
    exact ⟨_, _, _, rfl, rfl, h⟩
  · rw [if_neg q1, if_neg q2]
    simp only [ms_lt]
    exact ⟨_, _, _, rfl, rfl, findR h r⟩
