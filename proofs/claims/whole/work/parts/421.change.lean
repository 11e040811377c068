/-! ===== the calls that change something: set, shut, shift, type, wipe, seen, forget ===== -/
theorem ST.fr {σ τ σ' τ' : Mm} (h : ST σ τ) (h1 : σ' 1 3 = σ 1 3) (h2 : ∀ i, σ' 2 i = σ 2 i) (h3 : τ' 0 0 = τ 0 0) (h4 : ∀ i, τ' 1 i = τ 1 i) : ST σ' τ' := by
  obtain ⟨n, a1, a2, a3, a4⟩ := h
  exact ⟨n, a1, h1.trans a2, h3.trans a3, fun i hi => by rw [h2, h4]; exact a4 i hi⟩
theorem SW.cp {σ σ' : Mm} (h : SW σ) (h5 : ∀ i, σ' 5 i = σ 5 i) : SW σ' := by
  have e : ∀ i, sg σ' i = sg σ i := fun i => by unfold sg; rw [h5]
  unfold SW at h ⊢
  simp only [h5, e]
  exact h
theorem SR.cp {σ σ' τ τ' : Mm} (h : SR σ τ) (h5 : ∀ i, σ' 5 i = σ 5 i) (h2 : ∀ i, τ' 2 i = τ 2 i) : SR σ' τ' := fun i hi => by
  unfold sg
  rw [h5, h2]
  exact h i hi
theorem NotesOK.cp {σ σ' τ τ' : Mm} (h : NotesOK σ τ) (h3 : σ' 22 3 = σ 22 3) (h23 : ∀ i, σ' 23 i = σ 23 i) (h24 : ∀ i, σ' 24 i = σ 24 i) (m25 : τ' 0 25 = τ 0 25) (m22 : ∀ i, τ' 22 i = τ 22 i) (m23 : ∀ i, τ' 23 i = τ 23 i) : NotesOK σ' τ' := by
  have eN : sN σ' = sN σ := by unfold sN; rw [h3]
  unfold NotesOK at h ⊢
  simp only [eN, h3, h23, h24, m25, m22, m23]
  exact h
theorem SheetOK.cp {σ σ' τ τ' : Mm} {s : Nat} (h : SheetOK σ τ s) (h1 : ∀ i, σ' (27 + 2 * s) i = σ (27 + 2 * s) i) (h2 : ∀ i, σ' (28 + 2 * s) i = σ (28 + 2 * s) i) (m : ∀ k, 24 ≤ k → k ≤ 26 → τ' k s = τ k s) (m27 : ∀ i, i < 48 → τ' 27 (48 * s + i) = τ 27 (48 * s + i)) : SheetOK σ' τ' s := by
  obtain ⟨a, b, c, d, e, f⟩ := h
  refine ⟨?_, ?_, ?_, ?_, ?_, fun i hi => ?_⟩
  · rw [h1, m 24 (by decide) (by decide)]; exact a
  · rw [h1]; exact b
  · rw [h1]; exact c
  · rw [h1, m 25 (by decide) (by decide)]; exact d
  · rw [h1, m 26 (by decide) (by decide)]; exact e
  · rw [h2, m27 i hi]; exact f i hi
/-- what stays, stays -/
theorem Core.upd {σ τ σ' τ' : Mm} (h : Core σ τ) {W V : Nat → Nat → Prop} (hW : Fr W σ σ') (hV : Fr V τ τ') (w22 : ∀ k i, 22 ≤ k → ¬ W k i) (v22 : ∀ k i, 22 ≤ k → k ≤ 27 → ¬ V k i) (w010 : ¬ W 0 10) (v033 : ¬ V 0 33) (v025 : ¬ V 0 25) (hst : ST σ' τ') (ht : TownOK σ') (hsw : SW σ') (hsb : nn (σ' 0 3) 64) (hsf : ∀ t, t < 6 → nn (σ' 6 t) 24) (hsr : SR σ' τ') (h7 : ∀ t, t < 6 → τ' 7 t = nI (bt (sB σ') t)) (h8 : ∀ t, t < 6 → τ' 8 t = σ' 6 t) : Core σ' τ' := by
  obtain ⟨-, -, -, -, -, -, -, -, j, k, l⟩ := h
  refine ⟨hst, ht, hsw, hsb, hsf, hsr, h7, h8, j.cp (hW _ _ (w22 _ _ (by decide))) (fun i => hW _ _ (w22 _ _ (by decide))) (fun i => hW _ _ (w22 _ _ (by decide))) (hV _ _ v025) (fun i => hV _ _ (v22 _ _ (by decide) (by decide))) (fun i => hV _ _ (v22 _ _ (by decide) (by decide))), fun s hs => (k s hs).cp (fun i => hW _ _ (w22 _ _ (by omega))) (fun i => hW _ _ (w22 _ _ (by omega))) (fun z h1 h2 => hV _ _ (v22 _ _ (by omega) (by omega))) (fun i _ => hV _ _ (v22 _ _ (by decide) (by decide))), ?_⟩
  rw [hV _ _ v033, hW _ _ w010]
  exact l
/-- what was worked out is forgotten -/
abbrev Wout (k i : Nat) : Prop := (k = 12 ∧ i = 5) ∨ (k = 18 ∧ i = 7) ∨ (k = 22 ∧ i = 8)
theorem outX {σ τ : Mm} (h : Core σ τ) : ∃ σ', fX7_outdate σ = some σ' ∧ Rel σ' τ ∧ Fr Wout σ σ' := by
  unfold fX7_outdate
  simp only [ms_lt]
  have F : Fr Wout σ (ms_st (ms_st (ms_st σ 12 5 0) 18 7 0) 22 8 0) := ((Fr.rf.st _ (Or.inl ⟨rfl, rfl⟩)).st _ (Or.inr (Or.inl ⟨rfl, rfl⟩))).st _ (Or.inr (Or.inr ⟨rfl, rfl⟩))
  refine ⟨_, rfl, ⟨h.frX (F.mo fun k i q => ?_), Or.inl ?_, Or.inl ?_, Or.inl ?_⟩, F⟩
  · rcases q with q | q | q
    · exact Or.inr (Or.inr (Or.inl q))
    · exact Or.inr (Or.inr (Or.inr (Or.inr (Or.inl ⟨q.1, by omega⟩))))
    · exact Or.inr (Or.inr (Or.inr (Or.inr (Or.inr (Or.inr (Or.inl ⟨q.1, by omega⟩))))))
  · simp only [ms_rd]; simp
  · simp only [ms_rd]; simp
  · simp only [ms_rd]; simp
/-! set -/
theorem SW_iff (σ : Mm) : SW σ ↔ ∀ i, i < 9 → σ 5 i = nI (sg σ i) ∧ sg σ i ≤ ms_ix (ms_sm i) := by
  have e0 : ms_ix (ms_sm 0) = 9 := by decide
  have e1 : ms_ix (ms_sm 1) = 999 := by decide
  have e2 : ms_ix (ms_sm 2) = 999 := by decide
  have e3 : ms_ix (ms_sm 3) = 99 := by decide
  have e4 : ms_ix (ms_sm 4) = 9 := by decide
  have e5 : ms_ix (ms_sm 5) = 1 := by decide
  have e6 : ms_ix (ms_sm 6) = 99 := by decide
  have e7 : ms_ix (ms_sm 7) = 999 := by decide
  have e8 : ms_ix (ms_sm 8) = 99 := by decide
  constructor
  · rintro ⟨a, b0, b1, b2, b3, b4, b5, b6, b7, b8⟩ i hi
    refine ⟨a i hi, ?_⟩
    rcases (show i = 0 ∨ i = 1 ∨ i = 2 ∨ i = 3 ∨ i = 4 ∨ i = 5 ∨ i = 6 ∨ i = 7 ∨ i = 8 by omega) with rfl | rfl | rfl | rfl | rfl | rfl | rfl | rfl | rfl
    · rw [e0]; exact b0
    · rw [e1]; exact b1
    · rw [e2]; exact b2
    · rw [e3]; exact b3
    · rw [e4]; exact b4
    · rw [e5]; exact b5
    · rw [e6]; exact b6
    · rw [e7]; exact b7
    · rw [e8]; exact b8
  · intro h
    have g : ∀ i, i < 9 → sg σ i ≤ ms_ix (ms_sm i) := fun i hi => (h i hi).2
    exact ⟨fun i hi => (h i hi).1, e0 ▸ g 0 (by decide), e1 ▸ g 1 (by decide), e2 ▸ g 2 (by decide), e3 ▸ g 3 (by decide), e4 ▸ g 4 (by decide), e5 ▸ g 5 (by decide), e6 ▸ g 6 (by decide), e7 ▸ g 7 (by decide), e8 ▸ g 8 (by decide)⟩
theorem set_tab : ∀ i, i < 9 → fX8_mostOf (nI i) = some (ms_sm i) ∧ (if 2 ≤ nI i then (0 : Int32) else 1) = ms_sl i ∧ ms_sl i = nI (ms_ix (ms_sl i)) ∧ ms_sm i = nI (ms_ix (ms_sm i)) ∧ ms_ix (ms_sl i) < 1000 ∧ ms_ix (ms_sm i) < 1000 := by decide
theorem set8 {i : Nat} (hi : i < 9) (p1 : Int32) (τ : Mm) : fX8_set (nI i) p1 τ = (fX7_within p1 (ms_sl i) (ms_sm i)).bind (fun r4 => (if r4 = 0 then some ((-5), τ) else some (τ 2 i, ms_st τ 2 i p1))) := by
  obtain ⟨t1, t2, -⟩ := set_tab i hi
  have w : fX7_within (nI i) 0 8 = some 1 := wiN (b := 8) (by omega) (by decide)
  have g : ∀ y3 : Int32, fX8_set_21 (nI i) p1 y3 p1 τ = (fX7_within p1 y3 (ms_sm i)).bind (fun r4 => (if r4 = 0 then some ((-5), τ) else some (τ 2 i, ms_st τ 2 i p1))) := fun y3 => by
    unfold fX8_set_21
    rw [t1, Option.bind_some, in_same]
    simp only [ms_lt, ms_g_t (show ms_in (nI i) 9 from in_nI hi (by decide)), ix_nI (show i < 2147483648 by omega)]
  unfold fX8_set
  rw [in_same, w, Option.bind_some, if_neg (by decide), g, g]
  by_cases c : (2 : Int32) ≤ nI i
  · rw [if_pos c] at t2 ⊢
    rw [← t2]
  · rw [if_neg c] at t2 ⊢
    rw [← t2]
theorem s_set {σ τ : Mm} (h : Rel σ τ) (p0 p1 : Int32) : ∃ (r : Int32) (σ' τ' : Mm), fX7_set p0 p1 σ = some (r, σ') ∧ fX8_set p0 p1 τ = some (r, τ') ∧ Rel σ' τ' := by
  rcases wi_cases p0 (a := 0) (b := 8) (by decide) (by decide) with e | ⟨i, -, e2, rfl, e4⟩
  · refine ⟨-5, σ, τ, ?_, ?_, h⟩
    · unfold fX7_set
      rw [show fX7_within p0 0 8 = some 0 from e, Option.bind_some, if_pos rfl]
    · unfold fX8_set
      rw [in_same, show fX7_within p0 0 8 = some 0 from e, Option.bind_some, if_pos rfl]
  have hi : i < 9 := by omega
  obtain ⟨-, -, t3, t4, t5, t6⟩ := set_tab i hi
  have w : fX7_within (nI i) 0 8 = some 1 := e4
  rw [set8 hi]
  unfold fX7_set
  rw [w, Option.bind_some, if_neg (by decide), ms_g_t (in_nI hi (by decide)), ms_g_t (in_nI hi (by decide)), ix_nI (by omega)]
  have wc := wi_cases p1 (a := ms_ix (ms_sl i)) (b := ms_ix (ms_sm i)) (by omega) (by omega)
  rw [← t3, ← t4] at wc
  rcases wc with c | ⟨x, c1, c2, rfl, c4⟩
  · rw [c, Option.bind_some, Option.bind_some, if_pos rfl, if_pos rfl]
    exact ⟨_, _, _, rfl, rfl, h⟩
  · rw [c4, Option.bind_some, Option.bind_some, if_neg (by decide), if_neg (by decide), ms_g_t (in_nI hi (by decide)), ms_g_t (in_nI hi (by decide))]
    simp only [ms_lt]
    have hc := h.1
    have F : Fr (fun k _ => k = 5) σ (ms_st σ 5 i (nI x)) := Fr.rf.st _ rfl
    have G : Fr (fun k _ => k = 2) τ (ms_st τ 2 i (nI x)) := Fr.rf.st _ rfl
    have esg : ∀ j, sg (ms_st σ 5 i (nI x)) j = if j = i then x else sg σ j := fun j => by
      unfold sg
      rw [ms_rd]
      by_cases q : j = i
      · rw [if_pos ⟨rfl, q⟩, if_pos q, ix_nI (by omega)]
      · rw [if_neg (fun z => q z.2), if_neg q]
    have hSW := (SW_iff σ).1 hc.sw
    have hc1 : Core (ms_st σ 5 i (nI x)) (ms_st τ 2 i (nI x)) := by
      refine hc.upd F G (fun k i q z => by omega) (fun k i q r z => by omega) (by decide) (by decide) (by decide) (hc.1.fr (F 1 3 (by simp)) (fun j => F 2 j (by simp)) (G 0 0 (by simp)) (fun j => G 1 j (by simp))) (hc.2.1.fr F (fun i => by simp) (fun i => by simp) (fun i => by simp) (fun i => by simp)) ((SW_iff _).2 fun j hj => ?_) (by rw [F 0 3 (by simp)]; exact hc.2.2.2.1) (fun t ht => by rw [F 6 t (by simp)]; exact hc.2.2.2.2.1 t ht) (fun j hj => ?_) (fun t ht => ?_) (fun t ht => by rw [F 6 t (by simp), G 8 t (by simp)]; exact hc.2.2.2.2.2.2.2.1 t ht)
      · rw [esg, ms_rd]
        by_cases q : j = i
        · rw [if_pos ⟨rfl, q⟩, if_pos q, q]; exact ⟨rfl, c2⟩
        · rw [if_neg (fun z => q z.2), if_neg q]; exact hSW j hj
      · rw [esg, ms_rd]
        by_cases q : j = i
        · rw [if_pos ⟨rfl, q⟩, if_pos q]
        · rw [if_neg (fun z => q z.2), if_neg q]; exact hc.sr j hj
      · rw [G 7 t (by simp), show sB (ms_st σ 5 i (nI x)) = sB σ by unfold sB; rw [F 0 3 (by simp)]]
        exact hc.m7 t ht
    obtain ⟨σ', o1, o2, -⟩ := outX hc1
    rw [o1, Option.bind_some]
    refine ⟨_, σ', _, rfl, ?_, o2⟩
    rw [hc.sr i hi, (hSW i hi).1]
/-! shut -/
set_option maxRecDepth 100000 in
theorem sh_on : ∀ t, t < 6 → ∀ b, b < 64 → nI b ||| ms_shl 1 (nI t) = nI (b ||| 2 ^ t) ∧ b ||| 2 ^ t < 64 ∧ ∀ u, u < 6 → bt (b ||| 2 ^ t) u = if u = t then 1 else bt b u := by decide +kernel
set_option maxRecDepth 100000 in
theorem sh_off : ∀ t, t < 6 → ∀ b, b < 64 → nI b &&& (ms_shl 1 (nI t) ^^^ (-1)) = nI (b - bt b t * 2 ^ t) ∧ b - bt b t * 2 ^ t < 64 ∧ ∀ u, u < 6 → bt (b - bt b t * 2 ^ t) u = if u = t then 0 else bt b u := by decide +kernel
theorem shutC {σ τ : Mm} (hc : Core σ τ) {t b w : Nat} (ht : t < 6) (hb : b < 64) (hw : w < 2) (hbt : ∀ u, u < 6 → bt b u = if u = t then w else bt (sB σ) u) : Core (ms_st σ 0 3 (nI b)) (ms_st τ 7 t (nI w)) := by
  have F : Fr (fun k i => k = 0 ∧ i = 3) σ (ms_st σ 0 3 (nI b)) := Fr.rf.st _ ⟨rfl, rfl⟩
  have G : Fr (fun k _ => k = 7) τ (ms_st τ 7 t (nI w)) := Fr.rf.st _ rfl
  refine hc.upd F G (fun k i q z => by have := z.1; omega) (fun k i q r z => by omega) (by decide) (by decide) (by decide) (hc.1.fr (F 1 3 (by simp)) (fun j => F 2 j (by simp)) (G 0 0 (by simp)) (fun j => G 1 j (by simp))) (hc.2.1.fr F (fun i => by simp) (fun i => by simp) (fun i => by simp) (fun i => by simp)) (hc.sw.cp (fun i => F 5 i (by simp))) ⟨b, hb, by rw [ms_rd, if_pos (by decide)]⟩ (fun t ht => by rw [F 6 t (by simp)]; exact hc.2.2.2.2.1 t ht) (hc.sr.cp (fun i => F 5 i (by simp)) (fun i => G 2 i (by simp))) (fun u hu => ?_) (fun t ht => by rw [F 6 t (by simp), G 8 t (by simp)]; exact hc.2.2.2.2.2.2.2.1 t ht)
  have e : sB (ms_st σ 0 3 (nI b)) = b := by unfold sB; rw [ms_rd, if_pos (by decide), ix_nI (by omega)]
  rw [e, hbt u hu, ms_rd]
  by_cases q : u = t
  · rw [if_pos ⟨rfl, q⟩, if_pos q]
  · rw [if_neg (fun z => q z.2), if_neg q]; exact hc.m7 u hu
theorem s_shut {σ τ : Mm} (h : Rel σ τ) (p0 p1 : Int32) : ∃ (r : Int32) (σ' τ' : Mm), fX7_shut p0 p1 σ = some (r, σ') ∧ fX8_shut p0 p1 τ = some (r, τ') ∧ Rel σ' τ' := by
  rcases wi_cases p0 (a := 0) (b := 5) (by decide) (by decide) with e | ⟨t, -, e2, rfl, e4⟩
  · refine ⟨-2, σ, τ, ?_, ?_, h⟩
    · unfold fX7_shut
      rw [show fX7_within p0 0 5 = some 0 from e, Option.bind_some, if_pos rfl]
    · unfold fX8_shut
      rw [in_same, show fX7_within p0 0 5 = some 0 from e, Option.bind_some, if_pos rfl]
  rcases wi_cases p1 (a := 0) (b := 1) (by decide) (by decide) with d | ⟨w, -, d2, rfl, d4⟩
  · refine ⟨-2, σ, τ, ?_, ?_, h⟩
    · unfold fX7_shut
      rw [show fX7_within (nI t) 0 5 = some 1 from e4, Option.bind_some, if_neg (by decide), show fX7_within p1 0 1 = some 0 from d, Option.bind_some, if_pos rfl]
    · unfold fX8_shut
      rw [in_same, in_same, show fX7_within (nI t) 0 5 = some 1 from e4, Option.bind_some, if_neg (by decide), show fX7_within p1 0 1 = some 0 from d, Option.bind_some, if_pos rfl]
  have hc := h.1
  have ht : t < 6 := by omega
  obtain ⟨s1, s2⟩ := hc.sb
  have x8 : fX8_shut (nI t) (nI w) τ = some (nI (bt (sB σ) t), ms_st τ 7 t (nI w)) := by
    unfold fX8_shut
    rw [in_same, in_same, show fX7_within (nI t) 0 5 = some 1 from e4, Option.bind_some, if_neg (by decide), show fX7_within (nI w) 0 1 = some 1 from d4, Option.bind_some, if_neg (by decide), ms_g_t (in_nI ht (by decide)), ms_g_t (in_nI ht (by decide)), ix_nI (by omega)]
    simp only [ms_lt]
    rw [hc.m7 t ht]
  rw [x8]
  unfold fX7_shut fX7_shut_57
  rw [show fX7_within (nI t) 0 5 = some 1 from e4, Option.bind_some, if_neg (by decide), show fX7_within (nI w) 0 1 = some 1 from d4, Option.bind_some, if_neg (by decide), s2, bit_X (by omega) (by omega), Option.bind_some]
  simp only [ms_lt]
  rcases (show w = 0 ∨ w = 1 by omega) with rfl | rfl
  · obtain ⟨a1, a2, a3⟩ := sh_off t ht (sB σ) s1
    rw [if_neg (by decide), a1]
    obtain ⟨σ', o1, o2, -⟩ := outX (shutC hc ht a2 (by decide) a3)
    rw [o1, Option.bind_some]
    exact ⟨_, σ', _, rfl, rfl, o2⟩
  · obtain ⟨a1, a2, a3⟩ := sh_on t ht (sB σ) s1
    rw [if_pos (by decide), a1]
    obtain ⟨σ', o1, o2, -⟩ := outX (shutC hc ht a2 (by decide) a3)
    rw [o1, Option.bind_some]
    exact ⟨_, σ', _, rfl, rfl, o2⟩
/-! shift -/
theorem shiftC {σ τ : Mm} (hc : Core σ τ) {t w : Nat} (hw : w < 24) : Core (ms_st σ 6 t (nI w)) (ms_st τ 8 t (nI w)) := by
  have F : Fr (fun k _ => k = 6) σ (ms_st σ 6 t (nI w)) := Fr.rf.st _ rfl
  have G : Fr (fun k _ => k = 8) τ (ms_st τ 8 t (nI w)) := Fr.rf.st _ rfl
  refine hc.upd F G (fun k i q z => by omega) (fun k i q r z => by omega) (by decide) (by decide) (by decide) (hc.1.fr (F 1 3 (by simp)) (fun j => F 2 j (by simp)) (G 0 0 (by simp)) (fun j => G 1 j (by simp))) (hc.2.1.fr F (fun i => by simp) (fun i => by simp) (fun i => by simp) (fun i => by simp)) (hc.sw.cp (fun i => F 5 i (by simp))) (by rw [F 0 3 (by simp)]; exact hc.2.2.2.1) (fun u hu => ?_) (hc.sr.cp (fun i => F 5 i (by simp)) (fun i => G 2 i (by simp))) (fun u hu => ?_) (fun u hu => ?_)
  · rw [ms_rd]
    by_cases q : u = t
    · rw [if_pos ⟨rfl, q⟩]; exact ⟨w, hw, rfl⟩
    · rw [if_neg (fun z => q z.2)]; exact hc.2.2.2.2.1 u hu
  · rw [G 7 u (by simp), show sB (ms_st σ 6 t (nI w)) = sB σ by unfold sB; rw [F 0 3 (by simp)]]
    exact hc.m7 u hu
  · rw [ms_rd, ms_rd]
    by_cases q : u = t
    · rw [if_pos ⟨rfl, q⟩, if_pos ⟨rfl, q⟩]
    · rw [if_neg (fun z => q z.2), if_neg (fun z => q z.2)]; exact hc.2.2.2.2.2.2.2.1 u hu
theorem s_shift {σ τ : Mm} (h : Rel σ τ) (p0 p1 : Int32) : ∃ (r : Int32) (σ' τ' : Mm), fX7_shift p0 p1 σ = some (r, σ') ∧ fX8_shift p0 p1 τ = some (r, τ') ∧ Rel σ' τ' := by
  rcases wi_cases p0 (a := 0) (b := 5) (by decide) (by decide) with e | ⟨t, -, e2, rfl, e4⟩
  · refine ⟨-2, σ, τ, ?_, ?_, h⟩
    · unfold fX7_shift
      rw [show fX7_within p0 0 5 = some 0 from e, Option.bind_some, if_pos rfl]
    · unfold fX8_shift
      rw [in_same, show fX7_within p0 0 5 = some 0 from e, Option.bind_some, if_pos rfl]
  rcases wi_cases p1 (a := 0) (b := 23) (by decide) (by decide) with d | ⟨w, -, d2, rfl, d4⟩
  · refine ⟨-2, σ, τ, ?_, ?_, h⟩
    · unfold fX7_shift
      rw [show fX7_within (nI t) 0 5 = some 1 from e4, Option.bind_some, if_neg (by decide), show fX7_within p1 0 23 = some 0 from d, Option.bind_some, if_pos rfl]
    · unfold fX8_shift
      rw [in_same, in_same, show fX7_within (nI t) 0 5 = some 1 from e4, Option.bind_some, if_neg (by decide), show fX7_within p1 0 23 = some 0 from d, Option.bind_some, if_pos rfl]
  have hc := h.1
  have ht : t < 6 := by omega
  obtain ⟨σ', o1, o2, -⟩ := outX (shiftC hc (t := t) (w := w) (by omega))
  refine ⟨σ 6 t, σ', ms_st τ 8 t (nI w), ?_, ?_, o2⟩
  · unfold fX7_shift
    rw [show fX7_within (nI t) 0 5 = some 1 from e4, Option.bind_some, if_neg (by decide), show fX7_within (nI w) 0 23 = some 1 from d4, Option.bind_some, if_neg (by decide), ms_g_t (in_nI ht (by decide)), ms_g_t (in_nI ht (by decide)), ix_nI (by omega)]
    simp only [ms_lt]
    rw [o1, Option.bind_some]
  · unfold fX8_shift
    rw [in_same, in_same, show fX7_within (nI t) 0 5 = some 1 from e4, Option.bind_some, if_neg (by decide), show fX7_within (nI w) 0 23 = some 1 from d4, Option.bind_some, if_neg (by decide), ms_g_t (in_nI ht (by decide)), ms_g_t (in_nI ht (by decide)), ix_nI (by omega)]
    simp only [ms_lt]
    rw [hc.2.2.2.2.2.2.2.1 t ht]
/-! type and wipe -/
theorem townC {σ τ σ1 τ1 : Mm} (hc : Core σ τ) (F : Fr (fun k i => k = 2 ∨ (k = 1 ∧ i = 3)) σ σ1) (G : Fr (fun k i => k = 1 ∨ (k = 0 ∧ i = 0)) τ τ1) {n : Nat} (hn : n ≤ 100) (h1 : σ1 1 3 = nI n) (h0 : τ1 0 0 = nI n) (ht : ∀ i, i < 100 → τ1 1 i = σ1 2 i) : ∃ σ2, fX4_parse σ1 = some σ2 ∧ Core σ2 τ1 ∧ σ2 1 3 = nI n := by
  obtain ⟨σ2, p1, p2, p3⟩ := parse_ok hn h1
  have F2 : Fr (fun k i => k = 2 ∨ k = 1 ∨ k = 3 ∨ k = 4) σ σ2 := (F.mo fun k i q => by omega).tr (p2.mo fun k i q => by omega)
  have e3 : σ2 1 3 = nI n := by rw [p2 1 3 (by simp)]; exact h1
  refine ⟨σ2, p1, hc.upd F2 G (fun k i q z => by omega) (fun k i q r z => by omega) (by simp) (by simp) (by simp) ⟨n, hn, e3, h0, fun i hi => by rw [p2 2 i (by simp)]; exact ht i hi⟩ p3 (hc.sw.cp (fun i => F2 5 i (by simp))) (by rw [F2 0 3 (by simp)]; exact hc.2.2.2.1) (fun t ht => by rw [F2 6 t (by simp)]; exact hc.2.2.2.2.1 t ht) (hc.sr.cp (fun i => F2 5 i (by simp)) (fun i => G 2 i (by simp))) (fun u hu => ?_) (fun u hu => by rw [F2 6 u (by simp), G 8 u (by simp)]; exact hc.2.2.2.2.2.2.2.1 u hu), e3⟩
  rw [G 7 u (by simp), show sB σ2 = sB σ by unfold sB; rw [F2 0 3 (by simp)]]
  exact hc.m7 u hu
theorem s_type {σ τ : Mm} (h : Rel σ τ) (p0 : Int32) : ∃ (r : Int32) (σ' τ' : Mm), fX7_type p0 σ = some (r, σ') ∧ fX8_type p0 τ = some (r, τ') ∧ Rel σ' τ' := by
  rcases wi_cases p0 (a := 0) (b := 255) (by decide) (by decide) with e | ⟨c, -, e2, rfl, e4⟩
  · refine ⟨-2, σ, τ, ?_, ?_, h⟩
    · unfold fX7_type
      rw [show fX7_within p0 0 255 = some 0 from e, Option.bind_some, if_pos rfl]
    · unfold fX8_type
      rw [in_same, show fX7_within p0 0 255 = some 0 from e, Option.bind_some, if_pos rfl]
  have hc := h.1
  obtain ⟨n, n1, n2, n3, n4⟩ := hc.1
  by_cases c100 : n = 100
  · subst c100
    refine ⟨-4, σ, τ, ?_, ?_, h⟩
    · unfold fX7_type
      rw [show fX7_within (nI c) 0 255 = some 1 from e4, Option.bind_some, if_neg (by decide), n2, if_neg (by decide)]
    · unfold fX8_type
      rw [in_same, show fX7_within (nI c) 0 255 = some 1 from e4, Option.bind_some, if_neg (by decide), n3, if_pos (by decide)]
  · have hn : n < 100 := by omega
    have F : Fr (fun k i => k = 2 ∨ (k = 1 ∧ i = 3)) σ (ms_st (ms_st σ 2 n (nI c)) 1 3 (nI (n + 1))) := (Fr.rf.st _ (Or.inl rfl)).st _ (Or.inr ⟨rfl, rfl⟩)
    have G : Fr (fun k i => k = 1 ∨ (k = 0 ∧ i = 0)) τ (ms_st (ms_st τ 1 n (nI c)) 0 0 (nI (n + 1))) := (Fr.rf.st _ (Or.inl rfl)).st _ (Or.inr ⟨rfl, rfl⟩)
    obtain ⟨σ2, p1, p2, p3⟩ := townC hc F G (n := n + 1) (by omega) (by rw [ms_rd, if_pos (by decide)]) (by rw [ms_rd, if_pos (by decide)]) (fun i hi => by
      simp only [ms_rd]
      by_cases q : i = n
      · simp [q]
      · simp [q]; exact n4 i hi)
    obtain ⟨σ', o1, o2, o3⟩ := outX p2
    refine ⟨nI (n + 1), σ', _, ?_, ?_, o2⟩
    · unfold fX7_type fX4_append
      rw [show fX7_within (nI c) 0 255 = some 1 from e4, Option.bind_some, if_neg (by decide), n2, show (100 : Int32) = nI 100 from rfl, iflt (by omega) (by decide), if_pos hn, ifle (by decide) (by omega), if_neg (by omega), ms_g_t (in_nI hn (by decide)), ix_nI (by omega)]
      simp only [ms_lt, Option.bind_some]
      rw [show ms_st σ 2 n (nI c) 1 3 = nI n by rw [ms_rd, if_neg (by simp)]; exact n2, nI_1, p1, Option.bind_some, o1, Option.bind_some, o3 1 3 (by simp), p3]
    · unfold fX8_type
      rw [in_same, show fX7_within (nI c) 0 255 = some 1 from e4, Option.bind_some, if_neg (by decide), n3, show (100 : Int32) = nI 100 from rfl, ifeq (by omega) (by decide), if_neg c100, ms_g_t (in_nI hn (by decide)), ix_nI (by omega)]
      simp only [ms_lt]
      rw [show ms_st τ 1 n (nI c) 0 0 = nI n by rw [ms_rd, if_neg (by simp)]; exact n3, nI_1, show ms_st (ms_st τ 1 n (nI c)) 0 0 (nI (n + 1)) 0 0 = nI (n + 1) by rw [ms_rd, if_pos (by decide)]]
theorem s_wipe {σ τ : Mm} (h : Rel σ τ) : ∃ (r : Int32) (σ' τ' : Mm), fX7_wipe σ = some (r, σ') ∧ fX8_wipe τ = some (r, τ') ∧ Rel σ' τ' := by
  have hc := h.1
  obtain ⟨n, n1, n2, n3, n4⟩ := hc.1
  have F : Fr (fun k i => k = 2 ∨ (k = 1 ∧ i = 3)) σ (ms_st σ 1 3 0) := Fr.rf.st _ (Or.inr ⟨rfl, rfl⟩)
  have G : Fr (fun k i => k = 1 ∨ (k = 0 ∧ i = 0)) τ (ms_st τ 0 0 0) := Fr.rf.st _ (Or.inr ⟨rfl, rfl⟩)
  obtain ⟨σ2, p1, p2, p3⟩ := townC hc F G (n := 0) (by omega) (by rw [ms_rd, if_pos (by decide)]; rfl) (by rw [ms_rd, if_pos (by decide)]; rfl) (fun i hi => by
    rw [ms_rd, if_neg (by simp), ms_rd, if_neg (by simp)]; exact n4 i hi)
  obtain ⟨σ', o1, o2, o3⟩ := outX p2
  refine ⟨nI n, σ', ms_st τ 0 0 0, ?_, ?_, o2⟩
  · unfold fX7_wipe
    simp only [ms_lt]
    rw [p1, Option.bind_some, o1, Option.bind_some, n2]
  · unfold fX8_wipe
    simp only [ms_lt]
    rw [n3]
theorem s_count {σ τ : Mm} (h : Rel σ τ) (p0 : Int32) : ∃ (r : Int32) (τ' : Mm), fX7_count σ p0 = some r ∧ fX8_count p0 τ = some (r, τ') ∧ Rel σ τ' := by
  obtain ⟨r, τ', a, b, c⟩ := count_s h.1 p0
  exact ⟨r, τ', a, b, h.frM c⟩
