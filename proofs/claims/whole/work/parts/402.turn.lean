/-! ===== the class's turn of an hour ===== -/
theorem li_2 : (2 : Int32) = nI 2 := rfl
theorem li_100 : (100 : Int32) = nI 100 := rfl
theorem pcX {σ : Mm} {l s m lk : Nat} (hl : l ≤ m) (hm : m ≤ 999) (hs : s ≤ 999) (hlk : lk ≤ 99) (h12 : σ 8 12 = nI l) (h13 : σ 8 13 = nI s) (h4 : σ 8 4 = nI m) (h6 : σ 8 6 = nI lk) : ∃ σ', fX3_pullChain σ = some σ' ∧ Fr (fun k i => k = 8 ∧ (i = 12 ∨ i = 13 ∨ i = 15)) σ σ' ∧
    σ' 8 15 = (if s ≤ l then -(nI (min ((l - s) / 2) lk)) else nI (min (min ((s - l) / 2) lk) (m - l))) ∧ σ' 8 12 = nI (if s ≤ l then l - min ((l - s) / 2) lk else l + min (min ((s - l) / 2) lk) (m - l)) ∧ σ' 8 13 = nI (if s ≤ l then s + min ((l - s) / 2) lk else s - min (min ((s - l) / 2) lk) (m - l)) := by
  unfold fX3_pullChain
  rw [h12, h13, h4, h6]
  by_cases c : s ≤ l
  · rw [if_pos (by rw [le_nI (by omega) (by omega)]; exact c), pk_sub c, li_2, pk_div (by omega) (by decide) (by decide), minv_nI (by omega) (by omega)]
    simp only [ms_lt, fX3_pullChain_73]
    refine ⟨_, rfl, ((Fr.rf.st _ ⟨rfl, Or.inr (Or.inr rfl)⟩).st _ ⟨rfl, Or.inl rfl⟩).st _ ⟨rfl, Or.inr (Or.inl rfl)⟩, ?_, ?_, ?_⟩
    · simp [ms_rd, c]
    · simp only [ms_rd, c, if_true]
      simp only [h12]
      simp
      rw [Int32.add_neg_eq_sub, pk_sub (by omega)]
    · simp only [ms_rd, c, if_true]
      simp only [h13]
      simp
      rw [nI_add]
  · rw [if_neg (by rw [le_nI (by omega) (by omega)]; exact c), pk_sub (by omega), li_2, pk_div (by omega) (by decide) (by decide), minv_nI (by omega) (by omega)]
    simp only [ms_lt, fX3_pullChain_73]
    rw [pk_sub (by omega), minv_nI (by omega) (by omega)]
    refine ⟨_, rfl, ((Fr.rf.st _ ⟨rfl, Or.inr (Or.inr rfl)⟩).st _ ⟨rfl, Or.inl rfl⟩).st _ ⟨rfl, Or.inr (Or.inl rfl)⟩, ?_, ?_, ?_⟩
    · simp [ms_rd, c]
    · simp only [ms_rd, c, if_false]
      simp only [h12]
      simp
      rw [nI_add]
    · simp only [ms_rd, c, if_false]
      simp only [h13]
      simp
      rw [pk_sub (by omega)]
theorem turn28X {e : ev} (hE : EvOK e) {σ : Mm} (hR : Rd_ σ e) {h : Nat} (hh : h < 24) {x : Nat × Nat} (h1 : x.1 ≤ e_m e) (h2 : x.2 ≤ 999) (hl : σ 8 12 = nI (st_l e h x)) (hs : σ 8 13 = nI x.2) : ∃ σ', fX3_turn_28 (nI h) σ = some σ' ∧ Fr W8 σ σ' ∧ σ' 8 12 = nI (st_n e h x).1 ∧ σ' 8 13 = nI (st_n e h x).2 ∧ σ' 8 14 = nI (st_p e h x) ∧ σ' 8 15 = st_w e h x ∧ σ' 8 16 = nI (st_q e h x).2 := by
  obtain ⟨a1, a2, a3, a4, a5, a6, a7, a8, a9, a10⟩ := st_b (h := h) hE h1 h2
  obtain ⟨e1, e2, e3, e4, e5, e6, e7, e8, e9, e10⟩ := id hE
  have hg := e10 h hh
  have i24 : ms_in (nI h) 24 := in_nI hh (by decide)
  have hgn := hR.2.2.2.2.2.2.2.2.2.2.2 h hh
  have hc : st_c e h x = min (e_gn e h) (e_m e - st_l e h x) := rfl
  unfold fX3_turn_28
  rw [ms_g_t i24, ix_nI (by omega), hgn, hR.2.1, hl, pk_sub a1, minv_nI (by omega) (by omega), ← hc]
  simp only [ms_lt]
  rw [ms_g_t i24, pk_sub (show st_c e h x ≤ e_gn e h by omega)]
  generalize hσ1 : ms_st (ms_st σ 8 14 (nI (e_gn e h - st_c e h x))) 8 12 (ms_st σ 8 14 (nI (e_gn e h - st_c e h x)) 8 12 + nI (st_c e h x)) = σ1
  have v12 : σ1 8 12 = nI (st_l e h x + st_c e h x) := by rw [← hσ1]; simp only [ms_rd]; simp; rw [hl, nI_add]
  have v13 : σ1 8 13 = nI x.2 := by rw [← hσ1]; simp only [ms_rd]; simp; exact hs
  have v14 : σ1 8 14 = nI (st_p e h x) := by rw [← hσ1]; simp only [ms_rd]; simp; rfl
  have F1 : Fr W8 σ σ1 := by rw [← hσ1]; exact (Fr.rf.st _ ⟨rfl, by decide⟩).st _ ⟨rfl, by decide⟩
  unfold fX3_draw
  simp only [ms_lt]
  have F2 : Fr W8 σ (ms_st σ1 8 16 0) := F1.st _ ⟨rfl, by decide⟩
  obtain ⟨σ2, q1, q2, q3, q4⟩ := dw_X hE hh (l := st_l e h x + st_c e h x) (by omega) (e_n e) ms_fu 0 (by omega) (fu_lt (by omega)) (ms_st σ1 8 16 0) (hR.w8 F2) (by rw [ms_rd, if_neg (by decide), v12]; rfl) (by rw [ms_rd, if_pos (by decide)]; rfl)
  have q1' : fX3_draw_7 ms_fu (nI h) 0 (ms_st σ1 8 16 0) = some σ2 := q1
  rw [q1']
  simp only [Option.bind_some]
  have F3 : Fr W8 σ σ2 := F2.tr (q2.mo fun k i q => ⟨q.1, by omega⟩)
  have hR2 := hR.w8 F3
  have w13 : σ2 8 13 = nI x.2 := by rw [q2 8 13 (by simp), ms_rd, if_neg (by decide), v13]
  have w14 : σ2 8 14 = nI (st_p e h x) := by rw [q2 8 14 (by simp), ms_rd, if_neg (by decide), v14]
  have w12 : σ2 8 12 = nI (st_q e h x).1 := q3
  have w16 : σ2 8 16 = nI (st_q e h x).2 := q4
  have hmul : (st_q e h x).1 * e_tr e ≤ 999 * 99 := Nat.mul_le_mul (by omega) (by omega)
  generalize hσ3 : ms_st σ2 8 12 (σ2 8 12 - σ2 8 12 * σ2 8 5 / 100) = σ3
  have u12 : σ3 8 12 = nI (st_3 e h x) := by
    rw [← hσ3, ms_rd, if_pos (by decide), w12, hR2.2.2.1, pk_mul, li_100, pk_div (by omega) (by decide) (by decide), pk_sub (by omega)]; rfl
  have F4 : Fr W8 σ σ3 := by rw [← hσ3]; exact F3.st _ ⟨rfl, by decide⟩
  have u13 : σ3 8 13 = nI x.2 := by rw [← hσ3, ms_rd, if_neg (by decide)]; exact w13
  have u14 : σ3 8 14 = nI (st_p e h x) := by rw [← hσ3, ms_rd, if_neg (by decide)]; exact w14
  have u16 : σ3 8 16 = nI (st_q e h x).2 := by rw [← hσ3, ms_rd, if_neg (by decide)]; exact w16
  have hR3 := hR.w8 F4
  generalize hσ4 : ms_st σ3 8 13 (σ3 8 13 - ms_minv (σ3 8 7) (σ3 8 13)) = σ4
  have t13 : σ4 8 13 = nI (st_s e x) := by
    rw [← hσ4, ms_rd, if_pos (by decide), u13, hR3.2.2.2.2.1, minv_nI (by omega) (by omega), pk_sub (by omega)]; rfl
  have F5 : Fr W8 σ σ4 := by rw [← hσ4]; exact F4.st _ ⟨rfl, by decide⟩
  have t12 : σ4 8 12 = nI (st_3 e h x) := by rw [← hσ4, ms_rd, if_neg (by decide)]; exact u12
  have t14 : σ4 8 14 = nI (st_p e h x) := by rw [← hσ4, ms_rd, if_neg (by decide)]; exact u14
  have t16 : σ4 8 16 = nI (st_q e h x).2 := by rw [← hσ4, ms_rd, if_neg (by decide)]; exact u16
  have hR4 := hR.w8 F5
  obtain ⟨σ5, g1, g2, g3, g4, g5⟩ := pcX (l := st_3 e h x) (s := st_s e x) (m := e_m e) (lk := e_lk e) a6 e1 a7 e3 t12 t13 hR4.2.1 hR4.2.2.2.1
  rw [g1]
  refine ⟨σ5, rfl, F5.tr (g2.mo fun k i q => ⟨q.1, by omega⟩), ?_, ?_, ?_, ?_, ?_⟩
  · rw [g4]; unfold st_n st_f
    by_cases c : st_s e x ≤ st_3 e h x
    · simp [c]
    · simp [c]
  · rw [g5]; unfold st_n st_f
    by_cases c : st_s e x ≤ st_3 e h x
    · simp [c]
    · simp [c]
  · rw [g2 8 14 (by simp)]; exact t14
  · rw [g3]; unfold st_w st_f
    by_cases c : st_s e x ≤ st_3 e h x
    · simp [c]
    · simp [c]
  · rw [g2 8 16 (by simp)]; exact t16
theorem turnX {e : ev} (hE : EvOK e) {σ : Mm} (hR : Rd_ σ e) {h : Nat} (hh : h < 24) {x : Nat × Nat} (h1 : x.1 ≤ e_m e) (h2 : x.2 ≤ 999) (hl : σ 8 12 = nI x.1) (hs : σ 8 13 = nI x.2) : ∃ σ', fX3_turn (nI h) σ = some σ' ∧ Fr W8 σ σ' ∧ σ' 8 12 = nI (st_n e h x).1 ∧ σ' 8 13 = nI (st_n e h x).2 ∧ σ' 8 14 = nI (st_p e h x) ∧ σ' 8 15 = st_w e h x ∧ σ' 8 16 = nI (st_q e h x).2 := by
  obtain ⟨e1, e2, e3, e4, e5, e6, e7, e8, e9, e10⟩ := id hE
  unfold fX3_turn
  rw [hR.2.2.2.2.2.2.2.1, hR.2.2.2.2.2.2.2.2.1, hl]
  by_cases c : nI h = e_th e
  · rw [if_pos c, minv_nI (by omega) (by omega), pk_sub (by omega)]
    simp only [ms_lt]
    have F1 : Fr W8 σ (ms_st σ 8 12 (nI (x.1 - min (e_tk e) x.1))) := Fr.rf.st _ ⟨rfl, by decide⟩
    obtain ⟨σ', q1, q2, q3⟩ := turn28X hE (hR.w8 F1) hh h1 h2 (by rw [ms_rd, if_pos (by decide)]; unfold st_l; rw [if_pos c]) (by rw [ms_rd, if_neg (by decide)]; exact hs)
    exact ⟨σ', q1, F1.tr q2, q3⟩
  · rw [if_neg c]
    exact turn28X hE hR hh h1 h2 (by rw [hl]; unfold st_l; rw [if_neg c]) hs
theorem beginX {e : ev} {σ : Mm} (hR : Rd_ σ e) : ∃ σ', fX3_begin σ = some σ' ∧ Fr W8 σ σ' ∧ σ' 8 12 = nI (e_l0 e) ∧ σ' 8 13 = nI (e_s0 e) := by
  unfold fX3_begin
  simp only [ms_lt]
  refine ⟨_, rfl, (Fr.rf.st _ ⟨rfl, by decide⟩).st _ ⟨rfl, by decide⟩, ?_, ?_⟩
  · simp only [ms_rd]; simp; exact hR.2.2.2.2.2.1
  · simp only [ms_rd]; simp; exact hR.2.2.2.2.2.2.1
/-- the turn of hour h out of ten days -/
theorem turnH {e : ev} (hE : EvOK e) {σ : Mm} (hR : Rd_ σ e) {h : Nat} (hh : h < 100000) (hl : σ 8 12 = nI (rn_ e h).1) (hs : σ 8 13 = nI (rn_ e h).2) : ∃ σ', fX3_turn (ms_rem (nI h) 24) σ = some σ' ∧ Fr W8 σ σ' ∧ σ' 8 12 = nI (rn_ e (h + 1)).1 ∧ σ' 8 13 = nI (rn_ e (h + 1)).2 ∧ σ' 8 14 = nI (rp e h) ∧ σ' 8 15 = rf e h ∧ σ' 8 16 = nI (rq e h) := by
  have e1 : ms_rem (nI h) 24 = nI (h % 24) := rem_nI (d := 24) (by omega) (by decide) (by decide)
  rw [e1]
  obtain ⟨b1, b2⟩ := rn_b hE h
  exact turnX hE hR (Nat.mod_lt h (by decide)) b1 b2 hl hs
