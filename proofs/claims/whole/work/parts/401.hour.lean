/-! ===== an hour, as both should have it ===== -/
abbrev ev : Type := (Nat → Nat) × (Nat → Nat) × (Nat → Nat → Bool) × (Nat → Nat) × Int32
def e_m (e : ev) : Nat := e.1 0
def e_tr (e : ev) : Nat := e.1 1
def e_lk (e : ev) : Nat := e.1 2
def e_dr (e : ev) : Nat := e.1 3
def e_n (e : ev) : Nat := e.1 4
def e_tk (e : ev) : Nat := e.1 5
def e_l0 (e : ev) : Nat := e.1 6
def e_s0 (e : ev) : Nat := e.1 7
def e_nd (e : ev) : Nat → Nat := e.2.1
def e_go (e : ev) : Nat → Nat → Bool := e.2.2.1
def e_gn (e : ev) : Nat → Nat := e.2.2.2.1
def e_th (e : ev) : Int32 := e.2.2.2.2
def EvOK (e : ev) : Prop := e_m e ≤ 999 ∧ e_tr e ≤ 99 ∧ e_lk e ≤ 99 ∧ e_dr e ≤ 99 ∧ e_n e ≤ 6 ∧ e_tk e ≤ 40 ∧ e_l0 e ≤ e_m e ∧ e_s0 e ≤ 999 ∧ (∀ t, t < e_n e → e_nd e t ≤ 40) ∧ (∀ h, h < 24 → e_gn e h ≤ 8000)
/-- the things draw: the level, and who stands (bits) -/
def dw_ (e : ev) (h l : Nat) : Nat → Nat × Nat
  | 0 => (l, 0)
  | t + 1 => if e_go e t h then (if (dw_ e h l t).1 < e_nd e t then ((dw_ e h l t).1, (dw_ e h l t).2 + 2 ^ t) else ((dw_ e h l t).1 - e_nd e t, (dw_ e h l t).2)) else dw_ e h l t
theorem dw_b (e : ev) (h l : Nat) : ∀ t, (dw_ e h l t).1 ≤ l ∧ (dw_ e h l t).2 < 2 ^ t
  | 0 => ⟨Nat.le_refl l, by simp [dw_]⟩
  | t + 1 => by
    obtain ⟨h1, h2⟩ := dw_b e h l t
    have h3 : 2 ^ (t + 1) = 2 ^ t + 2 ^ t := by rw [Nat.pow_succ]; omega
    unfold dw_
    split
    · split
      · exact ⟨h1, by simp only; omega⟩
      · exact ⟨by simp only; omega, by simp only; omega⟩
    · exact ⟨h1, by omega⟩
/-- level, second, lost, flow, who stands -/
def st_l (e : ev) (h : Nat) (x : Nat × Nat) : Nat := if nI h = e_th e then x.1 - min (e_tk e) x.1 else x.1
def st_c (e : ev) (h : Nat) (x : Nat × Nat) : Nat := min (e_gn e h) (e_m e - st_l e h x)
def st_q (e : ev) (h : Nat) (x : Nat × Nat) : Nat × Nat := dw_ e h (st_l e h x + st_c e h x) (e_n e)
def st_3 (e : ev) (h : Nat) (x : Nat × Nat) : Nat := (st_q e h x).1 - (st_q e h x).1 * e_tr e / 100
def st_s (e : ev) (x : Nat × Nat) : Nat := x.2 - min (e_dr e) x.2
def st_f (e : ev) (h : Nat) (x : Nat × Nat) : Nat := if st_s e x ≤ st_3 e h x then min ((st_3 e h x - st_s e x) / 2) (e_lk e) else min (min ((st_s e x - st_3 e h x) / 2) (e_lk e)) (e_m e - st_3 e h x)
def st_n (e : ev) (h : Nat) (x : Nat × Nat) : Nat × Nat := if st_s e x ≤ st_3 e h x then (st_3 e h x - st_f e h x, st_s e x + st_f e h x) else (st_3 e h x + st_f e h x, st_s e x - st_f e h x)
def st_w (e : ev) (h : Nat) (x : Nat × Nat) : Int32 := if st_s e x ≤ st_3 e h x then -(nI (st_f e h x)) else nI (st_f e h x)
def st_p (e : ev) (h : Nat) (x : Nat × Nat) : Nat := e_gn e h - st_c e h x
theorem st_b {e : ev} (hE : EvOK e) {h : Nat} {x : Nat × Nat} (h1 : x.1 ≤ e_m e) (h2 : x.2 ≤ 999) : st_l e h x ≤ e_m e ∧ st_l e h x + st_c e h x ≤ e_m e ∧ (st_q e h x).1 ≤ e_m e ∧ (st_q e h x).2 < 2 ^ e_n e ∧ (st_q e h x).1 * e_tr e / 100 ≤ (st_q e h x).1 ∧ st_3 e h x ≤ e_m e ∧ st_s e x ≤ 999 ∧ st_f e h x ≤ 99 ∧ (st_n e h x).1 ≤ e_m e ∧ (st_n e h x).2 ≤ 999 := by
  obtain ⟨e1, e2, e3, e4, e5, e6, e7, e8, e9, e10⟩ := hE
  have a1 : st_l e h x ≤ e_m e := by unfold st_l; split <;> omega
  have a2 : st_l e h x + st_c e h x ≤ e_m e := by unfold st_c; omega
  obtain ⟨b1, b2⟩ := dw_b e h (st_l e h x + st_c e h x) (e_n e)
  have a3 : (st_q e h x).1 ≤ e_m e := Nat.le_trans b1 a2
  have a4 : (st_q e h x).1 * e_tr e / 100 ≤ (st_q e h x).1 := by
    have : (st_q e h x).1 * e_tr e ≤ (st_q e h x).1 * 100 := Nat.mul_le_mul_left _ (by omega)
    omega
  have a5 : st_3 e h x ≤ e_m e := by unfold st_3; omega
  have a6 : st_s e x ≤ 999 := by unfold st_s; omega
  have a7 : st_f e h x ≤ 99 := by unfold st_f; split <;> omega
  refine ⟨a1, a2, a3, b2, a4, a5, a6, a7, ?_, ?_⟩
  · unfold st_n
    by_cases q : st_s e x ≤ st_3 e h x
    · rw [if_pos q]; simp only; omega
    · rw [if_neg q]
      have : st_f e h x ≤ e_m e - st_3 e h x := by unfold st_f; rw [if_neg q]; omega
      simp only; omega
  · unfold st_n
    by_cases q : st_s e x ≤ st_3 e h x
    · rw [if_pos q]
      have : st_f e h x ≤ (st_3 e h x - st_s e x) / 2 := by unfold st_f; rw [if_pos q]; omega
      simp only; omega
    · rw [if_neg q]; simp only; omega
/-- from hour to hour -/
def rn_ (e : ev) : Nat → Nat × Nat
  | 0 => (e_l0 e, e_s0 e)
  | h + 1 => st_n e (h % 24) (rn_ e h)
theorem rn_b {e : ev} (hE : EvOK e) : ∀ h, (rn_ e h).1 ≤ e_m e ∧ (rn_ e h).2 ≤ 999
  | 0 => ⟨hE.2.2.2.2.2.2.1, hE.2.2.2.2.2.2.2.1⟩
  | h + 1 => by
    obtain ⟨h1, h2⟩ := rn_b hE h
    exact (st_b hE h1 h2).2.2.2.2.2.2.2.2
/-- behind hour h: the level, the second's, what was lost, the flow, who stands -/
def rl (e : ev) (h : Nat) : Nat := (rn_ e (h + 1)).1
def rs (e : ev) (h : Nat) : Nat := (rn_ e (h + 1)).2
def rp (e : ev) (h : Nat) : Nat := st_p e (h % 24) (rn_ e h)
def rf (e : ev) (h : Nat) : Int32 := st_w e (h % 24) (rn_ e h)
def rq (e : ev) (h : Nat) : Nat := (st_q e (h % 24) (rn_ e h)).2
theorem rl_b {e : ev} (hE : EvOK e) (h : Nat) : rl e h ≤ 999 := Nat.le_trans (rn_b hE (h + 1)).1 hE.1
theorem rs_b {e : ev} (hE : EvOK e) (h : Nat) : rs e h ≤ 999 := (rn_b hE (h + 1)).2
theorem rp_b {e : ev} (hE : EvOK e) (h : Nat) : rp e h ≤ 8000 := by
  have := hE.2.2.2.2.2.2.2.2.2 (h % 24) (Nat.mod_lt h (by decide))
  unfold rp st_p; omega
theorem rq_b {e : ev} (hE : EvOK e) (h : Nat) : rq e h < 2 ^ e_n e := by
  obtain ⟨h1, h2⟩ := rn_b hE h
  exact (st_b hE h1 h2).2.2.2.1
theorem rq_64 {e : ev} (hE : EvOK e) (h : Nat) : rq e h < 64 := Nat.lt_of_lt_of_le (rq_b hE h) (Nat.pow_le_pow_right (by decide) hE.2.2.2.2.1)
theorem or_bit : ∀ t, t < 6 → ∀ b, b < 2 ^ t → nI b ||| ms_shl 1 (nI t) = nI (b + 2 ^ t) := by decide +kernel
/-! the class's spring -/
def Rd_ (σ : Mm) (e : ev) : Prop := σ 8 3 = nI (e_n e) ∧ σ 8 4 = nI (e_m e) ∧ σ 8 5 = nI (e_tr e) ∧ σ 8 6 = nI (e_lk e) ∧ σ 8 7 = nI (e_dr e) ∧ σ 8 8 = nI (e_l0 e) ∧ σ 8 9 = nI (e_s0 e) ∧ σ 8 10 = e_th e ∧ σ 8 11 = nI (e_tk e) ∧ (∀ t, t < e_n e → σ 10 t = nI (e_nd e t)) ∧ (∀ t, t < e_n e → ∀ h, h < 24 → (ms_shr (σ 11 t) (nI h)) &&& 1 = if e_go e t h then 1 else 0) ∧ (∀ h, h < 24 → σ 9 h = nI (e_gn e h))
abbrev W8 (k i : Nat) : Prop := k = 8 ∧ 12 ≤ i
theorem Rd_.fr {σ σ' : Mm} {e : ev} (h : Rd_ σ e) {W : Nat → Nat → Prop} (hF : Fr W σ σ') (h1 : ∀ i, i < 12 → ¬ W 8 i) (h2 : ∀ i, ¬ W 9 i) (h3 : ∀ i, ¬ W 10 i) (h4 : ∀ i, ¬ W 11 i) : Rd_ σ' e := by
  obtain ⟨a1, a2, a3, a4, a5, a6, a7, a8, a9, a10, a11, a12⟩ := h
  refine ⟨?_, ?_, ?_, ?_, ?_, ?_, ?_, ?_, ?_, fun t ht => ?_, fun t ht h hh => ?_, fun h hh => ?_⟩
  · rw [hF 8 3 (h1 3 (by decide))]; exact a1
  · rw [hF 8 4 (h1 4 (by decide))]; exact a2
  · rw [hF 8 5 (h1 5 (by decide))]; exact a3
  · rw [hF 8 6 (h1 6 (by decide))]; exact a4
  · rw [hF 8 7 (h1 7 (by decide))]; exact a5
  · rw [hF 8 8 (h1 8 (by decide))]; exact a6
  · rw [hF 8 9 (h1 9 (by decide))]; exact a7
  · rw [hF 8 10 (h1 10 (by decide))]; exact a8
  · rw [hF 8 11 (h1 11 (by decide))]; exact a9
  · rw [hF 10 t (h3 t)]; exact a10 t ht
  · rw [hF 11 t (h4 t)]; exact a11 t ht h hh
  · rw [hF 9 h (h2 h)]; exact a12 h hh
theorem Rd_.w8 {σ σ' : Mm} {e : ev} (h : Rd_ σ e) (hF : Fr W8 σ σ') : Rd_ σ' e := h.fr hF (fun i hi q => by have := q.2; omega) (fun i q => by have := q.1; omega) (fun i q => by have := q.1; omega) (fun i q => by have := q.1; omega)
theorem dw_X {e : ev} (hE : EvOK e) {h l : Nat} (hh : h < 24) (hl : l ≤ 999) : ∀ (d n t : Nat), t + d = e_n e → d < n → ∀ σ : Mm, Rd_ σ e → σ 8 12 = nI (dw_ e h l t).1 → σ 8 16 = nI (dw_ e h l t).2 → ∃ σ', fX3_draw_7 n (nI h) (nI t) σ = some σ' ∧ Fr (fun k i => k = 8 ∧ (i = 12 ∨ i = 16)) σ σ' ∧ σ' 8 12 = nI (dw_ e h l (e_n e)).1 ∧ σ' 8 16 = nI (dw_ e h l (e_n e)).2 := by
  have hn6 : e_n e ≤ 6 := hE.2.2.2.2.1
  intro d
  induction d with
  | zero =>
    intro n t ht hn σ hR h12 h16
    obtain ⟨n, rfl⟩ : ∃ z, n = z + 1 := ⟨n - 1, by omega⟩
    have ht' : t = e_n e := by omega
    subst ht'
    refine ⟨σ, ?_, Fr.rf, h12, h16⟩
    rw [fX3_draw_7, hR.1, if_pos]
    rw [le_nI (by omega) (by omega)]
    exact Nat.le_refl _
  | succ d ih =>
    intro n t ht hn σ hR h12 h16
    obtain ⟨n, rfl⟩ : ∃ z, n = z + 1 := ⟨n - 1, by omega⟩
    obtain ⟨b1, b2⟩ := dw_b e h l t
    have hnd : e_nd e t ≤ 40 := hE.2.2.2.2.2.2.2.2.1 t (by omega)
    have h64 : 2 ^ t ≤ 2 ^ 6 := Nat.pow_le_pow_right (by decide) (by omega)
    have i6 : ms_in (nI t) 6 := in_nI (by omega) (by decide)
    rw [fX3_draw_7, hR.1, if_neg (by rw [le_nI (by omega) (by omega)]; omega), ms_g_t i6, ix_nI (by omega)]
    have hbit := hR.2.2.2.2.2.2.2.2.2.2.1 t (by omega) h hh
    have hneed := hR.2.2.2.2.2.2.2.2.2.1 t (by omega)
    simp only [fX7_bit, Option.bind_some, hbit, hneed, h12, ms_g_t i6]
    by_cases hg : e_go e t h = true
    · rw [if_neg (by simp [hg])]
      by_cases hc : (dw_ e h l t).1 < e_nd e t
      · rw [if_pos (by rw [lt_nI (by omega) (by omega)]; exact hc)]
        have e1 : dw_ e h l (t + 1) = ((dw_ e h l t).1, (dw_ e h l t).2 + 2 ^ t) := by rw [dw_, if_pos hg, if_pos hc]
        have hF : Fr (fun k i => k = 8 ∧ (i = 12 ∨ i = 16)) σ (ms_st σ 8 16 (σ 8 16 ||| ms_shl 1 (nI t))) := Fr.rf.st _ ⟨rfl, Or.inr rfl⟩
        obtain ⟨σ', q1, q2, q3, q4⟩ := ih n (t + 1) (by omega) (by omega) (ms_st σ 8 16 (σ 8 16 ||| ms_shl 1 (nI t))) (hR.w8 (hF.mo fun k i q => ⟨q.1, by omega⟩)) (by rw [ms_rd, if_neg (by decide), h12, e1]) (by rw [ms_rd, if_pos (by decide), h16, or_bit t (by omega) _ b2, e1])
        refine ⟨σ', ?_, hF.tr q2, q3, q4⟩
        rw [← q1]
        show fX3_draw_74 (fX3_draw_7 n) (nI h) (nI t) _ = _
        rw [fX3_draw_74, nI_1]
      · rw [if_neg (by rw [lt_nI (by omega) (by omega)]; exact hc)]
        have e1 : dw_ e h l (t + 1) = ((dw_ e h l t).1 - e_nd e t, (dw_ e h l t).2) := by rw [dw_, if_pos hg, if_neg hc]
        have hF : Fr (fun k i => k = 8 ∧ (i = 12 ∨ i = 16)) σ (ms_st σ 8 12 (nI (dw_ e h l t).1 - nI (e_nd e t))) := Fr.rf.st _ ⟨rfl, Or.inl rfl⟩
        obtain ⟨σ', q1, q2, q3, q4⟩ := ih n (t + 1) (by omega) (by omega) (ms_st σ 8 12 (nI (dw_ e h l t).1 - nI (e_nd e t))) (hR.w8 (hF.mo fun k i q => ⟨q.1, by omega⟩)) (by rw [ms_rd, if_pos (by decide), pk_sub (by omega), e1]) (by rw [ms_rd, if_neg (by decide), h16, e1])
        refine ⟨σ', ?_, hF.tr q2, q3, q4⟩
        rw [← q1]
        show fX3_draw_74 (fX3_draw_7 n) (nI h) (nI t) _ = _
        rw [fX3_draw_74, nI_1]
    · rw [if_pos (by simp [hg])]
      have e1 : dw_ e h l (t + 1) = dw_ e h l t := by rw [dw_, if_neg hg]
      obtain ⟨σ', q1, q2, q3, q4⟩ := ih n (t + 1) (by omega) (by omega) σ hR (by rw [h12, e1]) (by rw [h16, e1])
      refine ⟨σ', ?_, q2, q3, q4⟩
      rw [← q1, fX3_draw_74, nI_1]
