/-! ===== the reference's run of hours ===== -/
theorem ifle {α : Type} {a b : Nat} (ha : a < 2147483648) (hb : b < 2147483648) {X Y : α} : (if nI a ≤ nI b then X else Y) = if a ≤ b then X else Y := by simp only [le_nI ha hb]
theorem iflt {α : Type} {a b : Nat} (ha : a < 2147483648) (hb : b < 2147483648) {X Y : α} : (if nI a < nI b then X else Y) = if a < b then X else Y := by simp only [lt_nI ha hb]
theorem ifeq {α : Type} {a b : Nat} (ha : a < 2147483648) (hb : b < 2147483648) {X Y : α} : (if nI a = nI b then X else Y) = if a = b then X else Y := by simp only [eq_nI ha hb]
abbrev Wrun (k i : Nat) : Prop := 14 ≤ k ∧ k ≤ 18
def Rm_ (τ : Mm) (e : ev) (wo : Int32) : Prop := τ 0 3 = nI (e_n e) ∧ τ 2 1 = nI (e_m e) ∧ τ 2 3 = nI (e_tr e) ∧ τ 2 6 = nI (e_lk e) ∧ τ 2 8 = nI (e_dr e) ∧ (if τ 2 1 ≤ τ 2 2 then τ 2 1 else τ 2 2) = nI (e_l0 e) ∧ τ 2 7 = nI (e_s0 e) ∧ (∀ t, t < e_n e → τ 3 t = nI (e_nd e t)) ∧ (∀ t, t < e_n e → ∀ h, h < 240 → fX8_isGoing τ (nI t) (nI h) wo = some (if e_go e t (h % 24) then 1 else 0)) ∧ (∀ h, h < 24 → τ 13 h = nI (e_gn e h))
theorem going_fr {W : Nat → Nat → Prop} {τ τ' : Mm} (hF : Fr W τ τ') (h4 : ∀ i, ¬ W 4 i) (h5 : ∀ i, ¬ W 5 i) (h7 : ∀ i, ¬ W 7 i) (h8 : ∀ i, ¬ W 8 i) (a b c : Int32) : fX8_isGoing τ' a b c = fX8_isGoing τ a b c := by
  unfold fX8_isGoing
  simp only [hF 4 _ (h4 _), hF 5 _ (h5 _), hF 7 _ (h7 _), hF 8 _ (h8 _)]
theorem Rm_.fr {τ τ' : Mm} {e : ev} {wo : Int32} (h : Rm_ τ e wo) (hF : Fr Wrun τ τ') : Rm_ τ' e wo := by
  obtain ⟨a1, a2, a3, a4, a5, a6, a7, a8, a9, a10⟩ := h
  refine ⟨?_, ?_, ?_, ?_, ?_, ?_, ?_, fun t ht => ?_, fun t ht h hh => ?_, fun h hh => ?_⟩
  · rw [hF 0 3 (by decide)]; exact a1
  · rw [hF 2 1 (by decide)]; exact a2
  · rw [hF 2 3 (by decide)]; exact a3
  · rw [hF 2 6 (by decide)]; exact a4
  · rw [hF 2 8 (by decide)]; exact a5
  · rw [hF 2 1 (by decide), hF 2 2 (by decide)]; exact a6
  · rw [hF 2 7 (by decide)]; exact a7
  · rw [hF 3 t (by simp)]; exact a8 t ht
  · rw [going_fr hF (fun i => by simp) (fun i => by simp) (fun i => by simp) (fun i => by simp)]; exact a9 t ht h hh
  · rw [hF 13 h (by simp)]; exact a10 h hh
theorem m155 {e : ev} (hE : EvOK e) {wo th tk y1 s : Int32} {h l : Nat} (hh : h < 240) (hl : l ≤ 999) : ∀ (d n t : Nat), t + d = e_n e → d < n → ∀ τ : Mm, Rm_ τ e wo → τ 18 h = nI (dw_ e (h % 24) l t).2 → ∃ τ', (∀ K, fX8_runs_155 K n y1 wo th tk (nI (dw_ e (h % 24) l t).1) s (nI h) (nI t) τ = fX8_runs_155 K 1 y1 wo th tk (nI (dw_ e (h % 24) l (e_n e)).1) s (nI h) (nI (e_n e)) τ') ∧ Fr (fun k i => k = 18 ∧ i = h) τ τ' ∧ τ' 18 h = nI (dw_ e (h % 24) l (e_n e)).2 := by
  have hn6 : e_n e ≤ 6 := hE.2.2.2.2.1
  intro d
  induction d with
  | zero =>
    intro n t ht hn τ hR h18
    obtain ⟨n, rfl⟩ : ∃ z, n = z + 1 := ⟨n - 1, by omega⟩
    obtain rfl : t = e_n e := by omega
    refine ⟨τ, fun K => ?_, Fr.rf, h18⟩
    have hc : τ 0 3 ≤ nI (e_n e) := by rw [hR.1, le_nI (by omega) (by omega)]; exact Nat.le_refl _
    rw [fX8_runs_155, fX8_runs_155, if_pos hc, if_pos hc]
  | succ d ih =>
    intro n t ht hn τ hR h18
    obtain ⟨n, rfl⟩ : ∃ z, n = z + 1 := ⟨n - 1, by omega⟩
    obtain ⟨b1, b2⟩ := dw_b e (h % 24) l t
    have hnd : e_nd e t ≤ 40 := hE.2.2.2.2.2.2.2.2.1 t (by omega)
    have h64 : 2 ^ t ≤ 2 ^ 6 := Nat.pow_le_pow_right (by decide) (by omega)
    have i7 : ms_in (nI t) 7 := in_nI (by omega) (by decide)
    have i240 : ms_in (nI h) 240 := in_nI hh (by decide)
    have hc : ¬ τ 0 3 ≤ nI t := by rw [hR.1, le_nI (by omega) (by omega)]; omega
    have hgo := hR.2.2.2.2.2.2.2.2.1 t (by omega) h hh
    have hneed := hR.2.2.2.2.2.2.2.1 t (by omega)
    by_cases hg : e_go e t (h % 24) = true
    · by_cases hlt : (dw_ e (h % 24) l t).1 < e_nd e t
      · have e1 : dw_ e (h % 24) l (t + 1) = ((dw_ e (h % 24) l t).1, (dw_ e (h % 24) l t).2 + 2 ^ t) := by rw [dw_, if_pos hg, if_pos hlt]
        have hF : Fr (fun k i => k = 18 ∧ i = h) τ (ms_st τ 18 h (τ 18 h ||| ms_shl 1 (nI t))) := Fr.rf.st _ ⟨rfl, rfl⟩
        obtain ⟨τ', q1, q2, q3⟩ := ih n (t + 1) (by omega) (by omega) (ms_st τ 18 h (τ 18 h ||| ms_shl 1 (nI t))) (hR.fr (hF.mo fun k i q => ⟨by omega, by omega⟩)) (by rw [ms_rd, if_pos (by simp), h18, or_bit t (by omega) _ b2, e1])
        refine ⟨τ', fun K => ?_, hF.tr q2, q3⟩
        rw [← q1 K, fX8_runs_155, if_neg hc, hgo]
        simp only [Option.bind_some]
        rw [if_neg (by simp [hg]), ms_g_t i7, ix_nI (by omega), hneed, if_pos (by rw [lt_nI (by omega) (by omega)]; exact hlt)]
        simp only [fX8_runs_193, fX8_runs_213, fX8_runs_237, fX8_runs_239, ms_lt, if_true, ms_g_t i240]
        rw [ix_nI (show h < 2147483648 by omega), nI_1, e1, Int32.sub_zero]
      · have e1 : dw_ e (h % 24) l (t + 1) = ((dw_ e (h % 24) l t).1 - e_nd e t, (dw_ e (h % 24) l t).2) := by rw [dw_, if_pos hg, if_neg hlt]
        have hF : Fr (fun k i => k = 18 ∧ i = h) τ (ms_st τ 18 h (τ 18 h ||| 0)) := Fr.rf.st _ ⟨rfl, rfl⟩
        obtain ⟨τ', q1, q2, q3⟩ := ih n (t + 1) (by omega) (by omega) (ms_st τ 18 h (τ 18 h ||| 0)) (hR.fr (hF.mo fun k i q => ⟨by omega, by omega⟩)) (by rw [ms_rd, if_pos (by simp), h18, Int32.or_zero, e1])
        refine ⟨τ', fun K => ?_, hF.tr q2, q3⟩
        rw [← q1 K, fX8_runs_155, if_neg hc, hgo]
        simp only [Option.bind_some]
        rw [if_neg (by simp [hg]), ms_g_t i7, ix_nI (by omega), hneed, if_neg (by rw [lt_nI (by omega) (by omega)]; exact hlt)]
        have h10 : ¬ (1 : Int32) = 0 := by decide
        simp only [fX8_runs_193, fX8_runs_213, fX8_runs_237, fX8_runs_239, ms_lt, if_neg h10, ms_g_t i240, ms_g_t i7]
        rw [ix_nI (show h < 2147483648 by omega), ix_nI (show t < 2147483648 by omega), hneed, nI_1, e1, pk_sub (by omega)]
    · have e1 : dw_ e (h % 24) l (t + 1) = dw_ e (h % 24) l t := by rw [dw_, if_neg hg]
      obtain ⟨τ', q1, q2, q3⟩ := ih n (t + 1) (by omega) (by omega) τ hR (by rw [h18, e1])
      refine ⟨τ', fun K => ?_, q2, q3⟩
      rw [← q1 K, fX8_runs_155, if_neg hc, hgo]
      simp only [Option.bind_some]
      rw [if_pos (by simp [hg])]
      simp only [fX8_runs_239]
      rw [nI_1, e1]
/-- what stands behind an hour in the reference's rows -/
def RunAt (τ : Mm) (e : ev) (h : Nat) : Prop := τ 14 h = nI (rl e h) ∧ τ 15 h = nI (rs e h) ∧ τ 16 h = nI (rp e h) ∧ τ 17 h = rf e h ∧ τ 18 h = nI (rq e h)
theorem m65 {e : ev} (hE : EvOK e) {wo tk0 y1 : Int32} {h : Nat} (hh : h < 240) {τ : Mm} (hR : Rm_ τ e wo) {tk : Nat} (htk : (if nI (h % 24) = e_th e then e_tk e else 0) = tk) : ∃ τ', (∀ K, fX8_runs_65 K y1 wo (e_th e) tk0 (nI (rn_ e h).1) (nI (rn_ e h).2) (nI h) (nI tk) τ = K y1 wo (e_th e) tk0 (nI (rn_ e (h + 1)).1) (nI (rn_ e (h + 1)).2) (nI (h + 1)) τ') ∧ Fr (fun k i => 14 ≤ k ∧ k ≤ 18 ∧ i = h) τ τ' ∧ RunAt τ' e h := by
  obtain ⟨x1b, x2b⟩ := rn_b hE h
  generalize hx : rn_ e h = x at x1b x2b ⊢
  have h24 : h % 24 < 24 := Nat.mod_lt h (by decide)
  obtain ⟨a1, a2, a3, a4, a5, a6, a7, a8, a9, a10⟩ := st_b (h := h % 24) hE x1b x2b
  obtain ⟨e1, e2, e3, e4, e5, e6, e7, e8, e9, e10⟩ := id hE
  have hg := e10 (h % 24) h24
  have htk40 : tk ≤ 40 := by rw [← htk]; split <;> omega
  have hl0 : st_l e (h % 24) x = x.1 - min tk x.1 := by
    unfold st_l
    rw [← htk]
    split <;> omega
  have i240 : ms_in (nI h) 240 := in_nI hh (by decide)
  have i24 : ms_in (nI (h % 24)) 24 := in_nI h24 (by decide)
  have ixh : ms_ix (nI h) = h := ix_nI (by omega)
  have hrem : ms_rem (nI h) 24 = nI (h % 24) := rem_nI (d := 24) (by omega) (by decide) (by decide)
  have hgn := hR.2.2.2.2.2.2.2.2.2 (h % 24) h24
  have hc : st_c e (h % 24) x = min (e_gn e (h % 24)) (e_m e - st_l e (h % 24) x) := rfl
  have hp : st_p e (h % 24) x = e_gn e (h % 24) - st_c e (h % 24) x := rfl
  -- what is wound
  generalize hσ1 : ms_st (ms_st τ 16 h (nI (st_p e (h % 24) x))) 18 h 0 = τ1
  have F1 : Fr (fun k i => 14 ≤ k ∧ k ≤ 18 ∧ i = h) τ τ1 := by rw [← hσ1]; exact (Fr.rf.st _ ⟨by decide, by decide, rfl⟩).st _ ⟨by decide, by decide, rfl⟩
  have v16 : τ1 16 h = nI (st_p e (h % 24) x) := by rw [← hσ1]; simp only [ms_rd]; simp
  have hR1 : Rm_ τ1 e wo := hR.fr (F1.mo fun k i q => ⟨q.1, q.2.1⟩)
  obtain ⟨τ2, q1, q2, q3⟩ := m155 hE (wo := wo) (th := e_th e) (tk := tk0) (y1 := y1) (s := nI x.2) hh (l := st_l e (h % 24) x + st_c e (h % 24) x) (by omega) (e_n e) ms_fu 0 (by omega) (fu_lt (by omega)) τ1 hR1 (by rw [← hσ1]; simp only [ms_rd]; simp; rfl)
  have F2 : Fr (fun k i => 14 ≤ k ∧ k ≤ 18 ∧ i = h) τ τ2 := F1.tr (q2.mo fun k i q => ⟨by omega, by omega, q.2⟩)
  have hR2 : Rm_ τ2 e wo := hR.fr (F2.mo fun k i q => ⟨q.1, q.2.1⟩)
  have w16 : τ2 16 h = nI (st_p e (h % 24) x) := by rw [q2 16 h (by simp)]; exact v16
  have w18 : τ2 18 h = nI (st_q e (h % 24) x).2 := q3
  have step1 : ∀ K, fX8_runs_65 K y1 wo (e_th e) tk0 (nI x.1) (nI x.2) (nI h) (nI tk) τ = fX8_runs_155 K 1 y1 wo (e_th e) tk0 (nI (st_q e (h % 24) x).1) (nI x.2) (nI h) (nI (e_n e)) τ2 := by
    intro K
    have s1 : fX8_runs_65 K y1 wo (e_th e) tk0 (nI x.1) (nI x.2) (nI h) (nI tk) τ = fX8_runs_83 K y1 wo (e_th e) tk0 (nI x.2) (nI h) (nI (min tk x.1)) (nI x.1) τ := by
      unfold fX8_runs_65
      rw [ifle (by omega) (by omega)]
      by_cases c : x.1 ≤ tk
      · rw [if_pos c, Nat.min_eq_right c]
      · rw [if_neg c, Nat.min_eq_left (by omega)]
    rw [s1]
    unfold fX8_runs_83
    rw [hrem, ms_g_t i24, ix_nI (by omega), hgn, pk_sub (by omega), ← hl0, nI_add]
    simp only [ms_lt]
    rw [ms_g_t (show ms_in 1 9 by decide)]
    have m1 : τ 2 (ms_ix 1) = nI (e_m e) := hR.2.1
    rw [m1, ifle (by omega) (by omega)]
    have s2 : (if st_l e (h % 24) x + e_gn e (h % 24) ≤ e_m e then fX8_runs_131 K y1 wo (e_th e) tk0 (nI x.2) (nI h) (nI (st_l e (h % 24) x + e_gn e (h % 24))) 0 (nI h) τ else ms_g (ms_in 1 9) (fX8_runs_131 K y1 wo (e_th e) tk0 (nI x.2) (nI h) (nI (st_l e (h % 24) x + e_gn e (h % 24))) (nI (st_l e (h % 24) x + e_gn e (h % 24)) - nI (e_m e)) (nI h) τ)) = fX8_runs_131 K y1 wo (e_th e) tk0 (nI x.2) (nI h) (nI (st_l e (h % 24) x + e_gn e (h % 24))) (nI (st_p e (h % 24) x)) (nI h) τ := by
      by_cases c : st_l e (h % 24) x + e_gn e (h % 24) ≤ e_m e
      · rw [if_pos c, show (0 : Int32) = nI (st_p e (h % 24) x) by rw [hp, show e_gn e (h % 24) - st_c e (h % 24) x = 0 by omega]; rfl]
      · rw [if_neg c, ms_g_t (show ms_in 1 9 by decide), pk_sub (by omega), show st_l e (h % 24) x + e_gn e (h % 24) - e_m e = st_p e (h % 24) x by omega]
    rw [s2]
    unfold fX8_runs_131
    rw [ms_g_t i240, ixh]
    simp only [ms_lt, ms_g_t i240]
    rw [show ms_st τ 16 h (nI (st_p e (h % 24) x)) 16 h = nI (st_p e (h % 24) x) by rw [ms_rd, if_pos (by simp)], pk_sub (by omega), show st_l e (h % 24) x + e_gn e (h % 24) - st_p e (h % 24) x = st_l e (h % 24) x + st_c e (h % 24) x by omega, hσ1]
    exact q1 K
  -- tiring, draining, the chain
  have hmul : (st_q e (h % 24) x).1 * e_tr e ≤ 999 * 99 := Nat.mul_le_mul (by omega) (by omega)
  have i9 : ∀ k : Nat, k < 9 → ms_in (nI k) 9 := fun k hk => in_nI hk (by decide)
  have m3 : τ2 2 (ms_ix 3) = nI (e_tr e) := hR2.2.2.1
  have m8 : τ2 2 (ms_ix 8) = nI (e_dr e) := hR2.2.2.2.2.1
  have m6 : τ2 2 (ms_ix 6) = nI (e_lk e) := hR2.2.2.2.1
  have m1 : τ2 2 (ms_ix 1) = nI (e_m e) := hR2.2.1
  have step2 : ∀ K, fX8_runs_155 K 1 y1 wo (e_th e) tk0 (nI (st_q e (h % 24) x).1) (nI x.2) (nI h) (nI (e_n e)) τ2 = fX8_runs_386 K y1 wo (e_th e) tk0 (nI (st_3 e (h % 24) x)) (nI (st_s e x)) (nI h) (st_w e (h % 24) x) τ2 := by
    intro K
    rw [fX8_runs_155, if_pos (by rw [hR2.1, le_nI (by omega) (by omega)]; exact Nat.le_refl _), ms_g_t (show ms_in 3 9 by decide), m3, pk_mul, li_100, pk_div (by omega) (by decide) (by decide), pk_sub (by omega)]
    simp only [ms_lt]
    have e3 : (st_q e (h % 24) x).1 - (st_q e (h % 24) x).1 * e_tr e / 100 = st_3 e (h % 24) x := rfl
    rw [e3, ms_g_t (show ms_in 8 9 by decide), ms_g_t (show ms_in 8 9 by decide), m8, ifle (by omega) (by omega)]
    have s3 : (if e_dr e ≤ x.2 then fX8_runs_288 K y1 wo (e_th e) tk0 (nI (st_3 e (h % 24) x)) (nI h) (nI (e_dr e)) (nI x.2) τ2 else fX8_runs_288 K y1 wo (e_th e) tk0 (nI (st_3 e (h % 24) x)) (nI h) (nI x.2) (nI x.2) τ2) = fX8_runs_288 K y1 wo (e_th e) tk0 (nI (st_3 e (h % 24) x)) (nI h) (nI (min (e_dr e) x.2)) (nI x.2) τ2 := by
      by_cases c : e_dr e ≤ x.2
      · rw [if_pos c, Nat.min_eq_left c]
      · rw [if_neg c, Nat.min_eq_right (by omega)]
    rw [s3]
    unfold fX8_runs_288
    rw [pk_sub (by omega)]
    have e4 : x.2 - min (e_dr e) x.2 = st_s e x := rfl
    rw [e4, ifle (by omega) (by omega)]
    have s5 : ∀ z : Nat, z ≤ 999 → fX8_runs_311 K y1 wo (e_th e) tk0 (nI (st_3 e (h % 24) x)) (nI (st_s e x)) (nI h) (nI z) τ2 = fX8_runs_339 K y1 wo (e_th e) tk0 (nI (st_3 e (h % 24) x)) (nI (st_s e x)) (nI h) (nI (min (z / 2) (e_lk e))) τ2 := by
      intro z hz
      unfold fX8_runs_311
      rw [ms_g_t (show ms_in 6 9 by decide), ms_g_t (show ms_in 6 9 by decide), m6, li_2, pk_div (by omega) (by decide) (by decide), ifle (by omega) (by omega)]
      by_cases c : e_lk e ≤ z / 2
      · rw [if_pos c, Nat.min_eq_right c]
      · rw [if_neg c, Nat.min_eq_left (by omega)]
    by_cases c : st_s e x ≤ st_3 e (h % 24) x
    · rw [if_pos c, pk_sub c, s5 _ (by omega)]
      unfold fX8_runs_339
      rw [if_pos (by rw [le_nI (by omega) (by omega)]; exact c)]
      unfold st_w st_f
      rw [if_pos c, if_pos c]
    · rw [if_neg c, pk_sub (by omega), s5 _ (by omega)]
      unfold fX8_runs_339
      rw [if_neg (by rw [le_nI (by omega) (by omega)]; exact c), ms_g_t (show ms_in 1 9 by decide), ms_g_t (show ms_in 1 9 by decide), m1, pk_sub a6, ifle (by omega) (by omega)]
      unfold st_w st_f fX8_runs_376
      rw [if_neg c, if_neg c]
      by_cases c2 : e_m e - st_3 e (h % 24) x ≤ min ((st_s e x - st_3 e (h % 24) x) / 2) (e_lk e)
      · rw [if_pos c2, Nat.min_eq_right c2]
      · rw [if_neg c2, Nat.min_eq_left (Nat.le_of_lt (Nat.lt_of_not_le c2))]
  have hn : st_n e (h % 24) x = rn_ e (h + 1) := by rw [rn_, hx]
  have en1 : nI (st_3 e (h % 24) x) + st_w e (h % 24) x = nI (rn_ e (h + 1)).1 := by
    rw [← hn]; unfold st_w st_n
    by_cases c : st_s e x ≤ st_3 e (h % 24) x
    · rw [if_pos c, if_pos c, Int32.add_neg_eq_sub, pk_sub (by unfold st_f; rw [if_pos c]; omega)]
    · rw [if_neg c, if_neg c, nI_add]
  have en2 : nI (st_s e x) - st_w e (h % 24) x = nI (rn_ e (h + 1)).2 := by
    rw [← hn]; unfold st_w st_n
    by_cases c : st_s e x ≤ st_3 e (h % 24) x
    · rw [if_pos c, if_pos c, Int32.sub_neg, nI_add]
    · rw [if_neg c, if_neg c, pk_sub (by unfold st_f; rw [if_neg c]; omega)]
  refine ⟨ms_st (ms_st (ms_st τ2 14 h (nI (rn_ e (h + 1)).1)) 15 h (nI (rn_ e (h + 1)).2)) 17 h (st_w e (h % 24) x), fun K => ?_, ((F2.st _ ⟨by decide, by decide, rfl⟩).st _ ⟨by decide, by decide, rfl⟩).st _ ⟨by decide, by decide, rfl⟩, ?_⟩
  · rw [step1, step2]
    unfold fX8_runs_386
    simp only [ms_g_t i240, ixh, ms_lt, en1, en2]
    rw [nI_1]
  · refine ⟨?_, ?_, ?_, ?_, ?_⟩
    · simp only [ms_rd]; simp [rl]
    · simp only [ms_rd]; simp [rs]
    · simp only [ms_rd]; simp [rp, hx, w16]
    · simp only [ms_rd]; simp [rf, hx]
    · simp only [ms_rd]; simp [rq, hx, w18]
theorem m44 {e : ev} (hE : EvOK e) {wo : Int32} {N : Nat} (hN : N ≤ 240) : ∀ (d n h : Nat), h + d = N → d < n → ∀ τ : Mm, Rm_ τ e wo → (∀ j, j < h → RunAt τ e j) → ∃ τ', fX8_runs_44 n (nI N) wo (e_th e) (nI (e_tk e)) (nI (rn_ e h).1) (nI (rn_ e h).2) (nI h) τ = some τ' ∧ Fr Wrun τ τ' ∧ ∀ j, j < N → RunAt τ' e j := by
  intro d
  induction d with
  | zero =>
    intro n h hd hn τ hR hrec
    obtain ⟨n, rfl⟩ : ∃ z, n = z + 1 := ⟨n - 1, by omega⟩
    obtain rfl : h = N := by omega
    rw [fX8_runs_44, if_pos (by rw [le_nI (by omega) (by omega)]; exact Nat.le_refl _)]
    exact ⟨τ, rfl, Fr.rf, hrec⟩
  | succ d ih =>
    intro n h hd hn τ hR hrec
    obtain ⟨n, rfl⟩ : ∃ z, n = z + 1 := ⟨n - 1, by omega⟩
    have e6 := hE.2.2.2.2.2.1
    have hrem : ms_rem (nI h) 24 = nI (h % 24) := rem_nI (d := 24) (by omega) (by decide) (by decide)
    obtain ⟨τ1, q1, q2, q3⟩ := m65 hE (tk0 := nI (e_tk e)) (y1 := nI N) (h := h) (by omega) hR rfl
    have F1 : Fr Wrun τ τ1 := q2.mo fun k i q => ⟨q.1, q.2.1⟩
    obtain ⟨τ', g1, g2, g3⟩ := ih n (h + 1) (by omega) (by omega) τ1 (hR.fr F1) (fun j hj => by
      rcases Nat.lt_or_ge j h with q | q
      · obtain ⟨a, b, c, d, e'⟩ := hrec j q
        have hne : j ≠ h := by omega
        have F : ∀ k, τ1 k j = τ k j := fun k => q2 k j (fun z => hne z.2.2)
        exact ⟨by rw [F]; exact a, by rw [F]; exact b, by rw [F]; exact c, by rw [F]; exact d, by rw [F]; exact e'⟩
      · obtain rfl : j = h := by omega
        exact q3)
    refine ⟨τ', ?_, F1.tr g2, g3⟩
    rw [fX8_runs_44, if_neg (by rw [le_nI (by omega) (by omega)]; omega), hrem, ← g1, ← q1 (fX8_runs_44 n)]
    by_cases c : nI (h % 24) = e_th e
    · rw [if_pos c, if_pos c]
    · rw [if_neg c, if_neg c]; rfl
/-- the reference's run: its rows are those of the hours -/
theorem runsM {e : ev} (hE : EvOK e) {wo : Int32} {τ : Mm} (hR : Rm_ τ e wo) {N : Nat} (hN : N ≤ 240) : ∃ τ', fX8_runs (nI N) wo (e_th e) (nI (e_tk e)) τ = some τ' ∧ Fr Wrun τ τ' ∧ ∀ j, j < N → RunAt τ' e j := by
  obtain ⟨τ', q1, q2, q3⟩ := m44 hE hN N ms_fu 0 (by omega) (fu_lt (by omega)) τ hR (fun j hj => by omega)
  refine ⟨τ', ?_, q2, q3⟩
  have hs : τ 2 (ms_ix 7) = nI (e_s0 e) := hR.2.2.2.2.2.2.1
  have hl := hR.2.2.2.2.2.1
  have s1 : ∀ v : Int32, v = nI (e_l0 e) → fX8_runs_30 (nI N) wo (e_th e) (nI (e_tk e)) v τ = some τ' := by
    intro v hv
    unfold fX8_runs_30
    rw [ms_g_t (show ms_in 7 9 by decide), hs, hv]
    exact q1
  unfold fX8_runs
  rw [ms_g_t (show ms_in 2 9 by decide), ms_g_t (show ms_in 1 9 by decide), ms_g_t (show ms_in 1 9 by decide), ms_g_t (show ms_in 2 9 by decide)]
  show (if τ 2 1 ≤ τ 2 2 then _ else _) = _
  by_cases c : τ 2 1 ≤ τ 2 2
  · rw [if_pos c] at hl
    rw [if_pos c]
    exact s1 _ hl
  · rw [if_neg c] at hl
    rw [if_neg c]
    exact s1 _ hl
