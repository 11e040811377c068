/-! ===== the best shifts: the reference ===== -/
theorem shR_out {σ : Mm} {r t : Nat} (h : t ∉ wl σ) : shR σ r t = sf σ t := by
  unfold shR
  rw [if_neg]
  intro q
  exact h (by rw [List.idxOf_lt_length_iff] at q; exact q)
def tA (e : ev) (H : Nat) : Nat → Nat
  | 0 => 0
  | t + 1 => tA e H t + soS e t H
def tM (σ : Mm) (e : ev) (H : Nat) : Nat → Nat
  | 0 => 0
  | t + 1 => tM σ e H t + if td σ t 3 = 1 then soS e t H else 0
def pmS (σ : Mm) (q : Nat) : Nat → Nat
  | 0 => 0
  | t + 1 => pmS σ q t + if td σ t 3 = 1 then bt q t else 0
theorem tA_h (e : ev) (H : Nat) : ∀ T, tA e (H + 1) T = tA e H T + pcS (rq e H) T
  | 0 => rfl
  | T + 1 => by
    have ih := tA_h e H T
    have e1 : tA e (H + 1) (T + 1) = tA e (H + 1) T + soS e T (H + 1) := rfl
    have e2 : tA e H (T + 1) = tA e H T + soS e T H := rfl
    have e3 : soS e T (H + 1) = soS e T H + bt (rq e H) T := rfl
    have e4 : pcS (rq e H) (T + 1) = pcS (rq e H) T + bt (rq e H) T := rfl
    omega
theorem tM_h (σ : Mm) (e : ev) (H : Nat) : ∀ T, tM σ e (H + 1) T = tM σ e H T + pmS σ (rq e H) T
  | 0 => rfl
  | T + 1 => by
    have ih := tM_h σ e H T
    have e1 : tM σ e (H + 1) (T + 1) = tM σ e (H + 1) T + if td σ T 3 = 1 then soS e T (H + 1) else 0 := rfl
    have e2 : tM σ e H (T + 1) = tM σ e H T + if td σ T 3 = 1 then soS e T H else 0 := rfl
    have e3 : soS e T (H + 1) = soS e T H + bt (rq e H) T := rfl
    have e4 : pmS σ (rq e H) (T + 1) = pmS σ (rq e H) T + if td σ T 3 = 1 then bt (rq e H) T else 0 := rfl
    rw [e1, e2, e4, e3, ih]
    split <;> omega
theorem tA_0 (e : ev) : ∀ T, tA e 0 T = 0
  | 0 => rfl
  | T + 1 => by
    have e1 : tA e 0 (T + 1) = tA e 0 T + 0 := rfl
    rw [e1, tA_0 e T]
theorem tM_0 (σ : Mm) (e : ev) : ∀ T, tM σ e 0 T = 0
  | 0 => rfl
  | T + 1 => by
    have e1 : tM σ e 0 (T + 1) = tM σ e 0 T + if td σ T 3 = 1 then 0 else 0 := rfl
    rw [e1, tM_0 σ e T]
    split <;> rfl
set_option maxRecDepth 100000 in
theorem pcS_6 : ∀ T, T < 7 → ∀ q, q < 2 ^ T → pcS q T = pc6 q := by decide +kernel
set_option maxRecDepth 100000 in
theorem bt_and : ∀ a, a < 64 → ∀ b, b < 64 → ∀ u, u < 6 → bt (a &&& b) u = bt a u * bt b u := by decide +kernel
theorem pmS_6 {σ : Mm} (h : TW σ) {q : Nat} (hq : q < 2 ^ tN σ) : ∀ T, T ≤ tN σ → pmS σ q T = pcS (q &&& mB σ (tN σ)) T
  | 0, _ => rfl
  | T + 1, hT => by
    have h6 := h.2.1
    have h64 : 2 ^ tN σ ≤ 2 ^ 6 := Nat.pow_le_pow_right (by decide) h6
    have ih := pmS_6 h hq T (by omega)
    have h3 := (h.2.2.2.2.2.2.1 T (by omega)).2.2.2.2.2.2
    have e1 : pmS σ q (T + 1) = pmS σ q T + if td σ T 3 = 1 then bt q T else 0 := rfl
    have e2 : pcS (q &&& mB σ (tN σ)) (T + 1) = pcS (q &&& mB σ (tN σ)) T + bt (q &&& mB σ (tN σ)) T := rfl
    rw [e1, e2, ih, bt_and q (by omega) _ (mB_64 h) T (by omega), mB_bt h _ (Nat.le_refl _) T (by omega)]
    rcases (show td σ T 3 = 0 ∨ td σ T 3 = 1 by omega) with c | c
    · rw [c, if_neg (by decide), Nat.mul_zero]
    · rw [c, if_pos rfl, Nat.mul_one]
theorem tA_al {σ : Mm} (h : TW σ) {e : ev} (hE : EvOK e) (hn : e_n e = tN σ) : ∀ H, tA e H (tN σ) = alS e H
  | 0 => tA_0 e _
  | H + 1 => by
    have e1 : alS e (H + 1) = alS e H + pc6 (rq e H) := rfl
    have hq := rq_b hE H
    rw [hn] at hq
    rw [tA_h, tA_al h hE hn H, e1, pcS_6 _ (by have := h.2.1; omega) _ hq]
theorem tM_mu {σ : Mm} (h : TW σ) {e : ev} (hE : EvOK e) (hn : e_n e = tN σ) : ∀ H, tM σ e H (tN σ) = muS σ e H
  | 0 => tM_0 σ e _
  | H + 1 => by
    have e1 : muS σ e (H + 1) = muS σ e H + pc6 (rq e H &&& mB σ (tN σ)) := rfl
    have hq := rq_b hE H
    rw [hn] at hq
    have h6 := h.2.1
    rw [tM_h, tM_mu h hE hn H, e1, pmS_6 h hq _ (Nat.le_refl _), pcS_6 _ (by omega) _ (Nat.lt_of_le_of_lt Nat.and_le_left hq)]
theorem soS_b (e : ev) (t : Nat) : ∀ H, soS e t H ≤ H
  | 0 => Nat.le_refl _
  | H + 1 => by
    have := soS_b e t H
    have := bt_2 (rq e H) t
    have e1 : soS e t (H + 1) = soS e t H + bt (rq e H) t := rfl
    omega
theorem tA_b (e : ev) (H : Nat) : ∀ T, tA e H T ≤ H * T
  | 0 => Nat.le_refl _
  | T + 1 => by
    have := tA_b e H T
    have := soS_b e T H
    have e1 : tA e H (T + 1) = tA e H T + soS e T H := rfl
    rw [e1, Nat.mul_succ]
    omega
theorem tM_A (σ : Mm) (e : ev) (H : Nat) : ∀ T, tM σ e H T ≤ tA e H T
  | 0 => Nat.le_refl _
  | T + 1 => by
    have := tM_A σ e H T
    have e1 : tA e H (T + 1) = tA e H T + soS e T H := rfl
    have e2 : tM σ e H (T + 1) = tM σ e H T + if td σ T 3 = 1 then soS e T H else 0 := rfl
    rw [e1, e2]
    split <;> omega
/-- the sums over things -/
theorem b219 {σ τ : Mm} (h : TW σ) {hb : Nat} (hT : TR σ τ hb) {e : ev} (hE : EvOK e) (hr : ∀ j, j < 48 → RunAt τ e j) (K : Int32 → Int32 → Int32 → Int32 → Int32 → Int32 → Mm → Option (Int32 × Mm)) (y1 y2 y3 y4 y5 y6 : Int32) : ∀ (d n t : Nat), t + d = tN σ → d < n → fX8_best_219 K n y1 y2 y3 y4 y5 y6 (nI (tM σ e 48 t)) (nI (tA e 48 t)) (nI t) τ = fX8_best_219 K 1 y1 y2 y3 y4 y5 y6 (nI (tM σ e 48 (tN σ))) (nI (tA e 48 (tN σ))) (nI (tN σ)) τ := by
  have h6 := h.2.1
  intro d
  induction d with
  | zero =>
    intro n t hd hn
    obtain ⟨n, rfl⟩ : ∃ z, n = z + 1 := ⟨n - 1, by omega⟩
    obtain rfl : t = tN σ := by omega
    have hc : τ 0 3 ≤ nI (tN σ) := by rw [hT.1, le_nI (by omega) (by omega)]; exact Nat.le_refl _
    rw [fX8_best_219, fX8_best_219, if_pos hc, if_pos hc]
  | succ d ih =>
    intro n t hd hn
    obtain ⟨n, rfl⟩ : ∃ z, n = z + 1 := ⟨n - 1, by omega⟩
    have hih := ih n (t + 1) (by omega) (by omega)
    have st : fX8_stoodBy τ (nI t) 2 = some (nI (soS e t 48)) := stoodM5 hE (D := 2) hr (by omega) (by decide) 48 ms_fu 0 (by decide) (fu_lt (by decide))
    have e1 : tA e 48 (t + 1) = tA e 48 t + soS e t 48 := rfl
    have e2 : tM σ e 48 (t + 1) = tM σ e 48 t + if td σ t 3 = 1 then soS e t 48 else 0 := rfl
    have h3 := (h.2.2.2.2.2.2.1 t (by omega)).2.2.2.2.2.2
    rw [fX8_best_219, hT.1, ifle (by omega) (by omega), if_neg (by omega), st, Option.bind_some, ms_g_t (in_nI (by omega) (by decide)), ix_nI (by omega), (hT.2.2.2.1 t (by omega)).2.2.2]
    unfold fX8_best_256
    rw [nI_1, nI_add, nI_add, ← e1]
    rcases (show td σ t 3 = 0 ∨ td σ t 3 = 1 by omega) with c | c
    · rw [c, if_neg (by decide), Int32.add_zero]
      rw [e2, if_neg (by omega), Nat.add_zero] at hih
      exact hih
    · rw [c, if_pos (by decide)]
      rw [e2, if_pos c] at hih
      exact hih
/-- what the reference keeps from row to row -/
def RB (σ τ : Mm) : Prop := TR σ τ (hB σ) ∧ SR σ τ ∧ (∀ t, t < 6 → τ 7 t = nI (bt (sB σ) t)) ∧ (∀ j, j < 24 → τ 13 j = nI (gn_ σ (hB σ) j)) ∧ (∀ k u, (wl σ)[k]? = some u → τ 19 k = nI u) ∧ (∀ t, t < tN σ → τ 20 t = nI (sf σ t)) ∧ (∀ t, t < 6 → t ∉ wl σ → τ 8 t = nI (sf σ t))
abbrev Wb (k i : Nat) : Prop := k = 8 ∨ (14 ≤ k ∧ k ≤ 18) ∨ k = 21
theorem RB.fr {σ τ τ' : Mm} (h : RB σ τ) (hF : Fr Wb τ τ') (h8 : ∀ t, t < 6 → t ∉ wl σ → τ' 8 t = nI (sf σ t)) : RB σ τ' := by
  obtain ⟨a, b, c, d, e, f, g⟩ := h
  exact ⟨a.fr hF (by simp) (by simp) (by simp) (fun k i p q r z => by omega), fun i hi => by rw [hF 2 i (by simp)]; exact b i hi, fun t ht => by rw [hF 7 t (by simp)]; exact c t ht, fun j hj => by rw [hF 13 j (by simp)]; exact d j hj, fun k u hu => by rw [hF 19 k (by simp)]; exact e k u hu, fun t ht => by rw [hF 20 t (by simp)]; exact f t ht, h8⟩
theorem b166 {σ : Mm} {L r : Nat} (hl : (wl σ).length = L) (hL : L ≤ 3) (h6 : tN σ ≤ 6) (hr : r < 13824) (K : Int32 → Int32 → Int32 → Int32 → Int32 → Int32 → Mm → Option (Int32 × Mm)) (y1 y2 y3 y4 y5 y6 : Int32) : ∀ (k n : Nat), k ≤ L → k < n → ∀ τ : Mm, (∀ k u, (wl σ)[k]? = some u → τ 19 k = nI u) → (∀ j u, k ≤ j → (wl σ)[j]? = some u → τ 8 u = nI (dgt L r j)) → ∃ τ', fX8_best_166 K n y1 y2 y3 y4 y5 y6 (nI (r / 24 ^ (L - k))) (nI k - 1) τ = (fX8_runs 48 0 (-1) 0 τ').bind (fun σ2 => fX8_best_219 K ms_fu y1 y2 y3 y4 y5 y6 0 0 0 σ2) ∧ Fr (fun k _ => k = 8) τ τ' ∧ (∀ j u, (wl σ)[j]? = some u → τ' 8 u = nI (dgt L r j)) ∧ ∀ t, t ∉ wl σ → τ' 8 t = τ 8 t := by
  intro k
  induction k with
  | zero =>
    intro n hk hn τ h19 hj
    obtain ⟨n, rfl⟩ : ∃ z, n = z + 1 := ⟨n - 1, by omega⟩
    rw [fX8_best_166, if_pos (show nI 0 - 1 < 0 by decide)]
    exact ⟨τ, rfl, Fr.rf, fun j u hu => hj j u (by omega) hu, fun _ _ => rfl⟩
  | succ k ih =>
    intro n hk hn τ h19 hj
    obtain ⟨n, rfl⟩ : ∃ z, n = z + 1 := ⟨n - 1, by omega⟩
    obtain ⟨t, ht⟩ : ∃ t, (wl σ)[k]? = some t := ⟨_, List.getElem?_eq_getElem (by omega)⟩
    obtain ⟨w1, w2, w3⟩ := wl_at ht
    have e1 : nI (k + 1) - 1 = nI k := by rw [show (1 : Int32) = nI 1 from rfl, pk_sub (by omega), Nat.add_sub_cancel]
    have hb : r / 24 ^ (L - (k + 1)) < 13824 := Nat.lt_of_le_of_lt (Nat.div_le_self _ _) hr
    have e2 : nI (r / 24 ^ (L - (k + 1))) / 24 = nI (r / 24 ^ (L - k)) := by
      rw [show (24 : Int32) = nI 24 from rfl, pk_div (by omega) (by decide) (by decide), Nat.div_div_eq_div_mul, ← Nat.pow_succ, show (L - (k + 1)).succ = L - k by omega]
    have e3 : ms_rem (nI (r / 24 ^ (L - (k + 1)))) 24 = nI (dgt L r k) := by
      unfold dgt
      rw [show L - 1 - k = L - (k + 1) by omega]
      exact rem_nI (d := 24) (by omega) (by decide) (by decide)
    rw [fX8_best_166, e1, show (if nI k < 0 then _ else _ : Option (Int32 × Mm)) = _ from if_neg (by rw [show (0 : Int32) = nI 0 from rfl, lt_nI (by omega) (by decide)]; omega), ms_g_t (in_nI (by omega) (by decide)), ix_nI (by omega), h19 k t ht, ms_g_t (in_nI (by omega) (by decide)), ix_nI (by omega), e2, e3, show nI k + -1 = nI k - 1 by rw [Int32.sub_eq_add_neg], lt_eq]
    have F : Fr (fun k _ => k = 8) τ (ms_st τ 8 t (nI (dgt L r k))) := Fr.rf.st _ rfl
    obtain ⟨τ', p1, p2, p3, p4⟩ := ih n (by omega) (by omega) (ms_st τ 8 t (nI (dgt L r k))) (fun k u hu => by rw [F 19 k (by simp)]; exact h19 k u hu) (fun j u hj' hu => by
      rw [ms_rd]
      by_cases q : u = t
      · have e4 := (wl_at hu).2.2
        rw [q, w3] at e4
        rw [if_pos ⟨rfl, q⟩, e4]
      · rw [if_neg (fun z => q z.2)]
        refine hj j u ?_ hu
        rcases Nat.lt_or_ge k j with z | z
        · exact z
        · obtain rfl : j = k := by omega
          rw [ht] at hu
          exact absurd (Option.some.inj hu).symm q)
    refine ⟨τ', p1, F.tr p2, p3, fun u hu => ?_⟩
    rw [p4 u hu, ms_rd, if_neg (fun z => hu (by rw [z.2]; exact List.mem_of_getElem? ht))]
