/-! ===== the best shifts: all rows ===== -/
abbrev Wpl (k i : Nat) : Prop := (k = 8 ∧ 12 ≤ i) ∨ k = 11 ∨ (k = 18 ∧ 5 ≤ i) ∨ k = 20 ∨ k = 21
theorem Wpl_scr : ∀ k i, Wpl k i → Wscr k i := fun k i q => by
  rcases q with q | q | q | q | q
  · exact Or.inl ⟨q.1, by omega⟩
  · exact Or.inr (Or.inl (by omega))
  · exact Or.inr (Or.inr (Or.inr (Or.inr (Or.inl ⟨q.1, by omega⟩))))
  · exact Or.inr (Or.inr (Or.inr (Or.inr (Or.inr (Or.inl (by omega))))))
  · exact Or.inr (Or.inr (Or.inr (Or.inr (Or.inr (Or.inl (by omega))))))
/-- what the search keeps from row to row -/
def SI (σ0 σ : Mm) (r : Nat) : Prop := Fr Wscr σ0 σ ∧ σ 18 3 = nI (wl σ0).length ∧ σ 18 4 = nI (mB σ0 (tN σ0)) ∧ (∀ k u, (wl σ0)[k]? = some u → σ 19 k = nI u) ∧ (∃ sh, Rd_ σ (eS σ0 sh) ∧ ∀ t, t < tN σ0 → ¬ wts σ0 t → sh t = sf σ0 t) ∧ ((r = 0 ∧ σ 18 5 = nI 289 ∧ σ 18 6 = nI 289) ∨ (0 < r ∧ σ 18 5 = nI (mu σ0 (bst σ0 r)) ∧ σ 18 6 = nI (al σ0 (bst σ0 r)) ∧ ∀ k t, (wl σ0)[k]? = some t → σ 21 t = nI (dgt (wl σ0).length (bst σ0 r) k)))
theorem dgt_24 (n r k : Nat) : dgt n r k < 24 := Nat.mod_lt _ (by decide)
theorem wl_lt {σ : Mm} {k t : Nat} (h : (wl σ)[k]? = some t) : k < (wl σ).length := by
  rcases Nat.lt_or_ge k (wl σ).length with q | q
  · exact q
  · rw [List.getElem?_eq_none q] at h
    exact absurd h (by simp)
/-- the hours of all who wait are laid for a row, and the row is tried -/
theorem sea79 {σ0 τ0 : Mm} (h : Core σ0 τ0) {r : Nat} (hL : (wl σ0).length ≤ 3) {K : Int32 → Int32 → Mm → Option Mm} {P : Mm → Prop} {N : Int32} (σs : Mm) (hend : ∀ σ, Fr (fun k _ => k = 11) σs σ → Rd_ σ (eS σ0 (shR σ0 r)) → ∃ σ', ((fX1_tryOut σ).bind (fun σ2 => K N (nI r + 1) σ2)) = some σ' ∧ P σ') (m3 : σs 18 3 = nI (wl σ0).length) (m19 : ∀ k u, (wl σ0)[k]? = some u → σs 19 k = nI u) (m20 : ∀ j, j < (wl σ0).length → σs 20 j = nI (dgt (wl σ0).length r j)) (hFs : Fr Wscr σ0 σs) : ∀ (d n k : Nat), k + d = (wl σ0).length → d < n → ∀ (σ : Mm) (sh : Nat → Nat), Fr (fun k _ => k = 11) σs σ → Rd_ σ (eS σ0 sh) → (∀ t, t < tN σ0 → ¬ wts σ0 t → sh t = sf σ0 t) → (∀ j u, j < k → (wl σ0)[j]? = some u → sh u = dgt (wl σ0).length r j) → ∃ σ', fX1_search_81 K n N (nI r) (nI k) σ = some σ' ∧ P σ' := by
  have h6 := h.tw.2.1
  intro d
  induction d with
  | zero =>
    intro n k hd hn σ sh hF hR hsf hj
    obtain ⟨n, rfl⟩ : ∃ z, n = z + 1 := ⟨n - 1, by omega⟩
    obtain rfl : k = (wl σ0).length := by omega
    rw [fX1_search_81, hF 18 3 (by simp), m3, ifle (by omega) (by omega), if_pos (Nat.le_refl _)]
    refine hend σ hF (rd_cg hR (fun t ht => ?_))
    by_cases c : wts σ0 t
    · obtain ⟨k, hk⟩ := wl_of ht c
      rw [shR_at hk]
      exact hj k t (wl_lt hk) hk
    · rw [shR_no c]
      exact hsf t ht c
  | succ d ih =>
    intro n k hd hn σ sh hF hR hsf hj
    obtain ⟨n, rfl⟩ : ∃ z, n = z + 1 := ⟨n - 1, by omega⟩
    obtain ⟨t, ht⟩ : ∃ t, (wl σ0)[k]? = some t := ⟨_, List.getElem?_eq_getElem (by omega)⟩
    obtain ⟨w1, w2, w3⟩ := wl_at ht
    have i3 : ms_in (nI k) 3 := in_nI (by omega) (by decide)
    have hFσ : Fr Wscr σ0 σ := hFs.tr (hF.mo fun k i q => Or.inr (Or.inl (by omega)))
    have d24 := dgt_24 (wl σ0).length r k
    have hh : fX4_hoursOf σ (nI t) (nI (dgt (wl σ0).length r k)) = some (mk_ (td σ0 t 2) ((td σ0 t 1 + dgt (wl σ0).length r k) % 24)) := by
      rw [← td_fr hFσ, ← td_fr hFσ]
      exact hoursX (h.tw.fr hFσ) (by rw [tN_fr hFσ]; exact w1) d24
    rw [fX1_search_81, hF 18 3 (by simp), m3, ifle (by omega) (by omega), if_neg (by omega)]
    simp only [ms_g_t i3, ix_nI (show k < 2147483648 by omega)]
    rw [hF 19 k (by simp), m19 k t ht, hF 20 k (by simp), m20 k (by omega), hh, Option.bind_some, ms_g_t (in_nI (by omega) (by decide)), ix_nI (by omega)]
    simp only [ms_lt]
    rw [nI_1]
    refine ih n (k + 1) (by omega) (by omega) _ (fun u => if u = t then dgt (wl σ0).length r k else sh u) (hF.st _ rfl) (rd_set h.tw hR w1 d24 w2.2) (fun u hu hn' => ?_) (fun j u hj' hu => ?_)
    · show (if u = t then _ else sh u) = _
      rw [if_neg (show ¬ u = t from fun z => hn' (by rw [z]; exact w2))]
      exact hsf u hu hn'
    · show (if u = t then _ else sh u) = _
      by_cases q : u = t
      · have e1 := (wl_at hu).2.2
        rw [q, w3] at e1
        rw [if_pos q, e1]
      · rw [if_neg q]
        refine hj j u ?_ hu
        rcases Nat.lt_or_ge j k with z | z
        · exact z
        · obtain rfl : j = k := by omega
          rw [ht] at hu
          exact absurd (Option.some.inj hu).symm q
theorem bst_s (σ : Mm) (N : Nat) : bst σ (N + 1) = if N = 0 ∨ mu σ N < mu σ (bst σ N) ∨ (mu σ N = mu σ (bst σ N) ∧ al σ N < al σ (bst σ N)) then N else bst σ N := rfl
/-- where nobody stands, no row is better -/
theorem bst_0 {σ τ : Mm} (h : Core σ τ) {r : Nat} (hr : 0 < r) (h0 : al σ (bst σ r) = 0) : ∀ d, bst σ (r + d) = bst σ r
  | 0 => rfl
  | d + 1 => by
    have ih := bst_0 h hr h0 d
    have hm : mu σ (bst σ r) ≤ al σ (bst σ r) := muS_al h.tw (eS_ok h _) 48
    rw [← Nat.add_assoc, bst_s, ih, if_neg (by omega)]
theorem mu_b {σ τ : Mm} (h : Core σ τ) (r : Nat) : mu σ r ≤ 288 ∧ al σ r ≤ 288 := by
  have h1 : mu σ r ≤ al σ r := muS_al h.tw (eS_ok h _) 48
  have h2 : al σ r ≤ 6 * 48 := alS_b _ 48
  omega
/-- one row -/
theorem rowX {σ0 τ0 : Mm} (h : Core σ0 τ0) (hL : (wl σ0).length ≤ 3) {r : Nat} {σ : Mm} (hF : Fr Wscr σ0 σ) (hR : Rd_ σ (eS σ0 (shR σ0 r))) (m3 : σ 18 3 = nI (wl σ0).length) (m4 : σ 18 4 = nI (mB σ0 (tN σ0))) (m19 : ∀ k u, (wl σ0)[k]? = some u → σ 19 k = nI u) (m20 : ∀ j, j < (wl σ0).length → σ 20 j = nI (dgt (wl σ0).length r j)) (hb : (r = 0 ∧ σ 18 5 = nI 289 ∧ σ 18 6 = nI 289) ∨ (0 < r ∧ 0 < al σ0 (bst σ0 r) ∧ σ 18 5 = nI (mu σ0 (bst σ0 r)) ∧ σ 18 6 = nI (al σ0 (bst σ0 r)) ∧ ∀ k t, (wl σ0)[k]? = some t → σ 21 t = nI (dgt (wl σ0).length (bst σ0 r) k))) : ∃ σ', fX1_tryOut σ = some σ' ∧ SI σ0 σ' (r + 1) ∧ Fr Wpl σ σ' := by
  have hE := eS_ok h (shR σ0 r)
  have hmb := mu_b h r
  obtain ⟨b5, b6, x5, x6, y5, y6, y0, yb⟩ : ∃ b5 b6, b5 < 2147483648 ∧ b6 < 2147483648 ∧ σ 18 5 = nI b5 ∧ σ 18 6 = nI b6 ∧ 0 < b6 ∧ (bst σ0 (r + 1) = if bett σ0 (eS σ0 (shR σ0 r)) b5 b6 48 then r else bst σ0 r) := by
    rcases hb with ⟨rfl, a, b⟩ | ⟨hr, h0, a, b, -⟩
    · refine ⟨289, 289, by decide, by decide, a, b, by decide, ?_⟩
      rw [bst_s, if_pos (Or.inl rfl), if_pos]
      have : muS σ0 (eS σ0 (shR σ0 0)) 48 = mu σ0 0 := rfl
      unfold bett
      omega
    · have hmb' := mu_b h (bst σ0 r)
      refine ⟨mu σ0 (bst σ0 r), al σ0 (bst σ0 r), by omega, by omega, a, b, h0, ?_⟩
      rw [bst_s]
      have e1 : muS σ0 (eS σ0 (shR σ0 r)) 48 = mu σ0 r := rfl
      have e2 : alS (eS σ0 (shR σ0 r)) 48 = al σ0 r := rfl
      unfold bett
      rw [e1, e2]
      by_cases c : mu σ0 r < mu σ0 (bst σ0 r) ∨ (mu σ0 r = mu σ0 (bst σ0 r) ∧ al σ0 r < al σ0 (bst σ0 r))
      · rw [if_pos (Or.inr c), if_pos c]
      · rw [if_neg (by omega), if_neg c]
  obtain ⟨σ1, t1, t2, t3, t4⟩ := beginX hR
  have g18 : ∀ i, σ1 18 i = σ 18 i := fun i => t2 18 i (by simp)
  unfold fX1_tryOut
  rw [t1, Option.bind_some]
  have hkeep : ∀ σ2, Fr W8 σ1 σ2 → ∃ σ', fX1_keepTrial (nI (muS σ0 (eS σ0 (shR σ0 r)) 48)) (nI (alS (eS σ0 (shR σ0 r)) 48)) σ2 = some σ' ∧ (Fr Wpl σ σ' ∧ σ' 18 5 = nI (mu σ0 r) ∧ σ' 18 6 = nI (al σ0 r) ∧ Rd_ σ' (eS σ0 (shR σ0 r)) ∧ ∀ k t, (wl σ0)[k]? = some t → σ' 21 t = nI (dgt (wl σ0).length r k)) := fun σ2 F2 => by
    unfold fX1_keepTrial
    simp only [ms_lt]
    have F3 : Fr (fun k i => k = 18 ∧ 5 ≤ i) σ2 (ms_st (ms_st σ2 18 5 (nI (muS σ0 (eS σ0 (shR σ0 r)) 48))) 18 6 (nI (alS (eS σ0 (shR σ0 r)) 48))) := (Fr.rf.st _ ⟨rfl, by decide⟩).st _ ⟨rfl, by decide⟩
    have gg : ∀ k i, ¬ (k = 8) → ¬ (k = 18 ∧ 5 ≤ i) → ms_st (ms_st σ2 18 5 (nI (muS σ0 (eS σ0 (shR σ0 r)) 48))) 18 6 (nI (alS (eS σ0 (shR σ0 r)) 48)) k i = σ k i := fun k i q1 q2 => by
      rw [F3 k i q2, F2 k i (fun z => q1 z.1), t2 k i (fun z => q1 z.1)]
    obtain ⟨σ', p1, p2, p3⟩ := keep12 (σ0 := σ0) (r := r) rfl hL h.tw.2.1 (wl σ0).length ms_fu 0 (by omega) (fu_lt (by omega)) (ms_st (ms_st σ2 18 5 (nI (muS σ0 (eS σ0 (shR σ0 r)) 48))) 18 6 (nI (alS (eS σ0 (shR σ0 r)) 48))) (by rw [gg 18 3 (by decide) (by decide)]; exact m3) (fun k u hu => by rw [gg 19 k (by decide) (by simp)]; exact m19 k u hu) (fun j hj => by rw [gg 20 j (by decide) (by simp)]; exact m20 j hj) (fun j u hj => by omega)
    have hRf := ((hR.w8 t2).w8 F2).fr F3 (fun i hi q => by have := q.1; omega) (fun i q => by have := q.1; omega) (fun i q => by have := q.1; omega) (fun i q => by have := q.1; omega)
    refine ⟨σ', p1, ((((t2.tr F2).mo fun k i q => Or.inl q).tr (F3.mo fun k i q => Or.inr (Or.inr (Or.inl q)))).tr (p2.mo fun k i q => Or.inr (Or.inr (Or.inr (Or.inr q))))), ?_, ?_, hRf.fr p2 (fun i hi q => by omega) (fun i q => by omega) (fun i q => by omega) (fun i q => by omega), p3⟩
    · rw [p2 18 5 (by simp), ms_rd, if_neg (by decide), ms_rd, if_pos (by decide)]; rfl
    · rw [p2 18 6 (by simp), ms_rd, if_pos (by decide)]; rfl
  obtain ⟨σ', q1, q2⟩ := try11 h.tw hE x5 x6 hkeep 48 ms_fu 0 (by decide) (fu_lt (by decide)) σ1 Fr.rf (hR.w8 t2) (by rw [g18]; exact m4) (by rw [g18]; exact y5) (by rw [g18]; exact y6) t3 t4 (by
    have z1 : muS σ0 (eS σ0 (shR σ0 r)) 0 = 0 := rfl
    have z2 : alS (eS σ0 (shR σ0 r)) 0 = 0 := rfl
    unfold bett
    omega)
  refine ⟨σ', q1, ?_⟩
  have shn : ∀ t, t < tN σ0 → ¬ wts σ0 t → shR σ0 r t = sf σ0 t := fun t _ hn => shR_no hn
  rcases q2 with ⟨b, f1, f2, f3, f4, f5⟩ | ⟨b, f1⟩
  · rw [if_pos b] at yb
    refine ⟨⟨hF.tr (f1.mo Wpl_scr), by rw [f1 18 3 (by simp)]; exact m3, by rw [f1 18 4 (by simp)]; exact m4, fun k u hu => by rw [f1 19 k (by simp)]; exact m19 k u hu, ⟨_, f4, shn⟩, Or.inr ⟨by omega, by rw [yb]; exact f2, by rw [yb]; exact f3, by rw [yb]; exact f5⟩⟩, f1⟩
  · rw [if_neg b] at yb
    have F : Fr W8 σ σ' := t2.tr f1
    have g : ∀ k i, ¬ k = 8 → σ' k i = σ k i := fun k i q => F k i (fun z => q z.1)
    refine ⟨⟨hF.tr (F.mo fun k i q => Or.inl ⟨q.1, by omega⟩), by rw [g 18 3 (by decide)]; exact m3, by rw [g 18 4 (by decide)]; exact m4, fun k u hu => by rw [g 19 k (by decide)]; exact m19 k u hu, ⟨_, (hR.w8 t2).w8 f1, shn⟩, Or.inr ?_⟩, F.mo fun k i q => Or.inl q⟩
    rcases hb with ⟨rfl, a, b'⟩ | ⟨hr, h0, a, b', c⟩
    · exfalso
      apply b
      rw [y5, eq_nI x5 (by decide)] at a
      have : muS σ0 (eS σ0 (shR σ0 0)) 48 = mu σ0 0 := rfl
      unfold bett
      omega
    · rw [yb, g 18 5 (by decide), g 18 6 (by decide)]
      exact ⟨by omega, a, b', fun k t hk => by rw [g 21 t (by decide)]; exact c k t hk⟩
/-- all rows -/
theorem sea56 {σ0 τ0 : Mm} (h : Core σ0 τ0) (hL : (wl σ0).length ≤ 3) {N : Nat} (hN : N ≤ 13824) (hN0 : 0 < N) : ∀ (d n r : Nat), r + d = N → d < n → ∀ σ : Mm, SI σ0 σ r → ∃ σ', fX1_search_58 n (nI N) (nI r) σ = some σ' ∧ Fr Wscr σ0 σ' ∧ Fr Wpl σ σ' ∧ σ' 18 7 = 1 ∧ σ' 18 5 = nI (mu σ0 (bst σ0 N)) ∧ σ' 18 6 = nI (al σ0 (bst σ0 N)) ∧ ∀ k t, (wl σ0)[k]? = some t → σ' 21 t = nI (dgt (wl σ0).length (bst σ0 N) k) := by
  intro d
  induction d with
  | zero =>
    intro n r hd hn σ hI
    obtain ⟨n, rfl⟩ : ∃ z, n = z + 1 := ⟨n - 1, by omega⟩
    obtain rfl : r = N := by omega
    obtain ⟨hF, m3, m4, m19, -, hb⟩ := hI
    rw [fX1_search_58, ifle (by omega) (by omega), if_pos (Nat.le_refl _)]
    simp only [ms_lt]
    rcases hb with ⟨z, -⟩ | ⟨-, a, b, c⟩
    · omega
    · refine ⟨_, rfl, hF.st _ (Wpl_scr 18 7 (Or.inr (Or.inr (Or.inl ⟨rfl, by decide⟩)))), Fr.rf.st _ (Or.inr (Or.inr (Or.inl ⟨rfl, by decide⟩))), by rw [ms_rd, if_pos (by decide)], by rw [ms_rd, if_neg (by decide)]; exact a, by rw [ms_rd, if_neg (by decide)]; exact b, fun k t hk => by rw [ms_rd, if_neg (by simp)]; exact c k t hk⟩
  | succ d ih =>
    intro n r hd hn σ hI
    obtain ⟨n, rfl⟩ : ∃ z, n = z + 1 := ⟨n - 1, by omega⟩
    obtain ⟨hF, m3, m4, m19, ⟨sh, hR, hsh⟩, hb⟩ := hI
    rw [fX1_search_58, ifle (by omega) (by omega), if_neg (by omega)]
    simp only [ms_lt]
    have go : ((r = 0 ∧ σ 18 5 = nI 289 ∧ σ 18 6 = nI 289) ∨ (0 < r ∧ 0 < al σ0 (bst σ0 r) ∧ σ 18 5 = nI (mu σ0 (bst σ0 r)) ∧ σ 18 6 = nI (al σ0 (bst σ0 r)) ∧ ∀ k t, (wl σ0)[k]? = some t → σ 21 t = nI (dgt (wl σ0).length (bst σ0 r) k))) → ∃ σ', (fX1_layTrial (nI r) σ).bind (fun σ4 => fX1_search_81 (fX1_search_58 n) ms_fu (nI N) (nI r) 0 σ4) = some σ' ∧ Fr Wscr σ0 σ' ∧ Fr Wpl σ σ' ∧ σ' 18 7 = 1 ∧ σ' 18 5 = nI (mu σ0 (bst σ0 N)) ∧ σ' 18 6 = nI (al σ0 (bst σ0 N)) ∧ ∀ k t, (wl σ0)[k]? = some t → σ' 21 t = nI (dgt (wl σ0).length (bst σ0 N) k) := fun hb' => by
      obtain ⟨σ1, l1, l2, l3, -⟩ := lay9 (L := (wl σ0).length) (r := r) hL (by omega) (wl σ0).length ms_fu (Nat.le_refl _) (fu_lt (by omega)) σ
      rw [Nat.sub_self, Nat.pow_zero, Nat.div_one] at l1
      unfold fX1_layTrial
      rw [m3, l1, Option.bind_some]
      have F1 : Fr Wscr σ0 σ1 := hF.tr (l2.mo fun k i q => Wpl_scr k i (Or.inr (Or.inr (Or.inr (Or.inl q)))))
      have g1 : ∀ k i, ¬ k = 20 → σ1 k i = σ k i := fun k i q => l2 k i q
      have hR1 : Rd_ σ1 (eS σ0 sh) := hR.fr l2 (fun i hi q => by omega) (fun i q => by omega) (fun i q => by omega) (fun i q => by omega)
      refine sea79 h (r := r) hL (N := nI N) (K := fX1_search_58 n) (P := fun σ' => Fr Wscr σ0 σ' ∧ Fr Wpl σ σ' ∧ σ' 18 7 = 1 ∧ σ' 18 5 = nI (mu σ0 (bst σ0 N)) ∧ σ' 18 6 = nI (al σ0 (bst σ0 N)) ∧ ∀ k t, (wl σ0)[k]? = some t → σ' 21 t = nI (dgt (wl σ0).length (bst σ0 N) k)) σ1 (fun σ2 F2 hR2 => ?_) (by rw [g1 18 3 (by decide)]; exact m3) (fun k u hu => by rw [g1 19 k (by decide)]; exact m19 k u hu) l3 F1 (wl σ0).length ms_fu 0 (by omega) (fu_lt (by omega)) σ1 sh Fr.rf hR1 hsh (fun j u hj => by omega)
      have g2 : ∀ k i, ¬ k = 20 → ¬ k = 11 → σ2 k i = σ k i := fun k i q1 q2 => by rw [F2 k i q2, g1 k i q1]
      obtain ⟨σ3, r1, r2, r3⟩ := rowX h hL (r := r) (σ := σ2) (F1.tr (F2.mo fun k i q => Wpl_scr k i (Or.inr (Or.inl q)))) hR2 (by rw [g2 18 3 (by decide) (by decide)]; exact m3) (by rw [g2 18 4 (by decide) (by decide)]; exact m4) (fun k u hu => by rw [g2 19 k (by decide) (by decide)]; exact m19 k u hu) (fun j hj => by rw [F2 20 j (by simp)]; exact l3 j hj) (by
        rw [g2 18 5 (by decide) (by decide), g2 18 6 (by decide) (by decide)]
        rcases hb' with z | ⟨z1, z2, z3, z4, z5⟩
        · exact Or.inl z
        · exact Or.inr ⟨z1, z2, z3, z4, fun k t hk => by rw [g2 21 t (by decide) (by decide)]; exact z5 k t hk⟩)
      obtain ⟨σ4, v1, v2, v3, v4⟩ := ih n (r + 1) (by omega) (by omega) σ3 r2
      refine ⟨σ4, by rw [r1, Option.bind_some, nI_1]; exact v1, v2, ((((l2.mo fun k i q => Or.inr (Or.inr (Or.inr (Or.inl q)))).tr (F2.mo fun k i q => Or.inr (Or.inl q))).tr r3).tr v3), v4⟩
    rcases hb with ⟨z, a, b⟩ | ⟨z, a, b, c⟩
    · rw [if_neg (show ¬ σ 18 6 ≤ 0 by rw [b]; decide)]
      exact go (Or.inl ⟨z, a, b⟩)
    · have hmb := mu_b h (bst σ0 r)
      by_cases q : al σ0 (bst σ0 r) = 0
      · rw [if_pos (show σ 18 6 ≤ 0 by rw [b, q]; decide)]
        have e : bst σ0 N = bst σ0 r := by
          have := bst_0 h z q (N - r)
          rw [show r + (N - r) = N by omega] at this
          exact this
        rw [e]
        refine ⟨_, rfl, hF.st _ (Wpl_scr 18 7 (Or.inr (Or.inr (Or.inl ⟨rfl, by decide⟩)))), Fr.rf.st _ (Or.inr (Or.inr (Or.inl ⟨rfl, by decide⟩))), by rw [ms_rd, if_pos (by decide)], by rw [ms_rd, if_neg (by decide)]; exact a, by rw [ms_rd, if_neg (by decide)]; exact b, fun k t hk => by rw [ms_rd, if_neg (by simp)]; exact c k t hk⟩
      · rw [if_neg (show ¬ σ 18 6 ≤ 0 by rw [b, show (0 : Int32) = nI 0 from rfl, le_nI (by omega) (by decide)]; omega)]
        exact go (Or.inr ⟨z, by omega, a, b, c⟩)
theorem pow_tab : ∀ L, L < 4 → 24 ^ L ≤ 13824 ∧ 0 < 24 ^ L := by decide
theorem sea31 {L : Nat} (hL : L ≤ 3) {σ : Mm} (m3 : σ 18 3 = nI L) : ∀ (d n k : Nat), k + d = L → d < n → fX1_search_33 n (nI (24 ^ k)) (nI k) σ = fX1_search_58 ms_fu (nI (24 ^ L)) 0 σ := by
  intro d
  induction d with
  | zero =>
    intro n k hd hn
    obtain ⟨n, rfl⟩ : ∃ z, n = z + 1 := ⟨n - 1, by omega⟩
    obtain rfl : k = L := by omega
    rw [fX1_search_33, m3, ifle (by omega) (by omega), if_pos (Nat.le_refl _)]
  | succ d ih =>
    intro n k hd hn
    obtain ⟨n, rfl⟩ : ∃ z, n = z + 1 := ⟨n - 1, by omega⟩
    rw [fX1_search_33, m3, ifle (by omega) (by omega), if_neg (by omega), show (24 : Int32) = nI 24 from rfl, pk_mul, ← Nat.pow_succ, nI_1]
    exact ih n (k + 1) (by omega) (by omega)
theorem lit_mx : (289 : Int32) = nI 289 := by decide
theorem lit_1 : (1 : Int32) = nI (24 ^ 0) := by decide
theorem lit_0 : nI 0 = (0 : Int32) := rfl
theorem seaU0 (w : Int32) (σ : Mm) : fX1_search w σ = (fX1_gather w σ).bind (fun σ2 => (fX4_mustBits σ2).bind (fun r4 => fX1_search_33 ms_fu 1 0 (ms_st (ms_st (ms_st σ2 18 4 r4) 18 5 289) 18 6 289))) := by
  delta fX1_search ms_lt
  rfl
theorem lt_eq {α β : Type} (x : α) (f : α → Option β) : ms_lt x f = f x := by rw [ms_lt]
theorem gathU {w : Int32} {σ σ1 : Mm} (g1 : fX1_gather_7 ms_fu w 0 (ms_st σ 18 3 0) = some σ1) : fX1_gather w σ = some σ1 := by
  rw [fX1_gather, lt_eq, g1]
theorem seaU {w m : Int32} {σ σ1 σ3 : Mm} (g1 : fX1_gather_7 ms_fu w 0 (ms_st σ 18 3 0) = some σ1) (hm : fX4_mustBits σ1 = some m) (s : fX1_search_33 ms_fu 1 0 (ms_st (ms_st (ms_st σ1 18 4 m) 18 5 289) 18 6 289) = some σ3) : fX1_search w σ = some σ3 := by
  rw [seaU0, gathU g1, Option.bind_some, hm, Option.bind_some, s]
theorem seaX {σ0 τ0 : Mm} (h : Core σ0 τ0) (hL : (wl σ0).length ≤ 3) {σ : Mm} (hF : Fr Wmr σ0 σ) (hR : Rd_ σ (eS σ0 (sf σ0))) : ∃ σ', fX1_search (nI (wB σ0 (tN σ0))) σ = some σ' ∧ Fr Wscr σ0 σ' ∧ Fr (fun k i => (k = 8 ∧ 12 ≤ i) ∨ k = 11 ∨ k = 18 ∨ k = 19 ∨ k = 20 ∨ k = 21) σ σ' ∧ σ' 18 7 = 1 ∧ σ' 18 5 = nI (mu σ0 (bst σ0 (24 ^ (wl σ0).length))) ∧ σ' 18 6 = nI (al σ0 (bst σ0 (24 ^ (wl σ0).length))) ∧ ∀ k t, (wl σ0)[k]? = some t → σ' 21 t = nI (dgt (wl σ0).length (bst σ0 (24 ^ (wl σ0).length)) k) := by
  have hFs : Fr Wscr σ0 σ := hF.mo Wmr_scr
  obtain ⟨n1, n2⟩ := pow_tab (wl σ0).length (by omega)
  have F0 : Fr (fun k i => (k = 18 ∧ i = 3) ∨ k = 19) σ (ms_st σ 18 3 0) := Fr.rf.st _ (Or.inl ⟨rfl, rfl⟩)
  obtain ⟨σ1, g1, g2, g3, g4⟩ := gath7 h hL 6 ms_fu 0 (by decide) (fu_lt (by decide)) (ms_st σ 18 3 0) (by rw [ms_rd, if_pos (by decide), Nat.zero_min, show (wtL σ0 0).length = 0 from rfl]; rfl) (by
    intro k u hu
    rw [Nat.zero_min] at hu
    simp [wtL] at hu)
  have FG := F0.tr g2
  have FGs : Fr Wscr σ σ1 := FG.mo fun k i q => by
    rcases q with q | q
    · exact Or.inr (Or.inr (Or.inr (Or.inr (Or.inl ⟨q.1, by omega⟩))))
    · exact Or.inr (Or.inr (Or.inr (Or.inr (Or.inr (Or.inl (by omega))))))
  have F1 := hFs.tr FGs
  have hm : fX4_mustBits σ1 = some (nI (mB σ0 (tN σ0))) := by
    rw [mustX (h.tw.fr F1), mB_fr F1, tN_fr F1]
  generalize hσ2 : ms_st (ms_st (ms_st σ1 18 4 (nI (mB σ0 (tN σ0)))) 18 5 289) 18 6 289 = σ2
  have FA : Fr (fun k i => k = 18 ∧ 4 ≤ i) σ1 σ2 := by
    rw [← hσ2]
    exact ((Fr.rf.st _ ⟨rfl, by decide⟩).st _ ⟨rfl, by decide⟩).st _ ⟨rfl, by decide⟩
  have FAs : Fr Wscr σ1 σ2 := FA.mo fun k i q => Or.inr (Or.inr (Or.inr (Or.inr (Or.inl ⟨q.1, by omega⟩))))
  have m3 : σ2 18 3 = nI (wl σ0).length := by rw [FA 18 3 (by simp)]; exact g3
  have hR1 : Rd_ σ1 (eS σ0 (sf σ0)) := hR.fr FG (fun i hi q => by rcases q with q | q <;> omega) (fun i q => by rcases q with q | q <;> omega) (fun i q => by rcases q with q | q <;> omega) (fun i q => by rcases q with q | q <;> omega)
  have hR2 : Rd_ σ2 (eS σ0 (sf σ0)) := hR1.fr FA (fun i hi q => by have := q.1; omega) (fun i q => by have := q.1; omega) (fun i q => by have := q.1; omega) (fun i q => by have := q.1; omega)
  have hI : SI σ0 σ2 0 := ⟨F1.tr FAs, m3, by rw [← hσ2]; simp only [ms_rd]; simp, fun k u hu => by rw [FA 19 k (by simp)]; exact g4 k u hu, ⟨sf σ0, hR2, fun _ _ _ => rfl⟩, Or.inl ⟨rfl, by rw [← hσ2, ms_rd, if_neg (by decide), ms_rd, if_pos (by decide), lit_mx], by rw [← hσ2, ms_rd, if_pos (by decide), lit_mx]⟩⟩
  obtain ⟨σ3, s1, s2, s3, s4⟩ := sea56 h hL n1 n2 (24 ^ (wl σ0).length) ms_fu 0 (by omega) (fu_lt (by omega)) σ2 hI
  refine ⟨σ3, ?_, s2, ?_, s4⟩
  · have e31 := sea31 hL m3 (wl σ0).length ms_fu 0 (by omega) (fu_lt (by omega))
    rw [← lit_1, lit_0] at e31
    rw [lit_0] at s1 g1
    refine seaU g1 hm ?_
    rw [hσ2, e31]
    exact s1
  · refine ((FG.mo fun k i q => ?_).tr (FA.mo fun k i q => Or.inr (Or.inr (Or.inl q.1)))).tr (s3.mo fun k i q => ?_)
    · rcases q with q | q
      · exact Or.inr (Or.inr (Or.inl q.1))
      · exact Or.inr (Or.inr (Or.inr (Or.inl q)))
    · rcases q with q | q | q | q | q
      · exact Or.inl q
      · exact Or.inr (Or.inl q)
      · exact Or.inr (Or.inr (Or.inl q.1))
      · exact Or.inr (Or.inr (Or.inr (Or.inr (Or.inl q))))
      · exact Or.inr (Or.inr (Or.inr (Or.inr (Or.inr q))))
/-- the class knows the best row -/
theorem best56 {σ τ : Mm} (h : Rel σ τ) (hL : (wl σ).length ≤ 3) : ∃ σ', (∀ y, fX7_best_56 y (nI (wB σ (tN σ))) σ = fX7_best_97 y σ') ∧ Rel σ' τ ∧ Fr Wscr σ σ' ∧ σ' 18 5 = nI (mu σ (bst σ (24 ^ (wl σ).length))) ∧ σ' 18 6 = nI (al σ (bst σ (24 ^ (wl σ).length))) ∧ ∀ k t, (wl σ)[k]? = some t → σ' 21 t = nI (dgt (wl σ).length (bst σ (24 ^ (wl σ).length)) k) := by
  obtain ⟨hc, hd, hp, ht⟩ := id h
  rcases hp with p7 | ⟨p7, p0, p5, p6, p21⟩
  · obtain ⟨σ1, a1, a2, a3⟩ := readyX hc.tw hc.sw hc.hb.1 hc.sb.1 hc.2.2.2.2.1
    obtain ⟨σ2, b1, b2, b3, b4, b5, b6, b7⟩ := seaX hc hL a2 a3
    have out : ∀ k i, (12 ≤ k ∧ k ≤ 17) ∨ 22 ≤ k → σ2 k i = σ k i := fun k i hk => by
      rw [b3 k i (fun q => by rcases q with q | q | q | q | q | q <;> omega), a2 k i (fun q => by rcases q with q | q <;> omega)]
    refine ⟨σ2, fun y => ?_, ⟨hc.frX b2, hd.fr b2 (out _ _ (by decide)) (fun k i h1 h2 => out k i (by omega)), Or.inr ⟨b4, ?_⟩, ht.fr b2 (fun i => out _ _ (by decide))⟩, b2, b5, b6, b7⟩
    · unfold fX7_best_56
      rw [if_pos p7, hc.hb.2, hc.sb.2, a1, Option.bind_some, b1, Option.bind_some]
    · unfold PlanOK
      simp only [wl_fr b2, bst_fr b2, mu_fr b2, al_fr b2]
      exact ⟨hL, b5, b6, b7⟩
  · refine ⟨σ, fun y => ?_, h, Fr.rf, p5, p6, p21⟩
    unfold fX7_best_56
    rw [if_neg (by rw [p7]; decide)]
