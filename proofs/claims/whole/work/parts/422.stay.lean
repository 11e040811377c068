/-! ===== the common words stay where only notes, sheets or the finding change ===== -/
abbrev Wsh (k i : Nat) : Prop := (k = 0 ∧ i = 10) ∨ 22 ≤ k
theorem sr_0 {σ σ' : Mm} (hF : Fr Wsh σ σ') : σ' 0 3 = σ 0 3 := hF 0 3 (by simp)
theorem sr_1 {σ σ' : Mm} (hF : Fr Wsh σ σ') (i : Nat) : σ' 1 i = σ 1 i := hF 1 i (by simp)
theorem sr_3 {σ σ' : Mm} (hF : Fr Wsh σ σ') (i : Nat) : σ' 3 i = σ 3 i := hF 3 i (by simp)
theorem sr_4 {σ σ' : Mm} (hF : Fr Wsh σ σ') (i : Nat) : σ' 4 i = σ 4 i := hF 4 i (by simp)
theorem sr_5 {σ σ' : Mm} (hF : Fr Wsh σ σ') (i : Nat) : σ' 5 i = σ 5 i := hF 5 i (by simp)
theorem sr_6 {σ σ' : Mm} (hF : Fr Wsh σ σ') (i : Nat) : σ' 6 i = σ 6 i := hF 6 i (by simp)
theorem td_sr {σ σ' : Mm} (hF : Fr Wsh σ σ') (t j : Nat) : td σ' t j = td σ t j := by unfold td; rw [sr_3 hF]
theorem gd_sr {σ σ' : Mm} (hF : Fr Wsh σ σ') (t j : Nat) : gd σ' t j = gd σ t j := by unfold gd; rw [sr_4 hF]
theorem sg_sr {σ σ' : Mm} (hF : Fr Wsh σ σ') (i : Nat) : sg σ' i = sg σ i := by unfold sg; rw [sr_5 hF]
theorem sf_sr {σ σ' : Mm} (hF : Fr Wsh σ σ') (i : Nat) : sf σ' i = sf σ i := by unfold sf; rw [sr_6 hF]
theorem tN_sr {σ σ' : Mm} (hF : Fr Wsh σ σ') : tN σ' = tN σ := by unfold tN; rw [sr_1 hF]
theorem gN_sr {σ σ' : Mm} (hF : Fr Wsh σ σ') : gN σ' = gN σ := by unfold gN; rw [sr_1 hF]
theorem hB_sr {σ σ' : Mm} (hF : Fr Wsh σ σ') : hB σ' = hB σ := by unfold hB; rw [sr_1 hF]
theorem sd_sr {σ σ' : Mm} (hF : Fr Wsh σ σ') (hb g asked : Nat) : sd_ σ' hb g asked = sd_ σ hb g asked := by unfold sd_; simp only [gd_sr hF, sg_sr hF]
theorem wd_sr {σ σ' : Mm} (hF : Fr Wsh σ σ') (hb g : Nat) : wd_ σ' hb g = wd_ σ hb g := by unfold wd_; simp only [gd_sr hF, sg_sr hF, sd_sr hF]
theorem gS_sr {σ σ' : Mm} (hF : Fr Wsh σ σ') (hb h : Nat) : ∀ g, gS σ' hb h g = gS σ hb h g
  | 0 => rfl
  | g + 1 => by unfold gS; rw [gS_sr hF hb h g, gd_sr hF, wd_sr hF]
theorem gn_sr {σ σ' : Mm} (hF : Fr Wsh σ σ') (hb h : Nat) : gn_ σ' hb h = gn_ σ hb h := by unfold gn_; rw [gN_sr hF, gS_sr hF]
theorem go_sr {σ σ' : Mm} (hF : Fr Wsh σ σ') (sb : Nat) (sh : Nat → Nat) (t h : Nat) : go_ σ' sb sh t h = go_ σ sb sh t h := by unfold go_; simp only [td_sr hF]
theorem evX_sr {σ σ' : Mm} (hF : Fr Wsh σ σ') (hb sb : Nat) (sh : Nat → Nat) (th : Int32) (tk : Nat) : evX σ' hb sb sh th tk = evX σ hb sb sh th tk := by
  unfold evX
  simp only [sg_sr hF, tN_sr hF, td_sr hF, go_sr hF, gn_sr hF]
theorem eS_sr {σ σ' : Mm} (hF : Fr Wsh σ σ') (sh : Nat → Nat) : eS σ' sh = eS σ sh := by
  unfold eS
  rw [evX_sr hF, hB_sr hF, show sB σ' = sB σ by unfold sB; rw [sr_0 hF]]
theorem sf_sun {σ σ' : Mm} (hF : Fr Wsh σ σ') : sf σ' = sf σ := funext fun t => sf_sr hF t
theorem eD_sr {σ σ' : Mm} (hF : Fr Wsh σ σ') : eD σ' = eD σ := by
  have h1 : eD σ' = eS σ' (sf σ') := rfl
  have h2 : eD σ = eS σ (sf σ) := rfl
  rw [h1, h2, eS_sr hF, sf_sun hF]
theorem sB_sr {σ σ' : Mm} (hF : Fr Wsh σ σ') : sB σ' = sB σ := by unfold sB; rw [sr_0 hF]
theorem wtL_sr {σ σ' : Mm} (hF : Fr Wsh σ σ') : ∀ t, wtL σ' t = wtL σ t
  | 0 => rfl
  | t + 1 => by unfold wtL; rw [wtL_sr hF t, td_sr hF, sB_sr hF]
theorem wl_sr {σ σ' : Mm} (hF : Fr Wsh σ σ') : wl σ' = wl σ := by unfold wl; rw [tN_sr hF, wtL_sr hF]
theorem mB_sr {σ σ' : Mm} (hF : Fr Wsh σ σ') : ∀ t, mB σ' t = mB σ t
  | 0 => rfl
  | t + 1 => by unfold mB; rw [mB_sr hF t, td_sr hF]
theorem shR_sr {σ σ' : Mm} (hF : Fr Wsh σ σ') (r : Nat) : shR σ' r = shR σ r := funext fun t => by unfold shR; rw [wl_sr hF, sf_sr hF]
theorem muS_sr {σ σ' : Mm} (hF : Fr Wsh σ σ') (e : ev) : ∀ h, muS σ' e h = muS σ e h
  | 0 => rfl
  | h + 1 => by unfold muS; rw [muS_sr hF e h, mB_sr hF, tN_sr hF]
theorem mu_sr {σ σ' : Mm} (hF : Fr Wsh σ σ') (r : Nat) : mu σ' r = mu σ r := by unfold mu; rw [muS_sr hF, shR_sr hF, eS_sr hF]
theorem al_sr {σ σ' : Mm} (hF : Fr Wsh σ σ') (r : Nat) : al σ' r = al σ r := by unfold al; rw [shR_sr hF, eS_sr hF]
theorem bst_sr {σ σ' : Mm} (hF : Fr Wsh σ σ') : ∀ N, bst σ' N = bst σ N
  | 0 => rfl
  | N + 1 => by unfold bst; rw [bst_sr hF N]; simp only [mu_sr hF, al_sr hF]
theorem CaD.sr {σ σ' : Mm} (h : CaD σ) (hF : Fr Wsh σ σ') : CaD σ' := by
  unfold CaD RecAt at h ⊢
  rw [hF 12 5 (by simp), eD_sr hF]
  have h2 : ∀ k i, 13 ≤ k → k ≤ 17 → σ' k i = σ k i := fun k i a b => hF k i (fun q => by rcases q with q | q <;> omega)
  simp only [h2 13 _ (by decide) (by decide), h2 14 _ (by decide) (by decide), h2 15 _ (by decide) (by decide), h2 16 _ (by decide) (by decide), h2 17 _ (by decide) (by decide)]
  exact h
theorem CaP.sr {σ σ' : Mm} (h : CaP σ) (hF : Fr Wsh σ σ') : CaP σ' := by
  have h1 : ∀ i, σ' 18 i = σ 18 i := fun i => hF 18 i (by simp)
  have h2 : ∀ i, σ' 21 i = σ 21 i := fun i => hF 21 i (by simp)
  unfold CaP PlanOK at h ⊢
  simp only [h1, h2, wl_sr hF, bst_sr hF, mu_sr hF, al_sr hF]
  exact h
theorem fitT_sr {σ σ' : Mm} (hF : Fr Wsh σ σ') (h22 : σ' 22 3 = σ 22 3) (e2 : ∀ x, σ' 23 x = σ 23 x) (e3 : ∀ x, σ' 24 x = σ 24 x) (q : Nat) : fitT σ' q = fitT σ q := by
  have e1 : eT σ' q = eT σ q := by unfold eT; rw [evX_sr hF, hB_sr hF, sB_sr hF, sf_sun hF]
  have e4 : sN σ' = sN σ := by unfold sN; rw [h22]
  unfold fitT
  rw [e4, e1]
  simp only [e2, e3]
theorem cntT_sr {σ σ' : Mm} (h : ∀ q, fitT σ' q = fitT σ q) : ∀ q, cntT σ' q = cntT σ q
  | 0 => rfl
  | q + 1 => by unfold cntT; rw [cntT_sr h q, h]
theorem firT_sr {σ σ' : Mm} (h : ∀ q, fitT σ' q = fitT σ q) : ∀ q, firT σ' q = firT σ q
  | 0 => rfl
  | q + 1 => by unfold firT; rw [firT_sr h q, h, cntT_sr h]
theorem CaT.sr {σ σ' : Mm} (h : CaT σ) (hF : Fr Wsh σ σ') (h22 : ∀ i, σ' 22 i = σ 22 i) (e2 : ∀ x, σ' 23 x = σ 23 x) (e3 : ∀ x, σ' 24 x = σ 24 x) : CaT σ' := by
  have hq := fitT_sr hF (h22 3) e2 e3
  unfold CaT at h ⊢
  simp only [h22, cntT_sr hq, firT_sr hq]
  exact h
/-- sheets and the finding -/
abbrev Wsx (k i : Nat) : Prop := (k = 0 ∧ i = 10) ∨ 27 ≤ k
abbrev Wsm (k i : Nat) : Prop := (k = 0 ∧ i = 33) ∨ 24 ≤ k
theorem Rel.shs {σ τ σ' τ' : Mm} (h : Rel σ τ) (hW : Fr Wsx σ σ') (hV : Fr Wsm τ τ') (hsh : ∀ s, s < 4 → SheetOK σ' τ' s) (hf : τ' 0 33 = σ' 0 10) : Rel σ' τ' := by
  obtain ⟨hc, hd, hp, ht⟩ := h
  have hF : Fr Wsh σ σ' := hW.mo fun k i q => by
    rcases q with q | q
    · exact Or.inl q
    · exact Or.inr (by omega)
  obtain ⟨a, b, c, d, e, f, g, i, j, k, l⟩ := hc
  refine ⟨⟨a.fr (hW 1 3 (by simp)) (fun i => hW 2 i (by simp)) (hV 0 0 (by simp)) (fun i => hV 1 i (by simp)), b.fr hW (fun i => by simp) (fun i => by simp) (fun i => by simp) (fun i => by simp), c.cp (fun i => hW 5 i (by simp)), by rw [hW 0 3 (by simp)]; exact d, fun t ht => by rw [hW 6 t (by simp)]; exact e t ht, f.cp (fun i => hW 5 i (by simp)) (fun i => hV 2 i (by simp)), fun t ht => by rw [hV 7 t (by simp), sB_sr hF]; exact g t ht, fun t ht => by rw [hW 6 t (by simp), hV 8 t (by simp)]; exact i t ht, j.cp (hW 22 3 (by simp)) (fun i => hW 23 i (by simp)) (fun i => hW 24 i (by simp)) (hV 0 25 (by simp)) (fun i => hV 22 i (by simp)) (fun i => hV 23 i (by simp)), hsh, hf⟩, hd.sr hF, hp.sr hF, ht.sr hF (fun i => hW 22 i (by simp)) (fun i => hW 23 i (by simp)) (fun i => hW 24 i (by simp))⟩
