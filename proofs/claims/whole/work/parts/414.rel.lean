/-! ===== what class and reference have in common ===== -/
def ST (σ τ : Mm) : Prop := ∃ n, n ≤ 100 ∧ σ 1 3 = nI n ∧ τ 0 0 = nI n ∧ ∀ i, i < 100 → τ 1 i = σ 2 i
def TownOK (σ : Mm) : Prop := TW σ ∧ ∀ τ, ST σ τ → ∃ τ', fX8_faultNow τ = some (σ 1 7, τ') ∧ Fr Wpm τ τ' ∧ TR σ τ' (hB σ)
theorem TownOK.fr {σ σ' : Mm} (h : TownOK σ) {W : Nat → Nat → Prop} (hF : Fr W σ σ') (h1 : ∀ i, ¬ W 1 i) (h2 : ∀ i, ¬ W 2 i) (h3 : ∀ i, ¬ W 3 i) (h4 : ∀ i, ¬ W 4 i) : TownOK σ' := by
  have f1 : ∀ i, σ' 1 i = σ 1 i := fun i => hF 1 i (h1 i)
  have f2 : ∀ i, σ' 2 i = σ 2 i := fun i => hF 2 i (h2 i)
  have f3 : ∀ i, σ' 3 i = σ 3 i := fun i => hF 3 i (h3 i)
  have f4 : ∀ i, σ' 4 i = σ 4 i := fun i => hF 4 i (h4 i)
  have e1 : tN σ' = tN σ := by unfold tN; rw [f1]
  have e2 : gN σ' = gN σ := by unfold gN; rw [f1]
  have e3 : hB σ' = hB σ := by unfold hB; rw [f1]
  have e4 : ∀ t j, td σ' t j = td σ t j := fun t j => by unfold td; rw [f3]
  have e5 : ∀ t j, gd σ' t j = gd σ t j := fun t j => by unfold gd; rw [f4]
  obtain ⟨a, b⟩ := h
  refine ⟨?_, fun τ hst => ?_⟩
  · unfold TW at a ⊢
    simp only [e1, e2, e3, e4, e5, f1, f3, f4]
    exact a
  · have hst' : ST σ τ := by
      unfold ST at hst ⊢
      simp only [f1, f2] at hst
      exact hst
    obtain ⟨τ', q1, q2, q3⟩ := b τ hst'
    refine ⟨τ', by rw [f1]; exact q1, q2, ?_⟩
    unfold TR at q3 ⊢
    simp only [e1, e2, e3, e4, e5]
    exact q3
theorem parse_ok {σ : Mm} {n : Nat} (hn : n ≤ 100) (h3 : σ 1 3 = nI n) : ∃ σ', fX4_parse σ = some σ' ∧ Fr Wpx σ σ' ∧ TownOK σ' := by
  have hc : TXc σ n (σ 2) := ⟨h3, hn, fun _ _ => rfl⟩
  obtain ⟨σ', τ', p1, p2, p3, p4, p5, p6⟩ := parseXM (τ := fun k i => if k = 0 then nI n else σ 2 i) hc ⟨rfl, hn, fun i _ => rfl⟩
  refine ⟨σ', p1, p3, p5, fun τ hst => ?_⟩
  obtain ⟨m, hm, q1, q2, q3⟩ := hst
  have e3 : σ' 1 3 = nI n := by rw [p3 1 3 (by simp)]; exact h3
  have hmn : m = n := by
    rw [e3] at q1
    rw [eq_nI (by omega) (by omega)] at q1
    exact q1.symm
  subst hmn
  obtain ⟨σ2, τ2, r1, r2, r3, r4, r5, r6⟩ := parseXM (τ := τ) hc ⟨q2, hm, fun i hi => by rw [q3 i hi, p3 2 i (by simp)]⟩
  obtain rfl : σ2 = σ' := Option.some.inj (r1.symm.trans p1)
  exact ⟨τ2, r2, r4, r6⟩
def sB (σ : Mm) : Nat := ms_ix (σ 0 3)
def sN (σ : Mm) : Nat := ms_ix (σ 22 3)
/-- what the days are, as town, settings, shuts and shifts stand -/
def eD (σ : Mm) : ev := evX σ (hB σ) (sB σ) (sf σ) (-1) 0
def eS (σ : Mm) (sh : Nat → Nat) : ev := evX σ (hB σ) (sB σ) sh (-1) 0
def eT (σ : Mm) (q : Nat) : ev := evX σ (hB σ) (sB σ) (sf σ) (nI (q / 40)) (q % 40 + 1)
/-- a thief fits all that was seen -/
def fitT (σ : Mm) (q : Nat) : Bool := (List.range (sN σ)).all (fun i => decide (rl (eT σ q) (ms_ix (σ 23 i)) = ms_ix (σ 24 i)))
def cntT (σ : Mm) : Nat → Nat
  | 0 => 0
  | q + 1 => cntT σ q + if fitT σ q then 1 else 0
def firT (σ : Mm) : Nat → Int32
  | 0 => -1
  | q + 1 => if fitT σ q = true ∧ cntT σ q = 0 then nI (100 * (q / 40) + (q % 40 + 1)) else firT σ q
/-- the things that may wait, as a list -/
def wtL (σ : Mm) : Nat → List Nat
  | 0 => []
  | t + 1 => if td σ t 3 = 0 ∧ bt (sB σ) t = 0 then wtL σ t ++ [t] else wtL σ t
def wl (σ : Mm) : List Nat := wtL σ (tN σ)
/-- the shifts of a row: the first thing's is its highest figure, to the base of a day -/
def dgt (n r k : Nat) : Nat := r / 24 ^ (n - 1 - k) % 24
def shR (σ : Mm) (r : Nat) (t : Nat) : Nat := if (wl σ).idxOf t < (wl σ).length then dgt (wl σ).length r ((wl σ).idxOf t) else sf σ t
def pc6 (b : Nat) : Nat := bt b 0 + bt b 1 + bt b 2 + bt b 3 + bt b 4 + bt b 5
def mB (σ : Mm) : Nat → Nat
  | 0 => 0
  | t + 1 => mB σ t + td σ t 3 * 2 ^ t
def muS (σ : Mm) (e : ev) : Nat → Nat
  | 0 => 0
  | h + 1 => muS σ e h + pc6 (rq e h &&& mB σ (tN σ))
def alS (e : ev) : Nat → Nat
  | 0 => 0
  | h + 1 => alS e h + pc6 (rq e h)
def mu (σ : Mm) (r : Nat) : Nat := muS σ (eS σ (shR σ r)) 48
def al (σ : Mm) (r : Nat) : Nat := alS (eS σ (shR σ r)) 48
/-- the first best row among the first N -/
def bst (σ : Mm) : Nat → Nat
  | 0 => 0
  | N + 1 => if N = 0 ∨ mu σ N < mu σ (bst σ N) ∨ (mu σ N = mu σ (bst σ N) ∧ al σ N < al σ (bst σ N)) then N else bst σ N
def PlanOK (σ : Mm) : Prop := (wl σ).length ≤ 3 ∧ σ 18 5 = nI (mu σ (bst σ (24 ^ (wl σ).length))) ∧ σ 18 6 = nI (al σ (bst σ (24 ^ (wl σ).length))) ∧ ∀ k t, (wl σ)[k]? = some t → σ 21 t = nI (dgt (wl σ).length (bst σ (24 ^ (wl σ).length)) k)
def CaD (σ : Mm) : Prop := σ 12 5 = 0 ∨ (σ 12 5 = 1 ∧ ∀ h, h < 240 → RecAt σ (eD σ) h)
def CaP (σ : Mm) : Prop := σ 18 7 = 0 ∨ (σ 18 7 = 1 ∧ PlanOK σ)
def CaT (σ : Mm) : Prop := σ 22 8 = 0 ∨ (σ 22 8 = 1 ∧ σ 22 6 = nI (cntT σ 960) ∧ σ 22 7 = firT σ 960)
/-- notes and sheets -/
def NotesOK (σ τ : Mm) : Prop := σ 22 3 = nI (sN σ) ∧ sN σ ≤ 12 ∧ (∀ i, i < sN σ → nn (σ 23 i) 240 ∧ nn (σ 24 i) 1000) ∧ τ 0 25 = σ 22 3 ∧ (∀ i, i < 12 → τ 22 i = σ 23 i ∧ τ 23 i = σ 24 i)
def SheetOK (σ τ : Mm) (s : Nat) : Prop := ((σ (27 + 2 * s) 3 = 0 ∧ τ 24 s = 1) ∨ (σ (27 + 2 * s) 3 = 1 ∧ τ 24 s = 0)) ∧ nn (σ (27 + 2 * s) 1) 3 ∧ nn (σ (27 + 2 * s) 2) 49 ∧ τ 25 s = σ (27 + 2 * s) 1 ∧ τ 26 s = σ (27 + 2 * s) 2 ∧ ∀ i, i < 48 → τ 27 (48 * s + i) = σ (28 + 2 * s) i
def Core (σ τ : Mm) : Prop := ST σ τ ∧ TownOK σ ∧ SW σ ∧ nn (σ 0 3) 64 ∧ (∀ t, t < 6 → nn (σ 6 t) 24) ∧ SR σ τ ∧ (∀ t, t < 6 → τ 7 t = nI (bt (sB σ) t)) ∧ (∀ t, t < 6 → τ 8 t = σ 6 t) ∧ NotesOK σ τ ∧ (∀ s, s < 4 → SheetOK σ τ s) ∧ τ 0 33 = σ 0 10
def Rel (σ τ : Mm) : Prop := Core σ τ ∧ CaD σ ∧ CaP σ ∧ CaT σ
abbrev Wms (k i : Nat) : Prop := (k = 0 ∧ (i = 3 ∨ i = 10 ∨ i = 11)) ∨ (3 ≤ k ∧ k ≤ 6) ∨ (9 ≤ k ∧ k ≤ 21) ∨ k = 28
theorem Core.frM {σ τ τ' : Mm} (h : Core σ τ) (hF : Fr Wms τ τ') : Core σ τ' := by
  obtain ⟨⟨n, a1, a2, a3, a4⟩, b, c, d, e, f, g, i, ⟨j1, j2, j3, j4, j5⟩, k, l⟩ := h
  refine ⟨⟨n, a1, a2, by rw [hF 0 0 (by simp)]; exact a3, fun x hx => by rw [hF 1 x (by simp)]; exact a4 x hx⟩, b, c, d, e, fun x hx => by rw [hF 2 x (by simp)]; exact f x hx, fun t ht => by rw [hF 7 t (by simp)]; exact g t ht, fun t ht => by rw [hF 8 t (by simp)]; exact i t ht, ⟨j1, j2, j3, by rw [hF 0 25 (by simp)]; exact j4, fun x hx => by rw [hF 22 x (by simp), hF 23 x (by simp)]; exact j5 x hx⟩, fun s hs => ?_, by rw [hF 0 33 (by simp)]; exact l⟩
  obtain ⟨k1, k2, k3, k4, k5, k6⟩ := k s hs
  exact ⟨by rw [hF 24 s (by simp)]; exact k1, k2, k3, by rw [hF 25 s (by simp)]; exact k4, by rw [hF 26 s (by simp)]; exact k5, fun x hx => by rw [hF 27 _ (by simp)]; exact k6 x hx⟩
theorem Core.frX {σ σ' τ : Mm} (h : Core σ τ) (hF : Fr Wscr σ σ') : Core σ' τ := by
  obtain ⟨⟨n, a1, a2, a3, a4⟩, b, c, d, e, f, g, i, ⟨j1, j2, j3, j4, j5⟩, k, l⟩ := h
  have e22 : σ' 22 3 = σ 22 3 := hF 22 3 (by simp)
  have e23 : ∀ x, σ' 23 x = σ 23 x := fun x => hF 23 x (by simp)
  have e24 : ∀ x, σ' 24 x = σ 24 x := fun x => hF 24 x (by simp)
  have eN : sN σ' = sN σ := by unfold sN; rw [e22]
  have eB : sB σ' = sB σ := by unfold sB; rw [fr_0 hF]
  refine ⟨⟨n, a1, by rw [fr_1 hF]; exact a2, a3, fun x hx => by rw [hF 2 x (by simp)]; exact a4 x hx⟩, b.fr hF (fun i => by simp) (fun i => by simp) (fun i => by simp) (fun i => by simp), c.fr hF, by rw [fr_0 hF]; exact d, fun t ht => by rw [fr_6 hF]; exact e t ht, fun x hx => by rw [sg_fr hF]; exact f x hx, fun t ht => by rw [eB]; exact g t ht, fun t ht => by rw [fr_6 hF]; exact i t ht, ⟨by rw [e22, eN]; exact j1, by rw [eN]; exact j2, fun x hx => by rw [e23, e24]; exact j3 x (by omega), by rw [e22]; exact j4, fun x hx => by rw [e23, e24]; exact j5 x hx⟩, fun s hs => ?_, by rw [fr_0 hF]; exact l⟩
  obtain ⟨k1, k2, k3, k4, k5, k6⟩ := k s hs
  have g1 : ∀ x, σ' (27 + 2 * s) x = σ (27 + 2 * s) x := fun x => hF _ x (fun q => by rcases q with q | q | q | q | q | q | q | q <;> omega)
  have g2 : ∀ x, σ' (28 + 2 * s) x = σ (28 + 2 * s) x := fun x => hF _ x (fun q => by rcases q with q | q | q | q | q | q | q | q <;> omega)
  unfold SheetOK
  simp only [g1, g2]
  exact ⟨k1, k2, k3, k4, k5, k6⟩
/-- the common words stay over what is worked out -/
theorem eS_fr {σ σ' : Mm} (hF : Fr Wscr σ σ') (sh : Nat → Nat) : eS σ' sh = eS σ sh := by
  unfold eS
  rw [evX_fr hF, hB_fr hF, show sB σ' = sB σ by unfold sB; rw [fr_0 hF]]
theorem sf_fun {σ σ' : Mm} (hF : Fr Wscr σ σ') : sf σ' = sf σ := funext fun t => sf_fr hF t
theorem eD_fr {σ σ' : Mm} (hF : Fr Wscr σ σ') : eD σ' = eD σ := by
  have h1 : eD σ' = eS σ' (sf σ') := rfl
  have h2 : eD σ = eS σ (sf σ) := rfl
  rw [h1, h2, eS_fr hF, sf_fun hF]
theorem sN_fr {σ σ' : Mm} (hF : Fr Wscr σ σ') : sN σ' = sN σ := by unfold sN; rw [hF 22 3 (by simp)]
theorem sB_fr {σ σ' : Mm} (hF : Fr Wscr σ σ') : sB σ' = sB σ := by unfold sB; rw [fr_0 hF]
theorem fitT_fr {σ σ' : Mm} (hF : Fr Wscr σ σ') (q : Nat) : fitT σ' q = fitT σ q := by
  have e1 : eT σ' q = eT σ q := by unfold eT; rw [evX_fr hF, hB_fr hF, sB_fr hF, sf_fun hF]
  have e2 : ∀ x, σ' 23 x = σ 23 x := fun x => hF 23 x (by simp)
  have e3 : ∀ x, σ' 24 x = σ 24 x := fun x => hF 24 x (by simp)
  unfold fitT
  rw [sN_fr hF, e1]
  simp only [e2, e3]
theorem cntT_fr {σ σ' : Mm} (hF : Fr Wscr σ σ') : ∀ q, cntT σ' q = cntT σ q
  | 0 => rfl
  | q + 1 => by unfold cntT; rw [cntT_fr hF q, fitT_fr hF]
theorem firT_fr {σ σ' : Mm} (hF : Fr Wscr σ σ') : ∀ q, firT σ' q = firT σ q
  | 0 => rfl
  | q + 1 => by unfold firT; rw [firT_fr hF q, fitT_fr hF, cntT_fr hF]
theorem wtL_fr {σ σ' : Mm} (hF : Fr Wscr σ σ') : ∀ t, wtL σ' t = wtL σ t
  | 0 => rfl
  | t + 1 => by unfold wtL; rw [wtL_fr hF t, td_fr hF, sB_fr hF]
theorem wl_fr {σ σ' : Mm} (hF : Fr Wscr σ σ') : wl σ' = wl σ := by unfold wl; rw [tN_fr hF, wtL_fr hF]
theorem mB_fr {σ σ' : Mm} (hF : Fr Wscr σ σ') : ∀ t, mB σ' t = mB σ t
  | 0 => rfl
  | t + 1 => by unfold mB; rw [mB_fr hF t, td_fr hF]
theorem shR_fr {σ σ' : Mm} (hF : Fr Wscr σ σ') (r : Nat) : shR σ' r = shR σ r := funext fun t => by unfold shR; rw [wl_fr hF, sf_fr hF]
theorem muS_fr {σ σ' : Mm} (hF : Fr Wscr σ σ') (e : ev) : ∀ h, muS σ' e h = muS σ e h
  | 0 => rfl
  | h + 1 => by unfold muS; rw [muS_fr hF e h, mB_fr hF, tN_fr hF]
theorem mu_fr {σ σ' : Mm} (hF : Fr Wscr σ σ') (r : Nat) : mu σ' r = mu σ r := by unfold mu; rw [muS_fr hF, shR_fr hF, eS_fr hF]
theorem al_fr {σ σ' : Mm} (hF : Fr Wscr σ σ') (r : Nat) : al σ' r = al σ r := by unfold al; rw [shR_fr hF, eS_fr hF]
theorem bst_fr {σ σ' : Mm} (hF : Fr Wscr σ σ') : ∀ N, bst σ' N = bst σ N
  | 0 => rfl
  | N + 1 => by unfold bst; rw [bst_fr hF N]; simp only [mu_fr hF, al_fr hF]
theorem CaD.fr {σ σ' : Mm} (h : CaD σ) (hF : Fr Wscr σ σ') (h1 : σ' 12 5 = σ 12 5) (h2 : ∀ k i, 13 ≤ k → k ≤ 17 → σ' k i = σ k i) : CaD σ' := by
  unfold CaD RecAt at h ⊢
  rw [h1, eD_fr hF]
  simp only [h2 13 _ (by decide) (by decide), h2 14 _ (by decide) (by decide), h2 15 _ (by decide) (by decide), h2 16 _ (by decide) (by decide), h2 17 _ (by decide) (by decide)]
  exact h
theorem CaP.fr {σ σ' : Mm} (h : CaP σ) (hF : Fr Wscr σ σ') (h1 : ∀ i, σ' 18 i = σ 18 i) (h2 : ∀ i, σ' 21 i = σ 21 i) : CaP σ' := by
  unfold CaP PlanOK at h ⊢
  simp only [h1, h2, wl_fr hF, bst_fr hF, mu_fr hF, al_fr hF]
  exact h
theorem CaT.fr {σ σ' : Mm} (h : CaT σ) (hF : Fr Wscr σ σ') (h1 : ∀ i, σ' 22 i = σ 22 i) : CaT σ' := by
  unfold CaT at h ⊢
  simp only [h1, cntT_fr hF, firT_fr hF]
  exact h
/-- only the spring was used -/
theorem Rel.spr {σ σ' τ : Mm} (h : Rel σ τ) {W : Nat → Nat → Prop} (hF : Fr W σ σ') (hW : ∀ k i, W k i → (k = 8 ∧ 3 ≤ i) ∨ (9 ≤ k ∧ k ≤ 11)) : Rel σ' τ := by
  have hS : Fr Wscr σ σ' := hF.mo fun k i q => by
    rcases hW k i q with z | z
    · exact Or.inl z
    · exact Or.inr (Or.inl z)
  have out : ∀ k i, 12 ≤ k → σ' k i = σ k i := fun k i hk => hF k i (fun q => by rcases hW k i q with z | z <;> omega)
  exact ⟨h.1.frX hS, h.2.1.fr hS (out _ _ (by decide)) (fun k i h1 h2 => out k i (by omega)), h.2.2.1.fr hS (fun i => out _ _ (by decide)) (fun i => out _ _ (by decide)), h.2.2.2.fr hS (fun i => out _ _ (by decide))⟩
theorem Rel.frM {σ τ τ' : Mm} (h : Rel σ τ) (hF : Fr Wms τ τ') : Rel σ τ' := ⟨h.1.frM hF, h.2⟩
