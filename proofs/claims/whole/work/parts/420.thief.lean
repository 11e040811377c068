/-! ===== the thief ===== -/
theorem fitT_iff {σ : Mm} {q : Nat} : fitT σ q = true ↔ ∀ i, i < sN σ → rl (eT σ q) (ms_ix (σ 23 i)) = ms_ix (σ 24 i) := by
  unfold fitT
  simp [List.all_eq_true]
theorem unS_0 (σ : Mm) (e : ev) : ∀ N, unS σ e N = 0 ↔ ∀ i, i < N → rl e (ms_ix (σ 23 i)) = ms_ix (σ 24 i)
  | 0 => ⟨fun _ i hi => by omega, fun _ => rfl⟩
  | N + 1 => by
    have ih := unS_0 σ e N
    have e1 : unS σ e (N + 1) = unS σ e N + if rl e (ms_ix (σ 23 N)) = ms_ix (σ 24 N) then 0 else 1 := rfl
    rw [e1]
    constructor
    · intro q i hi
      rcases Nat.lt_or_ge i N with p | p
      · exact ih.1 (by omega) i p
      · obtain rfl : i = N := by omega
        by_cases c : rl e (ms_ix (σ 23 i)) = ms_ix (σ 24 i)
        · exact c
        · rw [if_neg c] at q; omega
    · intro q
      rw [if_pos (q N (by omega)), ih.2 (fun i hi => q i (by omega))]
theorem unS_le (σ : Mm) (e : ev) : ∀ N, unS σ e N ≤ N
  | 0 => Nat.le_refl _
  | N + 1 => by
    have ih := unS_le σ e N
    have e1 : unS σ e (N + 1) = unS σ e N + if rl e (ms_ix (σ 23 N)) = ms_ix (σ 24 N) then 0 else 1 := rfl
    rw [e1]
    split <;> omega
theorem cntT_b (σ : Mm) : ∀ q, cntT σ q ≤ q
  | 0 => Nat.le_refl _
  | q + 1 => by
    have := cntT_b σ q
    have e1 : cntT σ (q + 1) = cntT σ q + if fitT σ q then 1 else 0 := rfl
    rw [e1]
    split <;> omega
theorem firT_c (σ : Mm) : ∀ q, q ≤ 960 → ((cntT σ q = 0 ∧ firT σ q = -1) ∨ (cntT σ q ≠ 0 ∧ ∃ v, v < 3000 ∧ firT σ q = nI v))
  | 0, _ => Or.inl ⟨rfl, rfl⟩
  | q + 1, hq => by
    have ih := firT_c σ q (by omega)
    have e1 : cntT σ (q + 1) = cntT σ q + if fitT σ q then 1 else 0 := rfl
    have e2 : firT σ (q + 1) = if fitT σ q = true ∧ cntT σ q = 0 then nI (100 * (q / 40) + (q % 40 + 1)) else firT σ q := rfl
    rw [e1, e2]
    by_cases c : fitT σ q = true
    · rw [if_pos c]
      by_cases d : cntT σ q = 0
      · rw [if_pos ⟨c, d⟩]
        exact Or.inr ⟨by omega, _, by omega, rfl⟩
      · rw [if_neg (fun z => d z.2)]
        rcases ih with ⟨a, -⟩ | ⟨-, b⟩
        · exact absurd a d
        · exact Or.inr ⟨by omega, b⟩
    · rw [if_neg c, if_neg (fun z => c z.1), Nat.add_zero]
      exact ih
/-- what is due, when no two notes are at odds -/
def Due (σ0 σ : Mm) (i : Nat) : Prop := (σ 22 5 = 0 ∧ (∃ m, m ≤ 240 ∧ σ 22 4 = nI m ∧ ∀ j, j < i → ms_ix (σ0 23 j) < m) ∧ (∀ j, j < i → σ 25 (ms_ix (σ0 23 j)) = σ0 24 j) ∧ ∀ h, h < 240 → σ 25 h = -1 ∨ ∃ j, j < i ∧ ms_ix (σ0 23 j) = h) ∨ (σ 22 5 = 1 ∧ (∃ m, m ≤ 240 ∧ σ 22 4 = nI m) ∧ ∃ j k, j < i ∧ k < i ∧ ms_ix (σ0 23 j) = ms_ix (σ0 23 k) ∧ σ0 24 j ≠ σ0 24 k)
abbrev Wdue (k i : Nat) : Prop := (k = 22 ∧ 4 ≤ i ∧ i < 6) ∨ k = 25
theorem due20 {σ0 τ0 : Mm} (h : NotesOK σ0 τ0) : ∀ (d n i : Nat), i + d = sN σ0 → d < n → ∀ σ : Mm, σ 22 3 = σ0 22 3 → (∀ j, σ 23 j = σ0 23 j) → (∀ j, σ 24 j = σ0 24 j) → Due σ0 σ i → ∃ σ', fX5_layDue_20 n (nI i) σ = some σ' ∧ Fr Wdue σ σ' ∧ Due σ0 σ' (sN σ0) := by
  have h12 := h.2.1
  intro d
  induction d with
  | zero =>
    intro n i hd hn σ e22 e23 e24 hD
    obtain ⟨n, rfl⟩ : ∃ z, n = z + 1 := ⟨n - 1, by omega⟩
    obtain rfl : i = sN σ0 := by omega
    rw [fX5_layDue_20, e22, h.1, ifle (by omega) (by omega), if_pos (Nat.le_refl _)]
    exact ⟨σ, rfl, Fr.rf, hD⟩
  | succ d ih =>
    intro n i hd hn σ e22 e23 e24 hD
    obtain ⟨n, rfl⟩ : ∃ z, n = z + 1 := ⟨n - 1, by omega⟩
    obtain ⟨q1, q2, q3, q4⟩ := note_at h (show i < sN σ0 by omega)
    have i12 : ms_in (nI i) 12 := in_nI (by omega) (by decide)
    have ixi : ms_ix (nI i) = i := ix_nI (by omega)
    have g23 : ms_in (σ0 23 i) 240 := by rw [q2]; exact in_nI q1 (by decide)
    generalize hH : ms_ix (σ0 23 i) = H at q1 q2
    have hm : ∃ m, m ≤ 240 ∧ σ 22 4 = nI m := by
      rcases hD with ⟨-, ⟨m, m1, m2, -⟩, -⟩ | ⟨-, m, -⟩
      · exact ⟨m, m1, m2⟩
      · exact m
    obtain ⟨m, m1, m2⟩ := hm
    have step : ∀ v : Int32, (v = 0 ∨ v = 1) → Due σ0 (ms_st (ms_st (ms_st σ 22 5 v) 25 H (σ0 24 i)) 22 4 (nI (max m (H + 1)))) (i + 1) → ∃ σ', fX5_layDue_73 (fX5_layDue_20 n) (nI i) (σ0 23 i) v σ = some σ' ∧ Fr Wdue σ σ' ∧ Due σ0 σ' (sN σ0) := fun v hv hD' => by
      unfold fX5_layDue_73
      rw [ms_g_t hv]
      simp only [ms_lt]
      rw [ms_g_t i12, ms_g_t g23, ixi, hH, nI_1]
      have r1 : ms_st σ 22 5 v 24 i = σ0 24 i := by rw [ms_rd, if_neg (by simp)]; exact e24 i
      have r2 : ms_st (ms_st σ 22 5 v) 25 H (σ0 24 i) 22 4 = nI m := by rw [ms_rd, if_neg (by simp), ms_rd, if_neg (by decide)]; exact m2
      have r3 : ms_maxv (nI m) (σ0 23 i + 1) = nI (max m (H + 1)) := by rw [q2, nI_1]; exact maxv_nI (by omega) (by omega)
      rw [r1, r2, r3]
      have F : Fr Wdue σ (ms_st (ms_st (ms_st σ 22 5 v) 25 H (σ0 24 i)) 22 4 (nI (max m (H + 1)))) := ((Fr.rf.st _ (Or.inl ⟨rfl, by decide, by decide⟩)).st _ (Or.inr rfl)).st _ (Or.inl ⟨rfl, by decide, by decide⟩)
      obtain ⟨σ', p1, p2, p3⟩ := ih n (i + 1) (by omega) (by omega) _ (by rw [F 22 3 (by simp)]; exact e22) (fun j => by rw [F 23 j (by simp)]; exact e23 j) (fun j => by rw [F 24 j (by simp)]; exact e24 j) hD'
      exact ⟨σ', p1, F.tr p2, p3⟩
    have rd5 : ∀ v : Int32, ms_st (ms_st (ms_st σ 22 5 v) 25 H (σ0 24 i)) 22 4 (nI (max m (H + 1))) 22 5 = v := fun v => by rw [ms_rd, if_neg (by decide), ms_rd, if_neg (by simp), ms_rd, if_pos (by decide)]
    have rd4 : ∀ v : Int32, ms_st (ms_st (ms_st σ 22 5 v) 25 H (σ0 24 i)) 22 4 (nI (max m (H + 1))) 22 4 = nI (max m (H + 1)) := fun v => by rw [ms_rd, if_pos (by decide)]
    have rd25 : ∀ (v : Int32) (x : Nat), ms_st (ms_st (ms_st σ 22 5 v) 25 H (σ0 24 i)) 22 4 (nI (max m (H + 1))) 25 x = if x = H then σ0 24 i else σ 25 x := fun v x => by
      rw [ms_rd, if_neg (by simp), ms_rd]
      by_cases c : x = H
      · rw [if_pos ⟨rfl, c⟩, if_pos c]
      · rw [if_neg (fun z => c z.2), if_neg c, ms_rd, if_neg (by simp)]
    rw [fX5_layDue_20, e22, h.1, ifle (by omega) (by omega), if_neg (by omega), ms_g_t i12, ixi, e23, e24]
    unfold fX5_layDue_72 fX5_layDue_68
    rcases hD with ⟨a1, ⟨m', m1', m2', m3'⟩, a3, a4⟩ | ⟨a1, -, j, k, b1, b2, b3, b4⟩
    · have hmm : m' = m := by
        rw [m2, eq_nI (by omega) (by omega)] at m2'
        exact m2'.symm
      subst hmm
      rw [if_pos a1, ms_g_t g23, ms_g_t g23, ms_g_t i12, hH]
      have good : (∀ j, j < i → ms_ix (σ0 23 j) = H → σ0 24 j = σ0 24 i) → Due σ0 (ms_st (ms_st (ms_st σ 22 5 0) 25 H (σ0 24 i)) 22 4 (nI (max m' (H + 1)))) (i + 1) := fun hg => by
        refine Or.inl ⟨rd5 0, ⟨max m' (H + 1), by omega, rd4 0, fun j hj => ?_⟩, fun j hj => ?_, fun x hx => ?_⟩
        · rcases Nat.lt_or_ge j i with p | p
          · have := m3' j p; omega
          · obtain rfl : j = i := by omega
            omega
        · rw [rd25]
          rcases Nat.lt_or_ge j i with p | p
          · by_cases c : ms_ix (σ0 23 j) = H
            · rw [if_pos c, hg j p c]
            · rw [if_neg c]; exact a3 j p
          · obtain rfl : j = i := by omega
            rw [if_pos hH]
        · rw [rd25]
          by_cases c : x = H
          · exact Or.inr ⟨i, by omega, by rw [hH, c]⟩
          · rw [if_neg c]
            rcases a4 x hx with p | ⟨j, p1, p2⟩
            · exact Or.inl p
            · exact Or.inr ⟨j, by omega, p2⟩
      by_cases c : σ 25 H = -1
      · rw [if_pos c]
        exact step 0 (Or.inl rfl) (good (fun j hj hjH => by
          have z := a3 j hj
          rw [hjH, c] at z
          obtain ⟨-, -, w3, w4⟩ := note_at h (show j < sN σ0 by omega)
          rw [w4] at z
          exact absurd z.symm (m1_ne (by omega))))
      · rw [if_neg c]
        by_cases c2 : σ 25 H = σ0 24 i
        · rw [if_pos c2]
          exact step 0 (Or.inl rfl) (good (fun j hj hjH => by
            have z := a3 j hj
            rw [hjH] at z
            exact z.symm.trans c2))
        · rw [if_neg c2]
          refine step 1 (Or.inr rfl) (Or.inr ⟨rd5 1, ⟨_, by omega, rd4 1⟩, ?_⟩)
          rcases a4 H q1 with p | ⟨j, p1, p2⟩
          · exact absurd p c
          · refine ⟨j, i, by omega, by omega, by rw [p2, hH], fun z => c2 ?_⟩
            have := a3 j p1
            rw [p2] at this
            rw [this, z]
    · rw [if_neg (by rw [a1]; decide)]
      exact step 1 (Or.inr rfl) (Or.inr ⟨rd5 1, ⟨_, by omega, rd4 1⟩, j, k, by omega, by omega, b3, b4⟩)
theorem layDueX {σ0 τ0 : Mm} (h : NotesOK σ0 τ0) {σ : Mm} (e22 : σ 22 3 = σ0 22 3) (e23 : ∀ j, σ 23 j = σ0 23 j) (e24 : ∀ j, σ 24 j = σ0 24 j) : ∃ σ', fX5_layDue σ = some σ' ∧ Fr Wdue σ σ' ∧ Due σ0 σ' (sN σ0) := by
  have h12 := h.2.1
  unfold fX5_layDue
  simp only [ms_lt]
  have F : Fr Wdue σ (ms_st (ms_st (ms_fl1 σ 25 240 (-1)) 22 4 0) 22 5 0) := ((Fr.rf.row (fun _ => Or.inr rfl)).st _ (Or.inl ⟨rfl, by decide, by decide⟩)).st _ (Or.inl ⟨rfl, by decide, by decide⟩)
  obtain ⟨σ', p1, p2, p3⟩ := due20 h (sN σ0) ms_fu 0 (by omega) (fu_lt (by omega)) (ms_st (ms_st (ms_fl1 σ 25 240 (-1)) 22 4 0) 22 5 0) (by rw [F 22 3 (by simp)]; exact e22) (fun j => by rw [F 23 j (by simp)]; exact e23 j) (fun j => by rw [F 24 j (by simp)]; exact e24 j) (Or.inl ⟨by rw [ms_rd, if_pos (by decide)], ⟨0, by omega, by rw [ms_rd, if_neg (by decide), ms_rd, if_pos (by decide)]; rfl, fun j hj => by omega⟩, fun j hj => by omega, fun x hx => Or.inl (by
    rw [ms_rd, if_neg (by simp), ms_rd, if_neg (by simp)]
    unfold ms_fl1 ms_fp
    rw [ms_rdr, if_pos rfl, if_pos hx])⟩)
  exact ⟨σ', p1, F.tr p2, p3⟩
/-- does a thief fit -/
theorem fits6 {e : ev} (hE : EvOK e) {N : Nat} (hN : N ≤ 240) {P : Nat → Prop} (due : Nat → Int32) (hP : ∀ x, x < N → (P x ↔ due x = -1 ∨ due x = nI (rl e x))) : ∀ (d n x : Nat), x + d = N → d < n → ∀ σ : Mm, Rd_ σ e → σ 22 4 = nI N → (∀ y, y < 240 → σ 25 y = due y) → σ 8 12 = nI (rn_ e x).1 → σ 8 13 = nI (rn_ e x).2 → (∀ y, y < x → P y) → ∃ (r : Int32) (σ' : Mm), fX5_fits_6 n (nI x) σ = some (r, σ') ∧ Fr W8 σ σ' ∧ ((r = 1 ∧ ∀ y, y < N → P y) ∨ (r = 0 ∧ ¬ ∀ y, y < N → P y)) := by
  intro d
  induction d with
  | zero =>
    intro n x hd hn σ hR h4 h25 h12 h13 hz
    obtain ⟨n, rfl⟩ : ∃ z, n = z + 1 := ⟨n - 1, by omega⟩
    obtain rfl : x = N := by omega
    rw [fX5_fits_6, h4, ifle (by omega) (by omega), if_pos (Nat.le_refl _)]
    exact ⟨1, σ, rfl, Fr.rf, Or.inl ⟨rfl, hz⟩⟩
  | succ d ih =>
    intro n x hd hn σ hR h4 h25 h12 h13 hz
    obtain ⟨n, rfl⟩ : ∃ z, n = z + 1 := ⟨n - 1, by omega⟩
    obtain ⟨σ1, t1, t2, t3, t4, -⟩ := turnH hE hR (h := x) (by omega) h12 h13
    have i240 : ms_in (nI x) 240 := in_nI (by omega) (by decide)
    have r25 : ∀ y, σ1 25 y = σ 25 y := fun y => t2 25 y (by simp)
    have t3' : σ1 8 12 = nI (rl e x) := t3
    rw [fX5_fits_6, h4, ifle (by omega) (by omega), if_neg (by omega), t1, Option.bind_some, ms_g_t i240, ms_g_t i240, ix_nI (by omega), r25, h25 x (by omega), t3']
    unfold fX5_fits_47
    rw [nI_1]
    have next : P x → ∃ (r : Int32) (σ' : Mm), fX5_fits_6 n (nI (x + 1)) σ1 = some (r, σ') ∧ Fr W8 σ σ' ∧ ((r = 1 ∧ ∀ y, y < N → P y) ∨ (r = 0 ∧ ¬ ∀ y, y < N → P y)) := fun hx => by
      obtain ⟨r, σ', q1, q2, q3⟩ := ih n (x + 1) (by omega) (by omega) σ1 (hR.w8 t2) (by rw [t2 22 4 (by simp)]; exact h4) (fun y hy => by rw [r25]; exact h25 y hy) t3 t4 (fun y hy => by
        rcases Nat.lt_or_ge y x with p | p
        · exact hz y p
        · obtain rfl : y = x := by omega
          exact hx)
      exact ⟨r, σ', q1, t2.tr q2, q3⟩
    by_cases c : due x = -1
    · rw [if_pos c]
      exact next ((hP x (by omega)).2 (Or.inl c))
    · rw [if_neg c]
      by_cases c2 : due x = nI (rl e x)
      · rw [if_pos c2]
        exact next ((hP x (by omega)).2 (Or.inr c2))
      · rw [if_neg c2]
        exact ⟨0, σ1, rfl, t2, Or.inr ⟨rfl, fun z => by
          rcases (hP x (by omega)).1 (z x (by omega)) with p | p
          · exact c p
          · exact c2 p⟩⟩
theorem fitsX {σ0 τ0 : Mm} (h : Core σ0 τ0) {q : Nat} {σ : Mm} (hR : Rd_ σ (eT σ0 q)) (hD : Due σ0 σ (sN σ0)) (h5 : σ 22 5 = 0) : ∃ σ', fX5_fits σ = some (if fitT σ0 q = true then 1 else 0, σ') ∧ Fr W8 σ σ' := by
  have hE := eT_ok h q
  rcases hD with ⟨-, ⟨m, m1, m2, m3⟩, a3, a4⟩ | ⟨a1, -⟩
  · obtain ⟨σ1, t1, t2, t3, t4⟩ := beginX hR
    unfold fX5_fits
    rw [t1, Option.bind_some]
    obtain ⟨r, σ', q1, q2, q3⟩ := fits6 hE m1 (P := fun x => σ 25 x = -1 ∨ σ 25 x = nI (rl (eT σ0 q) x)) (σ 25) (fun x _ => Iff.rfl) m ms_fu 0 (by omega) (fu_lt (by omega)) σ1 (hR.w8 t2) (by rw [t2 22 4 (by simp)]; exact m2) (fun y _ => t2 25 y (by simp)) t3 t4 (fun y hy => by omega)
    have key : fitT σ0 q = true ↔ ∀ y, y < m → (σ 25 y = -1 ∨ σ 25 y = nI (rl (eT σ0 q) y)) := by
      rw [fitT_iff]
      constructor
      · intro z y hy
        rcases a4 y (by omega) with p | ⟨j, p1, p2⟩
        · exact Or.inl p
        · have := a3 j p1
          obtain ⟨-, -, w3, w4⟩ := note_at h.notes p1
          rw [p2] at this
          rw [this, w4, ← p2, z j p1]
          exact Or.inr rfl
      · intro z j hj
        obtain ⟨-, -, w3, w4⟩ := note_at h.notes hj
        have hb := rl_b hE (ms_ix (σ0 23 j))
        rcases z _ (m3 j hj) with p | p
        · rw [a3 j hj, w4] at p
          exact absurd p (m1_ne (by omega))
        · rw [a3 j hj, w4, eq_nI (by omega) (by omega)] at p
          exact p.symm
    refine ⟨σ', ?_, t2.tr q2⟩
    rcases q3 with ⟨rfl, q3⟩ | ⟨rfl, q3⟩
    · rw [if_pos (key.2 q3)]; exact q1
    · rw [if_neg (fun z => q3 (key.1 z))]; exact q1
  · rw [a1] at h5
    exact absurd h5 (by decide)
theorem noT {σ0 τ0 σ : Mm} (h : Core σ0 τ0) (hD : Due σ0 σ (sN σ0)) (h5 : σ 22 5 = 1) : ∀ q, cntT σ0 q = 0 ∧ firT σ0 q = -1
  | 0 => ⟨rfl, rfl⟩
  | q + 1 => by
    obtain ⟨i1, i2⟩ := noT h hD h5 q
    have hno : fitT σ0 q = false := by
      rcases hD with ⟨a1, -⟩ | ⟨-, -, j, k, b1, b2, b3, b4⟩
      · rw [a1] at h5
        exact absurd h5 (by decide)
      · rw [← Bool.not_eq_true, fitT_iff]
        intro z
        apply b4
        obtain ⟨-, -, -, w4⟩ := note_at h.notes b1
        obtain ⟨-, -, -, v4⟩ := note_at h.notes b2
        rw [w4, v4, ← z j b1, ← z k b2, b3]
    have e1 : cntT σ0 (q + 1) = cntT σ0 q + if fitT σ0 q then 1 else 0 := rfl
    have e2 : firT σ0 (q + 1) = if fitT σ0 q = true ∧ cntT σ0 q = 0 then nI (100 * (q / 40) + (q % 40 + 1)) else firT σ0 q := rfl
    rw [e1, e2, hno]
    exact ⟨i1, i2⟩
abbrev Wthf (k i : Nat) : Prop := (k = 8 ∧ 10 ≤ i) ∨ (k = 22 ∧ 6 ≤ i)
def ThX (σ0 σ : Mm) (q : Nat) : Prop := (∃ th tk, Rd_ σ (evX σ0 (hB σ0) (sB σ0) (sf σ0) th tk)) ∧ Due σ0 σ (sN σ0) ∧ σ 22 6 = nI (cntT σ0 q) ∧ σ 22 7 = firT σ0 q
theorem Due.fr {σ0 σ σ' : Mm} {N : Nat} (h : Due σ0 σ N) (h4 : σ' 22 4 = σ 22 4) (h5 : σ' 22 5 = σ 22 5) (h25 : ∀ x, σ' 25 x = σ 25 x) : Due σ0 σ' N := by
  unfold Due at h ⊢
  simp only [h4, h5, h25]
  exact h
theorem eT_at (σ : Mm) {a v : Nat} (h1 : 1 ≤ v) (h2 : v ≤ 40) : evX σ (hB σ) (sB σ) (sf σ) (nI a) v = eT σ (40 * a + (v - 1)) := by
  unfold eT
  rw [show (40 * a + (v - 1)) / 40 = a by omega, show (40 * a + (v - 1)) % 40 + 1 = v by omega]
theorem thX31 {σ0 τ0 : Mm} (h : Core σ0 τ0) {a : Nat} (ha : a < 24) {K : Int32 → Mm → Option Mm} {P : Mm → Prop} {σs : Mm} (hK : ∀ σ, ThX σ0 σ (40 * (a + 1)) → Fr Wthf σs σ → σ 22 5 = 0 → ∃ σ', K (nI (a + 1)) σ = some σ' ∧ P σ') : ∀ (d n v : Nat), v + d = 41 → 1 ≤ v → d < n → ∀ σ, ThX σ0 σ (40 * a + (v - 1)) → Fr Wthf σs σ → σ 22 5 = 0 → ∃ σ', fX5_search_31 K n (nI a) (nI v) σ = some σ' ∧ P σ' := by
  intro d
  induction d with
  | zero =>
    intro n v hd hv hn σ hT hF h5
    obtain ⟨n, rfl⟩ : ∃ z, n = z + 1 := ⟨n - 1, by omega⟩
    obtain rfl : v = 41 := by omega
    rw [fX5_search_31, if_pos (by decide), nI_1]
    rw [show 40 * a + (41 - 1) = 40 * (a + 1) by omega] at hT
    exact hK σ hT hF h5
  | succ d ih =>
    intro n v hd hv hn σ hT hF h5
    obtain ⟨n, rfl⟩ : ∃ z, n = z + 1 := ⟨n - 1, by omega⟩
    obtain ⟨⟨th, tk, hR⟩, hD, h6, h7⟩ := hT
    obtain ⟨σ1, b1, b2, b3⟩ := hR.rob (nI a) v
    rw [robEv, eT_at σ0 hv (by omega)] at b3
    have hD1 : Due σ0 σ1 (sN σ0) := hD.fr (b2 22 4 (by simp)) (b2 22 5 (by simp)) (fun x => b2 25 x (by simp))
    obtain ⟨σ2, c1, c2⟩ := fitsX h b3 hD1 (by rw [b2 22 5 (by simp)]; exact h5)
    have F2 : Fr Wthf σ σ2 := (b2.mo fun k i q => Or.inl ⟨q.1, by omega⟩).tr (c2.mo fun k i q => Or.inl ⟨q.1, by omega⟩)
    have g22 : ∀ i, σ2 22 i = σ 22 i := fun i => by rw [c2 22 i (by simp), b2 22 i (by simp)]
    have g25 : ∀ i, σ2 25 i = σ 25 i := fun i => by rw [c2 25 i (by simp), b2 25 i (by simp)]
    have hD2 : Due σ0 σ2 (sN σ0) := hD.fr (g22 4) (g22 5) g25
    have hR2 := b3.w8 c2
    rw [← eT_at σ0 hv (by omega)] at hR2
    have hcb := cntT_b σ0 (40 * a + (v - 1))
    have e1 : cntT σ0 (40 * a + (v - 1) + 1) = cntT σ0 (40 * a + (v - 1)) + if fitT σ0 (40 * a + (v - 1)) then 1 else 0 := rfl
    have e2 : firT σ0 (40 * a + (v - 1) + 1) = if fitT σ0 (40 * a + (v - 1)) = true ∧ cntT σ0 (40 * a + (v - 1)) = 0 then nI (100 * ((40 * a + (v - 1)) / 40) + ((40 * a + (v - 1)) % 40 + 1)) else firT σ0 (40 * a + (v - 1)) := rfl
    rw [show (40 * a + (v - 1)) / 40 = a by omega, show (40 * a + (v - 1)) % 40 + 1 = v by omega] at e2
    rw [show 40 * a + (v - 1) + 1 = 40 * a + (v + 1 - 1) by omega] at e1 e2
    rw [fX5_search_31, show (40 : Int32) = nI 40 from rfl, iflt (by omega) (by omega), if_neg (by omega), b1, Option.bind_some, c1, Option.bind_some]
    simp only
    unfold fX5_search_72 fX5_search_85
    simp only [ms_lt]
    rw [nI_1]
    by_cases c : fitT σ0 (40 * a + (v - 1)) = true
    · rw [if_pos c, if_neg (by decide), g22, h6, g22, h7]
      rw [if_pos c] at e1
      have put : ∀ x : Int32, firT σ0 (40 * a + (v + 1 - 1)) = x → ∃ σ', fX5_search_31 K n (nI a) (nI (v + 1)) (ms_st (ms_st σ2 22 7 x) 22 6 (ms_st σ2 22 7 x 22 6 + 1)) = some σ' ∧ P σ' := fun x hx => by
        have r6 : ms_st σ2 22 7 x 22 6 + 1 = nI (cntT σ0 (40 * a + (v + 1 - 1))) := by rw [ms_rd, if_neg (by decide), g22, h6, nI_1, e1]
        rw [r6]
        have F3 : Fr (fun k i => k = 22 ∧ 6 ≤ i) σ2 (ms_st (ms_st σ2 22 7 x) 22 6 (nI (cntT σ0 (40 * a + (v + 1 - 1))))) := (Fr.rf.st _ ⟨rfl, by decide⟩).st _ ⟨rfl, by decide⟩
        refine ih n (v + 1) (by omega) (by omega) (by omega) _ ⟨⟨_, _, hR2.fr F3 (fun i hi q => by have := q.1; omega) (fun i q => by have := q.1; omega) (fun i q => by have := q.1; omega) (fun i q => by have := q.1; omega)⟩, hD2.fr (F3 22 4 (by simp)) (F3 22 5 (by simp)) (fun y => F3 25 y (by simp)), by rw [ms_rd, if_pos (by decide)], by rw [ms_rd, if_neg (by decide), ms_rd, if_pos (by decide)]; exact hx.symm⟩ ((hF.tr F2).tr (F3.mo fun k i q => Or.inr q)) (by rw [F3 22 5 (by simp), g22]; exact h5)
      by_cases d0 : cntT σ0 (40 * a + (v - 1)) = 0
      · rw [if_pos (by rw [d0]; rfl)]
        rw [if_pos ⟨c, d0⟩] at e2
        have := put _ e2
        rw [show (100 : Int32) * nI a + nI v = nI (100 * a + v) by rw [show (100 : Int32) = nI 100 from rfl, pk_mul, nI_add]]
        exact this
      · rw [if_neg (by rw [show (0 : Int32) = nI 0 from rfl, eq_nI (by omega) (by decide)]; exact d0)]
        rw [if_neg (fun z => d0 z.2)] at e2
        exact put _ e2
    · rw [if_neg c, if_pos (by decide)]
      rw [if_neg c, Nat.add_zero] at e1
      rw [if_neg (fun z => c z.1)] at e2
      exact ih n (v + 1) (by omega) (by omega) (by omega) σ2 ⟨⟨_, _, hR2⟩, hD2, by rw [g22, e1]; exact h6, by rw [g22, e2]; exact h7⟩ (hF.tr F2) (by rw [g22]; exact h5)
theorem thX16 {σ0 τ0 : Mm} (h : Core σ0 τ0) {σs : Mm} : ∀ (d n a : Nat), a + d = 24 → d < n → ∀ σ, ThX σ0 σ (40 * a) → Fr Wthf σs σ → σ 22 5 = 0 → ∃ σ', fX5_search_16 n (nI a) σ = some σ' ∧ Fr Wthf σs σ' ∧ σ' 22 8 = 1 ∧ σ' 22 6 = nI (cntT σ0 960) ∧ σ' 22 7 = firT σ0 960 := by
  intro d
  induction d with
  | zero =>
    intro n a hd hn σ hT hF h5
    obtain ⟨n, rfl⟩ : ∃ z, n = z + 1 := ⟨n - 1, by omega⟩
    obtain rfl : a = 24 := by omega
    rw [show 40 * 24 = 960 from rfl] at hT
    rw [fX5_search_16, if_pos (by decide)]
    simp only [ms_lt]
    exact ⟨_, rfl, hF.st _ (Or.inr ⟨rfl, by decide⟩), by rw [ms_rd, if_pos (by decide)], by rw [ms_rd, if_neg (by decide)]; exact hT.2.2.1, by rw [ms_rd, if_neg (by decide)]; exact hT.2.2.2⟩
  | succ d ih =>
    intro n a hd hn σ hT hF h5
    obtain ⟨n, rfl⟩ : ∃ z, n = z + 1 := ⟨n - 1, by omega⟩
    rw [fX5_search_16, show (24 : Int32) = nI 24 from rfl, ifle (by omega) (by omega), if_neg (by omega), if_pos h5]
    rw [show 40 * a = 40 * a + (1 - 1) by omega] at hT
    exact thX31 h (show a < 24 by omega) (fun σ1 hT1 hF1 h51 => ih n (a + 1) (by omega) (by omega) σ1 hT1 hF1 h51) 40 ms_fu 1 (by decide) (by decide) (fu_lt (by decide)) σ hT hF h5
theorem thiefX {σ τ : Mm} (h : Rel σ τ) {w : Nat} (hw : w < 2) : ∃ σ', fX7_thief (nI w) σ = some (if w = 0 then nI (cntT σ 960) else firT σ 960, σ') ∧ Rel σ' τ ∧ Fr Wscr σ σ' := by
  obtain ⟨hc, hd, hp, ht⟩ := id h
  have fin : ∀ σ', σ' 22 6 = nI (cntT σ 960) → σ' 22 7 = firT σ 960 → fX7_thief_48 (nI w) σ' = some (if w = 0 then nI (cntT σ 960) else firT σ 960, σ') := fun σ' h6 h7 => by
    unfold fX7_thief_48
    rcases (show w = 0 ∨ w = 1 by omega) with rfl | rfl
    · rw [if_pos (by decide), h6, if_pos rfl]
    · rw [if_neg (by decide), h7, if_neg (by decide)]
  unfold fX7_thief
  rw [w01 hw, Option.bind_some, if_neg (by decide)]
  rcases ht with t8 | ⟨t8, t6, t7⟩
  · rw [if_pos t8, hc.hb.2, hc.sb.2]
    obtain ⟨σ1, a1, a2, a3⟩ := readyX hc.tw hc.sw hc.hb.1 hc.sb.1 hc.2.2.2.2.1
    have g22 : ∀ i, σ1 22 i = σ 22 i := fun i => a2 22 i (by simp)
    obtain ⟨σ2, b1, b2, b3⟩ := layDueX hc.notes (σ := σ1) (g22 3) (fun j => a2 23 j (by simp)) (fun j => a2 24 j (by simp))
    have F0 : Fr (fun k i => k = 22 ∧ 6 ≤ i) σ2 (ms_st (ms_st σ2 22 6 0) 22 7 (-1)) := (Fr.rf.st _ ⟨rfl, by decide⟩).st _ ⟨rfl, by decide⟩
    have hD3 : Due σ (ms_st (ms_st σ2 22 6 0) 22 7 (-1)) (sN σ) := b3.fr (F0 22 4 (by simp)) (F0 22 5 (by simp)) (fun y => F0 25 y (by simp))
    have hR2 : Rd_ σ2 (evX σ (hB σ) (sB σ) (sf σ) (-1) 0) := a3.fr b2 (fun i hi q => by rcases q with q | q <;> omega) (fun i q => by rcases q with q | q <;> omega) (fun i q => by rcases q with q | q <;> omega) (fun i q => by rcases q with q | q <;> omega)
    have hR3 : Rd_ (ms_st (ms_st σ2 22 6 0) 22 7 (-1)) (evX σ (hB σ) (sB σ) (sf σ) (-1) 0) := hR2.fr F0 (fun i hi q => by have := q.1; omega) (fun i q => by have := q.1; omega) (fun i q => by have := q.1; omega) (fun i q => by have := q.1; omega)
    have srch : ∃ σ', fX5_search_16 ms_fu 0 (ms_st (ms_st σ2 22 6 0) 22 7 (-1)) = some σ' ∧ Fr Wthf (ms_st (ms_st σ2 22 6 0) 22 7 (-1)) σ' ∧ σ' 22 8 = 1 ∧ σ' 22 6 = nI (cntT σ 960) ∧ σ' 22 7 = firT σ 960 := by
      by_cases c : ms_st (ms_st σ2 22 6 0) 22 7 (-1) 22 5 = 0
      · exact thX16 hc 24 ms_fu 0 (by decide) (fu_lt (by decide)) _ ⟨⟨_, _, hR3⟩, hD3, by rw [ms_rd, if_neg (by decide), ms_rd, if_pos (by decide), Nat.mul_zero, show cntT σ 0 = 0 from rfl]; rfl, by rw [ms_rd, if_pos (by decide), Nat.mul_zero, show firT σ 0 = -1 from rfl]⟩ Fr.rf c
      · have c1 : ms_st (ms_st σ2 22 6 0) 22 7 (-1) 22 5 = 1 := by
          rcases id hD3 with ⟨z, -⟩ | ⟨z, -⟩
          · exact absurd z c
          · exact z
        obtain ⟨n1, n2⟩ := noT hc hD3 c1 960
        obtain ⟨n, hn⟩ : ∃ z, ms_fu = z + 1 := ⟨19999, rfl⟩
        rw [hn, fX5_search_16, if_neg (by decide), if_neg c]
        simp only [ms_lt]
        exact ⟨_, rfl, Fr.rf.st _ (Or.inr ⟨rfl, by decide⟩), by rw [ms_rd, if_pos (by decide)], by rw [ms_rd, if_neg (by decide), ms_rd, if_neg (by decide), ms_rd, if_pos (by decide), n1]; rfl, by rw [ms_rd, if_neg (by decide), ms_rd, if_pos (by decide), n2]⟩
    obtain ⟨σ4, d1, d2, d3, d4, d5⟩ := srch
    have F2 : Fr Wscr σ1 σ2 := b2.mo fun k i q => by
      rcases q with q | q
      · exact Or.inr (Or.inr (Or.inr (Or.inr (Or.inr (Or.inr (Or.inl ⟨q.1, by omega⟩))))))
      · exact Or.inr (Or.inr (Or.inr (Or.inr (Or.inr (Or.inr (Or.inr q))))))
    have F3 : Fr Wscr σ2 (ms_st (ms_st σ2 22 6 0) 22 7 (-1)) := F0.mo fun k i q => Or.inr (Or.inr (Or.inr (Or.inr (Or.inr (Or.inr (Or.inl ⟨q.1, by omega⟩))))))
    have F4 : Fr Wscr (ms_st (ms_st σ2 22 6 0) 22 7 (-1)) σ4 := d2.mo fun k i q => by
      rcases q with q | q
      · exact Or.inl ⟨q.1, by omega⟩
      · exact Or.inr (Or.inr (Or.inr (Or.inr (Or.inr (Or.inr (Or.inl ⟨q.1, by omega⟩))))))
    have F : Fr Wscr σ σ4 := (((a2.mo Wmr_scr).tr F2).tr F3).tr F4
    have out : ∀ k i, 12 ≤ k → k ≤ 21 → σ4 k i = σ k i := fun k i h1 h2 => by
      rw [d2 k i (fun q => by rcases q with q | q <;> omega), F0 k i (fun q => by omega), b2 k i (fun q => by rcases q with q | q <;> omega), a2 k i (fun q => by rcases q with q | q <;> omega)]
    refine ⟨σ4, ?_, ⟨hc.frX F, hd.fr F (out _ _ (by decide) (by decide)) (fun k i h1 h2 => out k i (by omega) (by omega)), hp.fr F (fun i => out _ _ (by decide) (by decide)) (fun i => out _ _ (by decide) (by decide)), Or.inr ⟨d3, by rw [cntT_fr F]; exact d4, by rw [firT_fr F]; exact d5⟩⟩, F⟩
    rw [a1, Option.bind_some]
    unfold fX5_search
    rw [b1, Option.bind_some]
    simp only [ms_lt]
    rw [d1, Option.bind_some]
    exact fin σ4 d4 d5
  · rw [if_neg (by rw [t8]; decide)]
    exact ⟨σ, fin σ t6 t7, h, Fr.rf⟩
/-- the reference's search -/
theorem thM39 {σ : Mm} {a : Nat} (ha : a < 24) {w : Int32} {K : Int32 → Int32 → Int32 → Int32 → Mm → Option (Int32 × Mm)} {P : Int32 → Mm → Prop} {τs : Mm} (hK : ∀ τ, Rdy σ τ (hB σ) → Fr Wrun τs τ → ∃ r τ', K w (nI (cntT σ (40 * (a + 1)))) (firT σ (40 * (a + 1))) (nI (a + 1)) τ = some (r, τ') ∧ P r τ') : ∀ (d n v : Nat), v + d = 41 → 1 ≤ v → d < n → ∀ τ, Rdy σ τ (hB σ) → Fr Wrun τs τ → ∃ r τ', fX8_thief_39 K n w (nI (cntT σ (40 * a + (v - 1)))) (firT σ (40 * a + (v - 1))) (nI a) (nI v) τ = some (r, τ') ∧ P r τ' := by
  intro d
  induction d with
  | zero =>
    intro n v hd hv hn τ hR hF
    obtain ⟨n, rfl⟩ : ∃ z, n = z + 1 := ⟨n - 1, by omega⟩
    obtain rfl : v = 41 := by omega
    rw [fX8_thief_39, if_pos (by decide), nI_1, show 40 * a + (41 - 1) = 40 * (a + 1) by omega]
    exact hK τ hR hF
  | succ d ih =>
    intro n v hd hv hn τ hR hF
    obtain ⟨n, rfl⟩ : ∃ z, n = z + 1 := ⟨n - 1, by omega⟩
    have h12 := hR.1.notes.2.1
    obtain ⟨τ1, f1, f2, f3, f4⟩ := hR.runs (w := 0) (N := 240) (tk := v) (by decide) (by decide) (by omega) (nI a)
    rw [Nat.or_zero, eT_at σ hv (by omega)] at f3
    have hu : fX8_unlikeBy τ1 = some (nI (unS σ (eT σ (40 * a + (v - 1))) (sN σ))) := unM4 hR.1.notes (eT_ok hR.1 _) (f2 0 25 (by simp)) (fun i => f2 22 i (by simp)) (fun i => f2 23 i (by simp)) f3 (sN σ) ms_fu 0 (by omega) (fu_lt (by omega))
    have hul := unS_le σ (eT σ (40 * a + (v - 1))) (sN σ)
    have hu0 := (unS_0 σ (eT σ (40 * a + (v - 1))) (sN σ)).trans (fitT_iff (σ := σ) (q := 40 * a + (v - 1))).symm
    have hcb := cntT_b σ (40 * a + (v - 1))
    have e1 : cntT σ (40 * a + (v - 1) + 1) = cntT σ (40 * a + (v - 1)) + if fitT σ (40 * a + (v - 1)) then 1 else 0 := rfl
    have e2 : firT σ (40 * a + (v - 1) + 1) = if fitT σ (40 * a + (v - 1)) = true ∧ cntT σ (40 * a + (v - 1)) = 0 then nI (100 * ((40 * a + (v - 1)) / 40) + ((40 * a + (v - 1)) % 40 + 1)) else firT σ (40 * a + (v - 1)) := rfl
    rw [show (40 * a + (v - 1)) / 40 = a by omega, show (40 * a + (v - 1)) % 40 + 1 = v by omega] at e2
    rw [show 40 * a + (v - 1) + 1 = 40 * a + (v + 1 - 1) by omega] at e1 e2
    have hih := ih n (v + 1) (by omega) (by omega) (by omega) τ1 f4 (hF.tr f2)
    rw [fX8_thief_39, show (41 : Int32) = nI 41 from rfl, ifle (by omega) (by omega), if_neg (by omega), show fX8_runs 240 0 (nI a) (nI v) τ = some τ1 from f1, Option.bind_some, hu, Option.bind_some]
    unfold fX8_thief_70 fX8_thief_83 fX8_thief_107 fX8_thief_109
    rw [nI_1]
    by_cases c : fitT σ (40 * a + (v - 1)) = true
    · rw [if_pos (by rw [hu0.2 c]; rfl), if_neg (by decide), if_neg (by decide), nI_1]
      rw [if_pos c] at e1
      rw [← e1]
      rcases firT_c σ (40 * a + (v - 1)) (by omega) with ⟨z1, z2⟩ | ⟨z1, x, z2, z3⟩
      · rw [if_pos z2]
        rw [if_pos ⟨c, z1⟩] at e2
        rw [show (100 : Int32) * nI a + nI v = nI (100 * a + v) by rw [show (100 : Int32) = nI 100 from rfl, pk_mul, nI_add], ← e2]
        exact hih
      · rw [if_neg (by rw [z3]; exact m1_ne (by omega))]
        rw [if_neg (fun z => z1 z.2)] at e2
        rw [← e2]
        exact hih
    · rw [if_neg (by rw [show (0 : Int32) = nI 0 from rfl, eq_nI (by omega) (by decide)]; exact fun z => c (hu0.1 z)), if_pos (by decide), if_pos (by decide), Int32.add_zero]
      rw [if_neg c] at e1
      replace e1 := e1.trans (Nat.add_zero _)
      rw [if_neg (fun z => c z.1)] at e2
      rw [← e1, ← e2]
      exact hih
theorem thM29 {σ : Mm} {w : Nat} (hw : w < 2) {τs : Mm} : ∀ (d n a : Nat), a + d = 24 → d < n → ∀ τ, Rdy σ τ (hB σ) → Fr Wrun τs τ → ∃ r τ', fX8_thief_29 n (nI w) (nI (cntT σ (40 * a))) (firT σ (40 * a)) (nI a) τ = some (r, τ') ∧ r = (if w = 0 then nI (cntT σ 960) else firT σ 960) ∧ Fr Wrun τs τ' := by
  intro d
  induction d with
  | zero =>
    intro n a hd hn τ hR hF
    obtain ⟨n, rfl⟩ : ∃ z, n = z + 1 := ⟨n - 1, by omega⟩
    obtain rfl : a = 24 := by omega
    rw [fX8_thief_29, if_pos (by decide), show 40 * 24 = 960 from rfl]
    rcases (show w = 0 ∨ w = 1 by omega) with rfl | rfl
    · rw [if_pos (by decide)]; exact ⟨_, _, rfl, (if_pos rfl).symm, hF⟩
    · rw [if_neg (by decide)]; exact ⟨_, _, rfl, (if_neg (by decide)).symm, hF⟩
  | succ d ih =>
    intro n a hd hn τ hR hF
    obtain ⟨n, rfl⟩ : ∃ z, n = z + 1 := ⟨n - 1, by omega⟩
    rw [fX8_thief_29, show (24 : Int32) = nI 24 from rfl, ifle (by omega) (by omega), if_neg (by omega), show 40 * a = 40 * a + (1 - 1) by omega]
    exact thM39 (show a < 24 by omega) (fun τ1 hR1 hF1 => ih n (a + 1) (by omega) (by omega) τ1 hR1 hF1) 40 ms_fu 1 (by decide) (by decide) (fu_lt (by decide)) τ hR hF
theorem s_thief {σ τ : Mm} (h : Rel σ τ) (p0 : Int32) : ∃ (r : Int32) (σ' τ' : Mm), fX7_thief p0 σ = some (r, σ') ∧ fX8_thief p0 τ = some (r, τ') ∧ Rel σ' τ' := by
  rcases wi_cases p0 (a := 0) (b := 1) (by decide) (by decide) with e | ⟨w, -, e2, rfl, e4⟩
  · refine ⟨-2, σ, τ, ?_, ?_, h⟩
    · unfold fX7_thief
      rw [show fX7_within p0 0 1 = some 0 from e, Option.bind_some, if_pos rfl]
    · unfold fX8_thief
      rw [in_same, show fX7_within p0 0 1 = some 0 from e, Option.bind_some, if_pos rfl]
  · obtain ⟨σ1, a1, a2, a3⟩ := thiefX h (w := w) (by omega)
    obtain ⟨x, τ1, τ2, e1, e2', e3, e5⟩ := readyM h.1
    obtain ⟨r, τ3, b1, hr, b3⟩ := thM29 (σ := σ) (w := w) (by omega) (τs := τ2) 24 ms_fu 0 (by decide) (fu_lt (by decide)) τ2 e5 Fr.rf
    rw [Nat.mul_zero, show cntT σ 0 = 0 from rfl, show firT σ 0 = -1 from rfl] at b1
    rw [hr] at b1
    refine ⟨_, σ1, τ3, a1, ?_, a2.frM (e3.tr (b3.mo Wrun_ms))⟩
    unfold fX8_thief
    rw [in_same, show fX7_within (nI w) 0 1 = some 1 from e4, Option.bind_some, if_neg (by decide), e1, Option.bind_some]
    simp only
    rw [e2', Option.bind_some]
    exact b1
