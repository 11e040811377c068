/-! ===== the digest ===== -/
abbrev DgR (T G : Nat) (σ τ : Mm) : Prop := Rel σ τ ∧ TR σ τ (hB σ) ∧ tN σ = T ∧ gN σ = G
abbrev DgO (x y : Option (Int64 × Mm)) : Prop := ∃ (r : Int64) (σ' τ' : Mm), x = some (r, σ') ∧ y = some (r, τ') ∧ Rel σ' τ'
theorem DgR.on {T G : Nat} {σ τ σ' τ' : Mm} (h : DgR T G σ τ) (h1 : Rel σ' τ') (h2 : Fr Wscr σ σ') (h3 : TR σ' τ' (hB σ')) : DgR T G σ' τ' := ⟨h1, h3, by rw [tN_fr h2]; exact h.2.2.1, by rw [gN_fr h2]; exact h.2.2.2⟩
theorem dig59 {T G t : Nat} (ht : t < T) {K : Int64 → Int32 → Mm → Option (Int64 × Mm)} {L : Int64 → Int32 → Mm → Option (Int64 × Mm)} (hK : ∀ y σ τ, DgR T G σ τ → DgO (K y (nI (t + 1)) σ) (L y (nI (t + 1)) τ)) : ∀ (d n w : Nat), w + d = 6 → d < n → ∀ (y : Int64) (σ τ : Mm), DgR T G σ τ → DgO (fX7_digest_59 K n y (nI t) (nI w) σ) (fX8_digest_56 L n y (nI t) (nI w) τ) := by
  intro d
  induction d with
  | zero =>
    intro n w hd hn y σ τ h
    obtain ⟨n, rfl⟩ : ∃ z, n = z + 1 := ⟨n - 1, by omega⟩
    obtain rfl : w = 6 := by omega
    obtain ⟨r, σ1, τ1, a1, a2, a3, a4, a5⟩ := stood_s h.1 (t := t) (d := 2) (by rw [h.2.2.1]; exact ht) (by decide) (by decide)
    have c1 : (5 : Int32) < nI 6 := by decide
    have c2 : (6 : Int32) ≤ nI 6 := by decide
    rw [fX7_digest_59, fX8_digest_56, if_pos c1, if_pos c2, show fX7_stood (nI t) 2 σ = _ from a1, show fX8_stoodOf (nI t) 2 τ = _ from a2, Option.bind_some, Option.bind_some]
    simp only [ms_lt]
    rw [nI_1]
    exact hK _ σ1 τ1 (h.on a3 a4 a5)
  | succ d ih =>
    intro n w hd hn y σ τ h
    obtain ⟨n, rfl⟩ : ∃ z, n = z + 1 := ⟨n - 1, by omega⟩
    obtain ⟨r, a1, a2⟩ := thingOf_s h.1.1 h.2.1 (t := t) (w := w) (by rw [h.2.2.1]; exact ht) (by omega)
    rw [fX7_digest_59, fX8_digest_56, show (5 : Int32) = nI 5 from rfl, show (6 : Int32) = nI 6 from rfl, iflt (by decide) (by omega), if_neg (by omega), ifle (by decide) (by omega), if_neg (by omega), a1, a2, Option.bind_some, Option.bind_some]
    simp only [ms_lt]
    rw [nI_1]
    exact ih n (w + 1) (by omega) (by omega) _ σ τ h
theorem dig207 {T G k : Nat} (hk : k < 240) {i : Nat} {n : Nat} {L : Int64 → Int32 → Mm → Option (Int64 × Mm)} (hK : ∀ y σ τ, DgR T G σ τ → DgO (fX7_digest_175 n y 5 (nI (i + 1)) σ) (L y (nI (i + 1)) τ)) (y : Int64) (σ τ : Mm) (h : DgR T G σ τ) : DgO ((fX7_level (nI k) 0 σ).bind (fun (r37, σ38) => ms_lt ((31 * y) + (((r37 : Int32)).toInt64)) (fun x39 => (fX7_level (nI k) 1 σ38).bind (fun (r41, σ42) => ms_lt ((31 * x39) + (((r41 : Int32)).toInt64)) (fun x43 => (fX7_flow (nI k) σ42).bind (fun (r45, σ46) => ms_lt ((31 * x43) + (((r45 : Int32)).toInt64)) (fun x47 => fX7_digest_175 n x47 5 (nI i + 1) σ46))))))) (fX8_digest_207 L y (nI i) (nI k) τ) := by
  obtain ⟨r1, σ1, τ1, a1, a2, a3, a4, a5⟩ := lev_s h.1 (w := 0) hk (by decide)
  have h1 := h.on a3 a4 a5
  obtain ⟨r2, σ2, τ2, b1, b2, b3, b4, b5⟩ := lev_s h1.1 (w := 1) hk (by decide)
  have h2 := h1.on b3 b4 b5
  obtain ⟨r3, σ3, τ3, c1, c2, c3, c4, c5⟩ := flow_s h2.1 hk
  unfold fX8_digest_207
  rw [show fX7_level (nI k) 0 σ = _ from a1, show fX8_levelOf (nI k) 0 τ = _ from a2, Option.bind_some, Option.bind_some]
  simp only [ms_lt]
  rw [show fX7_level (nI k) 1 σ1 = _ from b1, show fX8_levelOf (nI k) 1 τ1 = _ from b2, Option.bind_some, Option.bind_some]
  simp only
  rw [c1, c2, Option.bind_some, Option.bind_some]
  simp only
  rw [nI_1]
  exact hK _ σ3 τ3 (h2.on c3 c4 c5)
theorem digEnd {T G : Nat} (y : Int64) (σ τ : Mm) (h : DgR T G σ τ) (n m : Nat) : DgO (fX7_digest_175 (n + 1) y 5 5 σ) (fX8_digest_161 (m + 1) y 5 τ) := by
  obtain ⟨r1, σ1, τ1, a1, a2, a3, a4, a5⟩ := lost_s h.1 (d := 2) (by decide) (by decide)
  have h1 := h.on a3 a4 a5
  obtain ⟨r2, σ2, τ2, b1, b2, b3, b4, b5⟩ := worst_s h1.1 (d := 3) (w := 0) (by decide) (by decide) (by decide)
  have h2 := h1.on b3 b4 b5
  obtain ⟨r3, σ3, τ3, c1, c2, c3, c4, c5⟩ := worst_s h2.1 (d := 3) (w := 1) (by decide) (by decide) (by decide)
  have h3 := h2.on c3 c4 c5
  obtain ⟨r4, σ4, τ4, d1, d2, d3, d4, d5⟩ := few_s h3.1 (d := 2) (by decide) (by decide)
  have h4 := h3.on d3 d4 d5
  obtain ⟨r5, σ5, τ5, e1, e2, e3, e4, e5⟩ := place_s h4.1 (d := 2) (w := 0) (by decide) (by decide) (by decide)
  have h5 := h4.on e3 e4 e5
  obtain ⟨r6, σ6, τ6, f1, f2, f3, f4, f5⟩ := place_s h5.1 (d := 2) (w := 1) (by decide) (by decide) (by decide)
  have h6 := h5.on f3 f4 f5
  obtain ⟨r7, σ7, τ7, g1, g2, g3, g4, g5⟩ := lasts_s h6.1
  have h7 := h6.on g3 g4 g5
  obtain ⟨r8, σ8, τ8, i1, i2, i3, i4, i5⟩ := unlike_s h7.1
  have h8 := h7.on i3 i4 i5
  obtain ⟨r9, σ9, τ9, j1, j2, j3, j4, j5⟩ := rob_s h8.1 (a := 9) (v := 5) (k := 47) (by decide) (by decide) (by decide)
  have k5 : (5 : Int32) ≤ 5 := by decide
  rw [fX7_digest_175, fX8_digest_161, if_pos k5, if_pos k5, show fX7_lost 2 σ = _ from a1, show fX8_lostOf 2 τ = _ from a2, Option.bind_some, Option.bind_some]
  simp only [ms_lt]
  rw [show fX7_worst 3 0 σ1 = _ from b1, show fX8_worstOf 3 0 τ1 = _ from b2, Option.bind_some, Option.bind_some]
  simp only
  rw [show fX7_worst 3 1 σ2 = _ from c1, show fX8_worstOf 3 1 τ2 = _ from c2, Option.bind_some, Option.bind_some]
  simp only
  rw [show fX7_fewest 2 σ3 = _ from d1, show fX8_fewestOf 2 τ3 = _ from d2, Option.bind_some, Option.bind_some]
  simp only
  rw [show fX7_place 2 0 σ4 = _ from e1, show fX8_placeOf 2 0 τ4 = _ from e2, Option.bind_some, Option.bind_some]
  simp only
  rw [show fX7_place 2 1 σ5 = _ from f1, show fX8_placeOf 2 1 τ5 = _ from f2, Option.bind_some, Option.bind_some]
  simp only
  rw [g1, g2, Option.bind_some, Option.bind_some]
  simp only
  rw [i1, i2, Option.bind_some, Option.bind_some]
  simp only
  rw [show fX7_robbed 9 5 47 σ8 = _ from j1, show fX8_robbedOf 9 5 47 τ8 = _ from j2, Option.bind_some, Option.bind_some]
  exact ⟨_, σ9, τ9, rfl, rfl, j3⟩
theorem dh_tab : ∀ i, i < 5 → ms_dh i = nI (ms_ix (ms_dh i)) ∧ ms_ix (ms_dh i) < 240 ∧ (if nI i = 0 then (0 : Int32) else if nI i = 1 then 7 else if nI i = 2 then 23 else if nI i = 3 then 100 else 239) = ms_dh i := by decide
theorem dig161c {i n : Nat} (hi : i < 5) (y : Int64) (τ : Mm) : fX8_digest_161 (n + 1) y (nI i) τ = fX8_digest_207 (fX8_digest_161 n) y (nI i) (ms_dh i) τ := by
  obtain ⟨-, -, t3⟩ := dh_tab i hi
  rw [fX8_digest_161, show (5 : Int32) = nI 5 from rfl, ifle (by decide) (by omega), if_neg (by omega), ← t3]
  by_cases c0 : nI i = 0
  · rw [if_pos c0, if_pos c0]
  by_cases c1 : nI i = 1
  · rw [if_neg c0, if_pos c1, if_neg c0, if_pos c1]
  by_cases c2 : nI i = 2
  · rw [if_neg c0, if_neg c1, if_pos c2, if_neg c0, if_neg c1, if_pos c2]
  by_cases c3 : nI i = 3
  · rw [if_neg c0, if_neg c1, if_neg c2, if_pos c3, if_neg c0, if_neg c1, if_neg c2, if_pos c3]
  · rw [if_neg c0, if_neg c1, if_neg c2, if_neg c3, if_neg c0, if_neg c1, if_neg c2, if_neg c3]
theorem dig175 {T G : Nat} : ∀ (d n i : Nat), i + d = 5 → d < n → ∀ (y : Int64) (σ τ : Mm), DgR T G σ τ → DgO (fX7_digest_175 n y 5 (nI i) σ) (fX8_digest_161 n y (nI i) τ) := by
  intro d
  induction d with
  | zero =>
    intro n i hd hn y σ τ h
    obtain ⟨n, rfl⟩ : ∃ z, n = z + 1 := ⟨n - 1, by omega⟩
    obtain rfl : i = 5 := by omega
    exact digEnd y σ τ h n n
  | succ d ih =>
    intro n i hd hn y σ τ h
    obtain ⟨n, rfl⟩ : ∃ z, n = z + 1 := ⟨n - 1, by omega⟩
    obtain ⟨t1, t2, -⟩ := dh_tab i (by omega)
    have k5 : ¬ (5 : Int32) ≤ nI i := by rw [show (5 : Int32) = nI 5 from rfl, le_nI (by decide) (by omega)]; omega
    rw [dig161c (by omega), fX7_digest_175, if_neg k5, ms_g_t (in_nI (by omega) (by decide)), ix_nI (by omega), t1]
    exact dig207 t2 (fun y' σ' τ' h' => ih n (i + 1) (by omega) (by omega) y' σ' τ' h') y σ τ h
theorem dig108 {T G : Nat} (hG : G ≤ 8) : ∀ (d n g : Nat), g + d = G → d < n → ∀ (y : Int64) (σ τ : Mm), DgR T G σ τ → DgO (fX7_digest_108 n y (nI g) σ) (fX8_digest_106 n y (nI g) τ) := by
  intro d
  induction d with
  | zero =>
    intro n g hd hn y σ τ h
    obtain ⟨n, rfl⟩ : ∃ z, n = z + 1 := ⟨n - 1, by omega⟩
    obtain rfl : g = G := by omega
    obtain ⟨r1, τ1, a1, a2, a3, a4⟩ := toilOf_s h.1.1 (a := 0) (by decide)
    have h1 : DgR T g σ τ1 := ⟨h.1.frM a3, a4, h.2.2.1, h.2.2.2⟩
    obtain ⟨r2, τ2, b1, b2, b3, b4⟩ := toilOf_s h1.1.1 (a := 1) (by decide)
    have h2 : DgR T g σ τ2 := ⟨h1.1.frM b3, b4, h.2.2.1, h.2.2.2⟩
    have e1 : σ 1 5 = nI g := by rw [h.1.1.tw.2.2.1, h.2.2.2]
    have e2 : τ 0 11 = nI g := by rw [h.2.1.2.1, h.2.2.2]
    rw [fX7_digest_108, fX8_digest_106, e1, e2, ifle (by omega) (by omega), if_pos (Nat.le_refl _), ifle (by omega) (by omega), if_pos (Nat.le_refl _), show fX7_toil σ 0 = _ from a1, show fX8_toilOf 0 τ = _ from a2, Option.bind_some, Option.bind_some]
    simp only [ms_lt]
    rw [show fX7_toil σ 1 = _ from b1, show fX8_toilOf 1 τ1 = _ from b2, Option.bind_some, Option.bind_some]
    simp only
    exact dig175 5 ms_fu 0 (by decide) (fu_lt (by decide)) _ σ τ2 h2
  | succ d ih =>
    intro n g hd hn y σ τ h
    obtain ⟨n, rfl⟩ : ∃ z, n = z + 1 := ⟨n - 1, by omega⟩
    obtain ⟨r, a1, a2⟩ := goesOf_s h.1.1 h.2.1 (g := g) (by rw [h.2.2.2]; omega)
    have e1 : σ 1 5 = nI G := by rw [h.1.1.tw.2.2.1, h.2.2.2]
    have e2 : τ 0 11 = nI G := by rw [h.2.1.2.1, h.2.2.2]
    rw [fX7_digest_108, fX8_digest_106, e1, e2, ifle (by omega) (by omega), if_neg (by omega), ifle (by omega) (by omega), if_neg (by omega), a1, a2, Option.bind_some, Option.bind_some]
    simp only [ms_lt]
    rw [nI_1]
    exact ih n (g + 1) (by omega) (by omega) _ σ τ h
theorem dig45 {T G : Nat} (hT : T ≤ 6) (hG : G ≤ 8) : ∀ (d n t : Nat), t + d = T → d < n → ∀ (y : Int64) (σ τ : Mm), DgR T G σ τ → DgO (fX7_digest_45 n y (nI t) σ) (fX8_digest_45 n y (nI t) τ) := by
  intro d
  induction d with
  | zero =>
    intro n t hd hn y σ τ h
    obtain ⟨n, rfl⟩ : ∃ z, n = z + 1 := ⟨n - 1, by omega⟩
    obtain rfl : t = T := by omega
    have e1 : σ 1 4 = nI t := by rw [h.1.1.tw.1, h.2.2.1]
    have e2 : τ 0 3 = nI t := by rw [h.2.1.1, h.2.2.1]
    rw [fX7_digest_45, fX8_digest_45, e1, e2, ifle (by omega) (by omega), if_pos (Nat.le_refl _), ifle (by omega) (by omega), if_pos (Nat.le_refl _)]
    exact dig108 hG G ms_fu 0 (by omega) (fu_lt (by omega)) y σ τ h
  | succ d ih =>
    intro n t hd hn y σ τ h
    obtain ⟨n, rfl⟩ : ∃ z, n = z + 1 := ⟨n - 1, by omega⟩
    have e1 : σ 1 4 = nI T := by rw [h.1.1.tw.1, h.2.2.1]
    have e2 : τ 0 3 = nI T := by rw [h.2.1.1, h.2.2.1]
    rw [fX7_digest_45, fX8_digest_45, e1, e2, ifle (by omega) (by omega), if_neg (by omega), ifle (by omega) (by omega), if_neg (by omega)]
    exact dig59 (show t < T by omega) (fun y' σ' τ' h' => ih n (t + 1) (by omega) (by omega) y' σ' τ' h') 6 ms_fu 0 (by decide) (fu_lt (by decide)) y σ τ h
theorem dig6 {σ : Mm} : ∀ (d n c : Nat), c + d = 8 → d < n → ∀ (y : Int64) (τ : Mm), Rel σ τ → DgO (fX7_digest_6 n y (nI c) σ) (fX8_digest_6 n y (nI c) τ) := by
  intro d
  induction d with
  | zero =>
    intro n c hd hn y τ h
    obtain ⟨n, rfl⟩ : ∃ z, n = z + 1 := ⟨n - 1, by omega⟩
    obtain rfl : c = 8 := by omega
    obtain ⟨τ1, a1, a2, a3⟩ := fnowM h.1
    have k1 : (7 : Int32) < nI 8 := by decide
    have k2 : (8 : Int32) ≤ nI 8 := by decide
    rw [fX7_digest_6, fX8_digest_6, if_pos k1, if_pos k2, a1, Option.bind_some]
    unfold fX7_fault
    rw [Option.bind_some]
    simp only [ms_lt]
    have h6 := h.1.tw.2.1
    have h8 := h.1.tw.2.2.2.1
    exact dig45 h6 h8 (tN σ) ms_fu 0 (by omega) (fu_lt (by omega)) _ σ τ1 ⟨h.frM a2, a3, rfl, rfl⟩
  | succ d ih =>
    intro n c hd hn y τ h
    obtain ⟨n, rfl⟩ : ∃ z, n = z + 1 := ⟨n - 1, by omega⟩
    obtain ⟨r, τ1, a1, a2, a3⟩ := s_count h (nI c)
    rw [fX7_digest_6, fX8_digest_6, show (7 : Int32) = nI 7 from rfl, show (8 : Int32) = nI 8 from rfl, iflt (by decide) (by omega), if_neg (by omega), ifle (by decide) (by omega), if_neg (by omega), a1, a2, Option.bind_some, Option.bind_some]
    simp only [ms_lt]
    rw [nI_1]
    exact ih n (c + 1) (by omega) (by omega) _ τ1 a3
theorem s_digest {σ τ : Mm} (h : Rel σ τ) : ∃ (r : Int64) (σ' τ' : Mm), fX7_digest σ = some (r, σ') ∧ fX8_digest τ = some (r, τ') ∧ Rel σ' τ' :=
  dig6 8 ms_fu 0 (by decide) (fu_lt (by decide)) 17 τ h
