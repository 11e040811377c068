/-! ===== place ===== -/
set_option maxRecDepth 100000 in
theorem pl_or : ∀ s, s < 9 → ∀ b, b < 512 → nI b ||| ms_shl 1 (nI s) = nI (b ||| 2 ^ s) ∧ b ||| 2 ^ s < 512 := by decide +kernel
theorem placeXM {σ0 : Mm} {D w : Nat} (h1 : 1 ≤ D) (h9 : D ≤ 9) : ∀ (d n s : Nat), s + d = 9 → d < n → ∀ (σ τ : Mm) (a b : Int32) (hb : Nat), Core σ0 τ → TR σ0 τ hb → Fr Wspr σ0 σ → ∃ r σ' τ', fX7_place_27 n (nI D) (nI w) a b (nI s) σ = some (r, σ') ∧ fX8_placeOf_20 n (nI D) (nI w) (nI (hB σ0)) a b (nI s) τ = some (r, τ') ∧ Fr Wspr σ0 σ' ∧ Fr Wms τ τ' ∧ TR σ0 τ' (hB σ0) := by
  intro d
  induction d with
  | zero =>
    intro n s hd hn σ τ a b hb hc hT hF
    obtain ⟨n, rfl⟩ : ∃ z, n = z + 1 := ⟨n - 1, by omega⟩
    obtain rfl : s = 9 := by omega
    have FM : Fr Wms τ (ms_st τ 0 10 (nI (hB σ0))) := Fr.rf.st _ (Or.inl ⟨rfl, by decide⟩)
    have hT' : TR σ0 (ms_st τ 0 10 (nI (hB σ0))) (hB σ0) := by
      obtain ⟨t1, t2, t3, t4, t5⟩ := hT
      refine ⟨by rw [ms_rd, if_neg (by decide)]; exact t1, by rw [ms_rd, if_neg (by decide)]; exact t2, by rw [ms_rd, if_pos (by decide)], fun t ht => ?_, fun g hg => ?_⟩
      · simp only [ms_rd]; simp; exact t4 t ht
      · simp only [ms_rd]; simp; exact t5 g hg
    rw [fX7_place_27, fX8_placeOf_20, if_pos (show (9 : Int32) ≤ nI 9 by decide), if_pos (show (9 : Int32) ≤ nI 9 by decide)]
    simp only [ms_lt]
    by_cases c : nI w = 0
    · rw [if_pos c, if_pos c]
      exact ⟨_, _, _, rfl, rfl, hF, FM, hT'⟩
    · rw [if_neg c, if_neg c]
      exact ⟨_, _, _, rfl, rfl, hF, FM, hT'⟩
  | succ d ih =>
    intro n s hd hn σ τ a b hb hc hT hF
    obtain ⟨n, rfl⟩ : ∃ z, n = z + 1 := ⟨n - 1, by omega⟩
    have hFs := hF.mo Wspr_scr
    have hh := hc.hb.1
    have b2 := bt_2 (hB σ0) s
    have c9 : ¬ (9 : Int32) ≤ nI s := by rw [show (9 : Int32) = nI 9 from rfl, le_nI (by decide) (by omega)]; omega
    rw [fX7_place_27, fX8_placeOf_20, if_neg c9, if_neg c9, fr_1 hFs, hc.hb.2, bit_X (by omega) (by omega), isIn_M (by omega) (by omega), Option.bind_some, Option.bind_some]
    rcases (show bt (hB σ0) s = 0 ∨ bt (hB σ0) s = 1 by omega) with p | p
    · rw [p, if_pos (by decide), if_pos (by decide)]
      obtain ⟨o1, o2⟩ := pl_or s (by omega) (hB σ0) hh
      rw [o1]
      simp only [ms_lt]
      -- the class
      obtain ⟨σ1, a1, a2, a3⟩ := readyX (hc.tw.fr hFs) (hc.sw.fr hFs) (hb := hB σ0 ||| 2 ^ s) (sb := sB σ0) o2 hc.sb.1 (fun t ht => by rw [fr_6 hFs]; exact hc.2.2.2.2.1 t ht)
      rw [evX_fr hFs, sf_fun hFs] at a3
      have hE := evX_ok hc.tw hc.sw (hB σ0 ||| 2 ^ s) (sB σ0) (sf σ0) (-1) (tk := 0) (by decide)
      obtain ⟨σ2, b1, b2'⟩ := leastX hE a3 (N := 24 * D) (by omega)
      have F2 : Fr Wspr σ0 σ2 := (hF.tr (a2.mo Wmr_spr)).tr (b2'.mo W8_spr)
      -- the reference
      generalize hτ1 : ms_st τ 0 10 (nI (hB σ0 ||| 2 ^ s)) = τ1
      have FM1 : Fr Wms τ τ1 := by rw [← hτ1]; exact Fr.rf.st _ (Or.inl ⟨rfl, by decide⟩)
      have hT1 : TR σ0 τ1 (hB σ0 ||| 2 ^ s) := by
        obtain ⟨t1, t2, t3, t4, t5⟩ := hT
        rw [← hτ1]
        refine ⟨by rw [ms_rd, if_neg (by decide)]; exact t1, by rw [ms_rd, if_neg (by decide)]; exact t2, by rw [ms_rd, if_pos (by decide)], fun t ht => ?_, fun g hg => ?_⟩
        · simp only [ms_rd]; simp; exact t4 t ht
        · simp only [ms_rd]; simp; exact t5 g hg
      have hc1 := hc.frM FM1
      obtain ⟨τ2, e1, e2, e3⟩ := windsM hc.tw hc.sw o2 hT1 hc1.sr
      have FM2 : Fr Wms τ1 τ2 := e2.mo fun k i q => Or.inr (Or.inr (Or.inl (by omega)))
      have hR2 : Rdy σ0 τ2 (hB σ0 ||| 2 ^ s) := ⟨hc1.frM FM2, hT1.fr e2 (by decide) (by decide) (by decide) (fun k i p q r z => by omega), e3⟩
      obtain ⟨τ3, f1, f2, f3, f4⟩ := hR2.runs (w := 0) (N := 24 * D) (tk := 0) (by decide) (by omega) (by decide) (-1)
      rw [Nat.or_zero] at f3
      have FM3 : Fr Wms τ τ3 := (FM1.tr FM2).tr (f2.mo Wrun_ms)
      have hwb := wst_b (evX σ0 (hB σ0 ||| 2 ^ s) (sB σ0) (sf σ0) (-1) 0) (24 * D - 1)
      have hwm := wst_m hE (24 * D - 1)
      rw [show 24 * D - 1 + 1 = 24 * D by omega] at hwm
      have x2 : fX8_worstBy τ3 (nI D) = some (nI (wst (evX σ0 (hB σ0 ||| 2 ^ s) (sB σ0) (sf σ0) (-1) 0) (24 * D - 1))) := worstM4 hE f3 h1 (by omega) (24 * D - 1) ms_fu 0 (by omega) (fu_lt (by omega))
      rw [(fr_0 hFs 3).trans hc.sb.2, a1, Option.bind_some, show nI D * 24 = nI (24 * D) by rw [show (24 : Int32) = nI 24 from rfl, pk_mul, Nat.mul_comm], b1, Option.bind_some, e1, Option.bind_some, show (24 : Int32) * nI D = nI (24 * D) by rw [show (24 : Int32) = nI 24 from rfl, pk_mul], show fX8_runs (nI (24 * D)) 0 (-1) 0 τ2 = some τ3 from f1, Option.bind_some, x2, Option.bind_some, ms_g_t (in_nI (by omega) (by decide)), ix_nI (by omega), (f3 _ (by omega)).1, hwm]
      simp only [fX7_place_96, fX8_placeOf_89, fX8_placeOf_105, fX8_placeOf_107]
      rw [nI_1]
      by_cases c : nI (mnl (evX σ0 (hB σ0 ||| 2 ^ s) (sB σ0) (sf σ0) (-1) 0) (24 * D)) ≤ b
      · rw [if_pos c, if_pos c, if_pos c]
        obtain ⟨r, σ', τ', q1, q2, q3, q4, q5⟩ := ih n (s + 1) (by omega) (by omega) σ2 τ3 a b _ f4.1 f4.2.1 F2
        exact ⟨r, σ', τ', q1, q2, q3, FM3.tr q4, q5⟩
      · rw [if_neg c, if_neg c, if_neg c]
        obtain ⟨r, σ', τ', q1, q2, q3, q4, q5⟩ := ih n (s + 1) (by omega) (by omega) σ2 τ3 (nI s) (nI (mnl (evX σ0 (hB σ0 ||| 2 ^ s) (sB σ0) (sf σ0) (-1) 0) (24 * D))) _ f4.1 f4.2.1 F2
        exact ⟨r, σ', τ', q1, q2, q3, FM3.tr q4, q5⟩
    · rw [p, if_neg (by decide), if_neg (by decide)]
      unfold fX7_place_96 fX8_placeOf_107
      rw [nI_1]
      exact ih n (s + 1) (by omega) (by omega) σ τ a b hb hc hT hF
theorem place_s {σ τ : Mm} (h : Rel σ τ) {d w : Nat} (h1 : 1 ≤ d) (h9 : d ≤ 9) (hw : w < 2) : ∃ (r : Int32) (σ' τ' : Mm), fX7_place (nI d) (nI w) σ = some (r, σ') ∧ fX8_placeOf (nI d) (nI w) τ = some (r, τ') ∧ Rel σ' τ' ∧ Fr Wscr σ σ' ∧ TR σ' τ' (hB σ') := by
  obtain ⟨τ1, a1, a2, a3⟩ := fnowM h.1
  obtain ⟨r, σ', τ', q1, q2, q3, q4, q5⟩ := placeXM (w := w) h1 h9 9 ms_fu 0 (by decide) (fu_lt (by decide)) σ τ1 (-1) (-1) (hB σ) (h.1.frM a2) a3 Fr.rf
  have FS := q3.mo Wspr_scr
  refine ⟨r, σ', τ', ?_, ?_, (h.spr q3 (fun k i q => q)).frM (a2.tr q4), FS, ?_⟩
  · unfold fX7_place
    rw [days_1 h1 h9, Option.bind_some, if_neg (by decide), w01 hw, Option.bind_some, if_neg (by decide)]
    exact q1
  · unfold fX8_placeOf
    rw [a1, Option.bind_some]
    simp only
    rw [a3.2.2.1]
    exact q2
  · rw [hB_fr FS]; exact q5.frX FS
theorem s_place {σ τ : Mm} (h : Rel σ τ) (p0 p1 : Int32) : ∃ (r : Int32) (σ' τ' : Mm), fX7_place p0 p1 σ = some (r, σ') ∧ fX8_place p0 p1 τ = some (r, τ') ∧ Rel σ' τ' := by
  rcases days_cases p0 with ⟨c1, c2⟩ | ⟨d, c3, c4, rfl, c1, c2⟩
  · unfold fX7_place fX8_place
    rw [c1, c2, Option.bind_some, Option.bind_some, if_pos rfl, if_pos rfl]
    exact ⟨_, _, _, rfl, rfl, h⟩
  · rcases wi_cases p1 (a := 0) (b := 1) (by decide) (by decide) with e | ⟨w, -, e2, rfl, e4⟩
    · refine ⟨-2, σ, τ, ?_, ?_, h⟩
      · unfold fX7_place
        rw [c1, Option.bind_some, if_neg (by decide), show fX7_within p1 0 1 = some 0 from e, Option.bind_some, if_pos rfl]
      · unfold fX8_place
        rw [c2, Option.bind_some, if_neg (by decide), in_same, show fX7_within p1 0 1 = some 0 from e, Option.bind_some, if_pos rfl]
    · obtain ⟨r, σ', τ', q1, q2, q3, -⟩ := place_s h c3 c4 (w := w) (by omega)
      refine ⟨r, σ', τ', q1, ?_, q3⟩
      unfold fX8_place
      rw [c2, Option.bind_some, if_neg (by decide), in_same, show fX7_within (nI w) 0 1 = some 1 from e4, Option.bind_some, if_neg (by decide), q2, Option.bind_some]
