/-! ===== the calls that run the days otherwise: robbed, fewest, place ===== -/
abbrev Wspr (k i : Nat) : Prop := (k = 8 ∧ 3 ≤ i) ∨ (9 ≤ k ∧ k ≤ 11)
theorem Wspr_scr : ∀ k i, Wspr k i → Wscr k i := fun k i q => by
  rcases q with z | z
  · exact Or.inl z
  · exact Or.inr (Or.inl z)
theorem Wmr_spr : ∀ k i, Wmr k i → Wspr k i := fun k i q => by
  rcases q with q | q
  · exact Or.inl ⟨q.1, q.2.1⟩
  · exact Or.inr q
theorem W8_spr : ∀ k i, W8 k i → Wspr k i := fun k i q => Or.inl ⟨q.1, by omega⟩
/-- the reference stands ready to run -/
def Rdy (σ τ : Mm) (hb : Nat) : Prop := Core σ τ ∧ TR σ τ hb ∧ ∀ j, j < 24 → τ 13 j = nI (gn_ σ hb j)
theorem Wrun_ms : ∀ k i, Wrun k i → Wms k i := fun k i q => Or.inr (Or.inr (Or.inl (by omega)))
theorem Rdy.run {σ τ τ' : Mm} {hb : Nat} (h : Rdy σ τ hb) (hF : Fr Wrun τ τ') : Rdy σ τ' hb := ⟨h.1.frM (hF.mo Wrun_ms), h.2.1.fr hF (by decide) (by decide) (by decide) (fun k i p q r z => by have := z.1; omega), fun j hj => by rw [hF 13 j (by simp)]; exact h.2.2 j hj⟩
theorem Rdy.runs {σ τ : Mm} {hb w N tk : Nat} (h : Rdy σ τ hb) (hw : w < 64) (hN : N ≤ 240) (htk : tk ≤ 40) (th : Int32) : ∃ τ', fX8_runs (nI N) (nI w) th (nI tk) τ = some τ' ∧ Fr Wrun τ τ' ∧ (∀ j, j < N → RunAt τ' (evX σ hb (sB σ ||| w) (sf σ) th tk) j) ∧ Rdy σ τ' hb := by
  obtain ⟨hc, hT, h13⟩ := id h
  have hRm := rmM (w := w) hc.tw hc.sw hT hc.sr hc.sb.1 hw hc.m7 hc.m8 h13 th tk
  obtain ⟨τ', c1, c2, c3⟩ := runsM (evX_ok hc.tw hc.sw _ _ _ _ htk) hRm (N := N) hN
  exact ⟨τ', c1, c2, c3, h.run c2⟩
theorem readyM {σ τ : Mm} (h : Core σ τ) : ∃ (r : Int32) (τ1 τ2 : Mm), fX8_faultNow τ = some (r, τ1) ∧ fX8_laysWinds τ1 = some τ2 ∧ Fr Wms τ τ2 ∧ Rdy σ τ2 (hB σ) := by
  obtain ⟨τ1, a1, a2, a3⟩ := fnowM h
  have h1 := h.frM a2
  obtain ⟨τ2, b1, b2, b3⟩ := windsM h.tw h.sw h.hb.1 a3 h1.sr
  have F2 : Fr Wms τ1 τ2 := b2.mo fun k i q => Or.inr (Or.inr (Or.inl (by omega)))
  exact ⟨_, τ1, τ2, a1, b1, a2.tr F2, h1.frM F2, a3.fr b2 (by decide) (by decide) (by decide) (fun k i p q r z => by omega), b3⟩
/-- robbed -/
theorem wiN {w b : Nat} (hw : w ≤ b) (hb : b < 2147483648) : fX7_within (nI w) 0 (nI b) = some 1 := by
  unfold fX7_within
  rw [show (0 : Int32) = nI 0 from rfl, iflt (by omega) (by decide), if_neg (by omega), iflt hb (by omega), if_neg (by omega)]
theorem rob_s {σ τ : Mm} (h : Rel σ τ) {a v k : Nat} (ha : a < 24) (hv : v ≤ 40) (hk : k < 240) : ∃ (r : Int32) (σ' τ' : Mm), fX7_robbed (nI a) (nI v) (nI k) σ = some (r, σ') ∧ fX8_robbedOf (nI a) (nI v) (nI k) τ = some (r, τ') ∧ Rel σ' τ' ∧ Fr Wscr σ σ' ∧ TR σ' τ' (hB σ') := by
  obtain ⟨σ1, a1, a2, a3⟩ := readyX h.1.tw h.1.sw h.1.hb.1 h.1.sb.1 h.1.2.2.2.2.1
  obtain ⟨σ2, b1, b2, b3⟩ := a3.rob (nI a) v
  rw [robEv] at b3
  obtain ⟨σ3, c1, c2, c3, c4⟩ := beginX b3
  have hE := evX_ok h.1.tw h.1.sw (hB σ) (sB σ) (sf σ) (nI a) hv
  obtain ⟨σ4, d1, d2⟩ := robX64 hE hk (k + 1) ms_fu 0 (by omega) (fu_lt (by omega)) σ3 (b3.w8 c2) c3 c4
  obtain ⟨r, τ1, τ2, e1, e2, e3, e4⟩ := readyM h.1
  obtain ⟨τ3, f1, f2, f3, f4⟩ := e4.runs (w := 0) (N := 240) (tk := v) (by decide) (by decide) hv (nI a)
  have F : Fr Wspr σ σ4 := (((a2.mo Wmr_spr).tr (b2.mo fun k i q => Or.inl ⟨q.1, by omega⟩)).tr (c2.mo W8_spr)).tr (d2.mo W8_spr)
  have FM : Fr Wms τ τ3 := e3.tr (f2.mo Wrun_ms)
  have FS := F.mo Wspr_scr
  refine ⟨nI (rl (evX σ (hB σ) (sB σ) (sf σ) (nI a) v) k), σ4, τ3, ?_, ?_, (h.spr F (fun k i q => q)).frM FM, FS, ?_⟩
  · unfold fX7_robbed
    rw [show fX7_within (nI a) 0 23 = some 1 from wiN (b := 23) (by omega) (by decide), Option.bind_some, if_neg (by decide), show fX7_within (nI v) 0 40 = some 1 from wiN (b := 40) (by omega) (by decide), Option.bind_some, if_neg (by decide), hour_1 hk, Option.bind_some, if_neg (by decide), h.1.hb.2, h.1.sb.2, a1, Option.bind_some, b1, Option.bind_some, c1, Option.bind_some]
    exact d1
  · unfold fX8_robbedOf
    rw [e1, Option.bind_some]
    simp only
    rw [e2, Option.bind_some, show fX8_runs 240 0 (nI a) (nI v) τ2 = some τ3 from f1, Option.bind_some, ms_g_t (in_nI hk (by decide)), ix_nI (by omega)]
    have := (f3 k hk).1
    rw [Nat.or_zero] at this
    rw [this]
  · rw [hB_fr FS]; exact f4.2.1.frX FS
theorem s_robbed {σ τ : Mm} (h : Rel σ τ) (p0 p1 p2 : Int32) : ∃ (r : Int32) (σ' τ' : Mm), fX7_robbed p0 p1 p2 σ = some (r, σ') ∧ fX8_robbed p0 p1 p2 τ = some (r, τ') ∧ Rel σ' τ' := by
  rcases wi_cases p0 (a := 0) (b := 23) (by decide) (by decide) with c | ⟨a, -, c2, rfl, c4⟩
  · unfold fX7_robbed fX8_robbed
    rw [in_same, show fX7_within p0 0 23 = some 0 from c, Option.bind_some, Option.bind_some, if_pos rfl, if_pos rfl]
    exact ⟨_, _, _, rfl, rfl, h⟩
  rcases wi_cases p1 (a := 0) (b := 40) (by decide) (by decide) with d | ⟨v, -, d2, rfl, d4⟩
  · refine ⟨-2, σ, τ, ?_, ?_, h⟩
    · unfold fX7_robbed
      rw [show fX7_within (nI a) 0 23 = some 1 from c4, show fX7_within p1 0 40 = some 0 from d, Option.bind_some, if_neg (by decide), Option.bind_some, if_pos rfl]
    · unfold fX8_robbed
      rw [in_same, in_same, show fX7_within (nI a) 0 23 = some 1 from c4, show fX7_within p1 0 40 = some 0 from d, Option.bind_some, if_neg (by decide), Option.bind_some, if_pos rfl]
  rcases hour_cases p2 with ⟨g1, g2⟩ | ⟨k, g0, rfl, g1, g2⟩
  · refine ⟨-2, σ, τ, ?_, ?_, h⟩
    · unfold fX7_robbed
      rw [show fX7_within (nI a) 0 23 = some 1 from c4, show fX7_within (nI v) 0 40 = some 1 from d4, g1, Option.bind_some, if_neg (by decide), Option.bind_some, if_neg (by decide), Option.bind_some, if_pos rfl]
    · unfold fX8_robbed
      rw [in_same, in_same, show fX7_within (nI a) 0 23 = some 1 from c4, show fX7_within (nI v) 0 40 = some 1 from d4, g2, Option.bind_some, if_neg (by decide), Option.bind_some, if_neg (by decide), Option.bind_some, if_pos rfl]
  · obtain ⟨r, σ', τ', q1, q2, q3, -⟩ := rob_s h (a := a) (v := v) (k := k) (by omega) (by omega) g0
    refine ⟨r, σ', τ', q1, ?_, q3⟩
    unfold fX8_robbed
    rw [in_same, in_same, show fX7_within (nI a) 0 23 = some 1 from c4, show fX7_within (nI v) 0 40 = some 1 from d4, g2, Option.bind_some, if_neg (by decide), Option.bind_some, if_neg (by decide), Option.bind_some, if_neg (by decide), q2, Option.bind_some]
/-! fewest -/
set_option maxRecDepth 100000 in
theorem and_nI : ∀ a, a < 64 → ∀ b, b < 64 → (nI a &&& nI b = 0 ↔ ∀ t, t < 6 → bt a t = 0 ∨ bt b t = 0) := by decide +kernel
/-- a set that would do -/
def fG (σ : Mm) (D s : Nat) : Prop := (∀ t, t < 6 → bt s t = 0 ∨ bt (sB σ) t = 0) ∧ agX (evX σ (hB σ) (sB σ ||| s) (sf σ) (-1) 0) (24 * D)
/-- the best of the first sets -/
def fP (G : Nat → Prop) (N : Nat) (r : Int32) : Prop := (r = -1 ∧ ∀ s, s < N → ¬ G s) ∨ ∃ b, b < N ∧ r = nI b ∧ G b ∧ ∀ s, s < N → G s → pc9 b < pc9 s ∨ (pc9 b = pc9 s ∧ b ≤ s)
theorem fP_one {G : Nat → Prop} {N : Nat} {r r' : Int32} (h : fP G N r) (h' : fP G N r') : r = r' := by
  rcases h with ⟨e, z⟩ | ⟨b, b1, b2, b3, b4⟩
  · rcases h' with ⟨e', -⟩ | ⟨b', c1, -, c3, -⟩
    · rw [e, e']
    · exact absurd c3 (z b' c1)
  · rcases h' with ⟨-, z⟩ | ⟨b', c1, c2, c3, c4⟩
    · exact absurd b3 (z b b1)
    · have x1 := b4 b' c1 c3
      have x2 := c4 b b1 b3
      have : b = b' := by omega
      rw [b2, c2, this]
theorem pc9_S : ∀ b, b < 64 → pc9 b ≤ 6 := by decide
theorem pcS_le (b : Nat) : ∀ k, pcS b k ≤ k
  | 0 => Nat.le_refl _
  | k + 1 => by have := pcS_le b k; have := bt_2 b k; unfold pcS; omega
set_option maxRecDepth 100000 in
theorem pc9_n : ∀ n, n < 7 → ∀ b, b < 2 ^ n → pc9 b ≤ n := by decide +kernel
theorem shl1 : ∀ n, n < 7 → ms_shl 1 (nI n) = nI (2 ^ n) := by decide
theorem fewX36 {σ0 τ0 : Mm} (h : Core σ0 τ0) {D : Nat} (h9 : D ≤ 9) {z : Nat} (hz : z ≤ 7) {P : Int32 → Mm → Prop} {K : Int32 → Int32 → Int32 → Mm → Option (Int32 × Mm)} (hfin : ∀ b σ, b < 2 ^ tN σ0 → pc9 b = z → fG σ0 D b → (∀ s, s < b → pc9 s = z → ¬ fG σ0 D s) → Fr Wspr σ0 σ → P (nI b) σ) (hK : ∀ σ, Fr Wspr σ0 σ → (∀ s, s < 2 ^ tN σ0 → pc9 s = z → ¬ fG σ0 D s) → ∃ r σ', K (nI D) (nI (2 ^ tN σ0)) (nI z + 1) σ = some (r, σ') ∧ P r σ') : ∀ (d n s : Nat), s + d = 2 ^ tN σ0 → d < n → ∀ σ, Fr Wspr σ0 σ → (∀ s', s' < s → pc9 s' = z → ¬ fG σ0 D s') → ∃ r σ', fX7_fewest_36 K n (nI D) (nI (2 ^ tN σ0)) (nI z) (nI s) σ = some (r, σ') ∧ P r σ' := by
  have h64 : 2 ^ tN σ0 ≤ 2 ^ 6 := Nat.pow_le_pow_right (by decide) h.tw.2.1
  intro d
  induction d with
  | zero =>
    intro n s hd hn σ hF hs
    obtain ⟨n, rfl⟩ : ∃ z, n = z + 1 := ⟨n - 1, by omega⟩
    obtain rfl : s = 2 ^ tN σ0 := by omega
    rw [fX7_fewest_36, ifle (by omega) (by omega), if_pos (Nat.le_refl _)]
    exact hK σ hF hs
  | succ d ih =>
    intro n s hd hn σ hF hs
    obtain ⟨n, rfl⟩ : ∃ z, n = z + 1 := ⟨n - 1, by omega⟩
    have hFs := hF.mo Wspr_scr
    have hp : pc9 s ≤ 6 := pc9_S s (by omega)
    have next : ∀ σ1, Fr Wspr σ0 σ1 → ¬ (pc9 s = z ∧ fG σ0 D s) → ∃ r σ', fX7_fewest_96 (fX7_fewest_36 K n) (nI D) (nI (2 ^ tN σ0)) (nI z) (nI s) σ1 = some (r, σ') ∧ P r σ' := fun σ1 hF1 hno => by
      unfold fX7_fewest_96
      rw [nI_1]
      exact ih n (s + 1) (by omega) (by omega) σ1 hF1 (fun s' hs' hp' => by
        rcases Nat.lt_or_ge s' s with q | q
        · exact hs s' q hp'
        · obtain rfl : s' = s := by omega
          exact fun g => hno ⟨hp', g⟩)
    rw [fX7_fewest_36, ifle (by omega) (by omega), if_neg (by omega), bc9 s (by omega), Option.bind_some, ifeq (by omega) (by omega)]
    by_cases c : pc9 s = z
    · rw [if_pos c, fr_0 hFs, h.sb.2]
      by_cases c2 : ∀ t, t < 6 → bt s t = 0 ∨ bt (sB σ0) t = 0
      · obtain ⟨o1, o2⟩ := or_nI (sB σ0) h.sb.1 s (by omega)
        obtain ⟨σ1, a1, a2, a3⟩ := readyX (h.tw.fr hFs) (h.sw.fr hFs) (hb := hB σ0) (sb := sB σ0 ||| s) h.hb.1 o2 (fun t ht => by rw [fr_6 hFs]; exact h.2.2.2.2.1 t ht)
        rw [evX_fr hFs, sf_fun hFs] at a3
        obtain ⟨r, σ2, b1, b2, b3⟩ := allgX (evX_ok h.tw h.sw _ _ _ _ (by decide)) a3 (N := 24 * D) (by omega)
        rw [if_pos ((and_nI s (by omega) (sB σ0) h.sb.1).2 c2), fr_1 hFs, h.hb.2, o1, a1, Option.bind_some, show nI D * 24 = nI (24 * D) by rw [show (24 : Int32) = nI 24 from rfl, pk_mul, Nat.mul_comm], b1, Option.bind_some]
        have F2 : Fr Wspr σ0 σ2 := (hF.tr (a2.mo Wmr_spr)).tr (b2.mo W8_spr)
        rcases b3 with ⟨rfl, b3⟩ | ⟨rfl, b3⟩
        · simp only
          rw [if_neg (by decide)]
          exact ⟨_, _, rfl, hfin s σ2 (by omega) c ⟨c2, b3⟩ hs F2⟩
        · simp only
          rw [if_pos trivial]
          exact next σ2 F2 (fun q => b3 q.2.2)
      · rw [if_neg (fun q => c2 ((and_nI s (by omega) (sB σ0) h.sb.1).1 q))]
        exact next σ hF (fun q => c2 q.2.1)
    · rw [if_neg c]
      exact next σ hF (fun q => c q.1)
theorem fewX22 {σ0 τ0 : Mm} (h : Core σ0 τ0) {D : Nat} (h9 : D ≤ 9) : ∀ (d n z : Nat), z + d = tN σ0 + 1 → d < n → ∀ σ, Fr Wspr σ0 σ → (∀ s, s < 2 ^ tN σ0 → pc9 s < z → ¬ fG σ0 D s) → ∃ r σ', fX7_fewest_22 n (nI D) (nI (2 ^ tN σ0)) (nI z) σ = some (r, σ') ∧ fP (fG σ0 D) (2 ^ tN σ0) r ∧ Fr Wspr σ0 σ' := by
  have h6 := h.tw.2.1
  intro d
  induction d with
  | zero =>
    intro n z hd hn σ hF hs
    obtain ⟨n, rfl⟩ : ∃ z, n = z + 1 := ⟨n - 1, by omega⟩
    obtain rfl : z = tN σ0 + 1 := by omega
    rw [fX7_fewest_22, fr_1 (hF.mo Wspr_scr), h.tw.1, iflt (by omega) (by omega), if_pos (by omega)]
    exact ⟨_, σ, rfl, Or.inl ⟨rfl, fun s hs' => hs s hs' (by have := pc9_n _ (show tN σ0 < 7 by omega) s hs'; omega)⟩, hF⟩
  | succ d ih =>
    intro n z hd hn σ hF hs
    obtain ⟨n, rfl⟩ : ∃ z, n = z + 1 := ⟨n - 1, by omega⟩
    have h64 : 2 ^ tN σ0 ≤ 2 ^ 6 := Nat.pow_le_pow_right (by decide) h6
    rw [fX7_fewest_22, fr_1 (hF.mo Wspr_scr), h.tw.1, iflt (by omega) (by omega), if_neg (by omega)]
    refine fewX36 h h9 (z := z) (by omega) (P := fun r σ' => fP (fG σ0 D) (2 ^ tN σ0) r ∧ Fr Wspr σ0 σ') (fun b σ1 hb hz hg hl hF1 => ⟨Or.inr ⟨b, hb, rfl, hg, fun s hs' hg' => ?_⟩, hF1⟩) (fun σ1 hF1 hno => ?_) (2 ^ tN σ0) ms_fu 0 (by omega) (fu_lt (by omega)) σ hF (fun s' hs' => by omega)
    · rcases Nat.lt_or_ge (pc9 s) z with q | q
      · exact absurd hg' (hs s hs' q)
      · rcases Nat.lt_or_ge (pc9 b) (pc9 s) with q2 | q2
        · exact Or.inl q2
        · refine Or.inr ⟨by omega, ?_⟩
          rcases Nat.lt_or_ge s b with q3 | q3
          · exact absurd hg' (hl s q3 (by omega))
          · exact q3
    · rw [nI_1]
      exact ih n (z + 1) (by omega) (by omega) σ1 hF1 (fun s hs' hp => by
        rcases Nat.lt_or_ge (pc9 s) z with q | q
        · exact hs s hs' q
        · exact hno s hs' (by omega))
theorem few52_0 {σ τ : Mm} {hb : Nat} (hR : TR σ τ hb) (h6 : tN σ ≤ 6) (K : Int32 → Int32 → Int32 → Mm → Option (Int32 × Mm)) (y1 y2 y3 : Int32) : ∀ (d n t : Nat), t + d = tN σ → d < n → fX8_fewestOf_52 K n y1 y2 y3 0 (nI t) τ = K y1 y2 (y3 + 1) τ := by
  intro d
  induction d with
  | zero =>
    intro n t hd hn
    obtain ⟨n, rfl⟩ : ∃ z, n = z + 1 := ⟨n - 1, by omega⟩
    rw [fX8_fewestOf_52, hR.1, ifle (by omega) (by omega), if_pos (by omega), if_pos rfl]
    rfl
  | succ d ih =>
    intro n t hd hn
    obtain ⟨n, rfl⟩ : ∃ z, n = z + 1 := ⟨n - 1, by omega⟩
    rw [fX8_fewestOf_52, hR.1, ifle (by omega) (by omega), if_neg (by omega), if_pos rfl]
    unfold fX8_fewestOf_91 fX8_fewestOf_92
    rw [nI_1]
    exact ih n (t + 1) (by omega) (by omega)
theorem few52_1 {σ τ : Mm} {hb : Nat} (hR : TR σ τ hb) (h6 : tN σ ≤ 6) (h7 : ∀ t, t < 6 → τ 7 t = nI (bt (sB σ) t)) (K : Int32 → Int32 → Int32 → Mm → Option (Int32 × Mm)) (y1 y2 : Int32) {s : Nat} (hs : s < 64) : ∀ (d n t : Nat), t + d = tN σ → d < n → (∀ j, j < t → bt s j = 0 ∨ bt (sB σ) j = 0) → (((∀ j, j < tN σ → bt s j = 0 ∨ bt (sB σ) j = 0) ∧ fX8_fewestOf_52 K n y1 y2 (nI s) 1 (nI t) τ = (fX8_runs (24 * y1) (nI s) (-1) 0 τ).bind (fun σ2 => fX8_fewestOf_123 K ms_fu y1 y2 (nI s) 0 0 σ2)) ∨ ((¬ ∀ j, j < tN σ → bt s j = 0 ∨ bt (sB σ) j = 0) ∧ fX8_fewestOf_52 K n y1 y2 (nI s) 1 (nI t) τ = K y1 y2 (nI s + 1) τ)) := by
  intro d
  induction d with
  | zero =>
    intro n t hd hn hj
    obtain ⟨n, rfl⟩ : ∃ z, n = z + 1 := ⟨n - 1, by omega⟩
    obtain rfl : t = tN σ := by omega
    refine Or.inl ⟨hj, ?_⟩
    rw [fX8_fewestOf_52, hR.1, ifle (by omega) (by omega), if_pos (by omega), if_neg (by decide)]
  | succ d ih =>
    intro n t hd hn hj
    obtain ⟨n, rfl⟩ : ∃ z, n = z + 1 := ⟨n - 1, by omega⟩
    have b1 := bt_2 s t
    have b2 := bt_2 (sB σ) t
    have e0 : fX8_fewestOf_52 K (n + 1) y1 y2 (nI s) 1 (nI t) τ = if bt s t = 1 ∧ bt (sB σ) t = 1 then K y1 y2 (nI s + 1) τ else fX8_fewestOf_52 K n y1 y2 (nI s) 1 (nI (t + 1)) τ := by
      rw [fX8_fewestOf_52, hR.1, ifle (by omega) (by omega), if_neg (by omega), if_neg (by decide), isIn_M (by omega) (by omega), Option.bind_some, ms_g_t (in_nI (show t < 6 by omega) (by decide)), ix_nI (by omega), h7 t (by omega)]
      unfold fX8_fewestOf_87 fX8_fewestOf_91 fX8_fewestOf_92
      rw [nI_1, few52_0 hR h6 K y1 y2 (nI s) d n (t + 1) (by omega) (by omega)]
      rcases (show bt s t = 0 ∨ bt s t = 1 by omega) with p | p
      · rw [p, if_pos (by decide), if_neg (by omega)]
      · rcases (show bt (sB σ) t = 0 ∨ bt (sB σ) t = 1 by omega) with q | q
        · rw [p, q, if_neg (by decide), if_neg (by decide), if_neg (by omega)]
        · rw [p, q, if_neg (by decide), if_pos (by decide), if_pos ⟨rfl, rfl⟩]
    rw [e0]
    by_cases c : bt s t = 1 ∧ bt (sB σ) t = 1
    · rw [if_pos c]
      exact Or.inr ⟨fun q => by have := q t (by omega); omega, rfl⟩
    · rw [if_neg c]
      exact ih n (t + 1) (by omega) (by omega) (fun j hj' => by
        rcases Nat.lt_or_ge j t with q | q
        · exact hj j q
        · obtain rfl : j = t := by omega
          omega)
theorem few123 {τ : Mm} {e : ev} (hE : EvOK e) {D : Nat} (h9 : D ≤ 9) (hr : ∀ j, j < 24 * D → RunAt τ e j) (K : Int32 → Int32 → Int32 → Mm → Option (Int32 × Mm)) (y2 y3 : Int32) : ∀ (d n k a : Nat), k + d = 24 * D → d < n → a < 64 → (a = 0 ↔ ∀ j, j < k → rq e j = 0) → ((agX e (24 * D) ∧ fX8_fewestOf_123 K n (nI D) y2 y3 (nI a) (nI k) τ = K (nI D) y3 (y3 + 1) τ) ∨ (¬ agX e (24 * D) ∧ fX8_fewestOf_123 K n (nI D) y2 y3 (nI a) (nI k) τ = K (nI D) y2 (y3 + 1) τ)) := by
  intro d
  induction d with
  | zero =>
    intro n k a hd hn ha hz
    obtain ⟨n, rfl⟩ : ∃ z, n = z + 1 := ⟨n - 1, by omega⟩
    obtain rfl : k = 24 * D := by omega
    rw [fX8_fewestOf_123, show (24 : Int32) = nI 24 from rfl, pk_mul, ifle (by omega) (by omega), if_pos (Nat.le_refl _)]
    by_cases c : a = 0
    · refine Or.inl ⟨hz.1 c, ?_⟩
      rw [c, if_pos (by decide)]
      rfl
    · refine Or.inr ⟨fun q => c (hz.2 q), ?_⟩
      rw [if_neg (by rw [show (0 : Int32) = nI 0 from rfl, eq_nI (by omega) (by decide)]; exact c)]
      rfl
  | succ d ih =>
    intro n k a hd hn ha hz
    obtain ⟨n, rfl⟩ : ∃ z, n = z + 1 := ⟨n - 1, by omega⟩
    have hq := rq_64 hE k
    obtain ⟨o1, o2⟩ := or_nI a ha (rq e k) hq
    rw [fX8_fewestOf_123, show (24 : Int32) = nI 24 from rfl, pk_mul, ifle (by omega) (by omega), if_neg (by omega), ms_g_t (in_nI (show k < 240 by omega) (by decide)), ix_nI (by omega), (hr k (by omega)).2.2.2.2, o1, nI_1]
    refine ih n (k + 1) (a ||| rq e k) (by omega) (by omega) o2 ?_
    rw [Nat.or_eq_zero_iff, hz]
    constructor
    · intro q j hj
      rcases Nat.lt_or_ge j k with p | p
      · exact q.1 j p
      · obtain rfl : j = k := by omega
        exact q.2
    · intro q
      exact ⟨fun j hj => q j (by omega), q k (by omega)⟩
theorem few14 {σ : Mm} {D : Nat} (h9 : D ≤ 9) : ∀ (d n s : Nat), s + d = 2 ^ tN σ → d < n → ∀ (τ : Mm) (y2 : Int32), Rdy σ τ (hB σ) → fP (fG σ D) s y2 → ∃ r τ', fX8_fewestOf_14 n (nI D) y2 (nI s) τ = some (r, τ') ∧ fP (fG σ D) (2 ^ tN σ) r ∧ Fr Wrun τ τ' := by
  intro d
  induction d with
  | zero =>
    intro n s hd hn τ y2 hR hP
    obtain ⟨n, rfl⟩ : ∃ z, n = z + 1 := ⟨n - 1, by omega⟩
    obtain rfl : s = 2 ^ tN σ := by omega
    have h6 := hR.1.tw.2.1
    have h64 : 2 ^ tN σ ≤ 2 ^ 6 := Nat.pow_le_pow_right (by decide) h6
    rw [fX8_fewestOf_14, hR.2.1.1, shl1 _ (by omega), ifle (by omega) (by omega), if_pos (Nat.le_refl _)]
    exact ⟨_, _, rfl, hP, Fr.rf⟩
  | succ d ih =>
    intro n s hd hn τ y2 hR hP
    obtain ⟨n, rfl⟩ : ∃ z, n = z + 1 := ⟨n - 1, by omega⟩
    have h6 := hR.1.tw.2.1
    have h64 : 2 ^ tN σ ≤ 2 ^ 6 := Nat.pow_le_pow_right (by decide) h6
    have hs64 : s < 64 := by omega
    have skip : ∀ τ1, Fr Wrun τ τ1 → (fG σ D s → ∃ b, b < s ∧ y2 = nI b ∧ pc9 b ≤ pc9 s) → ∃ r τ', fX8_fewestOf_14 n (nI D) y2 (nI s + 1) τ1 = some (r, τ') ∧ fP (fG σ D) (2 ^ tN σ) r ∧ Fr Wrun τ τ' := fun τ1 hF hno => by
      rw [nI_1]
      obtain ⟨r, τ', q1, q2, q3⟩ := ih n (s + 1) (by omega) (by omega) τ1 y2 (hR.run hF) (by
        rcases hP with ⟨e, z⟩ | ⟨b, b1, b2, b3, b4⟩
        · refine Or.inl ⟨e, fun s' hs' => ?_⟩
          rcases Nat.lt_or_ge s' s with q | q
          · exact z s' q
          · obtain rfl : s' = s := by omega
            intro g
            obtain ⟨b, b1, b2, -⟩ := hno g
            exact m1_ne (show b < 2147483648 by omega) (b2.symm.trans e)
        · refine Or.inr ⟨b, by omega, b2, b3, fun s' hs' g => ?_⟩
          rcases Nat.lt_or_ge s' s with q | q
          · exact b4 s' q g
          · obtain rfl : s' = s := by omega
            obtain ⟨b', c1, c2, c3⟩ := hno g
            rw [b2, eq_nI (by omega) (by omega)] at c2
            subst c2
            omega)
      exact ⟨r, τ', q1, q2, hF.tr q3⟩
    -- when the set is fewer than all before
    have go : (∀ s', s' < s → fG σ D s' → pc9 s < pc9 s') → ∃ r τ', fX8_fewestOf_42 (fX8_fewestOf_14 n) (nI D) y2 (nI s) τ = some (r, τ') ∧ fP (fG σ D) (2 ^ tN σ) r ∧ Fr Wrun τ τ' := fun hlt => by
      unfold fX8_fewestOf_42 fX8_fewestOf_47
      rcases few52_1 hR.2.1 h6 hR.1.m7 (fX8_fewestOf_14 n) (nI D) y2 hs64 (tN σ) ms_fu 0 (by omega) (fu_lt (by omega)) (fun j hj => by omega) with ⟨c, e0⟩ | ⟨c, e0⟩
      · obtain ⟨τ1, f1, f2, f3, f4⟩ := hR.runs (w := s) (N := 24 * D) (tk := 0) hs64 (by omega) (by decide) (-1)
        have c6 : ∀ t, t < 6 → bt s t = 0 ∨ bt (sB σ) t = 0 := fun t ht => by
          rcases Nat.lt_or_ge t (tN σ) with q | q
          · exact c t q
          · refine Or.inl ?_
            have : s < 2 ^ t := Nat.lt_of_lt_of_le (by omega) (Nat.pow_le_pow_right (by decide) q)
            unfold bt
            rw [Nat.div_eq_of_lt this]
        rw [show fX8_fewestOf_52 (fX8_fewestOf_14 n) ms_fu (nI D) y2 (nI s) 1 0 τ = _ from e0, show (24 : Int32) = nI 24 from rfl, pk_mul, show fX8_runs (nI (24 * D)) (nI s) (-1) 0 τ = some τ1 from f1, Option.bind_some]
        rcases few123 (evX_ok hR.1.tw hR.1.sw _ _ _ _ (by decide)) h9 f3 (fX8_fewestOf_14 n) y2 (nI s) (24 * D) ms_fu 0 0 (by omega) (fu_lt (by omega)) (by decide) ⟨fun _ j hj => by omega, fun _ => rfl⟩ with ⟨a, e1⟩ | ⟨a, e1⟩
        · rw [show fX8_fewestOf_123 (fX8_fewestOf_14 n) ms_fu (nI D) y2 (nI s) 0 0 τ1 = _ from e1, nI_1]
          obtain ⟨r, τ', q1, q2, q3⟩ := ih n (s + 1) (by omega) (by omega) τ1 (nI s) f4 (Or.inr ⟨s, by omega, rfl, ⟨c6, a⟩, fun s' hs' g => by
            rcases Nat.lt_or_ge s' s with q | q
            · exact Or.inl (hlt s' q g)
            · obtain rfl : s' = s := by omega
              exact Or.inr ⟨rfl, Nat.le_refl _⟩⟩)
          exact ⟨r, τ', q1, q2, f2.tr q3⟩
        · rw [show fX8_fewestOf_123 (fX8_fewestOf_14 n) ms_fu (nI D) y2 (nI s) 0 0 τ1 = _ from e1]
          exact skip τ1 f2 (fun g => absurd g.2 a)
      · rw [show fX8_fewestOf_52 (fX8_fewestOf_14 n) ms_fu (nI D) y2 (nI s) 1 0 τ = _ from e0]
        exact skip τ Fr.rf (fun g => absurd (fun j hj => g.1 j (by omega)) c)
    rw [fX8_fewestOf_14, hR.2.1.1, shl1 _ (by omega), ifle (by omega) (by omega), if_neg (by omega)]
    rcases id hP with ⟨e, z⟩ | ⟨b, b1, b2, b3, b4⟩
    · rw [if_pos e]
      exact go (fun s' hs' g => absurd g (z s' hs'))
    · have p1 := pc9_S s hs64
      have p2 := pc9_S b (by omega)
      rw [if_neg (by rw [b2]; exact m1_ne (by omega)), onesM (by omega), Option.bind_some, show fX8_ones y2 = some (nI (pc9 b)) by rw [b2]; exact onesM (by omega), Option.bind_some, ifle (by omega) (by omega)]
      by_cases c : pc9 b ≤ pc9 s
      · rw [if_pos c]
        unfold fX8_fewestOf_47
        rw [show fX8_fewestOf_52 (fX8_fewestOf_14 n) ms_fu (nI D) y2 (nI s) 0 0 τ = _ from few52_0 hR.2.1 h6 (fX8_fewestOf_14 n) (nI D) y2 (nI s) (tN σ) ms_fu 0 (by omega) (fu_lt (by omega))]
        exact skip τ Fr.rf (fun _ => ⟨b, b1, b2, c⟩)
      · rw [if_neg c]
        exact go (fun s' hs' g => by have := b4 s' hs' g; omega)
theorem few_s {σ τ : Mm} (h : Rel σ τ) {d : Nat} (h1 : 1 ≤ d) (h9 : d ≤ 9) : ∃ (r : Int32) (σ' τ' : Mm), fX7_fewest (nI d) σ = some (r, σ') ∧ fX8_fewestOf (nI d) τ = some (r, τ') ∧ Rel σ' τ' ∧ Fr Wscr σ σ' ∧ TR σ' τ' (hB σ') := by
  have h6 := h.1.tw.2.1
  have h64 : 2 ^ tN σ ≤ 2 ^ 6 := Nat.pow_le_pow_right (by decide) h6
  have hp : 0 < 2 ^ tN σ := Nat.pow_pos (by decide)
  obtain ⟨r, σ1, a1, a2, a3⟩ := fewX22 h.1 h9 (tN σ + 1) ms_fu 0 (by omega) (fu_lt (by omega)) σ Fr.rf (fun s hs hz => by omega)
  obtain ⟨x, τ1, τ2, e1, e2, e3, e4⟩ := readyM h.1
  obtain ⟨r', τ3, b1, b2, b3⟩ := few14 h9 (2 ^ tN σ) ms_fu 0 (by omega) (fu_lt (by omega)) τ2 (-1) e4 (Or.inl ⟨rfl, fun s hs => by omega⟩)
  obtain rfl := fP_one a2 b2
  have FS := a3.mo Wspr_scr
  refine ⟨r, σ1, τ3, ?_, ?_, (h.spr a3 (fun k i q => q)).frM (e3.tr (b3.mo Wrun_ms)), FS, ?_⟩
  · unfold fX7_fewest
    rw [days_1 h1 h9, Option.bind_some, if_neg (by decide), h.1.tw.1, shl1 _ (by omega)]
    exact a1
  · unfold fX8_fewestOf
    rw [e1, Option.bind_some]
    simp only
    rw [e2, Option.bind_some]
    exact b1
  · rw [hB_fr FS]; exact (e4.run b3).2.1.frX FS
theorem s_fewest {σ τ : Mm} (h : Rel σ τ) (p0 : Int32) : ∃ (r : Int32) (σ' τ' : Mm), fX7_fewest p0 σ = some (r, σ') ∧ fX8_fewest p0 τ = some (r, τ') ∧ Rel σ' τ' := by
  rcases days_cases p0 with ⟨c1, c2⟩ | ⟨d, c3, c4, rfl, c1, c2⟩
  · unfold fX7_fewest fX8_fewest
    rw [c1, c2, Option.bind_some, Option.bind_some, if_pos rfl, if_pos rfl]
    exact ⟨_, _, _, rfl, rfl, h⟩
  · obtain ⟨r, σ', τ', q1, q2, q3, -⟩ := few_s h c3 c4
    refine ⟨r, σ', τ', q1, ?_, q3⟩
    unfold fX8_fewest
    rw [c2, Option.bind_some, if_neg (by decide), q2, Option.bind_some]
