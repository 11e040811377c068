/-! ===== the calls that tell of days ===== -/
theorem hour_cases (p : Int32) : (fX7_isHour p = some 0 ∧ fX8_isHour p = some 0) ∨ (∃ h, h < 240 ∧ p = nI h ∧ fX7_isHour p = some 1 ∧ fX8_isHour p = some 1) := by
  unfold fX7_isHour fX8_isHour
  rw [in_same]
  rcases wi_cases p (a := 0) (b := 239) (by decide) (by decide) with c | ⟨w, c1, c2, c3, c4⟩
  · rw [show fX7_within p 0 239 = some 0 from c, Option.bind_some, ms_g_t (Or.inl rfl)]
    exact Or.inl ⟨rfl, rfl⟩
  · rw [show fX7_within p 0 239 = some 1 from c4, Option.bind_some, ms_g_t (Or.inr rfl)]
    exact Or.inr ⟨w, by omega, c3, rfl, rfl⟩
theorem days_cases (p : Int32) : (fX7_areDays p = some 0 ∧ fX8_areDays p = some 0) ∨ (∃ d, 1 ≤ d ∧ d ≤ 9 ∧ p = nI d ∧ fX7_areDays p = some 1 ∧ fX8_areDays p = some 1) := by
  unfold fX7_areDays fX8_areDays
  rw [in_same]
  rcases wi_cases p (a := 1) (b := 9) (by decide) (by decide) with c | ⟨w, c1, c2, c3, c4⟩
  · rw [show fX7_within p 1 9 = some 0 from c, Option.bind_some, ms_g_t (Or.inl rfl)]
    exact Or.inl ⟨rfl, rfl⟩
  · rw [show fX7_within p 1 9 = some 1 from c4, Option.bind_some, ms_g_t (Or.inr rfl)]
    exact Or.inr ⟨w, c1, c2, c3, rfl, rfl⟩
theorem hour_1 {h : Nat} (hh : h < 240) : fX7_isHour (nI h) = some 1 := by
  rcases hour_cases (nI h) with ⟨c, -⟩ | ⟨-, -, -, c, -⟩
  · exfalso
    unfold fX7_isHour fX7_within at c
    rw [show (0 : Int32) = nI 0 from rfl, show (239 : Int32) = nI 239 from rfl, iflt (by omega) (by decide), if_neg (by omega), iflt (by decide) (by omega), if_neg (by omega), Option.bind_some, ms_g_t (Or.inr rfl)] at c
    exact absurd (Option.some.inj c) (by decide)
  · exact c
theorem days_1 {d : Nat} (h1 : 1 ≤ d) (h9 : d ≤ 9) : fX7_areDays (nI d) = some 1 := by
  rcases days_cases (nI d) with ⟨c, -⟩ | ⟨-, -, -, -, c, -⟩
  · exfalso
    unfold fX7_areDays fX7_within at c
    rw [show (1 : Int32) = nI 1 from rfl, show (9 : Int32) = nI 9 from rfl, iflt (by omega) (by decide), if_neg (by omega), iflt (by decide) (by omega), if_neg (by omega), Option.bind_some, ms_g_t (Or.inr rfl)] at c
    exact absurd (Option.some.inj c) (by decide)
  · exact c
theorem w01 {w : Nat} (hw : w < 2) : fX7_within (nI w) 0 1 = some 1 := by
  unfold fX7_within
  rw [show (0 : Int32) = nI 0 from rfl, show (1 : Int32) = nI 1 from rfl, iflt (by omega) (by decide), if_neg (by omega), iflt (by decide) (by omega), if_neg (by omega)]
theorem lev_s {σ τ : Mm} (h : Rel σ τ) {k w : Nat} (hk : k < 240) (hw : w < 2) : ∃ (r : Int32) (σ' τ' : Mm), fX7_level (nI k) (nI w) σ = some (r, σ') ∧ fX8_levelOf (nI k) (nI w) τ = some (r, τ') ∧ Rel σ' τ' ∧ Fr Wscr σ σ' ∧ TR σ' τ' (hB σ') := by
  obtain ⟨σ1, a1, a2, a3, a4, a5⟩ := daysX h
  obtain ⟨τ1, b1, b2, b3, b4⟩ := laysM h.1
  have i240 : ms_in (nI k) 240 := in_nI hk (by decide)
  have ixk : ms_ix (nI k) = k := ix_nI (by omega)
  obtain ⟨x1, x2, -⟩ := a4 k hk
  obtain ⟨y1, y2, -⟩ := b4 k hk
  have hT : TR σ1 τ1 (hB σ1) := by rw [hB_fr a3]; exact b3.frX a3
  unfold fX7_level fX8_levelOf
  rw [hour_1 hk, Option.bind_some, if_neg (by decide), w01 hw, Option.bind_some, if_neg (by decide), a1, Option.bind_some, b1, Option.bind_some, ms_g_t i240, ms_g_t i240, ms_g_t i240, ms_g_t i240, ixk, x1, x2, y1, y2]
  rcases (show w = 0 ∨ w = 1 by omega) with rfl | rfl
  · exact ⟨_, σ1, τ1, by rw [if_pos (by decide)], by rw [if_pos (by decide)], a2.frM b2, a3, hT⟩
  · exact ⟨_, σ1, τ1, by rw [if_neg (by decide)], by rw [if_neg (by decide)], a2.frM b2, a3, hT⟩
theorem s_level {σ τ : Mm} (h : Rel σ τ) (p0 p1 : Int32) : ∃ (r : Int32) (σ' τ' : Mm), fX7_level p0 p1 σ = some (r, σ') ∧ fX8_level p0 p1 τ = some (r, τ') ∧ Rel σ' τ' := by
  rcases hour_cases p0 with ⟨c1, c2⟩ | ⟨k, c0, rfl, c1, c2⟩
  · unfold fX7_level fX8_level
    rw [c1, c2, Option.bind_some, Option.bind_some, if_pos rfl, if_pos rfl]
    exact ⟨_, _, _, rfl, rfl, h⟩
  · rcases wi_cases p1 (a := 0) (b := 1) (by decide) (by decide) with d | ⟨w, d1, d2, rfl, d4⟩
    · unfold fX7_level fX8_level
      rw [c1, c2, Option.bind_some, Option.bind_some, if_neg (by decide), if_neg (by decide), in_same, show fX7_within p1 0 1 = some 0 from d, Option.bind_some, Option.bind_some, if_pos rfl, if_pos rfl]
      exact ⟨_, _, _, rfl, rfl, h⟩
    · obtain ⟨r, σ1, τ1, a1, a2, a3, -⟩ := lev_s h c0 (w := w) (by omega)
      refine ⟨r, σ1, τ1, a1, ?_, a3⟩
      unfold fX8_level
      rw [c2, Option.bind_some, if_neg (by decide), in_same, show fX7_within (nI w) 0 1 = some 1 from d4, Option.bind_some, if_neg (by decide), a2, Option.bind_some]
theorem flow_s {σ τ : Mm} (h : Rel σ τ) {k : Nat} (hk : k < 240) : ∃ (r : Int32) (σ' τ' : Mm), fX7_flow (nI k) σ = some (r, σ') ∧ fX8_flowOf (nI k) τ = some (r, τ') ∧ Rel σ' τ' ∧ Fr Wscr σ σ' ∧ TR σ' τ' (hB σ') := by
  obtain ⟨σ1, a1, a2, a3, a4, a5⟩ := daysX h
  obtain ⟨τ1, b1, b2, b3, b4⟩ := laysM h.1
  have i240 : ms_in (nI k) 240 := in_nI hk (by decide)
  have ixk : ms_ix (nI k) = k := ix_nI (by omega)
  obtain ⟨-, -, x3, -⟩ := a4 k hk
  obtain ⟨-, -, -, y4, -⟩ := b4 k hk
  have hT : TR σ1 τ1 (hB σ1) := by rw [hB_fr a3]; exact b3.frX a3
  unfold fX7_flow fX8_flowOf
  rw [hour_1 hk, Option.bind_some, if_neg (by decide), a1, Option.bind_some, b1, Option.bind_some, ms_g_t i240, ms_g_t i240, ixk, x3, y4]
  exact ⟨_, σ1, τ1, rfl, rfl, a2.frM b2, a3, hT⟩
theorem s_flow {σ τ : Mm} (h : Rel σ τ) (p0 : Int32) : ∃ (r : Int32) (σ' τ' : Mm), fX7_flow p0 σ = some (r, σ') ∧ fX8_flow p0 τ = some (r, τ') ∧ Rel σ' τ' := by
  rcases hour_cases p0 with ⟨c1, c2⟩ | ⟨k, c0, rfl, c1, c2⟩
  · unfold fX7_flow fX8_flow
    rw [c1, c2, Option.bind_some, Option.bind_some, if_pos rfl, if_pos rfl]
    exact ⟨_, _, _, rfl, rfl, h⟩
  · obtain ⟨r, σ1, τ1, a1, a2, a3, -⟩ := flow_s h c0
    refine ⟨r, σ1, τ1, a1, ?_, a3⟩
    unfold fX8_flow
    rw [c2, Option.bind_some, if_neg (by decide), a2, Option.bind_some]
theorem s_stands {σ τ : Mm} (h : Rel σ τ) (p0 p1 : Int32) : ∃ (r : Int32) (σ' τ' : Mm), fX7_stands p0 p1 σ = some (r, σ') ∧ fX8_stands p0 p1 τ = some (r, τ') ∧ Rel σ' τ' := by
  obtain ⟨τ0, e1, e2, e3⟩ := thing_cases h.1 p0
  have h6 := h.1.tw.2.1
  unfold fX7_stands fX8_stands
  rcases e3 with ⟨f1, f2⟩ | ⟨t, f0, rfl, f1, f2⟩
  · rw [f1, f2, Option.bind_some, Option.bind_some, if_pos rfl]
    exact ⟨_, _, _, rfl, rfl, h.frM e1⟩
  · rw [f1, f2, Option.bind_some, Option.bind_some, if_neg (by decide)]
    simp only
    rw [if_neg (by decide)]
    rcases hour_cases p1 with ⟨c1, c2⟩ | ⟨k, c0, rfl, c1, c2⟩
    · rw [c1, c2, Option.bind_some, Option.bind_some, if_pos rfl, if_pos rfl]
      exact ⟨_, _, _, rfl, rfl, h.frM e1⟩
    · have h1 := h.frM e1
      obtain ⟨σ1, a1, a2, a3, a4, a5⟩ := daysX h1
      obtain ⟨τ1, b1, b2, b3, b4⟩ := laysM h1.1
      have i240 : ms_in (nI k) 240 := in_nI c0 (by decide)
      obtain ⟨-, -, -, -, x5⟩ := a4 k c0
      obtain ⟨-, -, -, -, y5⟩ := b4 k c0
      have hq := rq_64 (eD_ok h.1) k
      rw [c1, c2, Option.bind_some, Option.bind_some, if_neg (by decide), if_neg (by decide), a1, b1, Option.bind_some, Option.bind_some, ms_g_t i240, ms_g_t i240, ix_nI (by omega), x5, y5, bit_X (by omega) (by omega), Option.bind_some, bt_i (by omega) (by omega)]
      exact ⟨_, _, _, rfl, rfl, a2.frM b2⟩
def soS (e : ev) (t : Nat) : Nat → Nat
  | 0 => 0
  | h + 1 => soS e t h + bt (rq e h) t
theorem stoodX5 {σ : Mm} {e : ev} (hE : EvOK e) (hr : ∀ j, j < 240 → RecAt σ e j) {t N : Nat} (ht : t < 31) (hN : N ≤ 240) : ∀ (d n h : Nat), h + d = N → d < n → fX0_hoursStood_5 σ n (nI t) (nI N) (nI (soS e t h)) (nI h) = some (nI (soS e t N)) := by
  intro d
  induction d with
  | zero =>
    intro n h hd hn
    obtain ⟨n, rfl⟩ : ∃ z, n = z + 1 := ⟨n - 1, by omega⟩
    obtain rfl : h = N := by omega
    rw [fX0_hoursStood_5, ifle (by omega) (by omega), if_pos (Nat.le_refl _)]
  | succ d ih =>
    intro n h hd hn
    obtain ⟨n, rfl⟩ : ∃ z, n = z + 1 := ⟨n - 1, by omega⟩
    have hq := rq_64 hE h
    rw [fX0_hoursStood_5, ifle (by omega) (by omega), if_neg (by omega), ms_g_t (in_nI (show h < 240 by omega) (by decide)), ix_nI (by omega), (hr h (by omega)).2.2.2.2, bit_X (by omega) ht, Option.bind_some, nI_add, nI_1]
    exact ih n (h + 1) (by omega) (by omega)
theorem stoodM5 {τ : Mm} {e : ev} (hE : EvOK e) {D : Nat} (hr : ∀ j, j < 24 * D → RunAt τ e j) {t : Nat} (ht : t < 31) (hN : 24 * D ≤ 240) : ∀ (d n h : Nat), h + d = 24 * D → d < n → fX8_stoodBy_5 τ n (nI t) (nI D) (nI (soS e t h)) (nI h) = some (nI (soS e t (24 * D))) := by
  intro d
  induction d with
  | zero =>
    intro n h hd hn
    obtain ⟨n, rfl⟩ : ∃ z, n = z + 1 := ⟨n - 1, by omega⟩
    obtain rfl : h = 24 * D := by omega
    rw [fX8_stoodBy_5, show (24 : Int32) = nI 24 from rfl, pk_mul, ifle (by omega) (by omega), if_pos (Nat.le_refl _)]
  | succ d ih =>
    intro n h hd hn
    obtain ⟨n, rfl⟩ : ∃ z, n = z + 1 := ⟨n - 1, by omega⟩
    have hq := rq_64 hE h
    rw [fX8_stoodBy_5, show (24 : Int32) = nI 24 from rfl, pk_mul, ifle (by omega) (by omega), if_neg (by omega), ms_g_t (in_nI (show h < 240 by omega) (by decide)), ix_nI (by omega), (hr h (by omega)).2.2.2.2, bt_i (by omega) ht, nI_add]
    simp only [ms_lt]
    rw [nI_1]
    exact ih n (h + 1) (by omega) (by omega)
theorem stood_s {σ τ : Mm} (h : Rel σ τ) {t d : Nat} (ht : t < tN σ) (h1 : 1 ≤ d) (h9 : d ≤ 9) : ∃ (r : Int32) (σ' τ' : Mm), fX7_stood (nI t) (nI d) σ = some (r, σ') ∧ fX8_stoodOf (nI t) (nI d) τ = some (r, τ') ∧ Rel σ' τ' ∧ Fr Wscr σ σ' ∧ TR σ' τ' (hB σ') := by
  obtain ⟨σ1, a1, a2, a3, a4, a5⟩ := daysX h
  obtain ⟨τ1, b1, b2, b3, b4⟩ := laysM h.1
  have h6 := h.1.tw.2.1
  have hT : TR σ1 τ1 (hB σ1) := by rw [hB_fr a3]; exact b3.frX a3
  have hh : fX4_hasThing σ (nI t) = some 1 := by
    unfold fX4_hasThing
    rw [if_neg (nI_pos (by omega)), h.1.tw.1, ifle (by omega) (by omega), if_neg (by omega)]
  refine ⟨nI (soS (eD σ) t (24 * d)), σ1, τ1, ?_, ?_, a2.frM b2, a3, hT⟩
  · unfold fX7_stood fX0_hoursStood
    rw [hh, Option.bind_some, if_neg (by decide), days_1 h1 h9, Option.bind_some, if_neg (by decide), a1, Option.bind_some, show nI d * 24 = nI (24 * d) by rw [show (24 : Int32) = nI 24 from rfl, pk_mul, Nat.mul_comm], show fX0_hoursStood_5 σ1 ms_fu (nI t) (nI (24 * d)) 0 0 = _ from stoodX5 (eD_ok h.1) a4 (by omega) (by omega) (24 * d) ms_fu 0 (by omega) (fu_lt (by omega)), Option.bind_some]
  · unfold fX8_stoodOf fX8_stoodBy
    rw [b1, Option.bind_some, show fX8_stoodBy_5 τ1 ms_fu (nI t) (nI d) 0 0 = _ from stoodM5 (eD_ok h.1) (fun j hj => b4 j (by omega)) (by omega) (by omega) (24 * d) ms_fu 0 (by omega) (fu_lt (by omega)), Option.bind_some]
theorem s_stood {σ τ : Mm} (h : Rel σ τ) (p0 p1 : Int32) : ∃ (r : Int32) (σ' τ' : Mm), fX7_stood p0 p1 σ = some (r, σ') ∧ fX8_stood p0 p1 τ = some (r, τ') ∧ Rel σ' τ' := by
  obtain ⟨τ0, e1, e2, e3⟩ := thing_cases h.1 p0
  rcases e3 with ⟨f1, f2⟩ | ⟨t, f0, rfl, f1, f2⟩
  · unfold fX7_stood fX8_stood
    rw [f1, f2, Option.bind_some, Option.bind_some, if_pos rfl]
    exact ⟨_, _, _, rfl, rfl, h.frM e1⟩
  · rcases days_cases p1 with ⟨c1, c2⟩ | ⟨d, c0, c9, rfl, c1, c2⟩
    · unfold fX7_stood fX8_stood
      rw [f1, f2, Option.bind_some, Option.bind_some, if_neg (by decide)]
      simp only
      rw [if_neg (by decide), c1, c2, Option.bind_some, Option.bind_some, if_pos rfl, if_pos rfl]
      exact ⟨_, _, _, rfl, rfl, h.frM e1⟩
    · obtain ⟨r, σ1, τ1, a1, a2, a3, -⟩ := stood_s (h.frM e1) f0 c0 c9
      refine ⟨r, σ1, τ1, a1, ?_, a3⟩
      unfold fX8_stood
      rw [f2, Option.bind_some]
      simp only
      rw [if_neg (by decide), c2, Option.bind_some, if_neg (by decide), a2, Option.bind_some]
def loS (e : ev) : Nat → Nat
  | 0 => 0
  | h + 1 => loS e h + rp e h
theorem lostX4 {σ : Mm} {e : ev} (hr : ∀ j, j < 240 → RecAt σ e j) {N : Nat} (hN : N ≤ 240) : ∀ (d n h : Nat), h + d = N → d < n → fX0_spiltWithin_4 σ n (nI N) (nI (loS e h)) (nI h) = some (nI (loS e N)) := by
  intro d
  induction d with
  | zero =>
    intro n h hd hn
    obtain ⟨n, rfl⟩ : ∃ z, n = z + 1 := ⟨n - 1, by omega⟩
    obtain rfl : h = N := by omega
    rw [fX0_spiltWithin_4, ifle (by omega) (by omega), if_pos (Nat.le_refl _)]
  | succ d ih =>
    intro n h hd hn
    obtain ⟨n, rfl⟩ : ∃ z, n = z + 1 := ⟨n - 1, by omega⟩
    rw [fX0_spiltWithin_4, ifle (by omega) (by omega), if_neg (by omega), ms_g_t (in_nI (show h < 240 by omega) (by decide)), ix_nI (by omega), (hr h (by omega)).2.2.2.1, nI_add, nI_1]
    exact ih n (h + 1) (by omega) (by omega)
theorem lostM8 {τ : Mm} {e : ev} {D : Nat} (hr : ∀ j, j < 240 → RunAt τ e j) (hN : 24 * D ≤ 240) : ∀ (d n h : Nat), h + d = 24 * D → d < n → fX8_lostOf_8 n (nI D) (nI (loS e h)) (nI h) τ = some (nI (loS e (24 * D)), τ) := by
  intro d
  induction d with
  | zero =>
    intro n h hd hn
    obtain ⟨n, rfl⟩ : ∃ z, n = z + 1 := ⟨n - 1, by omega⟩
    obtain rfl : h = 24 * D := by omega
    rw [fX8_lostOf_8, show (24 : Int32) = nI 24 from rfl, pk_mul, ifle (by omega) (by omega), if_pos (Nat.le_refl _)]
  | succ d ih =>
    intro n h hd hn
    obtain ⟨n, rfl⟩ : ∃ z, n = z + 1 := ⟨n - 1, by omega⟩
    rw [fX8_lostOf_8, show (24 : Int32) = nI 24 from rfl, pk_mul, ifle (by omega) (by omega), if_neg (by omega), ms_g_t (in_nI (show h < 240 by omega) (by decide)), ix_nI (by omega), (hr h (by omega)).2.2.1, nI_add, nI_1]
    exact ih n (h + 1) (by omega) (by omega)
theorem lost_s {σ τ : Mm} (h : Rel σ τ) {d : Nat} (h1 : 1 ≤ d) (h9 : d ≤ 9) : ∃ (r : Int32) (σ' τ' : Mm), fX7_lost (nI d) σ = some (r, σ') ∧ fX8_lostOf (nI d) τ = some (r, τ') ∧ Rel σ' τ' ∧ Fr Wscr σ σ' ∧ TR σ' τ' (hB σ') := by
  obtain ⟨σ1, a1, a2, a3, a4, a5⟩ := daysX h
  obtain ⟨τ1, b1, b2, b3, b4⟩ := laysM h.1
  have hT : TR σ1 τ1 (hB σ1) := by rw [hB_fr a3]; exact b3.frX a3
  refine ⟨nI (loS (eD σ) (24 * d)), σ1, τ1, ?_, ?_, a2.frM b2, a3, hT⟩
  · unfold fX7_lost fX0_spiltWithin
    rw [days_1 h1 h9, Option.bind_some, if_neg (by decide), a1, Option.bind_some, show nI d * 24 = nI (24 * d) by rw [show (24 : Int32) = nI 24 from rfl, pk_mul, Nat.mul_comm], show fX0_spiltWithin_4 σ1 ms_fu (nI (24 * d)) 0 0 = _ from lostX4 a4 (by omega) (24 * d) ms_fu 0 (by omega) (fu_lt (by omega)), Option.bind_some]
  · unfold fX8_lostOf
    rw [b1, Option.bind_some]
    exact lostM8 b4 (by omega) (24 * d) ms_fu 0 (by omega) (fu_lt (by omega))
theorem s_lost {σ τ : Mm} (h : Rel σ τ) (p0 : Int32) : ∃ (r : Int32) (σ' τ' : Mm), fX7_lost p0 σ = some (r, σ') ∧ fX8_lost p0 τ = some (r, τ') ∧ Rel σ' τ' := by
  rcases days_cases p0 with ⟨c1, c2⟩ | ⟨d, c0, c9, rfl, c1, c2⟩
  · unfold fX7_lost fX8_lost
    rw [c1, c2, Option.bind_some, Option.bind_some, if_pos rfl, if_pos rfl]
    exact ⟨_, _, _, rfl, rfl, h⟩
  · obtain ⟨r, σ1, τ1, a1, a2, a3, -⟩ := lost_s h c0 c9
    refine ⟨r, σ1, τ1, a1, ?_, a3⟩
    unfold fX8_lost
    rw [c2, Option.bind_some, if_neg (by decide), a2, Option.bind_some]
/-- the first hour of the least level, among the first h + 1 -/
def wst (e : ev) : Nat → Nat
  | 0 => 0
  | h + 1 => if rl e (wst e h) ≤ rl e (h + 1) then wst e h else h + 1
theorem wst_b (e : ev) : ∀ h, wst e h ≤ h
  | 0 => Nat.le_refl _
  | h + 1 => by have := wst_b e h; unfold wst; split <;> omega
theorem wst_m {e : ev} (hE : EvOK e) : ∀ h, rl e (wst e h) = mnl e (h + 1)
  | 0 => by
    have := rl_b hE 0
    show rl e 0 = min 999 (rl e 0)
    omega
  | h + 1 => by
    have ih := wst_m hE h
    have e1 : mnl e (h + 1 + 1) = min (mnl e (h + 1)) (rl e (h + 1)) := rfl
    have e2 : wst e (h + 1) = if rl e (wst e h) ≤ rl e (h + 1) then wst e h else h + 1 := rfl
    rw [e1, ← ih, e2]
    split <;> omega
theorem worstX4 {σ : Mm} {e : ev} (hE : EvOK e) (hr : ∀ j, j < 240 → RecAt σ e j) {N : Nat} (h1 : 1 ≤ N) (hN : N ≤ 240) : ∀ (d n h : Nat), h + 1 + d = N → d < n → fX0_worstHour_4 σ n (nI N) (nI (wst e h)) (nI (h + 1)) = some (nI (wst e (N - 1))) := by
  intro d
  induction d with
  | zero =>
    intro n h hd hn
    obtain ⟨n, rfl⟩ : ∃ z, n = z + 1 := ⟨n - 1, by omega⟩
    obtain rfl : h = N - 1 := by omega
    rw [fX0_worstHour_4, ifle (by omega) (by omega), if_pos (by omega)]
  | succ d ih =>
    intro n h hd hn
    obtain ⟨n, rfl⟩ : ∃ z, n = z + 1 := ⟨n - 1, by omega⟩
    have hb := wst_b e h
    have r1 := rl_b hE (wst e h)
    have r2 := rl_b hE (h + 1)
    have hih := ih n (h + 1) (by omega) (by omega)
    rw [fX0_worstHour_4, ifle (by omega) (by omega), if_neg (by omega), ms_g_t (in_nI (show h + 1 < 240 by omega) (by decide)), ms_g_t (in_nI (show wst e h < 240 by omega) (by decide)), ix_nI (by omega), ix_nI (by omega), (hr (wst e h) (by omega)).1, (hr (h + 1) (by omega)).1, ifle (by omega) (by omega)]
    unfold fX0_worstHour_26
    rw [nI_1]
    by_cases c : rl e (wst e h) ≤ rl e (h + 1)
    · rw [if_pos c]
      rw [wst, if_pos c] at hih
      exact hih
    · rw [if_neg c]
      rw [wst, if_neg c] at hih
      exact hih
theorem worstM4 {τ : Mm} {e : ev} (hE : EvOK e) {D : Nat} (hr : ∀ j, j < 24 * D → RunAt τ e j) (h1 : 1 ≤ D) (hN : D ≤ 10) : ∀ (d n h : Nat), h + 1 + d = 24 * D → d < n → fX8_worstBy_4 τ n (nI D) (nI (wst e h)) (nI (h + 1)) = some (nI (wst e (24 * D - 1))) := by
  intro d
  induction d with
  | zero =>
    intro n h hd hn
    obtain ⟨n, rfl⟩ : ∃ z, n = z + 1 := ⟨n - 1, by omega⟩
    obtain rfl : h = 24 * D - 1 := by omega
    rw [fX8_worstBy_4, show (24 : Int32) = nI 24 from rfl, pk_mul, ifle (by omega) (by omega), if_pos (by omega)]
  | succ d ih =>
    intro n h hd hn
    obtain ⟨n, rfl⟩ : ∃ z, n = z + 1 := ⟨n - 1, by omega⟩
    have hb := wst_b e h
    have r1 := rl_b hE (wst e h)
    have r2 := rl_b hE (h + 1)
    have hih := ih n (h + 1) (by omega) (by omega)
    rw [fX8_worstBy_4, show (24 : Int32) = nI 24 from rfl, pk_mul, ifle (by omega) (by omega), if_neg (by omega), ms_g_t (in_nI (show h + 1 < 240 by omega) (by decide)), ms_g_t (in_nI (show wst e h < 240 by omega) (by decide)), ix_nI (by omega), ix_nI (by omega), (hr (wst e h) (by omega)).1, (hr (h + 1) (by omega)).1, ifle (by omega) (by omega)]
    unfold fX8_worstBy_32
    rw [nI_1]
    by_cases c : rl e (wst e h) ≤ rl e (h + 1)
    · rw [if_pos c]
      rw [wst, if_pos c] at hih
      exact hih
    · rw [if_neg c]
      rw [wst, if_neg c] at hih
      exact hih
theorem worst_s {σ τ : Mm} (h : Rel σ τ) {d w : Nat} (h1 : 1 ≤ d) (h9 : d ≤ 9) (hw : w < 2) : ∃ (r : Int32) (σ' τ' : Mm), fX7_worst (nI d) (nI w) σ = some (r, σ') ∧ fX8_worstOf (nI d) (nI w) τ = some (r, τ') ∧ Rel σ' τ' ∧ Fr Wscr σ σ' ∧ TR σ' τ' (hB σ') := by
  obtain ⟨σ1, a1, a2, a3, a4, a5⟩ := daysX h
  obtain ⟨τ1, b1, b2, b3, b4⟩ := laysM h.1
  have hE := eD_ok h.1
  have hT : TR σ1 τ1 (hB σ1) := by rw [hB_fr a3]; exact b3.frX a3
  have hb := wst_b (eD σ) (24 * d - 1)
  have i240 : ms_in (nI (wst (eD σ) (24 * d - 1))) 240 := in_nI (by omega) (by decide)
  have ixk : ms_ix (nI (wst (eD σ) (24 * d - 1))) = wst (eD σ) (24 * d - 1) := ix_nI (by omega)
  have x1 : fX0_worstHour σ1 (nI d * 24) = some (nI (wst (eD σ) (24 * d - 1))) := by
    unfold fX0_worstHour
    rw [show nI d * 24 = nI (24 * d) by rw [show (24 : Int32) = nI 24 from rfl, pk_mul, Nat.mul_comm]]
    exact worstX4 hE a4 (by omega) (by omega) (24 * d - 1) ms_fu 0 (by omega) (fu_lt (by omega))
  have x2 : fX8_worstBy τ1 (nI d) = some (nI (wst (eD σ) (24 * d - 1))) := worstM4 hE (fun j hj => b4 j (by omega)) h1 (by omega) (24 * d - 1) ms_fu 0 (by omega) (fu_lt (by omega))
  unfold fX7_worst fX8_worstOf
  rw [days_1 h1 h9, Option.bind_some, if_neg (by decide), w01 hw, Option.bind_some, if_neg (by decide), a1, b1, Option.bind_some, Option.bind_some, x1, x2, Option.bind_some, Option.bind_some, ms_g_t i240, ms_g_t i240, ixk, (a4 _ (by omega)).1, (b4 _ (by omega)).1]
  rcases (show w = 0 ∨ w = 1 by omega) with rfl | rfl
  · exact ⟨_, σ1, τ1, by rw [if_pos (by decide)], by rw [if_pos (by decide)], a2.frM b2, a3, hT⟩
  · exact ⟨_, σ1, τ1, by rw [if_neg (by decide)], by rw [if_neg (by decide)], a2.frM b2, a3, hT⟩
theorem s_worst {σ τ : Mm} (h : Rel σ τ) (p0 p1 : Int32) : ∃ (r : Int32) (σ' τ' : Mm), fX7_worst p0 p1 σ = some (r, σ') ∧ fX8_worst p0 p1 τ = some (r, τ') ∧ Rel σ' τ' := by
  rcases days_cases p0 with ⟨c1, c2⟩ | ⟨d, c0, c9, rfl, c1, c2⟩
  · unfold fX7_worst fX8_worst
    rw [c1, c2, Option.bind_some, Option.bind_some, if_pos rfl, if_pos rfl]
    exact ⟨_, _, _, rfl, rfl, h⟩
  · rcases wi_cases p1 (a := 0) (b := 1) (by decide) (by decide) with q | ⟨w, d1, d2, rfl, d4⟩
    · unfold fX7_worst fX8_worst
      rw [c1, c2, Option.bind_some, Option.bind_some, if_neg (by decide), if_neg (by decide), in_same, show fX7_within p1 0 1 = some 0 from q, Option.bind_some, Option.bind_some, if_pos rfl, if_pos rfl]
      exact ⟨_, _, _, rfl, rfl, h⟩
    · obtain ⟨r, σ1, τ1, a1, a2, a3, -⟩ := worst_s h c0 c9 (w := w) (by omega)
      refine ⟨r, σ1, τ1, a1, ?_, a3⟩
      unfold fX8_worst
      rw [c2, Option.bind_some, if_neg (by decide), in_same, show fX7_within (nI w) 0 1 = some 1 from d4, Option.bind_some, if_neg (by decide), a2, Option.bind_some]
theorem lastsXM {σ τ : Mm} {e : ev} (hE : EvOK e) (hr : ∀ j, j < 240 → RecAt σ e j) (hm : ∀ j, j < 240 → RunAt τ e j) : ∀ (d n h : Nat), h + d = 240 → d < n → ∃ r : Int32, fX0_firstStanding_2 σ n (nI h) = some r ∧ fX8_lastsNow_6 n (nI h) τ = some (r, τ) := by
  intro d
  induction d with
  | zero =>
    intro n h hd hn
    obtain ⟨n, rfl⟩ : ∃ z, n = z + 1 := ⟨n - 1, by omega⟩
    obtain rfl : h = 240 := by omega
    rw [fX0_firstStanding_2, fX8_lastsNow_6, if_pos (by decide), if_pos (by decide)]
    exact ⟨_, rfl, rfl⟩
  | succ d ih =>
    intro n h hd hn
    obtain ⟨n, rfl⟩ : ∃ z, n = z + 1 := ⟨n - 1, by omega⟩
    have i240 : ms_in (nI h) 240 := in_nI (by omega) (by decide)
    have c : ¬ (240 : Int32) ≤ nI h := by rw [show (240 : Int32) = nI 240 from rfl, le_nI (by decide) (by omega)]; omega
    rw [fX0_firstStanding_2, fX8_lastsNow_6, if_neg c, if_neg c, ms_g_t i240, ms_g_t i240, ix_nI (by omega), (hr h (by omega)).2.2.2.2, (hm h (by omega)).2.2.2.2, nI_1]
    by_cases z : nI (rq e h) = 0
    · rw [if_pos z, if_pos z]
      exact ih n (h + 1) (by omega) (by omega)
    · rw [if_neg z, if_neg z]
      exact ⟨_, rfl, rfl⟩
theorem lasts_s {σ τ : Mm} (h : Rel σ τ) : ∃ (r : Int32) (σ' τ' : Mm), fX7_lasts σ = some (r, σ') ∧ fX8_lastsNow τ = some (r, τ') ∧ Rel σ' τ' ∧ Fr Wscr σ σ' ∧ TR σ' τ' (hB σ') := by
  obtain ⟨σ1, a1, a2, a3, a4, a5⟩ := daysX h
  obtain ⟨τ1, b1, b2, b3, b4⟩ := laysM h.1
  have hT : TR σ1 τ1 (hB σ1) := by rw [hB_fr a3]; exact b3.frX a3
  obtain ⟨r, c1, c2⟩ := lastsXM (eD_ok h.1) a4 b4 240 ms_fu 0 (by decide) (fu_lt (by decide))
  refine ⟨r, σ1, τ1, ?_, ?_, a2.frM b2, a3, hT⟩
  · unfold fX7_lasts fX0_firstStanding
    rw [a1, Option.bind_some, show fX0_firstStanding_2 σ1 ms_fu 0 = some r from c1, Option.bind_some]
  · unfold fX8_lastsNow
    rw [b1, Option.bind_some]
    exact c2
theorem s_lasts {σ τ : Mm} (h : Rel σ τ) : ∃ (r : Int32) (σ' τ' : Mm), fX7_lasts σ = some (r, σ') ∧ fX8_lasts τ = some (r, τ') ∧ Rel σ' τ' := by
  obtain ⟨r, σ1, τ1, a1, a2, a3, -⟩ := lasts_s h
  refine ⟨r, σ1, τ1, a1, ?_, a3⟩
  unfold fX8_lasts
  rw [a2, Option.bind_some]
/-! what was seen -/
def unS (σ : Mm) (e : ev) : Nat → Nat
  | 0 => 0
  | i + 1 => unS σ e i + if rl e (ms_ix (σ 23 i)) = ms_ix (σ 24 i) then 0 else 1
theorem note_at {σ τ : Mm} (h : NotesOK σ τ) {i : Nat} (hi : i < sN σ) : ms_ix (σ 23 i) < 240 ∧ σ 23 i = nI (ms_ix (σ 23 i)) ∧ ms_ix (σ 24 i) < 1000 ∧ σ 24 i = nI (ms_ix (σ 24 i)) := by
  obtain ⟨⟨a, a1, a2⟩, ⟨b, b1, b2⟩⟩ := h.2.2.1 i hi
  rw [a2, b2, ix_nI (by omega), ix_nI (by omega)]
  exact ⟨a1, rfl, b1, rfl⟩
theorem unX4 {σ τ : Mm} (h : NotesOK σ τ) {e : ev} (hE : EvOK e) {σ' : Mm} (h22 : σ' 22 3 = σ 22 3) (h23 : ∀ i, σ' 23 i = σ 23 i) (h24 : ∀ i, σ' 24 i = σ 24 i) (hr : ∀ j, j < 240 → RecAt σ' e j) : ∀ (d n i : Nat), i + d = sN σ → d < n → fX5_differing_4 σ' n (nI (unS σ e i)) (nI i) = some (nI (unS σ e (sN σ))) := by
  have h12 := h.2.1
  intro d
  induction d with
  | zero =>
    intro n i hd hn
    obtain ⟨n, rfl⟩ : ∃ z, n = z + 1 := ⟨n - 1, by omega⟩
    obtain rfl : i = sN σ := by omega
    rw [fX5_differing_4, h22, h.1, ifle (by omega) (by omega), if_pos (Nat.le_refl _)]
  | succ d ih =>
    intro n i hd hn
    obtain ⟨n, rfl⟩ : ∃ z, n = z + 1 := ⟨n - 1, by omega⟩
    obtain ⟨q1, q2, q3, q4⟩ := note_at h (show i < sN σ by omega)
    have hb := rl_b hE (ms_ix (σ 23 i))
    have i12 : ms_in (nI i) 12 := in_nI (by omega) (by decide)
    have hih := ih n (i + 1) (by omega) (by omega)
    rw [fX5_differing_4, h22, h.1, ifle (by omega) (by omega), if_neg (by omega), ms_g_t i12, ms_g_t i12, ix_nI (show i < 2147483648 by omega), h23, h24]
    have g23 : ms_in (σ 23 i) 240 := by rw [q2]; exact in_nI q1 (by decide)
    rw [ms_g_t g23, (hr _ q1).1]
    unfold fX5_differing_35
    have ce : (nI (rl e (ms_ix (σ 23 i))) = σ 24 i) ↔ (rl e (ms_ix (σ 23 i)) = ms_ix (σ 24 i)) := by
      conv => lhs; rw [q4]
      rw [eq_nI (by omega) (by omega)]
    by_cases c : rl e (ms_ix (σ 23 i)) = ms_ix (σ 24 i)
    · rw [if_pos (ce.mpr c), nI_1, Int32.add_zero]
      rw [unS, if_pos c, Nat.add_zero] at hih
      exact hih
    · rw [if_neg (fun q => c (ce.mp q)), nI_1, nI_1]
      rw [unS, if_neg c] at hih
      exact hih
theorem unM4 {σ τ : Mm} (h : NotesOK σ τ) {e : ev} (hE : EvOK e) {τ' : Mm} (h25 : τ' 0 25 = τ 0 25) (h22 : ∀ i, τ' 22 i = τ 22 i) (h23 : ∀ i, τ' 23 i = τ 23 i) (hr : ∀ j, j < 240 → RunAt τ' e j) : ∀ (d n i : Nat), i + d = sN σ → d < n → fX8_unlikeBy_4 τ' n (nI (unS σ e i)) (nI i) = some (nI (unS σ e (sN σ))) := by
  have h12 := h.2.1
  intro d
  induction d with
  | zero =>
    intro n i hd hn
    obtain ⟨n, rfl⟩ : ∃ z, n = z + 1 := ⟨n - 1, by omega⟩
    obtain rfl : i = sN σ := by omega
    rw [fX8_unlikeBy_4, h25, h.2.2.2.1, h.1, ifle (by omega) (by omega), if_pos (Nat.le_refl _)]
  | succ d ih =>
    intro n i hd hn
    obtain ⟨n, rfl⟩ : ∃ z, n = z + 1 := ⟨n - 1, by omega⟩
    obtain ⟨q1, q2, q3, q4⟩ := note_at h (show i < sN σ by omega)
    have hb := rl_b hE (ms_ix (σ 23 i))
    have i12 : ms_in (nI i) 12 := in_nI (by omega) (by decide)
    obtain ⟨z1, z2⟩ := h.2.2.2.2 i (by omega)
    have hih := ih n (i + 1) (by omega) (by omega)
    rw [fX8_unlikeBy_4, h25, h.2.2.2.1, h.1, ifle (by omega) (by omega), if_neg (by omega), ms_g_t i12, ms_g_t i12, ix_nI (show i < 2147483648 by omega), h22, h23, z1, z2]
    have g23 : ms_in (σ 23 i) 240 := by rw [q2]; exact in_nI q1 (by decide)
    rw [ms_g_t g23, (hr _ q1).1]
    unfold fX8_unlikeBy_38
    have ce : (nI (rl e (ms_ix (σ 23 i))) = σ 24 i) ↔ (rl e (ms_ix (σ 23 i)) = ms_ix (σ 24 i)) := by
      conv => lhs; rw [q4]
      rw [eq_nI (by omega) (by omega)]
    by_cases c : rl e (ms_ix (σ 23 i)) = ms_ix (σ 24 i)
    · rw [if_pos (ce.mpr c), nI_1, Int32.add_zero]
      rw [unS, if_pos c, Nat.add_zero] at hih
      exact hih
    · rw [if_neg (fun q => c (ce.mp q)), nI_1, nI_1]
      rw [unS, if_neg c] at hih
      exact hih
theorem Core.notes {σ τ : Mm} (h : Core σ τ) : NotesOK σ τ := h.2.2.2.2.2.2.2.2.1
theorem unlike_s {σ τ : Mm} (h : Rel σ τ) : ∃ (r : Int32) (σ' τ' : Mm), fX7_unlike σ = some (r, σ') ∧ fX8_unlikeNow τ = some (r, τ') ∧ Rel σ' τ' ∧ Fr Wscr σ σ' ∧ TR σ' τ' (hB σ') := by
  obtain ⟨σ1, a1, a2, a3, a4, a5⟩ := daysX h
  obtain ⟨τ1, b1, b2, b3, b4⟩ := laysM h.1
  have h12 := h.1.notes.2.1
  have hT : TR σ1 τ1 (hB σ1) := by rw [hB_fr a3]; exact b3.frX a3
  refine ⟨nI (unS σ (eD σ) (sN σ)), σ1, τ1, ?_, ?_, a2.frM b2, a3, hT⟩
  · unfold fX7_unlike fX5_differing
    rw [a1, Option.bind_some, show fX5_differing_4 σ1 ms_fu 0 0 = _ from unX4 h.1.notes (eD_ok h.1) (a3 22 3 (by simp)) (fun i => a3 23 i (by simp)) (fun i => a3 24 i (by simp)) a4 (sN σ) ms_fu 0 (by omega) (fu_lt (by omega)), Option.bind_some]
  · unfold fX8_unlikeNow fX8_unlikeBy
    rw [b1, Option.bind_some, show fX8_unlikeBy_4 τ1 ms_fu 0 0 = _ from unM4 h.1.notes (eD_ok h.1) (b2 0 25 (by simp)) (fun i => b2 22 i (by simp)) (fun i => b2 23 i (by simp)) b4 (sN σ) ms_fu 0 (by omega) (fu_lt (by omega)), Option.bind_some]
theorem s_unlike {σ τ : Mm} (h : Rel σ τ) : ∃ (r : Int32) (σ' τ' : Mm), fX7_unlike σ = some (r, σ') ∧ fX8_unlike τ = some (r, τ') ∧ Rel σ' τ' := by
  obtain ⟨r, σ1, τ1, a1, a2, a3, -⟩ := unlike_s h
  refine ⟨r, σ1, τ1, a1, ?_, a3⟩
  unfold fX8_unlike
  rw [a2, Option.bind_some]
