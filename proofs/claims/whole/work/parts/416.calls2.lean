/-! ===== toil, wound, count ===== -/
theorem TR.frX {σ σ' τ : Mm} {hb : Nat} (h : TR σ τ hb) (hF : Fr Wscr σ σ') : TR σ' τ hb := by
  unfold TR at h ⊢
  simp only [tN_fr hF, gN_fr hF, td_fr hF, gd_fr hF]
  exact h
def tlS (σ : Mm) (hb a : Nat) : Nat → Nat
  | 0 => 0
  | g + 1 => tlS σ hb a g + gd σ g 0 * (gd σ g (4 + sd_ σ hb g a) + bt hb (gd σ g (2 + sd_ σ hb g a)) * sg σ 4)
theorem toilX {σ : Mm} (h : TW σ) (hS : SW σ) {hb a : Nat} (hhb : hb < 512) (ha : a < 2) : ∀ (d n g : Nat), g + d = gN σ → d < n → fX6_costOfAll_5 σ n (nI hb) (nI a) (nI (tlS σ hb a g)) (nI g) = some (nI (tlS σ hb a (gN σ))) := by
  have h8 := h.2.2.2.1
  have e4 : σ 5 (ms_ix 4) = nI (sg σ 4) := hS.1 4 (by decide)
  intro d
  induction d with
  | zero =>
    intro n g hd hn
    obtain ⟨n, rfl⟩ : ∃ z, n = z + 1 := ⟨n - 1, by omega⟩
    obtain rfl : g = gN σ := by omega
    rw [fX6_costOfAll_5, h.2.2.1, ifle (by omega) (by omega), if_pos (Nat.le_refl _)]
  | succ d ih =>
    intro n g hd hn
    obtain ⟨n, rfl⟩ : ∃ z, n = z + 1 := ⟨n - 1, by omega⟩
    have hg : g < gN σ := by omega
    have s2 := sd_2 σ hb g a
    have g8 := gd23 h hg s2
    have o0 : fX4_ofGroup σ (nI g) 0 = some (nI (gd σ g 0)) := ofGrX h hg (j := 0) (by decide)
    rw [fX6_costOfAll_5, h.2.2.1, ifle (by omega) (by omega), if_neg (by omega), sideX h hS hg hhb ha, Option.bind_some, show (2 : Int32) + nI (sd_ σ hb g a) = nI (2 + sd_ σ hb g a) from nI_add 2 _, show (4 : Int32) + nI (sd_ σ hb g a) = nI (4 + sd_ σ hb g a) from nI_add 4 _, ofGrX h hg (by omega), Option.bind_some, bit_X (by omega) (by omega), Option.bind_some, ofGrX h hg (by omega), Option.bind_some, ms_g_t (show ms_in 4 9 by decide), e4]
    simp only [ms_lt]
    rw [o0, Option.bind_some, pk_mul, nI_add, pk_mul, nI_add, nI_1]
    exact ih n (g + 1) (by omega) (by omega)
theorem toilM {σ : Mm} (h : TW σ) (hS : SW σ) {hb a : Nat} (hhb : hb < 512) (ha : a < 2) {τ : Mm} (hR : TR σ τ hb) (hSR : SR σ τ) : ∀ (d n g : Nat), g + d = gN σ → d < n → fX8_toilOf_10 n (nI a) (nI (tlS σ hb a g)) (nI g) τ = some (nI (tlS σ hb a (gN σ)), τ) := by
  have h8 := h.2.2.2.1
  intro d
  induction d with
  | zero =>
    intro n g hd hn
    obtain ⟨n, rfl⟩ : ∃ z, n = z + 1 := ⟨n - 1, by omega⟩
    obtain rfl : g = gN σ := by omega
    rw [fX8_toilOf_10, hR.2.1, ifle (by omega) (by omega), if_pos (Nat.le_refl _)]
  | succ d ih =>
    intro n g hd hn
    obtain ⟨n, rfl⟩ : ∃ z, n = z + 1 := ⟨n - 1, by omega⟩
    have hg : g < gN σ := by omega
    have s2 := sd_2 σ hb g a
    rw [fX8_toilOf_10, hR.2.1, ifle (by omega) (by omega), if_neg (by omega), ms_g_t (in_nI (show g < 9 by omega) (by decide)), wayM h hS hR hSR hhb hg ha, Option.bind_some, costM h hS hR hSR hhb hg s2, Option.bind_some, ix_nI (by omega), (hR.2.2.2.2 g hg).1]
    simp only [ms_lt]
    rw [pk_mul, nI_add, nI_1]
    exact ih n (g + 1) (by omega) (by omega)
theorem toilOf_s {σ τ : Mm} (h : Core σ τ) {a : Nat} (ha : a < 2) : ∃ (r : Int32) (τ' : Mm), fX7_toil σ (nI a) = some r ∧ fX8_toilOf (nI a) τ = some (r, τ') ∧ Fr Wms τ τ' ∧ TR σ τ' (hB σ) := by
  have h8 := h.tw.2.2.2.1
  obtain ⟨τ1, a1, a2, a3⟩ := fnowM h
  refine ⟨nI (tlS σ (hB σ) a (gN σ)), τ1, ?_, ?_, a2, a3⟩
  · have hw : fX7_within (nI a) 0 1 = some 1 := by
      unfold fX7_within
      rw [show (0 : Int32) = nI 0 from rfl, show (1 : Int32) = nI 1 from rfl, iflt (by omega) (by decide), if_neg (by omega), iflt (by decide) (by omega), if_neg (by omega)]
    unfold fX7_toil fX6_costOfAll
    rw [hw, Option.bind_some, if_neg (by decide), h.hb.2, show fX6_costOfAll_5 σ ms_fu (nI (hB σ)) (nI a) 0 0 = _ from toilX h.tw h.sw h.hb.1 ha (gN σ) ms_fu 0 (by omega) (fu_lt (by omega)), Option.bind_some]
  · unfold fX8_toilOf
    rw [a1, Option.bind_some]
    simp only
    exact toilM h.tw h.sw h.hb.1 ha a3 (h.frM a2).sr (gN σ) ms_fu 0 (by omega) (fu_lt (by omega))
theorem s_toil {σ τ : Mm} (h : Rel σ τ) (p0 : Int32) : ∃ (r : Int32) (τ' : Mm), fX7_toil σ p0 = some r ∧ fX8_toil p0 τ = some (r, τ') ∧ Rel σ τ' := by
  rcases wi_cases p0 (a := 0) (b := 1) (by decide) (by decide) with c | ⟨w, c1, c2, rfl, c4⟩
  · unfold fX7_toil fX8_toil
    rw [in_same, show fX7_within p0 0 1 = some 0 from c, Option.bind_some, Option.bind_some, if_pos rfl, if_pos rfl]
    exact ⟨_, _, rfl, rfl, h⟩
  · obtain ⟨r, τ1, a1, a2, a3, -⟩ := toilOf_s h.1 (a := w) (by omega)
    refine ⟨r, τ1, a1, ?_, h.frM a3⟩
    unfold fX8_toil
    rw [in_same, show fX7_within (nI w) 0 1 = some 1 from c4, Option.bind_some, if_neg (by decide), a2, Option.bind_some]
theorem s_wound {σ τ : Mm} (h : Rel σ τ) (p0 : Int32) : ∃ (r : Int32) (τ' : Mm), fX7_wound σ p0 = some r ∧ fX8_wound p0 τ = some (r, τ') ∧ Rel σ τ' := by
  have h8 := h.1.tw.2.2.2.1
  unfold fX7_wound fX8_wound
  rcases wi_cases p0 (a := 0) (b := 23) (by decide) (by decide) with c | ⟨w, c1, c2, rfl, c4⟩
  · rw [in_same, show fX7_within p0 0 23 = some 0 from c, Option.bind_some, Option.bind_some, if_pos rfl, if_pos rfl]
    exact ⟨_, _, rfl, rfl, h⟩
  · obtain ⟨τ1, a1, a2, a3⟩ := fnowM h.1
    rw [in_same, show fX7_within (nI w) 0 23 = some 1 from c4, Option.bind_some, Option.bind_some, if_neg (by decide), if_neg (by decide), a1, Option.bind_some]
    simp only
    unfold fX6_windingOf
    rw [h.1.hb.2, show fX6_windingOf_5 σ ms_fu (nI w) (nI (hB σ)) 0 0 = _ from windOfX5 h.1.tw h.1.sw h.1.hb.1 (by omega) (gN σ) ms_fu 0 (by omega) (fu_lt (by omega)), Option.bind_some, woundM h.1.tw h.1.sw a3 (h.1.frM a2).sr h.1.hb.1 (by omega), Option.bind_some]
    exact ⟨_, _, rfl, rfl, h.frM a2⟩
/-! bits counted -/
def pc9 (b : Nat) : Nat := bt b 0 + bt b 1 + bt b 2 + bt b 3 + bt b 4 + bt b 5 + bt b 6 + bt b 7 + bt b 8
def pcS (b : Nat) : Nat → Nat
  | 0 => 0
  | k + 1 => pcS b k + bt b k
theorem pcS_9 (b : Nat) : pcS b 9 = pc9 b := by simp [pcS, pc9]
set_option maxRecDepth 100000 in
theorem bc9 : ∀ b, b < 512 → fJ6_bitCount_0f7a4 (nI b) = some (nI (pc9 b)) := by decide +kernel
theorem pc9_6 : ∀ b, b < 64 → pc9 b = pc6 b := by decide +kernel
theorem ones4M {b : Nat} (hb : b < 512) : ∀ (d n k : Nat), k + d = 9 → d < n → fX8_ones_4 n (nI b) (nI (pcS b k)) (nI k) = some (nI (pc9 b)) := by
  intro d
  induction d with
  | zero =>
    intro n k hd hn
    obtain ⟨n, rfl⟩ : ∃ z, n = z + 1 := ⟨n - 1, by omega⟩
    obtain rfl : k = 9 := by omega
    rw [fX8_ones_4, if_pos (by decide), pcS_9]
  | succ d ih =>
    intro n k hd hn
    obtain ⟨n, rfl⟩ : ∃ z, n = z + 1 := ⟨n - 1, by omega⟩
    rw [fX8_ones_4, if_neg (by rw [show (9 : Int32) = nI 9 from rfl, le_nI (by decide) (by omega)]; omega), bt_i (by omega) (by omega), nI_add]
    simp only [ms_lt]
    rw [nI_1]
    exact ih n (k + 1) (by omega) (by omega)
theorem onesM {b : Nat} (hb : b < 512) : fX8_ones (nI b) = some (nI (pc9 b)) := ones4M hb 9 ms_fu 0 (by decide) (fu_lt (by decide))
set_option maxRecDepth 100000 in
theorem mb_or : ∀ t, t < 6 → ∀ b, b < 2 ^ t → ∀ m, m < 2 → nI b ||| ms_shl (nI m) (nI t) = nI (b + m * 2 ^ t) ∧ b + m * 2 ^ t < 2 ^ (t + 1) ∧ pc9 (b + m * 2 ^ t) = pc9 b + m := by decide +kernel
def msS (σ : Mm) : Nat → Nat
  | 0 => 0
  | t + 1 => msS σ t + td σ t 3
theorem mB_b {σ : Mm} (h : TW σ) : ∀ t, t ≤ tN σ → mB σ t < 2 ^ t ∧ pc9 (mB σ t) = msS σ t
  | 0, _ => by simp [mB, msS, pc9, bt]
  | t + 1, ht => by
    obtain ⟨h1, h2⟩ := mB_b h t (by omega)
    have h6 := h.2.1
    obtain ⟨-, q2, q3⟩ := mb_or t (by omega) (mB σ t) h1 (td σ t 3) (h.2.2.2.2.2.2.1 t (by omega)).2.2.2.2.2.2
    unfold mB msS
    exact ⟨q2, by rw [q3, h2]⟩
theorem mustX4 {σ : Mm} (h : TW σ) : ∀ (d n t : Nat), t + d = tN σ → d < n → fX4_mustBits_4 σ n (nI (mB σ t)) (nI t) = some (nI (mB σ (tN σ))) := by
  have h6 := h.2.1
  intro d
  induction d with
  | zero =>
    intro n t hd hn
    obtain ⟨n, rfl⟩ : ∃ z, n = z + 1 := ⟨n - 1, by omega⟩
    obtain rfl : t = tN σ := by omega
    rw [fX4_mustBits_4, h.1, ifle (by omega) (by omega), if_pos (Nat.le_refl _)]
  | succ d ih =>
    intro n t hd hn
    obtain ⟨n, rfl⟩ : ∃ z, n = z + 1 := ⟨n - 1, by omega⟩
    have o3 : fX4_ofThing σ (nI t) 3 = some (nI (td σ t 3)) := ofThX h (by omega) (j := 3) (by decide)
    rw [fX4_mustBits_4, h.1, ifle (by omega) (by omega), if_neg (by omega), o3, Option.bind_some, (mb_or t (by omega) (mB σ t) (mB_b h t (by omega)).1 (td σ t 3) (h.2.2.2.2.2.2.1 t (by omega)).2.2.2.2.2.2).1, nI_1]
    exact ih n (t + 1) (by omega) (by omega)
theorem mustX {σ : Mm} (h : TW σ) : fX4_mustBits σ = some (nI (mB σ (tN σ))) := mustX4 h (tN σ) ms_fu 0 (by omega) (fu_lt (by have := h.2.1; omega))
theorem mB_64 {σ : Mm} (h : TW σ) : mB σ (tN σ) < 64 := Nat.lt_of_lt_of_le (mB_b h (tN σ) (Nat.le_refl _)).1 (Nat.pow_le_pow_right (by decide) h.2.1)
def ppS (σ : Mm) : Nat → Nat
  | 0 => 0
  | g + 1 => ppS σ g + gd σ g 0
theorem pplX4 {σ : Mm} (h : TW σ) : ∀ (d n g : Nat), g + d = gN σ → d < n → fX4_allPeople_4 σ n (nI (ppS σ g)) (nI g) = some (nI (ppS σ (gN σ))) := by
  have h8 := h.2.2.2.1
  intro d
  induction d with
  | zero =>
    intro n g hd hn
    obtain ⟨n, rfl⟩ : ∃ z, n = z + 1 := ⟨n - 1, by omega⟩
    obtain rfl : g = gN σ := by omega
    rw [fX4_allPeople_4, h.2.2.1, ifle (by omega) (by omega), if_pos (Nat.le_refl _)]
  | succ d ih =>
    intro n g hd hn
    obtain ⟨n, rfl⟩ : ∃ z, n = z + 1 := ⟨n - 1, by omega⟩
    have o0 : fX4_ofGroup σ (nI g) 0 = some (nI (gd σ g 0)) := ofGrX h (by omega) (j := 0) (by decide)
    rw [fX4_allPeople_4, h.2.2.1, ifle (by omega) (by omega), if_neg (by omega), o0, Option.bind_some, nI_add, nI_1]
    exact ih n (g + 1) (by omega) (by omega)
def wdS (σ : Mm) (hb : Nat) : Nat → Nat
  | 0 => 0
  | g + 1 => wdS σ hb g + wd_ σ hb g
theorem wdayX4 {σ : Mm} (h : TW σ) (hS : SW σ) {hb : Nat} (hhb : hb < 512) : ∀ (d n g : Nat), g + d = gN σ → d < n → fX6_windingOfDay_4 σ n (nI hb) (nI (wdS σ hb g)) (nI g) = some (nI (wdS σ hb (gN σ))) := by
  have h8 := h.2.2.2.1
  intro d
  induction d with
  | zero =>
    intro n g hd hn
    obtain ⟨n, rfl⟩ : ∃ z, n = z + 1 := ⟨n - 1, by omega⟩
    obtain rfl : g = gN σ := by omega
    rw [fX6_windingOfDay_4, h.2.2.1, ifle (by omega) (by omega), if_pos (Nat.le_refl _)]
  | succ d ih =>
    intro n g hd hn
    obtain ⟨n, rfl⟩ : ∃ z, n = z + 1 := ⟨n - 1, by omega⟩
    rw [fX6_windingOfDay_4, h.2.2.1, ifle (by omega) (by omega), if_neg (by omega), wdX h hS (by omega) hhb, Option.bind_some, nI_add, nI_1]
    exact ih n (g + 1) (by omega) (by omega)
/-- all of a day, by groups and by hours -/
def dyS (σ : Mm) (hb g : Nat) : Nat → Nat
  | 0 => 0
  | h + 1 => dyS σ hb g h + gS σ hb h g
theorem dy_step (σ : Mm) (hb g : Nat) : ∀ h, dyS σ hb (g + 1) h = dyS σ hb g h + if gd σ g 1 < h then wd_ σ hb g else 0
  | 0 => by simp [dyS]
  | h + 1 => by
    have e1 : dyS σ hb (g + 1) (h + 1) = dyS σ hb (g + 1) h + gS σ hb h (g + 1) := rfl
    have e2 : dyS σ hb g (h + 1) = dyS σ hb g h + gS σ hb h g := rfl
    have e3 : gS σ hb h (g + 1) = gS σ hb h g + if gd σ g 1 = h then wd_ σ hb g else 0 := rfl
    rw [e1, dy_step σ hb g h, e2, e3]
    by_cases c : gd σ g 1 = h
    · rw [if_pos c, if_neg (by omega), if_pos (by omega)]; omega
    · rw [if_neg c]
      by_cases c2 : gd σ g 1 < h
      · rw [if_pos c2, if_pos (by omega)]; omega
      · rw [if_neg c2, if_neg (by omega)]; omega
theorem dy_0 (σ : Mm) (hb : Nat) : ∀ h, dyS σ hb 0 h = 0
  | 0 => rfl
  | h + 1 => by
    have e : dyS σ hb 0 (h + 1) = dyS σ hb 0 h + gS σ hb h 0 := rfl
    rw [e, dy_0 σ hb h]; rfl
theorem dy_all {σ : Mm} (h : TW σ) (hb : Nat) : ∀ g, g ≤ gN σ → dyS σ hb g 24 = wdS σ hb g
  | 0, _ => dy_0 σ hb 24
  | g + 1, hg => by
    rw [dy_step, dy_all h hb g (by omega), if_pos (h.2.2.2.2.2.2.2 g (by omega)).2.2.1]; rfl
theorem sum10_no {y1 : Int32} (h : ¬ y1 = 5) (n : Nat) (y2 y3 : Int32) (τ : Mm) : fX8_sumOf_10 (n + 1) y1 y2 y3 τ = fX8_sumOf_40 y1 y2 τ := by rw [fX8_sumOf_10, if_neg h, ite_self]
theorem sum43_no {y1 : Int32} (h : ¬ y1 = 6) (n : Nat) (y2 y3 : Int32) (τ : Mm) : fX8_sumOf_43 (n + 1) y1 y2 y3 τ = fX8_sumOf_74 y1 y2 τ := by rw [fX8_sumOf_43, if_neg h, ite_self]
theorem sum77_no {y1 : Int32} (h : ¬ y1 = 7) (n : Nat) (y2 y3 : Int32) (τ : Mm) : fX8_sumOf_77 (n + 1) y1 y2 y3 τ = fX8_sumOf_105 y1 y2 τ := by rw [fX8_sumOf_77, if_neg h, ite_self]
theorem sum10_5 {σ τ : Mm} (h : TW σ) {hb : Nat} (hR : TR σ τ hb) : ∀ (d n g : Nat), g + d = gN σ → d < n → fX8_sumOf_10 n 5 (nI (ppS σ g)) (nI g) τ = fX8_sumOf_40 5 (nI (ppS σ (gN σ))) τ := by
  have h8 := h.2.2.2.1
  intro d
  induction d with
  | zero =>
    intro n g hd hn
    obtain ⟨n, rfl⟩ : ∃ z, n = z + 1 := ⟨n - 1, by omega⟩
    obtain rfl : g = gN σ := by omega
    rw [fX8_sumOf_10, hR.2.1, ifle (by omega) (by omega), if_pos (Nat.le_refl _)]
  | succ d ih =>
    intro n g hd hn
    obtain ⟨n, rfl⟩ : ∃ z, n = z + 1 := ⟨n - 1, by omega⟩
    rw [fX8_sumOf_10, hR.2.1, ifle (by omega) (by omega), if_neg (by omega), if_pos rfl, ms_g_t (in_nI (show g < 9 by omega) (by decide)), ix_nI (by omega), (hR.2.2.2.2 g (by omega)).1, nI_add, nI_1]
    exact ih n (g + 1) (by omega) (by omega)
theorem sum43_6 {σ τ : Mm} (h : TW σ) {hb : Nat} (hR : TR σ τ hb) : ∀ (d n t : Nat), t + d = tN σ → d < n → fX8_sumOf_43 n 6 (nI (msS σ t)) (nI t) τ = fX8_sumOf_74 6 (nI (msS σ (tN σ))) τ := by
  have h6 := h.2.1
  intro d
  induction d with
  | zero =>
    intro n t hd hn
    obtain ⟨n, rfl⟩ : ∃ z, n = z + 1 := ⟨n - 1, by omega⟩
    obtain rfl : t = tN σ := by omega
    rw [fX8_sumOf_43, hR.1, ifle (by omega) (by omega), if_pos (Nat.le_refl _)]
  | succ d ih =>
    intro n t hd hn
    obtain ⟨n, rfl⟩ : ∃ z, n = z + 1 := ⟨n - 1, by omega⟩
    rw [fX8_sumOf_43, hR.1, ifle (by omega) (by omega), if_neg (by omega), if_pos rfl, ms_g_t (in_nI (show t < 7 by omega) (by decide)), ix_nI (by omega), (hR.2.2.2.1 t (by omega)).2.2.2, nI_add, nI_1]
    exact ih n (t + 1) (by omega) (by omega)
theorem sum77_7 {σ τ : Mm} (h : TW σ) (hS : SW σ) {hb : Nat} (hhb : hb < 512) (hR : TR σ τ hb) (hSR : SR σ τ) : ∀ (d n k : Nat), k + d = 24 → d < n → fX8_sumOf_77 n 7 (nI (dyS σ hb (gN σ) k)) (nI k) τ = fX8_sumOf_105 7 (nI (dyS σ hb (gN σ) 24)) τ := by
  intro d
  induction d with
  | zero =>
    intro n k hd hn
    obtain ⟨n, rfl⟩ : ∃ z, n = z + 1 := ⟨n - 1, by omega⟩
    obtain rfl : k = 24 := by omega
    rw [fX8_sumOf_77, if_pos (by decide)]
  | succ d ih =>
    intro n k hd hn
    obtain ⟨n, rfl⟩ : ∃ z, n = z + 1 := ⟨n - 1, by omega⟩
    rw [fX8_sumOf_77, if_neg (by rw [show (24 : Int32) = nI 24 from rfl, le_nI (by decide) (by omega)]; omega), if_pos rfl, woundM h hS hR hSR hhb (by omega), Option.bind_some, nI_add, nI_1]
    exact ih n (k + 1) (by omega) (by omega)
/-- count, of both; the reference's town is then read -/
theorem count_s {σ τ : Mm} (h : Core σ τ) (p : Int32) : ∃ (r : Int32) (τ' : Mm), fX7_count σ p = some r ∧ fX8_count p τ = some (r, τ') ∧ Fr Wms τ τ' := by
  obtain ⟨τ1, a1, a2, a3⟩ := fnowM h
  have h8 := h.tw.2.2.2.1
  have h6 := h.tw.2.1
  have hf : ms_fu = 19999 + 1 := rfl
  have h64 := mB_64 h.tw
  have hsr := (h.frM a2).sr
  have start : ∀ q, fX8_sumOf q τ = fX8_sumOf_10 ms_fu q 0 0 τ1 := by
    intro q
    unfold fX8_sumOf
    rw [a1, Option.bind_some]
  unfold fX7_count fX8_count
  by_cases c0 : p = 0
  · rw [if_pos c0, if_pos c0, start, c0, hf, sum10_no (by decide)]
    unfold fX8_sumOf_40
    rw [hf, sum43_no (by decide)]
    unfold fX8_sumOf_74
    rw [hf, sum77_no (by decide)]
    unfold fX8_sumOf_105
    rw [if_pos rfl, Option.bind_some]
    exact ⟨_, τ1, rfl, by rw [a3.1, h.tw.1], a2⟩
  rw [if_neg c0, if_neg c0]
  by_cases c1 : p = 1
  · rw [if_pos c1, if_pos c1, start, c1, hf, sum10_no (by decide)]
    unfold fX8_sumOf_40
    rw [hf, sum43_no (by decide)]
    unfold fX8_sumOf_74
    rw [hf, sum77_no (by decide)]
    unfold fX8_sumOf_105
    rw [if_neg (by decide), if_pos rfl, a3.2.2.1, onesM h.hb.1, Option.bind_some, Option.bind_some, h.hb.2, bc9 _ h.hb.1, Option.bind_some]
    exact ⟨_, τ1, rfl, rfl, a2⟩
  rw [if_neg c1, if_neg c1]
  by_cases c2 : p = 2
  · rw [if_pos c2, if_pos c2, start, c2, hf, sum10_no (by decide)]
    unfold fX8_sumOf_40
    rw [hf, sum43_no (by decide)]
    unfold fX8_sumOf_74
    rw [hf, sum77_no (by decide)]
    unfold fX8_sumOf_105
    rw [if_neg (by decide), if_neg (by decide), if_pos rfl, Option.bind_some]
    exact ⟨_, τ1, rfl, by rw [a3.2.1, h.tw.2.2.1], a2⟩
  rw [if_neg c2, if_neg c2]
  by_cases c3 : p = 3
  · rw [if_pos c3, if_pos c3]
    obtain ⟨n, b1, b2, b3, b4⟩ := h.1
    exact ⟨_, τ, rfl, by rw [b2, b3], Fr.rf⟩
  rw [if_neg c3, if_neg c3]
  by_cases c4 : p = 4
  · rw [if_pos c4, if_pos c4]
    exact ⟨_, τ, rfl, by rw [h.2.2.2.2.2.2.2.2.1.2.2.2.1], Fr.rf⟩
  rw [if_neg c4, if_neg c4]
  by_cases c5 : p = 5
  · rw [if_pos c5, if_pos c5, start, c5, show fX8_sumOf_10 ms_fu 5 0 0 τ1 = _ from sum10_5 h.tw a3 (gN σ) ms_fu 0 (by omega) (fu_lt (by omega))]
    unfold fX8_sumOf_40
    rw [hf, sum43_no (by decide)]
    unfold fX8_sumOf_74
    rw [hf, sum77_no (by decide)]
    unfold fX8_sumOf_105 fX4_allPeople
    rw [if_neg (by decide), if_neg (by decide), if_neg (by decide), Option.bind_some, show fX4_allPeople_4 σ ms_fu 0 0 = _ from pplX4 h.tw (gN σ) ms_fu 0 (by omega) (fu_lt (by omega)), Option.bind_some]
    exact ⟨_, τ1, rfl, rfl, a2⟩
  rw [if_neg c5, if_neg c5]
  by_cases c6 : p = 6
  · rw [if_pos c6, if_pos c6, start, c6, hf, sum10_no (by decide)]
    unfold fX8_sumOf_40
    rw [show fX8_sumOf_43 ms_fu 6 0 0 τ1 = _ from sum43_6 h.tw a3 (tN σ) ms_fu 0 (by omega) (fu_lt (by omega))]
    unfold fX8_sumOf_74
    rw [hf, sum77_no (by decide)]
    unfold fX8_sumOf_105
    rw [if_neg (by decide), if_neg (by decide), if_neg (by decide), Option.bind_some, mustX h.tw, Option.bind_some, bc9 _ (by omega), Option.bind_some, (mB_b h.tw (tN σ) (Nat.le_refl _)).2]
    exact ⟨_, τ1, rfl, rfl, a2⟩
  rw [if_neg c6, if_neg c6]
  by_cases c7 : p = 7
  · rw [if_pos c7, if_pos c7, start, c7, hf, sum10_no (by decide)]
    unfold fX8_sumOf_40
    rw [hf, sum43_no (by decide)]
    unfold fX8_sumOf_74
    rw [show fX8_sumOf_77 ms_fu 7 0 0 τ1 = _ from sum77_7 h.tw h.sw h.hb.1 a3 hsr 24 ms_fu 0 (by omega) (fu_lt (by omega))]
    unfold fX8_sumOf_105 fX6_windingOfDay
    rw [if_neg (by decide), if_neg (by decide), if_neg (by decide), Option.bind_some, h.hb.2, show fX6_windingOfDay_4 σ ms_fu (nI (hB σ)) 0 0 = _ from wdayX4 h.tw h.sw h.hb.1 (gN σ) ms_fu 0 (by omega) (fu_lt (by omega)), Option.bind_some, dy_all h.tw (hB σ) (gN σ) (Nat.le_refl _)]
    exact ⟨_, τ1, rfl, rfl, a2⟩
  rw [if_neg c7, if_neg c7]
  by_cases c8 : p = 8
  · rw [if_pos c8, if_pos c8]
    exact ⟨_, τ, rfl, by rw [h.2.2.2.2.2.2.2.2.2.2], Fr.rf⟩
  rw [if_neg c8, if_neg c8]
  exact ⟨_, τ, rfl, rfl, Fr.rf⟩
