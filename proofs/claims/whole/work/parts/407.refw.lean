/-! ===== the reference's ways, winds, who goes ===== -/
/-- the reference's parsed rows are the class's (the handles may be others) -/
def TR (σ τ : Mm) (hb : Nat) : Prop := τ 0 3 = nI (tN σ) ∧ τ 0 11 = nI (gN σ) ∧ τ 0 10 = nI hb ∧ (∀ t, t < tN σ → τ 3 t = nI (td σ t 0) ∧ τ 4 t = nI (td σ t 1) ∧ τ 5 t = nI (td σ t 2) ∧ τ 6 t = nI (td σ t 3)) ∧ (∀ g, g < gN σ → τ 9 g = nI (gd σ g 0) ∧ τ 10 g = nI (gd σ g 1) ∧ τ 11 (2 * g) = nI (gd σ g 2) ∧ τ 11 (2 * g + 1) = nI (gd σ g 3) ∧ τ 12 (2 * g) = nI (gd σ g 4) ∧ τ 12 (2 * g + 1) = nI (gd σ g 5))
def SR (σ τ : Mm) : Prop := ∀ i, i < 9 → τ 2 i = nI (sg σ i)
theorem TR.fr {σ τ τ' : Mm} {hb : Nat} (h : TR σ τ hb) {W : Nat → Nat → Prop} (hF : Fr W τ τ') (h0 : ¬ W 0 3) (h1 : ¬ W 0 10) (h2 : ¬ W 0 11) (hk : ∀ k i, 3 ≤ k → k ≤ 12 → ¬ (k = 7 ∨ k = 8) → ¬ W k i) : TR σ τ' hb := by
  obtain ⟨a1, a2, a3, a4, a5⟩ := h
  have f : ∀ k i, 3 ≤ k → k ≤ 12 → ¬ (k = 7 ∨ k = 8) → τ' k i = τ k i := fun k i p q r => hF k i (hk k i p q r)
  refine ⟨by rw [hF _ _ h0]; exact a1, by rw [hF _ _ h2]; exact a2, by rw [hF _ _ h1]; exact a3, fun t ht => ?_, fun g hg => ?_⟩
  · rw [f 3 t (by decide) (by decide) (by decide), f 4 t (by decide) (by decide) (by decide), f 5 t (by decide) (by decide) (by decide), f 6 t (by decide) (by decide) (by decide)]
    exact a4 t ht
  · rw [f 9 g (by decide) (by decide) (by decide), f 10 g (by decide) (by decide) (by decide), f 11 (2 * g) (by decide) (by decide) (by decide), f 11 (2 * g + 1) (by decide) (by decide) (by decide), f 12 (2 * g) (by decide) (by decide) (by decide), f 12 (2 * g + 1) (by decide) (by decide) (by decide)]
    exact a5 g hg
theorem strM {σ τ : Mm} {hb : Nat} (hR : TR σ τ hb) {g j : Nat} (hg : g < gN σ) (hj : j < 2) : τ 11 (2 * g + j) = nI (gd σ g (2 + j)) ∧ τ 12 (2 * g + j) = nI (gd σ g (4 + j)) := by
  obtain ⟨-, -, c, d, e, f⟩ := hR.2.2.2.2 g hg
  rcases (show j = 0 ∨ j = 1 by omega) with rfl | rfl
  · exact ⟨c, e⟩
  · exact ⟨d, f⟩
theorem costM {σ τ : Mm} {hb : Nat} (h : TW σ) (hS : SW σ) (hR : TR σ τ hb) (hSR : SR σ τ) (hhb : hb < 512) {g j : Nat} (hg : g < gN σ) (hj : j < 2) : fX8_costOf τ (nI g) (nI j) = some (nI (gd σ g (4 + j) + bt hb (gd σ g (2 + j)) * sg σ 4)) := by
  have h8 := h.2.2.2.1
  have b := bt_2 hb (gd σ g (2 + j))
  have g8 := gd23 h hg hj
  obtain ⟨q1, q2⟩ := strM hR hg hj
  have e1 : (2 : Int32) * nI g + nI j = nI (2 * g + j) := by rw [show (2 : Int32) = nI 2 from rfl, pk_mul, nI_add]
  have i18 : ms_in (nI (2 * g + j)) 18 := in_nI (by omega) (by decide)
  have x4 : τ 2 (ms_ix 4) = nI (sg σ 4) := hSR 4 (by decide)
  unfold fX8_costOf
  rw [e1, ms_g_t i18, ms_g_t i18, ix_nI (by omega), q1, q2, hR.2.2.1, isIn_M (by omega) (by omega), Option.bind_some]
  rcases (show bt hb (gd σ g (2 + j)) = 0 ∨ bt hb (gd σ g (2 + j)) = 1 by omega) with c | c
  · rw [c, if_pos (show nI 0 = (0 : Int32) from rfl), Nat.zero_mul, Nat.add_zero, Int32.add_zero]
  · rw [c, if_neg (show ¬ nI 1 = (0 : Int32) by decide), ms_g_t (show ms_in 4 9 by decide), x4, nI_add, Nat.one_mul]
theorem way56M {σ τ : Mm} {hb : Nat} (h : TW σ) (hS : SW σ) (hR : TR σ τ hb) (hSR : SR σ τ) (hhb : hb < 512) {g : Nat} (hg : g < gN σ) : fX8_wayOf_56 τ (nI g) = some (nI (if gd σ g 4 + bt hb (gd σ g 2) * sg σ 4 ≤ gd σ g 5 + bt hb (gd σ g 3) * sg σ 4 then 0 else 1)) := by
  obtain ⟨-, r0, r1, r2, r3, r4, r5⟩ := h.2.2.2.2.2.2.2 g hg
  have m1 : bt hb (gd σ g 2) * sg σ 4 ≤ 1 * 9 := Nat.mul_le_mul (by have := bt_2 hb (gd σ g 2); omega) hS.2.2.2.2.2.1
  have m2 : bt hb (gd σ g 3) * sg σ 4 ≤ 1 * 9 := Nat.mul_le_mul (by have := bt_2 hb (gd σ g 3); omega) hS.2.2.2.2.2.1
  have c1 : fX8_costOf τ (nI g) 1 = some (nI (gd σ g 5 + bt hb (gd σ g 3) * sg σ 4)) := costM h hS hR hSR hhb hg (j := 1) (by decide)
  have c0 : fX8_costOf τ (nI g) 0 = some (nI (gd σ g 4 + bt hb (gd σ g 2) * sg σ 4)) := costM h hS hR hSR hhb hg (j := 0) (by decide)
  unfold fX8_wayOf_56
  rw [c1, Option.bind_some, c0, Option.bind_some, ifle (by omega) (by omega)]
  by_cases c : gd σ g 4 + bt hb (gd σ g 2) * sg σ 4 ≤ gd σ g 5 + bt hb (gd σ g 3) * sg σ 4
  · rw [if_pos c, if_pos c]; rfl
  · rw [if_neg c, if_neg c]; rfl
theorem wayM {σ τ : Mm} {hb : Nat} (h : TW σ) (hS : SW σ) (hR : TR σ τ hb) (hSR : SR σ τ) (hhb : hb < 512) {g asked : Nat} (hg : g < gN σ) (ha : asked < 2) : fX8_wayOf τ (nI g) (nI asked) = some (nI (sd_ σ hb g asked)) := by
  obtain ⟨-, r0, r1, r2, r3, r4, r5⟩ := h.2.2.2.2.2.2.2 g hg
  have h8 := h.2.2.2.1
  have b2 := bt_2 hb (gd σ g 2)
  have b3 := bt_2 hb (gd σ g 3)
  obtain ⟨-, -, x2, x3, -, -⟩ := hR.2.2.2.2 g hg
  have e0 : (2 : Int32) * nI g = nI (2 * g) := by rw [show (2 : Int32) = nI 2 from rfl, pk_mul]
  have e1 : nI (2 * g) + (1 : Int32) = nI (2 * g + 1) := nI_1 _
  unfold fX8_wayOf
  rw [e0, e1, ms_g_t (in_nI (show 2 * g < 18 by omega) (by decide)), ix_nI (by omega), x2, hR.2.2.1, isIn_M (by omega) (by omega), Option.bind_some, ms_g_t (in_nI (show 2 * g + 1 < 18 by omega) (by decide)), ix_nI (by omega), x3, isIn_M (by omega) (by omega), Option.bind_some, way56M h hS hR hSR hhb hg]
  unfold sd_
  by_cases c2 : bt hb (gd σ g 2) = bt hb (gd σ g 3)
  · rw [if_neg (show ¬ (asked = 1 ∧ bt hb (gd σ g 2) ≠ bt hb (gd σ g 3)) from fun q => q.2 c2), if_pos (show nI (bt hb (gd σ g 2)) = nI (bt hb (gd σ g 3)) by rw [c2]), ite_self]
  · rcases (show asked = 0 ∨ asked = 1 by omega) with rfl | rfl
    · rw [if_neg (show ¬ nI 0 = (1 : Int32) by decide), if_neg (show ¬ (0 = 1 ∧ bt hb (gd σ g 2) ≠ bt hb (gd σ g 3)) from fun q => by have := q.1; omega)]
    · rw [if_pos (show nI 1 = (1 : Int32) from rfl), if_neg (show ¬ nI (bt hb (gd σ g 2)) = nI (bt hb (gd σ g 3)) by rw [eq_nI (by omega) (by omega)]; exact c2), if_pos (show 1 = 1 ∧ bt hb (gd σ g 2) ≠ bt hb (gd σ g 3) from ⟨rfl, c2⟩)]
      rcases (show (bt hb (gd σ g 2) = 0 ∧ bt hb (gd σ g 3) = 1) ∨ (bt hb (gd σ g 2) = 1 ∧ bt hb (gd σ g 3) = 0) by omega) with ⟨u, v⟩ | ⟨u, v⟩
      · rw [u, v, if_pos (show nI 0 = (0 : Int32) from rfl)]; rfl
      · rw [u, v, if_neg (show ¬ nI 1 = (0 : Int32) by decide)]; rfl
theorem goesOfM {σ τ : Mm} {hb : Nat} (h : TW σ) (hS : SW σ) (hR : TR σ τ hb) (hSR : SR σ τ) (hhb : hb < 512) {g : Nat} (hg : g < gN σ) : fX8_goesOf τ (nI g) = some (nI (gd σ g (2 + sd_ σ hb g (sg σ 5)))) := by
  have h8 := h.2.2.2.1
  have s5 := hS.2.2.2.2.2.2.1
  have h2 := sd_2 σ hb g (sg σ 5)
  have x5 : τ 2 (ms_ix 5) = nI (sg σ 5) := hSR 5 (by decide)
  unfold fX8_goesOf
  rw [ms_g_t (show ms_in 5 9 by decide), x5, wayM h hS hR hSR hhb hg (by omega), Option.bind_some, show (2 : Int32) * nI g + nI (sd_ σ hb g (sg σ 5)) = nI (2 * g + sd_ σ hb g (sg σ 5)) by rw [show (2 : Int32) = nI 2 from rfl, pk_mul, nI_add], ms_g_t (in_nI (show 2 * g + sd_ σ hb g (sg σ 5) < 18 by omega) (by decide)), ix_nI (by omega), (strM hR hg h2).1]
theorem woundM4 {σ τ : Mm} {hb : Nat} (h : TW σ) (hS : SW σ) (hR : TR σ τ hb) (hSR : SR σ τ) (hhb : hb < 512) {k : Nat} (hk : k < 24) : ∀ (d n g : Nat), g + d = gN σ → d < n → fX8_woundAt_4 τ n (nI k) (nI (gS σ hb k g)) (nI g) = some (nI (gn_ σ hb k)) := by
  have h8 := h.2.2.2.1
  intro d
  induction d with
  | zero =>
    intro n g hd hn
    obtain ⟨n, rfl⟩ : ∃ z, n = z + 1 := ⟨n - 1, by omega⟩
    obtain rfl : g = gN σ := by omega
    rw [fX8_woundAt_4, hR.2.1, ifle (by omega) (by omega), if_pos (Nat.le_refl _)]; rfl
  | succ d ih =>
    intro n g hd hn
    obtain ⟨n, rfl⟩ : ∃ z, n = z + 1 := ⟨n - 1, by omega⟩
    have hg : g < gN σ := by omega
    obtain ⟨-, r0, r1, r2, r3, r4, r5⟩ := h.2.2.2.2.2.2.2 g hg
    obtain ⟨x0, x1, -⟩ := hR.2.2.2.2 g hg
    have i9 : ms_in (nI g) 9 := in_nI (by omega) (by decide)
    have h2 := sd_2 σ hb g (sg σ 5)
    have g8 := gd23 h hg h2
    have b := bt_2 hb (gd σ g (2 + sd_ σ hb g (sg σ 5)))
    have x00 : τ 2 (ms_ix 0) = nI (sg σ 0) := hSR 0 (by decide)
    have hih := ih n (g + 1) (by omega) (by omega)
    rw [fX8_woundAt_4, hR.2.1, ifle (by omega) (by omega), if_neg (by omega), ms_g_t i9, ix_nI (by omega), x1, ifeq (by omega) (by omega), goesOfM h hS hR hSR hhb hg, Option.bind_some, hR.2.2.1, isIn_M (by omega) (by omega), Option.bind_some, ms_g_t (show ms_in 0 9 by decide), ms_g_t i9, x0, x00, pk_mul]
    unfold fX8_woundAt_54 fX8_woundAt_55
    rw [nI_1, Int32.add_zero]
    by_cases c : gd σ g 1 = k
    · rw [if_pos c]
      rw [gS, if_pos c] at hih
      unfold wd_ at hih
      rcases (show bt hb (gd σ g (2 + sd_ σ hb g (sg σ 5))) = 0 ∨ bt hb (gd σ g (2 + sd_ σ hb g (sg σ 5))) = 1 by omega) with q | q
      · rw [q] at hih ⊢
        rw [if_pos (show nI 0 = (0 : Int32) from rfl)]
        rw [Nat.zero_mul, Nat.zero_mul, Nat.add_zero] at hih
        exact hih
      · rw [q] at hih ⊢
        rw [if_neg (show ¬ nI 1 = (0 : Int32) by decide), nI_add]
        rw [Nat.one_mul] at hih
        exact hih
    · rw [if_neg c]
      rw [gS, if_neg c, Nat.add_zero] at hih
      exact hih
theorem woundM {σ τ : Mm} {hb : Nat} (h : TW σ) (hS : SW σ) (hR : TR σ τ hb) (hSR : SR σ τ) (hhb : hb < 512) {k : Nat} (hk : k < 24) : fX8_woundAt τ (nI k) = some (nI (gn_ σ hb k)) :=
  woundM4 h hS hR hSR hhb hk (gN σ) ms_fu 0 (by omega) (fu_lt (by have := h.2.2.2.1; omega))
theorem windsM2 {σ : Mm} {hb : Nat} (h : TW σ) (hS : SW σ) (hhb : hb < 512) : ∀ (d n k : Nat), k + d = 24 → d < n → ∀ τ : Mm, TR σ τ hb → SR σ τ → (∀ j, j < k → τ 13 j = nI (gn_ σ hb j)) → ∃ τ', fX8_laysWinds_2 n (nI k) τ = some τ' ∧ Fr (fun k _ => k = 13) τ τ' ∧ ∀ j, j < 24 → τ' 13 j = nI (gn_ σ hb j) := by
  intro d
  induction d with
  | zero =>
    intro n k hd hn τ hR hSR h13
    obtain ⟨n, rfl⟩ : ∃ z, n = z + 1 := ⟨n - 1, by omega⟩
    obtain rfl : k = 24 := by omega
    rw [fX8_laysWinds_2, if_pos (by decide)]
    exact ⟨τ, rfl, Fr.rf, h13⟩
  | succ d ih =>
    intro n k hd hn τ hR hSR h13
    obtain ⟨n, rfl⟩ : ∃ z, n = z + 1 := ⟨n - 1, by omega⟩
    rw [fX8_laysWinds_2, if_neg (by rw [show (24 : Int32) = nI 24 from rfl, le_nI (by decide) (by omega)]; omega), woundM h hS hR hSR hhb (by omega), Option.bind_some, ms_g_t (in_nI (show k < 24 by omega) (by decide)), ix_nI (by omega)]
    simp only [ms_lt]
    rw [nI_1]
    have F1 : Fr (fun k _ => k = 13) τ (ms_st τ 13 k (nI (gn_ σ hb k))) := Fr.rf.st _ rfl
    obtain ⟨τ', q1, q2, q3⟩ := ih n (k + 1) (by omega) (by omega) _ (hR.fr F1 (by decide) (by decide) (by decide) (fun k i p q r z => by omega)) (fun i hi => by rw [F1 2 i (by simp)]; exact hSR i hi) (fun j hj => by
      rw [ms_rd]
      by_cases c : j = k
      · rw [if_pos ⟨rfl, c⟩, c]
      · rw [if_neg (fun q => c q.2)]; exact h13 j (by omega))
    exact ⟨τ', q1, F1.tr q2, q3⟩
theorem windsM {σ τ : Mm} {hb : Nat} (h : TW σ) (hS : SW σ) (hhb : hb < 512) (hR : TR σ τ hb) (hSR : SR σ τ) : ∃ τ', fX8_laysWinds τ = some τ' ∧ Fr (fun k _ => k = 13) τ τ' ∧ ∀ j, j < 24 → τ' 13 j = nI (gn_ σ hb j) :=
  windsM2 h hS hhb 24 ms_fu 0 (by decide) (fu_lt (by decide)) τ hR hSR (fun j hj => by omega)
set_option maxRecDepth 100000 in
theorem bt_or : ∀ a, a < 64 → ∀ b, b < 64 → ∀ t, t < 6 → bt (a ||| b) t = if bt a t = 0 ∧ bt b t = 0 then 0 else 1 := by decide +kernel
set_option maxRecDepth 100000 in
theorem or_nI : ∀ a, a < 64 → ∀ b, b < 64 → nI a ||| nI b = nI (a ||| b) ∧ a ||| b < 64 := by decide +kernel
theorem goingM {σ τ : Mm} {hb sb w : Nat} {sh : Nat → Nat} (h : TW σ) (hR : TR σ τ hb) (hsb : sb < 64) (hw : w < 64) (h7 : ∀ t, t < 6 → τ 7 t = nI (bt sb t)) (h8 : ∀ t, t < 6 → τ 8 t = nI (sh t) ∧ sh t < 24) {t k : Nat} (ht : t < tN σ) (hk : k < 240) : fX8_isGoing τ (nI t) (nI k) (nI w) = some (if go_ σ (sb ||| w) sh t (k % 24) then 1 else 0) := by
  have h6 := h.2.1
  obtain ⟨-, r0, r0', r1, r2, r2', r3⟩ := h.2.2.2.2.2.2.1 t ht
  obtain ⟨-, x1, x2, -⟩ := hR.2.2.2.1 t ht
  obtain ⟨v1, v2⟩ := h8 t (by omega)
  have i7 : ms_in (nI t) 7 := in_nI (by omega) (by decide)
  have i6 : ms_in (nI t) 6 := in_nI (by omega) (by decide)
  have hk24 : k % 24 < 24 := Nat.mod_lt _ (by decide)
  have hb24 : (td σ t 1 + sh t) % 24 < 24 := Nat.mod_lt _ (by decide)
  have e1 : ms_rem (nI (td σ t 1) + nI (sh t)) 24 = nI ((td σ t 1 + sh t) % 24) := by rw [nI_add]; exact rem_nI (d := 24) (by omega) (by decide) (by decide)
  have e2 : ms_rem (nI k) 24 = nI (k % 24) := rem_nI (d := 24) (by omega) (by decide) (by decide)
  have e3 : nI (k % 24) - nI ((td σ t 1 + sh t) % 24) + 24 = nI (k % 24 + 24 - (td σ t 1 + sh t) % 24) := by
    rw [show (24 : Int32) = nI 24 from rfl, Int32.sub_eq_add_neg, Int32.add_assoc, Int32.add_comm (-nI _), ← Int32.add_assoc, ← Int32.sub_eq_add_neg, nI_add, pk_sub (by omega)]
  have e4 : ms_rem (nI (k % 24 + 24 - (td σ t 1 + sh t) % 24)) 24 = nI ((k % 24 + 24 - (td σ t 1 + sh t) % 24) % 24) := rem_nI (d := 24) (by omega) (by decide) (by decide)
  have hm24 : (k % 24 + 24 - (td σ t 1 + sh t) % 24) % 24 < 24 := Nat.mod_lt _ (by decide)
  unfold fX8_isGoing
  rw [ms_g_t i7, ms_g_t i6, ix_nI (by omega), x1, v1, e1]
  simp only [ms_lt]
  rw [e2, e3, e4, ms_g_t i7, x2, ms_g_t i6, h7 t (by omega), ifle (by omega) (by omega), isIn_M (by omega) (by omega), Option.bind_some]
  have b1 := bt_2 sb t
  have b2 := bt_2 w t
  have hor := bt_or sb hsb w hw t (by omega)
  unfold go_
  by_cases c : (k % 24 + 24 - (td σ t 1 + sh t) % 24) % 24 < td σ t 2
  · rw [if_neg (by omega)]
    rcases (show bt sb t = 0 ∨ bt sb t = 1 by omega) with p | p
    · rw [p, if_pos (show nI 0 = (0 : Int32) from rfl)]
      rcases (show bt w t = 0 ∨ bt w t = 1 by omega) with q | q
      · rw [q, if_pos (show nI 0 = (0 : Int32) from rfl)]
        rw [p, q] at hor
        simp [hor, c]
      · rw [q, if_neg (show ¬ nI 1 = (0 : Int32) by decide)]
        rw [p, q] at hor
        simp [hor]
    · rw [p, if_neg (show ¬ nI 1 = (0 : Int32) by decide)]
      rw [p] at hor
      simp [hor]
  · rw [if_pos (by omega)]
    simp [c]
/-- all that a run of the reference needs -/
theorem rmM {σ τ : Mm} {hb sb w : Nat} {sh : Nat → Nat} (h : TW σ) (hS : SW σ) (hR : TR σ τ hb) (hSR : SR σ τ) (hsb : sb < 64) (hw : w < 64) (h7 : ∀ t, t < 6 → τ 7 t = nI (bt sb t)) (h8 : ∀ t, t < 6 → τ 8 t = nI (sh t) ∧ sh t < 24) (h13 : ∀ j, j < 24 → τ 13 j = nI (gn_ σ hb j)) (th : Int32) (tk : Nat) : Rm_ τ (evX σ hb (sb ||| w) sh th tk) (nI w) := by
  refine ⟨hR.1, hSR 1 (by decide), hSR 3 (by decide), hSR 6 (by decide), hSR 8 (by decide), ?_, hSR 7 (by decide), fun t ht => (hR.2.2.2.1 t ht).1, fun t ht k hk => goingM h hR hsb hw h7 h8 ht hk, h13⟩
  rw [hSR 1 (by decide), hSR 2 (by decide), ifle (by have := hS.2.2.1; omega) (by have := hS.2.2.2.1; omega)]
  show _ = nI (min (sg σ 2) (sg σ 1))
  by_cases c : sg σ 1 ≤ sg σ 2
  · rw [if_pos c, Nat.min_eq_right c]
  · rw [if_neg c, Nat.min_eq_left (by omega)]
