/-! ===== bits; the town by its numbers; ways and winding ===== -/
theorem shq : ∀ k, k < 32 → ((nI k &&& 31).toBitVec.smod 32).toNat = k := by decide +kernel
theorem shr_nI {n k : Nat} (hn : n < 2147483648) (hk : k < 31) : ms_shr (nI n) (nI k) = nI (n / 2 ^ k) := pk_shrN hn _ k (shq k (by omega))
theorem shl_nI {n k : Nat} (hk : k < 31) (hn : n * 2 ^ k < 4294967296) : ms_shl (nI n) (nI k) = nI (n * 2 ^ k) := pk_shlN _ k (shq k (by omega)) hn
def bt (b k : Nat) : Nat := b / 2 ^ k % 2
theorem bt_2 (b k : Nat) : bt b k < 2 := Nat.mod_lt _ (by decide)
theorem bt_i {b k : Nat} (hb : b < 2147483648) (hk : k < 31) : ms_shr (nI b) (nI k) &&& 1 = nI (bt b k) := by
  rw [shr_nI hb hk]
  have h1 : b / 2 ^ k < 4294967296 := Nat.lt_of_le_of_lt (Nat.div_le_self _ _) (by omega)
  exact pk_andN h1 (m := 1) 1 (by decide)
theorem bit_X {b k : Nat} (hb : b < 2147483648) (hk : k < 31) : fX7_bit (nI b) (nI k) = some (nI (bt b k)) := by unfold fX7_bit; rw [bt_i hb hk]
theorem isIn_M {b k : Nat} (hb : b < 2147483648) (hk : k < 31) : fX8_isIn (nI b) (nI k) = some (nI (bt b k)) := by
  unfold fX8_isIn
  rw [bt_i hb hk]
  have := bt_2 b k
  rcases (show bt b k = 0 ∨ bt b k = 1 by omega) with h | h
  · rw [h]; rfl
  · rw [h]; rfl
def tN (σ : Mm) : Nat := ms_ix (σ 1 4)
def gN (σ : Mm) : Nat := ms_ix (σ 1 5)
def hB (σ : Mm) : Nat := ms_ix (σ 1 6)
def td (σ : Mm) (t j : Nat) : Nat := ms_ix (σ 3 (4 * t + j))
def gd (σ : Mm) (g j : Nat) : Nat := ms_ix (σ 4 (6 * g + j))
def sg (σ : Mm) (i : Nat) : Nat := ms_ix (σ 5 i)
def sf (σ : Mm) (t : Nat) : Nat := ms_ix (σ 6 t)
/-- the town is well -/
def TW (σ : Mm) : Prop := σ 1 4 = nI (tN σ) ∧ tN σ ≤ 6 ∧ σ 1 5 = nI (gN σ) ∧ gN σ ≤ 8 ∧ σ 1 6 = nI (hB σ) ∧ hB σ < 512 ∧
  (∀ t, t < tN σ → (∀ j, j < 4 → σ 3 (4 * t + j) = nI (td σ t j)) ∧ 1 ≤ td σ t 0 ∧ td σ t 0 ≤ 40 ∧ td σ t 1 < 24 ∧ 1 ≤ td σ t 2 ∧ td σ t 2 ≤ 24 ∧ td σ t 3 < 2) ∧
  (∀ g, g < gN σ → (∀ j, j < 6 → σ 4 (6 * g + j) = nI (gd σ g j)) ∧ gd σ g 0 ≤ 99 ∧ gd σ g 1 < 24 ∧ gd σ g 2 ≤ 8 ∧ gd σ g 3 ≤ 8 ∧ gd σ g 4 ≤ 9 ∧ gd σ g 5 ≤ 9)
/-- the settings are well -/
def SW (σ : Mm) : Prop := (∀ i, i < 9 → σ 5 i = nI (sg σ i)) ∧ sg σ 0 ≤ 9 ∧ sg σ 1 ≤ 999 ∧ sg σ 2 ≤ 999 ∧ sg σ 3 ≤ 99 ∧ sg σ 4 ≤ 9 ∧ sg σ 5 ≤ 1 ∧ sg σ 6 ≤ 99 ∧ sg σ 7 ≤ 999 ∧ sg σ 8 ≤ 99
/-- what is worked out again and again -/
abbrev Wscr (k i : Nat) : Prop := (k = 8 ∧ 3 ≤ i) ∨ (9 ≤ k ∧ k ≤ 11) ∨ (k = 12 ∧ i = 5) ∨ (13 ≤ k ∧ k ≤ 17) ∨ (k = 18 ∧ 3 ≤ i) ∨ (19 ≤ k ∧ k ≤ 21) ∨ (k = 22 ∧ 4 ≤ i) ∨ k = 25
theorem fr_1 {σ σ' : Mm} (hF : Fr Wscr σ σ') (i : Nat) : σ' 1 i = σ 1 i := hF 1 i (by simp)
theorem fr_3 {σ σ' : Mm} (hF : Fr Wscr σ σ') (i : Nat) : σ' 3 i = σ 3 i := hF 3 i (by simp)
theorem fr_4 {σ σ' : Mm} (hF : Fr Wscr σ σ') (i : Nat) : σ' 4 i = σ 4 i := hF 4 i (by simp)
theorem fr_5 {σ σ' : Mm} (hF : Fr Wscr σ σ') (i : Nat) : σ' 5 i = σ 5 i := hF 5 i (by simp)
theorem fr_6 {σ σ' : Mm} (hF : Fr Wscr σ σ') (i : Nat) : σ' 6 i = σ 6 i := hF 6 i (by simp)
theorem fr_0 {σ σ' : Mm} (hF : Fr Wscr σ σ') (i : Nat) : σ' 0 i = σ 0 i := hF 0 i (by simp)
theorem td_fr {σ σ' : Mm} (hF : Fr Wscr σ σ') (t j : Nat) : td σ' t j = td σ t j := by unfold td; rw [fr_3 hF]
theorem gd_fr {σ σ' : Mm} (hF : Fr Wscr σ σ') (t j : Nat) : gd σ' t j = gd σ t j := by unfold gd; rw [fr_4 hF]
theorem sg_fr {σ σ' : Mm} (hF : Fr Wscr σ σ') (i : Nat) : sg σ' i = sg σ i := by unfold sg; rw [fr_5 hF]
theorem sf_fr {σ σ' : Mm} (hF : Fr Wscr σ σ') (i : Nat) : sf σ' i = sf σ i := by unfold sf; rw [fr_6 hF]
theorem tN_fr {σ σ' : Mm} (hF : Fr Wscr σ σ') : tN σ' = tN σ := by unfold tN; rw [fr_1 hF]
theorem gN_fr {σ σ' : Mm} (hF : Fr Wscr σ σ') : gN σ' = gN σ := by unfold gN; rw [fr_1 hF]
theorem hB_fr {σ σ' : Mm} (hF : Fr Wscr σ σ') : hB σ' = hB σ := by unfold hB; rw [fr_1 hF]
theorem TW.fr {σ σ' : Mm} (h : TW σ) (hF : Fr Wscr σ σ') : TW σ' := by
  obtain ⟨a1, a2, a3, a4, a5, a6, a7, a8⟩ := h
  unfold TW
  simp only [fr_1 hF, fr_3 hF, fr_4 hF, td_fr hF, gd_fr hF, tN_fr hF, gN_fr hF, hB_fr hF]
  exact ⟨a1, a2, a3, a4, a5, a6, a7, a8⟩
theorem SW.fr {σ σ' : Mm} (h : SW σ) (hF : Fr Wscr σ σ') : SW σ' := by
  unfold SW at h ⊢
  simp only [fr_5 hF, sg_fr hF]
  exact h
theorem ofThX {σ : Mm} (h : TW σ) {t j : Nat} (ht : t < tN σ) (hj : j < 4) : fX4_ofThing σ (nI t) (nI j) = some (nI (td σ t j)) := by
  have h6 := h.2.1
  unfold fX4_ofThing
  rw [show (4 : Int32) = nI 4 from rfl, pk_mul, nI_add, ms_g_t (in_nI (by omega) (by decide)), ix_nI (by omega), show t * 4 + j = 4 * t + j by omega, (h.2.2.2.2.2.2.1 t ht).1 j hj]
theorem ofGrX {σ : Mm} (h : TW σ) {g j : Nat} (hg : g < gN σ) (hj : j < 6) : fX4_ofGroup σ (nI g) (nI j) = some (nI (gd σ g j)) := by
  have h8 := h.2.2.2.1
  unfold fX4_ofGroup
  rw [show (6 : Int32) = nI 6 from rfl, pk_mul, nI_add, ms_g_t (in_nI (by omega) (by decide)), ix_nI (by omega), show g * 6 + j = 6 * g + j by omega, (h.2.2.2.2.2.2.2 g hg).1 j hj]
/-- by which of its two streets a group goes -/
def sd_ (σ : Mm) (hb g asked : Nat) : Nat := if asked = 1 ∧ bt hb (gd σ g 2) ≠ bt hb (gd σ g 3) then bt hb (gd σ g 3) else if gd σ g 4 + bt hb (gd σ g 2) * sg σ 4 ≤ gd σ g 5 + bt hb (gd σ g 3) * sg σ 4 then 0 else 1
theorem sd_2 (σ : Mm) (hb g asked : Nat) : sd_ σ hb g asked < 2 := by
  unfold sd_
  have := bt_2 hb (gd σ g 3)
  split
  · exact this
  · split <;> omega
theorem sd_fr {σ σ' : Mm} (hF : Fr Wscr σ σ') (hb g asked : Nat) : sd_ σ' hb g asked = sd_ σ hb g asked := by unfold sd_; simp only [gd_fr hF, sg_fr hF]
theorem side45X {σ : Mm} (h : TW σ) (hS : SW σ) {g a b : Nat} (hg : g < gN σ) (ha : a < 2) (hb : b < 2) : fX6_sideOf_45 σ (nI g) (nI a) (nI b) = some (nI (if gd σ g 4 + a * sg σ 4 ≤ gd σ g 5 + b * sg σ 4 then 0 else 1)) := by
  obtain ⟨-, r0, r1, r2, r3, r4, r5⟩ := h.2.2.2.2.2.2.2 g hg
  have s4 := hS.2.2.2.2.2.1
  have e4 : σ 5 (ms_ix 4) = nI (sg σ 4) := hS.1 4 (by decide)
  have m1 : a * sg σ 4 ≤ 1 * 9 := Nat.mul_le_mul (by omega) s4
  have m2 : b * sg σ 4 ≤ 1 * 9 := Nat.mul_le_mul (by omega) s4
  have o4 : fX4_ofGroup σ (nI g) 4 = some (nI (gd σ g 4)) := ofGrX h hg (j := 4) (by decide)
  have o5 : fX4_ofGroup σ (nI g) 5 = some (nI (gd σ g 5)) := ofGrX h hg (j := 5) (by decide)
  unfold fX6_sideOf_45
  rw [o4, o5]
  simp only [Option.bind_some, ms_lt]
  rw [ms_g_t (show ms_in 4 9 by decide), ms_g_t (show ms_in 4 9 by decide), e4, pk_mul, pk_mul, nI_add, nI_add, ifle (by omega) (by omega)]
  by_cases c : gd σ g 4 + a * sg σ 4 ≤ gd σ g 5 + b * sg σ 4
  · rw [if_pos c, if_pos c]; rfl
  · rw [if_neg c, if_neg c]; rfl
theorem sideXa {σ : Mm} {g p1 p2 : Int32} {a b c d : Int32} (o2 : fX4_ofGroup σ g 2 = some a) (o3 : fX4_ofGroup σ g 3 = some b) (q2 : fX7_bit p1 a = some c) (q3 : fX7_bit p1 b = some d) : fX6_sideOf σ g p1 p2 = if p2 = 1 then (if c = d then fX6_sideOf_45 σ g c d else some d) else fX6_sideOf_45 σ g c d := by
  unfold fX6_sideOf
  rw [o2, Option.bind_some, q2, Option.bind_some, o3, Option.bind_some, q3, Option.bind_some]
theorem sideX {σ : Mm} (h : TW σ) (hS : SW σ) {g hb asked : Nat} (hg : g < gN σ) (hhb : hb < 512) (ha : asked < 2) : fX6_sideOf σ (nI g) (nI hb) (nI asked) = some (nI (sd_ σ hb g asked)) := by
  obtain ⟨-, r0, r1, r2, r3, r4, r5⟩ := h.2.2.2.2.2.2.2 g hg
  have b1 := bt_2 hb (gd σ g 2)
  have b2 := bt_2 hb (gd σ g 3)
  rw [sideXa (ofGrX h hg (j := 2) (by decide)) (ofGrX h hg (j := 3) (by decide)) (bit_X (show hb < 2147483648 by omega) (show gd σ g 2 < 31 by omega)) (bit_X (show hb < 2147483648 by omega) (show gd σ g 3 < 31 by omega)), side45X h hS hg b1 b2]
  unfold sd_
  by_cases c2 : bt hb (gd σ g 2) = bt hb (gd σ g 3)
  · rw [if_neg (show ¬ (asked = 1 ∧ bt hb (gd σ g 2) ≠ bt hb (gd σ g 3)) from fun q => q.2 c2), if_pos (show nI (bt hb (gd σ g 2)) = nI (bt hb (gd σ g 3)) by rw [c2]), ite_self]
  · rcases (show asked = 0 ∨ asked = 1 by omega) with rfl | rfl
    · rw [if_neg (show ¬ nI 0 = (1 : Int32) by decide), if_neg (show ¬ (0 = 1 ∧ bt hb (gd σ g 2) ≠ bt hb (gd σ g 3)) from fun q => by have := q.1; omega)]
    · rw [if_pos (show nI 1 = (1 : Int32) from rfl), if_neg (show ¬ nI (bt hb (gd σ g 2)) = nI (bt hb (gd σ g 3)) by rw [eq_nI (by omega) (by omega)]; exact c2), if_pos (show 1 = 1 ∧ bt hb (gd σ g 2) ≠ bt hb (gd σ g 3) from ⟨rfl, c2⟩)]
/-- what a group winds -/
def wd_ (σ : Mm) (hb g : Nat) : Nat := bt hb (gd σ g (2 + sd_ σ hb g (sg σ 5))) * sg σ 0 * gd σ g 0
theorem wd_fr {σ σ' : Mm} (hF : Fr Wscr σ σ') (hb g : Nat) : wd_ σ' hb g = wd_ σ hb g := by unfold wd_; simp only [gd_fr hF, sg_fr hF, sd_fr hF]
theorem gd23 {σ : Mm} (h : TW σ) {g k : Nat} (hg : g < gN σ) (hk : k < 2) : gd σ g (2 + k) ≤ 8 := by
  obtain ⟨-, r0, r1, r2, r3, r4, r5⟩ := h.2.2.2.2.2.2.2 g hg
  rcases (show k = 0 ∨ k = 1 by omega) with rfl | rfl
  · exact r2
  · exact r3
theorem gd45 {σ : Mm} (h : TW σ) {g k : Nat} (hg : g < gN σ) (hk : k < 2) : gd σ g (4 + k) ≤ 9 := by
  obtain ⟨-, r0, r1, r2, r3, r4, r5⟩ := h.2.2.2.2.2.2.2 g hg
  rcases (show k = 0 ∨ k = 1 by omega) with rfl | rfl
  · exact r4
  · exact r5
theorem wd_b {σ : Mm} (h : TW σ) (hS : SW σ) {g hb : Nat} (hg : g < gN σ) : wd_ σ hb g ≤ 891 := by
  obtain ⟨-, r0, r1, r2, r3, r4, r5⟩ := h.2.2.2.2.2.2.2 g hg
  have := bt_2 hb (gd σ g (2 + sd_ σ hb g (sg σ 5)))
  unfold wd_
  have m1 : bt hb (gd σ g (2 + sd_ σ hb g (sg σ 5))) * sg σ 0 ≤ 1 * 9 := Nat.mul_le_mul (by omega) hS.2.1
  exact Nat.mul_le_mul m1 r0
theorem wdX {σ : Mm} (h : TW σ) (hS : SW σ) {g hb : Nat} (hg : g < gN σ) (hhb : hb < 512) : fX6_windingOfGroup σ (nI g) (nI hb) = some (nI (wd_ σ hb g)) := by
  have h2 := sd_2 σ hb g (sg σ 5)
  have e5 : σ 5 (ms_ix 5) = nI (sg σ 5) := hS.1 5 (by decide)
  have e0 : σ 5 (ms_ix 0) = nI (sg σ 0) := hS.1 0 (by decide)
  have s5 := hS.2.2.2.2.2.2.1
  have h8 := gd23 h hg h2
  unfold fX6_windingOfGroup
  rw [ms_g_t (show ms_in 5 9 by decide), e5, sideX h hS hg hhb (by omega)]
  simp only [Option.bind_some]
  rw [show (2 : Int32) = nI 2 from rfl, nI_add, ofGrX h hg (by omega)]
  simp only [Option.bind_some]
  rw [bit_X (by omega) (by omega)]
  simp only [Option.bind_some]
  rw [ms_g_t (show ms_in 0 9 by decide), e0, show (0 : Int32) = nI 0 from rfl, ofGrX h hg (by decide)]
  simp only [Option.bind_some]
  rw [pk_mul, pk_mul]
  rfl
/-- what is wound in an hour of the day, by the first groups -/
def gS (σ : Mm) (hb h : Nat) : Nat → Nat
  | 0 => 0
  | g + 1 => gS σ hb h g + if gd σ g 1 = h then wd_ σ hb g else 0
theorem gS_fr {σ σ' : Mm} (hF : Fr Wscr σ σ') (hb h : Nat) : ∀ g, gS σ' hb h g = gS σ hb h g
  | 0 => rfl
  | g + 1 => by unfold gS; rw [gS_fr hF hb h g, gd_fr hF, wd_fr hF]
theorem gS_b {σ : Mm} (h : TW σ) (hS : SW σ) (hb k : Nat) : ∀ g, g ≤ gN σ → gS σ hb k g ≤ 891 * g
  | 0, _ => by simp [gS]
  | g + 1, hg => by
    have h1 := gS_b h hS hb k g (by omega)
    have h2 := wd_b h hS (hb := hb) (show g < gN σ by omega)
    unfold gS
    split <;> omega
def gn_ (σ : Mm) (hb h : Nat) : Nat := gS σ hb h (gN σ)
theorem gn_b {σ : Mm} (h : TW σ) (hS : SW σ) (hb k : Nat) : gn_ σ hb k ≤ 8000 := by
  have := gS_b h hS hb k (gN σ) (Nat.le_refl _)
  have := h.2.2.2.1
  unfold gn_; omega
theorem gn_fr {σ σ' : Mm} (hF : Fr Wscr σ σ') (hb h : Nat) : gn_ σ' hb h = gn_ σ hb h := by unfold gn_; rw [gN_fr hF, gS_fr hF]
theorem windX7 {σ0 : Mm} (h : TW σ0) (hS : SW σ0) {hb : Nat} (hhb : hb < 512) : ∀ (d n g : Nat), g + d = gN σ0 → d < n → ∀ σ : Mm, Fr Wscr σ0 σ → (∀ k, k < 24 → σ 9 k = nI (gS σ0 hb k g)) → ∃ σ', fX6_windDay_7 n (nI hb) (nI g) σ = some σ' ∧ Fr (fun k _ => k = 9) σ σ' ∧ ∀ k, k < 24 → σ' 9 k = nI (gn_ σ0 hb k) := by
  have h8 := h.2.2.2.1
  intro d
  induction d with
  | zero =>
    intro n g hd hn σ hF h9
    obtain ⟨n, rfl⟩ : ∃ z, n = z + 1 := ⟨n - 1, by omega⟩
    obtain rfl : g = gN σ0 := by omega
    rw [fX6_windDay_7, fr_1 hF, h.2.2.1, ifle (by omega) (by omega), if_pos (Nat.le_refl _)]
    exact ⟨σ, rfl, Fr.rf, h9⟩
  | succ d ih =>
    intro n g hd hn σ hF h9
    obtain ⟨n, rfl⟩ : ∃ z, n = z + 1 := ⟨n - 1, by omega⟩
    have hg : g < gN σ0 := by omega
    obtain ⟨-, r0, r1, r2, r3, r4, r5⟩ := h.2.2.2.2.2.2.2 g hg
    have hW := h.fr hF
    have hSW := hS.fr hF
    have hg' : g < gN σ := by rw [gN_fr hF]; exact hg
    have i24 : ms_in (nI (gd σ0 g 1)) 24 := in_nI r1 (by decide)
    have hb9 := gS_b h hS hb (gd σ0 g 1) g (by omega)
    have hw9 := wd_b h hS (hb := hb) hg
    rw [fX6_windDay_7, fr_1 hF, h.2.2.1, ifle (by omega) (by omega), if_neg (by omega), show (1 : Int32) = nI 1 from rfl, ofGrX hW hg' (by decide), gd_fr hF]
    simp only [Option.bind_some]
    rw [ms_g_t i24, wdX hW hSW hg' hhb, wd_fr hF]
    simp only [Option.bind_some]
    rw [ms_g_t i24, ix_nI (by omega), h9 _ r1, nI_add]
    simp only [ms_lt]
    have F1 : Fr (fun k _ => k = 9) σ (ms_st σ 9 (gd σ0 g 1) (nI (gS σ0 hb (gd σ0 g 1) g + wd_ σ0 hb g))) := Fr.rf.st _ rfl
    obtain ⟨σ', q1, q2, q3⟩ := ih n (g + 1) (by omega) (by omega) (ms_st σ 9 (gd σ0 g 1) (nI (gS σ0 hb (gd σ0 g 1) g + wd_ σ0 hb g))) (hF.tr (F1.mo fun k i q => Or.inr (Or.inl (by omega)))) (fun k hk => by
      rw [ms_rd]
      by_cases c : k = gd σ0 g 1
      · rw [if_pos ⟨rfl, c⟩, c, gS, if_pos rfl]
      · rw [if_neg (fun q => c q.2), h9 k hk, gS, if_neg (fun q => c q.symm), Nat.add_zero])
    exact ⟨σ', by rw [nI_add]; exact q1, F1.tr q2, q3⟩
theorem windX {σ0 : Mm} (h : TW σ0) (hS : SW σ0) {hb : Nat} (hhb : hb < 512) {σ : Mm} (hF : Fr Wscr σ0 σ) : ∃ σ', fX6_windDay (nI hb) σ = some σ' ∧ Fr (fun k _ => k = 9) σ σ' ∧ ∀ k, k < 24 → σ' 9 k = nI (gn_ σ0 hb k) := by
  have h8 := h.2.2.2.1
  unfold fX6_windDay
  simp only [ms_lt]
  have F1 : Fr (fun k _ => k = 9) σ (ms_fl1 σ 9 24 0) := Fr.rf.row (fun _ => rfl)
  obtain ⟨σ', q1, q2, q3⟩ := windX7 h hS hhb (gN σ0) ms_fu 0 (by omega) (fu_lt (by omega)) (ms_fl1 σ 9 24 0) (hF.tr (F1.mo fun k i q => Or.inr (Or.inl (by omega)))) (fun k hk => by
    unfold ms_fl1 ms_fp
    rw [ms_rdr, if_pos rfl, if_pos hk]; rfl)
  exact ⟨σ', q1, F1.tr q2, q3⟩
/-- the sums over groups that toil, wound and count tell -/
theorem windOfX5 {σ : Mm} (h : TW σ) (hS : SW σ) {hb k : Nat} (hhb : hb < 512) (hk : k < 24) : ∀ (d n g : Nat), g + d = gN σ → d < n → fX6_windingOf_5 σ n (nI k) (nI hb) (nI (gS σ hb k g)) (nI g) = some (nI (gn_ σ hb k)) := by
  have h8 := h.2.2.2.1
  intro d
  induction d with
  | zero =>
    intro n g hd hn
    obtain ⟨n, rfl⟩ : ∃ z, n = z + 1 := ⟨n - 1, by omega⟩
    obtain rfl : g = gN σ := by omega
    rw [fX6_windingOf_5, h.2.2.1, ifle (by omega) (by omega), if_pos (Nat.le_refl _)]; rfl
  | succ d ih =>
    intro n g hd hn
    obtain ⟨n, rfl⟩ : ∃ z, n = z + 1 := ⟨n - 1, by omega⟩
    have hg : g < gN σ := by omega
    obtain ⟨-, r0, r1, r2, r3, r4, r5⟩ := h.2.2.2.2.2.2.2 g hg
    rw [fX6_windingOf_5, h.2.2.1, ifle (by omega) (by omega), if_neg (by omega), show (1 : Int32) = nI 1 from rfl, ofGrX h hg (by decide)]
    simp only [Option.bind_some, fX6_windingOf_41]
    rw [ifeq (by omega) (by omega), wdX h hS hg hhb]
    simp only [Option.bind_some]
    by_cases c : gd σ g 1 = k
    · rw [if_pos c, nI_add, show (1 : Int32) = nI 1 from rfl, nI_add]
      have := ih n (g + 1) (by omega) (by omega)
      rw [gS, if_pos c] at this
      exact this
    · rw [if_neg c, show (1 : Int32) = nI 1 from rfl, nI_add]
      have := ih n (g + 1) (by omega) (by omega)
      rw [gS, if_neg c, Nat.add_zero] at this
      exact this
