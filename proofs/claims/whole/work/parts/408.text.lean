/-! ===== the town's text: figures and numbers, of both ===== -/
def by_ (n : Nat) (f : Nat → Int32) (p : Nat) : Int32 := if n ≤ p then -1 else f p
/-- a figure's value; 10: it is none -/
def dg (x : Int32) : Nat := if 48 ≤ x ∧ x ≤ 57 then ms_ix x - 48 else 10
theorem dg_in {x : Int32} (h : 48 ≤ x ∧ x ≤ 57) : fX7_within x 48 57 = some 1 ∧ x - 48 = nI (dg x) ∧ dg x < 10 := by
  have h0 : ¬ x < 0 := fun q => by
    have h1 := Int32.lt_of_lt_of_le q (show (0 : Int32) ≤ 48 by decide)
    exact absurd h.1 (Int32.not_le.mpr h1)
  obtain ⟨v, hv, rfl⟩ := nI_of h0
  have h1 : 48 ≤ v := by have := h.1; rwa [show (48 : Int32) = nI 48 from rfl, le_nI (by decide) hv] at this
  have h2 : v ≤ 57 := by have := h.2; rwa [show (57 : Int32) = nI 57 from rfl, le_nI hv (by decide)] at this
  have e1 : dg (nI v) = v - 48 := by unfold dg; rw [if_pos h, ix_nI hv]
  refine ⟨?_, ?_, by omega⟩
  · unfold fX7_within
    rw [if_neg (Int32.not_lt.mpr h.1), if_neg (Int32.not_lt.mpr h.2)]
  · rw [e1, show (48 : Int32) = nI 48 from rfl, pk_sub h1]
theorem dg_out {x : Int32} (h : ¬ (48 ≤ x ∧ x ≤ 57)) : fX7_within x 48 57 = some 0 ∧ dg x = 10 := by
  refine ⟨?_, by unfold dg; rw [if_neg h]⟩
  unfold fX7_within
  by_cases c : x < 48
  · rw [if_pos c]
  · rw [if_neg c, if_pos (Int32.not_le.mp (fun q => h ⟨Int32.not_lt.mp c, q⟩))]
theorem dg_10 (x : Int32) : dg x ≤ 10 := by
  by_cases h : 48 ≤ x ∧ x ≤ 57
  · exact Nat.le_of_lt (dg_in h).2.2
  · exact Nat.le_of_eq (dg_out h).2
theorem dg_is {x : Int32} (h : dg x < 10) : 48 ≤ x ∧ x ≤ 57 := by
  by_cases c : 48 ≤ x ∧ x ≤ 57
  · exact c
  · have := (dg_out c).2; omega
/-- where a number of two figures is wrong; 1000: nowhere -/
def w2 (a b k lo hi : Nat) : Nat := if a = 10 then k else if b = 10 then k + 1 else if lo ≤ 10 * a + b ∧ 10 * a + b ≤ hi then 1000 else k
def w1 (a k hi : Nat) : Nat := if a = 10 then k else if hi < a then k else 1000
def f2 (a b : Nat) : Nat := if a = 1000 then b else a
def en (w : Nat) : Int32 := if w = 1000 then -1 else nI w
theorem en_m1 : en 1000 = -1 := rfl
theorem en_n {w : Nat} (h : w ≠ 1000) : en w = nI w := if_neg h
theorem en_eq {w : Nat} (h : w ≤ 1000) : (en w = -1) = (w = 1000) := by
  by_cases c : w = 1000
  · subst c; simp [en]
  · rw [en_n c]; simp only [c, eq_iff_iff, iff_false]; exact m1_ne (by omega)
theorem w2_b {a b k lo hi : Nat} (h : k < 900) : w2 a b k lo hi ≤ 1000 ∧ (w2 a b k lo hi ≠ 1000 → w2 a b k lo hi < 902) := by
  unfold w2; split
  · omega
  · split
    · omega
    · split <;> omega
theorem w1_b {a k hi : Nat} (h : k < 900) : w1 a k hi ≤ 1000 ∧ (w1 a k hi ≠ 1000 → w1 a k hi < 902) := by
  unfold w1; split
  · omega
  · split <;> omega
theorem f2_b {a b : Nat} (h1 : a ≤ 1000) (h2 : b ≤ 1000) (h3 : a ≠ 1000 → a < 902) (h4 : b ≠ 1000 → b < 902) : f2 a b ≤ 1000 ∧ (f2 a b ≠ 1000 → f2 a b < 902) := by
  unfold f2; split
  · exact ⟨h2, h4⟩
  · exact ⟨h1, h3⟩
/-! the class -/
def TXc (σ : Mm) (n : Nat) (f : Nat → Int32) : Prop := σ 1 3 = nI n ∧ n ≤ 100 ∧ ∀ i, i < 100 → σ 2 i = f i
abbrev Wat (k i : Nat) : Prop := k = 1 ∧ (i = 7 ∨ i = 8)
theorem TXc.fr {σ σ' : Mm} {n : Nat} {f : Nat → Int32} (h : TXc σ n f) {W : Nat → Nat → Prop} (hF : Fr W σ σ') (h1 : ¬ W 1 3) (h2 : ∀ i, ¬ W 2 i) : TXc σ' n f := ⟨by rw [hF 1 3 h1]; exact h.1, h.2.1, fun i hi => by rw [hF 2 i (h2 i)]; exact h.2.2 i hi⟩
theorem nextX {σ : Mm} {n p : Nat} {f : Nat → Int32} (h : TXc σ n f) (hp : p < 900) (h8 : σ 1 8 = nI p) : fX4_next σ = some (by_ n f p) := by
  have hn := h.2.1
  unfold fX4_next by_
  rw [h.1, h8, ifle (by omega) (by omega)]
  by_cases c : n ≤ p
  · rw [if_pos c, if_pos c]
  · rw [if_neg c, if_neg c, ms_g_t (in_nI (by omega) (by decide)), ix_nI (by omega), h.2.2 p (by omega)]
theorem figX {σ : Mm} {n p : Nat} {f : Nat → Int32} (h : TXc σ n f) (hp : p < 900) (h8 : σ 1 8 = nI p) (h7 : σ 1 7 = -1) : (dg (by_ n f p) < 10 ∧ fX4_figure σ = some (nI (dg (by_ n f p)), ms_st σ 1 8 (nI (p + 1)))) ∨ (dg (by_ n f p) = 10 ∧ fX4_figure σ = some (0, ms_st σ 1 7 (nI p))) := by
  unfold fX4_figure
  rw [if_pos h7, nextX h hp h8, Option.bind_some]
  by_cases c : 48 ≤ by_ n f p ∧ by_ n f p ≤ 57
  · obtain ⟨d1, d2, d3⟩ := dg_in c
    refine Or.inl ⟨d3, ?_⟩
    rw [d1, Option.bind_some, if_neg (by decide), d2, h8, nI_1]; rfl
  · obtain ⟨d1, d2⟩ := dg_out c
    refine Or.inr ⟨d2, ?_⟩
    rw [d1, Option.bind_some, if_pos rfl, h8]; rfl
theorem figS {σ : Mm} (h7 : ¬ σ 1 7 = -1) : fX4_figure σ = some (0, σ) := by unfold fX4_figure; rw [if_neg h7]
theorem twoS {σ : Mm} (h7 : ¬ σ 1 7 = -1) (lo hi : Int32) : ∃ v, fX4_twoFigures lo hi σ = some (v, σ) := by
  unfold fX4_twoFigures
  rw [figS h7, Option.bind_some]
  simp only
  rw [figS h7, Option.bind_some]
  simp only
  rw [if_neg h7]
  exact ⟨_, rfl⟩
theorem oneS {σ : Mm} (h7 : ¬ σ 1 7 = -1) (hi : Int32) : fX4_oneFigure hi σ = some (0, σ) := by
  unfold fX4_oneFigure
  rw [figS h7, Option.bind_some]
  simp only
  rw [if_neg h7]
theorem twoX {σ : Mm} {n k : Nat} {f : Nat → Int32} (h : TXc σ n f) (hk : k < 800) (h8 : σ 1 8 = nI k) (h7 : σ 1 7 = -1) {lo hi : Nat} (hlo : lo < 100) (hhi : hi < 100) : ∃ (v : Int32) (σ' : Mm), fX4_twoFigures (nI lo) (nI hi) σ = some (v, σ') ∧ Fr Wat σ σ' ∧
    ((w2 (dg (by_ n f k)) (dg (by_ n f (k + 1))) k lo hi = 1000 ∧ v = nI (10 * dg (by_ n f k) + dg (by_ n f (k + 1))) ∧ lo ≤ 10 * dg (by_ n f k) + dg (by_ n f (k + 1)) ∧ 10 * dg (by_ n f k) + dg (by_ n f (k + 1)) ≤ hi ∧ dg (by_ n f k) < 10 ∧ dg (by_ n f (k + 1)) < 10 ∧ σ' 1 7 = -1 ∧ σ' 1 8 = nI (k + 2)) ∨ (w2 (dg (by_ n f k)) (dg (by_ n f (k + 1))) k lo hi ≠ 1000 ∧ σ' 1 7 = nI (w2 (dg (by_ n f k)) (dg (by_ n f (k + 1))) k lo hi))) := by
  unfold fX4_twoFigures
  rcases figX h (p := k) (by omega) h8 h7 with ⟨a1, a2⟩ | ⟨a1, a2⟩
  · rw [a2, Option.bind_some]
    simp only
    have F1 : Fr Wat σ (ms_st σ 1 8 (nI (k + 1))) := Fr.rf.st _ ⟨rfl, Or.inr rfl⟩
    have T1 := h.fr F1 (by decide) (fun i => by simp)
    have v7 : ms_st σ 1 8 (nI (k + 1)) 1 7 = -1 := by rw [ms_rd, if_neg (by decide)]; exact h7
    have v8 : ms_st σ 1 8 (nI (k + 1)) 1 8 = nI (k + 1) := by rw [ms_rd, if_pos (by decide)]
    rcases figX T1 (p := k + 1) (by omega) v8 v7 with ⟨b1, b2⟩ | ⟨b1, b2⟩
    · rw [b2, Option.bind_some]
      simp only
      generalize hσ2 : ms_st (ms_st σ 1 8 (nI (k + 1))) 1 8 (nI (k + 1 + 1)) = σ2
      have F2 : Fr Wat σ σ2 := by rw [← hσ2]; exact F1.st _ ⟨rfl, Or.inr rfl⟩
      have u7 : σ2 1 7 = -1 := by rw [← hσ2, ms_rd, if_neg (by decide)]; exact v7
      have u8 : σ2 1 8 = nI (k + 2) := by rw [← hσ2, ms_rd, if_pos (by decide)]
      have e1 : nI (dg (by_ n f k)) * 10 + nI (dg (by_ n f (k + 1))) = nI (10 * dg (by_ n f k) + dg (by_ n f (k + 1))) := by
        rw [show (10 : Int32) = nI 10 from rfl, pk_mul, nI_add, Nat.mul_comm]
      rw [if_pos u7, e1]
      rcases wi_cases (nI (10 * dg (by_ n f k) + dg (by_ n f (k + 1)))) (a := lo) (b := hi) (by omega) (by omega) with c | ⟨m, c1, c2, c3, c4⟩
      · have hout : ¬ (lo ≤ 10 * dg (by_ n f k) + dg (by_ n f (k + 1)) ∧ 10 * dg (by_ n f k) + dg (by_ n f (k + 1)) ≤ hi) := by
          intro q
          have : fX7_within (nI (10 * dg (by_ n f k) + dg (by_ n f (k + 1)))) (nI lo) (nI hi) = some 1 := by
            unfold fX7_within
            rw [iflt (by omega) (by omega), if_neg (by omega), iflt (by omega) (by omega), if_neg (by omega)]
          rw [this] at c
          exact absurd (Option.some.inj c) (by decide)
        have ew : w2 (dg (by_ n f k)) (dg (by_ n f (k + 1))) k lo hi = k := by unfold w2; rw [if_neg (by omega), if_neg (by omega), if_neg hout]
        rw [c, Option.bind_some, if_pos rfl, u8]
        simp only [ms_lt]
        refine ⟨_, _, rfl, F2.st _ ⟨rfl, Or.inl rfl⟩, Or.inr ⟨by omega, ?_⟩⟩
        rw [ms_rd, if_pos (by decide), ew, show (2 : Int32) = nI 2 from rfl, pk_sub (by omega), Nat.add_sub_cancel]
      · rw [eq_nI (by omega) (by omega)] at c3
        rw [c4, Option.bind_some, if_neg (by decide)]
        refine ⟨_, _, rfl, F2, Or.inl ⟨?_, rfl, by omega, by omega, a1, b1, u7, u8⟩⟩
        unfold w2; rw [if_neg (by omega), if_neg (by omega), if_pos (by omega)]
    · rw [b2, Option.bind_some]
      simp only
      have ew : w2 (dg (by_ n f k)) (dg (by_ n f (k + 1))) k lo hi = k + 1 := by unfold w2; rw [if_neg (by omega), if_pos b1]
      have u7 : ms_st (ms_st σ 1 8 (nI (k + 1))) 1 7 (nI (k + 1)) 1 7 = nI (k + 1) := by rw [ms_rd, if_pos (by decide)]
      rw [if_neg (by rw [u7]; exact m1_ne (by omega))]
      refine ⟨_, _, rfl, F1.st _ ⟨rfl, Or.inl rfl⟩, Or.inr ⟨by omega, ?_⟩⟩
      rw [u7, ew]
  · rw [a2, Option.bind_some]
    simp only
    have ew : w2 (dg (by_ n f k)) (dg (by_ n f (k + 1))) k lo hi = k := by unfold w2; rw [if_pos a1]
    have u7 : ms_st σ 1 7 (nI k) 1 7 = nI k := by rw [ms_rd, if_pos (by decide)]
    have n7 : ¬ ms_st σ 1 7 (nI k) 1 7 = -1 := by rw [u7]; exact m1_ne (by omega)
    rw [figS n7, Option.bind_some]
    simp only
    rw [if_neg n7]
    refine ⟨_, _, rfl, Fr.rf.st _ ⟨rfl, Or.inl rfl⟩, Or.inr ⟨by omega, ?_⟩⟩
    rw [u7, ew]
theorem refuseX {σ : Mm} {k : Nat} (h8 : σ 1 8 = nI (k + 1)) (x : Int32) : fX4_refuseLast x σ = some (if x = 0 then σ else ms_st σ 1 7 (nI k)) := by
  unfold fX4_refuseLast
  by_cases c : x = 0
  · rw [if_pos c, if_pos c]
  · rw [if_neg c, if_neg c, h8, show (1 : Int32) = nI 1 from rfl, pk_sub (by omega), Nat.add_sub_cancel]; rfl
theorem oneX {σ : Mm} {n k : Nat} {f : Nat → Int32} (h : TXc σ n f) (hk : k < 800) (h8 : σ 1 8 = nI k) (h7 : σ 1 7 = -1) {hi : Nat} (hhi : hi < 100) : ∃ (v : Int32) (σ' : Mm), fX4_oneFigure (nI hi) σ = some (v, σ') ∧ Fr Wat σ σ' ∧
    ((w1 (dg (by_ n f k)) k hi = 1000 ∧ v = nI (dg (by_ n f k)) ∧ dg (by_ n f k) ≤ hi ∧ dg (by_ n f k) < 10 ∧ σ' 1 7 = -1 ∧ σ' 1 8 = nI (k + 1)) ∨ (w1 (dg (by_ n f k)) k hi ≠ 1000 ∧ σ' 1 7 = nI (w1 (dg (by_ n f k)) k hi))) := by
  unfold fX4_oneFigure
  rcases figX h (p := k) (by omega) h8 h7 with ⟨a1, a2⟩ | ⟨a1, a2⟩
  · rw [a2, Option.bind_some]
    simp only
    have F1 : Fr Wat σ (ms_st σ 1 8 (nI (k + 1))) := Fr.rf.st _ ⟨rfl, Or.inr rfl⟩
    have v7 : ms_st σ 1 8 (nI (k + 1)) 1 7 = -1 := by rw [ms_rd, if_neg (by decide)]; exact h7
    have v8 : ms_st σ 1 8 (nI (k + 1)) 1 8 = nI (k + 1) := by rw [ms_rd, if_pos (by decide)]
    rw [if_pos v7, ifle (by omega) (by omega)]
    unfold fX4_oneFigure_24
    rw [refuseX v8, refuseX v8]
    by_cases c : dg (by_ n f k) ≤ hi
    · rw [if_pos c, if_pos rfl, Option.bind_some]
      refine ⟨_, _, rfl, F1, Or.inl ⟨?_, rfl, c, a1, v7, v8⟩⟩
      unfold w1; rw [if_neg (by omega), if_neg (by omega)]
    · have ew : w1 (dg (by_ n f k)) k hi = k := by unfold w1; rw [if_neg (by omega), if_pos (by omega)]
      rw [if_neg c, if_neg (by decide), Option.bind_some]
      refine ⟨_, _, rfl, F1.st _ ⟨rfl, Or.inl rfl⟩, Or.inr ⟨by omega, ?_⟩⟩
      rw [ms_rd, if_pos (by decide), ew]
  · rw [a2, Option.bind_some]
    simp only
    have ew : w1 (dg (by_ n f k)) k hi = k := by unfold w1; rw [if_pos a1]
    have u7 : ms_st σ 1 7 (nI k) 1 7 = nI k := by rw [ms_rd, if_pos (by decide)]
    rw [if_neg (by rw [u7]; exact m1_ne (by omega))]
    refine ⟨_, _, rfl, Fr.rf.st _ ⟨rfl, Or.inl rfl⟩, Or.inr ⟨by omega, ?_⟩⟩
    rw [u7, ew]
/-! the reference -/
def TXm (τ : Mm) (n : Nat) (f : Nat → Int32) : Prop := τ 0 0 = nI n ∧ n ≤ 100 ∧ ∀ i, i < 100 → τ 1 i = f i
theorem TXm.fr {τ τ' : Mm} {n : Nat} {f : Nat → Int32} (h : TXm τ n f) {W : Nat → Nat → Prop} (hF : Fr W τ τ') (h1 : ¬ W 0 0) (h2 : ∀ i, ¬ W 1 i) : TXm τ' n f := ⟨by rw [hF 0 0 h1]; exact h.1, h.2.1, fun i hi => by rw [hF 1 i (h2 i)]; exact h.2.2 i hi⟩
theorem byteM {τ : Mm} {n p : Nat} {f : Nat → Int32} (h : TXm τ n f) (hp : p < 900) : fX8_byteAt τ (nI p) = some (by_ n f p) := by
  have hn := h.2.1
  unfold fX8_byteAt by_
  rw [h.1, ifle (by omega) (by omega)]
  by_cases c : n ≤ p
  · rw [if_pos c, if_pos c]
  · rw [if_neg c, if_neg c, ms_g_t (in_nI (by omega) (by decide)), ix_nI (by omega), h.2.2 p (by omega)]
/-- a figure's value as the reference has it -/
def fv (d : Nat) : Int32 := if d = 10 then -1 else nI d
theorem fv_eq {d : Nat} (h : d ≤ 10) : (fv d = -1) = (d = 10) := by
  unfold fv
  by_cases c : d = 10
  · simp [c]
  · simp only [c, if_false, eq_iff_iff, iff_false]; exact m1_ne (by omega)
theorem figM {τ : Mm} {n p : Nat} {f : Nat → Int32} (h : TXm τ n f) (hp : p < 900) : fX8_figureAt τ (nI p) = some (fv (dg (by_ n f p))) := by
  unfold fX8_figureAt
  rw [byteM h hp, Option.bind_some, in_same]
  by_cases c : 48 ≤ by_ n f p ∧ by_ n f p ≤ 57
  · obtain ⟨d1, d2, d3⟩ := dg_in c
    rw [d1, Option.bind_some, if_neg (by decide), d2]
    unfold fv; rw [if_neg (by omega)]
  · obtain ⟨d1, d2⟩ := dg_out c
    rw [d1, Option.bind_some, if_pos rfl]
    unfold fv; rw [if_pos d2]
theorem numM {τ : Mm} {n p : Nat} {f : Nat → Int32} (h : TXm τ n f) (hp : p < 800) : fX8_numberAt τ (nI p) = some (10 * fv (dg (by_ n f p)) + fv (dg (by_ n f (p + 1)))) := by
  unfold fX8_numberAt
  rw [figM h (by omega), Option.bind_some, nI_1, figM h (by omega), Option.bind_some]
theorem num_v {a b : Nat} (ha : a < 10) (hb : b < 10) : 10 * fv a + fv b = nI (10 * a + b) := by
  unfold fv
  rw [if_neg (by omega), if_neg (by omega), show (10 : Int32) = nI 10 from rfl, pk_mul, nI_add]
theorem wrongM {τ : Mm} {n k : Nat} {f : Nat → Int32} (h : TXm τ n f) (hk : k < 800) {lo hi : Nat} (hlo : lo < 100) (hhi : hi < 100) : fX8_wrongAt τ (nI k) (nI lo) (nI hi) = some (en (w2 (dg (by_ n f k)) (dg (by_ n f (k + 1))) k lo hi)) := by
  have d1 := dg_10 (by_ n f k)
  have d2 := dg_10 (by_ n f (k + 1))
  unfold fX8_wrongAt
  rw [figM h (by omega), Option.bind_some, nI_1, figM h (by omega), Option.bind_some, numM h hk, Option.bind_some]
  simp only [fv_eq d1, fv_eq d2]
  unfold w2
  by_cases c1 : dg (by_ n f k) = 10
  · rw [if_pos c1, if_pos c1, en_n (by omega)]
  · rw [if_neg c1, if_neg c1]
    by_cases c2 : dg (by_ n f (k + 1)) = 10
    · rw [if_pos c2, if_pos c2, en_n (by omega)]
    · rw [if_neg c2, if_neg c2, num_v (by omega) (by omega), in_same]
      unfold fX7_within
      by_cases c3 : 10 * dg (by_ n f k) + dg (by_ n f (k + 1)) < lo
      · rw [iflt (by omega) (by omega), if_pos c3, Option.bind_some, if_pos rfl, if_neg (by omega), en_n (by omega)]
      · by_cases c4 : hi < 10 * dg (by_ n f k) + dg (by_ n f (k + 1))
        · rw [iflt (by omega) (by omega), if_neg c3, iflt (by omega) (by omega), if_pos c4, Option.bind_some, if_pos rfl, if_neg (by omega), en_n (by omega)]
        · rw [iflt (by omega) (by omega), if_neg c3, iflt (by omega) (by omega), if_neg c4, Option.bind_some, if_neg (by decide), if_pos (by omega)]; rfl
