/-! ===== the best shifts: the class ===== -/
def wts (σ : Mm) (t : Nat) : Prop := td σ t 3 = 0 ∧ bt (sB σ) t = 0
theorem wtL_k (σ : Mm) : ∀ T k t, (wtL σ T)[k]? = some t → t < T ∧ wts σ t ∧ (wtL σ T).idxOf t = k
  | 0, k, t, h => by simp [wtL] at h
  | T + 1, k, t, h => by
    unfold wtL at h ⊢
    by_cases c : td σ T 3 = 0 ∧ bt (sB σ) T = 0
    · rw [if_pos c] at h ⊢
      rcases Nat.lt_or_ge k (wtL σ T).length with q | q
      · rw [List.getElem?_append_left q] at h
        obtain ⟨h1, h2, h3⟩ := wtL_k σ T k t h
        refine ⟨by omega, h2, ?_⟩
        rw [List.idxOf_append, if_pos (List.mem_of_getElem? h)]
        exact h3
      · rw [List.getElem?_append_right q] at h
        have hk : k - (wtL σ T).length = 0 := by
          rcases Nat.eq_zero_or_pos (k - (wtL σ T).length) with z | z
          · exact z
          · rw [List.getElem?_eq_none (by simp; omega)] at h
            exact absurd h (by simp)
        rw [hk] at h
        simp at h
        subst h
        have hno : T ∉ wtL σ T := fun hm => by
          obtain ⟨j, hj⟩ := List.getElem?_of_mem hm
          have := (wtL_k σ T j T hj).1
          omega
        refine ⟨by omega, c, ?_⟩
        rw [List.idxOf_append, if_neg hno]
        simp
        omega
    · rw [if_neg c] at h ⊢
      obtain ⟨h1, h2, h3⟩ := wtL_k σ T k t h
      exact ⟨by omega, h2, h3⟩
theorem wtL_m (σ : Mm) : ∀ T t, t < T → wts σ t → t ∈ wtL σ T
  | 0, t, h, _ => by omega
  | T + 1, t, h, hw => by
    unfold wtL
    by_cases q : t = T
    · subst q
      rw [if_pos (show td σ t 3 = 0 ∧ bt (sB σ) t = 0 from hw)]
      simp
    · have := wtL_m σ T t (by omega) hw
      split
      · exact List.mem_append_left _ this
      · exact this
theorem wl_at {σ : Mm} {k t : Nat} (h : (wl σ)[k]? = some t) : t < tN σ ∧ wts σ t ∧ (wl σ).idxOf t = k := wtL_k σ _ k t h
theorem wl_of {σ : Mm} {t : Nat} (ht : t < tN σ) (hw : wts σ t) : ∃ k : Nat, (wl σ)[k]? = some t := List.getElem?_of_mem (wtL_m σ _ t ht hw)
theorem shR_at {σ : Mm} {r k t : Nat} (h : (wl σ)[k]? = some t) : shR σ r t = dgt (wl σ).length r k := by
  obtain ⟨-, -, h3⟩ := wl_at h
  have hk : k < (wl σ).length := by
    rcases Nat.lt_or_ge k (wl σ).length with q | q
    · exact q
    · rw [List.getElem?_eq_none q] at h
      exact absurd h (by simp)
  unfold shR
  rw [h3, if_pos hk]
theorem shR_no {σ : Mm} {r t : Nat} (h : ¬ wts σ t) : shR σ r t = sf σ t := by
  unfold shR
  rw [if_neg]
  intro q
  exact h (wl_at (List.getElem?_eq_getElem q |>.trans (by rw [List.getElem_idxOf]))).2.1
theorem wtL_len (σ : Mm) : ∀ T, (wtL σ T).length ≤ T
  | 0 => by simp [wtL]
  | T + 1 => by
    have := wtL_len σ T
    unfold wtL
    split
    · simp; omega
    · omega
/-- the bits of those who wait -/
def wB (σ : Mm) : Nat → Nat
  | 0 => 0
  | t + 1 => wB σ t + if td σ t 3 = 0 ∧ bt (sB σ) t = 0 then 2 ^ t else 0
set_option maxRecDepth 100000 in
theorem wbit : ∀ t, t < 6 → ∀ m, m < 2 ^ t → ∀ u, u < 6 → bt (m + 2 ^ t) u = (if u = t then 1 else bt m u) ∧ pc9 (m + 2 ^ t) = pc9 m + 1 := by decide +kernel
set_option maxRecDepth 100000 in
theorem btlow : ∀ T, T < 7 → ∀ m, m < 2 ^ T → ∀ u, u < 6 → T ≤ u → bt m u = 0 := by decide +kernel
theorem wB_s (σ : Mm) : ∀ T, T ≤ 6 → wB σ T < 2 ^ T ∧ pc9 (wB σ T) = (wtL σ T).length ∧ ∀ u, u < 6 → (bt (wB σ T) u = 1 ↔ u < T ∧ wts σ u)
  | 0, _ => ⟨by show 0 < 1; decide, by show pc9 0 = 0; decide, fun u hu => by
    constructor
    · intro q
      simp [wB, bt] at q
    · intro q; omega⟩
  | T + 1, hT => by
    obtain ⟨a, b, c⟩ := wB_s σ T (by omega)
    unfold wB wtL
    have hp : 2 ^ (T + 1) = 2 ^ T + 2 ^ T := by rw [Nat.pow_succ]; omega
    by_cases q : td σ T 3 = 0 ∧ bt (sB σ) T = 0
    · rw [if_pos q, if_pos q]
      have w := wbit T (by omega) (wB σ T) a
      refine ⟨by omega, by rw [(w 0 (by decide)).2, b]; simp, fun u hu => ?_⟩
      rw [(w u hu).1]
      by_cases e : u = T
      · rw [if_pos e]
        subst e
        exact ⟨fun _ => ⟨by omega, q⟩, fun _ => rfl⟩
      · rw [if_neg e, c u hu]
        constructor
        · intro z; exact ⟨by omega, z.2⟩
        · intro z; exact ⟨by omega, z.2⟩
    · rw [if_neg q, if_neg q, Nat.add_zero]
      refine ⟨by omega, b, fun u hu => ?_⟩
      rw [c u hu]
      constructor
      · intro z; exact ⟨by omega, z.2⟩
      · intro z
        refine ⟨?_, z.2⟩
        rcases Nat.lt_or_ge u T with y | y
        · exact y
        · obtain rfl : u = T := by omega
          exact absurd z.2 q
set_option maxRecDepth 100000 in
theorem wt_t1 : ∀ T, T < 7 → ∀ m, m < 64 → ((nI (2 ^ T) - 1) &&& (nI m ^^^ (-1))) = nI (ms_ix ((nI (2 ^ T) - 1) &&& (nI m ^^^ (-1)))) ∧ ms_ix ((nI (2 ^ T) - 1) &&& (nI m ^^^ (-1))) < 64 ∧ ∀ u, u < 6 → (bt (ms_ix ((nI (2 ^ T) - 1) &&& (nI m ^^^ (-1)))) u = 1 ↔ u < T ∧ bt m u = 0) := by decide +kernel
set_option maxRecDepth 100000 in
theorem wt_t2 : ∀ m, m < 64 → ∀ s, s < 64 → (nI m &&& (nI s ^^^ (-1))) = nI (ms_ix (nI m &&& (nI s ^^^ (-1)))) ∧ ms_ix (nI m &&& (nI s ^^^ (-1))) < 64 ∧ ∀ u, u < 6 → (bt (ms_ix (nI m &&& (nI s ^^^ (-1)))) u = 1 ↔ bt m u = 1 ∧ bt s u = 0) := by decide +kernel
theorem wt_tab {T m s : Nat} (hT : T < 7) (hm : m < 64) (hs : s < 64) : ∃ x, x < 64 ∧ ((nI (2 ^ T) - 1) &&& (nI m ^^^ (-1))) &&& (nI s ^^^ (-1)) = nI x ∧ ∀ u, u < 6 → (bt x u = 1 ↔ u < T ∧ bt m u = 0 ∧ bt s u = 0) := by
  obtain ⟨a1, a2, a3⟩ := wt_t1 T hT m hm
  obtain ⟨b1, b2, b3⟩ := wt_t2 _ a2 s hs
  refine ⟨_, b2, ?_, fun u hu => ?_⟩
  · rw [← b1, ← a1]
  · rw [b3 u hu, a3 u hu]
    exact ⟨fun z => ⟨z.1.1, z.1.2, z.2⟩, fun z => ⟨⟨z.1, z.2.1⟩, z.2.2⟩⟩
set_option maxRecDepth 100000 in
theorem bt_ext : ∀ a, a < 64 → ∀ b, b < 64 → (∀ u, u < 6 → (bt a u = 1 ↔ bt b u = 1)) → a = b := by decide +kernel
theorem mB_bt {σ : Mm} (h : TW σ) : ∀ T, T ≤ tN σ → ∀ u, u < T → bt (mB σ T) u = td σ u 3
  | 0, _, u, hu => by omega
  | T + 1, hT, u, hu => by
    have h6 := h.2.1
    have ih := mB_bt h T (by omega)
    have hlt := (mB_b h T (by omega)).1
    have h3 := (h.2.2.2.2.2.2.1 T (by omega)).2.2.2.2.2.2
    unfold mB
    rcases (show td σ T 3 = 0 ∨ td σ T 3 = 1 by omega) with q | q
    · rw [q, Nat.zero_mul, Nat.add_zero]
      by_cases e : u = T
      · rw [e, q]; exact btlow T (by omega) _ hlt T (by omega) (Nat.le_refl _)
      · exact ih u (by omega)
    · rw [q, Nat.one_mul, (wbit T (by omega) _ hlt u (by omega)).1]
      by_cases e : u = T
      · rw [if_pos e, e, q]
      · rw [if_neg e]; exact ih u (by omega)
theorem waitX {σ τ : Mm} (h : Core σ τ) : fX7_waitingBits σ = some (nI (wB σ (tN σ))) ∧ wB σ (tN σ) < 64 := by
  have h6 := h.tw.2.1
  obtain ⟨a, b, c⟩ := wB_s σ (tN σ) h6
  have h64 : 2 ^ tN σ ≤ 2 ^ 6 := Nat.pow_le_pow_right (by decide) h6
  obtain ⟨x, x1, x2, x3⟩ := wt_tab (show tN σ < 7 by omega) (mB_64 h.tw) h.sb.1
  refine ⟨?_, by omega⟩
  unfold fX7_waitingBits
  rw [mustX h.tw, Option.bind_some, h.tw.1, shl1 _ (by omega), h.sb.2, x2]
  rw [bt_ext x x1 (wB σ (tN σ)) (by omega) (fun u hu => by
    rw [x3 u hu, c u hu]
    constructor
    · rintro ⟨p, q, r⟩
      exact ⟨p, by rw [← mB_bt h.tw _ (Nat.le_refl _) u p]; exact q, r⟩
    · rintro ⟨p, q, r⟩
      exact ⟨p, by rw [mB_bt h.tw _ (Nat.le_refl _) u p]; exact q, r⟩)]
/-- who waits, gathered -/
theorem gath7 {σ0 τ0 : Mm} (h : Core σ0 τ0) (hL : (wl σ0).length ≤ 3) : ∀ (d n t : Nat), t + d = 6 → d < n → ∀ σ : Mm, σ 18 3 = nI (wtL σ0 (min t (tN σ0))).length → (∀ k u, (wtL σ0 (min t (tN σ0)))[k]? = some u → σ 19 k = nI u) → ∃ σ', fX1_gather_7 n (nI (wB σ0 (tN σ0))) (nI t) σ = some σ' ∧ Fr (fun k i => (k = 18 ∧ i = 3) ∨ k = 19) σ σ' ∧ σ' 18 3 = nI (wl σ0).length ∧ ∀ k u, (wl σ0)[k]? = some u → σ' 19 k = nI u := by
  have h6 := h.tw.2.1
  have hmono : ∀ a b, a ≤ b → b ≤ tN σ0 → (wtL σ0 a).length ≤ (wtL σ0 b).length ∧ ((wtL σ0 a).length = (wtL σ0 b).length → wtL σ0 a = wtL σ0 b) := by
    intro a b hab
    induction b with
    | zero =>
      intro _
      obtain rfl : a = 0 := by omega
      exact ⟨Nat.le_refl _, fun _ => rfl⟩
    | succ b ih =>
      intro hb
      rcases Nat.lt_or_ge b a with q | q
      · obtain rfl : a = b + 1 := by omega
        exact ⟨Nat.le_refl _, fun _ => rfl⟩
      · obtain ⟨i1, i2⟩ := ih q (by omega)
        have e : wtL σ0 (b + 1) = if td σ0 b 3 = 0 ∧ bt (sB σ0) b = 0 then wtL σ0 b ++ [b] else wtL σ0 b := rfl
        rw [e]
        split
        · simp only [List.length_append, List.length_singleton]
          exact ⟨by omega, fun z => by omega⟩
        · exact ⟨i1, i2⟩
  intro d
  induction d with
  | zero =>
    intro n t hd hn σ h3 h19
    obtain ⟨n, rfl⟩ : ∃ z, n = z + 1 := ⟨n - 1, by omega⟩
    obtain rfl : t = 6 := by omega
    rw [show min 6 (tN σ0) = tN σ0 by omega] at h3 h19
    rw [fX1_gather_7, if_pos (by decide)]
    exact ⟨σ, rfl, Fr.rf, h3, h19⟩
  | succ d ih =>
    intro n t hd hn σ h3 h19
    obtain ⟨n, rfl⟩ : ∃ z, n = z + 1 := ⟨n - 1, by omega⟩
    have hl3 := (hmono (min t (tN σ0)) (tN σ0) (by omega) (Nat.le_refl _))
    have hwl : (wtL σ0 (tN σ0)).length ≤ 3 := hL
    obtain ⟨wb1, -, wb3⟩ := wB_s σ0 (tN σ0) h6
    have h64 : 2 ^ tN σ0 ≤ 2 ^ 6 := Nat.pow_le_pow_right (by decide) h6
    rw [fX1_gather_7, show (6 : Int32) = nI 6 from rfl, ifle (by decide) (by omega), if_neg (by omega), h3, show (3 : Int32) = nI 3 from rfl, ifle (by decide) (by omega)]
    by_cases c : 3 ≤ (wtL σ0 (min t (tN σ0))).length
    · rw [if_pos c]
      have e := hl3.2 (by omega)
      rw [e] at h3 h19
      exact ⟨σ, rfl, Fr.rf, h3, h19⟩
    · rw [if_neg c, bit_X (by omega) (by omega), Option.bind_some]
      unfold fX1_gather_50
      simp only [ms_lt]
      rw [nI_1]
      have b2 := bt_2 (wB σ0 (tN σ0)) t
      have wb := wb3 t (by omega)
      by_cases q : bt (wB σ0 (tN σ0)) t = 1
      · obtain ⟨q1, q2⟩ := wb.1 q
        have em : min t (tN σ0) = t := by omega
        have em1 : min (t + 1) (tN σ0) = t + 1 := by omega
        have eL : wtL σ0 (t + 1) = wtL σ0 t ++ [t] := by
          have e : wtL σ0 (t + 1) = if td σ0 t 3 = 0 ∧ bt (sB σ0) t = 0 then wtL σ0 t ++ [t] else wtL σ0 t := rfl
          rw [e, if_pos (show td σ0 t 3 = 0 ∧ bt (sB σ0) t = 0 from q2)]
        rw [em] at h3 h19 c
        rw [q, if_pos (by decide), em, ms_g_t (in_nI (show (wtL σ0 t).length < 3 by omega) (by decide)), ix_nI (by omega)]
        have r3 : ms_st σ 19 (wtL σ0 t).length (nI t) 18 3 = nI (wtL σ0 t).length := by rw [ms_rd, if_neg (by simp)]; exact h3
        rw [r3, nI_1]
        have F : Fr (fun k i => (k = 18 ∧ i = 3) ∨ k = 19) σ (ms_st (ms_st σ 19 (wtL σ0 t).length (nI t)) 18 3 (nI ((wtL σ0 t).length + 1))) := (Fr.rf.st _ (Or.inr rfl)).st _ (Or.inl ⟨rfl, rfl⟩)
        obtain ⟨σ', p1, p2, p3⟩ := ih n (t + 1) (by omega) (by omega) (ms_st (ms_st σ 19 (wtL σ0 t).length (nI t)) 18 3 (nI ((wtL σ0 t).length + 1))) (by rw [em1, ms_rd, if_pos (by decide), eL]; simp) (by
          intro k u hk
          rw [em1, eL] at hk
          rw [ms_rd, if_neg (by simp), ms_rd]
          rcases Nat.lt_or_ge k (wtL σ0 t).length with z | z
          · rw [List.getElem?_append_left z] at hk
            rw [if_neg (fun y => by omega)]
            exact h19 k u hk
          · rw [List.getElem?_append_right z] at hk
            have hk0 : k - (wtL σ0 t).length = 0 := by
              rcases Nat.eq_zero_or_pos (k - (wtL σ0 t).length) with y | y
              · exact y
              · rw [List.getElem?_eq_none (by simp; omega)] at hk
                exact absurd hk (by simp)
            rw [hk0] at hk
            simp at hk
            rw [if_pos ⟨rfl, by omega⟩, hk])
        exact ⟨σ', p1, F.tr p2, p3⟩
      · have q0 : bt (wB σ0 (tN σ0)) t = 0 := by omega
        rw [q0, if_neg (by decide)]
        have eL : wtL σ0 (min (t + 1) (tN σ0)) = wtL σ0 (min t (tN σ0)) := by
          rcases Nat.lt_or_ge t (tN σ0) with z | z
          · rw [show min (t + 1) (tN σ0) = t + 1 by omega, show min t (tN σ0) = t by omega]
            have e : wtL σ0 (t + 1) = if td σ0 t 3 = 0 ∧ bt (sB σ0) t = 0 then wtL σ0 t ++ [t] else wtL σ0 t := rfl
            rw [e, if_neg (show ¬ (td σ0 t 3 = 0 ∧ bt (sB σ0) t = 0) from fun y => q (wb.2 ⟨z, y⟩))]
          · rw [show min (t + 1) (tN σ0) = min t (tN σ0) by omega]
        exact ih n (t + 1) (by omega) (by omega) σ (by rw [eL]; exact h3) (by rw [eL]; exact h19)
