/-! ===== the best shifts: the class's search ===== -/
theorem lay9 {L r : Nat} (hL : L ≤ 3) (hr : r < 13824) : ∀ (k n : Nat), k ≤ L → k < n → ∀ σ : Mm, ∃ σ', fX1_layTrial_9 n (nI (r / 24 ^ (L - k))) (nI k - 1) σ = some σ' ∧ Fr (fun k _ => k = 20) σ σ' ∧ (∀ j, j < k → σ' 20 j = nI (dgt L r j)) ∧ ∀ j, k ≤ j → σ' 20 j = σ 20 j := by
  intro k
  induction k with
  | zero =>
    intro n hk hn σ
    obtain ⟨n, rfl⟩ : ∃ z, n = z + 1 := ⟨n - 1, by omega⟩
    rw [fX1_layTrial_9, if_pos (by decide)]
    exact ⟨σ, rfl, Fr.rf, fun j hj => by omega, fun j _ => rfl⟩
  | succ k ih =>
    intro n hk hn σ
    obtain ⟨n, rfl⟩ : ∃ z, n = z + 1 := ⟨n - 1, by omega⟩
    have e1 : nI (k + 1) - 1 = nI k := by rw [show (1 : Int32) = nI 1 from rfl, pk_sub (by omega), Nat.add_sub_cancel]
    have hb : r / 24 ^ (L - (k + 1)) < 13824 := Nat.lt_of_le_of_lt (Nat.div_le_self _ _) hr
    have e2 : nI (r / 24 ^ (L - (k + 1))) / 24 = nI (r / 24 ^ (L - k)) := by
      rw [show (24 : Int32) = nI 24 from rfl, pk_div (by omega) (by decide) (by decide), Nat.div_div_eq_div_mul, ← Nat.pow_succ, show (L - (k + 1)).succ = L - k by omega]
    have e3 : ms_rem (nI (r / 24 ^ (L - (k + 1)))) 24 = nI (dgt L r k) := by
      unfold dgt
      rw [show L - 1 - k = L - (k + 1) by omega]
      exact rem_nI (d := 24) (by omega) (by decide) (by decide)
    rw [fX1_layTrial_9, e1, show (0 : Int32) = nI 0 from rfl, iflt (by omega) (by decide), if_neg (by omega), ms_g_t (in_nI (by omega) (by decide)), ix_nI (by omega), e2, e3, show nI k + -1 = nI k - 1 by rw [Int32.sub_eq_add_neg]]
    simp only [ms_lt]
    have F : Fr (fun k _ => k = 20) σ (ms_st σ 20 k (nI (dgt L r k))) := Fr.rf.st _ rfl
    obtain ⟨σ', p1, p2, p3, p4⟩ := ih n (by omega) (by omega) (ms_st σ 20 k (nI (dgt L r k)))
    refine ⟨σ', p1, F.tr p2, fun j hj => ?_, fun j hj => ?_⟩
    · rcases Nat.lt_or_ge j k with q | q
      · exact p3 j q
      · obtain rfl : j = k := by omega
        rw [p4 j (Nat.le_refl _), ms_rd, if_pos ⟨rfl, rfl⟩]
    · rw [p4 j (by omega), ms_rd, if_neg (by omega)]
set_option maxRecDepth 100000 in
theorem and6 : ∀ a, a < 64 → ∀ b, b < 64 → nI a &&& nI b = nI (a &&& b) ∧ a &&& b < 64 := by decide +kernel
theorem pc6_b (b : Nat) : pc6 b ≤ 6 := by
  have h0 := bt_2 b 0
  have h1 := bt_2 b 1
  have h2 := bt_2 b 2
  have h3 := bt_2 b 3
  have h4 := bt_2 b 4
  have h5 := bt_2 b 5
  unfold pc6
  omega
set_option maxRecDepth 100000 in
theorem pc6_and : ∀ a, a < 64 → ∀ b, b < 64 → pc6 (a &&& b) ≤ pc6 a := by decide +kernel
theorem muS_m (σ : Mm) (e : ev) {a b : Nat} (h : a ≤ b) : muS σ e a ≤ muS σ e b := by
  induction b with
  | zero => obtain rfl : a = 0 := by omega
            exact Nat.le_refl _
  | succ b ih =>
    rcases Nat.lt_or_ge b a with q | q
    · obtain rfl : a = b + 1 := by omega
      exact Nat.le_refl _
    · have := ih q
      have e1 : muS σ e (b + 1) = muS σ e b + pc6 (rq e b &&& mB σ (tN σ)) := rfl
      omega
theorem alS_m (e : ev) {a b : Nat} (h : a ≤ b) : alS e a ≤ alS e b := by
  induction b with
  | zero => obtain rfl : a = 0 := by omega
            exact Nat.le_refl _
  | succ b ih =>
    rcases Nat.lt_or_ge b a with q | q
    · obtain rfl : a = b + 1 := by omega
      exact Nat.le_refl _
    · have := ih q
      have e1 : alS e (b + 1) = alS e b + pc6 (rq e b) := rfl
      omega
theorem alS_b (e : ev) : ∀ h, alS e h ≤ 6 * h
  | 0 => Nat.le_refl _
  | h + 1 => by
    have := alS_b e h
    have := pc6_b (rq e h)
    have e1 : alS e (h + 1) = alS e h + pc6 (rq e h) := rfl
    omega
theorem muS_al {σ : Mm} (h : TW σ) {e : ev} (hE : EvOK e) : ∀ k, muS σ e k ≤ alS e k
  | 0 => Nat.le_refl _
  | k + 1 => by
    have := muS_al h hE k
    have := pc6_and (rq e k) (rq_64 hE k) (mB σ (tN σ)) (mB_64 h)
    have e1 : alS e (k + 1) = alS e k + pc6 (rq e k) := rfl
    have e2 : muS σ e (k + 1) = muS σ e k + pc6 (rq e k &&& mB σ (tN σ)) := rfl
    omega
/-- one trial -/
abbrev bett (σ0 : Mm) (e : ev) (b5 b6 : Nat) (k : Nat) : Prop := muS σ0 e k < b5 ∨ (muS σ0 e k = b5 ∧ alS e k < b6)
theorem try11 {σ0 : Mm} (h : TW σ0) {e : ev} (hE : EvOK e) {b5 b6 : Nat} (h5 : b5 < 2147483648) (h6 : b6 < 2147483648) {σs : Mm} {P : Mm → Prop} (hkp : ∀ σ1, Fr W8 σs σ1 → ∃ σ', fX1_keepTrial (nI (muS σ0 e 48)) (nI (alS e 48)) σ1 = some σ' ∧ P σ') : ∀ (d n k : Nat), k + d = 48 → d < n → ∀ σ : Mm, Fr W8 σs σ → Rd_ σ e → σ 18 4 = nI (mB σ0 (tN σ0)) → σ 18 5 = nI b5 → σ 18 6 = nI b6 → σ 8 12 = nI (rn_ e k).1 → σ 8 13 = nI (rn_ e k).2 → bett σ0 e b5 b6 k → ∃ σ', fX1_tryOut_11 n (nI (muS σ0 e k)) (nI (alS e k)) (nI k) σ = some σ' ∧ ((bett σ0 e b5 b6 48 ∧ P σ') ∨ (¬ bett σ0 e b5 b6 48 ∧ Fr W8 σs σ')) := by
  intro d
  induction d with
  | zero =>
    intro n k hd hn σ hF hR m4 m5 m6 h12 h13 hp
    obtain ⟨n, rfl⟩ : ∃ z, n = z + 1 := ⟨n - 1, by omega⟩
    obtain rfl : k = 48 := by omega
    obtain ⟨σ', k1, k2⟩ := hkp σ hF
    rw [fX1_tryOut_11, if_pos (by decide), k1, Option.bind_some]
    exact ⟨σ', rfl, Or.inl ⟨hp, k2⟩⟩
  | succ d ih =>
    intro n k hd hn σ hF hR m4 m5 m6 h12 h13 hp
    obtain ⟨n, rfl⟩ : ∃ z, n = z + 1 := ⟨n - 1, by omega⟩
    obtain ⟨σ1, t1, t2, t3, t4, -, -, t7⟩ := turnH hE hR (h := k) (by omega) h12 h13
    have hq := rq_64 hE k
    have hM := mB_64 h
    obtain ⟨a1, a2⟩ := and6 (rq e k) hq (mB σ0 (tN σ0)) hM
    have e1 : muS σ0 e (k + 1) = muS σ0 e k + pc6 (rq e k &&& mB σ0 (tN σ0)) := rfl
    have e2 : alS e (k + 1) = alS e k + pc6 (rq e k) := rfl
    have p1 := pc6_b (rq e k)
    have p2 := pc6_b (rq e k &&& mB σ0 (tN σ0))
    have s1 := alS_b e (k + 1)
    have s2 := muS_al h hE (k + 1)
    have mm := muS_m σ0 e (show k + 1 ≤ 48 by omega)
    have ma := alS_m e (show k + 1 ≤ 48 by omega)
    have g : ∀ i, σ1 18 i = σ 18 i := fun i => t2 18 i (by simp)
    rw [fX1_tryOut_11, show (48 : Int32) = nI 48 from rfl, ifle (by decide) (by omega), if_neg (by omega), t1, Option.bind_some, t7]
    unfold fX1_tryOut_84
    rw [nI_1]
    have next : bett σ0 e b5 b6 (k + 1) → ∃ σ', fX1_tryOut_11 n (nI (muS σ0 e (k + 1))) (nI (alS e (k + 1))) (nI (k + 1)) σ1 = some σ' ∧ ((bett σ0 e b5 b6 48 ∧ P σ') ∨ (¬ bett σ0 e b5 b6 48 ∧ Fr W8 σs σ')) := fun hp' => ih n (k + 1) (by omega) (by omega) σ1 (hF.tr t2) (hR.w8 t2) (by rw [g]; exact m4) (by rw [g]; exact m5) (by rw [g]; exact m6) t3 t4 hp'
    by_cases c : rq e k = 0
    · rw [if_pos (by rw [c]; rfl)]
      have z1 : pc6 (rq e k) = 0 := by rw [c]; decide
      have z2 : pc6 (rq e k &&& mB σ0 (tN σ0)) = 0 := by rw [c, Nat.zero_and]; decide
      rw [show muS σ0 e k = muS σ0 e (k + 1) by omega, show alS e k = alS e (k + 1) by omega]
      exact next (by unfold bett at hp ⊢; omega)
    · rw [if_neg (by rw [show (0 : Int32) = nI 0 from rfl, eq_nI (by omega) (by decide)]; exact c), g, m4, a1, bc9 _ (by omega), Option.bind_some, bc9 _ (by omega), Option.bind_some, pc9_6 _ a2, pc9_6 _ hq, nI_add, nI_add, ← e1, ← e2, g, m5, g, m6, iflt h5 (by omega), ifeq (by omega) h5, iflt (by omega) h6]
      by_cases c1 : b5 < muS σ0 e (k + 1)
      · rw [if_pos c1]
        exact ⟨σ1, rfl, Or.inr ⟨by unfold bett; omega, hF.tr t2⟩⟩
      · rw [if_neg c1]
        by_cases c2 : muS σ0 e (k + 1) = b5
        · rw [if_pos c2]
          by_cases c3 : alS e (k + 1) < b6
          · rw [if_pos c3]
            exact next (by unfold bett; omega)
          · rw [if_neg c3]
            exact ⟨σ1, rfl, Or.inr ⟨by unfold bett; omega, hF.tr t2⟩⟩
        · rw [if_neg c2]
          exact next (by unfold bett; omega)
/-- a trial is kept -/
theorem keep12 {σ0 : Mm} {L r : Nat} (hL : (wl σ0).length = L) (h3 : L ≤ 3) (h6 : tN σ0 ≤ 6) : ∀ (d n k : Nat), k + d = L → d < n → ∀ σ : Mm, σ 18 3 = nI L → (∀ k u, (wl σ0)[k]? = some u → σ 19 k = nI u) → (∀ j, j < L → σ 20 j = nI (dgt L r j)) → (∀ j u, j < k → (wl σ0)[j]? = some u → σ 21 u = nI (dgt L r j)) → ∃ σ', fX1_keepTrial_12 n (nI k) σ = some σ' ∧ Fr (fun k _ => k = 21) σ σ' ∧ ∀ j u, (wl σ0)[j]? = some u → σ' 21 u = nI (dgt L r j) := by
  intro d
  induction d with
  | zero =>
    intro n k hd hn σ m3 m19 m20 m21
    obtain ⟨n, rfl⟩ : ∃ z, n = z + 1 := ⟨n - 1, by omega⟩
    obtain rfl : k = L := by omega
    rw [fX1_keepTrial_12, m3, ifle (by omega) (by omega), if_pos (Nat.le_refl _)]
    refine ⟨σ, rfl, Fr.rf, fun j u hj => m21 j u ?_ hj⟩
    rcases Nat.lt_or_ge j k with q | q
    · exact q
    · rw [List.getElem?_eq_none (by omega)] at hj
      exact absurd hj (by simp)
  | succ d ih =>
    intro n k hd hn σ m3 m19 m20 m21
    obtain ⟨n, rfl⟩ : ∃ z, n = z + 1 := ⟨n - 1, by omega⟩
    obtain ⟨t, ht⟩ : ∃ t, (wl σ0)[k]? = some t := ⟨_, List.getElem?_eq_getElem (by omega)⟩
    obtain ⟨w1, w2, w3⟩ := wl_at ht
    have i3 : ms_in (nI k) 3 := in_nI (by omega) (by decide)
    rw [fX1_keepTrial_12, m3, ifle (by omega) (by omega), if_neg (by omega)]
    simp only [ms_g_t i3, ix_nI (show k < 2147483648 by omega), m19 k t ht, m20 k (by omega), ix_nI (show t < 2147483648 by omega), ms_g_t (show ms_in (nI t) 6 from in_nI (by omega) (by decide)), ms_lt]
    rw [nI_1]
    have F : Fr (fun k _ => k = 21) σ (ms_st σ 21 t (nI (dgt L r k))) := Fr.rf.st _ rfl
    obtain ⟨σ', p1, p2, p3⟩ := ih n (k + 1) (by omega) (by omega) (ms_st σ 21 t (nI (dgt L r k))) (by rw [F 18 3 (by simp)]; exact m3) (fun k u hu => by rw [F 19 k (by simp)]; exact m19 k u hu) (fun j hj => by rw [F 20 j (by simp)]; exact m20 j hj) (fun j u hj hu => by
      rw [ms_rd]
      by_cases q : u = t
      · have e1 := (wl_at hu).2.2
        rw [q, w3] at e1
        rw [if_pos ⟨rfl, q⟩, e1]
      · rw [if_neg (fun z => q z.2)]
        refine m21 j u ?_ hu
        rcases Nat.lt_or_ge j k with z | z
        · exact z
        · obtain rfl : j = k := by omega
          rw [ht] at hu
          exact absurd (Option.some.inj hu).symm q)
    exact ⟨σ', p1, F.tr p2, p3⟩
/-- one thing's hours are laid anew -/
theorem rd_set {σ0 σ : Mm} (h : TW σ0) {sh : Nat → Nat} (hR : Rd_ σ (eS σ0 sh)) {t s : Nat} (ht : t < tN σ0) (hs : s < 24) (hb : bt (sB σ0) t = 0) : Rd_ (ms_st σ 11 t (mk_ (td σ0 t 2) ((td σ0 t 1 + s) % 24))) (eS σ0 (fun u => if u = t then s else sh u)) := by
  obtain ⟨a1, a2, a3, a4, a5, a6, a7, a8, a9, a10, a11, a12⟩ := hR
  obtain ⟨-, r0, r0', r1, r2, r2', r3⟩ := h.2.2.2.2.2.2.1 t ht
  refine ⟨?_, ?_, ?_, ?_, ?_, ?_, ?_, ?_, ?_, fun j hj => ?_, fun j hj k hk => ?_, fun k hk => ?_⟩
  · rw [ms_rd, if_neg (by simp)]; exact a1
  · rw [ms_rd, if_neg (by simp)]; exact a2
  · rw [ms_rd, if_neg (by simp)]; exact a3
  · rw [ms_rd, if_neg (by simp)]; exact a4
  · rw [ms_rd, if_neg (by simp)]; exact a5
  · rw [ms_rd, if_neg (by simp)]; exact a6
  · rw [ms_rd, if_neg (by simp)]; exact a7
  · rw [ms_rd, if_neg (by simp)]; exact a8
  · rw [ms_rd, if_neg (by simp)]; exact a9
  · rw [ms_rd, if_neg (by simp)]; exact a10 j hj
  · rw [ms_rd]
    by_cases q : j = t
    · rw [if_pos ⟨rfl, q⟩, mk_T _ (by omega) _ (Nat.mod_lt _ (by decide)) k hk]
      show _ = if go_ σ0 (sB σ0) (fun u => if u = t then s else sh u) j k then 1 else 0
      unfold go_
      rw [q]
      simp [hb]
    · rw [if_neg (fun z => q z.2), a11 j hj k hk]
      show (if go_ σ0 (sB σ0) sh j k then (1 : Int32) else 0) = if go_ σ0 (sB σ0) (fun u => if u = t then s else sh u) j k then 1 else 0
      unfold go_
      simp only [if_neg q]
  · rw [ms_rd, if_neg (by simp)]; exact a12 k hk
theorem rd_cg {σ0 σ : Mm} {sh sh' : Nat → Nat} (hR : Rd_ σ (eS σ0 sh)) (he : ∀ t, t < tN σ0 → sh t = sh' t) : Rd_ σ (eS σ0 sh') := by
  obtain ⟨a1, a2, a3, a4, a5, a6, a7, a8, a9, a10, a11, a12⟩ := hR
  refine ⟨a1, a2, a3, a4, a5, a6, a7, a8, a9, a10, fun j hj k hk => ?_, a12⟩
  rw [a11 j hj k hk]
  show (if go_ σ0 (sB σ0) sh j k then (1 : Int32) else 0) = if go_ σ0 (sB σ0) sh' j k then 1 else 0
  unfold go_
  rw [he j hj]
