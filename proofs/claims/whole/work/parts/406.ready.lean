/-! ===== the class makes its spring ready ===== -/
def mk_ (l f : Nat) : Int32 := ((ms_shl ((ms_shl 1 (nI l)) - 1) (nI f)) ||| (ms_shr ((ms_shl 1 (nI l)) - 1) (24 - nI f))) &&& 16777215
set_option maxRecDepth 100000 in
theorem mk_T : ∀ l, l < 25 → ∀ f, f < 24 → ∀ h, h < 24 → (ms_shr (mk_ l f) (nI h)) &&& 1 = if (h + 24 - f) % 24 < l then 1 else 0 := by decide +kernel
/-- does a thing go in an hour of the day -/
def go_ (σ : Mm) (sb : Nat) (sh : Nat → Nat) (t h : Nat) : Bool := decide (bt sb t = 0) && decide ((h + 24 - (td σ t 1 + sh t) % 24) % 24 < td σ t 2)
theorem go_fr {σ σ' : Mm} (hF : Fr Wscr σ σ') (sb : Nat) (sh : Nat → Nat) (t h : Nat) : go_ σ' sb sh t h = go_ σ sb sh t h := by unfold go_; simp only [td_fr hF]
/-- what the days rest on: the town, settings, handles, who is shut, the shifts, a thief -/
def evX (σ : Mm) (hb sb : Nat) (sh : Nat → Nat) (th : Int32) (tk : Nat) : ev := (fun k => match k with | 0 => sg σ 1 | 1 => sg σ 3 | 2 => sg σ 6 | 3 => sg σ 8 | 4 => tN σ | 5 => tk | 6 => min (sg σ 2) (sg σ 1) | _ => sg σ 7, fun t => td σ t 0, fun t h => go_ σ sb sh t h, fun h => gn_ σ hb h, th)
theorem evX_fr {σ σ' : Mm} (hF : Fr Wscr σ σ') (hb sb : Nat) (sh : Nat → Nat) (th : Int32) (tk : Nat) : evX σ' hb sb sh th tk = evX σ hb sb sh th tk := by
  unfold evX
  simp only [sg_fr hF, tN_fr hF, td_fr hF, go_fr hF, gn_fr hF]
theorem evX_ok {σ : Mm} (h : TW σ) (hS : SW σ) (hb sb : Nat) (sh : Nat → Nat) (th : Int32) {tk : Nat} (htk : tk ≤ 40) : EvOK (evX σ hb sb sh th tk) := by
  obtain ⟨s0, s1, s2, s3, s4, s5, s6, s7, s8, s9⟩ := hS
  refine ⟨s2, s4, s7, s9, h.2.1, htk, ?_, s8, fun t ht => (h.2.2.2.2.2.2.1 t ht).2.2.1, fun k hk => gn_b h ⟨s0, s1, s2, s3, s4, s5, s6, s7, s8, s9⟩ hb k⟩
  show min (sg σ 2) (sg σ 1) ≤ sg σ 1
  omega
theorem hoursX {σ : Mm} (h : TW σ) {t s : Nat} (ht : t < tN σ) (hs : s < 24) : fX4_hoursOf σ (nI t) (nI s) = some (mk_ (td σ t 2) ((td σ t 1 + s) % 24)) := by
  obtain ⟨-, r0, r0', r1, r2, r2', r3⟩ := h.2.2.2.2.2.2.1 t ht
  have o2 : fX4_ofThing σ (nI t) 2 = some (nI (td σ t 2)) := ofThX h ht (j := 2) (by decide)
  have o1 : fX4_ofThing σ (nI t) 1 = some (nI (td σ t 1)) := ofThX h ht (j := 1) (by decide)
  have e1 : ms_rem (nI (td σ t 1) + nI s) 24 = nI ((td σ t 1 + s) % 24) := by rw [nI_add]; exact rem_nI (d := 24) (by omega) (by decide) (by decide)
  unfold fX4_hoursOf
  rw [o2, Option.bind_some, o1, Option.bind_some, e1]
  rfl
theorem takeX {σ : Mm} (hS : SW σ) : ∃ σ', fX3_take σ = some σ' ∧ Fr (fun k i => k = 8 ∧ 4 ≤ i ∧ i < 10) σ σ' ∧ σ' 8 4 = nI (sg σ 1) ∧ σ' 8 5 = nI (sg σ 3) ∧ σ' 8 6 = nI (sg σ 6) ∧ σ' 8 7 = nI (sg σ 8) ∧ σ' 8 8 = nI (min (sg σ 2) (sg σ 1)) ∧ σ' 8 9 = nI (sg σ 7) := by
  obtain ⟨s0, s1, s2, s3, s4, s5, s6, s7, s8, s9⟩ := hS
  have x1 : σ 5 1 = nI (sg σ 1) := s0 1 (by decide)
  have x2 : σ 5 2 = nI (sg σ 2) := s0 2 (by decide)
  have x3 : σ 5 3 = nI (sg σ 3) := s0 3 (by decide)
  have x6 : σ 5 6 = nI (sg σ 6) := s0 6 (by decide)
  have x7 : σ 5 7 = nI (sg σ 7) := s0 7 (by decide)
  have x8 : σ 5 8 = nI (sg σ 8) := s0 8 (by decide)
  unfold fX3_take
  simp only [ms_g_t (show ms_in 1 9 by decide), ms_g_t (show ms_in 2 9 by decide), ms_g_t (show ms_in 3 9 by decide), ms_g_t (show ms_in 6 9 by decide), ms_g_t (show ms_in 7 9 by decide), ms_g_t (show ms_in 8 9 by decide), ms_lt, show ms_ix 1 = 1 from rfl, show ms_ix 2 = 2 from rfl, show ms_ix 3 = 3 from rfl, show ms_ix 6 = 6 from rfl, show ms_ix 7 = 7 from rfl, show ms_ix 8 = 8 from rfl]
  refine ⟨_, rfl, ?_, ?_, ?_, ?_, ?_, ?_, ?_⟩
  · exact (((((Fr.rf.st _ ⟨rfl, by decide, by decide⟩).st _ ⟨rfl, by decide, by decide⟩).st _ ⟨rfl, by decide, by decide⟩).st _ ⟨rfl, by decide, by decide⟩).st _ ⟨rfl, by decide, by decide⟩).st _ ⟨rfl, by decide, by decide⟩
  · simp only [ms_rd]; simp [x1]
  · simp only [ms_rd]; simp [x3]
  · simp only [ms_rd]; simp [x6]
  · simp only [ms_rd]; simp [x8]
  · simp only [ms_rd]; simp [x1, x2]; exact minv_nI (by omega) (by omega)
  · simp only [ms_rd]; simp [x7]
abbrev Wmr (k i : Nat) : Prop := (k = 8 ∧ 3 ≤ i ∧ i < 12) ∨ (9 ≤ k ∧ k ≤ 11)
theorem Wmr_scr : ∀ k i, Wmr k i → Wscr k i := fun k i q => by
  rcases q with q | q
  · exact Or.inl ⟨q.1, q.2.1⟩
  · exact Or.inr (Or.inl q)
theorem mr27 {σ0 : Mm} (h : TW σ0) (hS : SW σ0) {hb sb : Nat} (hhb : hb < 512) (hsb : sb < 64) {sh : Nat → Nat} (hsh : ∀ t, t < 6 → σ0 6 t = nI (sh t) ∧ sh t < 24) : ∀ (d n t : Nat), t + d = tN σ0 → d < n → ∀ σ : Mm, Fr Wmr σ0 σ → σ 8 3 = nI (tN σ0) → σ 8 4 = nI (sg σ0 1) → σ 8 5 = nI (sg σ0 3) → σ 8 6 = nI (sg σ0 6) → σ 8 7 = nI (sg σ0 8) → σ 8 8 = nI (min (sg σ0 2) (sg σ0 1)) → σ 8 9 = nI (sg σ0 7) → (∀ j, j < t → σ 10 j = nI (td σ0 j 0)) → (∀ j, j < t → ∀ k, k < 24 → (ms_shr (σ 11 j) (nI k)) &&& 1 = if go_ σ0 sb sh j k then 1 else 0) → ∃ σ', fX7_makeReady_27 n (nI hb) (nI sb) (nI t) σ = some σ' ∧ Fr Wmr σ0 σ' ∧ Rd_ σ' (evX σ0 hb sb sh (-1) 0) := by
  have h6 := h.2.1
  intro d
  induction d with
  | zero =>
    intro n t hd hn σ hF c3 c4 c5 c6 c7 c8 c9 c10 c11
    obtain ⟨n, rfl⟩ : ∃ z, n = z + 1 := ⟨n - 1, by omega⟩
    obtain rfl : t = tN σ0 := by omega
    have hFs : Fr Wscr σ0 σ := hF.mo Wmr_scr
    rw [fX7_makeReady_27, fr_1 hFs, h.1, ifle (by omega) (by omega), if_pos (Nat.le_refl _)]
    obtain ⟨σ1, q1, q2, q3⟩ := windX h hS hhb hFs
    rw [q1, Option.bind_some]
    unfold fX3_rob
    simp only [ms_lt, Option.bind_some]
    have F1 : Fr Wmr σ0 σ1 := hF.tr (q2.mo fun k i q => Or.inr (by omega))
    refine ⟨_, rfl, (F1.st _ (Or.inl ⟨rfl, by decide, by decide⟩)).st _ (Or.inl ⟨rfl, by decide, by decide⟩), ?_⟩
    have g8 : ∀ i, σ1 8 i = σ 8 i := fun i => q2 8 i (by simp)
    have g10 : ∀ i, σ1 10 i = σ 10 i := fun i => q2 10 i (by simp)
    have g11 : ∀ i, σ1 11 i = σ 11 i := fun i => q2 11 i (by simp)
    refine ⟨?_, ?_, ?_, ?_, ?_, ?_, ?_, ?_, ?_, fun j hj => ?_, fun j hj k hk => ?_, fun k hk => ?_⟩
    · simp only [ms_rd]; simp; rw [g8]; exact c3
    · simp only [ms_rd]; simp; rw [g8]; exact c4
    · simp only [ms_rd]; simp; rw [g8]; exact c5
    · simp only [ms_rd]; simp; rw [g8]; exact c6
    · simp only [ms_rd]; simp; rw [g8]; exact c7
    · simp only [ms_rd]; simp; rw [g8]; exact c8
    · simp only [ms_rd]; simp; rw [g8]; exact c9
    · simp only [ms_rd]; simp; rfl
    · simp only [ms_rd]; simp; rfl
    · simp only [ms_rd]; simp; rw [g10]; exact c10 j hj
    · simp only [ms_rd]; simp; rw [g11]; exact c11 j hj k hk
    · simp only [ms_rd]; simp; exact q3 k hk
  | succ d ih =>
    intro n t hd hn σ hF c3 c4 c5 c6 c7 c8 c9 c10 c11
    obtain ⟨n, rfl⟩ : ∃ z, n = z + 1 := ⟨n - 1, by omega⟩
    have ht : t < tN σ0 := by omega
    have hFs : Fr Wscr σ0 σ := hF.mo Wmr_scr
    obtain ⟨-, r0, r0', r1, r2, r2', r3⟩ := h.2.2.2.2.2.2.1 t ht
    obtain ⟨v1, v2⟩ := hsh t (by omega)
    have i6 : ms_in (nI t) 6 := in_nI (by omega) (by decide)
    have ixt : ms_ix (nI t) = t := ix_nI (by omega)
    have o0 : fX4_ofThing σ (nI t) 0 = some (nI (td σ0 t 0)) := by
      rw [← td_fr hFs]
      exact ofThX (h.fr hFs) (j := 0) (by rw [tN_fr hFs]; exact ht) (by decide)
    rw [fX7_makeReady_27, fr_1 hFs, h.1, ifle (by omega) (by omega), if_neg (by omega), o0, Option.bind_some, ms_g_t i6, ixt]
    simp only [ms_lt]
    rw [bit_X (by omega) (by omega), Option.bind_some]
    generalize hσ1 : ms_st σ 10 t (nI (td σ0 t 0)) = σ1
    have F1 : Fr Wmr σ0 σ1 := by rw [← hσ1]; exact hF.st _ (Or.inr ⟨by decide, by decide⟩)
    have F1s : Fr Wscr σ0 σ1 := F1.mo Wmr_scr
    have hb2 := bt_2 sb t
    -- the mask of the thing's hours, or none
    have step : ∀ v : Int32, (∀ k, k < 24 → (ms_shr v (nI k)) &&& 1 = if go_ σ0 sb sh t k then 1 else 0) → ∃ σ', fX7_makeReady_91 (fX7_makeReady_27 n) (nI hb) (nI sb) (nI t) v (nI t) σ1 = some σ' ∧ Fr Wmr σ0 σ' ∧ Rd_ σ' (evX σ0 hb sb sh (-1) 0) := by
      intro v hv
      unfold fX7_makeReady_91
      rw [ms_g_t i6, ixt]
      simp only [ms_lt]
      rw [nI_1]
      have F2 : Fr Wmr σ0 (ms_st σ1 11 t v) := F1.st _ (Or.inr ⟨by decide, by decide⟩)
      have rd8 : ∀ i, ms_st σ1 11 t v 8 i = σ 8 i := fun i => by rw [ms_rd, if_neg (by simp), ← hσ1, ms_rd, if_neg (by simp)]
      refine ih n (t + 1) (by omega) (by omega) (ms_st σ1 11 t v) F2 (by rw [rd8]; exact c3) (by rw [rd8]; exact c4) (by rw [rd8]; exact c5) (by rw [rd8]; exact c6) (by rw [rd8]; exact c7) (by rw [rd8]; exact c8) (by rw [rd8]; exact c9) (fun j hj => ?_) (fun j hj k hk => ?_)
      · rw [ms_rd, if_neg (by simp), ← hσ1, ms_rd]
        by_cases c : j = t
        · rw [if_pos ⟨rfl, c⟩, c]
        · rw [if_neg (fun q => c q.2)]; exact c10 j (by omega)
      · rw [ms_rd]
        by_cases c : j = t
        · rw [if_pos ⟨rfl, c⟩, c]; exact hv k hk
        · rw [if_neg (fun q => c q.2), ← hσ1, ms_rd, if_neg (by simp)]; exact c11 j (by omega) k hk
    by_cases c : bt sb t = 1
    · rw [if_pos (by rw [c]; rfl)]
      refine step 0 (fun k hk => ?_)
      have e1 : go_ σ0 sb sh t k = false := by unfold go_; simp [c]
      rw [e1, show (0 : Int32) = nI 0 from rfl, bt_i (by decide) (by omega)]
      simp [bt]
    · rw [if_neg (by rw [show (1 : Int32) = nI 1 from rfl, eq_nI (by omega) (by decide)]; exact c), ms_g_t i6, fr_6 F1s, v1, hoursX (h.fr F1s) (by rw [tN_fr F1s]; exact ht) v2, Option.bind_some, td_fr F1s, td_fr F1s]
      refine step _ (fun k hk => ?_)
      rw [mk_T _ (by omega) _ (Nat.mod_lt _ (by decide)) k hk]
      have e0 : bt sb t = 0 := by omega
      unfold go_
      simp [e0]
theorem readyX {σ : Mm} (h : TW σ) (hS : SW σ) {hb sb : Nat} (hhb : hb < 512) (hsb : sb < 64) (hsh : ∀ t, t < 6 → nn (σ 6 t) 24) : ∃ σ', fX7_makeReady (nI hb) (nI sb) σ = some σ' ∧ Fr Wmr σ σ' ∧ Rd_ σ' (evX σ hb sb (sf σ) (-1) 0) := by
  obtain ⟨σ1, t1, t2, t3, t4, t5, t6, t7, t8⟩ := takeX hS
  have h6 := h.2.1
  unfold fX7_makeReady
  rw [t1, Option.bind_some]
  simp only [ms_lt]
  have F1 : Fr Wmr σ σ1 := t2.mo fun k i q => Or.inl ⟨q.1, by omega, by omega⟩
  have F2 : Fr Wmr σ (ms_st σ1 8 3 (σ1 1 4)) := F1.st _ (Or.inl ⟨rfl, by decide, by decide⟩)
  have rd : ∀ i, i ≠ 3 → ms_st σ1 8 3 (σ1 1 4) 8 i = σ1 8 i := fun i hi => by rw [ms_rd, if_neg (fun q => hi q.2)]
  refine mr27 h hS hhb hsb (sh := sf σ) (fun t ht => ?_) (tN σ) ms_fu 0 (by omega) (fu_lt (by omega)) _ F2 ?_ (by rw [rd _ (by decide)]; exact t3) (by rw [rd _ (by decide)]; exact t4) (by rw [rd _ (by decide)]; exact t5) (by rw [rd _ (by decide)]; exact t6) (by rw [rd _ (by decide)]; exact t7) (by rw [rd _ (by decide)]; exact t8) (fun j hj => by omega) (fun j hj => by omega)
  · obtain ⟨n, hn, e⟩ := hsh t ht
    unfold sf
    rw [e, ix_nI (by omega)]
    exact ⟨rfl, hn⟩
  · rw [ms_rd, if_pos (by decide), F1 1 4 (by simp)]; exact h.1
/-- a thief comes -/
theorem Rd_.rob {σ : Mm} {e : ev} (h : Rd_ σ e) (th : Int32) (tk : Nat) : ∃ σ', fX3_rob th (nI tk) σ = some σ' ∧ Fr (fun k i => k = 8 ∧ (i = 10 ∨ i = 11)) σ σ' ∧ Rd_ σ' ((fun k => if k = 5 then tk else e.1 k), e.2.1, e.2.2.1, e.2.2.2.1, th) := by
  obtain ⟨a1, a2, a3, a4, a5, a6, a7, a8, a9, a10, a11, a12⟩ := h
  unfold fX3_rob
  simp only [ms_lt]
  refine ⟨_, rfl, (Fr.rf.st _ ⟨rfl, Or.inl rfl⟩).st _ ⟨rfl, Or.inr rfl⟩, ?_, ?_, ?_, ?_, ?_, ?_, ?_, ?_, ?_, fun t ht => ?_, fun t ht h hh => ?_, fun h hh => ?_⟩
  · simp only [ms_rd]; simp; exact a1
  · simp only [ms_rd]; simp; exact a2
  · simp only [ms_rd]; simp; exact a3
  · simp only [ms_rd]; simp; exact a4
  · simp only [ms_rd]; simp; exact a5
  · simp only [ms_rd]; simp; exact a6
  · simp only [ms_rd]; simp; exact a7
  · simp only [ms_rd]; simp; rfl
  · simp only [ms_rd]; simp; rfl
  · simp only [ms_rd]; simp; exact a10 t ht
  · simp only [ms_rd]; simp; exact a11 t ht h hh
  · simp only [ms_rd]; simp; exact a12 h hh
theorem robEv (σ : Mm) (hb sb : Nat) (sh : Nat → Nat) (th : Int32) (tk : Nat) (th' : Int32) (tk' : Nat) : (((fun k => if k = 5 then tk else (evX σ hb sb sh th' tk').1 k), (evX σ hb sb sh th' tk').2.1, (evX σ hb sb sh th' tk').2.2.1, (evX σ hb sb sh th' tk').2.2.2.1, th) : ev) = evX σ hb sb sh th tk := by
  unfold evX
  refine congrArg (fun z => (z, _)) ?_
  funext k
  match k with
  | 0 => rfl
  | 1 => rfl
  | 2 => rfl
  | 3 => rfl
  | 4 => rfl
  | 5 => rfl
  | 6 => rfl
  | k + 7 => simp
