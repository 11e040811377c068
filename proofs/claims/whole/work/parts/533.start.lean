/-! ===== what the start gives: the static rows ===== -/
theorem lo_a_SETTING_FIRST : Cond.arrayOf (Term.static "MarketSpring" "SETTING_FIRST" "[I") .int ∈ flatC (Jvm.Cond.and given_1 narrow_1) := by decide +kernel
theorem lo_n_SETTING_FIRST : Cond.eq (.length (Term.static "MarketSpring" "SETTING_FIRST" "[I")) (.int 9) ∈ flatC (Jvm.Cond.and given_1 narrow_1) := by decide +kernel
theorem lo_0_SETTING_FIRST : Cond.eq (.elem (Term.static "MarketSpring" "SETTING_FIRST" "[I") (.int 0)) (.int 1) ∈ flatC (Jvm.Cond.and given_1 narrow_1) := by decide +kernel
theorem lo_1_SETTING_FIRST : Cond.eq (.elem (Term.static "MarketSpring" "SETTING_FIRST" "[I") (.int 1)) (.int 200) ∈ flatC (Jvm.Cond.and given_1 narrow_1) := by decide +kernel
theorem lo_2_SETTING_FIRST : Cond.eq (.elem (Term.static "MarketSpring" "SETTING_FIRST" "[I") (.int 2)) (.int 100) ∈ flatC (Jvm.Cond.and given_1 narrow_1) := by decide +kernel
theorem lo_3_SETTING_FIRST : Cond.eq (.elem (Term.static "MarketSpring" "SETTING_FIRST" "[I") (.int 3)) (.int 0) ∈ flatC (Jvm.Cond.and given_1 narrow_1) := by decide +kernel
theorem lo_4_SETTING_FIRST : Cond.eq (.elem (Term.static "MarketSpring" "SETTING_FIRST" "[I") (.int 4)) (.int 3) ∈ flatC (Jvm.Cond.and given_1 narrow_1) := by decide +kernel
theorem lo_5_SETTING_FIRST : Cond.eq (.elem (Term.static "MarketSpring" "SETTING_FIRST" "[I") (.int 5)) (.int 0) ∈ flatC (Jvm.Cond.and given_1 narrow_1) := by decide +kernel
theorem lo_6_SETTING_FIRST : Cond.eq (.elem (Term.static "MarketSpring" "SETTING_FIRST" "[I") (.int 6)) (.int 0) ∈ flatC (Jvm.Cond.and given_1 narrow_1) := by decide +kernel
theorem lo_7_SETTING_FIRST : Cond.eq (.elem (Term.static "MarketSpring" "SETTING_FIRST" "[I") (.int 7)) (.int 0) ∈ flatC (Jvm.Cond.and given_1 narrow_1) := by decide +kernel
theorem lo_8_SETTING_FIRST : Cond.eq (.elem (Term.static "MarketSpring" "SETTING_FIRST" "[I") (.int 8)) (.int 0) ∈ flatC (Jvm.Cond.and given_1 narrow_1) := by decide +kernel
theorem lo_e_SETTING_FIRST {args : Array Value} {s : State} (hs : ∀ c ∈ flatC (Jvm.Cond.and given_1 narrow_1), c.before args s = true) : ∀ j : Nat, j < 9 → (Term.elem (Term.static "MarketSpring" "SETTING_FIRST" "[I") (.int (Int32.ofNat j))).eval args s none [] s = some (.int (ms_sf j)) := by
  intro j hj
  match j, hj with
  | 0, _ => exact va_eqt (hs _ lo_0_SETTING_FIRST)
  | 1, _ => exact va_eqt (hs _ lo_1_SETTING_FIRST)
  | 2, _ => exact va_eqt (hs _ lo_2_SETTING_FIRST)
  | 3, _ => exact va_eqt (hs _ lo_3_SETTING_FIRST)
  | 4, _ => exact va_eqt (hs _ lo_4_SETTING_FIRST)
  | 5, _ => exact va_eqt (hs _ lo_5_SETTING_FIRST)
  | 6, _ => exact va_eqt (hs _ lo_6_SETTING_FIRST)
  | 7, _ => exact va_eqt (hs _ lo_7_SETTING_FIRST)
  | 8, _ => exact va_eqt (hs _ lo_8_SETTING_FIRST)
  | j + 9, h => exact absurd h (by omega)
theorem lo_t_SETTING_FIRST {args : Array Value} {s : State} (hs : ∀ c ∈ flatC (Jvm.Cond.and given_1 narrow_1), c.before args s = true) (hl : (Cond.laysStatic "MarketSpring" "SETTING_FIRST" "[I").before args s = true) (hini : (Cond.initialized "MarketSpring").before args s = true) : ∃ t, ms_Z1 "SETTING_FIRST" 9 ms_sf (la_A s) t s s.heap := by
  have hA : ∀ a : Nat, a < s.heap.size → ¬ la_A s a := fun a h => Nat.not_le.mpr h
  obtain ⟨t, h1, h2⟩ := va_Tof (N := 9) (f := fun j => .int (ms_sf j)) (A := la_A s) (by decide) (hs _ lo_a_SETTING_FIRST) (va_eqt (hs _ lo_n_SETTING_FIRST)) (lo_e_SETTING_FIRST hs) hA
  exact ⟨t, va_Zref hl hini h1 hA, h2⟩
theorem lo_a_SETTING_LEAST : Cond.arrayOf (Term.static "MarketSpring" "SETTING_LEAST" "[I") .int ∈ flatC (Jvm.Cond.and given_1 narrow_1) := by decide +kernel
theorem lo_n_SETTING_LEAST : Cond.eq (.length (Term.static "MarketSpring" "SETTING_LEAST" "[I")) (.int 9) ∈ flatC (Jvm.Cond.and given_1 narrow_1) := by decide +kernel
theorem lo_0_SETTING_LEAST : Cond.eq (.elem (Term.static "MarketSpring" "SETTING_LEAST" "[I") (.int 0)) (.int 1) ∈ flatC (Jvm.Cond.and given_1 narrow_1) := by decide +kernel
theorem lo_1_SETTING_LEAST : Cond.eq (.elem (Term.static "MarketSpring" "SETTING_LEAST" "[I") (.int 1)) (.int 1) ∈ flatC (Jvm.Cond.and given_1 narrow_1) := by decide +kernel
theorem lo_2_SETTING_LEAST : Cond.eq (.elem (Term.static "MarketSpring" "SETTING_LEAST" "[I") (.int 2)) (.int 0) ∈ flatC (Jvm.Cond.and given_1 narrow_1) := by decide +kernel
theorem lo_3_SETTING_LEAST : Cond.eq (.elem (Term.static "MarketSpring" "SETTING_LEAST" "[I") (.int 3)) (.int 0) ∈ flatC (Jvm.Cond.and given_1 narrow_1) := by decide +kernel
theorem lo_4_SETTING_LEAST : Cond.eq (.elem (Term.static "MarketSpring" "SETTING_LEAST" "[I") (.int 4)) (.int 0) ∈ flatC (Jvm.Cond.and given_1 narrow_1) := by decide +kernel
theorem lo_5_SETTING_LEAST : Cond.eq (.elem (Term.static "MarketSpring" "SETTING_LEAST" "[I") (.int 5)) (.int 0) ∈ flatC (Jvm.Cond.and given_1 narrow_1) := by decide +kernel
theorem lo_6_SETTING_LEAST : Cond.eq (.elem (Term.static "MarketSpring" "SETTING_LEAST" "[I") (.int 6)) (.int 0) ∈ flatC (Jvm.Cond.and given_1 narrow_1) := by decide +kernel
theorem lo_7_SETTING_LEAST : Cond.eq (.elem (Term.static "MarketSpring" "SETTING_LEAST" "[I") (.int 7)) (.int 0) ∈ flatC (Jvm.Cond.and given_1 narrow_1) := by decide +kernel
theorem lo_8_SETTING_LEAST : Cond.eq (.elem (Term.static "MarketSpring" "SETTING_LEAST" "[I") (.int 8)) (.int 0) ∈ flatC (Jvm.Cond.and given_1 narrow_1) := by decide +kernel
theorem lo_e_SETTING_LEAST {args : Array Value} {s : State} (hs : ∀ c ∈ flatC (Jvm.Cond.and given_1 narrow_1), c.before args s = true) : ∀ j : Nat, j < 9 → (Term.elem (Term.static "MarketSpring" "SETTING_LEAST" "[I") (.int (Int32.ofNat j))).eval args s none [] s = some (.int (ms_sl j)) := by
  intro j hj
  match j, hj with
  | 0, _ => exact va_eqt (hs _ lo_0_SETTING_LEAST)
  | 1, _ => exact va_eqt (hs _ lo_1_SETTING_LEAST)
  | 2, _ => exact va_eqt (hs _ lo_2_SETTING_LEAST)
  | 3, _ => exact va_eqt (hs _ lo_3_SETTING_LEAST)
  | 4, _ => exact va_eqt (hs _ lo_4_SETTING_LEAST)
  | 5, _ => exact va_eqt (hs _ lo_5_SETTING_LEAST)
  | 6, _ => exact va_eqt (hs _ lo_6_SETTING_LEAST)
  | 7, _ => exact va_eqt (hs _ lo_7_SETTING_LEAST)
  | 8, _ => exact va_eqt (hs _ lo_8_SETTING_LEAST)
  | j + 9, h => exact absurd h (by omega)
theorem lo_t_SETTING_LEAST {args : Array Value} {s : State} (hs : ∀ c ∈ flatC (Jvm.Cond.and given_1 narrow_1), c.before args s = true) (hl : (Cond.laysStatic "MarketSpring" "SETTING_LEAST" "[I").before args s = true) (hini : (Cond.initialized "MarketSpring").before args s = true) : ∃ t, ms_Z1 "SETTING_LEAST" 9 ms_sl (la_A s) t s s.heap := by
  have hA : ∀ a : Nat, a < s.heap.size → ¬ la_A s a := fun a h => Nat.not_le.mpr h
  obtain ⟨t, h1, h2⟩ := va_Tof (N := 9) (f := fun j => .int (ms_sl j)) (A := la_A s) (by decide) (hs _ lo_a_SETTING_LEAST) (va_eqt (hs _ lo_n_SETTING_LEAST)) (lo_e_SETTING_LEAST hs) hA
  exact ⟨t, va_Zref hl hini h1 hA, h2⟩
theorem lo_a_SETTING_MOST : Cond.arrayOf (Term.static "MarketSpring" "SETTING_MOST" "[I") .int ∈ flatC (Jvm.Cond.and given_1 narrow_1) := by decide +kernel
theorem lo_n_SETTING_MOST : Cond.eq (.length (Term.static "MarketSpring" "SETTING_MOST" "[I")) (.int 9) ∈ flatC (Jvm.Cond.and given_1 narrow_1) := by decide +kernel
theorem lo_0_SETTING_MOST : Cond.eq (.elem (Term.static "MarketSpring" "SETTING_MOST" "[I") (.int 0)) (.int 9) ∈ flatC (Jvm.Cond.and given_1 narrow_1) := by decide +kernel
theorem lo_1_SETTING_MOST : Cond.eq (.elem (Term.static "MarketSpring" "SETTING_MOST" "[I") (.int 1)) (.int 999) ∈ flatC (Jvm.Cond.and given_1 narrow_1) := by decide +kernel
theorem lo_2_SETTING_MOST : Cond.eq (.elem (Term.static "MarketSpring" "SETTING_MOST" "[I") (.int 2)) (.int 999) ∈ flatC (Jvm.Cond.and given_1 narrow_1) := by decide +kernel
theorem lo_3_SETTING_MOST : Cond.eq (.elem (Term.static "MarketSpring" "SETTING_MOST" "[I") (.int 3)) (.int 99) ∈ flatC (Jvm.Cond.and given_1 narrow_1) := by decide +kernel
theorem lo_4_SETTING_MOST : Cond.eq (.elem (Term.static "MarketSpring" "SETTING_MOST" "[I") (.int 4)) (.int 9) ∈ flatC (Jvm.Cond.and given_1 narrow_1) := by decide +kernel
theorem lo_5_SETTING_MOST : Cond.eq (.elem (Term.static "MarketSpring" "SETTING_MOST" "[I") (.int 5)) (.int 1) ∈ flatC (Jvm.Cond.and given_1 narrow_1) := by decide +kernel
theorem lo_6_SETTING_MOST : Cond.eq (.elem (Term.static "MarketSpring" "SETTING_MOST" "[I") (.int 6)) (.int 99) ∈ flatC (Jvm.Cond.and given_1 narrow_1) := by decide +kernel
theorem lo_7_SETTING_MOST : Cond.eq (.elem (Term.static "MarketSpring" "SETTING_MOST" "[I") (.int 7)) (.int 999) ∈ flatC (Jvm.Cond.and given_1 narrow_1) := by decide +kernel
theorem lo_8_SETTING_MOST : Cond.eq (.elem (Term.static "MarketSpring" "SETTING_MOST" "[I") (.int 8)) (.int 99) ∈ flatC (Jvm.Cond.and given_1 narrow_1) := by decide +kernel
theorem lo_e_SETTING_MOST {args : Array Value} {s : State} (hs : ∀ c ∈ flatC (Jvm.Cond.and given_1 narrow_1), c.before args s = true) : ∀ j : Nat, j < 9 → (Term.elem (Term.static "MarketSpring" "SETTING_MOST" "[I") (.int (Int32.ofNat j))).eval args s none [] s = some (.int (ms_sm j)) := by
  intro j hj
  match j, hj with
  | 0, _ => exact va_eqt (hs _ lo_0_SETTING_MOST)
  | 1, _ => exact va_eqt (hs _ lo_1_SETTING_MOST)
  | 2, _ => exact va_eqt (hs _ lo_2_SETTING_MOST)
  | 3, _ => exact va_eqt (hs _ lo_3_SETTING_MOST)
  | 4, _ => exact va_eqt (hs _ lo_4_SETTING_MOST)
  | 5, _ => exact va_eqt (hs _ lo_5_SETTING_MOST)
  | 6, _ => exact va_eqt (hs _ lo_6_SETTING_MOST)
  | 7, _ => exact va_eqt (hs _ lo_7_SETTING_MOST)
  | 8, _ => exact va_eqt (hs _ lo_8_SETTING_MOST)
  | j + 9, h => exact absurd h (by omega)
theorem lo_t_SETTING_MOST {args : Array Value} {s : State} (hs : ∀ c ∈ flatC (Jvm.Cond.and given_1 narrow_1), c.before args s = true) (hl : (Cond.laysStatic "MarketSpring" "SETTING_MOST" "[I").before args s = true) (hini : (Cond.initialized "MarketSpring").before args s = true) : ∃ t, ms_Z1 "SETTING_MOST" 9 ms_sm (la_A s) t s s.heap := by
  have hA : ∀ a : Nat, a < s.heap.size → ¬ la_A s a := fun a h => Nat.not_le.mpr h
  obtain ⟨t, h1, h2⟩ := va_Tof (N := 9) (f := fun j => .int (ms_sm j)) (A := la_A s) (by decide) (hs _ lo_a_SETTING_MOST) (va_eqt (hs _ lo_n_SETTING_MOST)) (lo_e_SETTING_MOST hs) hA
  exact ⟨t, va_Zref hl hini h1 hA, h2⟩
theorem lo_a_DIGEST_HOURS : Cond.arrayOf (Term.static "MarketSpring" "DIGEST_HOURS" "[I") .int ∈ flatC (Jvm.Cond.and given_1 narrow_1) := by decide +kernel
theorem lo_n_DIGEST_HOURS : Cond.eq (.length (Term.static "MarketSpring" "DIGEST_HOURS" "[I")) (.int 5) ∈ flatC (Jvm.Cond.and given_1 narrow_1) := by decide +kernel
theorem lo_0_DIGEST_HOURS : Cond.eq (.elem (Term.static "MarketSpring" "DIGEST_HOURS" "[I") (.int 0)) (.int 0) ∈ flatC (Jvm.Cond.and given_1 narrow_1) := by decide +kernel
theorem lo_1_DIGEST_HOURS : Cond.eq (.elem (Term.static "MarketSpring" "DIGEST_HOURS" "[I") (.int 1)) (.int 7) ∈ flatC (Jvm.Cond.and given_1 narrow_1) := by decide +kernel
theorem lo_2_DIGEST_HOURS : Cond.eq (.elem (Term.static "MarketSpring" "DIGEST_HOURS" "[I") (.int 2)) (.int 23) ∈ flatC (Jvm.Cond.and given_1 narrow_1) := by decide +kernel
theorem lo_3_DIGEST_HOURS : Cond.eq (.elem (Term.static "MarketSpring" "DIGEST_HOURS" "[I") (.int 3)) (.int 100) ∈ flatC (Jvm.Cond.and given_1 narrow_1) := by decide +kernel
theorem lo_4_DIGEST_HOURS : Cond.eq (.elem (Term.static "MarketSpring" "DIGEST_HOURS" "[I") (.int 4)) (.int 239) ∈ flatC (Jvm.Cond.and given_1 narrow_1) := by decide +kernel
theorem lo_e_DIGEST_HOURS {args : Array Value} {s : State} (hs : ∀ c ∈ flatC (Jvm.Cond.and given_1 narrow_1), c.before args s = true) : ∀ j : Nat, j < 5 → (Term.elem (Term.static "MarketSpring" "DIGEST_HOURS" "[I") (.int (Int32.ofNat j))).eval args s none [] s = some (.int (ms_dh j)) := by
  intro j hj
  match j, hj with
  | 0, _ => exact va_eqt (hs _ lo_0_DIGEST_HOURS)
  | 1, _ => exact va_eqt (hs _ lo_1_DIGEST_HOURS)
  | 2, _ => exact va_eqt (hs _ lo_2_DIGEST_HOURS)
  | 3, _ => exact va_eqt (hs _ lo_3_DIGEST_HOURS)
  | 4, _ => exact va_eqt (hs _ lo_4_DIGEST_HOURS)
  | j + 5, h => exact absurd h (by omega)
theorem lo_t_DIGEST_HOURS {args : Array Value} {s : State} (hs : ∀ c ∈ flatC (Jvm.Cond.and given_1 narrow_1), c.before args s = true) (hl : (Cond.laysStatic "MarketSpring" "DIGEST_HOURS" "[I").before args s = true) (hini : (Cond.initialized "MarketSpring").before args s = true) : ∃ t, ms_Z1 "DIGEST_HOURS" 5 ms_dh (la_A s) t s s.heap := by
  have hA : ∀ a : Nat, a < s.heap.size → ¬ la_A s a := fun a h => Nat.not_le.mpr h
  obtain ⟨t, h1, h2⟩ := va_Tof (N := 5) (f := fun j => .int (ms_dh j)) (A := la_A s) (by decide) (hs _ lo_a_DIGEST_HOURS) (va_eqt (hs _ lo_n_DIGEST_HOURS)) (lo_e_DIGEST_HOURS hs) hA
  exact ⟨t, va_Zref hl hini h1 hA, h2⟩
theorem lo_x : Cond.exactly (Term.static "MarketSpring" "SETTING_FIRST" "[I") "[I" ∈ flatC (Jvm.Cond.and given_1 narrow_1) := by decide +kernel
theorem lo_first {args : Array Value} {s : State} {cI : ClassId} (hs : ∀ c ∈ flatC (Jvm.Cond.and given_1 narrow_1), c.before args s = true) (hl : (Cond.laysStatic "MarketSpring" "SETTING_FIRST" "[I").before args s = true) (hini : (Cond.initialized "MarketSpring").before args s = true) (hI : s.vm.findClass "[I" = some cI) : ∃ t, in_ZF (la_A s) cI t s s.heap := by
  have hA : ∀ a : Nat, a < s.heap.size → ¬ la_A s a := fun a h => Nat.not_le.mpr h
  obtain ⟨t, h1, cell, h2, h3, h4, h5, h6, h7, h8⟩ := va_Tof (N := 9) (f := fun j => .int (ms_sf j)) (A := la_A s) (by decide) (hs _ lo_a_SETTING_FIRST) (va_eqt (hs _ lo_n_SETTING_FIRST)) (lo_e_SETTING_FIRST hs) hA
  have hlen : (Term.length (Term.static "MarketSpring" "SETTING_FIRST" "[I")).eval args s none [] s = some (.int 9) := va_eqt (hs _ lo_n_SETTING_FIRST)
  obtain ⟨t', cell', g1, g2, -⟩ := Term.length_spec hlen
  cases h1.symm.trans g1
  obtain ⟨g3, -⟩ := State.arrayAt?_spec g2
  cases h2.symm.trans g3
  have hsz : cell.slots.size < 2 ^ 31 := by
    simp only [Term.eval, g2, Option.bind_eq_bind, Option.bind_some] at hlen
    by_cases hlt : cell.slots.size < 2147483648
    · exact hlt
    · have hst : (Term.static "MarketSpring" "SETTING_FIRST" "[I").eval args s none [] s = some (.ref t) := g1
      simp only [Term.eval, Option.bind_eq_bind] at hst
      rw [hst] at hlen
      simp [g2, hlt] at hlen
  have h9 : cell.slots.size = 9 := (nI_eq hsz (by decide)).mp h6
  obtain ⟨a2, c2, cell2, k2, e1, e2, e3, e4, e5, e6, -⟩ := Cond.exactly_spec (hs _ lo_x)
  cases h1.symm.trans e1
  cases h2.symm.trans e3
  cases hI.symm.trans e2
  refine ⟨t, va_Zref hl hini h1 hA, cell, h2, h3.1, h4, e6, ?_, h8⟩
  apply Array.ext_getElem?
  intro j
  by_cases hj : j < 9
  · rw [h7 j hj, arrV_read _ _ hj]
  · rw [Array.getElem?_eq_none (by omega), Array.getElem?_eq_none (by rw [arrV_size]; omega)]
/-! ===== the start ===== -/
theorem lo_K {args : Array Value} {s : State} (hts : ∀ w ∈ wsL_law, w.before args s = true) (hov : va_AO RX2 s) : ∃ (D : va_G) (cA : Nat → ClassId), va_K D vwCl (ms_tys cA) s := by
  obtain ⟨c0, i0, K0⟩ := u_known (C := RX0) (T := TX0) (N := 6) (n := 6) hts inlX0 (hts _ wd_2_12)
  obtain ⟨c1, i1, K1⟩ := u_known (C := RX1) (T := TX1) (N := 8) (n := 8) hts inlX1 (hts _ wd_2_16)
  obtain ⟨c2, i2, K2⟩ := u_known (C := RX2) (T := TX2) (N := 4) (n := 4) hts inlX2 (hts _ wd_3_2)
  obtain ⟨c3, i3, K3⟩ := u_known (C := RX3) (T := TX3) (N := 17) (n := 17) hts inlX3 (hts _ wd_2_8)
  obtain ⟨c4, i4, K4⟩ := u_known (C := RX4) (T := TX4) (N := 9) (n := 9) hts inlX4 (hts _ wd_1_13)
  obtain ⟨c5, i5, K5⟩ := u_known (C := RX5) (T := TX5) (N := 9) (n := 9) hts inlX5 (hts _ wd_2_20)
  obtain ⟨c6, i6, K6⟩ := u_known (C := RX6) (T := TX6) (N := 2) (n := 2) hts inlX6 (hts _ wd_2_4)
  obtain ⟨c7, i7, K7⟩ := u_known (C := RX7) (T := TX7) (N := 11) (n := 11) hts inlX7 (hts _ wd_1_1)
  obtain ⟨c8, i8, K8⟩ := u_known (C := RX8) (T := TX8) (N := 34) (n := 34) hts inlX8 (hts _ wd_1_4)
  obtain ⟨cI, kI, pI, a1, a2, a3⟩ := Cond.arrayClass_spec (hts _ wd_2_0)
  obtain ⟨cZ, kZ, pZ, b1, b2, b3⟩ := Cond.arrayClass_spec (hts _ wd_7_12)
  obtain ⟨pS, cS, kS, d1, d2, d3, d4, d5⟩ := Cond.arrayOver_spec hov
  refine ⟨(fun k => ([c0, c1, c2, c3, c4, c5, c6, c7, c8] : List ClassId).getD k c0, fun k => ([i0, i1, i2, i3, i4, i5, i6, i7, i8] : List (Nat → Nat)).getD k i0), fun k => ([cI, cZ, cS] : List ClassId).getD k cI, fun k q hq => ?_, fun k q hq => ?_⟩
  · match k, hq with
    | 0, hq => cases hq; exact K0
    | 1, hq => cases hq; exact K1
    | 2, hq => cases hq; exact K2
    | 3, hq => cases hq; exact K3
    | 4, hq => cases hq; exact K4
    | 5, hq => cases hq; exact K5
    | 6, hq => cases hq; exact K6
    | 7, hq => cases hq; exact K7
    | 8, hq => cases hq; exact K8
    | k + 9, hq => simp [vwCl] at hq
  · match k, hq with
    | 0, hq => cases hq; exact ⟨fun n z => ⟨fun k h => (by cases h), kI, a2, pI, a3⟩, a1⟩
    | 1, hq => cases hq; exact ⟨fun n z => ⟨fun k h => (by cases h), kZ, b2, pZ, b3⟩, b1⟩
    | 2, hq => cases hq; exact ⟨fun n z => ⟨fun k h => (by cases h), kS, d3, pS, d4⟩, kS, pS, d3, d4, d1, d5⟩
    | k + 3, hq => simp [ms_tys] at hq
theorem lo_blind {A : Nat → Prop} {cA : Nat → ClassId} (b : Array Value) (U : State) (g : JFrame) (mk : MethodId) (h : in_Z7 A cA U) : in_Z7 A cA (U.calling g mk b) := by
  obtain ⟨h1, h2, t, h3⟩ := h
  exact ⟨va_Nw.same (u := U) (U := U.calling g mk b) rfl rfl h1, va_AO.moved (u := U) (U := U.calling g mk b) (Vm.Alike.refl U.vm) h2, t, in_ZF.moved (u := U) (U := U.calling g mk b) (Vm.Alike.refl U.vm) h3⟩
set_option maxHeartbeats 4000000 in
set_option maxRecDepth 100000 in
/-- THE LAW, from its entry -/
theorem whole_start {p : Program} {e : Env} {s : State} {m : MethodId} {below : List Frame} {meth : Method} {c : Code} (l : Launch) (hflags : l.flags = flags0) {b L : Nat} {xs : Nat → Int32} (hL : L ≤ 3072) (C0 : lw_At p s m meth c b L xs) : W p l e room_1 s m #[Value.ref b] below meth c s.heap [] 0 0 (lw_Z below #[Value.ref b] s) (entryFrame m ([Value.ref b] : List Value).toArray 4) := by
  obtain ⟨hx, hb, hr, hml, hown, hts0, hX, hbl, hlocks, hgv⟩ := C0
  have hown : s.vm.findClass RL = some m.cls := hown
  have hts : ∀ w ∈ wsL_law, w.before #[Value.ref b] s = true := fun w hw => hts0 w (lt_all w hw)
  have hN : ms_NW s := fun q hq => va_Nw.of rfl (hts0 _ (lt_nq q hq))
  have hcst : va_Nw (.castable "[I" "java/lang/Cloneable") s := va_Nw.of rfl (hts0 _ lt_cast)
  have hov : va_AO RX2 s := va_AO.of (hts0 _ lt_over)
  obtain ⟨D, cA, hK⟩ := lo_K hts hov
  have hs := flat_of_before _ hgv
  have hini : (Cond.initialized "MarketSpring").before #[Value.ref b] s = true := hts _ wd_1_2
  obtain ⟨tF, hZF⟩ := lo_first hs (hts0 _ lt_st_SETTING_FIRST) hini (va_nm_int (hK.2 0 (cA 0, .int) rfl).2)
  obtain ⟨t1, hZ1⟩ := lo_t_SETTING_LEAST hs (hts0 _ lt_st_SETTING_LEAST) hini
  obtain ⟨t2, hZ2⟩ := lo_t_SETTING_MOST hs (hts0 _ lt_st_SETTING_MOST) hini
  obtain ⟨t3, hZ3⟩ := lo_t_DIGEST_HOURS hs (hts0 _ lt_st_DIGEST_HOURS) hini
  have hA : ∀ q : Nat, s.heap.size ≤ q → la_A s q := fun _ h => h
  have hS : va_S (la_A s) s.heap s.heap [] := va_S.rf
  have hP : va_P D vwCl [] s.heap := fun k q h => by simp at h
  have hD : va_D (la_A s) [] := ⟨fun i j p q h => by simp at h, fun k q h => by simp at h⟩
  have hl := lv_entry ([.ref b]) (n := 4) (Nat.le_of_ble_eq_true rfl)
  rw [lg_entry_eq]
  generalize (lg_sl ([.ref b]) ++ List.replicate (4 - (lg_sl ([.ref b])).length) Slot.unset).toArray = ls at hl ⊢
  have hl : lv_has ls 4 [(0, .ref b)] := hl
  refine va_new (ci := 7) (fs := [.null, .null, .null, .int 0, .null, .null, .null, .null, .null, .null, .int 0]) (C := RX7) (T := TX7) (N := 11) hx hb hts inlX7 tyX7 tyX7_ok hown (hts _ wd_1_0) (hts _ wd_1_1) (hts _ wd_1_2) hK hP hD hS hA rfl dfX7 (Nat.le_of_ble_eq_true rfl) (Nat.le_of_ble_eq_true rfl) dL_law_0 (fun q0 H hP hD hS => ?_)
  have hP : va_P D vwCl [(q0, .inr (7, [.null, .null, .null, .int 0, .null, .null, .null, .null, .null, .null, .int 0]))] H := hP
  have hD : va_D (la_A s) [(q0, .inr (7, [.null, .null, .null, .int 0, .null, .null, .null, .null, .null, .null, .int 0]))] := hD
  refine W.widen (k := 1) (n := 11) (Nat.le_of_ble_eq_true rfl) (Nat.le_of_ble_eq_true rfl) ?_
  refine lv_dup hx hb dL_law_3 rfl ?_
  have hFc := va_free (wc := [(q0, .inr (7, [.null, .null, .null, .int 0, .null, .null, .null, .null, .null, .null, .int 0]))]) hD hS hA [0] rfl
  refine va_callv (va_runI (As := []) (rest := [.ref q0]) ⟨hx, hb, hml, hown, hts⟩ (iniX7 l D cA q0 H.size) (cwI 0 hts (in_GI wd_1_8) rfl rfl rfl (hts _ wd_1_2) (hts _ wd_1_6) (hts _ wd_1_7) rfl ihX7 ⟨(Nat.le_of_ble_eq_true rfl), (Nat.le_of_ble_eq_true rfl)⟩) ⟨in_blind lo_blind, fun U hU hW => ⟨rfl, by rw [hU], va_K.moved hW.alike hK, ms_NW.warm hW hN, by rw [hU]; exact hP, hD.weaken (fun _ _ _ _ => trivial), va_Nw.warmC hW hcst, va_AO.moved hW.alike hov, tF, by rw [hU]; exact in_ZF.moved hW.alike ((hZF.kept hS.2.1).narrow hFc)⟩⟩ rfl rfl hl.1 rfl (lv_room (Nat.le_of_ble_eq_true rfl)) dL_law_4 ⟨(Nat.le_of_ble_eq_true rfl), (Nat.le_of_ble_eq_true rfl)⟩) hS (fun q _ h => hFc q h) hFc (fun u t H1 locs ht hvm hu hB hz1 hk1 hS => ?_)
  obtain ⟨hP1, hD1⟩ := hB
  rw [ht] at hP1
  have hD1 := hD1.weaken (fun k q _ h => hFc q.1 h)
  refine W.widen (k := 35) (n := 1973) (Nat.le_of_ble_eq_true rfl) (Nat.le_of_ble_eq_true rfl) ?_
  refine lv_astore_n (lv' := [(1, .ref q0), (0, .ref b)]) hx hb dL_law_7 rfl hl (by decide) rfl (fun ls hl => ?_)
  refine va_new (ci := 8) (fs := [.int 0, .null, .null, .int 0, .null, .null, .null, .null, .null, .null, .int 0, .int 0, .null, .null, .null, .null, .null, .null, .null, .null, .null, .null, .null, .null, .null, .int 0, .null, .null, .null, .null, .null, .null, .null, .int 0]) (C := RX8) (T := TX8) (N := 34) hx hb hts inlX8 tyX8 tyX8_ok hown (hts _ wd_1_3) (hts _ wd_1_4) (hts _ wd_1_5) hK hP1 hD1 hS hA rfl dfX8 (Nat.le_of_ble_eq_true rfl) (Nat.le_of_ble_eq_true rfl) dL_law_8 (fun q1 H2 hP2 hD2 hS => ?_)
  refine W.widen (k := 36) (n := 2007) (Nat.le_of_ble_eq_true rfl) (Nat.le_of_ble_eq_true rfl) ?_
  refine lv_dup hx hb dL_law_11 rfl ?_
  have hFc2 := va_free (wc := [(q1, .inr (8, [.int 0, .null, .null, .int 0, .null, .null, .null, .null, .null, .null, .int 0, .int 0, .null, .null, .null, .null, .null, .null, .null, .null, .null, .null, .null, .null, .null, .int 0, .null, .null, .null, .null, .null, .null, .null, .int 0]))]) hD2 hS hA [35] rfl
  have hPc := hP2.sub (ws' := [(q1, .inr (8, [.int 0, .null, .null, .int 0, .null, .null, .null, .null, .null, .null, .int 0, .int 0, .null, .null, .null, .null, .null, .null, .null, .null, .null, .null, .null, .null, .null, .int 0, .null, .null, .null, .null, .null, .null, .null, .int 0]))]) [35] rfl
  have hDc := hD2.sub (ws' := [(q1, .inr (8, [.int 0, .null, .null, .int 0, .null, .null, .null, .null, .null, .null, .int 0, .int 0, .null, .null, .null, .null, .null, .null, .null, .null, .null, .null, .null, .null, .null, .int 0, .null, .null, .null, .null, .null, .null, .null, .int 0]))]) [35] (by decide) rfl
  refine va_callv (va_runI (As := []) (rest := [.ref q1]) ⟨hx, hb, hml, hown, hts⟩ (iniX8 l D cA q1 H2.size) (cwI 0 hts (in_GI wd_6_11) rfl rfl rfl (hts _ wd_1_5) (hts _ wd_6_9) (hts _ wd_6_10) rfl ihX8 ⟨(Nat.le_of_ble_eq_true rfl), (Nat.le_of_ble_eq_true rfl)⟩) ⟨in_blind (fun _ _ _ _ _ => trivial), fun U hU hW => ⟨rfl, by rw [hU], va_K.moved hW.alike hK, ms_NW.warm hW hN, by rw [hU]; exact hPc, hDc.weaken (fun _ _ _ _ => trivial), trivial⟩⟩ rfl rfl hl.1 rfl (lv_room (Nat.le_of_ble_eq_true rfl)) dL_law_12 ⟨(Nat.le_of_ble_eq_true rfl), (Nat.le_of_ble_eq_true rfl)⟩) hS (fun q _ h => hFc2 q h) hFc2 (fun v t2 H3 locs ht hvm hv hB hz1 hk1 hS => ?_)
  obtain ⟨hP3, hD3⟩ := hB
  rw [ht] at hP3
  obtain ⟨hP4, hD4⟩ := va_join (wr := ms_wl u cA ms_s0 0 shX) (w1 := ms_wl v cA ms_m0 0 shM) hP2 hD2 [35] (List.range 35) rfl rfl (by decide) (by decide) hk1 hFc2 hP3 hD3
  obtain ⟨pX, pM, dX, dM, ap, gX, gM⟩ := la_parts hP4 hD4
  subst hu
  subst hv
  have Cx : la_C p s m meth c b D cA u v L xs := ⟨hx, hb, hml, hown, hts, hX, hbl, hK, hN, dX, dM, ap, gX, gM, by omega, t1, _, t3, hZ1, hZ2, hZ3⟩
  refine W.widen (k := 600000) (n := 7302250) (Nat.le_of_ble_eq_true rfl) (Nat.le_of_ble_eq_true rfl) ?_
  refine lv_astore_n (lv' := [(2, .ref (v 0)), (1, .ref (u 0)), (0, .ref b)]) hx hb dL_law_15 rfl hl (by decide) rfl (fun ls hl => ?_)
  refine lv_iconst (v := 0) hx hb dL_law_16 rfl ?_
  refine lv_istore_n (lv' := [(3, .int 0), (2, .ref (v 0)), (1, .ref (u 0)), (0, .ref b)]) hx hb dL_law_17 rfl hl (by decide) rfl (fun ls hl => ?_)
  exact la_loop Cx hr hlocks (L + 1) 0 (by omega) (Nat.zero_le L) ms_s0 ms_m0 _ _ ls la_rel0 ⟨pX, pM, hS⟩ (lv_sub hl [3, 2, 1, 0] rfl)
