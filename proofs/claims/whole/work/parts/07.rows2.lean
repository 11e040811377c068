/-! ===== the numbers' own words ===== -/
def ms_rem (x y : Int32) : Int32 := x - x / y * y
def ms_shl (x y : Int32) : Int32 := x <<< (y &&& 31)
def ms_shr (x y : Int32) : Int32 := x >>> (y &&& 31)
def ms_ushr (x y : Int32) : Int32 := (x.toUInt32 >>> (y.toUInt32 &&& Int32.toUInt32 31)).toInt32
def ms_minv (x y : Int32) : Int32 := if y < x then y else x
def ms_maxv (x y : Int32) : Int32 := if x < y then y else x
/-- the static rows of the class -/
def ms_sl : Nat → Int32 := fun j => ([1, 1, 0, 0, 0, 0, 0, 0, 0] : List Int32).getD j 0
def ms_sm : Nat → Int32 := fun j => ([9, 999, 999, 99, 9, 1, 99, 999, 99] : List Int32).getD j 0
def ms_dh : Nat → Int32 := fun j => ([0, 7, 23, 100, 239] : List Int32).getD j 0
def ms_sf : Nat → Int32 := fun j => ([1, 200, 100, 0, 3, 0, 0, 0, 0] : List Int32).getD j 0
def ms_Z1 (n : String) (N : Nat) (f : Nat → Int32) (A : Nat → Prop) (t : Nat) (U : State) (H : Heap) : Prop := va_Z "MarketSpring" n "[I" (.ref t) A U H ∧ va_T .int t N (fun j => .int (f j)) A U H
def ms_ZS (A : Nat → Prop) (t1 t2 t3 : Nat) (U : State) (H : Heap) : Prop := ms_Z1 "SETTING_LEAST" 9 ms_sl A t1 U H ∧ ms_Z1 "SETTING_MOST" 9 ms_sm A t2 U H ∧ ms_Z1 "DIGEST_HOURS" 5 ms_dh A t3 U H
def ms_PcZ (D : va_G) (cA : Nat → ClassId) (a : Nat → Nat) (sh : List ms_Sh) (av : List Value) (σ : Mm) : Array Value → State → Prop := va_Pc av (fun U => va_K D vwCl (ms_tys cA) U ∧ ms_NW U ∧ va_P D vwCl (ms_wl a cA σ 0 sh) U.heap ∧ ∃ t1 t2 t3, ms_ZS (ms_A a sh.length) t1 t2 t3 U U.heap)
/-- a row filled up to a place -/
def ms_fp (σ : Mm) (k i : Nat) (v : Int32) : Mm := ms_row σ k (fun q => if q < i then v else σ k q)
def ms_fl1 (σ : Mm) (k n : Nat) (v : Int32) : Mm := ms_fp σ k n v
theorem ms_fp_0 (σ : Mm) (k : Nat) (v : Int32) : ms_fp σ k 0 v = σ := by
  funext j
  by_cases h : j = k
  · subst h; simp [ms_fp, ms_row]
  · simp [ms_fp, ms_row, h]
theorem ms_fp_1 (σ : Mm) (k i : Nat) (v : Int32) : ms_st (ms_fp σ k i v) k i v = ms_fp σ k (i + 1) v := by
  funext j
  by_cases h : j = k
  · subst h
    simp only [ms_st, ms_fp, ms_row, if_true]
    funext q
    simp only [upd]
    by_cases h2 : q = i
    · subst h2; simp
    · by_cases h3 : q < i
      · simp [h3, show q < i + 1 by omega]
      · simp [h2, h3, show ¬ q < i + 1 by omega]
  · simp [ms_st, ms_fp, ms_row, h]
abbrev ms_cg (sp dp n : Int32) : Prop := ¬ sp < 0 ∧ ¬ dp < 0 ∧ ¬ n < 0 ∧ ms_ix sp + ms_ix n ≤ 48 ∧ ms_ix dp + ms_ix n ≤ 48
def ms_cp (σ : Mm) (k0 k1 : Nat) (sp dp n : Int32) : Mm := ms_row σ k1 (va_cpy (σ k0) (σ k1) (ms_ix sp) (ms_ix dp) (ms_ix n))
theorem ms_ne_toInt {x k : Int32} (h : ¬ x = k) : x.toInt ≠ k.toInt := fun e => h (Int32.toInt_inj.mp e)
theorem ms_tout9 {x : Int32} (h0 : ¬ x = 0) (h1 : ¬ x = 1) (h2 : ¬ x = 2) (h3 : ¬ x = 3) (h4 : ¬ x = 4) (h5 : ¬ x = 5) (h6 : ¬ x = 6) (h7 : ¬ x = 7) (h8 : ¬ x = 8) : x.toInt < 0 ∨ 8 < x.toInt := by
  have g0 : x.toInt ≠ 0 := ms_ne_toInt h0
  have g1 : x.toInt ≠ 1 := ms_ne_toInt h1
  have g2 : x.toInt ≠ 2 := ms_ne_toInt h2
  have g3 : x.toInt ≠ 3 := ms_ne_toInt h3
  have g4 : x.toInt ≠ 4 := ms_ne_toInt h4
  have g5 : x.toInt ≠ 5 := ms_ne_toInt h5
  have g6 : x.toInt ≠ 6 := ms_ne_toInt h6
  have g7 : x.toInt ≠ 7 := ms_ne_toInt h7
  have g8 : x.toInt ≠ 8 := ms_ne_toInt h8
  omega
section MS2
variable {p : Program} {l : Launch} {e : Env} {R : Room} {s : State} {m : MethodId} {args : Array Value} {below : List Frame} {meth : Method} {c : Code} {H : Heap} {locs : List Loc} {cells slots : Nat} {Q : State → Prop}
variable {D : va_G} {cA : Nat → ClassId} {a : Nat → Nat} {sh : List ms_Sh} {cc : ByteArray} {nL idx : Nat} {own : String} {ret : Option FieldType} {σ : Mm} {pc : Nat} {ls : Array Slot} {rest : List Value}
theorem ms_lrem (hexec : p.tables.exec = Jvm.exec) (hb : c.code = cc) {x y : Int32} (hdg : decode cc pc = .ok (.irem, 1)) (hne : ¬ y = 0) (k : W p l e R s m args below meth c H locs cells slots Q (F0 m (pc + 1) ls (.int (ms_rem x y) :: rest))) : W p l e R s m args below meth c H locs cells slots Q (F0 m pc ls (.int y :: .int x :: rest)) := lv_irem hexec hb hdg hne k
theorem ms_gz (Cx : ms_C p s m args meth c D cA a sh cc nL own ret) {n : String} {N t : Nat} {f : Nat → Int32} (hZ : ms_Z1 n N f (ms_A a sh.length) t s s.heap) (hI : ms_I D cA a sh s σ H locs) (hl : Cond.fieldLink own idx "MarketSpring" n "[I" ∈ wsL_law) (hd : decode cc pc = .ok (.getstatic idx, 3))
    (kk : W p l e R s m args below meth c H locs cells slots Q (F0 m (pc + 3) ls (.ref t :: rest))) : W p l e R s m args below meth c H locs cells slots Q (F0 m pc ls rest) :=
  va_gets Cx.1 Cx.2.1 hZ.1 hI.2 Cx.2.2.2.1 (Cx.2.2.2.2.1 _ hl) (fun _ h => h) hd kk
theorem ms_zld (Cx : ms_C p s m args meth c D cA a sh cc nL own ret) {n : String} {N t : Nat} {f : Nat → Int32} (hZ : ms_Z1 n N f (ms_A a sh.length) t s s.heap) (hI : ms_I D cA a sh s σ H locs) {i : Int32} (hi : ms_in i N) (hd : decode cc pc = .ok (.iaload, 1))
    (kk : W p l e R s m args below meth c H locs cells slots Q (F0 m (pc + 1) ls (.int (f (ms_ix i)) :: rest))) : W p l e R s m args below meth c H locs cells slots Q (F0 m pc ls (.int i :: .ref t :: rest)) :=
  va_ti Cx.1 Cx.2.1 hZ.2 hI.2 (ms_inV hi) (v := .int (f (ms_ix i))) rfl hd kk
theorem ms_zlen (Cx : ms_C p s m args meth c D cA a sh cc nL own ret) {n : String} {N t : Nat} {f : Nat → Int32} (hZ : ms_Z1 n N f (ms_A a sh.length) t s s.heap) (hI : ms_I D cA a sh s σ H locs) (hd : decode cc pc = .ok (.arraylength, 1))
    (kk : W p l e R s m args below meth c H locs cells slots Q (F0 m (pc + 1) ls (.int (Int32.ofNat N) :: rest))) : W p l e R s m args below meth c H locs cells slots Q (F0 m pc ls (.ref t :: rest)) :=
  va_tlen Cx.1 Cx.2.1 hZ.2 hI.2 rfl hd kk
theorem ms_acopy (Cx : ms_C p s m args meth c D cA a shX cc nL own ret) (hI : ms_I D cA a shX s σ H locs) {j0 j1 : Nat} (h0 : j0 < 4) (h1 : j1 < 4) {sp dp n : Int32} (hg : ms_cg sp dp n) (hl : Cond.methodLink own idx arraycopyName ∈ wsL_law) (hsz : ls.size = nL) (hf : 1 ≤ R.frames) (hlo : (rest.map fun v => v.category).sum + 18 ≤ R.locals) (hd : decode cc pc = .ok (.invokestatic idx, 3))
    (kk : ∀ (H1 : Heap) (locs1 : List Loc) (σ1 : Mm), σ1 = ms_cp σ (28 + 2 * j0) (28 + 2 * j1) sp dp n → ms_I D cA a shX s σ1 H1 locs1 → W p l e R s m args below meth c H1 locs1 cells slots Q (F0 m (pc + 3) ls rest)) : W p l e R s m args below meth c H locs cells slots Q (F0 m pc ls (.int n :: .int dp :: .ref (a (28 + 2 * j1)) :: .int sp :: .ref (a (28 + 2 * j0)) :: rest)) := by
  obtain ⟨hx, hb, hml, hown, hts, -, -, hK, hDis, -⟩ := Cx
  have he0 := ms_wl_get a cA σ shX 0 (28 + 2 * j0) (shX_J h0)
  have he1 := ms_wl_get a cA σ shX 0 (28 + 2 * j1) (shX_J h1)
  rw [Nat.zero_add] at he0 he1
  obtain ⟨g1, g2, g3, g4, g5⟩ := hg
  refine va_copyi hx hb (hml.trans hsz.symm) hown (hts _ hl) (hts _ ms_ac_n) (hts _ ms_ac_s) (hts _ ms_ac_i) hK hI.1 (ms_D hDis) hI.2 (28 + 2 * j0) (28 + 2 * j1) 0 0 (f := σ (28 + 2 * j0)) (g := σ (28 + 2 * j1)) (ty := .int) he0 he1 rfl rfl rfl g1 g2 g3 g4 g5 (fun _ _ => rfl) hf hlo hd (fun H1 locs1 q1 _ q3 => kk H1 locs1 _ rfl ⟨?_, q3⟩)
  have e2 := ms_wl_set a cA (σ := σ) (σ' := ms_cp σ (28 + 2 * j0) (28 + 2 * j1) sp dp n) shX 0 (28 + 2 * j1) (shX_J h1) (fun j hj => ms_row_n σ _ (by omega))
  rw [Nat.zero_add] at e2
  rw [← e2]
  have e3 : ms_cp σ (28 + 2 * j0) (28 + 2 * j1) sp dp n (28 + 2 * j1) = va_cpy (σ (28 + 2 * j0)) (σ (28 + 2 * j1)) (ms_ix sp) (ms_ix dp) (ms_ix n) := ms_row_s σ _ _
  rw [e3]
  exact q1
theorem ms_riw (Cx : ms_C p s m args meth c D cA a sh cc nL own (some .int)) (hI : ms_I D cA a sh s σ H locs) {v : Int32} {out : Int32 × Mm} (h : some (v, σ) = some out) (hd : decode cc pc = .ok (.ireturn, 1)) : W p l e R s m args below meth c H locs cells slots (MQ below (ms_Qi D cA a sh out.1 out.2) args s cells slots (ms_A a sh.length)) (F0 m pc ls [.int v]) := by
  cases h
  exact ms_ri Cx hI rfl rfl hd
theorem ms_rzw (Cx : ms_C p s m args meth c D cA a sh cc nL own (some .boolean)) (hI : ms_I D cA a sh s σ H locs) {v : Int32} {out : Int32 × Mm} (hz : v = 0 ∨ v = 1) (h : some (v, σ) = some out) (hd : decode cc pc = .ok (.ireturn, 1)) : W p l e R s m args below meth c H locs cells slots (MQ below (ms_Qi D cA a sh out.1 out.2) args s cells slots (ms_A a sh.length)) (F0 m pc ls [.int v]) := by
  cases h
  exact ms_rz Cx hI hz rfl rfl hd
theorem ms_rlw (Cx : ms_C p s m args meth c D cA a sh cc nL own (some .long)) (hI : ms_I D cA a sh s σ H locs) {v : Int64} {out : Int64 × Mm} (h : some (v, σ) = some out) (hd : decode cc pc = .ok (.lreturn, 1)) : W p l e R s m args below meth c H locs cells slots (MQ below (ms_Ql D cA a sh out.1 out.2) args s cells slots (ms_A a sh.length)) (F0 m pc ls [.long v]) := by
  cases h
  exact ms_rl Cx hI rfl rfl hd
end MS2
/-! ===== Arrays.fill over a row of numbers ===== -/
section MSFI
variable {p : Program} {l : Launch} {e : Env} {R : Room} {s : State} {m : MethodId} {args : Array Value} {below : List Frame} {meth : Method} {c : Code} {Q : State → Prop}
variable {D : va_G} {cA : Nat → ClassId} {a : Nat → Nat} {sh : List ms_Sh} {cc : ByteArray} {nL idx : Nat} {own : String} {ret : Option FieldType} {σ : Mm} {pc : Nat} {ls : Array Slot} {rest : List Value}
theorem dJ7_fill_53178_0 : decode cJ7_fill_53178 0 = .ok (.iconst 0, 1) := by decide +kernel
theorem dJ7_fill_53178_1 : decode cJ7_fill_53178 1 = .ok (.istore_n 2, 1) := by decide +kernel
theorem dJ7_fill_53178_2 : decode cJ7_fill_53178 2 = .ok (.aload_n 0, 1) := by decide +kernel
theorem dJ7_fill_53178_3 : decode cJ7_fill_53178 3 = .ok (.arraylength, 1) := by decide +kernel
theorem dJ7_fill_53178_4 : decode cJ7_fill_53178 4 = .ok (.istore_n 3, 1) := by decide +kernel
theorem dJ7_fill_53178_5 : decode cJ7_fill_53178 5 = .ok (.iload_n 2, 1) := by decide +kernel
theorem dJ7_fill_53178_6 : decode cJ7_fill_53178 6 = .ok (.iload_n 3, 1) := by decide +kernel
theorem dJ7_fill_53178_7 : decode cJ7_fill_53178 7 = .ok (.if_icmp .ge 13, 3) := by decide +kernel
theorem dJ7_fill_53178_10 : decode cJ7_fill_53178 10 = .ok (.aload_n 0, 1) := by decide +kernel
theorem dJ7_fill_53178_11 : decode cJ7_fill_53178 11 = .ok (.iload_n 2, 1) := by decide +kernel
theorem dJ7_fill_53178_12 : decode cJ7_fill_53178 12 = .ok (.iload_n 1, 1) := by decide +kernel
theorem dJ7_fill_53178_13 : decode cJ7_fill_53178 13 = .ok (.iastore, 1) := by decide +kernel
theorem dJ7_fill_53178_14 : decode cJ7_fill_53178 14 = .ok (.iinc 2 1, 3) := by decide +kernel
theorem dJ7_fill_53178_17 : decode cJ7_fill_53178 17 = .ok (.goto (-12), 3) := by decide +kernel
theorem dJ7_fill_53178_20 : decode cJ7_fill_53178 20 = .ok (.return_, 1) := by decide +kernel
abbrev rmfill : Room := { frames := 0, cells := 0, slots := 0, locals := 0 }
set_option maxHeartbeats 4000000 in
set_option maxRecDepth 100000 in
theorem wfill_5 (Cx : ms_C p s m args meth c D cA a sh cJ7_fill_53178 4 RJ7 none) {k n b : Nat} (hs : sh[k]? = some (.inl (0, n, b))) (hn : n < 2 ^ 31) (v : Int32) (σ : Mm) : ∀ (d i : Nat), i + d = n → ∀ (H : Heap) (locs : List Loc) (ls : Array Slot), ms_I D cA a sh s (ms_fp σ k i v) H locs → lv_has ls 4 [(0, .ref (a k)), (1, .int v), (2, .int (nI i)), (3, .int (nI n))] → W p l e rmfill s m args below meth c H locs 0 0 (MQ below (ms_Qv D cA a sh (ms_fp σ k n v)) args s 0 0 (ms_A a sh.length)) (F0 m 5 ls []) := by
  have hx := Cx.1
  have hb := Cx.2.1
  intro d
  induction d with
  | zero =>
    intro i hi H locs ls hI hl
    refine lv_iload_n hx hb dJ7_fill_53178_5 rfl (lv_at hl 2 rfl) ?_
    refine lv_iload_n hx hb dJ7_fill_53178_6 rfl (lv_at hl 3 rfl) ?_
    refine lv_icmp_ge (tgt := 20) hx hb dJ7_fill_53178_7 rfl (fun hc => ?_) (fun hc => ?_)
    · have e : i = n := by omega
      subst e
      exact ms_rv Cx hI rfl dJ7_fill_53178_20
    · exact absurd (nI_le (by omega) (by omega)) hc
  | succ d ih =>
    intro i hi H locs ls hI hl
    refine lv_iload_n hx hb dJ7_fill_53178_5 rfl (lv_at hl 2 rfl) ?_
    refine lv_iload_n hx hb dJ7_fill_53178_6 rfl (lv_at hl 3 rfl) ?_
    refine lv_icmp_ge (tgt := 20) hx hb dJ7_fill_53178_7 rfl (fun hc => ?_) (fun hc => ?_)
    · exact absurd hc (nI_ge (by omega) (by omega))
    · refine lv_aload_n hx hb dJ7_fill_53178_10 rfl (lv_at hl 0 rfl) ?_
      refine lv_iload_n hx hb dJ7_fill_53178_11 rfl (lv_at hl 2 rfl) ?_
      refine lv_iload_n hx hb dJ7_fill_53178_12 rfl (lv_at hl 1 rfl) ?_
      refine ms_sto Cx hI k hs (vp_in_iff.mp (vp_in_nI (by omega) (by omega))) dJ7_fill_53178_13 (fun H locs σ1 e1 hI => ?_)
      rw [show ms_ix (nI i) = i from nI_clamp (by omega), ms_fp_1] at e1
      rw [e1] at hI
      refine lv_iinc (v := nI (i + 1)) (lv' := [(2, .int (nI (i + 1))), (0, .ref (a k)), (1, .int v), (3, .int (nI n))]) hx hb dJ7_fill_53178_14 hl (k := 2) rfl (nI_1 i) (by decide) rfl (fun ls hl => ?_)
      refine lv_goto (tgt := 5) hx hb dJ7_fill_53178_17 rfl ?_
      exact ih (i + 1) (by omega) _ _ _ hI (lv_sub hl [1, 2, 0, 3] rfl)
set_option maxHeartbeats 4000000 in
set_option maxRecDepth 100000 in
theorem metfill (l : Launch) (hDis : ms_Dis a sh.length) {k n b : Nat} (hs : sh[k]? = some (.inl (0, n, b))) (hn : n < 2 ^ 31) (v : Int32) (σ : Mm) : Met l yJ7_fill_53178 (.code yJ7_fill_53178 cJ7_fill_53178 4 none :: wsL_law) rmfill (ms_Pc D cA a sh [.ref (a k), .int v] σ) (ms_Qv D cA a sh (ms_fl1 σ k n v)) 0 0 (ms_A a sh.length) := by
  refine Met.ofW (cc := cJ7_fill_53178) (maxL := 4) (ret := none) (by decide) rfl ?_
  intro p e s m args below meth c s₁ B hml hv
  obtain ⟨rfl, hK, hN, hP⟩ := hv
  have Cx : ms_C p s m #[.ref (a k), .int v] meth c D cA a sh cJ7_fill_53178 4 RJ7 none := ⟨B.exec, B.bytes, hml, findClass_of_methodNamed B.named, fun w hw => atoms_spec (ws := .code yJ7_fill_53178 cJ7_fill_53178 4 none :: wsL_law) B.pre w (List.mem_cons_of_mem _ hw), B.returns, B.notSynchronized, hK, hDis, hN⟩
  have hx := Cx.1
  have hb := Cx.2.1
  have hl := lv_entry ([.ref (a k), .int v]) (n := 4) (Nat.le_of_ble_eq_true rfl)
  rw [lg_entry_eq]
  generalize (lg_sl ([.ref (a k), .int v]) ++ List.replicate (4 - (lg_sl ([.ref (a k), .int v])).length) Slot.unset).toArray = ls at hl ⊢
  have hl : lv_has ls 4 [(0, .ref (a k)), (1, .int v)] := hl
  have hI : ms_I D cA a sh s σ s.heap [] := ⟨hP, va_S.rf⟩
  refine lv_iconst (v := 0) hx hb dJ7_fill_53178_0 rfl ?_
  refine lv_istore_n (lv' := [(2, .int 0), (0, .ref (a k)), (1, .int v)]) hx hb dJ7_fill_53178_1 rfl hl (by decide) rfl (fun ls hl => ?_)
  refine lv_aload_n hx hb dJ7_fill_53178_2 rfl (lv_at hl 1 rfl) ?_
  have he := ms_wl_get a cA σ sh 0 k hs
  rw [Nat.zero_add] at he
  refine va_alen hx hb hK hI.1 k 0 (cA := cA 0) (x := (n, .inl (σ k))) he rfl (v := nI n) rfl dJ7_fill_53178_3 ?_
  refine lv_istore_n (lv' := [(3, .int (nI n)), (2, .int 0), (0, .ref (a k)), (1, .int v)]) hx hb dJ7_fill_53178_4 rfl hl (by decide) rfl (fun ls hl => ?_)
  have hI0 : ms_I D cA a sh s (ms_fp σ k 0 v) s.heap [] := by rw [ms_fp_0]; exact hI
  exact wfill_5 Cx hs hn v σ n 0 (by omega) _ _ _ hI0 (lv_sub hl [2, 3, 1, 0] rfl)
theorem yvfill : ms_YS yJ7_fill_53178 cJ7_fill_53178 4 none 2 := ⟨wd_22_8, wd_22_9, wd_22_10, by decide +kernel, by decide +kernel, by decide +kernel⟩
theorem ms_fill (Cx : ms_C p s m args meth c D cA a sh cc nL own ret) {H : Heap} {locs : List Loc} (hI : ms_I D cA a sh s σ H locs) (k : Nat) {n b : Nat} (hs : sh[k]? = some (.inl (0, n, b))) {v : Int32} (hl : Cond.methodLink own idx yJ7_fill_53178 ∈ wsL_law) (hf : 0 + 1 ≤ R.frames) (hlo : 8 + (4 + 11) + 0 ≤ R.locals) (hsz : ls.size = nL) (hW : (rest.map fun v => v.category).sum ≤ 8) (hd : decode cc pc = .ok (.invokestatic idx, 3)) (kk : ∀ (H1 : Heap) (locs1 : List Loc) (σ1 : Mm), σ1 = ms_fl1 σ k n v → ms_I D cA a sh s σ1 H1 locs1 → W p l e R s m args below meth c H1 locs1 0 0 Q (F0 m (pc + 3) ls rest)) (hn : n < 2 ^ 31 := by decide) : W p l e R s m args below meth c H locs 0 0 Q (F0 m pc ls (.int v :: .ref (a k) :: rest)) :=
  ms_cv hI (ms_runS (av := [.ref (a k), .int v]) Cx hI yvfill (metfill l Cx.2.2.2.2.2.2.2.2.1 hs hn v σ) ⟨rfl, rfl⟩ (Or.inl hl) ⟨hf, hlo⟩ rfl hsz rfl hW ⟨Nat.zero_le _, Nat.zero_le _⟩ hd) (fun H1 locs1 hI1 => kk H1 locs1 _ rfl hI1)
end MSFI
