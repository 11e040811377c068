/-! ===== constructors: rows over a world that grows ===== -/
def in_C (p : Program) (s : State) (m : MethodId) (args : Array Value) (meth : Method) (c : Code) (D : va_G) (cA : Nat → ClassId) (cc : ByteArray) (nL : Nat) (own : String) : Prop :=
  p.tables.exec = Jvm.exec ∧ c.code = cc ∧ c.maxLocals = nL ∧ s.vm.findClass own = some m.cls ∧ (∀ w ∈ wsL_law, w.before args s = true) ∧ meth.sig.returnType = none ∧ meth.locks = false ∧ va_K D vwCl (ms_tys cA) s ∧ ms_NW s ∧ meth.name = "<init>"
def in_I (D : va_G) (A : Nat → Prop) (s : State) (ws : va_W) (H : Heap) (locs : List Loc) : Prop := va_P D vwCl ws H ∧ va_D A ws ∧ va_S A s.heap H locs ∧ ∀ q : Nat, s.heap.size ≤ q → A q
def in_Pc (D : va_G) (cA : Nat → ClassId) (av : List Value) (ws : va_W) (sz : Nat) (Z : State → Prop) : Array Value → State → Prop := va_Pc av (fun U => U.heap.size = sz ∧ va_K D vwCl (ms_tys cA) U ∧ ms_NW U ∧ va_P D vwCl ws U.heap ∧ va_D (fun _ => True) ws ∧ Z U)
def in_B (D : va_G) (A : Nat → Prop) (wf : (Nat → Nat) → va_W) (u : Nat → Nat) (t : State) : Prop := va_P D vwCl (wf u) t.heap ∧ va_D A (wf u)
abbrev in_Q (D : va_G) (A : Nat → Prop) (h0 : Nat) (wf : (Nat → Nat) → va_W) : Array Value → State → Outcome → State → Prop := va_Qv (fun u : Nat → Nat => u 0 = h0) (in_B D A wf) A
/-- the static row that a new object's settings begin with -/
def in_ZF (A : Nat → Prop) (cI : ClassId) (t : Nat) (U : State) (H : Heap) : Prop := va_Z "MarketSpring" "SETTING_FIRST" "[I" (.ref t) A U H ∧ ∃ cell : Cell, H[t]? = some cell ∧ (∀ k, cell.vm ≠ .statics k) ∧ cell.vm ≠ .unknown ∧ cell.cls = cI ∧ cell.slots = (arrV cI 9 (fun j => .int (ms_sf j))).slots ∧ ¬ A t
theorem in_ZF.moved {A : Nat → Prop} {cI : ClassId} {t : Nat} {u U : State} {H : Heap} (hvm : u.vm.Alike U.vm) (h : in_ZF A cI t u H) : in_ZF A cI t U H := ⟨va_Z.moved hvm h.1, h.2⟩
theorem in_ZF.kept {A : Nat → Prop} {cI : ClassId} {t : Nat} {U : State} {H H1 : Heap} (h : in_ZF A cI t U H) (hq : ∀ a : Nat, a < H.size → ¬ A a → H1[a]? = H[a]?) : in_ZF A cI t U H1 := by
  obtain ⟨h0, cell, h1, h2, h3, h4, h5, h6⟩ := h
  exact ⟨h0.kept hq, cell, by rw [hq t (Array.getElem?_eq_some_iff.mp h1).1 h6]; exact h1, h2, h3, h4, h5, h6⟩
theorem in_ZF.narrow {A B : Nat → Prop} {cI : ClassId} {t : Nat} {U : State} {H : Heap} (h : in_ZF A cI t U H) (hAB : ∀ q, B q → A q) : in_ZF B cI t U H := by
  obtain ⟨h0, cell, h1, h2, h3, h4, h5, h6⟩ := h
  exact ⟨h0.narrow hAB, cell, h1, h2, h3, h4, h5, fun z => h6 (hAB t z)⟩
section INI
variable {p : Program} {l : Launch} {e : Env} {R : Room} {s : State} {m : MethodId} {args : Array Value} {below : List Frame} {meth : Method} {c : Code} {H : Heap} {locs : List Loc} {cells slots : Nat} {Q : State → Prop}
variable {D : va_G} {cA : Nat → ClassId} {A : Nat → Prop} {cc : ByteArray} {nL index : Nat} {own : String} {ws : va_W} {pc : Nat} {ls : Array Slot} {rest : List Value}
theorem in_obj (Cx : in_C p s m args meth c D cA cc nL own) {a : Nat} (hl : Cond.methodLink own index objectInit ∈ wsL_law) (hsz : ls.size = nL) (hd : decode cc pc = .ok (.invokespecial index, 3)) (hf : 1 ≤ R.frames) (hlo : (rest.map fun v => v.category).sum + 12 ≤ R.locals)
    (kk : W p l e R s m args below meth c H locs cells slots Q (F0 m (pc + 3) ls rest)) : W p l e R s m args below meth c H locs cells slots Q (F0 m pc ls (.ref a :: rest)) := by
  obtain ⟨hx, hb, hml, hown, hts, -⟩ := Cx
  refine W.objInit hx hb hown (hts _ hl) (hts _ wd_1_10) (hts _ wd_1_11) rfl (by rw [hml]; exact hsz) rfl hd hf (by show 2 * 0 + _ + 12 ≤ _; omega) ?_
  exact kk
theorem in_newI (Cx : in_C p s m args meth c D cA cc nL own) (hI : in_I D A s ws H locs) (N : Nat) {n : Int32} (hN : n.toNatClampNeg = N) (hn : ¬ n < 0) (hby : N * 4 ≤ 536870912) (hcl : cells + 1 ≤ R.cells) (hsl : slots + N ≤ R.slots) (hd : decode cc pc = .ok (.newarray .int, 2))
    (kk : ∀ (q : Nat) (H1 : Heap), in_I D A s (ws ++ [(q, .inl (cA 0, N, .inl (fun _ => 0)))]) H1 locs → W p l e R s m args below meth c H1 locs (cells + 1) (slots + N) Q (F0 m (pc + 2) ls (.ref q :: rest))) : W p l e R s m args below meth c H locs cells slots Q (F0 m pc ls (.int n :: rest)) := by
  obtain ⟨hx, hb, hml, hown, hts, -, -, hK, -⟩ := Cx
  obtain ⟨hP, hD, hS, hA⟩ := hI
  refine va_newa (atype := .int) (ty := .int) (a0 := (N, .inl (fun _ => 0))) hx hb (hts _ wd_2_0) rfl hK hP hD hS hA (fun _ => rfl) hn hN hby hcl hsl hd (fun q cA' H1 hK1 hP1 hD1 hS1 => ?_)
  have e1 : va_RA s cA' .int := (hK1.2 3 (cA', .int) rfl).2
  have e0 : va_RA s (cA 0) .int := (hK.2 0 (cA 0, .int) rfl).2
  have e2 : cA' = cA 0 := Option.some.inj ((va_nm_int e1).symm.trans (va_nm_int e0))
  rw [e2] at hP1 hD1
  exact kk q H1 ⟨hP1, hD1, hS1, hA⟩
theorem in_newZ (Cx : in_C p s m args meth c D cA cc nL own) (hI : in_I D A s ws H locs) (N : Nat) {n : Int32} (hN : n.toNatClampNeg = N) (hn : ¬ n < 0) (hby : N * 1 ≤ 536870912) (hcl : cells + 1 ≤ R.cells) (hsl : slots + N ≤ R.slots) (hd : decode cc pc = .ok (.newarray .boolean, 2))
    (kk : ∀ (q : Nat) (H1 : Heap), in_I D A s (ws ++ [(q, .inl (cA 1, N, .inl (fun _ => 0)))]) H1 locs → W p l e R s m args below meth c H1 locs (cells + 1) (slots + N) Q (F0 m (pc + 2) ls (.ref q :: rest))) : W p l e R s m args below meth c H locs cells slots Q (F0 m pc ls (.int n :: rest)) := by
  obtain ⟨hx, hb, hml, hown, hts, -, -, hK, -⟩ := Cx
  obtain ⟨hP, hD, hS, hA⟩ := hI
  refine va_newa (atype := .boolean) (ty := .boolean) (a0 := (N, .inl (fun _ => 0))) hx hb (hts _ wd_7_12) rfl hK hP hD hS hA (fun _ => rfl) hn hN hby hcl hsl hd (fun q cA' H1 hK1 hP1 hD1 hS1 => ?_)
  have e1 : va_RA s cA' .boolean := (hK1.2 3 (cA', .boolean) rfl).2
  have e0 : va_RA s (cA 1) .boolean := (hK.2 1 (cA 1, .boolean) rfl).2
  have e2 : cA' = cA 1 := Option.some.inj ((va_nm_boolean e1).symm.trans (va_nm_boolean e0))
  rw [e2] at hP1 hD1
  exact kk q H1 ⟨hP1, hD1, hS1, hA⟩
theorem in_newS (Cx : in_C p s m args meth c D cA cc nL own) (hI : in_I D A s ws H locs) (N : Nat) {n : Int32} (hN : n.toNatClampNeg = N) (hn : ¬ n < 0) (hby : N * 4 ≤ 536870912) (hcl : cells + 1 ≤ R.cells) (hsl : slots + N ≤ R.slots) (hl : Cond.classLink own index RX2 ∈ wsL_law) (hov : va_AO RX2 s) (hd : decode cc pc = .ok (.anewarray index, 3))
    (kk : ∀ (q : Nat) (H1 : Heap), in_I D A s (ws ++ [(q, .inl (cA 2, N, .inr (.inr (.inr (.inr (fun _ => none))))))]) H1 locs → W p l e R s m args below meth c H1 locs (cells + 1) (slots + N) Q (F0 m (pc + 3) ls (.ref q :: rest))) : W p l e R s m args below meth c H locs cells slots Q (F0 m pc ls (.int n :: rest)) := by
  obtain ⟨hx, hb, hml, hown, hts, -, -, hK, -⟩ := Cx
  obtain ⟨hP, hD, hS, hA⟩ := hI
  refine va_newq (C := RX2) hx hb hown (hts _ hl) hov hK hP hD hS hA hn hN hby hcl hsl hd (fun q cA' H1 hK1 hP1 hD1 hS1 => ?_)
  have e1 : va_RA s cA' (.object RX2) := (hK1.2 3 (cA', .object RX2) rfl).2
  have e0 : va_RA s (cA 2) (.object RX2) := (hK.2 2 (cA 2, .object RX2) rfl).2
  obtain ⟨_, _, -, -, -, f1⟩ := e1
  obtain ⟨_, _, -, -, -, f0⟩ := e0
  have e2 : cA' = cA 2 := Option.some.inj (f1.symm.trans f0)
  rw [e2] at hP1 hD1
  exact kk q H1 ⟨hP1, hD1, hS1, hA⟩
theorem in_new (Cx : in_C p s m args meth c D cA cc nL own) (hI : in_I D A s ws H locs) {C : String} {T : u_T} {N : Nat} (ci : Nat) (fs : List Value) (hc : vwCl[ci]? = some (C, T, N)) (hin : ∀ w ∈ u_ws C T N, w ∈ wsL_law) (ty : Nat → FieldType) (hty : ∀ k, k < N → parseFieldDescriptor (T k).2.2.1 = some (ty k)) (hl : Cond.classLink own index C ∈ wsL_law) (hinst : Cond.instantiable C N ∈ wsL_law) (hini : Cond.initialized C ∈ wsL_law) (hfs : ∀ j, j < N → defaultValue (ty j) = vp_V fs j) (hcl : cells + 1 ≤ R.cells) (hsl : slots + N ≤ R.slots) (hd : decode cc pc = .ok (.new index, 3))
    (kk : ∀ (q : Nat) (H1 : Heap), in_I D A s (ws ++ [(q, .inr (ci, fs))]) H1 locs → W p l e R s m args below meth c H1 locs (cells + 1) (slots + N) Q (F0 m (pc + 3) ls (.ref q :: rest))) : W p l e R s m args below meth c H locs cells slots Q (F0 m pc ls rest) := by
  obtain ⟨hx, hb, hml, hown, hts, -, -, hK, -⟩ := Cx
  obtain ⟨hP, hD, hS, hA⟩ := hI
  exact va_new hx hb hts hin ty hty hown (hts _ hl) (hts _ hinst) (hts _ hini) hK hP hD hS hA hc hfs hcl hsl hd (fun q H1 hP1 hD1 hS1 => kk q H1 ⟨hP1, hD1, hS1, hA⟩)
theorem in_put (Cx : in_C p s m args meth c D cA cc nL own) (hI : in_I D A s ws H locs) (q0 k : Nat) {a ci : Nat} {fs : List Value} {C : String} {T : u_T} {N : Nat} (he : ws[q0]? = some (a, .inr (ci, fs))) (hc : vwCl[ci]? = some (C, T, N)) (hin : ∀ w ∈ u_ws C T N, w ∈ wsL_law) (ty0 : Nat → FieldType) (hty : ∀ k, k < N → parseFieldDescriptor (T k).2.2.1 = some (ty0 k)) (hnm : ∀ a, a < N → ∀ b, b < N → a ≠ b → (T a).2.1 ≠ (T b).2.1) (hk : k < N) (hfin : (T k).2.2.2 = false) {v : Value} (hn : narrow (ty0 k) v = v) (hfit : fits (ty0 k) v = true) (hlen : k < fs.length) (hl : Cond.fieldLink own index (T k).1 (T k).2.1 (T k).2.2.1 ∈ wsL_law) (hd : decode cc pc = .ok (.putfield index, 3))
    (kk : ∀ (H1 : Heap) (locs1 : List Loc), in_I D A s (ws.set q0 (a, .inr (ci, fs.set k v))) H1 locs1 → W p l e R s m args below meth c H1 locs1 cells slots Q (F0 m (pc + 3) ls rest)) : W p l e R s m args below meth c H locs cells slots Q (F0 m pc ls (v :: .ref a :: rest)) := by
  obtain ⟨hx, hb, hml, hown, hts, -, -, hK, -⟩ := Cx
  obtain ⟨hP, hD, hS, hA⟩ := hI
  exact va_put hx hb hts hin ty0 hty hnm hown hK hP hD hS q0 he hc k hk (hts _ hl) (fun _ h => h) hfin (hty k hk) hn hfit hlen hd (fun H1 locs1 h1 h2 h3 => kk H1 locs1 ⟨h1, h2, h3, hA⟩)
theorem in_putF (Cx : in_C p s m args meth c D cA cc nL own) (hI : in_I D A s ws H locs) (q0 k : Nat) {a ci : Nat} {fs : List Value} {C : String} {T : u_T} {N : Nat} (he : ws[q0]? = some (a, .inr (ci, fs))) (hc : vwCl[ci]? = some (C, T, N)) (hin : ∀ w ∈ u_ws C T N, w ∈ wsL_law) (ty0 : Nat → FieldType) (hty : ∀ k, k < N → parseFieldDescriptor (T k).2.2.1 = some (ty0 k)) (hnm : ∀ a, a < N → ∀ b, b < N → a ≠ b → (T a).2.1 ≠ (T b).2.1) (hk : k < N) (hfin : (T k).2.2.2 = true) (hdecl : (T k).1 = own) {v : Value} (hn : narrow (ty0 k) v = v) (hfit : fits (ty0 k) v = true) (hlen : k < fs.length) (hl : Cond.fieldLink own index (T k).1 (T k).2.1 (T k).2.2.1 ∈ wsL_law) (hd : decode cc pc = .ok (.putfield index, 3))
    (kk : ∀ (H1 : Heap) (locs1 : List Loc), in_I D A s (ws.set q0 (a, .inr (ci, fs.set k v))) H1 locs1 → W p l e R s m args below meth c H1 locs1 cells slots Q (F0 m (pc + 3) ls rest)) : W p l e R s m args below meth c H locs cells slots Q (F0 m pc ls (v :: .ref a :: rest)) := by
  obtain ⟨hx, hb, hml, hown, hts, -, -, hK, -, hnm2⟩ := Cx
  obtain ⟨hP, hD, hS, hA⟩ := hI
  exact va_putF hx hb hts hin ty0 hty hnm hown hK hP hD hS q0 he hc k hk (hts _ hl) (fun _ h => h) hfin hnm2 hdecl (hty k hk) hn hfit hlen hd (fun H1 locs1 h1 h2 h3 => kk H1 locs1 ⟨h1, h2, h3, hA⟩)
theorem in_get (Cx : in_C p s m args meth c D cA cc nL own) (hI : in_I D A s ws H locs) (q0 k : Nat) {a ci : Nat} {fs : List Value} {C : String} {T : u_T} {N : Nat} (he : ws[q0]? = some (a, .inr (ci, fs))) (hc : vwCl[ci]? = some (C, T, N)) (hin : ∀ w ∈ u_ws C T N, w ∈ wsL_law) (hk : k < N) {v : Value} (hv : fs[k]? = some v) (hl : Cond.fieldLink own index (T k).1 (T k).2.1 (T k).2.2.1 ∈ wsL_law) (hd : decode cc pc = .ok (.getfield index, 3))
    (kk : W p l e R s m args below meth c H locs cells slots Q (F0 m (pc + 3) ls (v :: rest))) : W p l e R s m args below meth c H locs cells slots Q (F0 m pc ls (.ref a :: rest)) := by
  obtain ⟨hx, hb, hml, hown, hts, -, -, hK, -⟩ := Cx
  exact va_get hx hb hts hin hown hK hI.1 q0 he hc k hk (hts _ hl) (fun _ h => h) hv hd kk
theorem in_sto (Cx : in_C p s m args meth c D cA cc nL own) (hI : in_I D A s ws H locs) (q0 j : Nat) {a n : Nat} {f : Nat → Int32} (he : ws[q0]? = some (a, .inl (cA 0, n, .inl f))) {i x : Int32} (hi : ms_in i n) (hj : i.toNatClampNeg = j) (hd : decode cc pc = .ok (.iastore, 1))
    (kk : ∀ (H1 : Heap) (locs1 : List Loc), in_I D A s (ws.set q0 (a, .inl (cA 0, n, .inl (upd f j x)))) H1 locs1 → W p l e R s m args below meth c H1 locs1 cells slots Q (F0 m (pc + 1) ls rest)) : W p l e R s m args below meth c H locs cells slots Q (F0 m pc ls (.int x :: .int i :: .ref a :: rest)) := by
  subst hj
  obtain ⟨hx, hb, hml, hown, hts, -, -, hK, -⟩ := Cx
  obtain ⟨hP, hD, hS, hA⟩ := hI
  exact va_iast hx hb hK hP hD hS q0 0 he rfl (ms_inV hi) hd (fun H1 locs1 h1 h2 h3 => kk H1 locs1 ⟨h1, h2, h3, hA⟩)
theorem in_stq (Cx : in_C p s m args meth c D cA cc nL own) (hI : in_I D A s ws H locs) (q0 qk j : Nat) {a n v : Nat} {vs : List Value} {f : Nat → Option Nat} (he : ws[q0]? = some (a, .inl (cA 2, n, .inr (.inr (.inr (.inr f)))))) (hv : ws[qk]? = some (v, .inr (2, vs))) {i : Int32} (hi : ms_in i n) (hj : i.toNatClampNeg = j) (hd : decode cc pc = .ok (.aastore, 1))
    (kk : ∀ (H1 : Heap) (locs1 : List Loc), in_I D A s (ws.set q0 (a, .inl (cA 2, n, .inr (.inr (.inr (.inr (va_up f j (some v)))))))) H1 locs1 → W p l e R s m args below meth c H1 locs1 cells slots Q (F0 m (pc + 1) ls rest)) : W p l e R s m args below meth c H locs cells slots Q (F0 m pc ls (.ref v :: .int i :: .ref a :: rest)) := by
  subst hj
  obtain ⟨hx, hb, hml, hown, hts, -, -, hK, -⟩ := Cx
  obtain ⟨hP, hD, hS, hA⟩ := hI
  exact va_astq (r := (RX2, TX2, 4)) hx hb hK hP hD hS q0 2 qk 2 he rfl hv rfl (ms_inV hi) hd (fun H1 locs1 h1 h2 h3 => kk H1 locs1 ⟨h1, h2, h3, hA⟩)
theorem in_ret (Cx : in_C p s m args meth c D cA cc nL own) (hI : in_I D A s ws H locs) {wf : (Nat → Nat) → va_W} {h0 : Nat} (u : Nat → Nat) (hu : u 0 = h0) (is : List Nat) (h1 : is.filterMap (fun i => ws[i]?) = wf u) (h2 : is.map (fun i => ws[i]?) = (wf u).map some) (hn : va_nd is = true) (hd : decode cc pc = .ok (.return_, 1)) : W p l e R s m args below meth c H locs cells slots (MQ below (in_Q D A h0 wf) args s cells slots A) (F0 m pc ls []) := by
  obtain ⟨hx, hb, hml, hown, hts, hr, hlocks, hK, -⟩ := Cx
  obtain ⟨hP, hD, hS, hA⟩ := hI
  exact W.vret hx hb hr (fun t ht hW => ⟨⟨u, rfl, hu, by rw [ht]; exact hP.sub is h1, hD.sub is hn h2⟩, hS.F ht⟩) hS.2.2 hd
/-- a static row's copy -/
theorem in_clone (Cx : in_C p s m args meth c D cA cc nL own) (hI : in_I D A s ws H locs) {t : Nat} (hZ : in_ZF A (cA 0) t s s.heap) (hcst : va_Nw (.castable "[I" "java/lang/Cloneable") s) (hl : Cond.methodLink own index ⟨"[I", "clone", "()Ljava/lang/Object;"⟩ ∈ wsL_law) (hsz : ls.size = nL) (hf : 1 ≤ R.frames) (hlo : (rest.map fun v => v.category).sum + 14 ≤ R.locals) (hcl : cells + 1 ≤ R.cells) (hsl : slots + 9 ≤ R.slots) (hd : decode cc pc = .ok (.invokevirtual index, 3))
    (kk : ∀ (q : Nat) (H1 : Heap), in_I D A s (ws ++ [(q, .inl (cA 0, 9, .inl ms_sf))]) H1 locs → W p l e R s m args below meth c H1 locs (cells + 1) (slots + 9) Q (F0 m (pc + 3) ls (.ref q :: rest))) : W p l e R s m args below meth c H locs cells slots Q (F0 m pc ls (.ref t :: rest)) := by
  obtain ⟨hx, hb, hml, hown, hts, -, -, hK, -⟩ := Cx
  obtain ⟨hP, hD, hS, hA⟩ := hI
  obtain ⟨-, cell, z1, z2, z3, z4, z5, z6⟩ := hZ
  have hcellH : H[t]? = some cell := by rw [hS.2.1 t (Array.getElem?_eq_some_iff.mp z1).1 z6]; exact z1
  have hnm : s.vm.findClass "[I" = some (cA 0) := va_nm_int (hK.2 0 (cA 0, .int) rfl).2
  obtain ⟨c0, t0, f1, f2, f3⟩ := Cond.castable_spec (va_Nw.use (A := args) rfl hcst)
  cases hnm.symm.trans f1
  obtain ⟨-, kS, hkS, compS, hkindS⟩ := (hK.2 0 (cA 0, .int) rfl).1 0 (fun _ => .null)
  have hsize : cell.slots.size = 9 := by rw [z5]; exact arrV_size _ _ _
  have hcellE : ({ cls := cell.cls, slots := cell.slots } : Cell) = vp_cell (cA 0) (9, .inl ms_sf) := by rw [z4, z5]; rfl
  intro T hT X
  obtain ⟨-, kA, hkA, comp, hkind⟩ := State.isArrayOf_alike X.warmed.alike ((hK.2 0 (cA 0, .int) rfl).1 0 (fun _ => .null))
  have hk' : T.vm.classes[cA 0]? = some kA := hkA
  obtain ⟨vm', X', st⟩ := X.cloneArray hx hown (hts _ hl) (hts _ wd_1_18) (hts _ wd_1_19) (hts _ wd_1_20) (hts _ wd_1_21) (a := t) (cell := cell) (by rw [hT]; exact hcellH) z2 z3 (by rw [z4]; exact hnm) f2 (by rw [z4]; exact f3)
    (fun i v hv => by
      rw [z4]
      have hfv : fits .int v = true := by
        rw [z5] at hv
        exact va_fit (cA := cA 0) (n := 9) (F := fun j => .int (ms_sf j)) (fun _ _ => rfl) i v hv
      simpa [State.fitsSlot, State.slotType?, hk', hkind] using hfv)
    (g := F0 m pc ls (.ref t :: rest)) rfl (by rw [hml]; exact hsz) rfl (by rw [hb]; exact hd) hf (by show 2 * 0 + _ + 14 ≤ _; omega) hcl (by rw [hsize]; exact hsl) (hloader := by rw [z4]; exact Vm.clonesLoader_of_array hkS hkindS)
  rw [hcellE, hsize] at X'
  generalize hH1 : H.push (vp_cell (cA 0) (9, .inl ms_sf)) = H1
  have w1 : H1.size = H.size + 1 := by rw [← hH1, Array.size_push]
  have e1 : H1[H.size]? = some (vp_cell (cA 0) (9, .inl ms_sf)) := by rw [← hH1, Array.getElem?_push_size]
  have o1 : ∀ q : Nat, q < H.size → H1[q]? = H[q]? := fun q hq => by rw [← hH1, Array.getElem?_push, if_neg (Nat.ne_of_lt hq)]
  have hk : ∀ (k : Nat) (y : Nat × va_E), ws[k]? = some y → H1[y.1]? = H[y.1]? := fun k y hy => o1 y.1 ((hP k y hy).lt)
  obtain ⟨t2, b1, b2⟩ := kk H.size H1 ⟨(hP.kept hk).app (fun k y hy => by
      have hz : k < 1 := (List.getElem?_eq_some_iff.mp hy).1
      rw [show k = 0 by omega] at hy
      cases hy
      exact e1), hD.push hP rfl (hA _ hS.1), ⟨Nat.le_trans hS.1 (by omega), fun y h1 h2 => (o1 y (Nat.lt_of_lt_of_le h1 hS.1)).trans (hS.2.1 y h1 h2), hS.2.2⟩, hA⟩
    ((T.setVm vm').pushCell (vp_cell (cA 0) (9, .inl ms_sf))) (by rw [← hH1, ← hT]; rfl) X'
  refine ⟨t2, st t2 ?_, b2⟩
  rw [hcellE, hT]
  exact b1
theorem in_cast (Cx : in_C p s m args meth c D cA cc nL own) (hI : in_I D A s ws H locs) (q0 : Nat) {a : Nat} {x : vp_A} (he : ws[q0]? = some (a, .inl (cA 0, x))) (hl : Cond.classLink own index "[I" ∈ wsL_law) (hd : decode cc pc = .ok (.checkcast index, 3))
    (kk : W p l e R s m args below meth c H locs cells slots Q (F0 m (pc + 3) ls (.ref a :: rest))) : W p l e R s m args below meth c H locs cells slots Q (F0 m pc ls (.ref a :: rest)) := by
  obtain ⟨hx, hb, hml, hown, hts, -, -, hK, -⟩ := Cx
  exact va_castA hx hb hown (hts _ hl) hI.1 q0 he (va_nm_int (hK.2 0 (cA 0, .int) rfl).2) hd kk
theorem in_blind {av : List Value} {ws : va_W} {sz : Nat} {Z : State → Prop} (hZ : ∀ (b : Array Value) (U : State) (g : JFrame) (mk : MethodId), Z U → Z (U.calling g mk b)) : FrameBlind (in_Pc D cA av ws sz Z) := fun b U g mk q => by
  obtain ⟨q0, q1, qK, qN, qP, qD, qZ⟩ := q
  exact ⟨q0, q1, va_K.moved (u := U) (U := U.calling g mk b) (Vm.Alike.refl U.vm) qK, ms_NW.same (s := U) (U := U.calling g mk b) rfl qN, qP, qD, hZ b U g mk qZ⟩
theorem in_gets (Cx : in_C p s m args meth c D cA cc nL own) (hI : in_I D A s ws H locs) {t : Nat} (hZ : in_ZF A (cA 0) t s s.heap) (hl : Cond.fieldLink own index "MarketSpring" "SETTING_FIRST" "[I" ∈ wsL_law) (hd : decode cc pc = .ok (.getstatic index, 3))
    (kk : W p l e R s m args below meth c H locs cells slots Q (F0 m (pc + 3) ls (.ref t :: rest))) : W p l e R s m args below meth c H locs cells slots Q (F0 m pc ls rest) := by
  obtain ⟨hx, hb, hml, hown, hts, -, -, hK, -⟩ := Cx
  exact va_gets hx hb hZ.1 hI.2.2.1 hown (hts _ hl) (fun _ h => h) hd kk
theorem in_sameq (hI : in_I D A s ws H locs) (q0 : Nat) {a n : Nat} {cB : ClassId} {f : Nat → Option Nat} (g : Nat → Option Nat) (he : ws[q0]? = some (a, .inl (cB, n, .inr (.inr (.inr (.inr f)))))) (hfg : ∀ j, j < n → f j = g j) : in_I D A s (ws.set q0 (a, .inl (cB, n, .inr (.inr (.inr (.inr g)))))) H locs := by
  obtain ⟨hP, hD, hS, hA⟩ := hI
  refine ⟨hP.set hD he ?_ (fun _ _ => rfl), hD.set he, hS, hA⟩
  have h1 : H[a]? = some (vp_cell cB (n, .inr (.inr (.inr (.inr f))))) := hP q0 _ he
  show H[a]? = some (vp_cell cB (n, .inr (.inr (.inr (.inr g)))))
  rw [h1]
  congr 1
  show arrV cB n (fun j => va_rf (f j)) = arrV cB n (fun j => va_rf (g j))
  unfold arrV
  congr 2
  funext j
  show va_rf (f j.val) = va_rf (g j.val)
  rw [hfg j.val j.isLt]
theorem in_GI {y : MethodName} {bytes : ByteArray} {maxL : Nat} (h : Cond.code y bytes maxL none ∈ wsL_law) : GoodIn wsL_law (.code y bytes maxL none :: wsL_law) := by
  intro w hw
  rcases List.mem_cons.mp hw with rfl | h2
  · exact ms_gw h
  · exact ms_gw h2
/-- a constructor's call: its object's cell comes back with what it made -/
theorem in_cI (Cx : in_C p s m args meth c D cA cc nL own) (hI : in_I D A s ws H locs) {y : MethodName} {bytes : ByteArray} {maxL n mc ms b : Nat} {rm : Room} {As : List Value} {wc : va_W} {wf : (Nat → Nat) → va_W} {st0 : List Value} (isC isR : List Nat) (wr : va_W)
    (hM : Met l y (.code y bytes maxL none :: wsL_law) rm (in_Pc D cA (.ref b :: As) wc H.size (fun _ => True)) (in_Q D (va_A wc H.size) b wf) mc ms (va_A wc H.size)) (hrm : rm.cells = mc ∧ rm.slots = ms)
    (hC : isC.map (fun i => ws[i]?) = wc.map some) (hCf : isC.filterMap (fun i => ws[i]?) = wc) (hCn : va_nd isC = true) (hR : isR.map (fun i => ws[i]?) = wr.map some) (hn : va_nd isR = true) (hdis : ∀ i ∈ isR, i ∉ isC)
    (hl : Cond.methodLink own index y ∈ wsL_law ∨ (own, index, y) ∈ ms_nq) (hcode : Cond.code y bytes maxL none ∈ wsL_law) (hin : Cond.instanceMethod y ∈ wsL_law) (hini : Cond.initialized y.cls ∈ wsL_law) (hy1 : y.name = "<init>") (hy : y.cls ≠ "java/lang/invoke/MethodHandle" ∧ y.cls ≠ "java/lang/invoke/VarHandle" ∧ (parseMethodDescriptor y.desc).map (fun d => d.parameters.length) = some n)
    (hroom : rm.frames + 1 ≤ R.frames ∧ 8 + (maxL + 11) + rm.locals ≤ R.locals) (hlen : As.length = n) (hsz : ls.size = nL) (hst : st0 = As.reverse ++ .ref b :: rest) (hW : (rest.map fun v => v.category).sum ≤ 8) (hcs : cells + mc ≤ R.cells ∧ slots + ms ≤ R.slots) (hd : decode cc pc = .ok (.invokespecial index, 3))
    (kk : ∀ (u : Nat → Nat) (H1 : Heap) (locs1 : List Loc), u 0 = b → in_I D A s (wr ++ wf u) H1 locs1 → W p l e R s m args below meth c H1 locs1 (cells + mc) (slots + ms) Q (F0 m (pc + 3) ls rest)) : W p l e R s m args below meth c H locs cells slots Q (F0 m pc ls st0) := by
  obtain ⟨hx, hb, hml, hown, hts, hr, hlocks, hK, hN, -⟩ := Cx
  obtain ⟨hP, hD, hS, hA⟩ := hI
  have hPc := hP.sub (ws' := wc) isC hCf
  have hDc := hD.sub (ws' := wc) isC hCn hC
  have hFc := va_free (wc := wc) hD hS hA isC hC
  have hpre : PreS s H (in_Pc D cA (.ref b :: As) wc H.size (fun _ => True)) (.ref b :: As) := ⟨in_blind (fun _ _ _ _ _ => trivial), fun U hU hW => ⟨rfl, by rw [hU], va_K.moved hW.alike hK, ms_NW.warm hW hN, by rw [hU]; exact hPc, hDc.weaken (fun _ _ _ _ => trivial), trivial⟩⟩
  have hrun : va_Run p l e R s m args below meth c H locs cells slots mc ms (F0 m pc ls st0) rest (in_Q D (va_A wc H.size) b wf (Value.ref b :: As).toArray) (va_A wc H.size) := by
    rcases hl with hl | hl
    · exact va_runI (As := As) (rest := rest) ⟨hx, hb, hml, hown, hts⟩ hM (cwI n hts (in_GI hcode) rfl hrm.1 hrm.2 (hts _ hini) (hts _ hl) (hts _ hin) hy1 hy hroom) hpre rfl hlen hsz hst (lv_room hW) hd hcs
    · exact va_runIN (As := As) (rest := rest) ⟨hx, hb, hml, hown, hts⟩ hM ⟨va_cnB n hts (in_GI hcode) rfl hrm.1 hrm.2 (hN _ hl) (hts _ hini) hy hroom, hy1, hts _ hin⟩ hpre rfl hlen hsz hst (lv_room hW) hd hcs
  refine va_callv hrun hS (fun q _ h => hFc q h) hFc (fun u t H1 locs1 ht hvm hu hB hz1 hk1 hS1 => ?_)
  obtain ⟨hP1, hD1⟩ := hB
  rw [ht] at hP1
  obtain ⟨hP2, hD2⟩ := va_join (wr := wr) (w1 := wf u) hP hD isC isR hC hR hn hdis hk1 hFc hP1 hD1
  exact kk u H1 locs1 hu ⟨hP2, hD2, hS1, hA⟩
end INI
