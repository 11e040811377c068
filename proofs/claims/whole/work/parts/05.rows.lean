/-! ===== rows over that memory ===== -/
section MSR
variable {p : Program} {l : Launch} {e : Env} {R : Room} {s : State} {m : MethodId} {args : Array Value} {below : List Frame} {meth : Method} {c : Code} {H : Heap} {locs : List Loc} {cells slots : Nat} {Q : State → Prop}
variable {D : va_G} {cA : Nat → ClassId} {a : Nat → Nat} {sh : List ms_Sh} {cc : ByteArray} {nL : Nat} {own : String} {ret : Option FieldType} {σ : Mm} {pc : Nat} {ls : Array Slot} {rest : List Value}
theorem ms_gi (Cx : ms_C p s m args meth c D cA a sh cc nL own ret) (hI : ms_I D cA a sh s σ H locs) (k i : Nat) {ci : Nat} {L : List (Option Nat)} {C : String} {T : u_T} {N : Nat} (hs : sh[k]? = some (.inr (ci, L))) (hL : L[i]? = some none) (hc : vwCl[ci]? = some (C, T, N)) (hin : ∀ w ∈ u_ws C T N, w ∈ wsL_law) (hk : i < N) {index : Nat} (hl : Cond.fieldLink own index (T i).1 (T i).2.1 (T i).2.2.1 ∈ wsL_law) (hd : decode cc pc = .ok (.getfield index, 3))
    (kk : W p l e R s m args below meth c H locs cells slots Q (F0 m (pc + 3) ls (.int (σ k i) :: rest))) : W p l e R s m args below meth c H locs cells slots Q (F0 m pc ls (.ref (a k) :: rest)) := by
  obtain ⟨hx, hb, -, hown, hts, -, -, hK, -, -⟩ := Cx
  have he := ms_wl_get a cA σ sh 0 k hs
  rw [Nat.zero_add] at he
  refine va_get (fs := ms_fl a (σ k) 0 L) (v := .int (σ k i)) hx hb hts hin hown hK hI.1 k he hc i hk (hts _ hl) (fun _ h => h) ?_ hd kk
  rw [ms_fl_i a (σ k) L 0 i hL, Nat.zero_add]
theorem ms_gr (Cx : ms_C p s m args meth c D cA a sh cc nL own ret) (hI : ms_I D cA a sh s σ H locs) (k i j : Nat) {ci : Nat} {L : List (Option Nat)} {C : String} {T : u_T} {N : Nat} (hs : sh[k]? = some (.inr (ci, L))) (hL : L[i]? = some (some j)) (hc : vwCl[ci]? = some (C, T, N)) (hin : ∀ w ∈ u_ws C T N, w ∈ wsL_law) (hk : i < N) {index : Nat} (hl : Cond.fieldLink own index (T i).1 (T i).2.1 (T i).2.2.1 ∈ wsL_law) (hd : decode cc pc = .ok (.getfield index, 3))
    (kk : W p l e R s m args below meth c H locs cells slots Q (F0 m (pc + 3) ls (.ref (a j) :: rest))) : W p l e R s m args below meth c H locs cells slots Q (F0 m pc ls (.ref (a k) :: rest)) := by
  obtain ⟨hx, hb, -, hown, hts, -, -, hK, -, -⟩ := Cx
  have he := ms_wl_get a cA σ sh 0 k hs
  rw [Nat.zero_add] at he
  refine va_get (fs := ms_fl a (σ k) 0 L) (v := .ref (a j)) hx hb hts hin hown hK hI.1 k he hc i hk (hts _ hl) (fun _ h => h) ?_ hd kk
  rw [ms_fl_r a (σ k) L 0 i hL]
theorem ms_pi (Cx : ms_C p s m args meth c D cA a sh cc nL own ret) (hI : ms_I D cA a sh s σ H locs) (k i : Nat) {v : Int32} {ci : Nat} {L : List (Option Nat)} {C : String} {T : u_T} {N : Nat} (hs : sh[k]? = some (.inr (ci, L))) (hL : L[i]? = some none) (hc : vwCl[ci]? = some (C, T, N)) (hin : ∀ w ∈ u_ws C T N, w ∈ wsL_law) (ty0 : Nat → FieldType) (hty : ∀ k, k < N → parseFieldDescriptor (T k).2.2.1 = some (ty0 k)) (hnm : ∀ a, a < N → ∀ b, b < N → a ≠ b → (T a).2.1 ≠ (T b).2.1) (hk : i < N) (hfin : (T i).2.2.2 = false) (hn : narrow (ty0 i) (.int v) = .int v) (hfit : fits (ty0 i) (.int v) = true) {index : Nat} (hl : Cond.fieldLink own index (T i).1 (T i).2.1 (T i).2.2.1 ∈ wsL_law) (hd : decode cc pc = .ok (.putfield index, 3))
    (kk : ∀ (H1 : Heap) (locs1 : List Loc), ms_I D cA a sh s (ms_st σ k i v) H1 locs1 → W p l e R s m args below meth c H1 locs1 cells slots Q (F0 m (pc + 3) ls rest)) : W p l e R s m args below meth c H locs cells slots Q (F0 m pc ls (.int v :: .ref (a k) :: rest)) := by
  obtain ⟨hx, hb, -, hown, hts, -, -, hK, hDis, -⟩ := Cx
  have he := ms_wl_get a cA σ sh 0 k hs
  rw [Nat.zero_add] at he
  refine va_put (fs := ms_fl a (σ k) 0 L) (v := .int v) (ty := ty0 i) hx hb hts hin ty0 hty hnm hown hK hI.1 (ms_D hDis) hI.2 k he hc i hk (hts _ hl) (fun _ h => h) hfin (hty i hk) hn hfit ?_ hd (fun H1 locs1 h1 _ h3 => kk H1 locs1 ⟨?_, h3⟩)
  · rw [ms_fl_len]; exact (List.getElem?_eq_some_iff.mp hL).1
  · have e2 := ms_wl_set a cA (σ := σ) (σ' := ms_st σ k i v) sh 0 k hs (fun j hj => ms_st_n σ i v (by omega))
    rw [Nat.zero_add] at e2
    rw [← e2]
    rw [ms_fl_set a (σ k) v L 0 i hL, Nat.zero_add] at h1
    rw [ms_st_s]
    exact h1
theorem ms_ld (Cx : ms_C p s m args meth c D cA a sh cc nL own ret) (hI : ms_I D cA a sh s σ H locs) (k : Nat) {n b : Nat} (hs : sh[k]? = some (.inl (0, n, b))) {i : Int32} (hi : ms_in i n) (hd : decode cc pc = .ok (.iaload, 1))
    (kk : W p l e R s m args below meth c H locs cells slots Q (F0 m (pc + 1) ls (.int (σ k (ms_ix i)) :: rest))) : W p l e R s m args below meth c H locs cells slots Q (F0 m pc ls (.int i :: .ref (a k) :: rest)) := by
  obtain ⟨hx, hb, -, hown, hts, -, -, hK, -, -⟩ := Cx
  have he := ms_wl_get a cA σ sh 0 k hs
  rw [Nat.zero_add] at he
  exact va_iald hx hb hK hI.1 k 0 (f := σ k) (n := n) (cA := cA 0) he rfl (ms_inV hi) hd kk
theorem ms_ldz (Cx : ms_C p s m args meth c D cA a sh cc nL own ret) (hI : ms_I D cA a sh s σ H locs) (k : Nat) {n b : Nat} (hs : sh[k]? = some (.inl (1, n, b))) {i : Int32} (hi : ms_in i n) (hd : decode cc pc = .ok (.baload, 1))
    (kk : W p l e R s m args below meth c H locs cells slots Q (F0 m (pc + 1) ls (.int (σ k (ms_ix i)) :: rest))) : W p l e R s m args below meth c H locs cells slots Q (F0 m pc ls (.int i :: .ref (a k) :: rest)) := by
  obtain ⟨hx, hb, -, hown, hts, -, -, hK, -, -⟩ := Cx
  have he := ms_wl_get a cA σ sh 0 k hs
  rw [Nat.zero_add] at he
  exact va_zald hx hb hK hI.1 k 1 (f := σ k) (n := n) (cA := cA 1) he rfl (ms_inV hi) hd kk
theorem ms_ldr (Cx : ms_C p s m args meth c D cA a sh cc nL own ret) (hI : ms_I D cA a sh s σ H locs) (k : Nat) {n b : Nat} (hs : sh[k]? = some (.inl (2, n, b))) {i : Int32} (hi : ms_in i n) (hd : decode cc pc = .ok (.aaload, 1))
    (kk : W p l e R s m args below meth c H locs cells slots Q (F0 m (pc + 1) ls (.ref (a (b + 2 * ms_ix i)) :: rest))) : W p l e R s m args below meth c H locs cells slots Q (F0 m pc ls (.int i :: .ref (a k) :: rest)) := by
  obtain ⟨hx, hb, -, hown, hts, -, -, hK, -, -⟩ := Cx
  have he := ms_wl_get a cA σ sh 0 k hs
  rw [Nat.zero_add] at he
  exact va_aldq hx hb hK hI.1 k 2 (f := fun i => some (a (b + 2 * i))) (n := n) (cA := cA 2) (C := RX2) he rfl (ms_inV hi) hd kk
theorem ms_sto (Cx : ms_C p s m args meth c D cA a sh cc nL own ret) (hI : ms_I D cA a sh s σ H locs) (k : Nat) {n b : Nat} (hs : sh[k]? = some (.inl (0, n, b))) {i x : Int32} (hi : ms_in i n) (hd : decode cc pc = .ok (.iastore, 1))
    (kk : ∀ (H1 : Heap) (locs1 : List Loc) (σ1 : Mm), σ1 = ms_st σ k (ms_ix i) x → ms_I D cA a sh s σ1 H1 locs1 → W p l e R s m args below meth c H1 locs1 cells slots Q (F0 m (pc + 1) ls rest)) : W p l e R s m args below meth c H locs cells slots Q (F0 m pc ls (.int x :: .int i :: .ref (a k) :: rest)) := by
  obtain ⟨hx, hb, -, hown, hts, -, -, hK, hDis, -⟩ := Cx
  have he := ms_wl_get a cA σ sh 0 k hs
  rw [Nat.zero_add] at he
  refine va_iast hx hb hK hI.1 (ms_D hDis) hI.2 k 0 (f := σ k) (n := n) (cA := cA 0) he rfl (ms_inV hi) hd (fun H1 locs1 h1 _ h3 => kk H1 locs1 _ rfl ⟨?_, h3⟩)
  have e2 := ms_wl_set a cA (σ := σ) (σ' := ms_st σ k (ms_ix i) x) sh 0 k hs (fun j hj => ms_st_n σ _ x (by omega))
  rw [Nat.zero_add] at e2
  rw [← e2, ms_st_s]
  exact h1
theorem ms_stz (Cx : ms_C p s m args meth c D cA a sh cc nL own ret) (hI : ms_I D cA a sh s σ H locs) (k : Nat) {n b : Nat} (hs : sh[k]? = some (.inl (1, n, b))) {i x : Int32} (hi : ms_in i n) (hz : x = 0 ∨ x = 1) (hd : decode cc pc = .ok (.bastore, 1))
    (kk : ∀ (H1 : Heap) (locs1 : List Loc) (σ1 : Mm), σ1 = ms_st σ k (ms_ix i) x → ms_I D cA a sh s σ1 H1 locs1 → W p l e R s m args below meth c H1 locs1 cells slots Q (F0 m (pc + 1) ls rest)) : W p l e R s m args below meth c H locs cells slots Q (F0 m pc ls (.int x :: .int i :: .ref (a k) :: rest)) := by
  obtain ⟨hx, hb, -, hown, hts, -, -, hK, hDis, -⟩ := Cx
  have he := ms_wl_get a cA σ sh 0 k hs
  rw [Nat.zero_add] at he
  refine va_zast hx hb hK hI.1 (ms_D hDis) hI.2 k 1 (f := σ k) (n := n) (cA := cA 1) he rfl (ms_inV hi) hd (fun H1 locs1 h1 _ h3 => kk H1 locs1 _ rfl ⟨?_, h3⟩)
  have e2 := ms_wl_set a cA (σ := σ) (σ' := ms_st σ k (ms_ix i) x) sh 0 k hs (fun j hj => ms_st_n σ _ x (by omega))
  rw [Nat.zero_add] at e2
  rw [ms_vb hz] at h1
  rw [← e2, ms_st_s]
  exact h1
theorem ms_ri (Cx : ms_C p s m args meth c D cA a sh cc nL own (some .int)) (hI : ms_I D cA a sh s σ H locs) {v r : Int32} {u : Mm} (hr : v = r) (hu : σ = u) (hd : decode cc pc = .ok (.ireturn, 1)) : W p l e R s m args below meth c H locs cells slots (MQ below (ms_Qi D cA a sh r u) args s cells slots (ms_A a sh.length)) (F0 m pc ls [.int v]) := by
  obtain ⟨hx, hb, -, hown, hts, hrt, hlocks, hK, hDis, -⟩ := Cx
  subst hr; subst hu
  exact W.iret hx hb hrt (fun t ht hW => ⟨⟨v, σ, rfl, ⟨rfl, rfl⟩, by show va_P _ _ _ _; rw [ht]; exact hI.1⟩, hI.2.F ht⟩) hI.2.2.2 hd
theorem ms_rz (Cx : ms_C p s m args meth c D cA a sh cc nL own (some .boolean)) (hI : ms_I D cA a sh s σ H locs) {v r : Int32} {u : Mm} (hz : v = 0 ∨ v = 1) (hr : v = r) (hu : σ = u) (hd : decode cc pc = .ok (.ireturn, 1)) : W p l e R s m args below meth c H locs cells slots (MQ below (ms_Qi D cA a sh r u) args s cells slots (ms_A a sh.length)) (F0 m pc ls [.int v]) := by
  obtain ⟨hx, hb, -, hown, hts, hrt, hlocks, hK, hDis, -⟩ := Cx
  subst hr; subst hu
  exact W.zret hx hb hrt (ms_nb hz) (fun t ht hW => ⟨⟨v, σ, rfl, ⟨rfl, rfl⟩, by show va_P _ _ _ _; rw [ht]; exact hI.1⟩, hI.2.F ht⟩) hI.2.2.2 hd
theorem ms_rl (Cx : ms_C p s m args meth c D cA a sh cc nL own (some .long)) (hI : ms_I D cA a sh s σ H locs) {v r : Int64} {u : Mm} (hr : v = r) (hu : σ = u) (hd : decode cc pc = .ok (.lreturn, 1)) : W p l e R s m args below meth c H locs cells slots (MQ below (ms_Ql D cA a sh r u) args s cells slots (ms_A a sh.length)) (F0 m pc ls [.long v]) := by
  obtain ⟨hx, hb, -, hown, hts, hrt, hlocks, hK, hDis, -⟩ := Cx
  subst hr; subst hu
  exact W.lret hx hb hrt (fun t ht hW => ⟨⟨v, σ, rfl, ⟨rfl, rfl⟩, by show va_P _ _ _ _; rw [ht]; exact hI.1⟩, hI.2.F ht⟩) hI.2.2.2 hd
theorem ms_rv (Cx : ms_C p s m args meth c D cA a sh cc nL own none) (hI : ms_I D cA a sh s σ H locs) {u : Mm} (hu : σ = u) (hd : decode cc pc = .ok (.return_, 1)) : W p l e R s m args below meth c H locs cells slots (MQ below (ms_Qv D cA a sh u) args s cells slots (ms_A a sh.length)) (F0 m pc ls []) := by
  obtain ⟨hx, hb, -, hown, hts, hrt, hlocks, hK, hDis, -⟩ := Cx
  subst hu
  exact W.vret hx hb hrt (fun t ht hW => ⟨⟨σ, rfl, rfl, by show va_P _ _ _ _; rw [ht]; exact hI.1⟩, hI.2.F ht⟩) hI.2.2.2 hd
/-! calls -/
variable {y : MethodName} {bytes : ByteArray} {maxL n idx : Nat} {rt : Option FieldType} {rm : Room} {C : String} {av : List Value} {st0 : List Value}
/-- what a method's own words say: instance, static -/
def ms_YV (y : MethodName) (C : String) (bytes : ByteArray) (maxL : Nat) (rt : Option FieldType) (n : Nat) : Prop := Cond.instanceMethod y ∈ wsL_law ∧ Cond.selects C y y ∈ wsL_law ∧ Cond.initialized C ∈ wsL_law ∧ Cond.code y bytes maxL rt ∈ wsL_law ∧ y.cls = C ∧ y.cls ≠ "java/lang/invoke/MethodHandle" ∧ y.cls ≠ "java/lang/invoke/VarHandle" ∧ (parseMethodDescriptor y.desc).map (fun d => d.parameters.length) = some n
def ms_YS (y : MethodName) (bytes : ByteArray) (maxL : Nat) (rt : Option FieldType) (n : Nat) : Prop := Cond.static y ∈ wsL_law ∧ Cond.initialized y.cls ∈ wsL_law ∧ Cond.code y bytes maxL rt ∈ wsL_law ∧ y.cls ≠ "java/lang/invoke/MethodHandle" ∧ y.cls ≠ "java/lang/invoke/VarHandle" ∧ (parseMethodDescriptor y.desc).map (fun d => d.parameters.length) = some n
theorem ms_gw {w : Cond} (h : w ∈ wsL_law) : w ∈ wsL_law ∧ ((w.onTables && w.keeps) = true ∨ ∃ ty, w = .arrayClass ty) := ms_gG w h
theorem ms_GV (hy : ms_YV y C bytes maxL rt n) (hl : Cond.methodLink own idx y ∈ wsL_law) : GoodIn wsL_law (wsV own idx C y (.code y bytes maxL rt :: wsL_law)) := by
  obtain ⟨h1, h2, h3, h4, -⟩ := hy
  intro w hw
  unfold wsV at hw
  rcases List.mem_append.mp hw with h | h
  · simp only [List.mem_cons, List.not_mem_nil, or_false] at h
    rcases h with rfl | rfl | rfl | rfl
    · exact ms_gw hl
    · exact ms_gw h1
    · exact ms_gw h2
    · exact ms_gw h3
  · rcases List.mem_cons.mp h with rfl | h
    · exact ms_gw h4
    · exact ms_gw h
theorem ms_GS (hy : ms_YS y bytes maxL rt n) (hl : Cond.methodLink own idx y ∈ wsL_law) : GoodIn wsL_law (va_wsS own idx y (.code y bytes maxL rt :: wsL_law)) := by
  obtain ⟨h1, h2, h4, -⟩ := hy
  intro w hw
  unfold va_wsS at hw
  rcases List.mem_append.mp hw with h | h
  · simp only [List.mem_cons, List.not_mem_nil, or_false] at h
    rcases h with rfl | rfl | rfl
    · exact ms_gw hl
    · exact ms_gw h1
    · exact ms_gw h2
  · rcases List.mem_cons.mp h with rfl | h
    · exact ms_gw h4
    · exact ms_gw h
theorem ms_GN (hy : ms_YS y bytes maxL rt n) : GoodIn wsL_law (.code y bytes maxL rt :: wsL_law) := by
  intro w hw
  rcases List.mem_cons.mp hw with rfl | h
  · exact ms_gw hy.2.2.1
  · exact ms_gw h
theorem ms_pre (Cx : ms_C p s m args meth c D cA a sh cc nL own ret) (hI : ms_I D cA a sh s σ H locs) (vs : List Value) : ∀ U : State, U.heap = H → s.WarmedH U.vm → ms_Pc D cA a sh vs σ vs.toArray U := by
  obtain ⟨hx, hb, hml, hown, hts, hrt, hlocks, hK, hDis, hN⟩ := Cx
  exact fun U hU hW => ⟨rfl, va_K.moved hW.alike hK, ms_NW.warm hW hN, by rw [hU]; exact hI.1⟩
theorem ms_runV (Cx : ms_C p s m args meth c D cA a sh cc nL own ret) (hI : ms_I D cA a sh s σ H locs) (k : Nat) {ci : Nat} {L : List (Option Nat)} {q : vw_C} (hs : sh[k]? = some (.inr (ci, L))) (hc : vwCl[ci]? = some q) (hq : q.1 = C) {Qc : Array Value → State → Outcome → State → Prop} {free : Addr → Prop}
    (hy : ms_YV y C bytes maxL rt n) (hM : Met l y (.code y bytes maxL rt :: wsL_law) rm (ms_Pc D cA a sh (.ref (a k) :: av) σ) Qc 0 0 free) (hrm : rm.cells = 0 ∧ rm.slots = 0) (hl : Cond.methodLink own idx y ∈ wsL_law) (hR : rm.frames + 1 ≤ R.frames ∧ 8 + (maxL + 11) + rm.locals ≤ R.locals) (hn : av.length = n) (hsz : ls.size = nL) (hst : st0 = av.reverse ++ .ref (a k) :: rest) (hW : (rest.map fun v => v.category).sum ≤ 8) (hcs : cells ≤ R.cells ∧ slots ≤ R.slots) (hd : decode cc pc = .ok (.invokevirtual idx, 3)) :
    va_Run p l e R s m args below meth c H locs cells slots 0 0 (F0 m pc ls st0) rest (Qc (Value.ref (a k) :: av).toArray) free := by
  have hpre := ms_pre Cx hI (.ref (a k) :: av)
  have hgv := ms_GV (own := own) (idx := idx) hy hl
  obtain ⟨hx, hb, hml, hown, hts, hrt, hlocks, hK, hDis, hN⟩ := Cx
  have he := ms_wl_get a cA σ sh 0 k hs
  rw [Nat.zero_add] at he
  obtain ⟨h1, h2, h3, h4, h5⟩ := hy
  refine va_runV (As := av) (rest := rest) ⟨hx, hb, hml, hown, hts⟩ hM (cwV n hts hgv rfl hrm.1 hrm.2 h5 hR) ⟨ms_blind, ?_, hpre⟩ rfl hn hsz hst (lv_room hW) hd hcs
  have h6 := va_recv hK hI.1 hc he
  rw [hq] at h6
  exact h6
theorem ms_runS (Cx : ms_C p s m args meth c D cA a sh cc nL own ret) (hI : ms_I D cA a sh s σ H locs) {Qc : Array Value → State → Outcome → State → Prop} {free : Addr → Prop}
    (hy : ms_YS y bytes maxL rt n) (hM : Met l y (.code y bytes maxL rt :: wsL_law) rm (ms_Pc D cA a sh av σ) Qc 0 0 free) (hrm : rm.cells = 0 ∧ rm.slots = 0) (hl : Cond.methodLink own idx y ∈ wsL_law ∨ (own, idx, y) ∈ ms_nq) (hR : rm.frames + 1 ≤ R.frames ∧ 8 + (maxL + 11) + rm.locals ≤ R.locals) (hn : av.length = n) (hsz : ls.size = nL) (hst : st0 = av.reverse ++ rest) (hW : (rest.map fun v => v.category).sum ≤ 8) (hcs : cells ≤ R.cells ∧ slots ≤ R.slots) (hd : decode cc pc = .ok (.invokestatic idx, 3)) :
    va_Run p l e R s m args below meth c H locs cells slots 0 0 (F0 m pc ls st0) rest (Qc av.toArray) free := by
  have hpre := ms_pre Cx hI av
  obtain ⟨hx, hb, hml, hown, hts, hrt, hlocks, hK, hDis, hN⟩ := Cx
  rcases hl with hl | hl
  · have hgv := ms_GS (own := own) (idx := idx) hy hl
    obtain ⟨h1, h2, h4, h5⟩ := hy
    exact va_runS (As := av) (rest := rest) ⟨hx, hb, hml, hown, hts⟩ hM (va_cwS n hts hgv rfl hrm.1 hrm.2 h5 hR) ⟨ms_blind, hpre⟩ rfl hn hsz hst (lv_room hW) hd hcs
  · have hgv := ms_GN hy
    obtain ⟨h1, h2, h4, h5⟩ := hy
    exact va_runSN (As := av) (rest := rest) ⟨hx, hb, hml, hown, hts⟩ hM ⟨va_cnB n hts hgv rfl hrm.1 hrm.2 (hN _ hl) (hts _ h2) h5 hR, hts _ h1, trivial⟩ ⟨ms_blind, hpre⟩ rfl hn hsz hst (lv_room hW) hd hcs
theorem ms_ci {r : Int32} {u : Mm} {vs : Array Value} (hI : ms_I D cA a sh s σ H locs) (hr : va_Run p l e R s m args below meth c H locs cells slots 0 0 (F0 m pc ls st0) rest (ms_Qi D cA a sh r u vs) (ms_A a sh.length)) (kk : ∀ (H1 : Heap) (locs1 : List Loc), ms_I D cA a sh s u H1 locs1 → W p l e R s m args below meth c H1 locs1 cells slots Q (F0 m (pc + 3) ls (.int r :: rest))) : W p l e R s m args below meth c H locs cells slots Q (F0 m pc ls st0) := by
  refine va_calli hr hI.2 (fun q _ h => h) (fun q h => h) (fun r1 u1 t H1 locs1 ht hvm hp hB hz hk hS => ?_)
  obtain ⟨rfl, rfl⟩ := hp
  exact kk H1 locs1 ⟨by rw [← ht]; exact hB, hS⟩
theorem ms_cl {r : Int64} {u : Mm} {vs : Array Value} (hI : ms_I D cA a sh s σ H locs) (hr : va_Run p l e R s m args below meth c H locs cells slots 0 0 (F0 m pc ls st0) rest (ms_Ql D cA a sh r u vs) (ms_A a sh.length)) (kk : ∀ (H1 : Heap) (locs1 : List Loc), ms_I D cA a sh s u H1 locs1 → W p l e R s m args below meth c H1 locs1 cells slots Q (F0 m (pc + 3) ls (.long r :: rest))) : W p l e R s m args below meth c H locs cells slots Q (F0 m pc ls st0) := by
  refine va_calll hr hI.2 (fun q _ h => h) (fun q h => h) (fun r1 u1 t H1 locs1 ht hvm hp hB hz hk hS => ?_)
  obtain ⟨rfl, rfl⟩ := hp
  exact kk H1 locs1 ⟨by rw [← ht]; exact hB, hS⟩
theorem ms_cv {u : Mm} {vs : Array Value} (hI : ms_I D cA a sh s σ H locs) (hr : va_Run p l e R s m args below meth c H locs cells slots 0 0 (F0 m pc ls st0) rest (ms_Qv D cA a sh u vs) (ms_A a sh.length)) (kk : ∀ (H1 : Heap) (locs1 : List Loc), ms_I D cA a sh s u H1 locs1 → W p l e R s m args below meth c H1 locs1 cells slots Q (F0 m (pc + 3) ls rest)) : W p l e R s m args below meth c H locs cells slots Q (F0 m pc ls st0) := by
  refine va_callv hr hI.2 (fun q _ h => h) (fun q h => h) (fun u1 t H1 locs1 ht hvm hp hB hz hk hS => ?_)
  obtain rfl := hp
  exact kk H1 locs1 ⟨by rw [← ht]; exact hB, hS⟩
theorem ms_min (Cx : ms_C p s m args meth c D cA a sh cc nL own ret) (hl : Cond.methodLink own idx Lib.Math.min.name ∈ wsL_law) (hsz : ls.size = nL) (hf : 1 ≤ R.frames) (hlo : (rest.map fun v => v.category).sum + 13 ≤ R.locals) (hcs : cells ≤ R.cells ∧ slots ≤ R.slots) {x y : Int32} (hd : decode cc pc = .ok (.invokestatic idx, 3))
    (kk : W p l e R s m args below meth c H locs cells slots Q (F0 m (pc + 3) ls (.int (if y < x then y else x) :: rest))) : W p l e R s m args below meth c H locs cells slots Q (F0 m pc ls (.int y :: .int x :: rest)) := by
  obtain ⟨hx, hb, hml, hown, hts, hrt, hlocks, hK, hDis, hN⟩ := Cx
  exact va_mmin hx hb (hml.trans hsz.symm) hown (hts _ hl) (hts _ ms_min_s) (hts _ ms_min_i) (hts _ ms_min_c) hf hlo hcs.1 hcs.2 hd kk
theorem ms_max (Cx : ms_C p s m args meth c D cA a sh cc nL own ret) (hl : Cond.methodLink own idx Lib.Math.max.name ∈ wsL_law) (hsz : ls.size = nL) (hf : 1 ≤ R.frames) (hlo : (rest.map fun v => v.category).sum + 13 ≤ R.locals) (hcs : cells ≤ R.cells ∧ slots ≤ R.slots) {x y : Int32} (hd : decode cc pc = .ok (.invokestatic idx, 3))
    (kk : W p l e R s m args below meth c H locs cells slots Q (F0 m (pc + 3) ls (.int (if x < y then y else x) :: rest))) : W p l e R s m args below meth c H locs cells slots Q (F0 m pc ls (.int y :: .int x :: rest)) := by
  obtain ⟨hx, hb, hml, hown, hts, hrt, hlocks, hK, hDis, hN⟩ := Cx
  exact va_mmax hx hb (hml.trans hsz.symm) hown (hts _ hl) (hts _ ms_max_s) (hts _ ms_min_i) (hts _ ms_max_c) hf hlo hcs.1 hcs.2 hd kk
end MSR
