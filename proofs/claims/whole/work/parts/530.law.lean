/-! ===== the law: rows ===== -/
def la_A (s : State) : Nat → Prop := fun q => s.heap.size ≤ q
def la_C (p : Program) (s : State) (m : MethodId) (meth : Method) (c : Code) (b : Nat) (D : va_G) (cA : Nat → ClassId) (aX aM : Nat → Nat) (L : Nat) (xs : Nat → Int32) : Prop :=
  p.tables.exec = Jvm.exec ∧ c.code = code ∧ c.maxLocals = 4 ∧ s.vm.findClass RL = some m.cls ∧ (∀ w ∈ wsL_law, w.before #[Value.ref b] s = true) ∧ va_X b L xs s s.heap ∧ b < s.heap.size ∧ va_K D vwCl (ms_tys cA) s ∧ ms_NW s ∧ ms_Dis aX shX.length ∧ ms_Dis aM shM.length ∧ (∀ i j, i < shX.length → j < shM.length → aX i ≠ aM j) ∧ (∀ i, i < shX.length → s.heap.size ≤ aX i) ∧ (∀ i, i < shM.length → s.heap.size ≤ aM i) ∧ L < 2 ^ 31 ∧ ∃ t1 t2 t3, ms_ZS (la_A s) t1 t2 t3 s s.heap
def la_I (D : va_G) (cA : Nat → ClassId) (aX aM : Nat → Nat) (s : State) (σ τ : Mm) (H : Heap) (locs : List Loc) : Prop := va_P D vwCl (ms_wl aX cA σ 0 shX) H ∧ va_P D vwCl (ms_wl aM cA τ 0 shM) H ∧ va_S (la_A s) s.heap H locs
theorem la_kept {D : va_G} {cA : Nat → ClassId} {a a' : Nat → Nat} {sh sh' : List ms_Sh} {τ : Mm} {H H1 : Heap} (hap : ∀ i j, i < sh.length → j < sh'.length → a i ≠ a' j) (hP : va_P D vwCl (ms_wl a' cA τ 0 sh') H) (hk : ∀ q : Nat, q < H.size → ¬ ms_A a sh.length q → H1[q]? = H[q]?) : va_P D vwCl (ms_wl a' cA τ 0 sh') H1 := by
  refine hP.kept (fun k q hq => hk q.1 (hP k q hq).lt (fun hz => ?_))
  obtain ⟨i, hi, e⟩ := hz
  obtain ⟨j1, j2⟩ := ms_wl_none a' cA τ sh' 0 k hq
  rw [Nat.zero_add] at j2
  exact hap i k hi j1 (e.trans j2)
theorem la_bZ {D : va_G} {cA : Nat → ClassId} {a : Nat → Nat} {sh : List ms_Sh} {av : List Value} {σ : Mm} : FrameBlind (ms_PcZ D cA a sh av σ) := fun b U g mk q => by
  obtain ⟨q0, qK, qN, qP, t1, t2, t3, ⟨a1, a2⟩, ⟨b1, b2⟩, ⟨c1, c2⟩⟩ := q
  have hv : U.vm.Alike (U.calling g mk b).vm := Vm.Alike.refl U.vm
  exact ⟨q0, va_K.moved (u := U) (U := U.calling g mk b) hv qK, ms_NW.same (s := U) (U := U.calling g mk b) rfl qN, qP, t1, t2, t3, ⟨va_Z.moved (u := U) (U := U.calling g mk b) hv a1, va_T.moved (u := U) (U := U.calling g mk b) hv a2⟩, ⟨va_Z.moved (u := U) (U := U.calling g mk b) hv b1, va_T.moved (u := U) (U := U.calling g mk b) hv b2⟩, ⟨va_Z.moved (u := U) (U := U.calling g mk b) hv c1, va_T.moved (u := U) (U := U.calling g mk b) hv c2⟩⟩
section LAW
variable {p : Program} {l : Launch} {e : Env} {R : Room} {s : State} {m : MethodId} {below : List Frame} {meth : Method} {c : Code} {H : Heap} {locs : List Loc} {cells slots : Nat} {Q : State → Prop}
variable {D : va_G} {cA : Nat → ClassId} {a aX aM : Nat → Nat} {sh : List ms_Sh} {b L : Nat} {xs : Nat → Int32} {σ τ : Mm} {pc : Nat} {ls : Array Slot} {rest : List Value}
theorem la_pX (Cx : la_C p s m meth c b D cA aX aM L xs) (hI : la_I D cA aX aM s σ τ H locs) (vs : List Value) : ∀ U : State, U.heap = H → s.WarmedH U.vm → ms_Pc D cA aX shX vs σ vs.toArray U := by
  obtain ⟨-, -, -, -, -, -, -, hK, hN, -⟩ := Cx
  exact fun U hU hW => ⟨rfl, va_K.moved hW.alike hK, ms_NW.warm hW hN, by rw [hU]; exact hI.1⟩
theorem la_pM (Cx : la_C p s m meth c b D cA aX aM L xs) (hI : la_I D cA aX aM s σ τ H locs) (vs : List Value) : ∀ U : State, U.heap = H → s.WarmedH U.vm → ms_Pc D cA aM shM vs τ vs.toArray U := by
  obtain ⟨-, -, -, -, -, -, -, hK, hN, -⟩ := Cx
  exact fun U hU hW => ⟨rfl, va_K.moved hW.alike hK, ms_NW.warm hW hN, by rw [hU]; exact hI.2.1⟩
theorem la_pZ (Cx : la_C p s m meth c b D cA aX aM L xs) (hI : la_I D cA aX aM s σ τ H locs) (vs : List Value) : ∀ U : State, U.heap = H → s.WarmedH U.vm → ms_PcZ D cA aX shX vs σ vs.toArray U := by
  obtain ⟨-, -, -, -, -, -, -, hK, hN, -, -, -, hgX, -, -, t1, t2, t3, ⟨a1, a2⟩, ⟨b1, b2⟩, ⟨c1, c2⟩⟩ := Cx
  have hq : ∀ a : Nat, a < s.heap.size → ¬ la_A s a → H[a]? = s.heap[a]? := hI.2.2.2.1
  have hn : ∀ q, ms_A aX shX.length q → la_A s q := fun q hz => by
    obtain ⟨i, hi, e⟩ := hz
    rw [← e]
    exact hgX i hi
  intro U hU hW
  have hv := hW.alike
  refine ⟨rfl, va_K.moved hv hK, ms_NW.warm hW hN, by rw [hU]; exact hI.1, t1, t2, t3, ?_⟩
  rw [hU]
  exact ⟨⟨va_Z.moved hv ((a1.kept hq).narrow hn), va_T.moved hv ((a2.kept hq).narrow hn)⟩, ⟨va_Z.moved hv ((b1.kept hq).narrow hn), va_T.moved hv ((b2.kept hq).narrow hn)⟩, ⟨va_Z.moved hv ((c1.kept hq).narrow hn), va_T.moved hv ((c2.kept hq).narrow hn)⟩⟩
variable {y : MethodName} {bytes : ByteArray} {maxL n idx : Nat} {rt : Option FieldType} {rm : Room} {C : String} {av : List Value} {st0 : List Value} {Pc : Array Value → State → Prop}
theorem la_run (hx : p.tables.exec = Jvm.exec) (hb : c.code = code) (hml : c.maxLocals = 4) (hown : s.vm.findClass RL = some m.cls) (hts : ∀ w ∈ wsL_law, w.before #[Value.ref b] s = true) (hK : va_K D vwCl (ms_tys cA) s) (hP : va_P D vwCl (ms_wl a cA σ 0 sh) H) {ci : Nat} {Lf : List (Option Nat)} {q : vw_C} (hs : sh[0]? = some (.inr (ci, Lf))) (hc : vwCl[ci]? = some q) (hq : q.1 = C) {Qc : Array Value → State → Outcome → State → Prop} {free : Addr → Prop}
    (hy : ms_YV y C bytes maxL rt n) (hM : Met l y (.code y bytes maxL rt :: wsL_law) rm Pc Qc 0 0 free) (hbl : FrameBlind Pc) (hpre : ∀ U : State, U.heap = H → s.WarmedH U.vm → Pc (Value.ref (a 0) :: av).toArray U) (hrm : rm.cells = 0 ∧ rm.slots = 0) (hl : Cond.methodLink RL idx y ∈ wsL_law) (hR : rm.frames + 1 ≤ R.frames ∧ 8 + (maxL + 11) + rm.locals ≤ R.locals) (hn : av.length = n) (hsz : ls.size = 4) (hst : st0 = av.reverse ++ .ref (a 0) :: rest) (hW : (rest.map fun v => v.category).sum ≤ 8) (hcs : cells ≤ R.cells ∧ slots ≤ R.slots) (hd : decode code pc = .ok (.invokevirtual idx, 3)) :
    va_Run p l e R s m #[Value.ref b] below meth c H locs cells slots 0 0 (F0 m pc ls st0) rest (Qc (Value.ref (a 0) :: av).toArray) free := by
  have hgv := ms_GV (own := RL) (idx := idx) hy hl
  have he := ms_wl_get a cA σ sh 0 0 hs
  rw [Nat.zero_add] at he
  obtain ⟨h1, h2, h3, h4, h5⟩ := hy
  refine va_runV (As := av) (rest := rest) ⟨hx, hb, hml, hown, hts⟩ hM (cwV n hts hgv rfl hrm.1 hrm.2 h5 hR) ⟨hbl, ?_, hpre⟩ rfl hn hsz hst (lv_room hW) hd hcs
  have h6 := va_recv hK hP hc he
  rw [hq] at h6
  exact h6
theorem la_cX (Cx : la_C p s m meth c b D cA aX aM L xs) (hI : la_I D cA aX aM s σ τ H locs) {r : Int32} {u : Mm} (hy : ms_YV y RX7 bytes maxL rt n) (hM : Met l y (.code y bytes maxL rt :: wsL_law) rm Pc (ms_Qi D cA aX shX r u) 0 0 (ms_A aX shX.length)) (hbl : FrameBlind Pc) (hpre : ∀ U : State, U.heap = H → s.WarmedH U.vm → Pc (Value.ref (aX 0) :: av).toArray U) (hrm : rm.cells = 0 ∧ rm.slots = 0) (hl : Cond.methodLink RL idx y ∈ wsL_law) (hR : rm.frames + 1 ≤ R.frames ∧ 8 + (maxL + 11) + rm.locals ≤ R.locals) (hn : av.length = n) (hsz : ls.size = 4) (hst : st0 = av.reverse ++ .ref (aX 0) :: rest) (hW : (rest.map fun v => v.category).sum ≤ 8) (hcs : cells ≤ R.cells ∧ slots ≤ R.slots) (hd : decode code pc = .ok (.invokevirtual idx, 3))
    (kk : ∀ (H1 : Heap) (locs1 : List Loc), la_I D cA aX aM s u τ H1 locs1 → W p l e R s m #[Value.ref b] below meth c H1 locs1 cells slots Q (F0 m (pc + 3) ls (.int r :: rest))) : W p l e R s m #[Value.ref b] below meth c H locs cells slots Q (F0 m pc ls st0) := by
  obtain ⟨hx, hb, hml, hown, hts, -, -, hK, hN, -, -, hap, hgX, -⟩ := Cx
  have hA : ∀ q, ms_A aX shX.length q → la_A s q := fun q hz => by
    obtain ⟨i, hi, e⟩ := hz
    rw [← e]
    exact hgX i hi
  refine va_calli (la_run hx hb hml hown hts hK hI.1 shX_0 rfl rfl hy hM hbl hpre hrm hl hR hn hsz hst hW hcs hd) hI.2.2 (fun q _ h => hA q h) hA (fun r1 u1 t H1 locs1 ht hvm hp hB hz hk hS => ?_)
  obtain ⟨rfl, rfl⟩ := hp
  exact kk H1 locs1 ⟨by rw [← ht]; exact hB, la_kept hap hI.2.1 hk, hS⟩
theorem la_cXl (Cx : la_C p s m meth c b D cA aX aM L xs) (hI : la_I D cA aX aM s σ τ H locs) {r : Int64} {u : Mm} (hy : ms_YV y RX7 bytes maxL rt n) (hM : Met l y (.code y bytes maxL rt :: wsL_law) rm Pc (ms_Ql D cA aX shX r u) 0 0 (ms_A aX shX.length)) (hbl : FrameBlind Pc) (hpre : ∀ U : State, U.heap = H → s.WarmedH U.vm → Pc (Value.ref (aX 0) :: av).toArray U) (hrm : rm.cells = 0 ∧ rm.slots = 0) (hl : Cond.methodLink RL idx y ∈ wsL_law) (hR : rm.frames + 1 ≤ R.frames ∧ 8 + (maxL + 11) + rm.locals ≤ R.locals) (hn : av.length = n) (hsz : ls.size = 4) (hst : st0 = av.reverse ++ .ref (aX 0) :: rest) (hW : (rest.map fun v => v.category).sum ≤ 8) (hcs : cells ≤ R.cells ∧ slots ≤ R.slots) (hd : decode code pc = .ok (.invokevirtual idx, 3))
    (kk : ∀ (H1 : Heap) (locs1 : List Loc), la_I D cA aX aM s u τ H1 locs1 → W p l e R s m #[Value.ref b] below meth c H1 locs1 cells slots Q (F0 m (pc + 3) ls (.long r :: rest))) : W p l e R s m #[Value.ref b] below meth c H locs cells slots Q (F0 m pc ls st0) := by
  obtain ⟨hx, hb, hml, hown, hts, -, -, hK, hN, -, -, hap, hgX, -⟩ := Cx
  have hA : ∀ q, ms_A aX shX.length q → la_A s q := fun q hz => by
    obtain ⟨i, hi, e⟩ := hz
    rw [← e]
    exact hgX i hi
  refine va_calll (la_run hx hb hml hown hts hK hI.1 shX_0 rfl rfl hy hM hbl hpre hrm hl hR hn hsz hst hW hcs hd) hI.2.2 (fun q _ h => hA q h) hA (fun r1 u1 t H1 locs1 ht hvm hp hB hz hk hS => ?_)
  obtain ⟨rfl, rfl⟩ := hp
  exact kk H1 locs1 ⟨by rw [← ht]; exact hB, la_kept hap hI.2.1 hk, hS⟩
theorem la_cM (Cx : la_C p s m meth c b D cA aX aM L xs) (hI : la_I D cA aX aM s σ τ H locs) {r : Int32} {u : Mm} (hy : ms_YV y RX8 bytes maxL rt n) (hM : Met l y (.code y bytes maxL rt :: wsL_law) rm Pc (ms_Qi D cA aM shM r u) 0 0 (ms_A aM shM.length)) (hbl : FrameBlind Pc) (hpre : ∀ U : State, U.heap = H → s.WarmedH U.vm → Pc (Value.ref (aM 0) :: av).toArray U) (hrm : rm.cells = 0 ∧ rm.slots = 0) (hl : Cond.methodLink RL idx y ∈ wsL_law) (hR : rm.frames + 1 ≤ R.frames ∧ 8 + (maxL + 11) + rm.locals ≤ R.locals) (hn : av.length = n) (hsz : ls.size = 4) (hst : st0 = av.reverse ++ .ref (aM 0) :: rest) (hW : (rest.map fun v => v.category).sum ≤ 8) (hcs : cells ≤ R.cells ∧ slots ≤ R.slots) (hd : decode code pc = .ok (.invokevirtual idx, 3))
    (kk : ∀ (H1 : Heap) (locs1 : List Loc), la_I D cA aX aM s σ u H1 locs1 → W p l e R s m #[Value.ref b] below meth c H1 locs1 cells slots Q (F0 m (pc + 3) ls (.int r :: rest))) : W p l e R s m #[Value.ref b] below meth c H locs cells slots Q (F0 m pc ls st0) := by
  obtain ⟨hx, hb, hml, hown, hts, -, -, hK, hN, -, -, hap, -, hgM, -⟩ := Cx
  have hA : ∀ q, ms_A aM shM.length q → la_A s q := fun q hz => by
    obtain ⟨i, hi, e⟩ := hz
    rw [← e]
    exact hgM i hi
  refine va_calli (la_run hx hb hml hown hts hK hI.2.1 shM_0 rfl rfl hy hM hbl hpre hrm hl hR hn hsz hst hW hcs hd) hI.2.2 (fun q _ h => hA q h) hA (fun r1 u1 t H1 locs1 ht hvm hp hB hz hk hS => ?_)
  obtain ⟨rfl, rfl⟩ := hp
  exact kk H1 locs1 ⟨la_kept (fun i j hi hj e => hap j i hj hi e.symm) hI.1 hk, by rw [← ht]; exact hB, hS⟩
theorem la_cMl (Cx : la_C p s m meth c b D cA aX aM L xs) (hI : la_I D cA aX aM s σ τ H locs) {r : Int64} {u : Mm} (hy : ms_YV y RX8 bytes maxL rt n) (hM : Met l y (.code y bytes maxL rt :: wsL_law) rm Pc (ms_Ql D cA aM shM r u) 0 0 (ms_A aM shM.length)) (hbl : FrameBlind Pc) (hpre : ∀ U : State, U.heap = H → s.WarmedH U.vm → Pc (Value.ref (aM 0) :: av).toArray U) (hrm : rm.cells = 0 ∧ rm.slots = 0) (hl : Cond.methodLink RL idx y ∈ wsL_law) (hR : rm.frames + 1 ≤ R.frames ∧ 8 + (maxL + 11) + rm.locals ≤ R.locals) (hn : av.length = n) (hsz : ls.size = 4) (hst : st0 = av.reverse ++ .ref (aM 0) :: rest) (hW : (rest.map fun v => v.category).sum ≤ 8) (hcs : cells ≤ R.cells ∧ slots ≤ R.slots) (hd : decode code pc = .ok (.invokevirtual idx, 3))
    (kk : ∀ (H1 : Heap) (locs1 : List Loc), la_I D cA aX aM s σ u H1 locs1 → W p l e R s m #[Value.ref b] below meth c H1 locs1 cells slots Q (F0 m (pc + 3) ls (.long r :: rest))) : W p l e R s m #[Value.ref b] below meth c H locs cells slots Q (F0 m pc ls st0) := by
  obtain ⟨hx, hb, hml, hown, hts, -, -, hK, hN, -, -, hap, -, hgM, -⟩ := Cx
  have hA : ∀ q, ms_A aM shM.length q → la_A s q := fun q hz => by
    obtain ⟨i, hi, e⟩ := hz
    rw [← e]
    exact hgM i hi
  refine va_calll (la_run hx hb hml hown hts hK hI.2.1 shM_0 rfl rfl hy hM hbl hpre hrm hl hR hn hsz hst hW hcs hd) hI.2.2 (fun q _ h => hA q h) hA (fun r1 u1 t H1 locs1 ht hvm hp hB hz hk hS => ?_)
  obtain ⟨rfl, rfl⟩ := hp
  exact kk H1 locs1 ⟨la_kept (fun i j hi hj e => hap j i hj hi e.symm) hI.1 hk, by rw [← ht]; exact hB, hS⟩
/-- one int of the script behind the call's own place -/
theorem la_arg (Cx : la_C p s m meth c b D cA aX aM L xs) (hI : la_I D cA aX aM s σ τ H locs) {i : Nat} (hl : lv_has ls 4 [(0, .ref b), (1, .ref (aX 0)), (2, .ref (aM 0)), (3, .int (nI i))]) (k : Nat) (hk : i + k < L) {z : Int} (hz : Int32.ofInt z = nI k) (d0 : decode code pc = .ok (.aload_n 0, 1)) (d1 : decode code (pc + 1) = .ok (.iload_n 3, 1)) (d2 : decode code (pc + 1 + 1) = .ok (.iconst z, 1)) (d3 : decode code (pc + 1 + 1 + 1) = .ok (.iadd, 1)) (d4 : decode code (pc + 1 + 1 + 1 + 1) = .ok (.iaload, 1))
    (kk : W p l e R s m #[Value.ref b] below meth c H locs cells slots Q (F0 m (pc + 1 + 1 + 1 + 1 + 1) ls (.int (xs (i + k)) :: rest))) : W p l e R s m #[Value.ref b] below meth c H locs cells slots Q (F0 m pc ls rest) := by
  obtain ⟨hx, hb, hml, hown, hts, hX, hbl, hK, hN, -, -, hap, -, hgM, hL, -⟩ := Cx
  have hbA : ¬ la_A s b := Nat.not_le.mpr hbl
  refine lv_aload_n hx hb d0 rfl (lv_at hl 0 rfl) ?_
  refine lv_iload_n hx hb d1 rfl (lv_at hl 3 rfl) ?_
  refine lv_iconst (v := nI k) hx hb d2 hz ?_
  refine lv_iadd hx hb d3 ?_
  rw [nI_add]
  have hin : vp_in (nI (i + k)) L := vp_in_nI hk (by omega)
  refine va_sld hx hb hX hbl hbA hI.2.2 hin d4 ?_
  rw [nI_clamp (by omega)]
  exact kk
end LAW
