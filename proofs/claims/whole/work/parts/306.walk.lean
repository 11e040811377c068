section WK
variable {p : Program} {l : Launch} {e : Env} {R : Room} {s : State} {m : MethodId} {args : Array Value} {below : List Frame} {meth : Method} {c : Code} {Q : State → Prop}
variable {D : va_G} {cA : Nat → ClassId} {a : Nat → Nat} {cc : ByteArray} {nL idx : Nat} {own : String} {ret : Option FieldType} {pc : Nat} {ls : Array Slot} {rest : List Value}
/-! X8 in (III)Z -/
theorem dX8_in_0 : decode cX8_in 0 = .ok (.iload_n 0, 1) := by decide +kernel
theorem dX8_in_1 : decode cX8_in 1 = .ok (.iload_n 1, 1) := by decide +kernel
theorem dX8_in_2 : decode cX8_in 2 = .ok (.if_icmp .lt 12, 3) := by decide +kernel
theorem dX8_in_5 : decode cX8_in 5 = .ok (.iload_n 0, 1) := by decide +kernel
theorem dX8_in_6 : decode cX8_in 6 = .ok (.iload_n 2, 1) := by decide +kernel
theorem dX8_in_7 : decode cX8_in 7 = .ok (.if_icmp .gt 7, 3) := by decide +kernel
theorem dX8_in_10 : decode cX8_in 10 = .ok (.iconst 1, 1) := by decide +kernel
theorem dX8_in_11 : decode cX8_in 11 = .ok (.goto 4, 3) := by decide +kernel
theorem dX8_in_14 : decode cX8_in 14 = .ok (.iconst 0, 1) := by decide +kernel
theorem dX8_in_15 : decode cX8_in 15 = .ok (.ireturn, 1) := by decide +kernel
abbrev rmX8_in : Room := { frames := 0, cells := 0, slots := 0, locals := 0 }
set_option maxHeartbeats 4000000 in
set_option maxRecDepth 100000 in
theorem wX8_in (Cx : ms_C p s m args meth c D cA a shM cX8_in 3 RX8 (some .boolean)) (out : Int32) {σ : Mm} : ∀ (p0 : Int32) (p1 : Int32) (p2 : Int32) , ∀ (H : Heap) (locs : List Loc) (ls : Array Slot), ms_I D cA a shM s σ H locs → lv_has ls 3 [(0, .int p0), (1, .int p1), (2, .int p2)] → fX8_in p0 p1 p2 = some out → W p l e rmX8_in s m args below meth c H locs 0 0 (MQ below (ms_Qi D cA a shM out σ) args s 0 0 (ms_A a shM.length)) (F0 m 0 ls []) := by
  have hx := Cx.1
  have hb := Cx.2.1
  intro p0 p1 p2 H locs ls hI hl h
  unfold fX8_in at h
  refine lv_iload_n hx hb dX8_in_0 rfl (lv_at hl 0 rfl) ?_
  refine lv_iload_n hx hb dX8_in_1 rfl (lv_at hl 1 rfl) ?_
  refine lv_icmp_lt (tgt := 14) hx hb dX8_in_2 rfl (fun hc => ?_) (fun hc => ?_)
  · have h := ms_ifT hc h
    refine lv_iconst (v := 0) hx hb dX8_in_14 rfl ?_
    exact ms_rz Cx hI (Or.inl rfl) (Option.some.inj h) rfl dX8_in_15
  · have h := ms_ifF hc h
    refine lv_iload_n hx hb dX8_in_5 rfl (lv_at hl 0 rfl) ?_
    refine lv_iload_n hx hb dX8_in_6 rfl (lv_at hl 2 rfl) ?_
    refine lv_icmp_gt (tgt := 14) hx hb dX8_in_7 rfl (fun hc => ?_) (fun hc => ?_)
    · have h := ms_ifT hc h
      refine lv_iconst (v := 0) hx hb dX8_in_14 rfl ?_
      exact ms_rz Cx hI (Or.inl rfl) (Option.some.inj h) rfl dX8_in_15
    · have h := ms_ifF hc h
      refine lv_iconst (v := 1) hx hb dX8_in_10 rfl ?_
      refine lv_goto (tgt := 15) hx hb dX8_in_11 rfl ?_
      exact ms_rz Cx hI (Or.inr rfl) (Option.some.inj h) rfl dX8_in_15
theorem yvX8_in : ms_YS yX8_in cX8_in 3 (some .boolean) 3 := ⟨wd_10_21, wd_1_5, wd_10_22, by decide +kernel, by decide +kernel, by decide +kernel⟩
set_option maxHeartbeats 4000000 in
theorem metX8_in (l : Launch) (hDis : ms_Dis a shM.length) {σ : Mm} {p0 : Int32} {p1 : Int32} {p2 : Int32} {out : Int32} (h : fX8_in p0 p1 p2 = some out) : Met l yX8_in (.code yX8_in cX8_in 3 (some .boolean) :: wsL_law) rmX8_in (ms_Pc D cA a shM [.int p0, .int p1, .int p2] σ) (ms_Qi D cA a shM out σ) 0 0 (ms_A a shM.length) := by
  refine Met.ofW (cc := cX8_in) (maxL := 3) (ret := (some .boolean)) (by decide) rfl ?_
  intro p e s m args below meth c s₁ B hml hv
  obtain ⟨rfl, hK, hN, hP⟩ := hv
  have hl := lv_entry ([.int p0, .int p1, .int p2]) (n := 3) (Nat.le_of_ble_eq_true rfl)
  rw [lg_entry_eq]
  generalize (lg_sl ([.int p0, .int p1, .int p2]) ++ List.replicate (3 - (lg_sl ([.int p0, .int p1, .int p2])).length) Slot.unset).toArray = ls at hl ⊢
  exact wX8_in ⟨B.exec, B.bytes, hml, findClass_of_methodNamed B.named, fun w hw => atoms_spec (ws := .code yX8_in cX8_in 3 (some .boolean) :: wsL_law) B.pre w (List.mem_cons_of_mem _ hw), B.returns, B.notSynchronized, hK, hDis, hN⟩ out p0 p1 p2 s.heap [] ls ⟨hP, va_S.rf⟩ hl h
theorem kX8_in (Cx : ms_C p s m args meth c D cA a shM cc nL own ret) {σ : Mm} {H : Heap} {locs : List Loc} (hI : ms_I D cA a shM s σ H locs) {p0 : Int32} {p1 : Int32} {p2 : Int32} {out : Int32} (h : fX8_in p0 p1 p2 = some out) (hl : Cond.methodLink own idx yX8_in ∈ wsL_law ∨ (own, idx, yX8_in) ∈ ms_nq) (hf : 0 + 1 ≤ R.frames) (hlo : 8 + (3 + 11) + 0 ≤ R.locals) (hsz : ls.size = nL) (hW : (rest.map fun v => v.category).sum ≤ 8) (hd : decode cc pc = .ok (.invokestatic idx, 3)) (kk : ∀ (H1 : Heap) (locs1 : List Loc), ms_I D cA a shM s σ H1 locs1 → W p l e R s m args below meth c H1 locs1 0 0 Q (F0 m (pc + 3) ls (.int out :: rest))) : W p l e R s m args below meth c H locs 0 0 Q (F0 m pc ls (.int p2 :: .int p1 :: .int p0 :: rest)) :=
  ms_ci hI (ms_runS (av := [.int p0, .int p1, .int p2]) Cx hI yvX8_in (metX8_in l Cx.2.2.2.2.2.2.2.2.1  h) ⟨rfl, rfl⟩ hl ⟨hf, hlo⟩ rfl hsz rfl hW ⟨Nat.zero_le _, Nat.zero_le _⟩ hd) kk
/-! X8 isIn (II)Z -/
theorem dX8_isIn_0 : decode cX8_isIn 0 = .ok (.iload_n 0, 1) := by decide +kernel
theorem dX8_isIn_1 : decode cX8_isIn 1 = .ok (.iload_n 1, 1) := by decide +kernel
theorem dX8_isIn_2 : decode cX8_isIn 2 = .ok (.ishr, 1) := by decide +kernel
theorem dX8_isIn_3 : decode cX8_isIn 3 = .ok (.iconst 1, 1) := by decide +kernel
theorem dX8_isIn_4 : decode cX8_isIn 4 = .ok (.iand, 1) := by decide +kernel
theorem dX8_isIn_5 : decode cX8_isIn 5 = .ok (.iconst 1, 1) := by decide +kernel
theorem dX8_isIn_6 : decode cX8_isIn 6 = .ok (.if_icmp .ne 7, 3) := by decide +kernel
theorem dX8_isIn_9 : decode cX8_isIn 9 = .ok (.iconst 1, 1) := by decide +kernel
theorem dX8_isIn_10 : decode cX8_isIn 10 = .ok (.goto 4, 3) := by decide +kernel
theorem dX8_isIn_13 : decode cX8_isIn 13 = .ok (.iconst 0, 1) := by decide +kernel
theorem dX8_isIn_14 : decode cX8_isIn 14 = .ok (.ireturn, 1) := by decide +kernel
abbrev rmX8_isIn : Room := { frames := 0, cells := 0, slots := 0, locals := 0 }
set_option maxHeartbeats 4000000 in
set_option maxRecDepth 100000 in
theorem wX8_isIn (Cx : ms_C p s m args meth c D cA a shM cX8_isIn 2 RX8 (some .boolean)) (out : Int32) {σ : Mm} : ∀ (p0 : Int32) (p1 : Int32) , ∀ (H : Heap) (locs : List Loc) (ls : Array Slot), ms_I D cA a shM s σ H locs → lv_has ls 2 [(0, .int p0), (1, .int p1)] → fX8_isIn p0 p1 = some out → W p l e rmX8_isIn s m args below meth c H locs 0 0 (MQ below (ms_Qi D cA a shM out σ) args s 0 0 (ms_A a shM.length)) (F0 m 0 ls []) := by
  have hx := Cx.1
  have hb := Cx.2.1
  intro p0 p1 H locs ls hI hl h
  unfold fX8_isIn at h
  refine lv_iload_n hx hb dX8_isIn_0 rfl (lv_at hl 0 rfl) ?_
  refine lv_iload_n hx hb dX8_isIn_1 rfl (lv_at hl 1 rfl) ?_
  refine lv_ishr hx hb dX8_isIn_2 ?_
  refine lv_iconst (v := 1) hx hb dX8_isIn_3 rfl ?_
  refine lv_iand hx hb dX8_isIn_4 ?_
  refine lv_iconst (v := 1) hx hb dX8_isIn_5 rfl ?_
  refine lv_icmp_ne (tgt := 13) hx hb dX8_isIn_6 rfl (fun hc => ?_) (fun hc => ?_)
  · have h := ms_ifF hc h
    refine lv_iconst (v := 0) hx hb dX8_isIn_13 rfl ?_
    exact ms_rz Cx hI (Or.inl rfl) (Option.some.inj h) rfl dX8_isIn_14
  · have h := ms_ifT hc h
    refine lv_iconst (v := 1) hx hb dX8_isIn_9 rfl ?_
    refine lv_goto (tgt := 14) hx hb dX8_isIn_10 rfl ?_
    exact ms_rz Cx hI (Or.inr rfl) (Option.some.inj h) rfl dX8_isIn_14
theorem yvX8_isIn : ms_YS yX8_isIn cX8_isIn 2 (some .boolean) 2 := ⟨wd_13_0, wd_1_5, wd_13_1, by decide +kernel, by decide +kernel, by decide +kernel⟩
set_option maxHeartbeats 4000000 in
theorem metX8_isIn (l : Launch) (hDis : ms_Dis a shM.length) {σ : Mm} {p0 : Int32} {p1 : Int32} {out : Int32} (h : fX8_isIn p0 p1 = some out) : Met l yX8_isIn (.code yX8_isIn cX8_isIn 2 (some .boolean) :: wsL_law) rmX8_isIn (ms_Pc D cA a shM [.int p0, .int p1] σ) (ms_Qi D cA a shM out σ) 0 0 (ms_A a shM.length) := by
  refine Met.ofW (cc := cX8_isIn) (maxL := 2) (ret := (some .boolean)) (by decide) rfl ?_
  intro p e s m args below meth c s₁ B hml hv
  obtain ⟨rfl, hK, hN, hP⟩ := hv
  have hl := lv_entry ([.int p0, .int p1]) (n := 2) (Nat.le_of_ble_eq_true rfl)
  rw [lg_entry_eq]
  generalize (lg_sl ([.int p0, .int p1]) ++ List.replicate (2 - (lg_sl ([.int p0, .int p1])).length) Slot.unset).toArray = ls at hl ⊢
  exact wX8_isIn ⟨B.exec, B.bytes, hml, findClass_of_methodNamed B.named, fun w hw => atoms_spec (ws := .code yX8_isIn cX8_isIn 2 (some .boolean) :: wsL_law) B.pre w (List.mem_cons_of_mem _ hw), B.returns, B.notSynchronized, hK, hDis, hN⟩ out p0 p1 s.heap [] ls ⟨hP, va_S.rf⟩ hl h
theorem kX8_isIn (Cx : ms_C p s m args meth c D cA a shM cc nL own ret) {σ : Mm} {H : Heap} {locs : List Loc} (hI : ms_I D cA a shM s σ H locs) {p0 : Int32} {p1 : Int32} {out : Int32} (h : fX8_isIn p0 p1 = some out) (hl : Cond.methodLink own idx yX8_isIn ∈ wsL_law ∨ (own, idx, yX8_isIn) ∈ ms_nq) (hf : 0 + 1 ≤ R.frames) (hlo : 8 + (2 + 11) + 0 ≤ R.locals) (hsz : ls.size = nL) (hW : (rest.map fun v => v.category).sum ≤ 8) (hd : decode cc pc = .ok (.invokestatic idx, 3)) (kk : ∀ (H1 : Heap) (locs1 : List Loc), ms_I D cA a shM s σ H1 locs1 → W p l e R s m args below meth c H1 locs1 0 0 Q (F0 m (pc + 3) ls (.int out :: rest))) : W p l e R s m args below meth c H locs 0 0 Q (F0 m pc ls (.int p1 :: .int p0 :: rest)) :=
  ms_ci hI (ms_runS (av := [.int p0, .int p1]) Cx hI yvX8_isIn (metX8_isIn l Cx.2.2.2.2.2.2.2.2.1  h) ⟨rfl, rfl⟩ hl ⟨hf, hlo⟩ rfl hsz rfl hW ⟨Nat.zero_le _, Nat.zero_le _⟩ hd) kk
/-! X8 ones (I)I -/
theorem dX8_ones_0 : decode cX8_ones 0 = .ok (.iconst 0, 1) := by decide +kernel
theorem dX8_ones_1 : decode cX8_ones 1 = .ok (.istore_n 1, 1) := by decide +kernel
theorem dX8_ones_2 : decode cX8_ones 2 = .ok (.iconst 0, 1) := by decide +kernel
theorem dX8_ones_3 : decode cX8_ones 3 = .ok (.istore_n 2, 1) := by decide +kernel
theorem dX8_ones_4 : decode cX8_ones 4 = .ok (.iload_n 2, 1) := by decide +kernel
theorem dX8_ones_5 : decode cX8_ones 5 = .ok (.bipush 9, 2) := by decide +kernel
theorem dX8_ones_7 : decode cX8_ones 7 = .ok (.if_icmp .ge 17, 3) := by decide +kernel
theorem dX8_ones_10 : decode cX8_ones 10 = .ok (.iload_n 1, 1) := by decide +kernel
theorem dX8_ones_11 : decode cX8_ones 11 = .ok (.iload_n 0, 1) := by decide +kernel
theorem dX8_ones_12 : decode cX8_ones 12 = .ok (.iload_n 2, 1) := by decide +kernel
theorem dX8_ones_13 : decode cX8_ones 13 = .ok (.ishr, 1) := by decide +kernel
theorem dX8_ones_14 : decode cX8_ones 14 = .ok (.iconst 1, 1) := by decide +kernel
theorem dX8_ones_15 : decode cX8_ones 15 = .ok (.iand, 1) := by decide +kernel
theorem dX8_ones_16 : decode cX8_ones 16 = .ok (.iadd, 1) := by decide +kernel
theorem dX8_ones_17 : decode cX8_ones 17 = .ok (.istore_n 1, 1) := by decide +kernel
theorem dX8_ones_18 : decode cX8_ones 18 = .ok (.iinc 2 1, 3) := by decide +kernel
theorem dX8_ones_21 : decode cX8_ones 21 = .ok (.goto (-17), 3) := by decide +kernel
theorem dX8_ones_24 : decode cX8_ones 24 = .ok (.iload_n 1, 1) := by decide +kernel
theorem dX8_ones_25 : decode cX8_ones 25 = .ok (.ireturn, 1) := by decide +kernel
abbrev rmX8_ones : Room := { frames := 0, cells := 0, slots := 0, locals := 0 }
set_option maxHeartbeats 4000000 in
set_option maxRecDepth 100000 in
theorem wX8_ones_4 (Cx : ms_C p s m args meth c D cA a shM cX8_ones 3 RX8 (some .int)) (out : Int32) {σ : Mm} : ∀ (n : Nat), ∀ (y1 : Int32) (y2 : Int32) (y3 : Int32) , ∀ (H : Heap) (locs : List Loc) (ls : Array Slot), ms_I D cA a shM s σ H locs → lv_has ls 3 [(0, .int y1), (1, .int y2), (2, .int y3)] → fX8_ones_4 n y1 y2 y3 = some out → W p l e rmX8_ones s m args below meth c H locs 0 0 (MQ below (ms_Qi D cA a shM out σ) args s 0 0 (ms_A a shM.length)) (F0 m 4 ls []) := by
  have hx := Cx.1
  have hb := Cx.2.1
  intro n
  induction n with
  | zero =>
    intro y1 y2 y3 H locs ls hI hl h
    exact nomatch (show none = some out from h)
  | succ n ih =>
    intro y1 y2 y3 H locs ls hI hl h
    rw [fX8_ones_4] at h
    refine lv_iload_n hx hb dX8_ones_4 rfl (lv_at hl 2 rfl) ?_
    refine lv_bipush (v := 9) hx hb dX8_ones_5 rfl ?_
    refine lv_icmp_ge (tgt := 24) hx hb dX8_ones_7 rfl (fun hc => ?_) (fun hc => ?_)
    · have h := ms_ifT hc h
      refine lv_iload_n hx hb dX8_ones_24 rfl (lv_at hl 1 rfl) ?_
      exact ms_ri Cx hI (Option.some.inj h) rfl dX8_ones_25
    · have h := ms_ifF hc h
      refine lv_iload_n hx hb dX8_ones_10 rfl (lv_at hl 1 rfl) ?_
      refine lv_iload_n hx hb dX8_ones_11 rfl (lv_at hl 0 rfl) ?_
      refine lv_iload_n hx hb dX8_ones_12 rfl (lv_at hl 2 rfl) ?_
      refine lv_ishr hx hb dX8_ones_13 ?_
      refine lv_iconst (v := 1) hx hb dX8_ones_14 rfl ?_
      refine lv_iand hx hb dX8_ones_15 ?_
      refine lv_iadd hx hb dX8_ones_16 ?_
      refine lv_topi (fun x1 ex1 => ?_)
      have h := ms_ltE ex1 h
      refine lv_istore_n (lv' := [(1, .int x1), (0, .int y1), (2, .int y3)]) hx hb dX8_ones_17 rfl hl (by decide) rfl (fun ls hl => ?_)
      refine lv_iinc (v := y3 + 1) (lv' := [(2, .int (y3 + 1)), (1, .int x1), (0, .int y1)]) hx hb dX8_ones_18 hl (k := 2) rfl rfl (by decide) rfl (fun ls hl => ?_)
      refine lv_goto (tgt := 4) hx hb dX8_ones_21 rfl ?_
      exact ih y1 x1 (y3 + 1) _ _ _ hI (lv_sub hl [2, 1, 0] rfl) h
set_option maxHeartbeats 4000000 in
set_option maxRecDepth 100000 in
theorem wX8_ones (Cx : ms_C p s m args meth c D cA a shM cX8_ones 3 RX8 (some .int)) (out : Int32) {σ : Mm} : ∀ (p0 : Int32) , ∀ (H : Heap) (locs : List Loc) (ls : Array Slot), ms_I D cA a shM s σ H locs → lv_has ls 3 [(0, .int p0)] → fX8_ones p0 = some out → W p l e rmX8_ones s m args below meth c H locs 0 0 (MQ below (ms_Qi D cA a shM out σ) args s 0 0 (ms_A a shM.length)) (F0 m 0 ls []) := by
  have hx := Cx.1
  have hb := Cx.2.1
  intro p0 H locs ls hI hl h
  unfold fX8_ones at h
  refine lv_iconst (v := 0) hx hb dX8_ones_0 rfl ?_
  refine lv_istore_n (lv' := [(1, .int 0), (0, .int p0)]) hx hb dX8_ones_1 rfl hl (by decide) rfl (fun ls hl => ?_)
  refine lv_iconst (v := 0) hx hb dX8_ones_2 rfl ?_
  refine lv_istore_n (lv' := [(2, .int 0), (1, .int 0), (0, .int p0)]) hx hb dX8_ones_3 rfl hl (by decide) rfl (fun ls hl => ?_)
  exact wX8_ones_4 Cx out  ms_fu p0 0 0 _ _ _ hI (lv_sub hl [2, 1, 0] rfl) h
theorem yvX8_ones : ms_YS yX8_ones cX8_ones 3 (some .int) 1 := ⟨wd_29_9, wd_1_5, wd_29_10, by decide +kernel, by decide +kernel, by decide +kernel⟩
set_option maxHeartbeats 4000000 in
theorem metX8_ones (l : Launch) (hDis : ms_Dis a shM.length) {σ : Mm} {p0 : Int32} {out : Int32} (h : fX8_ones p0 = some out) : Met l yX8_ones (.code yX8_ones cX8_ones 3 (some .int) :: wsL_law) rmX8_ones (ms_Pc D cA a shM [.int p0] σ) (ms_Qi D cA a shM out σ) 0 0 (ms_A a shM.length) := by
  refine Met.ofW (cc := cX8_ones) (maxL := 3) (ret := (some .int)) (by decide) rfl ?_
  intro p e s m args below meth c s₁ B hml hv
  obtain ⟨rfl, hK, hN, hP⟩ := hv
  have hl := lv_entry ([.int p0]) (n := 3) (Nat.le_of_ble_eq_true rfl)
  rw [lg_entry_eq]
  generalize (lg_sl ([.int p0]) ++ List.replicate (3 - (lg_sl ([.int p0])).length) Slot.unset).toArray = ls at hl ⊢
  exact wX8_ones ⟨B.exec, B.bytes, hml, findClass_of_methodNamed B.named, fun w hw => atoms_spec (ws := .code yX8_ones cX8_ones 3 (some .int) :: wsL_law) B.pre w (List.mem_cons_of_mem _ hw), B.returns, B.notSynchronized, hK, hDis, hN⟩ out p0 s.heap [] ls ⟨hP, va_S.rf⟩ hl h
theorem kX8_ones (Cx : ms_C p s m args meth c D cA a shM cc nL own ret) {σ : Mm} {H : Heap} {locs : List Loc} (hI : ms_I D cA a shM s σ H locs) {p0 : Int32} {out : Int32} (h : fX8_ones p0 = some out) (hl : Cond.methodLink own idx yX8_ones ∈ wsL_law ∨ (own, idx, yX8_ones) ∈ ms_nq) (hf : 0 + 1 ≤ R.frames) (hlo : 8 + (3 + 11) + 0 ≤ R.locals) (hsz : ls.size = nL) (hW : (rest.map fun v => v.category).sum ≤ 8) (hd : decode cc pc = .ok (.invokestatic idx, 3)) (kk : ∀ (H1 : Heap) (locs1 : List Loc), ms_I D cA a shM s σ H1 locs1 → W p l e R s m args below meth c H1 locs1 0 0 Q (F0 m (pc + 3) ls (.int out :: rest))) : W p l e R s m args below meth c H locs 0 0 Q (F0 m pc ls (.int p0 :: rest)) :=
  ms_ci hI (ms_runS (av := [.int p0]) Cx hI yvX8_ones (metX8_ones l Cx.2.2.2.2.2.2.2.2.1  h) ⟨rfl, rfl⟩ hl ⟨hf, hlo⟩ rfl hsz rfl hW ⟨Nat.zero_le _, Nat.zero_le _⟩ hd) kk
/-! X8 type (I)I -/
theorem dX8_type_0 : decode cX8_type 0 = .ok (.iload_n 1, 1) := by decide +kernel
theorem dX8_type_1 : decode cX8_type 1 = .ok (.iconst 0, 1) := by decide +kernel
theorem dX8_type_2 : decode cX8_type 2 = .ok (.sipush 255, 3) := by decide +kernel
theorem dX8_type_5 : decode cX8_type 5 = .ok (.invokestatic 95, 3) := by decide +kernel
theorem dX8_type_8 : decode cX8_type 8 = .ok (.ifCond .ne 6, 3) := by decide +kernel
theorem dX8_type_11 : decode cX8_type 11 = .ok (.bipush (-2), 2) := by decide +kernel
theorem dX8_type_13 : decode cX8_type 13 = .ok (.ireturn, 1) := by decide +kernel
theorem dX8_type_14 : decode cX8_type 14 = .ok (.aload_n 0, 1) := by decide +kernel
theorem dX8_type_15 : decode cX8_type 15 = .ok (.getfield 99, 3) := by decide +kernel
theorem dX8_type_18 : decode cX8_type 18 = .ok (.bipush 100, 2) := by decide +kernel
theorem dX8_type_20 : decode cX8_type 20 = .ok (.if_icmp .ne 6, 3) := by decide +kernel
theorem dX8_type_23 : decode cX8_type 23 = .ok (.bipush (-4), 2) := by decide +kernel
theorem dX8_type_25 : decode cX8_type 25 = .ok (.ireturn, 1) := by decide +kernel
theorem dX8_type_26 : decode cX8_type 26 = .ok (.aload_n 0, 1) := by decide +kernel
theorem dX8_type_27 : decode cX8_type 27 = .ok (.getfield 7, 3) := by decide +kernel
theorem dX8_type_30 : decode cX8_type 30 = .ok (.aload_n 0, 1) := by decide +kernel
theorem dX8_type_31 : decode cX8_type 31 = .ok (.getfield 99, 3) := by decide +kernel
theorem dX8_type_34 : decode cX8_type 34 = .ok (.iload_n 1, 1) := by decide +kernel
theorem dX8_type_35 : decode cX8_type 35 = .ok (.iastore, 1) := by decide +kernel
theorem dX8_type_36 : decode cX8_type 36 = .ok (.aload_n 0, 1) := by decide +kernel
theorem dX8_type_37 : decode cX8_type 37 = .ok (.dup, 1) := by decide +kernel
theorem dX8_type_38 : decode cX8_type 38 = .ok (.getfield 99, 3) := by decide +kernel
theorem dX8_type_41 : decode cX8_type 41 = .ok (.iconst 1, 1) := by decide +kernel
theorem dX8_type_42 : decode cX8_type 42 = .ok (.iadd, 1) := by decide +kernel
theorem dX8_type_43 : decode cX8_type 43 = .ok (.putfield 99, 3) := by decide +kernel
theorem dX8_type_46 : decode cX8_type 46 = .ok (.aload_n 0, 1) := by decide +kernel
theorem dX8_type_47 : decode cX8_type 47 = .ok (.getfield 99, 3) := by decide +kernel
theorem dX8_type_50 : decode cX8_type 50 = .ok (.ireturn, 1) := by decide +kernel
abbrev rmX8_type : Room := { frames := 1, cells := 0, slots := 0, locals := 22 }
set_option maxHeartbeats 4000000 in
set_option maxRecDepth 100000 in
theorem wX8_type (Cx : ms_C p s m args meth c D cA a shM cX8_type 2 RX8 (some .int)) (out : Int32 × Mm) : ∀ (p0 : Int32) , ∀ (σ : Mm) (H : Heap) (locs : List Loc) (ls : Array Slot), ms_I D cA a shM s σ H locs → lv_has ls 2 [(0, .ref (a 0)), (1, .int p0)] → fX8_type p0 σ = some out → W p l e rmX8_type s m args below meth c H locs 0 0 (MQ below (ms_Qi D cA a shM out.1 out.2) args s 0 0 (ms_A a shM.length)) (F0 m 0 ls []) := by
  have hx := Cx.1
  have hb := Cx.2.1
  intro p0 σ H locs ls hI hl h
  unfold fX8_type at h
  refine lv_iload_n hx hb dX8_type_0 rfl (lv_at hl 1 rfl) ?_
  refine lv_iconst (v := 0) hx hb dX8_type_1 rfl ?_
  refine lv_sipush (v := 255) hx hb dX8_type_2 rfl ?_
  obtain ⟨r2, hc1, h⟩ := ms_bdE h
  refine kX8_in Cx hI hc1 (Or.inl wd_10_20) (Nat.le_of_ble_eq_true rfl) (Nat.le_of_ble_eq_true rfl) hl.1 (Nat.le_of_ble_eq_true rfl) dX8_type_5 (fun H locs hI => ?_)
  refine lv_if_ne (tgt := 14) hx hb dX8_type_8 rfl (fun hc => ?_) (fun hc => ?_)
  · have h := ms_ifF hc h
    refine lv_aload_n hx hb dX8_type_14 rfl (lv_at hl 0 rfl) ?_
    refine gi_X8_0 Cx hI wd_10_19 dX8_type_15 ?_
    refine lv_bipush (v := 100) hx hb dX8_type_18 rfl ?_
    refine lv_icmp_ne (tgt := 26) hx hb dX8_type_20 rfl (fun hc => ?_) (fun hc => ?_)
    · have h := ms_ifF hc h
      refine lv_aload_n hx hb dX8_type_26 rfl (lv_at hl 0 rfl) ?_
      refine gr_X8_1 Cx hI wd_6_13 dX8_type_27 ?_
      refine lv_aload_n hx hb dX8_type_30 rfl (lv_at hl 0 rfl) ?_
      refine gi_X8_0 Cx hI wd_10_19 dX8_type_31 ?_
      refine lv_iload_n hx hb dX8_type_34 rfl (lv_at hl 1 rfl) ?_
      obtain ⟨hg, h⟩ := ms_gE h
      refine ms_sto Cx hI 1 shM_1 hg dX8_type_35 (fun H locs σ3 eσ3 hI => ?_)
      have h := ms_ltE eσ3 h
      refine lv_aload_n hx hb dX8_type_36 rfl (lv_at hl 0 rfl) ?_
      refine lv_dup hx hb dX8_type_37 rfl ?_
      refine gi_X8_0 Cx hI wd_10_19 dX8_type_38 ?_
      refine lv_iconst (v := 1) hx hb dX8_type_41 rfl ?_
      refine lv_iadd hx hb dX8_type_42 ?_
      refine pi_X8_0 Cx hI wd_10_19 dX8_type_43 (fun H locs σ4 eσ4 hI => ?_)
      have h := ms_ltE eσ4 h
      refine lv_aload_n hx hb dX8_type_46 rfl (lv_at hl 0 rfl) ?_
      refine gi_X8_0 Cx hI wd_10_19 dX8_type_47 ?_
      exact ms_riw Cx hI h dX8_type_50
    · have h := ms_ifT hc h
      refine lv_bipush (v := -4) hx hb dX8_type_23 rfl ?_
      exact ms_riw Cx hI h dX8_type_25
  · have h := ms_ifT hc h
    refine lv_bipush (v := -2) hx hb dX8_type_11 rfl ?_
    exact ms_riw Cx hI h dX8_type_13
theorem yvX8_type : ms_YV yX8_type RX8 cX8_type 2 (some .int) 1 := ⟨wd_10_16, wd_10_17, wd_1_5, wd_10_18, rfl, by decide +kernel, by decide +kernel, by decide +kernel⟩
set_option maxHeartbeats 4000000 in
theorem metX8_type (l : Launch) (hDis : ms_Dis a shM.length) {σ : Mm} {p0 : Int32} {out : Int32 × Mm} (h : fX8_type p0 σ = some out) : Met l yX8_type (.code yX8_type cX8_type 2 (some .int) :: wsL_law) rmX8_type (ms_Pc D cA a shM [.ref (a 0), .int p0] σ) (ms_Qi D cA a shM out.1 out.2) 0 0 (ms_A a shM.length) := by
  refine Met.ofW (cc := cX8_type) (maxL := 2) (ret := (some .int)) (by decide) rfl ?_
  intro p e s m args below meth c s₁ B hml hv
  obtain ⟨rfl, hK, hN, hP⟩ := hv
  have hl := lv_entry ([.ref (a 0), .int p0]) (n := 2) (Nat.le_of_ble_eq_true rfl)
  rw [lg_entry_eq]
  generalize (lg_sl ([.ref (a 0), .int p0]) ++ List.replicate (2 - (lg_sl ([.ref (a 0), .int p0])).length) Slot.unset).toArray = ls at hl ⊢
  exact wX8_type ⟨B.exec, B.bytes, hml, findClass_of_methodNamed B.named, fun w hw => atoms_spec (ws := .code yX8_type cX8_type 2 (some .int) :: wsL_law) B.pre w (List.mem_cons_of_mem _ hw), B.returns, B.notSynchronized, hK, hDis, hN⟩ out p0 σ s.heap [] ls ⟨hP, va_S.rf⟩ hl h
theorem kX8_type (Cx : ms_C p s m args meth c D cA a shM cc nL own ret) {σ : Mm} {H : Heap} {locs : List Loc} (hI : ms_I D cA a shM s σ H locs) {p0 : Int32} {out : Int32 × Mm} (h : fX8_type p0 σ = some out) (hl : Cond.methodLink own idx yX8_type ∈ wsL_law) (hf : 1 + 1 ≤ R.frames) (hlo : 8 + (2 + 11) + 22 ≤ R.locals) (hsz : ls.size = nL) (hW : (rest.map fun v => v.category).sum ≤ 8) (hd : decode cc pc = .ok (.invokevirtual idx, 3)) (kk : ∀ (H1 : Heap) (locs1 : List Loc), ms_I D cA a shM s out.2 H1 locs1 → W p l e R s m args below meth c H1 locs1 0 0 Q (F0 m (pc + 3) ls (.int out.1 :: rest))) : W p l e R s m args below meth c H locs 0 0 Q (F0 m pc ls (.int p0 :: .ref (a 0) :: rest)) :=
  ms_ci hI (ms_runV (av := [.int p0]) Cx hI 0 shM_0 (ci := 8) rfl rfl yvX8_type (metX8_type l Cx.2.2.2.2.2.2.2.2.1  h) ⟨rfl, rfl⟩ hl ⟨hf, hlo⟩ rfl hsz rfl hW ⟨Nat.zero_le _, Nat.zero_le _⟩ hd) kk
/-! X8 wipe ()I -/
theorem dX8_wipe_0 : decode cX8_wipe 0 = .ok (.aload_n 0, 1) := by decide +kernel
theorem dX8_wipe_1 : decode cX8_wipe 1 = .ok (.getfield 99, 3) := by decide +kernel
theorem dX8_wipe_4 : decode cX8_wipe 4 = .ok (.istore_n 1, 1) := by decide +kernel
theorem dX8_wipe_5 : decode cX8_wipe 5 = .ok (.aload_n 0, 1) := by decide +kernel
theorem dX8_wipe_6 : decode cX8_wipe 6 = .ok (.iconst 0, 1) := by decide +kernel
theorem dX8_wipe_7 : decode cX8_wipe 7 = .ok (.putfield 99, 3) := by decide +kernel
theorem dX8_wipe_10 : decode cX8_wipe 10 = .ok (.iload_n 1, 1) := by decide +kernel
theorem dX8_wipe_11 : decode cX8_wipe 11 = .ok (.ireturn, 1) := by decide +kernel
abbrev rmX8_wipe : Room := { frames := 0, cells := 0, slots := 0, locals := 0 }
set_option maxHeartbeats 4000000 in
set_option maxRecDepth 100000 in
theorem wX8_wipe (Cx : ms_C p s m args meth c D cA a shM cX8_wipe 2 RX8 (some .int)) (out : Int32 × Mm) : ∀ (σ : Mm) (H : Heap) (locs : List Loc) (ls : Array Slot), ms_I D cA a shM s σ H locs → lv_has ls 2 [(0, .ref (a 0))] → fX8_wipe σ = some out → W p l e rmX8_wipe s m args below meth c H locs 0 0 (MQ below (ms_Qi D cA a shM out.1 out.2) args s 0 0 (ms_A a shM.length)) (F0 m 0 ls []) := by
  have hx := Cx.1
  have hb := Cx.2.1
  intro σ H locs ls hI hl h
  unfold fX8_wipe at h
  refine lv_aload_n hx hb dX8_wipe_0 rfl (lv_at hl 0 rfl) ?_
  refine gi_X8_0 Cx hI wd_10_19 dX8_wipe_1 ?_
  refine lv_istore_n (lv' := [(1, .int (σ 0 0)), (0, .ref (a 0))]) hx hb dX8_wipe_4 rfl hl (by decide) rfl (fun ls hl => ?_)
  refine lv_aload_n hx hb dX8_wipe_5 rfl (lv_at hl 1 rfl) ?_
  refine lv_iconst (v := 0) hx hb dX8_wipe_6 rfl ?_
  refine pi_X8_0 Cx hI wd_10_19 dX8_wipe_7 (fun H locs σ1 eσ1 hI => ?_)
  have h := ms_ltE eσ1 h
  refine lv_iload_n hx hb dX8_wipe_10 rfl (lv_at hl 0 rfl) ?_
  exact ms_riw Cx hI h dX8_wipe_11
theorem yvX8_wipe : ms_YV yX8_wipe RX8 cX8_wipe 2 (some .int) 0 := ⟨wd_11_4, wd_11_5, wd_1_5, wd_11_6, rfl, by decide +kernel, by decide +kernel, by decide +kernel⟩
set_option maxHeartbeats 4000000 in
theorem metX8_wipe (l : Launch) (hDis : ms_Dis a shM.length) {σ : Mm} {out : Int32 × Mm} (h : fX8_wipe σ = some out) : Met l yX8_wipe (.code yX8_wipe cX8_wipe 2 (some .int) :: wsL_law) rmX8_wipe (ms_Pc D cA a shM [.ref (a 0)] σ) (ms_Qi D cA a shM out.1 out.2) 0 0 (ms_A a shM.length) := by
  refine Met.ofW (cc := cX8_wipe) (maxL := 2) (ret := (some .int)) (by decide) rfl ?_
  intro p e s m args below meth c s₁ B hml hv
  obtain ⟨rfl, hK, hN, hP⟩ := hv
  have hl := lv_entry ([.ref (a 0)]) (n := 2) (Nat.le_of_ble_eq_true rfl)
  rw [lg_entry_eq]
  generalize (lg_sl ([.ref (a 0)]) ++ List.replicate (2 - (lg_sl ([.ref (a 0)])).length) Slot.unset).toArray = ls at hl ⊢
  exact wX8_wipe ⟨B.exec, B.bytes, hml, findClass_of_methodNamed B.named, fun w hw => atoms_spec (ws := .code yX8_wipe cX8_wipe 2 (some .int) :: wsL_law) B.pre w (List.mem_cons_of_mem _ hw), B.returns, B.notSynchronized, hK, hDis, hN⟩ out σ s.heap [] ls ⟨hP, va_S.rf⟩ hl h
theorem kX8_wipe (Cx : ms_C p s m args meth c D cA a shM cc nL own ret) {σ : Mm} {H : Heap} {locs : List Loc} (hI : ms_I D cA a shM s σ H locs) {out : Int32 × Mm} (h : fX8_wipe σ = some out) (hl : Cond.methodLink own idx yX8_wipe ∈ wsL_law) (hf : 0 + 1 ≤ R.frames) (hlo : 8 + (2 + 11) + 0 ≤ R.locals) (hsz : ls.size = nL) (hW : (rest.map fun v => v.category).sum ≤ 8) (hd : decode cc pc = .ok (.invokevirtual idx, 3)) (kk : ∀ (H1 : Heap) (locs1 : List Loc), ms_I D cA a shM s out.2 H1 locs1 → W p l e R s m args below meth c H1 locs1 0 0 Q (F0 m (pc + 3) ls (.int out.1 :: rest))) : W p l e R s m args below meth c H locs 0 0 Q (F0 m pc ls (.ref (a 0) :: rest)) :=
  ms_ci hI (ms_runV (av := []) Cx hI 0 shM_0 (ci := 8) rfl rfl yvX8_wipe (metX8_wipe l Cx.2.2.2.2.2.2.2.2.1  h) ⟨rfl, rfl⟩ hl ⟨hf, hlo⟩ rfl hsz rfl hW ⟨Nat.zero_le _, Nat.zero_le _⟩ hd) kk
/-! X8 byteAt (I)I -/
theorem dX8_byteAt_0 : decode cX8_byteAt 0 = .ok (.iload_n 1, 1) := by decide +kernel
theorem dX8_byteAt_1 : decode cX8_byteAt 1 = .ok (.aload_n 0, 1) := by decide +kernel
theorem dX8_byteAt_2 : decode cX8_byteAt 2 = .ok (.getfield 99, 3) := by decide +kernel
theorem dX8_byteAt_5 : decode cX8_byteAt 5 = .ok (.if_icmp .ge 12, 3) := by decide +kernel
theorem dX8_byteAt_8 : decode cX8_byteAt 8 = .ok (.aload_n 0, 1) := by decide +kernel
theorem dX8_byteAt_9 : decode cX8_byteAt 9 = .ok (.getfield 7, 3) := by decide +kernel
theorem dX8_byteAt_12 : decode cX8_byteAt 12 = .ok (.iload_n 1, 1) := by decide +kernel
theorem dX8_byteAt_13 : decode cX8_byteAt 13 = .ok (.iaload, 1) := by decide +kernel
theorem dX8_byteAt_14 : decode cX8_byteAt 14 = .ok (.goto 4, 3) := by decide +kernel
theorem dX8_byteAt_17 : decode cX8_byteAt 17 = .ok (.iconst (-1), 1) := by decide +kernel
theorem dX8_byteAt_18 : decode cX8_byteAt 18 = .ok (.ireturn, 1) := by decide +kernel
abbrev rmX8_byteAt : Room := { frames := 0, cells := 0, slots := 0, locals := 0 }
set_option maxHeartbeats 4000000 in
set_option maxRecDepth 100000 in
theorem wX8_byteAt (Cx : ms_C p s m args meth c D cA a shM cX8_byteAt 2 RX8 (some .int)) (out : Int32) {σ : Mm} : ∀ (p0 : Int32) , ∀ (H : Heap) (locs : List Loc) (ls : Array Slot), ms_I D cA a shM s σ H locs → lv_has ls 2 [(0, .ref (a 0)), (1, .int p0)] → fX8_byteAt σ p0 = some out → W p l e rmX8_byteAt s m args below meth c H locs 0 0 (MQ below (ms_Qi D cA a shM out σ) args s 0 0 (ms_A a shM.length)) (F0 m 0 ls []) := by
  have hx := Cx.1
  have hb := Cx.2.1
  intro p0 H locs ls hI hl h
  unfold fX8_byteAt at h
  refine lv_iload_n hx hb dX8_byteAt_0 rfl (lv_at hl 1 rfl) ?_
  refine lv_aload_n hx hb dX8_byteAt_1 rfl (lv_at hl 0 rfl) ?_
  refine gi_X8_0 Cx hI wd_10_19 dX8_byteAt_2 ?_
  refine lv_icmp_ge (tgt := 17) hx hb dX8_byteAt_5 rfl (fun hc => ?_) (fun hc => ?_)
  · have h := ms_ifT hc h
    refine lv_iconst (v := -1) hx hb dX8_byteAt_17 rfl ?_
    exact ms_ri Cx hI (Option.some.inj h) rfl dX8_byteAt_18
  · have h := ms_ifF hc h
    refine lv_aload_n hx hb dX8_byteAt_8 rfl (lv_at hl 0 rfl) ?_
    refine gr_X8_1 Cx hI wd_6_13 dX8_byteAt_9 ?_
    refine lv_iload_n hx hb dX8_byteAt_12 rfl (lv_at hl 1 rfl) ?_
    obtain ⟨hg, h⟩ := ms_gE h
    refine ms_ld Cx hI 1 shM_1 hg dX8_byteAt_13 ?_
    refine lv_goto (tgt := 18) hx hb dX8_byteAt_14 rfl ?_
    exact ms_ri Cx hI (Option.some.inj h) rfl dX8_byteAt_18
theorem yvX8_byteAt : ms_YV yX8_byteAt RX8 cX8_byteAt 2 (some .int) 1 := ⟨wd_12_4, wd_12_5, wd_1_5, wd_12_6, rfl, by decide +kernel, by decide +kernel, by decide +kernel⟩
set_option maxHeartbeats 4000000 in
theorem metX8_byteAt (l : Launch) (hDis : ms_Dis a shM.length) {σ : Mm} {p0 : Int32} {out : Int32} (h : fX8_byteAt σ p0 = some out) : Met l yX8_byteAt (.code yX8_byteAt cX8_byteAt 2 (some .int) :: wsL_law) rmX8_byteAt (ms_Pc D cA a shM [.ref (a 0), .int p0] σ) (ms_Qi D cA a shM out σ) 0 0 (ms_A a shM.length) := by
  refine Met.ofW (cc := cX8_byteAt) (maxL := 2) (ret := (some .int)) (by decide) rfl ?_
  intro p e s m args below meth c s₁ B hml hv
  obtain ⟨rfl, hK, hN, hP⟩ := hv
  have hl := lv_entry ([.ref (a 0), .int p0]) (n := 2) (Nat.le_of_ble_eq_true rfl)
  rw [lg_entry_eq]
  generalize (lg_sl ([.ref (a 0), .int p0]) ++ List.replicate (2 - (lg_sl ([.ref (a 0), .int p0])).length) Slot.unset).toArray = ls at hl ⊢
  exact wX8_byteAt ⟨B.exec, B.bytes, hml, findClass_of_methodNamed B.named, fun w hw => atoms_spec (ws := .code yX8_byteAt cX8_byteAt 2 (some .int) :: wsL_law) B.pre w (List.mem_cons_of_mem _ hw), B.returns, B.notSynchronized, hK, hDis, hN⟩ out p0 s.heap [] ls ⟨hP, va_S.rf⟩ hl h
theorem kX8_byteAt (Cx : ms_C p s m args meth c D cA a shM cc nL own ret) {σ : Mm} {H : Heap} {locs : List Loc} (hI : ms_I D cA a shM s σ H locs) {p0 : Int32} {out : Int32} (h : fX8_byteAt σ p0 = some out) (hl : Cond.methodLink own idx yX8_byteAt ∈ wsL_law) (hf : 0 + 1 ≤ R.frames) (hlo : 8 + (2 + 11) + 0 ≤ R.locals) (hsz : ls.size = nL) (hW : (rest.map fun v => v.category).sum ≤ 8) (hd : decode cc pc = .ok (.invokevirtual idx, 3)) (kk : ∀ (H1 : Heap) (locs1 : List Loc), ms_I D cA a shM s σ H1 locs1 → W p l e R s m args below meth c H1 locs1 0 0 Q (F0 m (pc + 3) ls (.int out :: rest))) : W p l e R s m args below meth c H locs 0 0 Q (F0 m pc ls (.int p0 :: .ref (a 0) :: rest)) :=
  ms_ci hI (ms_runV (av := [.int p0]) Cx hI 0 shM_0 (ci := 8) rfl rfl yvX8_byteAt (metX8_byteAt l Cx.2.2.2.2.2.2.2.2.1  h) ⟨rfl, rfl⟩ hl ⟨hf, hlo⟩ rfl hsz rfl hW ⟨Nat.zero_le _, Nat.zero_le _⟩ hd) kk
/-! X8 figureAt (I)I -/
theorem dX8_figureAt_0 : decode cX8_figureAt 0 = .ok (.aload_n 0, 1) := by decide +kernel
theorem dX8_figureAt_1 : decode cX8_figureAt 1 = .ok (.iload_n 1, 1) := by decide +kernel
theorem dX8_figureAt_2 : decode cX8_figureAt 2 = .ok (.invokevirtual 103, 3) := by decide +kernel
theorem dX8_figureAt_5 : decode cX8_figureAt 5 = .ok (.istore_n 2, 1) := by decide +kernel
theorem dX8_figureAt_6 : decode cX8_figureAt 6 = .ok (.iload_n 2, 1) := by decide +kernel
theorem dX8_figureAt_7 : decode cX8_figureAt 7 = .ok (.bipush 48, 2) := by decide +kernel
theorem dX8_figureAt_9 : decode cX8_figureAt 9 = .ok (.bipush 57, 2) := by decide +kernel
theorem dX8_figureAt_11 : decode cX8_figureAt 11 = .ok (.invokestatic 95, 3) := by decide +kernel
theorem dX8_figureAt_14 : decode cX8_figureAt 14 = .ok (.ifCond .eq 10, 3) := by decide +kernel
theorem dX8_figureAt_17 : decode cX8_figureAt 17 = .ok (.iload_n 2, 1) := by decide +kernel
theorem dX8_figureAt_18 : decode cX8_figureAt 18 = .ok (.bipush 48, 2) := by decide +kernel
theorem dX8_figureAt_20 : decode cX8_figureAt 20 = .ok (.isub, 1) := by decide +kernel
theorem dX8_figureAt_21 : decode cX8_figureAt 21 = .ok (.goto 4, 3) := by decide +kernel
theorem dX8_figureAt_24 : decode cX8_figureAt 24 = .ok (.iconst (-1), 1) := by decide +kernel
theorem dX8_figureAt_25 : decode cX8_figureAt 25 = .ok (.ireturn, 1) := by decide +kernel
abbrev rmX8_figureAt : Room := { frames := 1, cells := 0, slots := 0, locals := 22 }
set_option maxHeartbeats 4000000 in
set_option maxRecDepth 100000 in
theorem wX8_figureAt (Cx : ms_C p s m args meth c D cA a shM cX8_figureAt 3 RX8 (some .int)) (out : Int32) {σ : Mm} : ∀ (p0 : Int32) , ∀ (H : Heap) (locs : List Loc) (ls : Array Slot), ms_I D cA a shM s σ H locs → lv_has ls 3 [(0, .ref (a 0)), (1, .int p0)] → fX8_figureAt σ p0 = some out → W p l e rmX8_figureAt s m args below meth c H locs 0 0 (MQ below (ms_Qi D cA a shM out σ) args s 0 0 (ms_A a shM.length)) (F0 m 0 ls []) := by
  have hx := Cx.1
  have hb := Cx.2.1
  intro p0 H locs ls hI hl h
  unfold fX8_figureAt at h
  refine lv_aload_n hx hb dX8_figureAt_0 rfl (lv_at hl 0 rfl) ?_
  refine lv_iload_n hx hb dX8_figureAt_1 rfl (lv_at hl 1 rfl) ?_
  obtain ⟨r2, hc1, h⟩ := ms_bdE h
  refine kX8_byteAt Cx hI hc1 wd_12_3 (Nat.le_of_ble_eq_true rfl) (Nat.le_of_ble_eq_true rfl) hl.1 (Nat.le_of_ble_eq_true rfl) dX8_figureAt_2 (fun H locs hI => ?_)
  refine lv_istore_n (lv' := [(2, .int r2), (0, .ref (a 0)), (1, .int p0)]) hx hb dX8_figureAt_5 rfl hl (by decide) rfl (fun ls hl => ?_)
  refine lv_iload_n hx hb dX8_figureAt_6 rfl (lv_at hl 0 rfl) ?_
  refine lv_bipush (v := 48) hx hb dX8_figureAt_7 rfl ?_
  refine lv_bipush (v := 57) hx hb dX8_figureAt_9 rfl ?_
  obtain ⟨r4, hc3, h⟩ := ms_bdE h
  refine kX8_in Cx hI hc3 (Or.inl wd_10_20) (Nat.le_of_ble_eq_true rfl) (Nat.le_of_ble_eq_true rfl) hl.1 (Nat.le_of_ble_eq_true rfl) dX8_figureAt_11 (fun H locs hI => ?_)
  refine lv_if_eq (tgt := 24) hx hb dX8_figureAt_14 rfl (fun hc => ?_) (fun hc => ?_)
  · have h := ms_ifT hc h
    refine lv_iconst (v := -1) hx hb dX8_figureAt_24 rfl ?_
    exact ms_ri Cx hI (Option.some.inj h) rfl dX8_figureAt_25
  · have h := ms_ifF hc h
    refine lv_iload_n hx hb dX8_figureAt_17 rfl (lv_at hl 0 rfl) ?_
    refine lv_bipush (v := 48) hx hb dX8_figureAt_18 rfl ?_
    refine lv_isub hx hb dX8_figureAt_20 ?_
    refine lv_goto (tgt := 25) hx hb dX8_figureAt_21 rfl ?_
    exact ms_ri Cx hI (Option.some.inj h) rfl dX8_figureAt_25
theorem yvX8_figureAt : ms_YV yX8_figureAt RX8 cX8_figureAt 3 (some .int) 1 := ⟨wd_12_16, wd_12_17, wd_1_5, wd_12_18, rfl, by decide +kernel, by decide +kernel, by decide +kernel⟩
set_option maxHeartbeats 4000000 in
theorem metX8_figureAt (l : Launch) (hDis : ms_Dis a shM.length) {σ : Mm} {p0 : Int32} {out : Int32} (h : fX8_figureAt σ p0 = some out) : Met l yX8_figureAt (.code yX8_figureAt cX8_figureAt 3 (some .int) :: wsL_law) rmX8_figureAt (ms_Pc D cA a shM [.ref (a 0), .int p0] σ) (ms_Qi D cA a shM out σ) 0 0 (ms_A a shM.length) := by
  refine Met.ofW (cc := cX8_figureAt) (maxL := 3) (ret := (some .int)) (by decide) rfl ?_
  intro p e s m args below meth c s₁ B hml hv
  obtain ⟨rfl, hK, hN, hP⟩ := hv
  have hl := lv_entry ([.ref (a 0), .int p0]) (n := 3) (Nat.le_of_ble_eq_true rfl)
  rw [lg_entry_eq]
  generalize (lg_sl ([.ref (a 0), .int p0]) ++ List.replicate (3 - (lg_sl ([.ref (a 0), .int p0])).length) Slot.unset).toArray = ls at hl ⊢
  exact wX8_figureAt ⟨B.exec, B.bytes, hml, findClass_of_methodNamed B.named, fun w hw => atoms_spec (ws := .code yX8_figureAt cX8_figureAt 3 (some .int) :: wsL_law) B.pre w (List.mem_cons_of_mem _ hw), B.returns, B.notSynchronized, hK, hDis, hN⟩ out p0 s.heap [] ls ⟨hP, va_S.rf⟩ hl h
theorem kX8_figureAt (Cx : ms_C p s m args meth c D cA a shM cc nL own ret) {σ : Mm} {H : Heap} {locs : List Loc} (hI : ms_I D cA a shM s σ H locs) {p0 : Int32} {out : Int32} (h : fX8_figureAt σ p0 = some out) (hl : Cond.methodLink own idx yX8_figureAt ∈ wsL_law) (hf : 1 + 1 ≤ R.frames) (hlo : 8 + (3 + 11) + 22 ≤ R.locals) (hsz : ls.size = nL) (hW : (rest.map fun v => v.category).sum ≤ 8) (hd : decode cc pc = .ok (.invokevirtual idx, 3)) (kk : ∀ (H1 : Heap) (locs1 : List Loc), ms_I D cA a shM s σ H1 locs1 → W p l e R s m args below meth c H1 locs1 0 0 Q (F0 m (pc + 3) ls (.int out :: rest))) : W p l e R s m args below meth c H locs 0 0 Q (F0 m pc ls (.int p0 :: .ref (a 0) :: rest)) :=
  ms_ci hI (ms_runV (av := [.int p0]) Cx hI 0 shM_0 (ci := 8) rfl rfl yvX8_figureAt (metX8_figureAt l Cx.2.2.2.2.2.2.2.2.1  h) ⟨rfl, rfl⟩ hl ⟨hf, hlo⟩ rfl hsz rfl hW ⟨Nat.zero_le _, Nat.zero_le _⟩ hd) kk
/-! X8 numberAt (I)I -/
theorem dX8_numberAt_0 : decode cX8_numberAt 0 = .ok (.bipush 10, 2) := by decide +kernel
theorem dX8_numberAt_2 : decode cX8_numberAt 2 = .ok (.aload_n 0, 1) := by decide +kernel
theorem dX8_numberAt_3 : decode cX8_numberAt 3 = .ok (.iload_n 1, 1) := by decide +kernel
theorem dX8_numberAt_4 : decode cX8_numberAt 4 = .ok (.invokevirtual 107, 3) := by decide +kernel
theorem dX8_numberAt_7 : decode cX8_numberAt 7 = .ok (.imul, 1) := by decide +kernel
theorem dX8_numberAt_8 : decode cX8_numberAt 8 = .ok (.aload_n 0, 1) := by decide +kernel
theorem dX8_numberAt_9 : decode cX8_numberAt 9 = .ok (.iload_n 1, 1) := by decide +kernel
theorem dX8_numberAt_10 : decode cX8_numberAt 10 = .ok (.iconst 1, 1) := by decide +kernel
theorem dX8_numberAt_11 : decode cX8_numberAt 11 = .ok (.iadd, 1) := by decide +kernel
theorem dX8_numberAt_12 : decode cX8_numberAt 12 = .ok (.invokevirtual 107, 3) := by decide +kernel
theorem dX8_numberAt_15 : decode cX8_numberAt 15 = .ok (.iadd, 1) := by decide +kernel
theorem dX8_numberAt_16 : decode cX8_numberAt 16 = .ok (.ireturn, 1) := by decide +kernel
abbrev rmX8_numberAt : Room := { frames := 2, cells := 0, slots := 0, locals := 44 }
set_option maxHeartbeats 4000000 in
set_option maxRecDepth 100000 in
theorem wX8_numberAt (Cx : ms_C p s m args meth c D cA a shM cX8_numberAt 2 RX8 (some .int)) (out : Int32) {σ : Mm} : ∀ (p0 : Int32) , ∀ (H : Heap) (locs : List Loc) (ls : Array Slot), ms_I D cA a shM s σ H locs → lv_has ls 2 [(0, .ref (a 0)), (1, .int p0)] → fX8_numberAt σ p0 = some out → W p l e rmX8_numberAt s m args below meth c H locs 0 0 (MQ below (ms_Qi D cA a shM out σ) args s 0 0 (ms_A a shM.length)) (F0 m 0 ls []) := by
  have hx := Cx.1
  have hb := Cx.2.1
  intro p0 H locs ls hI hl h
  unfold fX8_numberAt at h
  refine lv_bipush (v := 10) hx hb dX8_numberAt_0 rfl ?_
  refine lv_aload_n hx hb dX8_numberAt_2 rfl (lv_at hl 0 rfl) ?_
  refine lv_iload_n hx hb dX8_numberAt_3 rfl (lv_at hl 1 rfl) ?_
  obtain ⟨r2, hc1, h⟩ := ms_bdE h
  refine kX8_figureAt Cx hI hc1 wd_12_15 (Nat.le_of_ble_eq_true rfl) (Nat.le_of_ble_eq_true rfl) hl.1 (Nat.le_of_ble_eq_true rfl) dX8_numberAt_4 (fun H locs hI => ?_)
  refine lv_imul hx hb dX8_numberAt_7 ?_
  refine lv_aload_n hx hb dX8_numberAt_8 rfl (lv_at hl 0 rfl) ?_
  refine lv_iload_n hx hb dX8_numberAt_9 rfl (lv_at hl 1 rfl) ?_
  refine lv_iconst (v := 1) hx hb dX8_numberAt_10 rfl ?_
  refine lv_iadd hx hb dX8_numberAt_11 ?_
  obtain ⟨r4, hc3, h⟩ := ms_bdE h
  refine kX8_figureAt Cx hI hc3 wd_12_15 (Nat.le_of_ble_eq_true rfl) (Nat.le_of_ble_eq_true rfl) hl.1 (Nat.le_of_ble_eq_true rfl) dX8_numberAt_12 (fun H locs hI => ?_)
  refine lv_iadd hx hb dX8_numberAt_15 ?_
  exact ms_ri Cx hI (Option.some.inj h) rfl dX8_numberAt_16
theorem yvX8_numberAt : ms_YV yX8_numberAt RX8 cX8_numberAt 2 (some .int) 1 := ⟨wd_12_20, wd_12_21, wd_1_5, wd_12_22, rfl, by decide +kernel, by decide +kernel, by decide +kernel⟩
set_option maxHeartbeats 4000000 in
theorem metX8_numberAt (l : Launch) (hDis : ms_Dis a shM.length) {σ : Mm} {p0 : Int32} {out : Int32} (h : fX8_numberAt σ p0 = some out) : Met l yX8_numberAt (.code yX8_numberAt cX8_numberAt 2 (some .int) :: wsL_law) rmX8_numberAt (ms_Pc D cA a shM [.ref (a 0), .int p0] σ) (ms_Qi D cA a shM out σ) 0 0 (ms_A a shM.length) := by
  refine Met.ofW (cc := cX8_numberAt) (maxL := 2) (ret := (some .int)) (by decide) rfl ?_
  intro p e s m args below meth c s₁ B hml hv
  obtain ⟨rfl, hK, hN, hP⟩ := hv
  have hl := lv_entry ([.ref (a 0), .int p0]) (n := 2) (Nat.le_of_ble_eq_true rfl)
  rw [lg_entry_eq]
  generalize (lg_sl ([.ref (a 0), .int p0]) ++ List.replicate (2 - (lg_sl ([.ref (a 0), .int p0])).length) Slot.unset).toArray = ls at hl ⊢
  exact wX8_numberAt ⟨B.exec, B.bytes, hml, findClass_of_methodNamed B.named, fun w hw => atoms_spec (ws := .code yX8_numberAt cX8_numberAt 2 (some .int) :: wsL_law) B.pre w (List.mem_cons_of_mem _ hw), B.returns, B.notSynchronized, hK, hDis, hN⟩ out p0 s.heap [] ls ⟨hP, va_S.rf⟩ hl h
theorem kX8_numberAt (Cx : ms_C p s m args meth c D cA a shM cc nL own ret) {σ : Mm} {H : Heap} {locs : List Loc} (hI : ms_I D cA a shM s σ H locs) {p0 : Int32} {out : Int32} (h : fX8_numberAt σ p0 = some out) (hl : Cond.methodLink own idx yX8_numberAt ∈ wsL_law) (hf : 2 + 1 ≤ R.frames) (hlo : 8 + (2 + 11) + 44 ≤ R.locals) (hsz : ls.size = nL) (hW : (rest.map fun v => v.category).sum ≤ 8) (hd : decode cc pc = .ok (.invokevirtual idx, 3)) (kk : ∀ (H1 : Heap) (locs1 : List Loc), ms_I D cA a shM s σ H1 locs1 → W p l e R s m args below meth c H1 locs1 0 0 Q (F0 m (pc + 3) ls (.int out :: rest))) : W p l e R s m args below meth c H locs 0 0 Q (F0 m pc ls (.int p0 :: .ref (a 0) :: rest)) :=
  ms_ci hI (ms_runV (av := [.int p0]) Cx hI 0 shM_0 (ci := 8) rfl rfl yvX8_numberAt (metX8_numberAt l Cx.2.2.2.2.2.2.2.2.1  h) ⟨rfl, rfl⟩ hl ⟨hf, hlo⟩ rfl hsz rfl hW ⟨Nat.zero_le _, Nat.zero_le _⟩ hd) kk
/-! X8 wrongAt (III)I -/
theorem dX8_wrongAt_0 : decode cX8_wrongAt 0 = .ok (.aload_n 0, 1) := by decide +kernel
theorem dX8_wrongAt_1 : decode cX8_wrongAt 1 = .ok (.iload_n 1, 1) := by decide +kernel
theorem dX8_wrongAt_2 : decode cX8_wrongAt 2 = .ok (.invokevirtual 107, 3) := by decide +kernel
theorem dX8_wrongAt_5 : decode cX8_wrongAt 5 = .ok (.iconst (-1), 1) := by decide +kernel
theorem dX8_wrongAt_6 : decode cX8_wrongAt 6 = .ok (.if_icmp .ne 7, 3) := by decide +kernel
theorem dX8_wrongAt_9 : decode cX8_wrongAt 9 = .ok (.iload_n 1, 1) := by decide +kernel
theorem dX8_wrongAt_10 : decode cX8_wrongAt 10 = .ok (.goto 38, 3) := by decide +kernel
theorem dX8_wrongAt_13 : decode cX8_wrongAt 13 = .ok (.aload_n 0, 1) := by decide +kernel
theorem dX8_wrongAt_14 : decode cX8_wrongAt 14 = .ok (.iload_n 1, 1) := by decide +kernel
theorem dX8_wrongAt_15 : decode cX8_wrongAt 15 = .ok (.iconst 1, 1) := by decide +kernel
theorem dX8_wrongAt_16 : decode cX8_wrongAt 16 = .ok (.iadd, 1) := by decide +kernel
theorem dX8_wrongAt_17 : decode cX8_wrongAt 17 = .ok (.invokevirtual 107, 3) := by decide +kernel
theorem dX8_wrongAt_20 : decode cX8_wrongAt 20 = .ok (.iconst (-1), 1) := by decide +kernel
theorem dX8_wrongAt_21 : decode cX8_wrongAt 21 = .ok (.if_icmp .ne 9, 3) := by decide +kernel
theorem dX8_wrongAt_24 : decode cX8_wrongAt 24 = .ok (.iload_n 1, 1) := by decide +kernel
theorem dX8_wrongAt_25 : decode cX8_wrongAt 25 = .ok (.iconst 1, 1) := by decide +kernel
theorem dX8_wrongAt_26 : decode cX8_wrongAt 26 = .ok (.iadd, 1) := by decide +kernel
theorem dX8_wrongAt_27 : decode cX8_wrongAt 27 = .ok (.goto 21, 3) := by decide +kernel
theorem dX8_wrongAt_30 : decode cX8_wrongAt 30 = .ok (.aload_n 0, 1) := by decide +kernel
theorem dX8_wrongAt_31 : decode cX8_wrongAt 31 = .ok (.iload_n 1, 1) := by decide +kernel
theorem dX8_wrongAt_32 : decode cX8_wrongAt 32 = .ok (.invokevirtual 110, 3) := by decide +kernel
theorem dX8_wrongAt_35 : decode cX8_wrongAt 35 = .ok (.iload_n 2, 1) := by decide +kernel
theorem dX8_wrongAt_36 : decode cX8_wrongAt 36 = .ok (.iload_n 3, 1) := by decide +kernel
theorem dX8_wrongAt_37 : decode cX8_wrongAt 37 = .ok (.invokestatic 95, 3) := by decide +kernel
theorem dX8_wrongAt_40 : decode cX8_wrongAt 40 = .ok (.ifCond .eq 7, 3) := by decide +kernel
theorem dX8_wrongAt_43 : decode cX8_wrongAt 43 = .ok (.iconst (-1), 1) := by decide +kernel
theorem dX8_wrongAt_44 : decode cX8_wrongAt 44 = .ok (.goto 4, 3) := by decide +kernel
theorem dX8_wrongAt_47 : decode cX8_wrongAt 47 = .ok (.iload_n 1, 1) := by decide +kernel
theorem dX8_wrongAt_48 : decode cX8_wrongAt 48 = .ok (.ireturn, 1) := by decide +kernel
abbrev rmX8_wrongAt : Room := { frames := 3, cells := 0, slots := 0, locals := 65 }
set_option maxHeartbeats 4000000 in
set_option maxRecDepth 100000 in
theorem wX8_wrongAt (Cx : ms_C p s m args meth c D cA a shM cX8_wrongAt 4 RX8 (some .int)) (out : Int32) {σ : Mm} : ∀ (p0 : Int32) (p1 : Int32) (p2 : Int32) , ∀ (H : Heap) (locs : List Loc) (ls : Array Slot), ms_I D cA a shM s σ H locs → lv_has ls 4 [(0, .ref (a 0)), (1, .int p0), (2, .int p1), (3, .int p2)] → fX8_wrongAt σ p0 p1 p2 = some out → W p l e rmX8_wrongAt s m args below meth c H locs 0 0 (MQ below (ms_Qi D cA a shM out σ) args s 0 0 (ms_A a shM.length)) (F0 m 0 ls []) := by
  have hx := Cx.1
  have hb := Cx.2.1
  intro p0 p1 p2 H locs ls hI hl h
  unfold fX8_wrongAt at h
  refine lv_aload_n hx hb dX8_wrongAt_0 rfl (lv_at hl 0 rfl) ?_
  refine lv_iload_n hx hb dX8_wrongAt_1 rfl (lv_at hl 1 rfl) ?_
  obtain ⟨r2, hc1, h⟩ := ms_bdE h
  refine kX8_figureAt Cx hI hc1 wd_12_15 (Nat.le_of_ble_eq_true rfl) (Nat.le_of_ble_eq_true rfl) hl.1 (Nat.le_of_ble_eq_true rfl) dX8_wrongAt_2 (fun H locs hI => ?_)
  refine lv_iconst (v := -1) hx hb dX8_wrongAt_5 rfl ?_
  refine lv_icmp_ne (tgt := 13) hx hb dX8_wrongAt_6 rfl (fun hc => ?_) (fun hc => ?_)
  · have h := ms_ifF hc h
    refine lv_aload_n hx hb dX8_wrongAt_13 rfl (lv_at hl 0 rfl) ?_
    refine lv_iload_n hx hb dX8_wrongAt_14 rfl (lv_at hl 1 rfl) ?_
    refine lv_iconst (v := 1) hx hb dX8_wrongAt_15 rfl ?_
    refine lv_iadd hx hb dX8_wrongAt_16 ?_
    obtain ⟨r4, hc3, h⟩ := ms_bdE h
    refine kX8_figureAt Cx hI hc3 wd_12_15 (Nat.le_of_ble_eq_true rfl) (Nat.le_of_ble_eq_true rfl) hl.1 (Nat.le_of_ble_eq_true rfl) dX8_wrongAt_17 (fun H locs hI => ?_)
    refine lv_iconst (v := -1) hx hb dX8_wrongAt_20 rfl ?_
    refine lv_icmp_ne (tgt := 30) hx hb dX8_wrongAt_21 rfl (fun hc => ?_) (fun hc => ?_)
    · have h := ms_ifF hc h
      refine lv_aload_n hx hb dX8_wrongAt_30 rfl (lv_at hl 0 rfl) ?_
      refine lv_iload_n hx hb dX8_wrongAt_31 rfl (lv_at hl 1 rfl) ?_
      obtain ⟨r6, hc5, h⟩ := ms_bdE h
      refine kX8_numberAt Cx hI hc5 wd_12_19 (Nat.le_of_ble_eq_true rfl) (Nat.le_of_ble_eq_true rfl) hl.1 (Nat.le_of_ble_eq_true rfl) dX8_wrongAt_32 (fun H locs hI => ?_)
      refine lv_iload_n hx hb dX8_wrongAt_35 rfl (lv_at hl 2 rfl) ?_
      refine lv_iload_n hx hb dX8_wrongAt_36 rfl (lv_at hl 3 rfl) ?_
      obtain ⟨r8, hc7, h⟩ := ms_bdE h
      refine kX8_in Cx hI hc7 (Or.inl wd_10_20) (Nat.le_of_ble_eq_true rfl) (Nat.le_of_ble_eq_true rfl) hl.1 (Nat.le_of_ble_eq_true rfl) dX8_wrongAt_37 (fun H locs hI => ?_)
      refine lv_if_eq (tgt := 47) hx hb dX8_wrongAt_40 rfl (fun hc => ?_) (fun hc => ?_)
      · have h := ms_ifT hc h
        refine lv_iload_n hx hb dX8_wrongAt_47 rfl (lv_at hl 1 rfl) ?_
        exact ms_ri Cx hI (Option.some.inj h) rfl dX8_wrongAt_48
      · have h := ms_ifF hc h
        refine lv_iconst (v := -1) hx hb dX8_wrongAt_43 rfl ?_
        refine lv_goto (tgt := 48) hx hb dX8_wrongAt_44 rfl ?_
        exact ms_ri Cx hI (Option.some.inj h) rfl dX8_wrongAt_48
    · have h := ms_ifT hc h
      refine lv_iload_n hx hb dX8_wrongAt_24 rfl (lv_at hl 1 rfl) ?_
      refine lv_iconst (v := 1) hx hb dX8_wrongAt_25 rfl ?_
      refine lv_iadd hx hb dX8_wrongAt_26 ?_
      refine lv_goto (tgt := 48) hx hb dX8_wrongAt_27 rfl ?_
      exact ms_ri Cx hI (Option.some.inj h) rfl dX8_wrongAt_48
  · have h := ms_ifT hc h
    refine lv_iload_n hx hb dX8_wrongAt_9 rfl (lv_at hl 1 rfl) ?_
    refine lv_goto (tgt := 48) hx hb dX8_wrongAt_10 rfl ?_
    exact ms_ri Cx hI (Option.some.inj h) rfl dX8_wrongAt_48
theorem yvX8_wrongAt : ms_YV yX8_wrongAt RX8 cX8_wrongAt 4 (some .int) 3 := ⟨wd_12_12, wd_12_13, wd_1_5, wd_12_14, rfl, by decide +kernel, by decide +kernel, by decide +kernel⟩
set_option maxHeartbeats 4000000 in
theorem metX8_wrongAt (l : Launch) (hDis : ms_Dis a shM.length) {σ : Mm} {p0 : Int32} {p1 : Int32} {p2 : Int32} {out : Int32} (h : fX8_wrongAt σ p0 p1 p2 = some out) : Met l yX8_wrongAt (.code yX8_wrongAt cX8_wrongAt 4 (some .int) :: wsL_law) rmX8_wrongAt (ms_Pc D cA a shM [.ref (a 0), .int p0, .int p1, .int p2] σ) (ms_Qi D cA a shM out σ) 0 0 (ms_A a shM.length) := by
  refine Met.ofW (cc := cX8_wrongAt) (maxL := 4) (ret := (some .int)) (by decide) rfl ?_
  intro p e s m args below meth c s₁ B hml hv
  obtain ⟨rfl, hK, hN, hP⟩ := hv
  have hl := lv_entry ([.ref (a 0), .int p0, .int p1, .int p2]) (n := 4) (Nat.le_of_ble_eq_true rfl)
  rw [lg_entry_eq]
  generalize (lg_sl ([.ref (a 0), .int p0, .int p1, .int p2]) ++ List.replicate (4 - (lg_sl ([.ref (a 0), .int p0, .int p1, .int p2])).length) Slot.unset).toArray = ls at hl ⊢
  exact wX8_wrongAt ⟨B.exec, B.bytes, hml, findClass_of_methodNamed B.named, fun w hw => atoms_spec (ws := .code yX8_wrongAt cX8_wrongAt 4 (some .int) :: wsL_law) B.pre w (List.mem_cons_of_mem _ hw), B.returns, B.notSynchronized, hK, hDis, hN⟩ out p0 p1 p2 s.heap [] ls ⟨hP, va_S.rf⟩ hl h
theorem kX8_wrongAt (Cx : ms_C p s m args meth c D cA a shM cc nL own ret) {σ : Mm} {H : Heap} {locs : List Loc} (hI : ms_I D cA a shM s σ H locs) {p0 : Int32} {p1 : Int32} {p2 : Int32} {out : Int32} (h : fX8_wrongAt σ p0 p1 p2 = some out) (hl : Cond.methodLink own idx yX8_wrongAt ∈ wsL_law) (hf : 3 + 1 ≤ R.frames) (hlo : 8 + (4 + 11) + 65 ≤ R.locals) (hsz : ls.size = nL) (hW : (rest.map fun v => v.category).sum ≤ 8) (hd : decode cc pc = .ok (.invokevirtual idx, 3)) (kk : ∀ (H1 : Heap) (locs1 : List Loc), ms_I D cA a shM s σ H1 locs1 → W p l e R s m args below meth c H1 locs1 0 0 Q (F0 m (pc + 3) ls (.int out :: rest))) : W p l e R s m args below meth c H locs 0 0 Q (F0 m pc ls (.int p2 :: .int p1 :: .int p0 :: .ref (a 0) :: rest)) :=
  ms_ci hI (ms_runV (av := [.int p0, .int p1, .int p2]) Cx hI 0 shM_0 (ci := 8) rfl rfl yvX8_wrongAt (metX8_wrongAt l Cx.2.2.2.2.2.2.2.2.1  h) ⟨rfl, rfl⟩ hl ⟨hf, hlo⟩ rfl hsz rfl hW ⟨Nat.zero_le _, Nat.zero_le _⟩ hd) kk
/-! X8 wrongThing (I)I -/
theorem dX8_wrongThing_0 : decode cX8_wrongThing 0 = .ok (.aload_n 0, 1) := by decide +kernel
theorem dX8_wrongThing_1 : decode cX8_wrongThing 1 = .ok (.iload_n 1, 1) := by decide +kernel
theorem dX8_wrongThing_2 : decode cX8_wrongThing 2 = .ok (.iconst 1, 1) := by decide +kernel
theorem dX8_wrongThing_3 : decode cX8_wrongThing 3 = .ok (.bipush 40, 2) := by decide +kernel
theorem dX8_wrongThing_5 : decode cX8_wrongThing 5 = .ok (.invokevirtual 113, 3) := by decide +kernel
theorem dX8_wrongThing_8 : decode cX8_wrongThing 8 = .ok (.istore_n 2, 1) := by decide +kernel
theorem dX8_wrongThing_9 : decode cX8_wrongThing 9 = .ok (.aload_n 0, 1) := by decide +kernel
theorem dX8_wrongThing_10 : decode cX8_wrongThing 10 = .ok (.iload_n 1, 1) := by decide +kernel
theorem dX8_wrongThing_11 : decode cX8_wrongThing 11 = .ok (.iconst 2, 1) := by decide +kernel
theorem dX8_wrongThing_12 : decode cX8_wrongThing 12 = .ok (.iadd, 1) := by decide +kernel
theorem dX8_wrongThing_13 : decode cX8_wrongThing 13 = .ok (.iconst 0, 1) := by decide +kernel
theorem dX8_wrongThing_14 : decode cX8_wrongThing 14 = .ok (.bipush 23, 2) := by decide +kernel
theorem dX8_wrongThing_16 : decode cX8_wrongThing 16 = .ok (.invokevirtual 113, 3) := by decide +kernel
theorem dX8_wrongThing_19 : decode cX8_wrongThing 19 = .ok (.istore_n 3, 1) := by decide +kernel
theorem dX8_wrongThing_20 : decode cX8_wrongThing 20 = .ok (.iload_n 2, 1) := by decide +kernel
theorem dX8_wrongThing_21 : decode cX8_wrongThing 21 = .ok (.iconst (-1), 1) := by decide +kernel
theorem dX8_wrongThing_22 : decode cX8_wrongThing 22 = .ok (.if_icmp .eq 7, 3) := by decide +kernel
theorem dX8_wrongThing_25 : decode cX8_wrongThing 25 = .ok (.iload_n 2, 1) := by decide +kernel
theorem dX8_wrongThing_26 : decode cX8_wrongThing 26 = .ok (.goto 22, 3) := by decide +kernel
theorem dX8_wrongThing_29 : decode cX8_wrongThing 29 = .ok (.iload_n 3, 1) := by decide +kernel
theorem dX8_wrongThing_30 : decode cX8_wrongThing 30 = .ok (.iconst (-1), 1) := by decide +kernel
theorem dX8_wrongThing_31 : decode cX8_wrongThing 31 = .ok (.if_icmp .eq 7, 3) := by decide +kernel
theorem dX8_wrongThing_34 : decode cX8_wrongThing 34 = .ok (.iload_n 3, 1) := by decide +kernel
theorem dX8_wrongThing_35 : decode cX8_wrongThing 35 = .ok (.goto 13, 3) := by decide +kernel
theorem dX8_wrongThing_38 : decode cX8_wrongThing 38 = .ok (.aload_n 0, 1) := by decide +kernel
theorem dX8_wrongThing_39 : decode cX8_wrongThing 39 = .ok (.iload_n 1, 1) := by decide +kernel
theorem dX8_wrongThing_40 : decode cX8_wrongThing 40 = .ok (.iconst 4, 1) := by decide +kernel
theorem dX8_wrongThing_41 : decode cX8_wrongThing 41 = .ok (.iadd, 1) := by decide +kernel
theorem dX8_wrongThing_42 : decode cX8_wrongThing 42 = .ok (.iconst 1, 1) := by decide +kernel
theorem dX8_wrongThing_43 : decode cX8_wrongThing 43 = .ok (.bipush 24, 2) := by decide +kernel
theorem dX8_wrongThing_45 : decode cX8_wrongThing 45 = .ok (.invokevirtual 113, 3) := by decide +kernel
theorem dX8_wrongThing_48 : decode cX8_wrongThing 48 = .ok (.ireturn, 1) := by decide +kernel
abbrev rmX8_wrongThing : Room := { frames := 4, cells := 0, slots := 0, locals := 88 }
set_option maxHeartbeats 4000000 in
set_option maxRecDepth 100000 in
theorem wX8_wrongThing (Cx : ms_C p s m args meth c D cA a shM cX8_wrongThing 4 RX8 (some .int)) (out : Int32) {σ : Mm} : ∀ (p0 : Int32) , ∀ (H : Heap) (locs : List Loc) (ls : Array Slot), ms_I D cA a shM s σ H locs → lv_has ls 4 [(0, .ref (a 0)), (1, .int p0)] → fX8_wrongThing σ p0 = some out → W p l e rmX8_wrongThing s m args below meth c H locs 0 0 (MQ below (ms_Qi D cA a shM out σ) args s 0 0 (ms_A a shM.length)) (F0 m 0 ls []) := by
  have hx := Cx.1
  have hb := Cx.2.1
  intro p0 H locs ls hI hl h
  unfold fX8_wrongThing at h
  refine lv_aload_n hx hb dX8_wrongThing_0 rfl (lv_at hl 0 rfl) ?_
  refine lv_iload_n hx hb dX8_wrongThing_1 rfl (lv_at hl 1 rfl) ?_
  refine lv_iconst (v := 1) hx hb dX8_wrongThing_2 rfl ?_
  refine lv_bipush (v := 40) hx hb dX8_wrongThing_3 rfl ?_
  obtain ⟨r2, hc1, h⟩ := ms_bdE h
  refine kX8_wrongAt Cx hI hc1 wd_12_11 (Nat.le_of_ble_eq_true rfl) (Nat.le_of_ble_eq_true rfl) hl.1 (Nat.le_of_ble_eq_true rfl) dX8_wrongThing_5 (fun H locs hI => ?_)
  refine lv_istore_n (lv' := [(2, .int r2), (0, .ref (a 0)), (1, .int p0)]) hx hb dX8_wrongThing_8 rfl hl (by decide) rfl (fun ls hl => ?_)
  refine lv_aload_n hx hb dX8_wrongThing_9 rfl (lv_at hl 1 rfl) ?_
  refine lv_iload_n hx hb dX8_wrongThing_10 rfl (lv_at hl 2 rfl) ?_
  refine lv_iconst (v := 2) hx hb dX8_wrongThing_11 rfl ?_
  refine lv_iadd hx hb dX8_wrongThing_12 ?_
  refine lv_iconst (v := 0) hx hb dX8_wrongThing_13 rfl ?_
  refine lv_bipush (v := 23) hx hb dX8_wrongThing_14 rfl ?_
  obtain ⟨r4, hc3, h⟩ := ms_bdE h
  refine kX8_wrongAt Cx hI hc3 wd_12_11 (Nat.le_of_ble_eq_true rfl) (Nat.le_of_ble_eq_true rfl) hl.1 (Nat.le_of_ble_eq_true rfl) dX8_wrongThing_16 (fun H locs hI => ?_)
  refine lv_istore_n (lv' := [(3, .int r4), (2, .int r2), (0, .ref (a 0)), (1, .int p0)]) hx hb dX8_wrongThing_19 rfl hl (by decide) rfl (fun ls hl => ?_)
  refine lv_iload_n hx hb dX8_wrongThing_20 rfl (lv_at hl 1 rfl) ?_
  refine lv_iconst (v := -1) hx hb dX8_wrongThing_21 rfl ?_
  refine lv_icmp_eq (tgt := 29) hx hb dX8_wrongThing_22 rfl (fun hc => ?_) (fun hc => ?_)
  · have h := ms_ifT hc h
    refine lv_iload_n hx hb dX8_wrongThing_29 rfl (lv_at hl 0 rfl) ?_
    refine lv_iconst (v := -1) hx hb dX8_wrongThing_30 rfl ?_
    refine lv_icmp_eq (tgt := 38) hx hb dX8_wrongThing_31 rfl (fun hc => ?_) (fun hc => ?_)
    · have h := ms_ifT hc h
      refine lv_aload_n hx hb dX8_wrongThing_38 rfl (lv_at hl 2 rfl) ?_
      refine lv_iload_n hx hb dX8_wrongThing_39 rfl (lv_at hl 3 rfl) ?_
      refine lv_iconst (v := 4) hx hb dX8_wrongThing_40 rfl ?_
      refine lv_iadd hx hb dX8_wrongThing_41 ?_
      refine lv_iconst (v := 1) hx hb dX8_wrongThing_42 rfl ?_
      refine lv_bipush (v := 24) hx hb dX8_wrongThing_43 rfl ?_
      obtain ⟨r6, hc5, h⟩ := ms_bdE h
      refine kX8_wrongAt Cx hI hc5 wd_12_11 (Nat.le_of_ble_eq_true rfl) (Nat.le_of_ble_eq_true rfl) hl.1 (Nat.le_of_ble_eq_true rfl) dX8_wrongThing_45 (fun H locs hI => ?_)
      exact ms_ri Cx hI (Option.some.inj h) rfl dX8_wrongThing_48
    · have h := ms_ifF hc h
      refine lv_iload_n hx hb dX8_wrongThing_34 rfl (lv_at hl 0 rfl) ?_
      refine lv_goto (tgt := 48) hx hb dX8_wrongThing_35 rfl ?_
      exact ms_ri Cx hI (Option.some.inj h) rfl dX8_wrongThing_48
  · have h := ms_ifF hc h
    refine lv_iload_n hx hb dX8_wrongThing_25 rfl (lv_at hl 1 rfl) ?_
    refine lv_goto (tgt := 48) hx hb dX8_wrongThing_26 rfl ?_
    exact ms_ri Cx hI (Option.some.inj h) rfl dX8_wrongThing_48
theorem yvX8_wrongThing : ms_YV yX8_wrongThing RX8 cX8_wrongThing 4 (some .int) 1 := ⟨wd_12_8, wd_12_9, wd_1_5, wd_12_10, rfl, by decide +kernel, by decide +kernel, by decide +kernel⟩
set_option maxHeartbeats 4000000 in
theorem metX8_wrongThing (l : Launch) (hDis : ms_Dis a shM.length) {σ : Mm} {p0 : Int32} {out : Int32} (h : fX8_wrongThing σ p0 = some out) : Met l yX8_wrongThing (.code yX8_wrongThing cX8_wrongThing 4 (some .int) :: wsL_law) rmX8_wrongThing (ms_Pc D cA a shM [.ref (a 0), .int p0] σ) (ms_Qi D cA a shM out σ) 0 0 (ms_A a shM.length) := by
  refine Met.ofW (cc := cX8_wrongThing) (maxL := 4) (ret := (some .int)) (by decide) rfl ?_
  intro p e s m args below meth c s₁ B hml hv
  obtain ⟨rfl, hK, hN, hP⟩ := hv
  have hl := lv_entry ([.ref (a 0), .int p0]) (n := 4) (Nat.le_of_ble_eq_true rfl)
  rw [lg_entry_eq]
  generalize (lg_sl ([.ref (a 0), .int p0]) ++ List.replicate (4 - (lg_sl ([.ref (a 0), .int p0])).length) Slot.unset).toArray = ls at hl ⊢
  exact wX8_wrongThing ⟨B.exec, B.bytes, hml, findClass_of_methodNamed B.named, fun w hw => atoms_spec (ws := .code yX8_wrongThing cX8_wrongThing 4 (some .int) :: wsL_law) B.pre w (List.mem_cons_of_mem _ hw), B.returns, B.notSynchronized, hK, hDis, hN⟩ out p0 s.heap [] ls ⟨hP, va_S.rf⟩ hl h
theorem kX8_wrongThing (Cx : ms_C p s m args meth c D cA a shM cc nL own ret) {σ : Mm} {H : Heap} {locs : List Loc} (hI : ms_I D cA a shM s σ H locs) {p0 : Int32} {out : Int32} (h : fX8_wrongThing σ p0 = some out) (hl : Cond.methodLink own idx yX8_wrongThing ∈ wsL_law) (hf : 4 + 1 ≤ R.frames) (hlo : 8 + (4 + 11) + 88 ≤ R.locals) (hsz : ls.size = nL) (hW : (rest.map fun v => v.category).sum ≤ 8) (hd : decode cc pc = .ok (.invokevirtual idx, 3)) (kk : ∀ (H1 : Heap) (locs1 : List Loc), ms_I D cA a shM s σ H1 locs1 → W p l e R s m args below meth c H1 locs1 0 0 Q (F0 m (pc + 3) ls (.int out :: rest))) : W p l e R s m args below meth c H locs 0 0 Q (F0 m pc ls (.int p0 :: .ref (a 0) :: rest)) :=
  ms_ci hI (ms_runV (av := [.int p0]) Cx hI 0 shM_0 (ci := 8) rfl rfl yvX8_wrongThing (metX8_wrongThing l Cx.2.2.2.2.2.2.2.2.1  h) ⟨rfl, rfl⟩ hl ⟨hf, hlo⟩ rfl hsz rfl hW ⟨Nat.zero_le _, Nat.zero_le _⟩ hd) kk
/-! X8 wrongGroup (I)I -/
theorem dX8_wrongGroup_0 : decode cX8_wrongGroup 0 = .ok (.aload_n 0, 1) := by decide +kernel
theorem dX8_wrongGroup_1 : decode cX8_wrongGroup 1 = .ok (.iload_n 1, 1) := by decide +kernel
theorem dX8_wrongGroup_2 : decode cX8_wrongGroup 2 = .ok (.iconst 1, 1) := by decide +kernel
theorem dX8_wrongGroup_3 : decode cX8_wrongGroup 3 = .ok (.bipush 99, 2) := by decide +kernel
theorem dX8_wrongGroup_5 : decode cX8_wrongGroup 5 = .ok (.invokevirtual 113, 3) := by decide +kernel
theorem dX8_wrongGroup_8 : decode cX8_wrongGroup 8 = .ok (.istore_n 2, 1) := by decide +kernel
theorem dX8_wrongGroup_9 : decode cX8_wrongGroup 9 = .ok (.aload_n 0, 1) := by decide +kernel
theorem dX8_wrongGroup_10 : decode cX8_wrongGroup 10 = .ok (.iload_n 1, 1) := by decide +kernel
theorem dX8_wrongGroup_11 : decode cX8_wrongGroup 11 = .ok (.iconst 2, 1) := by decide +kernel
theorem dX8_wrongGroup_12 : decode cX8_wrongGroup 12 = .ok (.iadd, 1) := by decide +kernel
theorem dX8_wrongGroup_13 : decode cX8_wrongGroup 13 = .ok (.iconst 0, 1) := by decide +kernel
theorem dX8_wrongGroup_14 : decode cX8_wrongGroup 14 = .ok (.bipush 23, 2) := by decide +kernel
theorem dX8_wrongGroup_16 : decode cX8_wrongGroup 16 = .ok (.invokevirtual 113, 3) := by decide +kernel
theorem dX8_wrongGroup_19 : decode cX8_wrongGroup 19 = .ok (.istore_n 3, 1) := by decide +kernel
theorem dX8_wrongGroup_20 : decode cX8_wrongGroup 20 = .ok (.iload_n 2, 1) := by decide +kernel
theorem dX8_wrongGroup_21 : decode cX8_wrongGroup 21 = .ok (.iconst (-1), 1) := by decide +kernel
theorem dX8_wrongGroup_22 : decode cX8_wrongGroup 22 = .ok (.if_icmp .ne 8, 3) := by decide +kernel
theorem dX8_wrongGroup_25 : decode cX8_wrongGroup 25 = .ok (.iload_n 3, 1) := by decide +kernel
theorem dX8_wrongGroup_26 : decode cX8_wrongGroup 26 = .ok (.iconst (-1), 1) := by decide +kernel
theorem dX8_wrongGroup_27 : decode cX8_wrongGroup 27 = .ok (.if_icmp .eq 14, 3) := by decide +kernel
theorem dX8_wrongGroup_30 : decode cX8_wrongGroup 30 = .ok (.iload_n 2, 1) := by decide +kernel
theorem dX8_wrongGroup_31 : decode cX8_wrongGroup 31 = .ok (.iconst (-1), 1) := by decide +kernel
theorem dX8_wrongGroup_32 : decode cX8_wrongGroup 32 = .ok (.if_icmp .eq 7, 3) := by decide +kernel
theorem dX8_wrongGroup_35 : decode cX8_wrongGroup 35 = .ok (.iload_n 2, 1) := by decide +kernel
theorem dX8_wrongGroup_36 : decode cX8_wrongGroup 36 = .ok (.goto 4, 3) := by decide +kernel
theorem dX8_wrongGroup_39 : decode cX8_wrongGroup 39 = .ok (.iload_n 3, 1) := by decide +kernel
theorem dX8_wrongGroup_40 : decode cX8_wrongGroup 40 = .ok (.ireturn, 1) := by decide +kernel
theorem dX8_wrongGroup_41 : decode cX8_wrongGroup 41 = .ok (.aload_n 0, 1) := by decide +kernel
theorem dX8_wrongGroup_42 : decode cX8_wrongGroup 42 = .ok (.iload_n 1, 1) := by decide +kernel
theorem dX8_wrongGroup_43 : decode cX8_wrongGroup 43 = .ok (.iconst 4, 1) := by decide +kernel
theorem dX8_wrongGroup_44 : decode cX8_wrongGroup 44 = .ok (.iadd, 1) := by decide +kernel
theorem dX8_wrongGroup_45 : decode cX8_wrongGroup 45 = .ok (.invokevirtual 107, 3) := by decide +kernel
theorem dX8_wrongGroup_48 : decode cX8_wrongGroup 48 = .ok (.iconst 0, 1) := by decide +kernel
theorem dX8_wrongGroup_49 : decode cX8_wrongGroup 49 = .ok (.bipush 8, 2) := by decide +kernel
theorem dX8_wrongGroup_51 : decode cX8_wrongGroup 51 = .ok (.invokestatic 95, 3) := by decide +kernel
theorem dX8_wrongGroup_54 : decode cX8_wrongGroup 54 = .ok (.ifCond .ne 7, 3) := by decide +kernel
theorem dX8_wrongGroup_57 : decode cX8_wrongGroup 57 = .ok (.iload_n 1, 1) := by decide +kernel
theorem dX8_wrongGroup_58 : decode cX8_wrongGroup 58 = .ok (.iconst 4, 1) := by decide +kernel
theorem dX8_wrongGroup_59 : decode cX8_wrongGroup 59 = .ok (.iadd, 1) := by decide +kernel
theorem dX8_wrongGroup_60 : decode cX8_wrongGroup 60 = .ok (.ireturn, 1) := by decide +kernel
theorem dX8_wrongGroup_61 : decode cX8_wrongGroup 61 = .ok (.aload_n 0, 1) := by decide +kernel
theorem dX8_wrongGroup_62 : decode cX8_wrongGroup 62 = .ok (.iload_n 1, 1) := by decide +kernel
theorem dX8_wrongGroup_63 : decode cX8_wrongGroup 63 = .ok (.iconst 5, 1) := by decide +kernel
theorem dX8_wrongGroup_64 : decode cX8_wrongGroup 64 = .ok (.iadd, 1) := by decide +kernel
theorem dX8_wrongGroup_65 : decode cX8_wrongGroup 65 = .ok (.invokevirtual 107, 3) := by decide +kernel
theorem dX8_wrongGroup_68 : decode cX8_wrongGroup 68 = .ok (.iconst 0, 1) := by decide +kernel
theorem dX8_wrongGroup_69 : decode cX8_wrongGroup 69 = .ok (.bipush 8, 2) := by decide +kernel
theorem dX8_wrongGroup_71 : decode cX8_wrongGroup 71 = .ok (.invokestatic 95, 3) := by decide +kernel
theorem dX8_wrongGroup_74 : decode cX8_wrongGroup 74 = .ok (.ifCond .eq 20, 3) := by decide +kernel
theorem dX8_wrongGroup_77 : decode cX8_wrongGroup 77 = .ok (.aload_n 0, 1) := by decide +kernel
theorem dX8_wrongGroup_78 : decode cX8_wrongGroup 78 = .ok (.iload_n 1, 1) := by decide +kernel
theorem dX8_wrongGroup_79 : decode cX8_wrongGroup 79 = .ok (.iconst 5, 1) := by decide +kernel
theorem dX8_wrongGroup_80 : decode cX8_wrongGroup 80 = .ok (.iadd, 1) := by decide +kernel
theorem dX8_wrongGroup_81 : decode cX8_wrongGroup 81 = .ok (.invokevirtual 107, 3) := by decide +kernel
theorem dX8_wrongGroup_84 : decode cX8_wrongGroup 84 = .ok (.aload_n 0, 1) := by decide +kernel
theorem dX8_wrongGroup_85 : decode cX8_wrongGroup 85 = .ok (.iload_n 1, 1) := by decide +kernel
theorem dX8_wrongGroup_86 : decode cX8_wrongGroup 86 = .ok (.iconst 4, 1) := by decide +kernel
theorem dX8_wrongGroup_87 : decode cX8_wrongGroup 87 = .ok (.iadd, 1) := by decide +kernel
theorem dX8_wrongGroup_88 : decode cX8_wrongGroup 88 = .ok (.invokevirtual 107, 3) := by decide +kernel
theorem dX8_wrongGroup_91 : decode cX8_wrongGroup 91 = .ok (.if_icmp .ne 7, 3) := by decide +kernel
theorem dX8_wrongGroup_94 : decode cX8_wrongGroup 94 = .ok (.iload_n 1, 1) := by decide +kernel
theorem dX8_wrongGroup_95 : decode cX8_wrongGroup 95 = .ok (.iconst 5, 1) := by decide +kernel
theorem dX8_wrongGroup_96 : decode cX8_wrongGroup 96 = .ok (.iadd, 1) := by decide +kernel
theorem dX8_wrongGroup_97 : decode cX8_wrongGroup 97 = .ok (.ireturn, 1) := by decide +kernel
theorem dX8_wrongGroup_98 : decode cX8_wrongGroup 98 = .ok (.aload_n 0, 1) := by decide +kernel
theorem dX8_wrongGroup_99 : decode cX8_wrongGroup 99 = .ok (.iload_n 1, 1) := by decide +kernel
theorem dX8_wrongGroup_100 : decode cX8_wrongGroup 100 = .ok (.bipush 6, 2) := by decide +kernel
theorem dX8_wrongGroup_102 : decode cX8_wrongGroup 102 = .ok (.iadd, 1) := by decide +kernel
theorem dX8_wrongGroup_103 : decode cX8_wrongGroup 103 = .ok (.invokevirtual 107, 3) := by decide +kernel
theorem dX8_wrongGroup_106 : decode cX8_wrongGroup 106 = .ok (.iconst (-1), 1) := by decide +kernel
theorem dX8_wrongGroup_107 : decode cX8_wrongGroup 107 = .ok (.if_icmp .ne 10, 3) := by decide +kernel
theorem dX8_wrongGroup_110 : decode cX8_wrongGroup 110 = .ok (.iload_n 1, 1) := by decide +kernel
theorem dX8_wrongGroup_111 : decode cX8_wrongGroup 111 = .ok (.bipush 6, 2) := by decide +kernel
theorem dX8_wrongGroup_113 : decode cX8_wrongGroup 113 = .ok (.iadd, 1) := by decide +kernel
theorem dX8_wrongGroup_114 : decode cX8_wrongGroup 114 = .ok (.goto 23, 3) := by decide +kernel
theorem dX8_wrongGroup_117 : decode cX8_wrongGroup 117 = .ok (.aload_n 0, 1) := by decide +kernel
theorem dX8_wrongGroup_118 : decode cX8_wrongGroup 118 = .ok (.iload_n 1, 1) := by decide +kernel
theorem dX8_wrongGroup_119 : decode cX8_wrongGroup 119 = .ok (.bipush 7, 2) := by decide +kernel
theorem dX8_wrongGroup_121 : decode cX8_wrongGroup 121 = .ok (.iadd, 1) := by decide +kernel
theorem dX8_wrongGroup_122 : decode cX8_wrongGroup 122 = .ok (.invokevirtual 107, 3) := by decide +kernel
theorem dX8_wrongGroup_125 : decode cX8_wrongGroup 125 = .ok (.iconst (-1), 1) := by decide +kernel
theorem dX8_wrongGroup_126 : decode cX8_wrongGroup 126 = .ok (.if_icmp .ne 10, 3) := by decide +kernel
theorem dX8_wrongGroup_129 : decode cX8_wrongGroup 129 = .ok (.iload_n 1, 1) := by decide +kernel
theorem dX8_wrongGroup_130 : decode cX8_wrongGroup 130 = .ok (.bipush 7, 2) := by decide +kernel
theorem dX8_wrongGroup_132 : decode cX8_wrongGroup 132 = .ok (.iadd, 1) := by decide +kernel
theorem dX8_wrongGroup_133 : decode cX8_wrongGroup 133 = .ok (.goto 4, 3) := by decide +kernel
theorem dX8_wrongGroup_136 : decode cX8_wrongGroup 136 = .ok (.iconst (-1), 1) := by decide +kernel
theorem dX8_wrongGroup_137 : decode cX8_wrongGroup 137 = .ok (.ireturn, 1) := by decide +kernel
abbrev rmX8_wrongGroup : Room := { frames := 4, cells := 0, slots := 0, locals := 88 }
set_option maxHeartbeats 4000000 in
set_option maxRecDepth 100000 in
theorem wX8_wrongGroup_30 (Cx : ms_C p s m args meth c D cA a shM cX8_wrongGroup 4 RX8 (some .int)) (out : Int32) {σ : Mm} : ∀ (y1 : Int32) (y2 : Int32) , ∀ (H : Heap) (locs : List Loc) (ls : Array Slot), ms_I D cA a shM s σ H locs → lv_has ls 4 [(2, .int y1), (3, .int y2)] → fX8_wrongGroup_30 σ y1 y2 = some out → W p l e rmX8_wrongGroup s m args below meth c H locs 0 0 (MQ below (ms_Qi D cA a shM out σ) args s 0 0 (ms_A a shM.length)) (F0 m 30 ls []) := by
  have hx := Cx.1
  have hb := Cx.2.1
  intro y1 y2 H locs ls hI hl h
  unfold fX8_wrongGroup_30 at h
  refine lv_iload_n hx hb dX8_wrongGroup_30 rfl (lv_at hl 0 rfl) ?_
  refine lv_iconst (v := -1) hx hb dX8_wrongGroup_31 rfl ?_
  refine lv_icmp_eq (tgt := 39) hx hb dX8_wrongGroup_32 rfl (fun hc => ?_) (fun hc => ?_)
  · have h := ms_ifT hc h
    refine lv_iload_n hx hb dX8_wrongGroup_39 rfl (lv_at hl 1 rfl) ?_
    exact ms_ri Cx hI (Option.some.inj h) rfl dX8_wrongGroup_40
  · have h := ms_ifF hc h
    refine lv_iload_n hx hb dX8_wrongGroup_35 rfl (lv_at hl 0 rfl) ?_
    refine lv_goto (tgt := 40) hx hb dX8_wrongGroup_36 rfl ?_
    exact ms_ri Cx hI (Option.some.inj h) rfl dX8_wrongGroup_40
set_option maxHeartbeats 4000000 in
set_option maxRecDepth 100000 in
theorem wX8_wrongGroup (Cx : ms_C p s m args meth c D cA a shM cX8_wrongGroup 4 RX8 (some .int)) (out : Int32) {σ : Mm} : ∀ (p0 : Int32) , ∀ (H : Heap) (locs : List Loc) (ls : Array Slot), ms_I D cA a shM s σ H locs → lv_has ls 4 [(0, .ref (a 0)), (1, .int p0)] → fX8_wrongGroup σ p0 = some out → W p l e rmX8_wrongGroup s m args below meth c H locs 0 0 (MQ below (ms_Qi D cA a shM out σ) args s 0 0 (ms_A a shM.length)) (F0 m 0 ls []) := by
  have hx := Cx.1
  have hb := Cx.2.1
  intro p0 H locs ls hI hl h
  unfold fX8_wrongGroup at h
  refine lv_aload_n hx hb dX8_wrongGroup_0 rfl (lv_at hl 0 rfl) ?_
  refine lv_iload_n hx hb dX8_wrongGroup_1 rfl (lv_at hl 1 rfl) ?_
  refine lv_iconst (v := 1) hx hb dX8_wrongGroup_2 rfl ?_
  refine lv_bipush (v := 99) hx hb dX8_wrongGroup_3 rfl ?_
  obtain ⟨r2, hc1, h⟩ := ms_bdE h
  refine kX8_wrongAt Cx hI hc1 wd_12_11 (Nat.le_of_ble_eq_true rfl) (Nat.le_of_ble_eq_true rfl) hl.1 (Nat.le_of_ble_eq_true rfl) dX8_wrongGroup_5 (fun H locs hI => ?_)
  refine lv_istore_n (lv' := [(2, .int r2), (0, .ref (a 0)), (1, .int p0)]) hx hb dX8_wrongGroup_8 rfl hl (by decide) rfl (fun ls hl => ?_)
  refine lv_aload_n hx hb dX8_wrongGroup_9 rfl (lv_at hl 1 rfl) ?_
  refine lv_iload_n hx hb dX8_wrongGroup_10 rfl (lv_at hl 2 rfl) ?_
  refine lv_iconst (v := 2) hx hb dX8_wrongGroup_11 rfl ?_
  refine lv_iadd hx hb dX8_wrongGroup_12 ?_
  refine lv_iconst (v := 0) hx hb dX8_wrongGroup_13 rfl ?_
  refine lv_bipush (v := 23) hx hb dX8_wrongGroup_14 rfl ?_
  obtain ⟨r4, hc3, h⟩ := ms_bdE h
  refine kX8_wrongAt Cx hI hc3 wd_12_11 (Nat.le_of_ble_eq_true rfl) (Nat.le_of_ble_eq_true rfl) hl.1 (Nat.le_of_ble_eq_true rfl) dX8_wrongGroup_16 (fun H locs hI => ?_)
  refine lv_istore_n (lv' := [(3, .int r4), (2, .int r2), (0, .ref (a 0)), (1, .int p0)]) hx hb dX8_wrongGroup_19 rfl hl (by decide) rfl (fun ls hl => ?_)
  refine lv_iload_n hx hb dX8_wrongGroup_20 rfl (lv_at hl 1 rfl) ?_
  refine lv_iconst (v := -1) hx hb dX8_wrongGroup_21 rfl ?_
  refine lv_icmp_ne (tgt := 30) hx hb dX8_wrongGroup_22 rfl (fun hc => ?_) (fun hc => ?_)
  · have h := ms_ifF hc h
    exact wX8_wrongGroup_30 Cx out  r2 r4 _ _ _ hI (lv_sub hl [1, 0] rfl) h
  · have h := ms_ifT hc h
    refine lv_iload_n hx hb dX8_wrongGroup_25 rfl (lv_at hl 0 rfl) ?_
    refine lv_iconst (v := -1) hx hb dX8_wrongGroup_26 rfl ?_
    refine lv_icmp_eq (tgt := 41) hx hb dX8_wrongGroup_27 rfl (fun hc => ?_) (fun hc => ?_)
    · have h := ms_ifT hc h
      refine lv_aload_n hx hb dX8_wrongGroup_41 rfl (lv_at hl 2 rfl) ?_
      refine lv_iload_n hx hb dX8_wrongGroup_42 rfl (lv_at hl 3 rfl) ?_
      refine lv_iconst (v := 4) hx hb dX8_wrongGroup_43 rfl ?_
      refine lv_iadd hx hb dX8_wrongGroup_44 ?_
      obtain ⟨r6, hc5, h⟩ := ms_bdE h
      refine kX8_figureAt Cx hI hc5 wd_12_15 (Nat.le_of_ble_eq_true rfl) (Nat.le_of_ble_eq_true rfl) hl.1 (Nat.le_of_ble_eq_true rfl) dX8_wrongGroup_45 (fun H locs hI => ?_)
      refine lv_iconst (v := 0) hx hb dX8_wrongGroup_48 rfl ?_
      refine lv_bipush (v := 8) hx hb dX8_wrongGroup_49 rfl ?_
      obtain ⟨r8, hc7, h⟩ := ms_bdE h
      refine kX8_in Cx hI hc7 (Or.inl wd_10_20) (Nat.le_of_ble_eq_true rfl) (Nat.le_of_ble_eq_true rfl) hl.1 (Nat.le_of_ble_eq_true rfl) dX8_wrongGroup_51 (fun H locs hI => ?_)
      refine lv_if_ne (tgt := 61) hx hb dX8_wrongGroup_54 rfl (fun hc => ?_) (fun hc => ?_)
      · have h := ms_ifF hc h
        refine lv_aload_n hx hb dX8_wrongGroup_61 rfl (lv_at hl 2 rfl) ?_
        refine lv_iload_n hx hb dX8_wrongGroup_62 rfl (lv_at hl 3 rfl) ?_
        refine lv_iconst (v := 5) hx hb dX8_wrongGroup_63 rfl ?_
        refine lv_iadd hx hb dX8_wrongGroup_64 ?_
        obtain ⟨r10, hc9, h⟩ := ms_bdE h
        refine kX8_figureAt Cx hI hc9 wd_12_15 (Nat.le_of_ble_eq_true rfl) (Nat.le_of_ble_eq_true rfl) hl.1 (Nat.le_of_ble_eq_true rfl) dX8_wrongGroup_65 (fun H locs hI => ?_)
        refine lv_iconst (v := 0) hx hb dX8_wrongGroup_68 rfl ?_
        refine lv_bipush (v := 8) hx hb dX8_wrongGroup_69 rfl ?_
        obtain ⟨r12, hc11, h⟩ := ms_bdE h
        refine kX8_in Cx hI hc11 (Or.inl wd_10_20) (Nat.le_of_ble_eq_true rfl) (Nat.le_of_ble_eq_true rfl) hl.1 (Nat.le_of_ble_eq_true rfl) dX8_wrongGroup_71 (fun H locs hI => ?_)
        refine lv_if_eq (tgt := 94) hx hb dX8_wrongGroup_74 rfl (fun hc => ?_) (fun hc => ?_)
        · have h := ms_ifT hc h
          refine lv_iload_n hx hb dX8_wrongGroup_94 rfl (lv_at hl 3 rfl) ?_
          refine lv_iconst (v := 5) hx hb dX8_wrongGroup_95 rfl ?_
          refine lv_iadd hx hb dX8_wrongGroup_96 ?_
          exact ms_ri Cx hI (Option.some.inj h) rfl dX8_wrongGroup_97
        · have h := ms_ifF hc h
          refine lv_aload_n hx hb dX8_wrongGroup_77 rfl (lv_at hl 2 rfl) ?_
          refine lv_iload_n hx hb dX8_wrongGroup_78 rfl (lv_at hl 3 rfl) ?_
          refine lv_iconst (v := 5) hx hb dX8_wrongGroup_79 rfl ?_
          refine lv_iadd hx hb dX8_wrongGroup_80 ?_
          obtain ⟨r14, hc13, h⟩ := ms_bdE h
          refine kX8_figureAt Cx hI hc13 wd_12_15 (Nat.le_of_ble_eq_true rfl) (Nat.le_of_ble_eq_true rfl) hl.1 (Nat.le_of_ble_eq_true rfl) dX8_wrongGroup_81 (fun H locs hI => ?_)
          refine lv_aload_n hx hb dX8_wrongGroup_84 rfl (lv_at hl 2 rfl) ?_
          refine lv_iload_n hx hb dX8_wrongGroup_85 rfl (lv_at hl 3 rfl) ?_
          refine lv_iconst (v := 4) hx hb dX8_wrongGroup_86 rfl ?_
          refine lv_iadd hx hb dX8_wrongGroup_87 ?_
          obtain ⟨r16, hc15, h⟩ := ms_bdE h
          refine kX8_figureAt Cx hI hc15 wd_12_15 (Nat.le_of_ble_eq_true rfl) (Nat.le_of_ble_eq_true rfl) hl.1 (Nat.le_of_ble_eq_true rfl) dX8_wrongGroup_88 (fun H locs hI => ?_)
          refine lv_icmp_ne (tgt := 98) hx hb dX8_wrongGroup_91 rfl (fun hc => ?_) (fun hc => ?_)
          · have h := ms_ifF hc h
            refine lv_aload_n hx hb dX8_wrongGroup_98 rfl (lv_at hl 2 rfl) ?_
            refine lv_iload_n hx hb dX8_wrongGroup_99 rfl (lv_at hl 3 rfl) ?_
            refine lv_bipush (v := 6) hx hb dX8_wrongGroup_100 rfl ?_
            refine lv_iadd hx hb dX8_wrongGroup_102 ?_
            obtain ⟨r18, hc17, h⟩ := ms_bdE h
            refine kX8_figureAt Cx hI hc17 wd_12_15 (Nat.le_of_ble_eq_true rfl) (Nat.le_of_ble_eq_true rfl) hl.1 (Nat.le_of_ble_eq_true rfl) dX8_wrongGroup_103 (fun H locs hI => ?_)
            refine lv_iconst (v := -1) hx hb dX8_wrongGroup_106 rfl ?_
            refine lv_icmp_ne (tgt := 117) hx hb dX8_wrongGroup_107 rfl (fun hc => ?_) (fun hc => ?_)
            · have h := ms_ifF hc h
              refine lv_aload_n hx hb dX8_wrongGroup_117 rfl (lv_at hl 2 rfl) ?_
              refine lv_iload_n hx hb dX8_wrongGroup_118 rfl (lv_at hl 3 rfl) ?_
              refine lv_bipush (v := 7) hx hb dX8_wrongGroup_119 rfl ?_
              refine lv_iadd hx hb dX8_wrongGroup_121 ?_
              obtain ⟨r20, hc19, h⟩ := ms_bdE h
              refine kX8_figureAt Cx hI hc19 wd_12_15 (Nat.le_of_ble_eq_true rfl) (Nat.le_of_ble_eq_true rfl) hl.1 (Nat.le_of_ble_eq_true rfl) dX8_wrongGroup_122 (fun H locs hI => ?_)
              refine lv_iconst (v := -1) hx hb dX8_wrongGroup_125 rfl ?_
              refine lv_icmp_ne (tgt := 136) hx hb dX8_wrongGroup_126 rfl (fun hc => ?_) (fun hc => ?_)
              · have h := ms_ifF hc h
                refine lv_iconst (v := -1) hx hb dX8_wrongGroup_136 rfl ?_
                exact ms_ri Cx hI (Option.some.inj h) rfl dX8_wrongGroup_137
              · have h := ms_ifT hc h
                refine lv_iload_n hx hb dX8_wrongGroup_129 rfl (lv_at hl 3 rfl) ?_
                refine lv_bipush (v := 7) hx hb dX8_wrongGroup_130 rfl ?_
                refine lv_iadd hx hb dX8_wrongGroup_132 ?_
                refine lv_goto (tgt := 137) hx hb dX8_wrongGroup_133 rfl ?_
                exact ms_ri Cx hI (Option.some.inj h) rfl dX8_wrongGroup_137
            · have h := ms_ifT hc h
              refine lv_iload_n hx hb dX8_wrongGroup_110 rfl (lv_at hl 3 rfl) ?_
              refine lv_bipush (v := 6) hx hb dX8_wrongGroup_111 rfl ?_
              refine lv_iadd hx hb dX8_wrongGroup_113 ?_
              refine lv_goto (tgt := 137) hx hb dX8_wrongGroup_114 rfl ?_
              exact ms_ri Cx hI (Option.some.inj h) rfl dX8_wrongGroup_137
          · have h := ms_ifT hc h
            refine lv_iload_n hx hb dX8_wrongGroup_94 rfl (lv_at hl 3 rfl) ?_
            refine lv_iconst (v := 5) hx hb dX8_wrongGroup_95 rfl ?_
            refine lv_iadd hx hb dX8_wrongGroup_96 ?_
            exact ms_ri Cx hI (Option.some.inj h) rfl dX8_wrongGroup_97
      · have h := ms_ifT hc h
        refine lv_iload_n hx hb dX8_wrongGroup_57 rfl (lv_at hl 3 rfl) ?_
        refine lv_iconst (v := 4) hx hb dX8_wrongGroup_58 rfl ?_
        refine lv_iadd hx hb dX8_wrongGroup_59 ?_
        exact ms_ri Cx hI (Option.some.inj h) rfl dX8_wrongGroup_60
    · have h := ms_ifF hc h
      exact wX8_wrongGroup_30 Cx out  r2 r4 _ _ _ hI (lv_sub hl [1, 0] rfl) h
theorem yvX8_wrongGroup : ms_YV yX8_wrongGroup RX8 cX8_wrongGroup 4 (some .int) 1 := ⟨wd_13_3, wd_13_4, wd_1_5, wd_13_5, rfl, by decide +kernel, by decide +kernel, by decide +kernel⟩
set_option maxHeartbeats 4000000 in
theorem metX8_wrongGroup (l : Launch) (hDis : ms_Dis a shM.length) {σ : Mm} {p0 : Int32} {out : Int32} (h : fX8_wrongGroup σ p0 = some out) : Met l yX8_wrongGroup (.code yX8_wrongGroup cX8_wrongGroup 4 (some .int) :: wsL_law) rmX8_wrongGroup (ms_Pc D cA a shM [.ref (a 0), .int p0] σ) (ms_Qi D cA a shM out σ) 0 0 (ms_A a shM.length) := by
  refine Met.ofW (cc := cX8_wrongGroup) (maxL := 4) (ret := (some .int)) (by decide) rfl ?_
  intro p e s m args below meth c s₁ B hml hv
  obtain ⟨rfl, hK, hN, hP⟩ := hv
  have hl := lv_entry ([.ref (a 0), .int p0]) (n := 4) (Nat.le_of_ble_eq_true rfl)
  rw [lg_entry_eq]
  generalize (lg_sl ([.ref (a 0), .int p0]) ++ List.replicate (4 - (lg_sl ([.ref (a 0), .int p0])).length) Slot.unset).toArray = ls at hl ⊢
  exact wX8_wrongGroup ⟨B.exec, B.bytes, hml, findClass_of_methodNamed B.named, fun w hw => atoms_spec (ws := .code yX8_wrongGroup cX8_wrongGroup 4 (some .int) :: wsL_law) B.pre w (List.mem_cons_of_mem _ hw), B.returns, B.notSynchronized, hK, hDis, hN⟩ out p0 s.heap [] ls ⟨hP, va_S.rf⟩ hl h
theorem kX8_wrongGroup (Cx : ms_C p s m args meth c D cA a shM cc nL own ret) {σ : Mm} {H : Heap} {locs : List Loc} (hI : ms_I D cA a shM s σ H locs) {p0 : Int32} {out : Int32} (h : fX8_wrongGroup σ p0 = some out) (hl : Cond.methodLink own idx yX8_wrongGroup ∈ wsL_law) (hf : 4 + 1 ≤ R.frames) (hlo : 8 + (4 + 11) + 88 ≤ R.locals) (hsz : ls.size = nL) (hW : (rest.map fun v => v.category).sum ≤ 8) (hd : decode cc pc = .ok (.invokevirtual idx, 3)) (kk : ∀ (H1 : Heap) (locs1 : List Loc), ms_I D cA a shM s σ H1 locs1 → W p l e R s m args below meth c H1 locs1 0 0 Q (F0 m (pc + 3) ls (.int out :: rest))) : W p l e R s m args below meth c H locs 0 0 Q (F0 m pc ls (.int p0 :: .ref (a 0) :: rest)) :=
  ms_ci hI (ms_runV (av := [.int p0]) Cx hI 0 shM_0 (ci := 8) rfl rfl yvX8_wrongGroup (metX8_wrongGroup l Cx.2.2.2.2.2.2.2.2.1  h) ⟨rfl, rfl⟩ hl ⟨hf, hlo⟩ rfl hsz rfl hW ⟨Nat.zero_le _, Nat.zero_le _⟩ hd) kk
/-! X8 reads ()I -/
theorem dX8_reads_0 : decode cX8_reads 0 = .ok (.aload_n 0, 1) := by decide +kernel
theorem dX8_reads_1 : decode cX8_reads 1 = .ok (.iconst 0, 1) := by decide +kernel
theorem dX8_reads_2 : decode cX8_reads 2 = .ok (.putfield 117, 3) := by decide +kernel
theorem dX8_reads_5 : decode cX8_reads 5 = .ok (.aload_n 0, 1) := by decide +kernel
theorem dX8_reads_6 : decode cX8_reads 6 = .ok (.iconst 0, 1) := by decide +kernel
theorem dX8_reads_7 : decode cX8_reads 7 = .ok (.putfield 120, 3) := by decide +kernel
theorem dX8_reads_10 : decode cX8_reads 10 = .ok (.aload_n 0, 1) := by decide +kernel
theorem dX8_reads_11 : decode cX8_reads 11 = .ok (.iconst 0, 1) := by decide +kernel
theorem dX8_reads_12 : decode cX8_reads 12 = .ok (.putfield 123, 3) := by decide +kernel
theorem dX8_reads_15 : decode cX8_reads 15 = .ok (.iconst 0, 1) := by decide +kernel
theorem dX8_reads_16 : decode cX8_reads 16 = .ok (.istore_n 1, 1) := by decide +kernel
theorem dX8_reads_17 : decode cX8_reads 17 = .ok (.iload_n 1, 1) := by decide +kernel
theorem dX8_reads_18 : decode cX8_reads 18 = .ok (.aload_n 0, 1) := by decide +kernel
theorem dX8_reads_19 : decode cX8_reads 19 = .ok (.getfield 99, 3) := by decide +kernel
theorem dX8_reads_22 : decode cX8_reads 22 = .ok (.if_icmp .lt 7, 3) := by decide +kernel
theorem dX8_reads_25 : decode cX8_reads 25 = .ok (.iload_n 1, 1) := by decide +kernel
theorem dX8_reads_26 : decode cX8_reads 26 = .ok (.ifCond .le 395, 3) := by decide +kernel
theorem dX8_reads_29 : decode cX8_reads 29 = .ok (.aload_n 0, 1) := by decide +kernel
theorem dX8_reads_30 : decode cX8_reads 30 = .ok (.iload_n 1, 1) := by decide +kernel
theorem dX8_reads_31 : decode cX8_reads 31 = .ok (.invokevirtual 103, 3) := by decide +kernel
theorem dX8_reads_34 : decode cX8_reads 34 = .ok (.istore_n 2, 1) := by decide +kernel
theorem dX8_reads_35 : decode cX8_reads 35 = .ok (.iconst (-1), 1) := by decide +kernel
theorem dX8_reads_36 : decode cX8_reads 36 = .ok (.istore_n 3, 1) := by decide +kernel
theorem dX8_reads_37 : decode cX8_reads 37 = .ok (.iload_n 2, 1) := by decide +kernel
theorem dX8_reads_38 : decode cX8_reads 38 = .ok (.bipush 116, 2) := by decide +kernel
theorem dX8_reads_40 : decode cX8_reads 40 = .ok (.if_icmp .ne 135, 3) := by decide +kernel
theorem dX8_reads_43 : decode cX8_reads 43 = .ok (.aload_n 0, 1) := by decide +kernel
theorem dX8_reads_44 : decode cX8_reads 44 = .ok (.getfield 117, 3) := by decide +kernel
theorem dX8_reads_47 : decode cX8_reads 47 = .ok (.bipush 6, 2) := by decide +kernel
theorem dX8_reads_49 : decode cX8_reads 49 = .ok (.if_icmp .ge 126, 3) := by decide +kernel
theorem dX8_reads_52 : decode cX8_reads 52 = .ok (.aload_n 0, 1) := by decide +kernel
theorem dX8_reads_53 : decode cX8_reads 53 = .ok (.iload_n 1, 1) := by decide +kernel
theorem dX8_reads_54 : decode cX8_reads 54 = .ok (.iconst 1, 1) := by decide +kernel
theorem dX8_reads_55 : decode cX8_reads 55 = .ok (.iadd, 1) := by decide +kernel
theorem dX8_reads_56 : decode cX8_reads 56 = .ok (.invokevirtual 126, 3) := by decide +kernel
theorem dX8_reads_59 : decode cX8_reads 59 = .ok (.istore_n 3, 1) := by decide +kernel
theorem dX8_reads_60 : decode cX8_reads 60 = .ok (.aload_n 0, 1) := by decide +kernel
theorem dX8_reads_61 : decode cX8_reads 61 = .ok (.getfield 16, 3) := by decide +kernel
theorem dX8_reads_64 : decode cX8_reads 64 = .ok (.aload_n 0, 1) := by decide +kernel
theorem dX8_reads_65 : decode cX8_reads 65 = .ok (.getfield 117, 3) := by decide +kernel
theorem dX8_reads_68 : decode cX8_reads 68 = .ok (.aload_n 0, 1) := by decide +kernel
theorem dX8_reads_69 : decode cX8_reads 69 = .ok (.iload_n 1, 1) := by decide +kernel
theorem dX8_reads_70 : decode cX8_reads 70 = .ok (.iconst 1, 1) := by decide +kernel
theorem dX8_reads_71 : decode cX8_reads 71 = .ok (.iadd, 1) := by decide +kernel
theorem dX8_reads_72 : decode cX8_reads 72 = .ok (.invokevirtual 110, 3) := by decide +kernel
theorem dX8_reads_75 : decode cX8_reads 75 = .ok (.iastore, 1) := by decide +kernel
theorem dX8_reads_76 : decode cX8_reads 76 = .ok (.aload_n 0, 1) := by decide +kernel
theorem dX8_reads_77 : decode cX8_reads 77 = .ok (.getfield 19, 3) := by decide +kernel
theorem dX8_reads_80 : decode cX8_reads 80 = .ok (.aload_n 0, 1) := by decide +kernel
theorem dX8_reads_81 : decode cX8_reads 81 = .ok (.getfield 117, 3) := by decide +kernel
theorem dX8_reads_84 : decode cX8_reads 84 = .ok (.aload_n 0, 1) := by decide +kernel
theorem dX8_reads_85 : decode cX8_reads 85 = .ok (.iload_n 1, 1) := by decide +kernel
theorem dX8_reads_86 : decode cX8_reads 86 = .ok (.iconst 3, 1) := by decide +kernel
theorem dX8_reads_87 : decode cX8_reads 87 = .ok (.iadd, 1) := by decide +kernel
theorem dX8_reads_88 : decode cX8_reads 88 = .ok (.invokevirtual 110, 3) := by decide +kernel
theorem dX8_reads_91 : decode cX8_reads 91 = .ok (.iastore, 1) := by decide +kernel
theorem dX8_reads_92 : decode cX8_reads 92 = .ok (.aload_n 0, 1) := by decide +kernel
theorem dX8_reads_93 : decode cX8_reads 93 = .ok (.getfield 22, 3) := by decide +kernel
theorem dX8_reads_96 : decode cX8_reads 96 = .ok (.aload_n 0, 1) := by decide +kernel
theorem dX8_reads_97 : decode cX8_reads 97 = .ok (.getfield 117, 3) := by decide +kernel
theorem dX8_reads_100 : decode cX8_reads 100 = .ok (.aload_n 0, 1) := by decide +kernel
theorem dX8_reads_101 : decode cX8_reads 101 = .ok (.iload_n 1, 1) := by decide +kernel
theorem dX8_reads_102 : decode cX8_reads 102 = .ok (.iconst 5, 1) := by decide +kernel
theorem dX8_reads_103 : decode cX8_reads 103 = .ok (.iadd, 1) := by decide +kernel
theorem dX8_reads_104 : decode cX8_reads 104 = .ok (.invokevirtual 110, 3) := by decide +kernel
theorem dX8_reads_107 : decode cX8_reads 107 = .ok (.iastore, 1) := by decide +kernel
theorem dX8_reads_108 : decode cX8_reads 108 = .ok (.aload_n 0, 1) := by decide +kernel
theorem dX8_reads_109 : decode cX8_reads 109 = .ok (.iload_n 1, 1) := by decide +kernel
theorem dX8_reads_110 : decode cX8_reads 110 = .ok (.bipush 7, 2) := by decide +kernel
theorem dX8_reads_112 : decode cX8_reads 112 = .ok (.iadd, 1) := by decide +kernel
theorem dX8_reads_113 : decode cX8_reads 113 = .ok (.invokevirtual 103, 3) := by decide +kernel
theorem dX8_reads_116 : decode cX8_reads 116 = .ok (.bipush 33, 2) := by decide +kernel
theorem dX8_reads_118 : decode cX8_reads 118 = .ok (.if_icmp .ne 7, 3) := by decide +kernel
theorem dX8_reads_121 : decode cX8_reads 121 = .ok (.iconst 1, 1) := by decide +kernel
theorem dX8_reads_122 : decode cX8_reads 122 = .ok (.goto 4, 3) := by decide +kernel
theorem dX8_reads_125 : decode cX8_reads 125 = .ok (.iconst 0, 1) := by decide +kernel
theorem dX8_reads_126 : decode cX8_reads 126 = .ok (.istore 4, 2) := by decide +kernel
theorem dX8_reads_128 : decode cX8_reads 128 = .ok (.aload_n 0, 1) := by decide +kernel
theorem dX8_reads_129 : decode cX8_reads 129 = .ok (.getfield 25, 3) := by decide +kernel
theorem dX8_reads_132 : decode cX8_reads 132 = .ok (.aload_n 0, 1) := by decide +kernel
theorem dX8_reads_133 : decode cX8_reads 133 = .ok (.getfield 117, 3) := by decide +kernel
theorem dX8_reads_136 : decode cX8_reads 136 = .ok (.iload 4, 2) := by decide +kernel
theorem dX8_reads_138 : decode cX8_reads 138 = .ok (.ifCond .eq 7, 3) := by decide +kernel
theorem dX8_reads_141 : decode cX8_reads 141 = .ok (.iconst 1, 1) := by decide +kernel
theorem dX8_reads_142 : decode cX8_reads 142 = .ok (.goto 4, 3) := by decide +kernel
theorem dX8_reads_145 : decode cX8_reads 145 = .ok (.iconst 0, 1) := by decide +kernel
theorem dX8_reads_146 : decode cX8_reads 146 = .ok (.iastore, 1) := by decide +kernel
theorem dX8_reads_147 : decode cX8_reads 147 = .ok (.aload_n 0, 1) := by decide +kernel
theorem dX8_reads_148 : decode cX8_reads 148 = .ok (.dup, 1) := by decide +kernel
theorem dX8_reads_149 : decode cX8_reads 149 = .ok (.getfield 117, 3) := by decide +kernel
theorem dX8_reads_152 : decode cX8_reads 152 = .ok (.iconst 1, 1) := by decide +kernel
theorem dX8_reads_153 : decode cX8_reads 153 = .ok (.iadd, 1) := by decide +kernel
theorem dX8_reads_154 : decode cX8_reads 154 = .ok (.putfield 117, 3) := by decide +kernel
theorem dX8_reads_157 : decode cX8_reads 157 = .ok (.iload_n 1, 1) := by decide +kernel
theorem dX8_reads_158 : decode cX8_reads 158 = .ok (.iload 4, 2) := by decide +kernel
theorem dX8_reads_160 : decode cX8_reads 160 = .ok (.ifCond .eq 8, 3) := by decide +kernel
theorem dX8_reads_163 : decode cX8_reads 163 = .ok (.bipush 8, 2) := by decide +kernel
theorem dX8_reads_165 : decode cX8_reads 165 = .ok (.goto 5, 3) := by decide +kernel
theorem dX8_reads_168 : decode cX8_reads 168 = .ok (.bipush 7, 2) := by decide +kernel
theorem dX8_reads_170 : decode cX8_reads 170 = .ok (.iadd, 1) := by decide +kernel
theorem dX8_reads_171 : decode cX8_reads 171 = .ok (.istore_n 1, 1) := by decide +kernel
theorem dX8_reads_172 : decode cX8_reads 172 = .ok (.goto 214, 3) := by decide +kernel
theorem dX8_reads_175 : decode cX8_reads 175 = .ok (.iload_n 2, 1) := by decide +kernel
theorem dX8_reads_176 : decode cX8_reads 176 = .ok (.bipush 104, 2) := by decide +kernel
theorem dX8_reads_178 : decode cX8_reads 178 = .ok (.if_icmp .ne 71, 3) := by decide +kernel
theorem dX8_reads_181 : decode cX8_reads 181 = .ok (.aload_n 0, 1) := by decide +kernel
theorem dX8_reads_182 : decode cX8_reads 182 = .ok (.iload_n 1, 1) := by decide +kernel
theorem dX8_reads_183 : decode cX8_reads 183 = .ok (.iconst 1, 1) := by decide +kernel
theorem dX8_reads_184 : decode cX8_reads 184 = .ok (.iadd, 1) := by decide +kernel
theorem dX8_reads_185 : decode cX8_reads 185 = .ok (.invokevirtual 107, 3) := by decide +kernel
theorem dX8_reads_188 : decode cX8_reads 188 = .ok (.istore 4, 2) := by decide +kernel
theorem dX8_reads_190 : decode cX8_reads 190 = .ok (.iload 4, 2) := by decide +kernel
theorem dX8_reads_192 : decode cX8_reads 192 = .ok (.iconst 0, 1) := by decide +kernel
theorem dX8_reads_193 : decode cX8_reads 193 = .ok (.bipush 8, 2) := by decide +kernel
theorem dX8_reads_195 : decode cX8_reads 195 = .ok (.invokestatic 95, 3) := by decide +kernel
theorem dX8_reads_198 : decode cX8_reads 198 = .ok (.ifCond .eq 15, 3) := by decide +kernel
theorem dX8_reads_201 : decode cX8_reads 201 = .ok (.aload_n 0, 1) := by decide +kernel
theorem dX8_reads_202 : decode cX8_reads 202 = .ok (.getfield 120, 3) := by decide +kernel
theorem dX8_reads_205 : decode cX8_reads 205 = .ok (.iload 4, 2) := by decide +kernel
theorem dX8_reads_207 : decode cX8_reads 207 = .ok (.invokestatic 129, 3) := by decide +kernel
theorem dX8_reads_210 : decode cX8_reads 210 = .ok (.ifCond .eq 9, 3) := by decide +kernel
theorem dX8_reads_213 : decode cX8_reads 213 = .ok (.iload_n 1, 1) := by decide +kernel
theorem dX8_reads_214 : decode cX8_reads 214 = .ok (.iconst 1, 1) := by decide +kernel
theorem dX8_reads_215 : decode cX8_reads 215 = .ok (.iadd, 1) := by decide +kernel
theorem dX8_reads_216 : decode cX8_reads 216 = .ok (.goto 4, 3) := by decide +kernel
theorem dX8_reads_219 : decode cX8_reads 219 = .ok (.iconst (-1), 1) := by decide +kernel
theorem dX8_reads_220 : decode cX8_reads 220 = .ok (.istore_n 3, 1) := by decide +kernel
theorem dX8_reads_221 : decode cX8_reads 221 = .ok (.aload_n 0, 1) := by decide +kernel
theorem dX8_reads_222 : decode cX8_reads 222 = .ok (.dup, 1) := by decide +kernel
theorem dX8_reads_223 : decode cX8_reads 223 = .ok (.getfield 120, 3) := by decide +kernel
theorem dX8_reads_226 : decode cX8_reads 226 = .ok (.iload_n 3, 1) := by decide +kernel
theorem dX8_reads_227 : decode cX8_reads 227 = .ok (.iconst (-1), 1) := by decide +kernel
theorem dX8_reads_228 : decode cX8_reads 228 = .ok (.if_icmp .ne 10, 3) := by decide +kernel
theorem dX8_reads_231 : decode cX8_reads 231 = .ok (.iconst 1, 1) := by decide +kernel
theorem dX8_reads_232 : decode cX8_reads 232 = .ok (.iload 4, 2) := by decide +kernel
theorem dX8_reads_234 : decode cX8_reads 234 = .ok (.ishl, 1) := by decide +kernel
theorem dX8_reads_235 : decode cX8_reads 235 = .ok (.goto 4, 3) := by decide +kernel
theorem dX8_reads_238 : decode cX8_reads 238 = .ok (.iconst 0, 1) := by decide +kernel
theorem dX8_reads_239 : decode cX8_reads 239 = .ok (.ior, 1) := by decide +kernel
theorem dX8_reads_240 : decode cX8_reads 240 = .ok (.putfield 120, 3) := by decide +kernel
theorem dX8_reads_243 : decode cX8_reads 243 = .ok (.iinc 1 2, 3) := by decide +kernel
theorem dX8_reads_246 : decode cX8_reads 246 = .ok (.goto 140, 3) := by decide +kernel
theorem dX8_reads_249 : decode cX8_reads 249 = .ok (.iload_n 2, 1) := by decide +kernel
theorem dX8_reads_250 : decode cX8_reads 250 = .ok (.bipush 103, 2) := by decide +kernel
theorem dX8_reads_252 : decode cX8_reads 252 = .ok (.if_icmp .ne 132, 3) := by decide +kernel
theorem dX8_reads_255 : decode cX8_reads 255 = .ok (.aload_n 0, 1) := by decide +kernel
theorem dX8_reads_256 : decode cX8_reads 256 = .ok (.getfield 123, 3) := by decide +kernel
theorem dX8_reads_259 : decode cX8_reads 259 = .ok (.bipush 8, 2) := by decide +kernel
theorem dX8_reads_261 : decode cX8_reads 261 = .ok (.if_icmp .ge 123, 3) := by decide +kernel
theorem dX8_reads_264 : decode cX8_reads 264 = .ok (.aload_n 0, 1) := by decide +kernel
theorem dX8_reads_265 : decode cX8_reads 265 = .ok (.iload_n 1, 1) := by decide +kernel
theorem dX8_reads_266 : decode cX8_reads 266 = .ok (.iconst 1, 1) := by decide +kernel
theorem dX8_reads_267 : decode cX8_reads 267 = .ok (.iadd, 1) := by decide +kernel
theorem dX8_reads_268 : decode cX8_reads 268 = .ok (.invokevirtual 133, 3) := by decide +kernel
theorem dX8_reads_271 : decode cX8_reads 271 = .ok (.istore_n 3, 1) := by decide +kernel
theorem dX8_reads_272 : decode cX8_reads 272 = .ok (.aload_n 0, 1) := by decide +kernel
theorem dX8_reads_273 : decode cX8_reads 273 = .ok (.getfield 34, 3) := by decide +kernel
theorem dX8_reads_276 : decode cX8_reads 276 = .ok (.aload_n 0, 1) := by decide +kernel
theorem dX8_reads_277 : decode cX8_reads 277 = .ok (.getfield 123, 3) := by decide +kernel
theorem dX8_reads_280 : decode cX8_reads 280 = .ok (.aload_n 0, 1) := by decide +kernel
theorem dX8_reads_281 : decode cX8_reads 281 = .ok (.iload_n 1, 1) := by decide +kernel
theorem dX8_reads_282 : decode cX8_reads 282 = .ok (.iconst 1, 1) := by decide +kernel
theorem dX8_reads_283 : decode cX8_reads 283 = .ok (.iadd, 1) := by decide +kernel
theorem dX8_reads_284 : decode cX8_reads 284 = .ok (.invokevirtual 110, 3) := by decide +kernel
theorem dX8_reads_287 : decode cX8_reads 287 = .ok (.iastore, 1) := by decide +kernel
theorem dX8_reads_288 : decode cX8_reads 288 = .ok (.aload_n 0, 1) := by decide +kernel
theorem dX8_reads_289 : decode cX8_reads 289 = .ok (.getfield 37, 3) := by decide +kernel
theorem dX8_reads_292 : decode cX8_reads 292 = .ok (.aload_n 0, 1) := by decide +kernel
theorem dX8_reads_293 : decode cX8_reads 293 = .ok (.getfield 123, 3) := by decide +kernel
theorem dX8_reads_296 : decode cX8_reads 296 = .ok (.aload_n 0, 1) := by decide +kernel
theorem dX8_reads_297 : decode cX8_reads 297 = .ok (.iload_n 1, 1) := by decide +kernel
theorem dX8_reads_298 : decode cX8_reads 298 = .ok (.iconst 3, 1) := by decide +kernel
theorem dX8_reads_299 : decode cX8_reads 299 = .ok (.iadd, 1) := by decide +kernel
theorem dX8_reads_300 : decode cX8_reads 300 = .ok (.invokevirtual 110, 3) := by decide +kernel
theorem dX8_reads_303 : decode cX8_reads 303 = .ok (.iastore, 1) := by decide +kernel
theorem dX8_reads_304 : decode cX8_reads 304 = .ok (.iconst 0, 1) := by decide +kernel
theorem dX8_reads_305 : decode cX8_reads 305 = .ok (.istore 4, 2) := by decide +kernel
theorem dX8_reads_307 : decode cX8_reads 307 = .ok (.iload 4, 2) := by decide +kernel
theorem dX8_reads_309 : decode cX8_reads 309 = .ok (.iconst 2, 1) := by decide +kernel
theorem dX8_reads_310 : decode cX8_reads 310 = .ok (.if_icmp .ge 58, 3) := by decide +kernel
theorem dX8_reads_313 : decode cX8_reads 313 = .ok (.aload_n 0, 1) := by decide +kernel
theorem dX8_reads_314 : decode cX8_reads 314 = .ok (.getfield 40, 3) := by decide +kernel
theorem dX8_reads_317 : decode cX8_reads 317 = .ok (.iconst 2, 1) := by decide +kernel
theorem dX8_reads_318 : decode cX8_reads 318 = .ok (.aload_n 0, 1) := by decide +kernel
theorem dX8_reads_319 : decode cX8_reads 319 = .ok (.getfield 123, 3) := by decide +kernel
theorem dX8_reads_322 : decode cX8_reads 322 = .ok (.imul, 1) := by decide +kernel
theorem dX8_reads_323 : decode cX8_reads 323 = .ok (.iload 4, 2) := by decide +kernel
theorem dX8_reads_325 : decode cX8_reads 325 = .ok (.iadd, 1) := by decide +kernel
theorem dX8_reads_326 : decode cX8_reads 326 = .ok (.aload_n 0, 1) := by decide +kernel
theorem dX8_reads_327 : decode cX8_reads 327 = .ok (.iload_n 1, 1) := by decide +kernel
theorem dX8_reads_328 : decode cX8_reads 328 = .ok (.iconst 5, 1) := by decide +kernel
theorem dX8_reads_329 : decode cX8_reads 329 = .ok (.iadd, 1) := by decide +kernel
theorem dX8_reads_330 : decode cX8_reads 330 = .ok (.iload 4, 2) := by decide +kernel
theorem dX8_reads_332 : decode cX8_reads 332 = .ok (.iadd, 1) := by decide +kernel
theorem dX8_reads_333 : decode cX8_reads 333 = .ok (.invokevirtual 107, 3) := by decide +kernel
theorem dX8_reads_336 : decode cX8_reads 336 = .ok (.iastore, 1) := by decide +kernel
theorem dX8_reads_337 : decode cX8_reads 337 = .ok (.aload_n 0, 1) := by decide +kernel
theorem dX8_reads_338 : decode cX8_reads 338 = .ok (.getfield 43, 3) := by decide +kernel
theorem dX8_reads_341 : decode cX8_reads 341 = .ok (.iconst 2, 1) := by decide +kernel
theorem dX8_reads_342 : decode cX8_reads 342 = .ok (.aload_n 0, 1) := by decide +kernel
theorem dX8_reads_343 : decode cX8_reads 343 = .ok (.getfield 123, 3) := by decide +kernel
theorem dX8_reads_346 : decode cX8_reads 346 = .ok (.imul, 1) := by decide +kernel
theorem dX8_reads_347 : decode cX8_reads 347 = .ok (.iload 4, 2) := by decide +kernel
theorem dX8_reads_349 : decode cX8_reads 349 = .ok (.iadd, 1) := by decide +kernel
theorem dX8_reads_350 : decode cX8_reads 350 = .ok (.aload_n 0, 1) := by decide +kernel
theorem dX8_reads_351 : decode cX8_reads 351 = .ok (.iload_n 1, 1) := by decide +kernel
theorem dX8_reads_352 : decode cX8_reads 352 = .ok (.bipush 7, 2) := by decide +kernel
theorem dX8_reads_354 : decode cX8_reads 354 = .ok (.iadd, 1) := by decide +kernel
theorem dX8_reads_355 : decode cX8_reads 355 = .ok (.iload 4, 2) := by decide +kernel
theorem dX8_reads_357 : decode cX8_reads 357 = .ok (.iadd, 1) := by decide +kernel
theorem dX8_reads_358 : decode cX8_reads 358 = .ok (.invokevirtual 107, 3) := by decide +kernel
theorem dX8_reads_361 : decode cX8_reads 361 = .ok (.iastore, 1) := by decide +kernel
theorem dX8_reads_362 : decode cX8_reads 362 = .ok (.iinc 4 1, 3) := by decide +kernel
theorem dX8_reads_365 : decode cX8_reads 365 = .ok (.goto (-58), 3) := by decide +kernel
theorem dX8_reads_368 : decode cX8_reads 368 = .ok (.aload_n 0, 1) := by decide +kernel
theorem dX8_reads_369 : decode cX8_reads 369 = .ok (.dup, 1) := by decide +kernel
theorem dX8_reads_370 : decode cX8_reads 370 = .ok (.getfield 123, 3) := by decide +kernel
theorem dX8_reads_373 : decode cX8_reads 373 = .ok (.iconst 1, 1) := by decide +kernel
theorem dX8_reads_374 : decode cX8_reads 374 = .ok (.iadd, 1) := by decide +kernel
theorem dX8_reads_375 : decode cX8_reads 375 = .ok (.putfield 123, 3) := by decide +kernel
theorem dX8_reads_378 : decode cX8_reads 378 = .ok (.iinc 1 9, 3) := by decide +kernel
theorem dX8_reads_381 : decode cX8_reads 381 = .ok (.goto 5, 3) := by decide +kernel
theorem dX8_reads_384 : decode cX8_reads 384 = .ok (.iload_n 1, 1) := by decide +kernel
theorem dX8_reads_385 : decode cX8_reads 385 = .ok (.ireturn, 1) := by decide +kernel
theorem dX8_reads_386 : decode cX8_reads 386 = .ok (.iload_n 3, 1) := by decide +kernel
theorem dX8_reads_387 : decode cX8_reads 387 = .ok (.iconst (-1), 1) := by decide +kernel
theorem dX8_reads_388 : decode cX8_reads 388 = .ok (.if_icmp .eq 5, 3) := by decide +kernel
theorem dX8_reads_391 : decode cX8_reads 391 = .ok (.iload_n 3, 1) := by decide +kernel
theorem dX8_reads_392 : decode cX8_reads 392 = .ok (.ireturn, 1) := by decide +kernel
theorem dX8_reads_393 : decode cX8_reads 393 = .ok (.iload_n 1, 1) := by decide +kernel
theorem dX8_reads_394 : decode cX8_reads 394 = .ok (.aload_n 0, 1) := by decide +kernel
theorem dX8_reads_395 : decode cX8_reads 395 = .ok (.getfield 99, 3) := by decide +kernel
theorem dX8_reads_398 : decode cX8_reads 398 = .ok (.if_icmp .ne 5, 3) := by decide +kernel
theorem dX8_reads_401 : decode cX8_reads 401 = .ok (.iconst (-1), 1) := by decide +kernel
theorem dX8_reads_402 : decode cX8_reads 402 = .ok (.ireturn, 1) := by decide +kernel
theorem dX8_reads_403 : decode cX8_reads 403 = .ok (.aload_n 0, 1) := by decide +kernel
theorem dX8_reads_404 : decode cX8_reads 404 = .ok (.iload_n 1, 1) := by decide +kernel
theorem dX8_reads_405 : decode cX8_reads 405 = .ok (.invokevirtual 103, 3) := by decide +kernel
theorem dX8_reads_408 : decode cX8_reads 408 = .ok (.bipush 59, 2) := by decide +kernel
theorem dX8_reads_410 : decode cX8_reads 410 = .ok (.if_icmp .eq 5, 3) := by decide +kernel
theorem dX8_reads_413 : decode cX8_reads 413 = .ok (.iload_n 1, 1) := by decide +kernel
theorem dX8_reads_414 : decode cX8_reads 414 = .ok (.ireturn, 1) := by decide +kernel
theorem dX8_reads_415 : decode cX8_reads 415 = .ok (.iinc 1 1, 3) := by decide +kernel
theorem dX8_reads_418 : decode cX8_reads 418 = .ok (.goto (-401), 3) := by decide +kernel
theorem dX8_reads_421 : decode cX8_reads 421 = .ok (.iconst (-1), 1) := by decide +kernel
theorem dX8_reads_422 : decode cX8_reads 422 = .ok (.ireturn, 1) := by decide +kernel
abbrev rmX8_reads : Room := { frames := 5, cells := 0, slots := 0, locals := 111 }
set_option maxHeartbeats 4000000 in
set_option maxRecDepth 100000 in
theorem wX8_reads_386 (Cx : ms_C p s m args meth c D cA a shM cX8_reads 5 RX8 (some .int)) (out : Int32 × Mm) (K17 : Int32 → Mm → Option (Int32 × Mm)) (hK17 : ∀ (y1 : Int32) , ∀ (σ : Mm) (H : Heap) (locs : List Loc) (ls : Array Slot), ms_I D cA a shM s σ H locs → lv_has ls 5 [(0, .ref (a 0)), (1, .int y1)] → K17 y1 σ = some out → W p l e rmX8_reads s m args below meth c H locs 0 0 (MQ below (ms_Qi D cA a shM out.1 out.2) args s 0 0 (ms_A a shM.length)) (F0 m 17 ls [])) : ∀ (y1 : Int32) (y2 : Int32) , ∀ (σ : Mm) (H : Heap) (locs : List Loc) (ls : Array Slot), ms_I D cA a shM s σ H locs → lv_has ls 5 [(0, .ref (a 0)), (1, .int y1), (3, .int y2)] → fX8_reads_386 K17 y1 y2 σ = some out → W p l e rmX8_reads s m args below meth c H locs 0 0 (MQ below (ms_Qi D cA a shM out.1 out.2) args s 0 0 (ms_A a shM.length)) (F0 m 386 ls []) := by
  have hx := Cx.1
  have hb := Cx.2.1
  intro y1 y2 σ H locs ls hI hl h
  unfold fX8_reads_386 at h
  refine lv_iload_n hx hb dX8_reads_386 rfl (lv_at hl 2 rfl) ?_
  refine lv_iconst (v := -1) hx hb dX8_reads_387 rfl ?_
  refine lv_icmp_eq (tgt := 393) hx hb dX8_reads_388 rfl (fun hc => ?_) (fun hc => ?_)
  · have h := ms_ifT hc h
    refine lv_iload_n hx hb dX8_reads_393 rfl (lv_at hl 1 rfl) ?_
    refine lv_aload_n hx hb dX8_reads_394 rfl (lv_at hl 0 rfl) ?_
    refine gi_X8_0 Cx hI wd_10_19 dX8_reads_395 ?_
    refine lv_icmp_ne (tgt := 403) hx hb dX8_reads_398 rfl (fun hc => ?_) (fun hc => ?_)
    · have h := ms_ifF hc h
      refine lv_aload_n hx hb dX8_reads_403 rfl (lv_at hl 0 rfl) ?_
      refine lv_iload_n hx hb dX8_reads_404 rfl (lv_at hl 1 rfl) ?_
      obtain ⟨r2, hc1, h⟩ := ms_bdE h
      refine kX8_byteAt Cx hI hc1 wd_12_3 (Nat.le_of_ble_eq_true rfl) (Nat.le_of_ble_eq_true rfl) hl.1 (Nat.le_of_ble_eq_true rfl) dX8_reads_405 (fun H locs hI => ?_)
      refine lv_bipush (v := 59) hx hb dX8_reads_408 rfl ?_
      refine lv_icmp_eq (tgt := 415) hx hb dX8_reads_410 rfl (fun hc => ?_) (fun hc => ?_)
      · have h := ms_ifT hc h
        refine lv_iinc (v := y1 + 1) (lv' := [(1, .int (y1 + 1)), (0, .ref (a 0)), (3, .int y2)]) hx hb dX8_reads_415 hl (k := 1) rfl rfl (by decide) rfl (fun ls hl => ?_)
        refine lv_goto (tgt := 17) hx hb dX8_reads_418 rfl ?_
        exact hK17 (y1 + 1) σ _ _ _ hI (lv_sub hl [1, 0] rfl) h
      · have h := ms_ifF hc h
        refine lv_iload_n hx hb dX8_reads_413 rfl (lv_at hl 1 rfl) ?_
        exact ms_riw Cx hI h dX8_reads_414
    · have h := ms_ifT hc h
      refine lv_iconst (v := -1) hx hb dX8_reads_401 rfl ?_
      exact ms_riw Cx hI h dX8_reads_402
  · have h := ms_ifF hc h
    refine lv_iload_n hx hb dX8_reads_391 rfl (lv_at hl 2 rfl) ?_
    exact ms_riw Cx hI h dX8_reads_392
set_option maxHeartbeats 4000000 in
set_option maxRecDepth 100000 in
theorem wX8_reads_239 (Cx : ms_C p s m args meth c D cA a shM cX8_reads 5 RX8 (some .int)) (out : Int32 × Mm) (K17 : Int32 → Mm → Option (Int32 × Mm)) (hK17 : ∀ (y1 : Int32) , ∀ (σ : Mm) (H : Heap) (locs : List Loc) (ls : Array Slot), ms_I D cA a shM s σ H locs → lv_has ls 5 [(0, .ref (a 0)), (1, .int y1)] → K17 y1 σ = some out → W p l e rmX8_reads s m args below meth c H locs 0 0 (MQ below (ms_Qi D cA a shM out.1 out.2) args s 0 0 (ms_A a shM.length)) (F0 m 17 ls [])) : ∀ (y1 : Int32) (y2 : Int32) (y3 : Int32) (y4 : Int32) , ∀ (σ : Mm) (H : Heap) (locs : List Loc) (ls : Array Slot), ms_I D cA a shM s σ H locs → lv_has ls 5 [(0, .ref (a 0)), (1, .int y1), (3, .int y2)] → fX8_reads_239 K17 y1 y2 y3 y4 σ = some out → W p l e rmX8_reads s m args below meth c H locs 0 0 (MQ below (ms_Qi D cA a shM out.1 out.2) args s 0 0 (ms_A a shM.length)) (F0 m 239 ls [.int y3, .int y4, .ref (a 0)]) := by
  have hx := Cx.1
  have hb := Cx.2.1
  intro y1 y2 y3 y4 σ H locs ls hI hl h
  unfold fX8_reads_239 at h
  refine lv_ior hx hb dX8_reads_239 ?_
  refine pi_X8_10 Cx hI wd_11_21 dX8_reads_240 (fun H locs σ1 eσ1 hI => ?_)
  have h := ms_ltE eσ1 h
  refine lv_iinc (v := y1 + 2) (lv' := [(1, .int (y1 + 2)), (0, .ref (a 0)), (3, .int y2)]) hx hb dX8_reads_243 hl (k := 1) rfl rfl (by decide) rfl (fun ls hl => ?_)
  refine lv_goto (tgt := 386) hx hb dX8_reads_246 rfl ?_
  exact wX8_reads_386 Cx out K17 hK17 (y1 + 2) y2 σ1 _ _ _ hI (lv_sub hl [1, 0, 2] rfl) h
set_option maxHeartbeats 4000000 in
set_option maxRecDepth 100000 in
theorem wX8_reads_220 (Cx : ms_C p s m args meth c D cA a shM cX8_reads 5 RX8 (some .int)) (out : Int32 × Mm) (K17 : Int32 → Mm → Option (Int32 × Mm)) (hK17 : ∀ (y1 : Int32) , ∀ (σ : Mm) (H : Heap) (locs : List Loc) (ls : Array Slot), ms_I D cA a shM s σ H locs → lv_has ls 5 [(0, .ref (a 0)), (1, .int y1)] → K17 y1 σ = some out → W p l e rmX8_reads s m args below meth c H locs 0 0 (MQ below (ms_Qi D cA a shM out.1 out.2) args s 0 0 (ms_A a shM.length)) (F0 m 17 ls [])) : ∀ (y1 : Int32) (y2 : Int32) (y3 : Int32) , ∀ (σ : Mm) (H : Heap) (locs : List Loc) (ls : Array Slot), ms_I D cA a shM s σ H locs → lv_has ls 5 [(0, .ref (a 0)), (1, .int y1), (4, .int y2)] → fX8_reads_220 K17 y1 y2 y3 σ = some out → W p l e rmX8_reads s m args below meth c H locs 0 0 (MQ below (ms_Qi D cA a shM out.1 out.2) args s 0 0 (ms_A a shM.length)) (F0 m 220 ls [.int y3]) := by
  have hx := Cx.1
  have hb := Cx.2.1
  intro y1 y2 y3 σ H locs ls hI hl h
  unfold fX8_reads_220 at h
  refine lv_istore_n (lv' := [(3, .int y3), (0, .ref (a 0)), (1, .int y1), (4, .int y2)]) hx hb dX8_reads_220 rfl hl (by decide) rfl (fun ls hl => ?_)
  refine lv_aload_n hx hb dX8_reads_221 rfl (lv_at hl 1 rfl) ?_
  refine lv_dup hx hb dX8_reads_222 rfl ?_
  refine gi_X8_10 Cx hI wd_11_21 dX8_reads_223 ?_
  refine lv_iload_n hx hb dX8_reads_226 rfl (lv_at hl 0 rfl) ?_
  refine lv_iconst (v := -1) hx hb dX8_reads_227 rfl ?_
  refine lv_icmp_ne (tgt := 238) hx hb dX8_reads_228 rfl (fun hc => ?_) (fun hc => ?_)
  · have h := ms_ifF hc h
    refine lv_iconst (v := 0) hx hb dX8_reads_238 rfl ?_
    exact wX8_reads_239 Cx out K17 hK17 y1 y3 0 (σ 0 10) σ _ _ _ hI (lv_sub hl [1, 2, 0] rfl) h
  · have h := ms_ifT hc h
    refine lv_iconst (v := 1) hx hb dX8_reads_231 rfl ?_
    refine lv_iload hx hb dX8_reads_232 (lv_at hl 3 rfl) ?_
    refine lv_ishl hx hb dX8_reads_234 ?_
    refine lv_goto (tgt := 239) hx hb dX8_reads_235 rfl ?_
    exact wX8_reads_239 Cx out K17 hK17 y1 y3 (ms_shl 1 y2) (σ 0 10) σ _ _ _ hI (lv_sub hl [1, 2, 0] rfl) h
set_option maxHeartbeats 4000000 in
set_option maxRecDepth 100000 in
theorem wX8_reads_213 (Cx : ms_C p s m args meth c D cA a shM cX8_reads 5 RX8 (some .int)) (out : Int32 × Mm) (K17 : Int32 → Mm → Option (Int32 × Mm)) (hK17 : ∀ (y1 : Int32) , ∀ (σ : Mm) (H : Heap) (locs : List Loc) (ls : Array Slot), ms_I D cA a shM s σ H locs → lv_has ls 5 [(0, .ref (a 0)), (1, .int y1)] → K17 y1 σ = some out → W p l e rmX8_reads s m args below meth c H locs 0 0 (MQ below (ms_Qi D cA a shM out.1 out.2) args s 0 0 (ms_A a shM.length)) (F0 m 17 ls [])) : ∀ (y1 : Int32) (y2 : Int32) , ∀ (σ : Mm) (H : Heap) (locs : List Loc) (ls : Array Slot), ms_I D cA a shM s σ H locs → lv_has ls 5 [(0, .ref (a 0)), (1, .int y1), (4, .int y2)] → fX8_reads_213 K17 y1 y2 σ = some out → W p l e rmX8_reads s m args below meth c H locs 0 0 (MQ below (ms_Qi D cA a shM out.1 out.2) args s 0 0 (ms_A a shM.length)) (F0 m 213 ls []) := by
  have hx := Cx.1
  have hb := Cx.2.1
  intro y1 y2 σ H locs ls hI hl h
  unfold fX8_reads_213 at h
  refine lv_iload_n hx hb dX8_reads_213 rfl (lv_at hl 1 rfl) ?_
  refine lv_iconst (v := 1) hx hb dX8_reads_214 rfl ?_
  refine lv_iadd hx hb dX8_reads_215 ?_
  refine lv_goto (tgt := 220) hx hb dX8_reads_216 rfl ?_
  exact wX8_reads_220 Cx out K17 hK17 y1 y2 (y1 + 1) σ _ _ _ hI (lv_sub hl [0, 1, 2] rfl) h
set_option maxHeartbeats 4000000 in
set_option maxRecDepth 100000 in
theorem wX8_reads_307 (Cx : ms_C p s m args meth c D cA a shM cX8_reads 5 RX8 (some .int)) (out : Int32 × Mm) (K17 : Int32 → Mm → Option (Int32 × Mm)) (hK17 : ∀ (y1 : Int32) , ∀ (σ : Mm) (H : Heap) (locs : List Loc) (ls : Array Slot), ms_I D cA a shM s σ H locs → lv_has ls 5 [(0, .ref (a 0)), (1, .int y1)] → K17 y1 σ = some out → W p l e rmX8_reads s m args below meth c H locs 0 0 (MQ below (ms_Qi D cA a shM out.1 out.2) args s 0 0 (ms_A a shM.length)) (F0 m 17 ls [])) : ∀ (n : Nat), ∀ (y1 : Int32) (y2 : Int32) (y3 : Int32) , ∀ (σ : Mm) (H : Heap) (locs : List Loc) (ls : Array Slot), ms_I D cA a shM s σ H locs → lv_has ls 5 [(0, .ref (a 0)), (1, .int y1), (3, .int y2), (4, .int y3)] → fX8_reads_307 K17 n y1 y2 y3 σ = some out → W p l e rmX8_reads s m args below meth c H locs 0 0 (MQ below (ms_Qi D cA a shM out.1 out.2) args s 0 0 (ms_A a shM.length)) (F0 m 307 ls []) := by
  have hx := Cx.1
  have hb := Cx.2.1
  intro n
  induction n with
  | zero =>
    intro y1 y2 y3 σ H locs ls hI hl h
    exact nomatch (show none = some out from h)
  | succ n ih =>
    intro y1 y2 y3 σ H locs ls hI hl h
    rw [fX8_reads_307] at h
    refine lv_iload hx hb dX8_reads_307 (lv_at hl 3 rfl) ?_
    refine lv_iconst (v := 2) hx hb dX8_reads_309 rfl ?_
    refine lv_icmp_ge (tgt := 368) hx hb dX8_reads_310 rfl (fun hc => ?_) (fun hc => ?_)
    · have h := ms_ifT hc h
      refine lv_aload_n hx hb dX8_reads_368 rfl (lv_at hl 0 rfl) ?_
      refine lv_dup hx hb dX8_reads_369 rfl ?_
      refine gi_X8_11 Cx hI wd_11_22 dX8_reads_370 ?_
      refine lv_iconst (v := 1) hx hb dX8_reads_373 rfl ?_
      refine lv_iadd hx hb dX8_reads_374 ?_
      refine pi_X8_11 Cx hI wd_11_22 dX8_reads_375 (fun H locs σ1 eσ1 hI => ?_)
      have h := ms_ltE eσ1 h
      refine lv_iinc (v := y1 + 9) (lv' := [(1, .int (y1 + 9)), (0, .ref (a 0)), (3, .int y2), (4, .int y3)]) hx hb dX8_reads_378 hl (k := 1) rfl rfl (by decide) rfl (fun ls hl => ?_)
      refine lv_goto (tgt := 386) hx hb dX8_reads_381 rfl ?_
      exact wX8_reads_386 Cx out K17 hK17 (y1 + 9) y2 σ1 _ _ _ hI (lv_sub hl [1, 0, 2] rfl) h
    · have h := ms_ifF hc h
      refine lv_aload_n hx hb dX8_reads_313 rfl (lv_at hl 0 rfl) ?_
      refine gr_X8_14 Cx hI wd_6_23 dX8_reads_314 ?_
      refine lv_iconst (v := 2) hx hb dX8_reads_317 rfl ?_
      refine lv_aload_n hx hb dX8_reads_318 rfl (lv_at hl 0 rfl) ?_
      refine gi_X8_11 Cx hI wd_11_22 dX8_reads_319 ?_
      refine lv_imul hx hb dX8_reads_322 ?_
      refine lv_iload hx hb dX8_reads_323 (lv_at hl 3 rfl) ?_
      refine lv_iadd hx hb dX8_reads_325 ?_
      refine lv_aload_n hx hb dX8_reads_326 rfl (lv_at hl 0 rfl) ?_
      refine lv_iload_n hx hb dX8_reads_327 rfl (lv_at hl 1 rfl) ?_
      refine lv_iconst (v := 5) hx hb dX8_reads_328 rfl ?_
      refine lv_iadd hx hb dX8_reads_329 ?_
      refine lv_iload hx hb dX8_reads_330 (lv_at hl 3 rfl) ?_
      refine lv_iadd hx hb dX8_reads_332 ?_
      obtain ⟨r3, hc2, h⟩ := ms_bdE h
      refine kX8_figureAt Cx hI hc2 wd_12_15 (Nat.le_of_ble_eq_true rfl) (Nat.le_of_ble_eq_true rfl) hl.1 (Nat.le_of_ble_eq_true rfl) dX8_reads_333 (fun H locs hI => ?_)
      obtain ⟨hg, h⟩ := ms_gE h
      refine ms_sto Cx hI 11 shM_11 hg dX8_reads_336 (fun H locs σ4 eσ4 hI => ?_)
      have h := ms_ltE eσ4 h
      refine lv_aload_n hx hb dX8_reads_337 rfl (lv_at hl 0 rfl) ?_
      refine gr_X8_15 Cx hI wd_7_0 dX8_reads_338 ?_
      refine lv_iconst (v := 2) hx hb dX8_reads_341 rfl ?_
      refine lv_aload_n hx hb dX8_reads_342 rfl (lv_at hl 0 rfl) ?_
      refine gi_X8_11 Cx hI wd_11_22 dX8_reads_343 ?_
      refine lv_imul hx hb dX8_reads_346 ?_
      refine lv_iload hx hb dX8_reads_347 (lv_at hl 3 rfl) ?_
      refine lv_iadd hx hb dX8_reads_349 ?_
      refine lv_aload_n hx hb dX8_reads_350 rfl (lv_at hl 0 rfl) ?_
      refine lv_iload_n hx hb dX8_reads_351 rfl (lv_at hl 1 rfl) ?_
      refine lv_bipush (v := 7) hx hb dX8_reads_352 rfl ?_
      refine lv_iadd hx hb dX8_reads_354 ?_
      refine lv_iload hx hb dX8_reads_355 (lv_at hl 3 rfl) ?_
      refine lv_iadd hx hb dX8_reads_357 ?_
      obtain ⟨r6, hc5, h⟩ := ms_bdE h
      refine kX8_figureAt Cx hI hc5 wd_12_15 (Nat.le_of_ble_eq_true rfl) (Nat.le_of_ble_eq_true rfl) hl.1 (Nat.le_of_ble_eq_true rfl) dX8_reads_358 (fun H locs hI => ?_)
      obtain ⟨hg, h⟩ := ms_gE h
      refine ms_sto Cx hI 12 shM_12 hg dX8_reads_361 (fun H locs σ7 eσ7 hI => ?_)
      have h := ms_ltE eσ7 h
      refine lv_iinc (v := y3 + 1) (lv' := [(4, .int (y3 + 1)), (0, .ref (a 0)), (1, .int y1), (3, .int y2)]) hx hb dX8_reads_362 hl (k := 3) rfl rfl (by decide) rfl (fun ls hl => ?_)
      refine lv_goto (tgt := 307) hx hb dX8_reads_365 rfl ?_
      exact ih y1 y2 (y3 + 1) σ7 _ _ _ hI (lv_sub hl [1, 2, 3, 0] rfl) h
set_option maxHeartbeats 4000000 in
set_option maxRecDepth 100000 in
theorem wX8_reads_175 (Cx : ms_C p s m args meth c D cA a shM cX8_reads 5 RX8 (some .int)) (out : Int32 × Mm) (K17 : Int32 → Mm → Option (Int32 × Mm)) (hK17 : ∀ (y1 : Int32) , ∀ (σ : Mm) (H : Heap) (locs : List Loc) (ls : Array Slot), ms_I D cA a shM s σ H locs → lv_has ls 5 [(0, .ref (a 0)), (1, .int y1)] → K17 y1 σ = some out → W p l e rmX8_reads s m args below meth c H locs 0 0 (MQ below (ms_Qi D cA a shM out.1 out.2) args s 0 0 (ms_A a shM.length)) (F0 m 17 ls [])) : ∀ (y1 : Int32) (y2 : Int32) , ∀ (σ : Mm) (H : Heap) (locs : List Loc) (ls : Array Slot), ms_I D cA a shM s σ H locs → lv_has ls 5 [(0, .ref (a 0)), (1, .int y1), (2, .int y2)] → fX8_reads_175 K17 y1 y2 σ = some out → W p l e rmX8_reads s m args below meth c H locs 0 0 (MQ below (ms_Qi D cA a shM out.1 out.2) args s 0 0 (ms_A a shM.length)) (F0 m 175 ls []) := by
  have hx := Cx.1
  have hb := Cx.2.1
  intro y1 y2 σ H locs ls hI hl h
  unfold fX8_reads_175 at h
  refine lv_iload_n hx hb dX8_reads_175 rfl (lv_at hl 2 rfl) ?_
  refine lv_bipush (v := 104) hx hb dX8_reads_176 rfl ?_
  refine lv_icmp_ne (tgt := 249) hx hb dX8_reads_178 rfl (fun hc => ?_) (fun hc => ?_)
  · have h := ms_ifF hc h
    refine lv_iload_n hx hb dX8_reads_249 rfl (lv_at hl 2 rfl) ?_
    refine lv_bipush (v := 103) hx hb dX8_reads_250 rfl ?_
    refine lv_icmp_ne (tgt := 384) hx hb dX8_reads_252 rfl (fun hc => ?_) (fun hc => ?_)
    · have h := ms_ifF hc h
      refine lv_iload_n hx hb dX8_reads_384 rfl (lv_at hl 1 rfl) ?_
      exact ms_riw Cx hI h dX8_reads_385
    · have h := ms_ifT hc h
      refine lv_aload_n hx hb dX8_reads_255 rfl (lv_at hl 0 rfl) ?_
      refine gi_X8_11 Cx hI wd_11_22 dX8_reads_256 ?_
      refine lv_bipush (v := 8) hx hb dX8_reads_259 rfl ?_
      refine lv_icmp_ge (tgt := 384) hx hb dX8_reads_261 rfl (fun hc => ?_) (fun hc => ?_)
      · have h := ms_ifT hc h
        refine lv_iload_n hx hb dX8_reads_384 rfl (lv_at hl 1 rfl) ?_
        exact ms_riw Cx hI h dX8_reads_385
      · have h := ms_ifF hc h
        refine lv_aload_n hx hb dX8_reads_264 rfl (lv_at hl 0 rfl) ?_
        refine lv_iload_n hx hb dX8_reads_265 rfl (lv_at hl 1 rfl) ?_
        refine lv_iconst (v := 1) hx hb dX8_reads_266 rfl ?_
        refine lv_iadd hx hb dX8_reads_267 ?_
        obtain ⟨r2, hc1, h⟩ := ms_bdE h
        refine kX8_wrongGroup Cx hI hc1 wd_13_2 (Nat.le_of_ble_eq_true rfl) (Nat.le_of_ble_eq_true rfl) hl.1 (Nat.le_of_ble_eq_true rfl) dX8_reads_268 (fun H locs hI => ?_)
        refine lv_istore_n (lv' := [(3, .int r2), (0, .ref (a 0)), (1, .int y1), (2, .int y2)]) hx hb dX8_reads_271 rfl hl (by decide) rfl (fun ls hl => ?_)
        refine lv_aload_n hx hb dX8_reads_272 rfl (lv_at hl 1 rfl) ?_
        refine gr_X8_12 Cx hI wd_6_21 dX8_reads_273 ?_
        refine lv_aload_n hx hb dX8_reads_276 rfl (lv_at hl 1 rfl) ?_
        refine gi_X8_11 Cx hI wd_11_22 dX8_reads_277 ?_
        refine lv_aload_n hx hb dX8_reads_280 rfl (lv_at hl 1 rfl) ?_
        refine lv_iload_n hx hb dX8_reads_281 rfl (lv_at hl 2 rfl) ?_
        refine lv_iconst (v := 1) hx hb dX8_reads_282 rfl ?_
        refine lv_iadd hx hb dX8_reads_283 ?_
        obtain ⟨r4, hc3, h⟩ := ms_bdE h
        refine kX8_numberAt Cx hI hc3 wd_12_19 (Nat.le_of_ble_eq_true rfl) (Nat.le_of_ble_eq_true rfl) hl.1 (Nat.le_of_ble_eq_true rfl) dX8_reads_284 (fun H locs hI => ?_)
        obtain ⟨hg, h⟩ := ms_gE h
        refine ms_sto Cx hI 9 shM_9 hg dX8_reads_287 (fun H locs σ5 eσ5 hI => ?_)
        have h := ms_ltE eσ5 h
        refine lv_aload_n hx hb dX8_reads_288 rfl (lv_at hl 1 rfl) ?_
        refine gr_X8_13 Cx hI wd_6_22 dX8_reads_289 ?_
        refine lv_aload_n hx hb dX8_reads_292 rfl (lv_at hl 1 rfl) ?_
        refine gi_X8_11 Cx hI wd_11_22 dX8_reads_293 ?_
        refine lv_aload_n hx hb dX8_reads_296 rfl (lv_at hl 1 rfl) ?_
        refine lv_iload_n hx hb dX8_reads_297 rfl (lv_at hl 2 rfl) ?_
        refine lv_iconst (v := 3) hx hb dX8_reads_298 rfl ?_
        refine lv_iadd hx hb dX8_reads_299 ?_
        obtain ⟨r7, hc6, h⟩ := ms_bdE h
        refine kX8_numberAt Cx hI hc6 wd_12_19 (Nat.le_of_ble_eq_true rfl) (Nat.le_of_ble_eq_true rfl) hl.1 (Nat.le_of_ble_eq_true rfl) dX8_reads_300 (fun H locs hI => ?_)
        obtain ⟨hg, h⟩ := ms_gE h
        refine ms_sto Cx hI 10 shM_10 hg dX8_reads_303 (fun H locs σ8 eσ8 hI => ?_)
        have h := ms_ltE eσ8 h
        refine lv_iconst (v := 0) hx hb dX8_reads_304 rfl ?_
        refine lv_istore (lv' := [(4, .int 0), (3, .int r2), (0, .ref (a 0)), (1, .int y1), (2, .int y2)]) hx hb dX8_reads_305 hl (by decide) rfl (fun ls hl => ?_)
        exact wX8_reads_307 Cx out K17 hK17 ms_fu y1 r2 0 σ8 _ _ _ hI (lv_sub hl [2, 3, 1, 0] rfl) h
  · have h := ms_ifT hc h
    refine lv_aload_n hx hb dX8_reads_181 rfl (lv_at hl 0 rfl) ?_
    refine lv_iload_n hx hb dX8_reads_182 rfl (lv_at hl 1 rfl) ?_
    refine lv_iconst (v := 1) hx hb dX8_reads_183 rfl ?_
    refine lv_iadd hx hb dX8_reads_184 ?_
    obtain ⟨r10, hc9, h⟩ := ms_bdE h
    refine kX8_figureAt Cx hI hc9 wd_12_15 (Nat.le_of_ble_eq_true rfl) (Nat.le_of_ble_eq_true rfl) hl.1 (Nat.le_of_ble_eq_true rfl) dX8_reads_185 (fun H locs hI => ?_)
    refine lv_istore (lv' := [(4, .int r10), (0, .ref (a 0)), (1, .int y1), (2, .int y2)]) hx hb dX8_reads_188 hl (by decide) rfl (fun ls hl => ?_)
    refine lv_iload hx hb dX8_reads_190 (lv_at hl 0 rfl) ?_
    refine lv_iconst (v := 0) hx hb dX8_reads_192 rfl ?_
    refine lv_bipush (v := 8) hx hb dX8_reads_193 rfl ?_
    obtain ⟨r12, hc11, h⟩ := ms_bdE h
    refine kX8_in Cx hI hc11 (Or.inl wd_10_20) (Nat.le_of_ble_eq_true rfl) (Nat.le_of_ble_eq_true rfl) hl.1 (Nat.le_of_ble_eq_true rfl) dX8_reads_195 (fun H locs hI => ?_)
    refine lv_if_eq (tgt := 213) hx hb dX8_reads_198 rfl (fun hc => ?_) (fun hc => ?_)
    · have h := ms_ifT hc h
      exact wX8_reads_213 Cx out K17 hK17 y1 r10 σ _ _ _ hI (lv_sub hl [1, 2, 0] rfl) h
    · have h := ms_ifF hc h
      refine lv_aload_n hx hb dX8_reads_201 rfl (lv_at hl 1 rfl) ?_
      refine gi_X8_10 Cx hI wd_11_21 dX8_reads_202 ?_
      refine lv_iload hx hb dX8_reads_205 (lv_at hl 0 rfl) ?_
      obtain ⟨r14, hc13, h⟩ := ms_bdE h
      refine kX8_isIn Cx hI hc13 (Or.inl wd_12_23) (Nat.le_of_ble_eq_true rfl) (Nat.le_of_ble_eq_true rfl) hl.1 (Nat.le_of_ble_eq_true rfl) dX8_reads_207 (fun H locs hI => ?_)
      refine lv_if_eq (tgt := 219) hx hb dX8_reads_210 rfl (fun hc => ?_) (fun hc => ?_)
      · have h := ms_ifT hc h
        refine lv_iconst (v := -1) hx hb dX8_reads_219 rfl ?_
        exact wX8_reads_220 Cx out K17 hK17 y1 r10 (-1) σ _ _ _ hI (lv_sub hl [1, 2, 0] rfl) h
      · have h := ms_ifF hc h
        exact wX8_reads_213 Cx out K17 hK17 y1 r10 σ _ _ _ hI (lv_sub hl [1, 2, 0] rfl) h
set_option maxHeartbeats 4000000 in
set_option maxRecDepth 100000 in
theorem wX8_reads_170 (Cx : ms_C p s m args meth c D cA a shM cX8_reads 5 RX8 (some .int)) (out : Int32 × Mm) (K17 : Int32 → Mm → Option (Int32 × Mm)) (hK17 : ∀ (y1 : Int32) , ∀ (σ : Mm) (H : Heap) (locs : List Loc) (ls : Array Slot), ms_I D cA a shM s σ H locs → lv_has ls 5 [(0, .ref (a 0)), (1, .int y1)] → K17 y1 σ = some out → W p l e rmX8_reads s m args below meth c H locs 0 0 (MQ below (ms_Qi D cA a shM out.1 out.2) args s 0 0 (ms_A a shM.length)) (F0 m 17 ls [])) : ∀ (y1 : Int32) (y2 : Int32) (y3 : Int32) , ∀ (σ : Mm) (H : Heap) (locs : List Loc) (ls : Array Slot), ms_I D cA a shM s σ H locs → lv_has ls 5 [(0, .ref (a 0)), (3, .int y1)] → fX8_reads_170 K17 y1 y2 y3 σ = some out → W p l e rmX8_reads s m args below meth c H locs 0 0 (MQ below (ms_Qi D cA a shM out.1 out.2) args s 0 0 (ms_A a shM.length)) (F0 m 170 ls [.int y2, .int y3]) := by
  have hx := Cx.1
  have hb := Cx.2.1
  intro y1 y2 y3 σ H locs ls hI hl h
  unfold fX8_reads_170 at h
  refine lv_iadd hx hb dX8_reads_170 ?_
  refine lv_istore_n (lv' := [(1, .int (y3 + y2)), (0, .ref (a 0)), (3, .int y1)]) hx hb dX8_reads_171 rfl hl (by decide) rfl (fun ls hl => ?_)
  refine lv_goto (tgt := 386) hx hb dX8_reads_172 rfl ?_
  exact wX8_reads_386 Cx out K17 hK17 (y3 + y2) y1 σ _ _ _ hI (lv_sub hl [1, 0, 2] rfl) h
set_option maxHeartbeats 4000000 in
set_option maxRecDepth 100000 in
theorem wX8_reads_146 (Cx : ms_C p s m args meth c D cA a shM cX8_reads 5 RX8 (some .int)) (out : Int32 × Mm) (K17 : Int32 → Mm → Option (Int32 × Mm)) (hK17 : ∀ (y1 : Int32) , ∀ (σ : Mm) (H : Heap) (locs : List Loc) (ls : Array Slot), ms_I D cA a shM s σ H locs → lv_has ls 5 [(0, .ref (a 0)), (1, .int y1)] → K17 y1 σ = some out → W p l e rmX8_reads s m args below meth c H locs 0 0 (MQ below (ms_Qi D cA a shM out.1 out.2) args s 0 0 (ms_A a shM.length)) (F0 m 17 ls [])) : ∀ (y1 : Int32) (y2 : Int32) (y3 : Int32) (y4 : Int32) (y5 : Int32) , ∀ (σ : Mm) (H : Heap) (locs : List Loc) (ls : Array Slot), ms_I D cA a shM s σ H locs → lv_has ls 5 [(0, .ref (a 0)), (1, .int y1), (3, .int y2), (4, .int y3)] → fX8_reads_146 K17 y1 y2 y3 y4 y5 σ = some out → W p l e rmX8_reads s m args below meth c H locs 0 0 (MQ below (ms_Qi D cA a shM out.1 out.2) args s 0 0 (ms_A a shM.length)) (F0 m 146 ls [.int y4, .int y5, .ref (a 6)]) := by
  have hx := Cx.1
  have hb := Cx.2.1
  intro y1 y2 y3 y4 y5 σ H locs ls hI hl h
  unfold fX8_reads_146 at h
  obtain ⟨hg, h⟩ := ms_gE h
  refine ms_sto Cx hI 6 shM_6 hg dX8_reads_146 (fun H locs σ1 eσ1 hI => ?_)
  have h := ms_ltE eσ1 h
  refine lv_aload_n hx hb dX8_reads_147 rfl (lv_at hl 0 rfl) ?_
  refine lv_dup hx hb dX8_reads_148 rfl ?_
  refine gi_X8_3 Cx hI wd_11_20 dX8_reads_149 ?_
  refine lv_iconst (v := 1) hx hb dX8_reads_152 rfl ?_
  refine lv_iadd hx hb dX8_reads_153 ?_
  refine pi_X8_3 Cx hI wd_11_20 dX8_reads_154 (fun H locs σ2 eσ2 hI => ?_)
  have h := ms_ltE eσ2 h
  refine lv_iload_n hx hb dX8_reads_157 rfl (lv_at hl 1 rfl) ?_
  refine lv_iload hx hb dX8_reads_158 (lv_at hl 3 rfl) ?_
  refine lv_if_eq (tgt := 168) hx hb dX8_reads_160 rfl (fun hc => ?_) (fun hc => ?_)
  · have h := ms_ifT hc h
    refine lv_bipush (v := 7) hx hb dX8_reads_168 rfl ?_
    exact wX8_reads_170 Cx out K17 hK17 y2 7 y1 σ2 _ _ _ hI (lv_sub hl [0, 2] rfl) h
  · have h := ms_ifF hc h
    refine lv_bipush (v := 8) hx hb dX8_reads_163 rfl ?_
    refine lv_goto (tgt := 170) hx hb dX8_reads_165 rfl ?_
    exact wX8_reads_170 Cx out K17 hK17 y2 8 y1 σ2 _ _ _ hI (lv_sub hl [0, 2] rfl) h
set_option maxHeartbeats 4000000 in
set_option maxRecDepth 100000 in
theorem wX8_reads_126 (Cx : ms_C p s m args meth c D cA a shM cX8_reads 5 RX8 (some .int)) (out : Int32 × Mm) (K17 : Int32 → Mm → Option (Int32 × Mm)) (hK17 : ∀ (y1 : Int32) , ∀ (σ : Mm) (H : Heap) (locs : List Loc) (ls : Array Slot), ms_I D cA a shM s σ H locs → lv_has ls 5 [(0, .ref (a 0)), (1, .int y1)] → K17 y1 σ = some out → W p l e rmX8_reads s m args below meth c H locs 0 0 (MQ below (ms_Qi D cA a shM out.1 out.2) args s 0 0 (ms_A a shM.length)) (F0 m 17 ls [])) : ∀ (y1 : Int32) (y2 : Int32) (y3 : Int32) , ∀ (σ : Mm) (H : Heap) (locs : List Loc) (ls : Array Slot), ms_I D cA a shM s σ H locs → lv_has ls 5 [(0, .ref (a 0)), (1, .int y1), (3, .int y2)] → fX8_reads_126 K17 y1 y2 y3 σ = some out → W p l e rmX8_reads s m args below meth c H locs 0 0 (MQ below (ms_Qi D cA a shM out.1 out.2) args s 0 0 (ms_A a shM.length)) (F0 m 126 ls [.int y3]) := by
  have hx := Cx.1
  have hb := Cx.2.1
  intro y1 y2 y3 σ H locs ls hI hl h
  unfold fX8_reads_126 at h
  refine lv_istore (lv' := [(4, .int y3), (0, .ref (a 0)), (1, .int y1), (3, .int y2)]) hx hb dX8_reads_126 hl (by decide) rfl (fun ls hl => ?_)
  refine lv_aload_n hx hb dX8_reads_128 rfl (lv_at hl 1 rfl) ?_
  refine gr_X8_7 Cx hI wd_6_18 dX8_reads_129 ?_
  refine lv_aload_n hx hb dX8_reads_132 rfl (lv_at hl 1 rfl) ?_
  refine gi_X8_3 Cx hI wd_11_20 dX8_reads_133 ?_
  refine lv_iload hx hb dX8_reads_136 (lv_at hl 0 rfl) ?_
  refine lv_if_eq (tgt := 145) hx hb dX8_reads_138 rfl (fun hc => ?_) (fun hc => ?_)
  · have h := ms_ifT hc h
    refine lv_iconst (v := 0) hx hb dX8_reads_145 rfl ?_
    exact wX8_reads_146 Cx out K17 hK17 y1 y2 y3 0 (σ 0 3) σ _ _ _ hI (lv_sub hl [1, 2, 3, 0] rfl) h
  · have h := ms_ifF hc h
    refine lv_iconst (v := 1) hx hb dX8_reads_141 rfl ?_
    refine lv_goto (tgt := 146) hx hb dX8_reads_142 rfl ?_
    exact wX8_reads_146 Cx out K17 hK17 y1 y2 y3 1 (σ 0 3) σ _ _ _ hI (lv_sub hl [1, 2, 3, 0] rfl) h
set_option maxHeartbeats 4000000 in
set_option maxRecDepth 100000 in
theorem wX8_reads_29 (Cx : ms_C p s m args meth c D cA a shM cX8_reads 5 RX8 (some .int)) (out : Int32 × Mm) (K17 : Int32 → Mm → Option (Int32 × Mm)) (hK17 : ∀ (y1 : Int32) , ∀ (σ : Mm) (H : Heap) (locs : List Loc) (ls : Array Slot), ms_I D cA a shM s σ H locs → lv_has ls 5 [(0, .ref (a 0)), (1, .int y1)] → K17 y1 σ = some out → W p l e rmX8_reads s m args below meth c H locs 0 0 (MQ below (ms_Qi D cA a shM out.1 out.2) args s 0 0 (ms_A a shM.length)) (F0 m 17 ls [])) : ∀ (y1 : Int32) , ∀ (σ : Mm) (H : Heap) (locs : List Loc) (ls : Array Slot), ms_I D cA a shM s σ H locs → lv_has ls 5 [(0, .ref (a 0)), (1, .int y1)] → fX8_reads_29 K17 y1 σ = some out → W p l e rmX8_reads s m args below meth c H locs 0 0 (MQ below (ms_Qi D cA a shM out.1 out.2) args s 0 0 (ms_A a shM.length)) (F0 m 29 ls []) := by
  have hx := Cx.1
  have hb := Cx.2.1
  intro y1 σ H locs ls hI hl h
  unfold fX8_reads_29 at h
  refine lv_aload_n hx hb dX8_reads_29 rfl (lv_at hl 0 rfl) ?_
  refine lv_iload_n hx hb dX8_reads_30 rfl (lv_at hl 1 rfl) ?_
  obtain ⟨r2, hc1, h⟩ := ms_bdE h
  refine kX8_byteAt Cx hI hc1 wd_12_3 (Nat.le_of_ble_eq_true rfl) (Nat.le_of_ble_eq_true rfl) hl.1 (Nat.le_of_ble_eq_true rfl) dX8_reads_31 (fun H locs hI => ?_)
  refine lv_istore_n (lv' := [(2, .int r2), (0, .ref (a 0)), (1, .int y1)]) hx hb dX8_reads_34 rfl hl (by decide) rfl (fun ls hl => ?_)
  refine lv_iconst (v := -1) hx hb dX8_reads_35 rfl ?_
  refine lv_istore_n (lv' := [(3, .int (-1)), (2, .int r2), (0, .ref (a 0)), (1, .int y1)]) hx hb dX8_reads_36 rfl hl (by decide) rfl (fun ls hl => ?_)
  refine lv_iload_n hx hb dX8_reads_37 rfl (lv_at hl 1 rfl) ?_
  refine lv_bipush (v := 116) hx hb dX8_reads_38 rfl ?_
  refine lv_icmp_ne (tgt := 175) hx hb dX8_reads_40 rfl (fun hc => ?_) (fun hc => ?_)
  · have h := ms_ifF hc h
    exact wX8_reads_175 Cx out K17 hK17 y1 r2 σ _ _ _ hI (lv_sub hl [2, 3, 1] rfl) h
  · have h := ms_ifT hc h
    refine lv_aload_n hx hb dX8_reads_43 rfl (lv_at hl 2 rfl) ?_
    refine gi_X8_3 Cx hI wd_11_20 dX8_reads_44 ?_
    refine lv_bipush (v := 6) hx hb dX8_reads_47 rfl ?_
    refine lv_icmp_ge (tgt := 175) hx hb dX8_reads_49 rfl (fun hc => ?_) (fun hc => ?_)
    · have h := ms_ifT hc h
      exact wX8_reads_175 Cx out K17 hK17 y1 r2 σ _ _ _ hI (lv_sub hl [2, 3, 1] rfl) h
    · have h := ms_ifF hc h
      refine lv_aload_n hx hb dX8_reads_52 rfl (lv_at hl 2 rfl) ?_
      refine lv_iload_n hx hb dX8_reads_53 rfl (lv_at hl 3 rfl) ?_
      refine lv_iconst (v := 1) hx hb dX8_reads_54 rfl ?_
      refine lv_iadd hx hb dX8_reads_55 ?_
      obtain ⟨r4, hc3, h⟩ := ms_bdE h
      refine kX8_wrongThing Cx hI hc3 wd_12_7 (Nat.le_of_ble_eq_true rfl) (Nat.le_of_ble_eq_true rfl) hl.1 (Nat.le_of_ble_eq_true rfl) dX8_reads_56 (fun H locs hI => ?_)
      refine lv_istore_n (lv' := [(3, .int r4), (2, .int r2), (0, .ref (a 0)), (1, .int y1)]) hx hb dX8_reads_59 rfl hl (by decide) rfl (fun ls hl => ?_)
      refine lv_aload_n hx hb dX8_reads_60 rfl (lv_at hl 2 rfl) ?_
      refine gr_X8_4 Cx hI wd_6_15 dX8_reads_61 ?_
      refine lv_aload_n hx hb dX8_reads_64 rfl (lv_at hl 2 rfl) ?_
      refine gi_X8_3 Cx hI wd_11_20 dX8_reads_65 ?_
      refine lv_aload_n hx hb dX8_reads_68 rfl (lv_at hl 2 rfl) ?_
      refine lv_iload_n hx hb dX8_reads_69 rfl (lv_at hl 3 rfl) ?_
      refine lv_iconst (v := 1) hx hb dX8_reads_70 rfl ?_
      refine lv_iadd hx hb dX8_reads_71 ?_
      obtain ⟨r6, hc5, h⟩ := ms_bdE h
      refine kX8_numberAt Cx hI hc5 wd_12_19 (Nat.le_of_ble_eq_true rfl) (Nat.le_of_ble_eq_true rfl) hl.1 (Nat.le_of_ble_eq_true rfl) dX8_reads_72 (fun H locs hI => ?_)
      obtain ⟨hg, h⟩ := ms_gE h
      refine ms_sto Cx hI 3 shM_3 hg dX8_reads_75 (fun H locs σ7 eσ7 hI => ?_)
      have h := ms_ltE eσ7 h
      refine lv_aload_n hx hb dX8_reads_76 rfl (lv_at hl 2 rfl) ?_
      refine gr_X8_5 Cx hI wd_6_16 dX8_reads_77 ?_
      refine lv_aload_n hx hb dX8_reads_80 rfl (lv_at hl 2 rfl) ?_
      refine gi_X8_3 Cx hI wd_11_20 dX8_reads_81 ?_
      refine lv_aload_n hx hb dX8_reads_84 rfl (lv_at hl 2 rfl) ?_
      refine lv_iload_n hx hb dX8_reads_85 rfl (lv_at hl 3 rfl) ?_
      refine lv_iconst (v := 3) hx hb dX8_reads_86 rfl ?_
      refine lv_iadd hx hb dX8_reads_87 ?_
      obtain ⟨r9, hc8, h⟩ := ms_bdE h
      refine kX8_numberAt Cx hI hc8 wd_12_19 (Nat.le_of_ble_eq_true rfl) (Nat.le_of_ble_eq_true rfl) hl.1 (Nat.le_of_ble_eq_true rfl) dX8_reads_88 (fun H locs hI => ?_)
      obtain ⟨hg, h⟩ := ms_gE h
      refine ms_sto Cx hI 4 shM_4 hg dX8_reads_91 (fun H locs σ10 eσ10 hI => ?_)
      have h := ms_ltE eσ10 h
      refine lv_aload_n hx hb dX8_reads_92 rfl (lv_at hl 2 rfl) ?_
      refine gr_X8_6 Cx hI wd_6_17 dX8_reads_93 ?_
      refine lv_aload_n hx hb dX8_reads_96 rfl (lv_at hl 2 rfl) ?_
      refine gi_X8_3 Cx hI wd_11_20 dX8_reads_97 ?_
      refine lv_aload_n hx hb dX8_reads_100 rfl (lv_at hl 2 rfl) ?_
      refine lv_iload_n hx hb dX8_reads_101 rfl (lv_at hl 3 rfl) ?_
      refine lv_iconst (v := 5) hx hb dX8_reads_102 rfl ?_
      refine lv_iadd hx hb dX8_reads_103 ?_
      obtain ⟨r12, hc11, h⟩ := ms_bdE h
      refine kX8_numberAt Cx hI hc11 wd_12_19 (Nat.le_of_ble_eq_true rfl) (Nat.le_of_ble_eq_true rfl) hl.1 (Nat.le_of_ble_eq_true rfl) dX8_reads_104 (fun H locs hI => ?_)
      obtain ⟨hg, h⟩ := ms_gE h
      refine ms_sto Cx hI 5 shM_5 hg dX8_reads_107 (fun H locs σ13 eσ13 hI => ?_)
      have h := ms_ltE eσ13 h
      refine lv_aload_n hx hb dX8_reads_108 rfl (lv_at hl 2 rfl) ?_
      refine lv_iload_n hx hb dX8_reads_109 rfl (lv_at hl 3 rfl) ?_
      refine lv_bipush (v := 7) hx hb dX8_reads_110 rfl ?_
      refine lv_iadd hx hb dX8_reads_112 ?_
      obtain ⟨r15, hc14, h⟩ := ms_bdE h
      refine kX8_byteAt Cx hI hc14 wd_12_3 (Nat.le_of_ble_eq_true rfl) (Nat.le_of_ble_eq_true rfl) hl.1 (Nat.le_of_ble_eq_true rfl) dX8_reads_113 (fun H locs hI => ?_)
      refine lv_bipush (v := 33) hx hb dX8_reads_116 rfl ?_
      refine lv_icmp_ne (tgt := 125) hx hb dX8_reads_118 rfl (fun hc => ?_) (fun hc => ?_)
      · have h := ms_ifF hc h
        refine lv_iconst (v := 0) hx hb dX8_reads_125 rfl ?_
        exact wX8_reads_126 Cx out K17 hK17 y1 r4 0 σ13 _ _ _ hI (lv_sub hl [2, 3, 0] rfl) h
      · have h := ms_ifT hc h
        refine lv_iconst (v := 1) hx hb dX8_reads_121 rfl ?_
        refine lv_goto (tgt := 126) hx hb dX8_reads_122 rfl ?_
        exact wX8_reads_126 Cx out K17 hK17 y1 r4 1 σ13 _ _ _ hI (lv_sub hl [2, 3, 0] rfl) h
set_option maxHeartbeats 4000000 in
set_option maxRecDepth 100000 in
theorem wX8_reads_17 (Cx : ms_C p s m args meth c D cA a shM cX8_reads 5 RX8 (some .int)) (out : Int32 × Mm) : ∀ (n : Nat), ∀ (y1 : Int32) , ∀ (σ : Mm) (H : Heap) (locs : List Loc) (ls : Array Slot), ms_I D cA a shM s σ H locs → lv_has ls 5 [(0, .ref (a 0)), (1, .int y1)] → fX8_reads_17 n y1 σ = some out → W p l e rmX8_reads s m args below meth c H locs 0 0 (MQ below (ms_Qi D cA a shM out.1 out.2) args s 0 0 (ms_A a shM.length)) (F0 m 17 ls []) := by
  have hx := Cx.1
  have hb := Cx.2.1
  intro n
  induction n with
  | zero =>
    intro y1 σ H locs ls hI hl h
    exact nomatch (show none = some out from h)
  | succ n ih =>
    intro y1 σ H locs ls hI hl h
    rw [fX8_reads_17] at h
    refine lv_iload_n hx hb dX8_reads_17 rfl (lv_at hl 1 rfl) ?_
    refine lv_aload_n hx hb dX8_reads_18 rfl (lv_at hl 0 rfl) ?_
    refine gi_X8_0 Cx hI wd_10_19 dX8_reads_19 ?_
    refine lv_icmp_lt (tgt := 29) hx hb dX8_reads_22 rfl (fun hc => ?_) (fun hc => ?_)
    · have h := ms_ifT hc h
      exact wX8_reads_29 Cx out (fX8_reads_17 n) ih y1 σ _ _ _ hI (lv_sub hl [0, 1] rfl) h
    · have h := ms_ifF hc h
      refine lv_iload_n hx hb dX8_reads_25 rfl (lv_at hl 1 rfl) ?_
      refine lv_if_le (tgt := 421) hx hb dX8_reads_26 rfl (fun hc => ?_) (fun hc => ?_)
      · have h := ms_ifT hc h
        refine lv_iconst (v := -1) hx hb dX8_reads_421 rfl ?_
        exact ms_riw Cx hI h dX8_reads_422
      · have h := ms_ifF hc h
        exact wX8_reads_29 Cx out (fX8_reads_17 n) ih y1 σ _ _ _ hI (lv_sub hl [0, 1] rfl) h
set_option maxHeartbeats 4000000 in
set_option maxRecDepth 100000 in
theorem wX8_reads (Cx : ms_C p s m args meth c D cA a shM cX8_reads 5 RX8 (some .int)) (out : Int32 × Mm) : ∀ (σ : Mm) (H : Heap) (locs : List Loc) (ls : Array Slot), ms_I D cA a shM s σ H locs → lv_has ls 5 [(0, .ref (a 0))] → fX8_reads σ = some out → W p l e rmX8_reads s m args below meth c H locs 0 0 (MQ below (ms_Qi D cA a shM out.1 out.2) args s 0 0 (ms_A a shM.length)) (F0 m 0 ls []) := by
  have hx := Cx.1
  have hb := Cx.2.1
  intro σ H locs ls hI hl h
  unfold fX8_reads at h
  refine lv_aload_n hx hb dX8_reads_0 rfl (lv_at hl 0 rfl) ?_
  refine lv_iconst (v := 0) hx hb dX8_reads_1 rfl ?_
  refine pi_X8_3 Cx hI wd_11_20 dX8_reads_2 (fun H locs σ1 eσ1 hI => ?_)
  have h := ms_ltE eσ1 h
  refine lv_aload_n hx hb dX8_reads_5 rfl (lv_at hl 0 rfl) ?_
  refine lv_iconst (v := 0) hx hb dX8_reads_6 rfl ?_
  refine pi_X8_10 Cx hI wd_11_21 dX8_reads_7 (fun H locs σ2 eσ2 hI => ?_)
  have h := ms_ltE eσ2 h
  refine lv_aload_n hx hb dX8_reads_10 rfl (lv_at hl 0 rfl) ?_
  refine lv_iconst (v := 0) hx hb dX8_reads_11 rfl ?_
  refine pi_X8_11 Cx hI wd_11_22 dX8_reads_12 (fun H locs σ3 eσ3 hI => ?_)
  have h := ms_ltE eσ3 h
  refine lv_iconst (v := 0) hx hb dX8_reads_15 rfl ?_
  refine lv_istore_n (lv' := [(1, .int 0), (0, .ref (a 0))]) hx hb dX8_reads_16 rfl hl (by decide) rfl (fun ls hl => ?_)
  exact wX8_reads_17 Cx out  ms_fu 0 σ3 _ _ _ hI (lv_sub hl [1, 0] rfl) h
theorem yvX8_reads : ms_YV yX8_reads RX8 cX8_reads 5 (some .int) 0 := ⟨wd_12_0, wd_12_1, wd_1_5, wd_12_2, rfl, by decide +kernel, by decide +kernel, by decide +kernel⟩
set_option maxHeartbeats 4000000 in
theorem metX8_reads (l : Launch) (hDis : ms_Dis a shM.length) {σ : Mm} {out : Int32 × Mm} (h : fX8_reads σ = some out) : Met l yX8_reads (.code yX8_reads cX8_reads 5 (some .int) :: wsL_law) rmX8_reads (ms_Pc D cA a shM [.ref (a 0)] σ) (ms_Qi D cA a shM out.1 out.2) 0 0 (ms_A a shM.length) := by
  refine Met.ofW (cc := cX8_reads) (maxL := 5) (ret := (some .int)) (by decide) rfl ?_
  intro p e s m args below meth c s₁ B hml hv
  obtain ⟨rfl, hK, hN, hP⟩ := hv
  have hl := lv_entry ([.ref (a 0)]) (n := 5) (Nat.le_of_ble_eq_true rfl)
  rw [lg_entry_eq]
  generalize (lg_sl ([.ref (a 0)]) ++ List.replicate (5 - (lg_sl ([.ref (a 0)])).length) Slot.unset).toArray = ls at hl ⊢
  exact wX8_reads ⟨B.exec, B.bytes, hml, findClass_of_methodNamed B.named, fun w hw => atoms_spec (ws := .code yX8_reads cX8_reads 5 (some .int) :: wsL_law) B.pre w (List.mem_cons_of_mem _ hw), B.returns, B.notSynchronized, hK, hDis, hN⟩ out σ s.heap [] ls ⟨hP, va_S.rf⟩ hl h
theorem kX8_reads (Cx : ms_C p s m args meth c D cA a shM cc nL own ret) {σ : Mm} {H : Heap} {locs : List Loc} (hI : ms_I D cA a shM s σ H locs) {out : Int32 × Mm} (h : fX8_reads σ = some out) (hl : Cond.methodLink own idx yX8_reads ∈ wsL_law) (hf : 5 + 1 ≤ R.frames) (hlo : 8 + (5 + 11) + 111 ≤ R.locals) (hsz : ls.size = nL) (hW : (rest.map fun v => v.category).sum ≤ 8) (hd : decode cc pc = .ok (.invokevirtual idx, 3)) (kk : ∀ (H1 : Heap) (locs1 : List Loc), ms_I D cA a shM s out.2 H1 locs1 → W p l e R s m args below meth c H1 locs1 0 0 Q (F0 m (pc + 3) ls (.int out.1 :: rest))) : W p l e R s m args below meth c H locs 0 0 Q (F0 m pc ls (.ref (a 0) :: rest)) :=
  ms_ci hI (ms_runV (av := []) Cx hI 0 shM_0 (ci := 8) rfl rfl yvX8_reads (metX8_reads l Cx.2.2.2.2.2.2.2.2.1  h) ⟨rfl, rfl⟩ hl ⟨hf, hlo⟩ rfl hsz rfl hW ⟨Nat.zero_le _, Nat.zero_le _⟩ hd) kk
end WK
