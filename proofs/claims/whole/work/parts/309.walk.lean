section WK
variable {p : Program} {l : Launch} {e : Env} {R : Room} {s : State} {m : MethodId} {args : Array Value} {below : List Frame} {meth : Method} {c : Code} {Q : State → Prop}
variable {D : va_G} {cA : Nat → ClassId} {a : Nat → Nat} {cc : ByteArray} {nL idx : Nat} {own : String} {ret : Option FieldType} {pc : Nat} {ls : Array Slot} {rest : List Value}
/-! X8 areDays (I)Z -/
theorem dX8_areDays_0 : decode cX8_areDays 0 = .ok (.iload_n 0, 1) := by decide +kernel
theorem dX8_areDays_1 : decode cX8_areDays 1 = .ok (.iconst 1, 1) := by decide +kernel
theorem dX8_areDays_2 : decode cX8_areDays 2 = .ok (.bipush 9, 2) := by decide +kernel
theorem dX8_areDays_4 : decode cX8_areDays 4 = .ok (.invokestatic 95, 3) := by decide +kernel
theorem dX8_areDays_7 : decode cX8_areDays 7 = .ok (.ireturn, 1) := by decide +kernel
abbrev rmX8_areDays : Room := { frames := 1, cells := 0, slots := 0, locals := 22 }
set_option maxHeartbeats 4000000 in
set_option maxRecDepth 100000 in
theorem wX8_areDays (Cx : ms_C p s m args meth c D cA a shM cX8_areDays 1 RX8 (some .boolean)) (out : Int32) {σ : Mm} : ∀ (p0 : Int32) , ∀ (H : Heap) (locs : List Loc) (ls : Array Slot), ms_I D cA a shM s σ H locs → lv_has ls 1 [(0, .int p0)] → fX8_areDays p0 = some out → W p l e rmX8_areDays s m args below meth c H locs 0 0 (MQ below (ms_Qi D cA a shM out σ) args s 0 0 (ms_A a shM.length)) (F0 m 0 ls []) := by
  have hx := Cx.1
  have hb := Cx.2.1
  intro p0 H locs ls hI hl h
  unfold fX8_areDays at h
  refine lv_iload_n hx hb dX8_areDays_0 rfl (lv_at hl 0 rfl) ?_
  refine lv_iconst (v := 1) hx hb dX8_areDays_1 rfl ?_
  refine lv_bipush (v := 9) hx hb dX8_areDays_2 rfl ?_
  obtain ⟨r2, hc1, h⟩ := ms_bdE h
  refine kX8_in Cx hI hc1 (Or.inl wd_10_20) (Nat.le_of_ble_eq_true rfl) (Nat.le_of_ble_eq_true rfl) hl.1 (Nat.le_of_ble_eq_true rfl) dX8_areDays_4 (fun H locs hI => ?_)
  obtain ⟨hg, h⟩ := ms_gE h
  exact ms_rz Cx hI hg (Option.some.inj h) rfl dX8_areDays_7
theorem yvX8_areDays : ms_YS yX8_areDays cX8_areDays 1 (some .boolean) 1 := ⟨wd_25_20, wd_1_5, wd_25_21, by decide +kernel, by decide +kernel, by decide +kernel⟩
set_option maxHeartbeats 4000000 in
theorem metX8_areDays (l : Launch) (hDis : ms_Dis a shM.length) {σ : Mm} {p0 : Int32} {out : Int32} (h : fX8_areDays p0 = some out) : Met l yX8_areDays (.code yX8_areDays cX8_areDays 1 (some .boolean) :: wsL_law) rmX8_areDays (ms_Pc D cA a shM [.int p0] σ) (ms_Qi D cA a shM out σ) 0 0 (ms_A a shM.length) := by
  refine Met.ofW (cc := cX8_areDays) (maxL := 1) (ret := (some .boolean)) (by decide) rfl ?_
  intro p e s m args below meth c s₁ B hml hv
  obtain ⟨rfl, hK, hN, hP⟩ := hv
  have hl := lv_entry ([.int p0]) (n := 1) (Nat.le_of_ble_eq_true rfl)
  rw [lg_entry_eq]
  generalize (lg_sl ([.int p0]) ++ List.replicate (1 - (lg_sl ([.int p0])).length) Slot.unset).toArray = ls at hl ⊢
  exact wX8_areDays ⟨B.exec, B.bytes, hml, findClass_of_methodNamed B.named, fun w hw => atoms_spec (ws := .code yX8_areDays cX8_areDays 1 (some .boolean) :: wsL_law) B.pre w (List.mem_cons_of_mem _ hw), B.returns, B.notSynchronized, hK, hDis, hN⟩ out p0 s.heap [] ls ⟨hP, va_S.rf⟩ hl h
theorem kX8_areDays (Cx : ms_C p s m args meth c D cA a shM cc nL own ret) {σ : Mm} {H : Heap} {locs : List Loc} (hI : ms_I D cA a shM s σ H locs) {p0 : Int32} {out : Int32} (h : fX8_areDays p0 = some out) (hl : Cond.methodLink own idx yX8_areDays ∈ wsL_law ∨ (own, idx, yX8_areDays) ∈ ms_nq) (hf : 1 + 1 ≤ R.frames) (hlo : 8 + (1 + 11) + 22 ≤ R.locals) (hsz : ls.size = nL) (hW : (rest.map fun v => v.category).sum ≤ 8) (hd : decode cc pc = .ok (.invokestatic idx, 3)) (kk : ∀ (H1 : Heap) (locs1 : List Loc), ms_I D cA a shM s σ H1 locs1 → W p l e R s m args below meth c H1 locs1 0 0 Q (F0 m (pc + 3) ls (.int out :: rest))) : W p l e R s m args below meth c H locs 0 0 Q (F0 m pc ls (.int p0 :: rest)) :=
  ms_ci hI (ms_runS (av := [.int p0]) Cx hI yvX8_areDays (metX8_areDays l Cx.2.2.2.2.2.2.2.2.1  h) ⟨rfl, rfl⟩ hl ⟨hf, hlo⟩ rfl hsz rfl hW ⟨Nat.zero_le _, Nat.zero_le _⟩ hd) kk
/-! X8 stood (II)I -/
theorem dX8_stood_0 : decode cX8_stood 0 = .ok (.aload_n 0, 1) := by decide +kernel
theorem dX8_stood_1 : decode cX8_stood 1 = .ok (.iload_n 1, 1) := by decide +kernel
theorem dX8_stood_2 : decode cX8_stood 2 = .ok (.invokevirtual 143, 3) := by decide +kernel
theorem dX8_stood_5 : decode cX8_stood 5 = .ok (.ifCond .eq 19, 3) := by decide +kernel
theorem dX8_stood_8 : decode cX8_stood 8 = .ok (.iload_n 2, 1) := by decide +kernel
theorem dX8_stood_9 : decode cX8_stood 9 = .ok (.invokestatic 203, 3) := by decide +kernel
theorem dX8_stood_12 : decode cX8_stood 12 = .ok (.ifCond .eq 12, 3) := by decide +kernel
theorem dX8_stood_15 : decode cX8_stood 15 = .ok (.aload_n 0, 1) := by decide +kernel
theorem dX8_stood_16 : decode cX8_stood 16 = .ok (.iload_n 1, 1) := by decide +kernel
theorem dX8_stood_17 : decode cX8_stood 17 = .ok (.iload_n 2, 1) := by decide +kernel
theorem dX8_stood_18 : decode cX8_stood 18 = .ok (.invokevirtual 206, 3) := by decide +kernel
theorem dX8_stood_21 : decode cX8_stood 21 = .ok (.goto 5, 3) := by decide +kernel
theorem dX8_stood_24 : decode cX8_stood 24 = .ok (.bipush (-2), 2) := by decide +kernel
theorem dX8_stood_26 : decode cX8_stood 26 = .ok (.ireturn, 1) := by decide +kernel
abbrev rmX8_stood : Room := { frames := 9, cells := 0, slots := 0, locals := 199 }
set_option maxHeartbeats 4000000 in
set_option maxRecDepth 100000 in
theorem wX8_stood (Cx : ms_C p s m args meth c D cA a shM cX8_stood 3 RX8 (some .int)) (out : Int32 × Mm) : ∀ (p0 : Int32) (p1 : Int32) , ∀ (σ : Mm) (H : Heap) (locs : List Loc) (ls : Array Slot), ms_I D cA a shM s σ H locs → lv_has ls 3 [(0, .ref (a 0)), (1, .int p0), (2, .int p1)] → fX8_stood p0 p1 σ = some out → W p l e rmX8_stood s m args below meth c H locs 0 0 (MQ below (ms_Qi D cA a shM out.1 out.2) args s 0 0 (ms_A a shM.length)) (F0 m 0 ls []) := by
  have hx := Cx.1
  have hb := Cx.2.1
  intro p0 p1 σ H locs ls hI hl h
  unfold fX8_stood at h
  refine lv_aload_n hx hb dX8_stood_0 rfl (lv_at hl 0 rfl) ?_
  refine lv_iload_n hx hb dX8_stood_1 rfl (lv_at hl 1 rfl) ?_
  obtain ⟨⟨r2, σ3⟩, hc1, h⟩ := ms_bdE h
  refine kX8_isThing Cx hI hc1 wd_13_23 (Nat.le_of_ble_eq_true rfl) (Nat.le_of_ble_eq_true rfl) hl.1 (Nat.le_of_ble_eq_true rfl) dX8_stood_2 (fun H locs hI => ?_)
  refine lv_if_eq (tgt := 24) hx hb dX8_stood_5 rfl (fun hc => ?_) (fun hc => ?_)
  · have h := ms_ifT hc h
    refine lv_bipush (v := -2) hx hb dX8_stood_24 rfl ?_
    exact ms_riw Cx hI h dX8_stood_26
  · have h := ms_ifF hc h
    refine lv_iload_n hx hb dX8_stood_8 rfl (lv_at hl 2 rfl) ?_
    obtain ⟨r5, hc4, h⟩ := ms_bdE h
    refine kX8_areDays Cx hI hc4 (Or.inl wd_25_19) (Nat.le_of_ble_eq_true rfl) (Nat.le_of_ble_eq_true rfl) hl.1 (Nat.le_of_ble_eq_true rfl) dX8_stood_9 (fun H locs hI => ?_)
    refine lv_if_eq (tgt := 24) hx hb dX8_stood_12 rfl (fun hc => ?_) (fun hc => ?_)
    · have h := ms_ifT hc h
      refine lv_bipush (v := -2) hx hb dX8_stood_24 rfl ?_
      exact ms_riw Cx hI h dX8_stood_26
    · have h := ms_ifF hc h
      refine lv_aload_n hx hb dX8_stood_15 rfl (lv_at hl 0 rfl) ?_
      refine lv_iload_n hx hb dX8_stood_16 rfl (lv_at hl 1 rfl) ?_
      refine lv_iload_n hx hb dX8_stood_17 rfl (lv_at hl 2 rfl) ?_
      obtain ⟨⟨r7, σ8⟩, hc6, h⟩ := ms_bdE h
      refine kX8_stoodOf Cx hI hc6 wd_25_22 (Nat.le_of_ble_eq_true rfl) (Nat.le_of_ble_eq_true rfl) hl.1 (Nat.le_of_ble_eq_true rfl) dX8_stood_18 (fun H locs hI => ?_)
      refine lv_goto (tgt := 26) hx hb dX8_stood_21 rfl ?_
      exact ms_riw Cx hI h dX8_stood_26
theorem yvX8_stood : ms_YV yX8_stood RX8 cX8_stood 3 (some .int) 2 := ⟨wd_25_16, wd_25_17, wd_1_5, wd_25_18, rfl, by decide +kernel, by decide +kernel, by decide +kernel⟩
set_option maxHeartbeats 4000000 in
theorem metX8_stood (l : Launch) (hDis : ms_Dis a shM.length) {σ : Mm} {p0 : Int32} {p1 : Int32} {out : Int32 × Mm} (h : fX8_stood p0 p1 σ = some out) : Met l yX8_stood (.code yX8_stood cX8_stood 3 (some .int) :: wsL_law) rmX8_stood (ms_Pc D cA a shM [.ref (a 0), .int p0, .int p1] σ) (ms_Qi D cA a shM out.1 out.2) 0 0 (ms_A a shM.length) := by
  refine Met.ofW (cc := cX8_stood) (maxL := 3) (ret := (some .int)) (by decide) rfl ?_
  intro p e s m args below meth c s₁ B hml hv
  obtain ⟨rfl, hK, hN, hP⟩ := hv
  have hl := lv_entry ([.ref (a 0), .int p0, .int p1]) (n := 3) (Nat.le_of_ble_eq_true rfl)
  rw [lg_entry_eq]
  generalize (lg_sl ([.ref (a 0), .int p0, .int p1]) ++ List.replicate (3 - (lg_sl ([.ref (a 0), .int p0, .int p1])).length) Slot.unset).toArray = ls at hl ⊢
  exact wX8_stood ⟨B.exec, B.bytes, hml, findClass_of_methodNamed B.named, fun w hw => atoms_spec (ws := .code yX8_stood cX8_stood 3 (some .int) :: wsL_law) B.pre w (List.mem_cons_of_mem _ hw), B.returns, B.notSynchronized, hK, hDis, hN⟩ out p0 p1 σ s.heap [] ls ⟨hP, va_S.rf⟩ hl h
theorem kX8_stood (Cx : ms_C p s m args meth c D cA a shM cc nL own ret) {σ : Mm} {H : Heap} {locs : List Loc} (hI : ms_I D cA a shM s σ H locs) {p0 : Int32} {p1 : Int32} {out : Int32 × Mm} (h : fX8_stood p0 p1 σ = some out) (hl : Cond.methodLink own idx yX8_stood ∈ wsL_law) (hf : 9 + 1 ≤ R.frames) (hlo : 8 + (3 + 11) + 199 ≤ R.locals) (hsz : ls.size = nL) (hW : (rest.map fun v => v.category).sum ≤ 8) (hd : decode cc pc = .ok (.invokevirtual idx, 3)) (kk : ∀ (H1 : Heap) (locs1 : List Loc), ms_I D cA a shM s out.2 H1 locs1 → W p l e R s m args below meth c H1 locs1 0 0 Q (F0 m (pc + 3) ls (.int out.1 :: rest))) : W p l e R s m args below meth c H locs 0 0 Q (F0 m pc ls (.int p1 :: .int p0 :: .ref (a 0) :: rest)) :=
  ms_ci hI (ms_runV (av := [.int p0, .int p1]) Cx hI 0 shM_0 (ci := 8) rfl rfl yvX8_stood (metX8_stood l Cx.2.2.2.2.2.2.2.2.1  h) ⟨rfl, rfl⟩ hl ⟨hf, hlo⟩ rfl hsz rfl hW ⟨Nat.zero_le _, Nat.zero_le _⟩ hd) kk
/-! X8 lostOf (I)I -/
theorem dX8_lostOf_0 : decode cX8_lostOf 0 = .ok (.aload_n 0, 1) := by decide +kernel
theorem dX8_lostOf_1 : decode cX8_lostOf 1 = .ok (.invokevirtual 191, 3) := by decide +kernel
theorem dX8_lostOf_4 : decode cX8_lostOf 4 = .ok (.iconst 0, 1) := by decide +kernel
theorem dX8_lostOf_5 : decode cX8_lostOf 5 = .ok (.istore_n 2, 1) := by decide +kernel
theorem dX8_lostOf_6 : decode cX8_lostOf 6 = .ok (.iconst 0, 1) := by decide +kernel
theorem dX8_lostOf_7 : decode cX8_lostOf 7 = .ok (.istore_n 3, 1) := by decide +kernel
theorem dX8_lostOf_8 : decode cX8_lostOf 8 = .ok (.iload_n 3, 1) := by decide +kernel
theorem dX8_lostOf_9 : decode cX8_lostOf 9 = .ok (.bipush 24, 2) := by decide +kernel
theorem dX8_lostOf_11 : decode cX8_lostOf 11 = .ok (.iload_n 1, 1) := by decide +kernel
theorem dX8_lostOf_12 : decode cX8_lostOf 12 = .ok (.imul, 1) := by decide +kernel
theorem dX8_lostOf_13 : decode cX8_lostOf 13 = .ok (.if_icmp .ge 18, 3) := by decide +kernel
theorem dX8_lostOf_16 : decode cX8_lostOf 16 = .ok (.iload_n 2, 1) := by decide +kernel
theorem dX8_lostOf_17 : decode cX8_lostOf 17 = .ok (.aload_n 0, 1) := by decide +kernel
theorem dX8_lostOf_18 : decode cX8_lostOf 18 = .ok (.getfield 55, 3) := by decide +kernel
theorem dX8_lostOf_21 : decode cX8_lostOf 21 = .ok (.iload_n 3, 1) := by decide +kernel
theorem dX8_lostOf_22 : decode cX8_lostOf 22 = .ok (.iaload, 1) := by decide +kernel
theorem dX8_lostOf_23 : decode cX8_lostOf 23 = .ok (.iadd, 1) := by decide +kernel
theorem dX8_lostOf_24 : decode cX8_lostOf 24 = .ok (.istore_n 2, 1) := by decide +kernel
theorem dX8_lostOf_25 : decode cX8_lostOf 25 = .ok (.iinc 3 1, 3) := by decide +kernel
theorem dX8_lostOf_28 : decode cX8_lostOf 28 = .ok (.goto (-20), 3) := by decide +kernel
theorem dX8_lostOf_31 : decode cX8_lostOf 31 = .ok (.iload_n 2, 1) := by decide +kernel
theorem dX8_lostOf_32 : decode cX8_lostOf 32 = .ok (.ireturn, 1) := by decide +kernel
abbrev rmX8_lostOf : Room := { frames := 8, cells := 0, slots := 0, locals := 177 }
set_option maxHeartbeats 4000000 in
set_option maxRecDepth 100000 in
theorem wX8_lostOf_8 (Cx : ms_C p s m args meth c D cA a shM cX8_lostOf 4 RX8 (some .int)) (out : Int32 × Mm) : ∀ (n : Nat), ∀ (y1 : Int32) (y2 : Int32) (y3 : Int32) , ∀ (σ : Mm) (H : Heap) (locs : List Loc) (ls : Array Slot), ms_I D cA a shM s σ H locs → lv_has ls 4 [(0, .ref (a 0)), (1, .int y1), (2, .int y2), (3, .int y3)] → fX8_lostOf_8 n y1 y2 y3 σ = some out → W p l e rmX8_lostOf s m args below meth c H locs 0 0 (MQ below (ms_Qi D cA a shM out.1 out.2) args s 0 0 (ms_A a shM.length)) (F0 m 8 ls []) := by
  have hx := Cx.1
  have hb := Cx.2.1
  intro n
  induction n with
  | zero =>
    intro y1 y2 y3 σ H locs ls hI hl h
    exact nomatch (show none = some out from h)
  | succ n ih =>
    intro y1 y2 y3 σ H locs ls hI hl h
    rw [fX8_lostOf_8] at h
    refine lv_iload_n hx hb dX8_lostOf_8 rfl (lv_at hl 3 rfl) ?_
    refine lv_bipush (v := 24) hx hb dX8_lostOf_9 rfl ?_
    refine lv_iload_n hx hb dX8_lostOf_11 rfl (lv_at hl 1 rfl) ?_
    refine lv_imul hx hb dX8_lostOf_12 ?_
    refine lv_icmp_ge (tgt := 31) hx hb dX8_lostOf_13 rfl (fun hc => ?_) (fun hc => ?_)
    · have h := ms_ifT hc h
      refine lv_iload_n hx hb dX8_lostOf_31 rfl (lv_at hl 2 rfl) ?_
      exact ms_riw Cx hI h dX8_lostOf_32
    · have h := ms_ifF hc h
      refine lv_iload_n hx hb dX8_lostOf_16 rfl (lv_at hl 2 rfl) ?_
      refine lv_aload_n hx hb dX8_lostOf_17 rfl (lv_at hl 0 rfl) ?_
      refine gr_X8_19 Cx hI wd_7_4 dX8_lostOf_18 ?_
      refine lv_iload_n hx hb dX8_lostOf_21 rfl (lv_at hl 3 rfl) ?_
      obtain ⟨hg, h⟩ := ms_gE h
      refine ms_ld Cx hI 16 shM_16 hg dX8_lostOf_22 ?_
      refine lv_iadd hx hb dX8_lostOf_23 ?_
      refine lv_istore_n (lv' := [(2, .int (y2 + (σ 16 (ms_ix y3)))), (0, .ref (a 0)), (1, .int y1), (3, .int y3)]) hx hb dX8_lostOf_24 rfl hl (by decide) rfl (fun ls hl => ?_)
      refine lv_iinc (v := y3 + 1) (lv' := [(3, .int (y3 + 1)), (2, .int (y2 + (σ 16 (ms_ix y3)))), (0, .ref (a 0)), (1, .int y1)]) hx hb dX8_lostOf_25 hl (k := 3) rfl rfl (by decide) rfl (fun ls hl => ?_)
      refine lv_goto (tgt := 8) hx hb dX8_lostOf_28 rfl ?_
      exact ih y1 (y2 + (σ 16 (ms_ix y3))) (y3 + 1) σ _ _ _ hI (lv_sub hl [2, 3, 1, 0] rfl) h
set_option maxHeartbeats 4000000 in
set_option maxRecDepth 100000 in
theorem wX8_lostOf (Cx : ms_C p s m args meth c D cA a shM cX8_lostOf 4 RX8 (some .int)) (out : Int32 × Mm) : ∀ (p0 : Int32) , ∀ (σ : Mm) (H : Heap) (locs : List Loc) (ls : Array Slot), ms_I D cA a shM s σ H locs → lv_has ls 4 [(0, .ref (a 0)), (1, .int p0)] → fX8_lostOf p0 σ = some out → W p l e rmX8_lostOf s m args below meth c H locs 0 0 (MQ below (ms_Qi D cA a shM out.1 out.2) args s 0 0 (ms_A a shM.length)) (F0 m 0 ls []) := by
  have hx := Cx.1
  have hb := Cx.2.1
  intro p0 σ H locs ls hI hl h
  unfold fX8_lostOf at h
  refine lv_aload_n hx hb dX8_lostOf_0 rfl (lv_at hl 0 rfl) ?_
  obtain ⟨σ2, hc1, h⟩ := ms_bdE h
  refine kX8_lays Cx hI hc1 wd_24_3 (Nat.le_of_ble_eq_true rfl) (Nat.le_of_ble_eq_true rfl) hl.1 (Nat.le_of_ble_eq_true rfl) dX8_lostOf_1 (fun H locs hI => ?_)
  refine lv_iconst (v := 0) hx hb dX8_lostOf_4 rfl ?_
  refine lv_istore_n (lv' := [(2, .int 0), (0, .ref (a 0)), (1, .int p0)]) hx hb dX8_lostOf_5 rfl hl (by decide) rfl (fun ls hl => ?_)
  refine lv_iconst (v := 0) hx hb dX8_lostOf_6 rfl ?_
  refine lv_istore_n (lv' := [(3, .int 0), (2, .int 0), (0, .ref (a 0)), (1, .int p0)]) hx hb dX8_lostOf_7 rfl hl (by decide) rfl (fun ls hl => ?_)
  exact wX8_lostOf_8 Cx out  ms_fu p0 0 0 σ2 _ _ _ hI (lv_sub hl [2, 3, 1, 0] rfl) h
theorem yvX8_lostOf : ms_YV yX8_lostOf RX8 cX8_lostOf 4 (some .int) 1 := ⟨wd_26_19, wd_26_20, wd_1_5, wd_26_21, rfl, by decide +kernel, by decide +kernel, by decide +kernel⟩
set_option maxHeartbeats 4000000 in
theorem metX8_lostOf (l : Launch) (hDis : ms_Dis a shM.length) {σ : Mm} {p0 : Int32} {out : Int32 × Mm} (h : fX8_lostOf p0 σ = some out) : Met l yX8_lostOf (.code yX8_lostOf cX8_lostOf 4 (some .int) :: wsL_law) rmX8_lostOf (ms_Pc D cA a shM [.ref (a 0), .int p0] σ) (ms_Qi D cA a shM out.1 out.2) 0 0 (ms_A a shM.length) := by
  refine Met.ofW (cc := cX8_lostOf) (maxL := 4) (ret := (some .int)) (by decide) rfl ?_
  intro p e s m args below meth c s₁ B hml hv
  obtain ⟨rfl, hK, hN, hP⟩ := hv
  have hl := lv_entry ([.ref (a 0), .int p0]) (n := 4) (Nat.le_of_ble_eq_true rfl)
  rw [lg_entry_eq]
  generalize (lg_sl ([.ref (a 0), .int p0]) ++ List.replicate (4 - (lg_sl ([.ref (a 0), .int p0])).length) Slot.unset).toArray = ls at hl ⊢
  exact wX8_lostOf ⟨B.exec, B.bytes, hml, findClass_of_methodNamed B.named, fun w hw => atoms_spec (ws := .code yX8_lostOf cX8_lostOf 4 (some .int) :: wsL_law) B.pre w (List.mem_cons_of_mem _ hw), B.returns, B.notSynchronized, hK, hDis, hN⟩ out p0 σ s.heap [] ls ⟨hP, va_S.rf⟩ hl h
theorem kX8_lostOf (Cx : ms_C p s m args meth c D cA a shM cc nL own ret) {σ : Mm} {H : Heap} {locs : List Loc} (hI : ms_I D cA a shM s σ H locs) {p0 : Int32} {out : Int32 × Mm} (h : fX8_lostOf p0 σ = some out) (hl : Cond.methodLink own idx yX8_lostOf ∈ wsL_law) (hf : 8 + 1 ≤ R.frames) (hlo : 8 + (4 + 11) + 177 ≤ R.locals) (hsz : ls.size = nL) (hW : (rest.map fun v => v.category).sum ≤ 8) (hd : decode cc pc = .ok (.invokevirtual idx, 3)) (kk : ∀ (H1 : Heap) (locs1 : List Loc), ms_I D cA a shM s out.2 H1 locs1 → W p l e R s m args below meth c H1 locs1 0 0 Q (F0 m (pc + 3) ls (.int out.1 :: rest))) : W p l e R s m args below meth c H locs 0 0 Q (F0 m pc ls (.int p0 :: .ref (a 0) :: rest)) :=
  ms_ci hI (ms_runV (av := [.int p0]) Cx hI 0 shM_0 (ci := 8) rfl rfl yvX8_lostOf (metX8_lostOf l Cx.2.2.2.2.2.2.2.2.1  h) ⟨rfl, rfl⟩ hl ⟨hf, hlo⟩ rfl hsz rfl hW ⟨Nat.zero_le _, Nat.zero_le _⟩ hd) kk
/-! X8 lost (I)I -/
theorem dX8_lost_0 : decode cX8_lost 0 = .ok (.iload_n 1, 1) := by decide +kernel
theorem dX8_lost_1 : decode cX8_lost 1 = .ok (.invokestatic 203, 3) := by decide +kernel
theorem dX8_lost_4 : decode cX8_lost 4 = .ok (.ifCond .eq 11, 3) := by decide +kernel
theorem dX8_lost_7 : decode cX8_lost 7 = .ok (.aload_n 0, 1) := by decide +kernel
theorem dX8_lost_8 : decode cX8_lost 8 = .ok (.iload_n 1, 1) := by decide +kernel
theorem dX8_lost_9 : decode cX8_lost 9 = .ok (.invokevirtual 209, 3) := by decide +kernel
theorem dX8_lost_12 : decode cX8_lost 12 = .ok (.goto 5, 3) := by decide +kernel
theorem dX8_lost_15 : decode cX8_lost 15 = .ok (.bipush (-2), 2) := by decide +kernel
theorem dX8_lost_17 : decode cX8_lost 17 = .ok (.ireturn, 1) := by decide +kernel
abbrev rmX8_lost : Room := { frames := 9, cells := 0, slots := 0, locals := 200 }
set_option maxHeartbeats 4000000 in
set_option maxRecDepth 100000 in
theorem wX8_lost (Cx : ms_C p s m args meth c D cA a shM cX8_lost 2 RX8 (some .int)) (out : Int32 × Mm) : ∀ (p0 : Int32) , ∀ (σ : Mm) (H : Heap) (locs : List Loc) (ls : Array Slot), ms_I D cA a shM s σ H locs → lv_has ls 2 [(0, .ref (a 0)), (1, .int p0)] → fX8_lost p0 σ = some out → W p l e rmX8_lost s m args below meth c H locs 0 0 (MQ below (ms_Qi D cA a shM out.1 out.2) args s 0 0 (ms_A a shM.length)) (F0 m 0 ls []) := by
  have hx := Cx.1
  have hb := Cx.2.1
  intro p0 σ H locs ls hI hl h
  unfold fX8_lost at h
  refine lv_iload_n hx hb dX8_lost_0 rfl (lv_at hl 1 rfl) ?_
  obtain ⟨r2, hc1, h⟩ := ms_bdE h
  refine kX8_areDays Cx hI hc1 (Or.inl wd_25_19) (Nat.le_of_ble_eq_true rfl) (Nat.le_of_ble_eq_true rfl) hl.1 (Nat.le_of_ble_eq_true rfl) dX8_lost_1 (fun H locs hI => ?_)
  refine lv_if_eq (tgt := 15) hx hb dX8_lost_4 rfl (fun hc => ?_) (fun hc => ?_)
  · have h := ms_ifT hc h
    refine lv_bipush (v := -2) hx hb dX8_lost_15 rfl ?_
    exact ms_riw Cx hI h dX8_lost_17
  · have h := ms_ifF hc h
    refine lv_aload_n hx hb dX8_lost_7 rfl (lv_at hl 0 rfl) ?_
    refine lv_iload_n hx hb dX8_lost_8 rfl (lv_at hl 1 rfl) ?_
    obtain ⟨⟨r4, σ5⟩, hc3, h⟩ := ms_bdE h
    refine kX8_lostOf Cx hI hc3 wd_26_18 (Nat.le_of_ble_eq_true rfl) (Nat.le_of_ble_eq_true rfl) hl.1 (Nat.le_of_ble_eq_true rfl) dX8_lost_9 (fun H locs hI => ?_)
    refine lv_goto (tgt := 17) hx hb dX8_lost_12 rfl ?_
    exact ms_riw Cx hI h dX8_lost_17
theorem yvX8_lost : ms_YV yX8_lost RX8 cX8_lost 2 (some .int) 1 := ⟨wd_26_15, wd_26_16, wd_1_5, wd_26_17, rfl, by decide +kernel, by decide +kernel, by decide +kernel⟩
set_option maxHeartbeats 4000000 in
theorem metX8_lost (l : Launch) (hDis : ms_Dis a shM.length) {σ : Mm} {p0 : Int32} {out : Int32 × Mm} (h : fX8_lost p0 σ = some out) : Met l yX8_lost (.code yX8_lost cX8_lost 2 (some .int) :: wsL_law) rmX8_lost (ms_Pc D cA a shM [.ref (a 0), .int p0] σ) (ms_Qi D cA a shM out.1 out.2) 0 0 (ms_A a shM.length) := by
  refine Met.ofW (cc := cX8_lost) (maxL := 2) (ret := (some .int)) (by decide) rfl ?_
  intro p e s m args below meth c s₁ B hml hv
  obtain ⟨rfl, hK, hN, hP⟩ := hv
  have hl := lv_entry ([.ref (a 0), .int p0]) (n := 2) (Nat.le_of_ble_eq_true rfl)
  rw [lg_entry_eq]
  generalize (lg_sl ([.ref (a 0), .int p0]) ++ List.replicate (2 - (lg_sl ([.ref (a 0), .int p0])).length) Slot.unset).toArray = ls at hl ⊢
  exact wX8_lost ⟨B.exec, B.bytes, hml, findClass_of_methodNamed B.named, fun w hw => atoms_spec (ws := .code yX8_lost cX8_lost 2 (some .int) :: wsL_law) B.pre w (List.mem_cons_of_mem _ hw), B.returns, B.notSynchronized, hK, hDis, hN⟩ out p0 σ s.heap [] ls ⟨hP, va_S.rf⟩ hl h
theorem kX8_lost (Cx : ms_C p s m args meth c D cA a shM cc nL own ret) {σ : Mm} {H : Heap} {locs : List Loc} (hI : ms_I D cA a shM s σ H locs) {p0 : Int32} {out : Int32 × Mm} (h : fX8_lost p0 σ = some out) (hl : Cond.methodLink own idx yX8_lost ∈ wsL_law) (hf : 9 + 1 ≤ R.frames) (hlo : 8 + (2 + 11) + 200 ≤ R.locals) (hsz : ls.size = nL) (hW : (rest.map fun v => v.category).sum ≤ 8) (hd : decode cc pc = .ok (.invokevirtual idx, 3)) (kk : ∀ (H1 : Heap) (locs1 : List Loc), ms_I D cA a shM s out.2 H1 locs1 → W p l e R s m args below meth c H1 locs1 0 0 Q (F0 m (pc + 3) ls (.int out.1 :: rest))) : W p l e R s m args below meth c H locs 0 0 Q (F0 m pc ls (.int p0 :: .ref (a 0) :: rest)) :=
  ms_ci hI (ms_runV (av := [.int p0]) Cx hI 0 shM_0 (ci := 8) rfl rfl yvX8_lost (metX8_lost l Cx.2.2.2.2.2.2.2.2.1  h) ⟨rfl, rfl⟩ hl ⟨hf, hlo⟩ rfl hsz rfl hW ⟨Nat.zero_le _, Nat.zero_le _⟩ hd) kk
/-! X8 flowOf (I)I -/
theorem dX8_flowOf_0 : decode cX8_flowOf 0 = .ok (.aload_n 0, 1) := by decide +kernel
theorem dX8_flowOf_1 : decode cX8_flowOf 1 = .ok (.invokevirtual 191, 3) := by decide +kernel
theorem dX8_flowOf_4 : decode cX8_flowOf 4 = .ok (.aload_n 0, 1) := by decide +kernel
theorem dX8_flowOf_5 : decode cX8_flowOf 5 = .ok (.getfield 58, 3) := by decide +kernel
theorem dX8_flowOf_8 : decode cX8_flowOf 8 = .ok (.iload_n 1, 1) := by decide +kernel
theorem dX8_flowOf_9 : decode cX8_flowOf 9 = .ok (.iaload, 1) := by decide +kernel
theorem dX8_flowOf_10 : decode cX8_flowOf 10 = .ok (.ireturn, 1) := by decide +kernel
abbrev rmX8_flowOf : Room := { frames := 8, cells := 0, slots := 0, locals := 177 }
set_option maxHeartbeats 4000000 in
set_option maxRecDepth 100000 in
theorem wX8_flowOf (Cx : ms_C p s m args meth c D cA a shM cX8_flowOf 2 RX8 (some .int)) (out : Int32 × Mm) : ∀ (p0 : Int32) , ∀ (σ : Mm) (H : Heap) (locs : List Loc) (ls : Array Slot), ms_I D cA a shM s σ H locs → lv_has ls 2 [(0, .ref (a 0)), (1, .int p0)] → fX8_flowOf p0 σ = some out → W p l e rmX8_flowOf s m args below meth c H locs 0 0 (MQ below (ms_Qi D cA a shM out.1 out.2) args s 0 0 (ms_A a shM.length)) (F0 m 0 ls []) := by
  have hx := Cx.1
  have hb := Cx.2.1
  intro p0 σ H locs ls hI hl h
  unfold fX8_flowOf at h
  refine lv_aload_n hx hb dX8_flowOf_0 rfl (lv_at hl 0 rfl) ?_
  obtain ⟨σ2, hc1, h⟩ := ms_bdE h
  refine kX8_lays Cx hI hc1 wd_24_3 (Nat.le_of_ble_eq_true rfl) (Nat.le_of_ble_eq_true rfl) hl.1 (Nat.le_of_ble_eq_true rfl) dX8_flowOf_1 (fun H locs hI => ?_)
  refine lv_aload_n hx hb dX8_flowOf_4 rfl (lv_at hl 0 rfl) ?_
  refine gr_X8_20 Cx hI wd_7_5 dX8_flowOf_5 ?_
  refine lv_iload_n hx hb dX8_flowOf_8 rfl (lv_at hl 1 rfl) ?_
  obtain ⟨hg, h⟩ := ms_gE h
  refine ms_ld Cx hI 17 shM_17 hg dX8_flowOf_9 ?_
  exact ms_riw Cx hI h dX8_flowOf_10
theorem yvX8_flowOf : ms_YV yX8_flowOf RX8 cX8_flowOf 2 (some .int) 1 := ⟨wd_27_8, wd_27_9, wd_1_5, wd_27_10, rfl, by decide +kernel, by decide +kernel, by decide +kernel⟩
set_option maxHeartbeats 4000000 in
theorem metX8_flowOf (l : Launch) (hDis : ms_Dis a shM.length) {σ : Mm} {p0 : Int32} {out : Int32 × Mm} (h : fX8_flowOf p0 σ = some out) : Met l yX8_flowOf (.code yX8_flowOf cX8_flowOf 2 (some .int) :: wsL_law) rmX8_flowOf (ms_Pc D cA a shM [.ref (a 0), .int p0] σ) (ms_Qi D cA a shM out.1 out.2) 0 0 (ms_A a shM.length) := by
  refine Met.ofW (cc := cX8_flowOf) (maxL := 2) (ret := (some .int)) (by decide) rfl ?_
  intro p e s m args below meth c s₁ B hml hv
  obtain ⟨rfl, hK, hN, hP⟩ := hv
  have hl := lv_entry ([.ref (a 0), .int p0]) (n := 2) (Nat.le_of_ble_eq_true rfl)
  rw [lg_entry_eq]
  generalize (lg_sl ([.ref (a 0), .int p0]) ++ List.replicate (2 - (lg_sl ([.ref (a 0), .int p0])).length) Slot.unset).toArray = ls at hl ⊢
  exact wX8_flowOf ⟨B.exec, B.bytes, hml, findClass_of_methodNamed B.named, fun w hw => atoms_spec (ws := .code yX8_flowOf cX8_flowOf 2 (some .int) :: wsL_law) B.pre w (List.mem_cons_of_mem _ hw), B.returns, B.notSynchronized, hK, hDis, hN⟩ out p0 σ s.heap [] ls ⟨hP, va_S.rf⟩ hl h
theorem kX8_flowOf (Cx : ms_C p s m args meth c D cA a shM cc nL own ret) {σ : Mm} {H : Heap} {locs : List Loc} (hI : ms_I D cA a shM s σ H locs) {p0 : Int32} {out : Int32 × Mm} (h : fX8_flowOf p0 σ = some out) (hl : Cond.methodLink own idx yX8_flowOf ∈ wsL_law) (hf : 8 + 1 ≤ R.frames) (hlo : 8 + (2 + 11) + 177 ≤ R.locals) (hsz : ls.size = nL) (hW : (rest.map fun v => v.category).sum ≤ 8) (hd : decode cc pc = .ok (.invokevirtual idx, 3)) (kk : ∀ (H1 : Heap) (locs1 : List Loc), ms_I D cA a shM s out.2 H1 locs1 → W p l e R s m args below meth c H1 locs1 0 0 Q (F0 m (pc + 3) ls (.int out.1 :: rest))) : W p l e R s m args below meth c H locs 0 0 Q (F0 m pc ls (.int p0 :: .ref (a 0) :: rest)) :=
  ms_ci hI (ms_runV (av := [.int p0]) Cx hI 0 shM_0 (ci := 8) rfl rfl yvX8_flowOf (metX8_flowOf l Cx.2.2.2.2.2.2.2.2.1  h) ⟨rfl, rfl⟩ hl ⟨hf, hlo⟩ rfl hsz rfl hW ⟨Nat.zero_le _, Nat.zero_le _⟩ hd) kk
/-! X8 flow (I)I -/
theorem dX8_flow_0 : decode cX8_flow 0 = .ok (.iload_n 1, 1) := by decide +kernel
theorem dX8_flow_1 : decode cX8_flow 1 = .ok (.invokestatic 194, 3) := by decide +kernel
theorem dX8_flow_4 : decode cX8_flow 4 = .ok (.ifCond .eq 11, 3) := by decide +kernel
theorem dX8_flow_7 : decode cX8_flow 7 = .ok (.aload_n 0, 1) := by decide +kernel
theorem dX8_flow_8 : decode cX8_flow 8 = .ok (.iload_n 1, 1) := by decide +kernel
theorem dX8_flow_9 : decode cX8_flow 9 = .ok (.invokevirtual 212, 3) := by decide +kernel
theorem dX8_flow_12 : decode cX8_flow 12 = .ok (.goto 6, 3) := by decide +kernel
theorem dX8_flow_15 : decode cX8_flow 15 = .ok (.sipush (-10002), 3) := by decide +kernel
theorem dX8_flow_18 : decode cX8_flow 18 = .ok (.ireturn, 1) := by decide +kernel
abbrev rmX8_flow : Room := { frames := 9, cells := 0, slots := 0, locals := 198 }
set_option maxHeartbeats 4000000 in
set_option maxRecDepth 100000 in
theorem wX8_flow (Cx : ms_C p s m args meth c D cA a shM cX8_flow 2 RX8 (some .int)) (out : Int32 × Mm) : ∀ (p0 : Int32) , ∀ (σ : Mm) (H : Heap) (locs : List Loc) (ls : Array Slot), ms_I D cA a shM s σ H locs → lv_has ls 2 [(0, .ref (a 0)), (1, .int p0)] → fX8_flow p0 σ = some out → W p l e rmX8_flow s m args below meth c H locs 0 0 (MQ below (ms_Qi D cA a shM out.1 out.2) args s 0 0 (ms_A a shM.length)) (F0 m 0 ls []) := by
  have hx := Cx.1
  have hb := Cx.2.1
  intro p0 σ H locs ls hI hl h
  unfold fX8_flow at h
  refine lv_iload_n hx hb dX8_flow_0 rfl (lv_at hl 1 rfl) ?_
  obtain ⟨r2, hc1, h⟩ := ms_bdE h
  refine kX8_isHour Cx hI hc1 (Or.inl wd_23_20) (Nat.le_of_ble_eq_true rfl) (Nat.le_of_ble_eq_true rfl) hl.1 (Nat.le_of_ble_eq_true rfl) dX8_flow_1 (fun H locs hI => ?_)
  refine lv_if_eq (tgt := 15) hx hb dX8_flow_4 rfl (fun hc => ?_) (fun hc => ?_)
  · have h := ms_ifT hc h
    refine lv_sipush (v := -10002) hx hb dX8_flow_15 rfl ?_
    exact ms_riw Cx hI h dX8_flow_18
  · have h := ms_ifF hc h
    refine lv_aload_n hx hb dX8_flow_7 rfl (lv_at hl 0 rfl) ?_
    refine lv_iload_n hx hb dX8_flow_8 rfl (lv_at hl 1 rfl) ?_
    obtain ⟨⟨r4, σ5⟩, hc3, h⟩ := ms_bdE h
    refine kX8_flowOf Cx hI hc3 wd_27_7 (Nat.le_of_ble_eq_true rfl) (Nat.le_of_ble_eq_true rfl) hl.1 (Nat.le_of_ble_eq_true rfl) dX8_flow_9 (fun H locs hI => ?_)
    refine lv_goto (tgt := 18) hx hb dX8_flow_12 rfl ?_
    exact ms_riw Cx hI h dX8_flow_18
theorem yvX8_flow : ms_YV yX8_flow RX8 cX8_flow 2 (some .int) 1 := ⟨wd_27_4, wd_27_5, wd_1_5, wd_27_6, rfl, by decide +kernel, by decide +kernel, by decide +kernel⟩
set_option maxHeartbeats 4000000 in
theorem metX8_flow (l : Launch) (hDis : ms_Dis a shM.length) {σ : Mm} {p0 : Int32} {out : Int32 × Mm} (h : fX8_flow p0 σ = some out) : Met l yX8_flow (.code yX8_flow cX8_flow 2 (some .int) :: wsL_law) rmX8_flow (ms_Pc D cA a shM [.ref (a 0), .int p0] σ) (ms_Qi D cA a shM out.1 out.2) 0 0 (ms_A a shM.length) := by
  refine Met.ofW (cc := cX8_flow) (maxL := 2) (ret := (some .int)) (by decide) rfl ?_
  intro p e s m args below meth c s₁ B hml hv
  obtain ⟨rfl, hK, hN, hP⟩ := hv
  have hl := lv_entry ([.ref (a 0), .int p0]) (n := 2) (Nat.le_of_ble_eq_true rfl)
  rw [lg_entry_eq]
  generalize (lg_sl ([.ref (a 0), .int p0]) ++ List.replicate (2 - (lg_sl ([.ref (a 0), .int p0])).length) Slot.unset).toArray = ls at hl ⊢
  exact wX8_flow ⟨B.exec, B.bytes, hml, findClass_of_methodNamed B.named, fun w hw => atoms_spec (ws := .code yX8_flow cX8_flow 2 (some .int) :: wsL_law) B.pre w (List.mem_cons_of_mem _ hw), B.returns, B.notSynchronized, hK, hDis, hN⟩ out p0 σ s.heap [] ls ⟨hP, va_S.rf⟩ hl h
theorem kX8_flow (Cx : ms_C p s m args meth c D cA a shM cc nL own ret) {σ : Mm} {H : Heap} {locs : List Loc} (hI : ms_I D cA a shM s σ H locs) {p0 : Int32} {out : Int32 × Mm} (h : fX8_flow p0 σ = some out) (hl : Cond.methodLink own idx yX8_flow ∈ wsL_law) (hf : 9 + 1 ≤ R.frames) (hlo : 8 + (2 + 11) + 198 ≤ R.locals) (hsz : ls.size = nL) (hW : (rest.map fun v => v.category).sum ≤ 8) (hd : decode cc pc = .ok (.invokevirtual idx, 3)) (kk : ∀ (H1 : Heap) (locs1 : List Loc), ms_I D cA a shM s out.2 H1 locs1 → W p l e R s m args below meth c H1 locs1 0 0 Q (F0 m (pc + 3) ls (.int out.1 :: rest))) : W p l e R s m args below meth c H locs 0 0 Q (F0 m pc ls (.int p0 :: .ref (a 0) :: rest)) :=
  ms_ci hI (ms_runV (av := [.int p0]) Cx hI 0 shM_0 (ci := 8) rfl rfl yvX8_flow (metX8_flow l Cx.2.2.2.2.2.2.2.2.1  h) ⟨rfl, rfl⟩ hl ⟨hf, hlo⟩ rfl hsz rfl hW ⟨Nat.zero_le _, Nat.zero_le _⟩ hd) kk
/-! X8 worstBy (I)I -/
theorem dX8_worstBy_0 : decode cX8_worstBy 0 = .ok (.iconst 0, 1) := by decide +kernel
theorem dX8_worstBy_1 : decode cX8_worstBy 1 = .ok (.istore_n 2, 1) := by decide +kernel
theorem dX8_worstBy_2 : decode cX8_worstBy 2 = .ok (.iconst 1, 1) := by decide +kernel
theorem dX8_worstBy_3 : decode cX8_worstBy 3 = .ok (.istore_n 3, 1) := by decide +kernel
theorem dX8_worstBy_4 : decode cX8_worstBy 4 = .ok (.iload_n 3, 1) := by decide +kernel
theorem dX8_worstBy_5 : decode cX8_worstBy 5 = .ok (.bipush 24, 2) := by decide +kernel
theorem dX8_worstBy_7 : decode cX8_worstBy 7 = .ok (.iload_n 1, 1) := by decide +kernel
theorem dX8_worstBy_8 : decode cX8_worstBy 8 = .ok (.imul, 1) := by decide +kernel
theorem dX8_worstBy_9 : decode cX8_worstBy 9 = .ok (.if_icmp .ge 30, 3) := by decide +kernel
theorem dX8_worstBy_12 : decode cX8_worstBy 12 = .ok (.aload_n 0, 1) := by decide +kernel
theorem dX8_worstBy_13 : decode cX8_worstBy 13 = .ok (.getfield 49, 3) := by decide +kernel
theorem dX8_worstBy_16 : decode cX8_worstBy 16 = .ok (.iload_n 3, 1) := by decide +kernel
theorem dX8_worstBy_17 : decode cX8_worstBy 17 = .ok (.iaload, 1) := by decide +kernel
theorem dX8_worstBy_18 : decode cX8_worstBy 18 = .ok (.aload_n 0, 1) := by decide +kernel
theorem dX8_worstBy_19 : decode cX8_worstBy 19 = .ok (.getfield 49, 3) := by decide +kernel
theorem dX8_worstBy_22 : decode cX8_worstBy 22 = .ok (.iload_n 2, 1) := by decide +kernel
theorem dX8_worstBy_23 : decode cX8_worstBy 23 = .ok (.iaload, 1) := by decide +kernel
theorem dX8_worstBy_24 : decode cX8_worstBy 24 = .ok (.if_icmp .ge 7, 3) := by decide +kernel
theorem dX8_worstBy_27 : decode cX8_worstBy 27 = .ok (.iload_n 3, 1) := by decide +kernel
theorem dX8_worstBy_28 : decode cX8_worstBy 28 = .ok (.goto 4, 3) := by decide +kernel
theorem dX8_worstBy_31 : decode cX8_worstBy 31 = .ok (.iload_n 2, 1) := by decide +kernel
theorem dX8_worstBy_32 : decode cX8_worstBy 32 = .ok (.istore_n 2, 1) := by decide +kernel
theorem dX8_worstBy_33 : decode cX8_worstBy 33 = .ok (.iinc 3 1, 3) := by decide +kernel
theorem dX8_worstBy_36 : decode cX8_worstBy 36 = .ok (.goto (-32), 3) := by decide +kernel
theorem dX8_worstBy_39 : decode cX8_worstBy 39 = .ok (.iload_n 2, 1) := by decide +kernel
theorem dX8_worstBy_40 : decode cX8_worstBy 40 = .ok (.ireturn, 1) := by decide +kernel
abbrev rmX8_worstBy : Room := { frames := 0, cells := 0, slots := 0, locals := 0 }
set_option maxHeartbeats 4000000 in
set_option maxRecDepth 100000 in
theorem wX8_worstBy_32 (Cx : ms_C p s m args meth c D cA a shM cX8_worstBy 4 RX8 (some .int)) (out : Int32) {σ : Mm} (K4 : Int32 → Int32 → Int32 → Option (Int32)) (hK4 : ∀ (y1 : Int32) (y2 : Int32) (y3 : Int32) , ∀ (H : Heap) (locs : List Loc) (ls : Array Slot), ms_I D cA a shM s σ H locs → lv_has ls 4 [(0, .ref (a 0)), (1, .int y1), (2, .int y2), (3, .int y3)] → K4 y1 y2 y3 = some out → W p l e rmX8_worstBy s m args below meth c H locs 0 0 (MQ below (ms_Qi D cA a shM out σ) args s 0 0 (ms_A a shM.length)) (F0 m 4 ls [])) : ∀ (y1 : Int32) (y2 : Int32) (y3 : Int32) , ∀ (H : Heap) (locs : List Loc) (ls : Array Slot), ms_I D cA a shM s σ H locs → lv_has ls 4 [(0, .ref (a 0)), (1, .int y1), (3, .int y2)] → fX8_worstBy_32 σ K4 y1 y2 y3 = some out → W p l e rmX8_worstBy s m args below meth c H locs 0 0 (MQ below (ms_Qi D cA a shM out σ) args s 0 0 (ms_A a shM.length)) (F0 m 32 ls [.int y3]) := by
  have hx := Cx.1
  have hb := Cx.2.1
  intro y1 y2 y3 H locs ls hI hl h
  unfold fX8_worstBy_32 at h
  refine lv_istore_n (lv' := [(2, .int y3), (0, .ref (a 0)), (1, .int y1), (3, .int y2)]) hx hb dX8_worstBy_32 rfl hl (by decide) rfl (fun ls hl => ?_)
  refine lv_iinc (v := y2 + 1) (lv' := [(3, .int (y2 + 1)), (2, .int y3), (0, .ref (a 0)), (1, .int y1)]) hx hb dX8_worstBy_33 hl (k := 3) rfl rfl (by decide) rfl (fun ls hl => ?_)
  refine lv_goto (tgt := 4) hx hb dX8_worstBy_36 rfl ?_
  exact hK4 y1 y3 (y2 + 1) _ _ _ hI (lv_sub hl [2, 3, 1, 0] rfl) h
set_option maxHeartbeats 4000000 in
set_option maxRecDepth 100000 in
theorem wX8_worstBy_4 (Cx : ms_C p s m args meth c D cA a shM cX8_worstBy 4 RX8 (some .int)) (out : Int32) {σ : Mm} : ∀ (n : Nat), ∀ (y1 : Int32) (y2 : Int32) (y3 : Int32) , ∀ (H : Heap) (locs : List Loc) (ls : Array Slot), ms_I D cA a shM s σ H locs → lv_has ls 4 [(0, .ref (a 0)), (1, .int y1), (2, .int y2), (3, .int y3)] → fX8_worstBy_4 σ n y1 y2 y3 = some out → W p l e rmX8_worstBy s m args below meth c H locs 0 0 (MQ below (ms_Qi D cA a shM out σ) args s 0 0 (ms_A a shM.length)) (F0 m 4 ls []) := by
  have hx := Cx.1
  have hb := Cx.2.1
  intro n
  induction n with
  | zero =>
    intro y1 y2 y3 H locs ls hI hl h
    exact nomatch (show none = some out from h)
  | succ n ih =>
    intro y1 y2 y3 H locs ls hI hl h
    rw [fX8_worstBy_4] at h
    refine lv_iload_n hx hb dX8_worstBy_4 rfl (lv_at hl 3 rfl) ?_
    refine lv_bipush (v := 24) hx hb dX8_worstBy_5 rfl ?_
    refine lv_iload_n hx hb dX8_worstBy_7 rfl (lv_at hl 1 rfl) ?_
    refine lv_imul hx hb dX8_worstBy_8 ?_
    refine lv_icmp_ge (tgt := 39) hx hb dX8_worstBy_9 rfl (fun hc => ?_) (fun hc => ?_)
    · have h := ms_ifT hc h
      refine lv_iload_n hx hb dX8_worstBy_39 rfl (lv_at hl 2 rfl) ?_
      exact ms_ri Cx hI (Option.some.inj h) rfl dX8_worstBy_40
    · have h := ms_ifF hc h
      refine lv_aload_n hx hb dX8_worstBy_12 rfl (lv_at hl 0 rfl) ?_
      refine gr_X8_17 Cx hI wd_7_2 dX8_worstBy_13 ?_
      refine lv_iload_n hx hb dX8_worstBy_16 rfl (lv_at hl 3 rfl) ?_
      obtain ⟨hg, h⟩ := ms_gE h
      refine ms_ld Cx hI 14 shM_14 hg dX8_worstBy_17 ?_
      refine lv_aload_n hx hb dX8_worstBy_18 rfl (lv_at hl 0 rfl) ?_
      refine gr_X8_17 Cx hI wd_7_2 dX8_worstBy_19 ?_
      refine lv_iload_n hx hb dX8_worstBy_22 rfl (lv_at hl 2 rfl) ?_
      obtain ⟨hg, h⟩ := ms_gE h
      refine ms_ld Cx hI 14 shM_14 hg dX8_worstBy_23 ?_
      refine lv_icmp_ge (tgt := 31) hx hb dX8_worstBy_24 rfl (fun hc => ?_) (fun hc => ?_)
      · have h := ms_ifT hc h
        refine lv_iload_n hx hb dX8_worstBy_31 rfl (lv_at hl 2 rfl) ?_
        exact wX8_worstBy_32 Cx out (fX8_worstBy_4 σ n) ih y1 y3 y2 _ _ _ hI (lv_sub hl [0, 1, 3] rfl) h
      · have h := ms_ifF hc h
        refine lv_iload_n hx hb dX8_worstBy_27 rfl (lv_at hl 3 rfl) ?_
        refine lv_goto (tgt := 32) hx hb dX8_worstBy_28 rfl ?_
        exact wX8_worstBy_32 Cx out (fX8_worstBy_4 σ n) ih y1 y3 y3 _ _ _ hI (lv_sub hl [0, 1, 3] rfl) h
set_option maxHeartbeats 4000000 in
set_option maxRecDepth 100000 in
theorem wX8_worstBy (Cx : ms_C p s m args meth c D cA a shM cX8_worstBy 4 RX8 (some .int)) (out : Int32) {σ : Mm} : ∀ (p0 : Int32) , ∀ (H : Heap) (locs : List Loc) (ls : Array Slot), ms_I D cA a shM s σ H locs → lv_has ls 4 [(0, .ref (a 0)), (1, .int p0)] → fX8_worstBy σ p0 = some out → W p l e rmX8_worstBy s m args below meth c H locs 0 0 (MQ below (ms_Qi D cA a shM out σ) args s 0 0 (ms_A a shM.length)) (F0 m 0 ls []) := by
  have hx := Cx.1
  have hb := Cx.2.1
  intro p0 H locs ls hI hl h
  unfold fX8_worstBy at h
  refine lv_iconst (v := 0) hx hb dX8_worstBy_0 rfl ?_
  refine lv_istore_n (lv' := [(2, .int 0), (0, .ref (a 0)), (1, .int p0)]) hx hb dX8_worstBy_1 rfl hl (by decide) rfl (fun ls hl => ?_)
  refine lv_iconst (v := 1) hx hb dX8_worstBy_2 rfl ?_
  refine lv_istore_n (lv' := [(3, .int 1), (2, .int 0), (0, .ref (a 0)), (1, .int p0)]) hx hb dX8_worstBy_3 rfl hl (by decide) rfl (fun ls hl => ?_)
  exact wX8_worstBy_4 Cx out  ms_fu p0 0 1 _ _ _ hI (lv_sub hl [2, 3, 1, 0] rfl) h
theorem yvX8_worstBy : ms_YV yX8_worstBy RX8 cX8_worstBy 4 (some .int) 1 := ⟨wd_28_4, wd_28_5, wd_1_5, wd_28_6, rfl, by decide +kernel, by decide +kernel, by decide +kernel⟩
set_option maxHeartbeats 4000000 in
theorem metX8_worstBy (l : Launch) (hDis : ms_Dis a shM.length) {σ : Mm} {p0 : Int32} {out : Int32} (h : fX8_worstBy σ p0 = some out) : Met l yX8_worstBy (.code yX8_worstBy cX8_worstBy 4 (some .int) :: wsL_law) rmX8_worstBy (ms_Pc D cA a shM [.ref (a 0), .int p0] σ) (ms_Qi D cA a shM out σ) 0 0 (ms_A a shM.length) := by
  refine Met.ofW (cc := cX8_worstBy) (maxL := 4) (ret := (some .int)) (by decide) rfl ?_
  intro p e s m args below meth c s₁ B hml hv
  obtain ⟨rfl, hK, hN, hP⟩ := hv
  have hl := lv_entry ([.ref (a 0), .int p0]) (n := 4) (Nat.le_of_ble_eq_true rfl)
  rw [lg_entry_eq]
  generalize (lg_sl ([.ref (a 0), .int p0]) ++ List.replicate (4 - (lg_sl ([.ref (a 0), .int p0])).length) Slot.unset).toArray = ls at hl ⊢
  exact wX8_worstBy ⟨B.exec, B.bytes, hml, findClass_of_methodNamed B.named, fun w hw => atoms_spec (ws := .code yX8_worstBy cX8_worstBy 4 (some .int) :: wsL_law) B.pre w (List.mem_cons_of_mem _ hw), B.returns, B.notSynchronized, hK, hDis, hN⟩ out p0 s.heap [] ls ⟨hP, va_S.rf⟩ hl h
theorem kX8_worstBy (Cx : ms_C p s m args meth c D cA a shM cc nL own ret) {σ : Mm} {H : Heap} {locs : List Loc} (hI : ms_I D cA a shM s σ H locs) {p0 : Int32} {out : Int32} (h : fX8_worstBy σ p0 = some out) (hl : Cond.methodLink own idx yX8_worstBy ∈ wsL_law) (hf : 0 + 1 ≤ R.frames) (hlo : 8 + (4 + 11) + 0 ≤ R.locals) (hsz : ls.size = nL) (hW : (rest.map fun v => v.category).sum ≤ 8) (hd : decode cc pc = .ok (.invokevirtual idx, 3)) (kk : ∀ (H1 : Heap) (locs1 : List Loc), ms_I D cA a shM s σ H1 locs1 → W p l e R s m args below meth c H1 locs1 0 0 Q (F0 m (pc + 3) ls (.int out :: rest))) : W p l e R s m args below meth c H locs 0 0 Q (F0 m pc ls (.int p0 :: .ref (a 0) :: rest)) :=
  ms_ci hI (ms_runV (av := [.int p0]) Cx hI 0 shM_0 (ci := 8) rfl rfl yvX8_worstBy (metX8_worstBy l Cx.2.2.2.2.2.2.2.2.1  h) ⟨rfl, rfl⟩ hl ⟨hf, hlo⟩ rfl hsz rfl hW ⟨Nat.zero_le _, Nat.zero_le _⟩ hd) kk
/-! X8 worstOf (II)I -/
theorem dX8_worstOf_0 : decode cX8_worstOf 0 = .ok (.aload_n 0, 1) := by decide +kernel
theorem dX8_worstOf_1 : decode cX8_worstOf 1 = .ok (.invokevirtual 191, 3) := by decide +kernel
theorem dX8_worstOf_4 : decode cX8_worstOf 4 = .ok (.aload_n 0, 1) := by decide +kernel
theorem dX8_worstOf_5 : decode cX8_worstOf 5 = .ok (.iload_n 1, 1) := by decide +kernel
theorem dX8_worstOf_6 : decode cX8_worstOf 6 = .ok (.invokevirtual 215, 3) := by decide +kernel
theorem dX8_worstOf_9 : decode cX8_worstOf 9 = .ok (.istore_n 3, 1) := by decide +kernel
theorem dX8_worstOf_10 : decode cX8_worstOf 10 = .ok (.iload_n 2, 1) := by decide +kernel
theorem dX8_worstOf_11 : decode cX8_worstOf 11 = .ok (.ifCond .ne 12, 3) := by decide +kernel
theorem dX8_worstOf_14 : decode cX8_worstOf 14 = .ok (.aload_n 0, 1) := by decide +kernel
theorem dX8_worstOf_15 : decode cX8_worstOf 15 = .ok (.getfield 49, 3) := by decide +kernel
theorem dX8_worstOf_18 : decode cX8_worstOf 18 = .ok (.iload_n 3, 1) := by decide +kernel
theorem dX8_worstOf_19 : decode cX8_worstOf 19 = .ok (.iaload, 1) := by decide +kernel
theorem dX8_worstOf_20 : decode cX8_worstOf 20 = .ok (.goto 4, 3) := by decide +kernel
theorem dX8_worstOf_23 : decode cX8_worstOf 23 = .ok (.iload_n 3, 1) := by decide +kernel
theorem dX8_worstOf_24 : decode cX8_worstOf 24 = .ok (.ireturn, 1) := by decide +kernel
abbrev rmX8_worstOf : Room := { frames := 8, cells := 0, slots := 0, locals := 177 }
set_option maxHeartbeats 4000000 in
set_option maxRecDepth 100000 in
theorem wX8_worstOf (Cx : ms_C p s m args meth c D cA a shM cX8_worstOf 4 RX8 (some .int)) (out : Int32 × Mm) : ∀ (p0 : Int32) (p1 : Int32) , ∀ (σ : Mm) (H : Heap) (locs : List Loc) (ls : Array Slot), ms_I D cA a shM s σ H locs → lv_has ls 4 [(0, .ref (a 0)), (1, .int p0), (2, .int p1)] → fX8_worstOf p0 p1 σ = some out → W p l e rmX8_worstOf s m args below meth c H locs 0 0 (MQ below (ms_Qi D cA a shM out.1 out.2) args s 0 0 (ms_A a shM.length)) (F0 m 0 ls []) := by
  have hx := Cx.1
  have hb := Cx.2.1
  intro p0 p1 σ H locs ls hI hl h
  unfold fX8_worstOf at h
  refine lv_aload_n hx hb dX8_worstOf_0 rfl (lv_at hl 0 rfl) ?_
  obtain ⟨σ2, hc1, h⟩ := ms_bdE h
  refine kX8_lays Cx hI hc1 wd_24_3 (Nat.le_of_ble_eq_true rfl) (Nat.le_of_ble_eq_true rfl) hl.1 (Nat.le_of_ble_eq_true rfl) dX8_worstOf_1 (fun H locs hI => ?_)
  refine lv_aload_n hx hb dX8_worstOf_4 rfl (lv_at hl 0 rfl) ?_
  refine lv_iload_n hx hb dX8_worstOf_5 rfl (lv_at hl 1 rfl) ?_
  obtain ⟨r4, hc3, h⟩ := ms_bdE h
  refine kX8_worstBy Cx hI hc3 wd_28_3 (Nat.le_of_ble_eq_true rfl) (Nat.le_of_ble_eq_true rfl) hl.1 (Nat.le_of_ble_eq_true rfl) dX8_worstOf_6 (fun H locs hI => ?_)
  refine lv_istore_n (lv' := [(3, .int r4), (0, .ref (a 0)), (1, .int p0), (2, .int p1)]) hx hb dX8_worstOf_9 rfl hl (by decide) rfl (fun ls hl => ?_)
  refine lv_iload_n hx hb dX8_worstOf_10 rfl (lv_at hl 3 rfl) ?_
  refine lv_if_ne (tgt := 23) hx hb dX8_worstOf_11 rfl (fun hc => ?_) (fun hc => ?_)
  · have h := ms_ifF hc h
    refine lv_iload_n hx hb dX8_worstOf_23 rfl (lv_at hl 0 rfl) ?_
    exact ms_riw Cx hI h dX8_worstOf_24
  · have h := ms_ifT hc h
    refine lv_aload_n hx hb dX8_worstOf_14 rfl (lv_at hl 1 rfl) ?_
    refine gr_X8_17 Cx hI wd_7_2 dX8_worstOf_15 ?_
    refine lv_iload_n hx hb dX8_worstOf_18 rfl (lv_at hl 0 rfl) ?_
    obtain ⟨hg, h⟩ := ms_gE h
    refine ms_ld Cx hI 14 shM_14 hg dX8_worstOf_19 ?_
    refine lv_goto (tgt := 24) hx hb dX8_worstOf_20 rfl ?_
    exact ms_riw Cx hI h dX8_worstOf_24
theorem yvX8_worstOf : ms_YV yX8_worstOf RX8 cX8_worstOf 4 (some .int) 2 := ⟨wd_28_0, wd_28_1, wd_1_5, wd_28_2, rfl, by decide +kernel, by decide +kernel, by decide +kernel⟩
set_option maxHeartbeats 4000000 in
theorem metX8_worstOf (l : Launch) (hDis : ms_Dis a shM.length) {σ : Mm} {p0 : Int32} {p1 : Int32} {out : Int32 × Mm} (h : fX8_worstOf p0 p1 σ = some out) : Met l yX8_worstOf (.code yX8_worstOf cX8_worstOf 4 (some .int) :: wsL_law) rmX8_worstOf (ms_Pc D cA a shM [.ref (a 0), .int p0, .int p1] σ) (ms_Qi D cA a shM out.1 out.2) 0 0 (ms_A a shM.length) := by
  refine Met.ofW (cc := cX8_worstOf) (maxL := 4) (ret := (some .int)) (by decide) rfl ?_
  intro p e s m args below meth c s₁ B hml hv
  obtain ⟨rfl, hK, hN, hP⟩ := hv
  have hl := lv_entry ([.ref (a 0), .int p0, .int p1]) (n := 4) (Nat.le_of_ble_eq_true rfl)
  rw [lg_entry_eq]
  generalize (lg_sl ([.ref (a 0), .int p0, .int p1]) ++ List.replicate (4 - (lg_sl ([.ref (a 0), .int p0, .int p1])).length) Slot.unset).toArray = ls at hl ⊢
  exact wX8_worstOf ⟨B.exec, B.bytes, hml, findClass_of_methodNamed B.named, fun w hw => atoms_spec (ws := .code yX8_worstOf cX8_worstOf 4 (some .int) :: wsL_law) B.pre w (List.mem_cons_of_mem _ hw), B.returns, B.notSynchronized, hK, hDis, hN⟩ out p0 p1 σ s.heap [] ls ⟨hP, va_S.rf⟩ hl h
theorem kX8_worstOf (Cx : ms_C p s m args meth c D cA a shM cc nL own ret) {σ : Mm} {H : Heap} {locs : List Loc} (hI : ms_I D cA a shM s σ H locs) {p0 : Int32} {p1 : Int32} {out : Int32 × Mm} (h : fX8_worstOf p0 p1 σ = some out) (hl : Cond.methodLink own idx yX8_worstOf ∈ wsL_law) (hf : 8 + 1 ≤ R.frames) (hlo : 8 + (4 + 11) + 177 ≤ R.locals) (hsz : ls.size = nL) (hW : (rest.map fun v => v.category).sum ≤ 8) (hd : decode cc pc = .ok (.invokevirtual idx, 3)) (kk : ∀ (H1 : Heap) (locs1 : List Loc), ms_I D cA a shM s out.2 H1 locs1 → W p l e R s m args below meth c H1 locs1 0 0 Q (F0 m (pc + 3) ls (.int out.1 :: rest))) : W p l e R s m args below meth c H locs 0 0 Q (F0 m pc ls (.int p1 :: .int p0 :: .ref (a 0) :: rest)) :=
  ms_ci hI (ms_runV (av := [.int p0, .int p1]) Cx hI 0 shM_0 (ci := 8) rfl rfl yvX8_worstOf (metX8_worstOf l Cx.2.2.2.2.2.2.2.2.1  h) ⟨rfl, rfl⟩ hl ⟨hf, hlo⟩ rfl hsz rfl hW ⟨Nat.zero_le _, Nat.zero_le _⟩ hd) kk
/-! X8 worst (II)I -/
theorem dX8_worst_0 : decode cX8_worst 0 = .ok (.iload_n 1, 1) := by decide +kernel
theorem dX8_worst_1 : decode cX8_worst 1 = .ok (.invokestatic 203, 3) := by decide +kernel
theorem dX8_worst_4 : decode cX8_worst 4 = .ok (.ifCond .eq 21, 3) := by decide +kernel
theorem dX8_worst_7 : decode cX8_worst 7 = .ok (.iload_n 2, 1) := by decide +kernel
theorem dX8_worst_8 : decode cX8_worst 8 = .ok (.iconst 0, 1) := by decide +kernel
theorem dX8_worst_9 : decode cX8_worst 9 = .ok (.iconst 1, 1) := by decide +kernel
theorem dX8_worst_10 : decode cX8_worst 10 = .ok (.invokestatic 95, 3) := by decide +kernel
theorem dX8_worst_13 : decode cX8_worst 13 = .ok (.ifCond .eq 12, 3) := by decide +kernel
theorem dX8_worst_16 : decode cX8_worst 16 = .ok (.aload_n 0, 1) := by decide +kernel
theorem dX8_worst_17 : decode cX8_worst 17 = .ok (.iload_n 1, 1) := by decide +kernel
theorem dX8_worst_18 : decode cX8_worst 18 = .ok (.iload_n 2, 1) := by decide +kernel
theorem dX8_worst_19 : decode cX8_worst 19 = .ok (.invokevirtual 218, 3) := by decide +kernel
theorem dX8_worst_22 : decode cX8_worst 22 = .ok (.goto 5, 3) := by decide +kernel
theorem dX8_worst_25 : decode cX8_worst 25 = .ok (.bipush (-2), 2) := by decide +kernel
theorem dX8_worst_27 : decode cX8_worst 27 = .ok (.ireturn, 1) := by decide +kernel
abbrev rmX8_worst : Room := { frames := 9, cells := 0, slots := 0, locals := 200 }
set_option maxHeartbeats 4000000 in
set_option maxRecDepth 100000 in
theorem wX8_worst (Cx : ms_C p s m args meth c D cA a shM cX8_worst 3 RX8 (some .int)) (out : Int32 × Mm) : ∀ (p0 : Int32) (p1 : Int32) , ∀ (σ : Mm) (H : Heap) (locs : List Loc) (ls : Array Slot), ms_I D cA a shM s σ H locs → lv_has ls 3 [(0, .ref (a 0)), (1, .int p0), (2, .int p1)] → fX8_worst p0 p1 σ = some out → W p l e rmX8_worst s m args below meth c H locs 0 0 (MQ below (ms_Qi D cA a shM out.1 out.2) args s 0 0 (ms_A a shM.length)) (F0 m 0 ls []) := by
  have hx := Cx.1
  have hb := Cx.2.1
  intro p0 p1 σ H locs ls hI hl h
  unfold fX8_worst at h
  refine lv_iload_n hx hb dX8_worst_0 rfl (lv_at hl 1 rfl) ?_
  obtain ⟨r2, hc1, h⟩ := ms_bdE h
  refine kX8_areDays Cx hI hc1 (Or.inl wd_25_19) (Nat.le_of_ble_eq_true rfl) (Nat.le_of_ble_eq_true rfl) hl.1 (Nat.le_of_ble_eq_true rfl) dX8_worst_1 (fun H locs hI => ?_)
  refine lv_if_eq (tgt := 25) hx hb dX8_worst_4 rfl (fun hc => ?_) (fun hc => ?_)
  · have h := ms_ifT hc h
    refine lv_bipush (v := -2) hx hb dX8_worst_25 rfl ?_
    exact ms_riw Cx hI h dX8_worst_27
  · have h := ms_ifF hc h
    refine lv_iload_n hx hb dX8_worst_7 rfl (lv_at hl 2 rfl) ?_
    refine lv_iconst (v := 0) hx hb dX8_worst_8 rfl ?_
    refine lv_iconst (v := 1) hx hb dX8_worst_9 rfl ?_
    obtain ⟨r4, hc3, h⟩ := ms_bdE h
    refine kX8_in Cx hI hc3 (Or.inl wd_10_20) (Nat.le_of_ble_eq_true rfl) (Nat.le_of_ble_eq_true rfl) hl.1 (Nat.le_of_ble_eq_true rfl) dX8_worst_10 (fun H locs hI => ?_)
    refine lv_if_eq (tgt := 25) hx hb dX8_worst_13 rfl (fun hc => ?_) (fun hc => ?_)
    · have h := ms_ifT hc h
      refine lv_bipush (v := -2) hx hb dX8_worst_25 rfl ?_
      exact ms_riw Cx hI h dX8_worst_27
    · have h := ms_ifF hc h
      refine lv_aload_n hx hb dX8_worst_16 rfl (lv_at hl 0 rfl) ?_
      refine lv_iload_n hx hb dX8_worst_17 rfl (lv_at hl 1 rfl) ?_
      refine lv_iload_n hx hb dX8_worst_18 rfl (lv_at hl 2 rfl) ?_
      obtain ⟨⟨r6, σ7⟩, hc5, h⟩ := ms_bdE h
      refine kX8_worstOf Cx hI hc5 wd_27_23 (Nat.le_of_ble_eq_true rfl) (Nat.le_of_ble_eq_true rfl) hl.1 (Nat.le_of_ble_eq_true rfl) dX8_worst_19 (fun H locs hI => ?_)
      refine lv_goto (tgt := 27) hx hb dX8_worst_22 rfl ?_
      exact ms_riw Cx hI h dX8_worst_27
theorem yvX8_worst : ms_YV yX8_worst RX8 cX8_worst 3 (some .int) 2 := ⟨wd_27_20, wd_27_21, wd_1_5, wd_27_22, rfl, by decide +kernel, by decide +kernel, by decide +kernel⟩
set_option maxHeartbeats 4000000 in
theorem metX8_worst (l : Launch) (hDis : ms_Dis a shM.length) {σ : Mm} {p0 : Int32} {p1 : Int32} {out : Int32 × Mm} (h : fX8_worst p0 p1 σ = some out) : Met l yX8_worst (.code yX8_worst cX8_worst 3 (some .int) :: wsL_law) rmX8_worst (ms_Pc D cA a shM [.ref (a 0), .int p0, .int p1] σ) (ms_Qi D cA a shM out.1 out.2) 0 0 (ms_A a shM.length) := by
  refine Met.ofW (cc := cX8_worst) (maxL := 3) (ret := (some .int)) (by decide) rfl ?_
  intro p e s m args below meth c s₁ B hml hv
  obtain ⟨rfl, hK, hN, hP⟩ := hv
  have hl := lv_entry ([.ref (a 0), .int p0, .int p1]) (n := 3) (Nat.le_of_ble_eq_true rfl)
  rw [lg_entry_eq]
  generalize (lg_sl ([.ref (a 0), .int p0, .int p1]) ++ List.replicate (3 - (lg_sl ([.ref (a 0), .int p0, .int p1])).length) Slot.unset).toArray = ls at hl ⊢
  exact wX8_worst ⟨B.exec, B.bytes, hml, findClass_of_methodNamed B.named, fun w hw => atoms_spec (ws := .code yX8_worst cX8_worst 3 (some .int) :: wsL_law) B.pre w (List.mem_cons_of_mem _ hw), B.returns, B.notSynchronized, hK, hDis, hN⟩ out p0 p1 σ s.heap [] ls ⟨hP, va_S.rf⟩ hl h
theorem kX8_worst (Cx : ms_C p s m args meth c D cA a shM cc nL own ret) {σ : Mm} {H : Heap} {locs : List Loc} (hI : ms_I D cA a shM s σ H locs) {p0 : Int32} {p1 : Int32} {out : Int32 × Mm} (h : fX8_worst p0 p1 σ = some out) (hl : Cond.methodLink own idx yX8_worst ∈ wsL_law) (hf : 9 + 1 ≤ R.frames) (hlo : 8 + (3 + 11) + 200 ≤ R.locals) (hsz : ls.size = nL) (hW : (rest.map fun v => v.category).sum ≤ 8) (hd : decode cc pc = .ok (.invokevirtual idx, 3)) (kk : ∀ (H1 : Heap) (locs1 : List Loc), ms_I D cA a shM s out.2 H1 locs1 → W p l e R s m args below meth c H1 locs1 0 0 Q (F0 m (pc + 3) ls (.int out.1 :: rest))) : W p l e R s m args below meth c H locs 0 0 Q (F0 m pc ls (.int p1 :: .int p0 :: .ref (a 0) :: rest)) :=
  ms_ci hI (ms_runV (av := [.int p0, .int p1]) Cx hI 0 shM_0 (ci := 8) rfl rfl yvX8_worst (metX8_worst l Cx.2.2.2.2.2.2.2.2.1  h) ⟨rfl, rfl⟩ hl ⟨hf, hlo⟩ rfl hsz rfl hW ⟨Nat.zero_le _, Nat.zero_le _⟩ hd) kk
/-! X8 fewestOf (I)I -/
theorem dX8_fewestOf_0 : decode cX8_fewestOf 0 = .ok (.aload_n 0, 1) := by decide +kernel
theorem dX8_fewestOf_1 : decode cX8_fewestOf 1 = .ok (.invokevirtual 140, 3) := by decide +kernel
theorem dX8_fewestOf_4 : decode cX8_fewestOf 4 = .ok (.istore_n 2, 1) := by decide +kernel
theorem dX8_fewestOf_5 : decode cX8_fewestOf 5 = .ok (.aload_n 0, 1) := by decide +kernel
theorem dX8_fewestOf_6 : decode cX8_fewestOf 6 = .ok (.invokevirtual 184, 3) := by decide +kernel
theorem dX8_fewestOf_9 : decode cX8_fewestOf 9 = .ok (.iconst (-1), 1) := by decide +kernel
theorem dX8_fewestOf_10 : decode cX8_fewestOf 10 = .ok (.istore_n 3, 1) := by decide +kernel
theorem dX8_fewestOf_11 : decode cX8_fewestOf 11 = .ok (.iconst 0, 1) := by decide +kernel
theorem dX8_fewestOf_12 : decode cX8_fewestOf 12 = .ok (.istore 4, 2) := by decide +kernel
theorem dX8_fewestOf_14 : decode cX8_fewestOf 14 = .ok (.iload 4, 2) := by decide +kernel
theorem dX8_fewestOf_16 : decode cX8_fewestOf 16 = .ok (.iconst 1, 1) := by decide +kernel
theorem dX8_fewestOf_17 : decode cX8_fewestOf 17 = .ok (.aload_n 0, 1) := by decide +kernel
theorem dX8_fewestOf_18 : decode cX8_fewestOf 18 = .ok (.getfield 117, 3) := by decide +kernel
theorem dX8_fewestOf_21 : decode cX8_fewestOf 21 = .ok (.ishl, 1) := by decide +kernel
theorem dX8_fewestOf_22 : decode cX8_fewestOf 22 = .ok (.if_icmp .ge 146, 3) := by decide +kernel
theorem dX8_fewestOf_25 : decode cX8_fewestOf 25 = .ok (.iload_n 3, 1) := by decide +kernel
theorem dX8_fewestOf_26 : decode cX8_fewestOf 26 = .ok (.iconst (-1), 1) := by decide +kernel
theorem dX8_fewestOf_27 : decode cX8_fewestOf 27 = .ok (.if_icmp .eq 15, 3) := by decide +kernel
theorem dX8_fewestOf_30 : decode cX8_fewestOf 30 = .ok (.iload 4, 2) := by decide +kernel
theorem dX8_fewestOf_32 : decode cX8_fewestOf 32 = .ok (.invokestatic 221, 3) := by decide +kernel
theorem dX8_fewestOf_35 : decode cX8_fewestOf 35 = .ok (.iload_n 3, 1) := by decide +kernel
theorem dX8_fewestOf_36 : decode cX8_fewestOf 36 = .ok (.invokestatic 221, 3) := by decide +kernel
theorem dX8_fewestOf_39 : decode cX8_fewestOf 39 = .ok (.if_icmp .ge 7, 3) := by decide +kernel
theorem dX8_fewestOf_42 : decode cX8_fewestOf 42 = .ok (.iconst 1, 1) := by decide +kernel
theorem dX8_fewestOf_43 : decode cX8_fewestOf 43 = .ok (.goto 4, 3) := by decide +kernel
theorem dX8_fewestOf_46 : decode cX8_fewestOf 46 = .ok (.iconst 0, 1) := by decide +kernel
theorem dX8_fewestOf_47 : decode cX8_fewestOf 47 = .ok (.istore 5, 2) := by decide +kernel
theorem dX8_fewestOf_49 : decode cX8_fewestOf 49 = .ok (.iconst 0, 1) := by decide +kernel
theorem dX8_fewestOf_50 : decode cX8_fewestOf 50 = .ok (.istore 6, 2) := by decide +kernel
theorem dX8_fewestOf_52 : decode cX8_fewestOf 52 = .ok (.iload 6, 2) := by decide +kernel
theorem dX8_fewestOf_54 : decode cX8_fewestOf 54 = .ok (.aload_n 0, 1) := by decide +kernel
theorem dX8_fewestOf_55 : decode cX8_fewestOf 55 = .ok (.getfield 117, 3) := by decide +kernel
theorem dX8_fewestOf_58 : decode cX8_fewestOf 58 = .ok (.if_icmp .ge 42, 3) := by decide +kernel
theorem dX8_fewestOf_61 : decode cX8_fewestOf 61 = .ok (.iload 5, 2) := by decide +kernel
theorem dX8_fewestOf_63 : decode cX8_fewestOf 63 = .ok (.ifCond .eq 28, 3) := by decide +kernel
theorem dX8_fewestOf_66 : decode cX8_fewestOf 66 = .ok (.iload 4, 2) := by decide +kernel
theorem dX8_fewestOf_68 : decode cX8_fewestOf 68 = .ok (.iload 6, 2) := by decide +kernel
theorem dX8_fewestOf_70 : decode cX8_fewestOf 70 = .ok (.invokestatic 129, 3) := by decide +kernel
theorem dX8_fewestOf_73 : decode cX8_fewestOf 73 = .ok (.ifCond .eq 14, 3) := by decide +kernel
theorem dX8_fewestOf_76 : decode cX8_fewestOf 76 = .ok (.aload_n 0, 1) := by decide +kernel
theorem dX8_fewestOf_77 : decode cX8_fewestOf 77 = .ok (.getfield 28, 3) := by decide +kernel
theorem dX8_fewestOf_80 : decode cX8_fewestOf 80 = .ok (.iload 6, 2) := by decide +kernel
theorem dX8_fewestOf_82 : decode cX8_fewestOf 82 = .ok (.iaload, 1) := by decide +kernel
theorem dX8_fewestOf_83 : decode cX8_fewestOf 83 = .ok (.iconst 1, 1) := by decide +kernel
theorem dX8_fewestOf_84 : decode cX8_fewestOf 84 = .ok (.if_icmp .eq 7, 3) := by decide +kernel
theorem dX8_fewestOf_87 : decode cX8_fewestOf 87 = .ok (.iconst 1, 1) := by decide +kernel
theorem dX8_fewestOf_88 : decode cX8_fewestOf 88 = .ok (.goto 4, 3) := by decide +kernel
theorem dX8_fewestOf_91 : decode cX8_fewestOf 91 = .ok (.iconst 0, 1) := by decide +kernel
theorem dX8_fewestOf_92 : decode cX8_fewestOf 92 = .ok (.istore 5, 2) := by decide +kernel
theorem dX8_fewestOf_94 : decode cX8_fewestOf 94 = .ok (.iinc 6 1, 3) := by decide +kernel
theorem dX8_fewestOf_97 : decode cX8_fewestOf 97 = .ok (.goto (-45), 3) := by decide +kernel
theorem dX8_fewestOf_100 : decode cX8_fewestOf 100 = .ok (.iload 5, 2) := by decide +kernel
theorem dX8_fewestOf_102 : decode cX8_fewestOf 102 = .ok (.ifCond .eq 60, 3) := by decide +kernel
theorem dX8_fewestOf_105 : decode cX8_fewestOf 105 = .ok (.aload_n 0, 1) := by decide +kernel
theorem dX8_fewestOf_106 : decode cX8_fewestOf 106 = .ok (.bipush 24, 2) := by decide +kernel
theorem dX8_fewestOf_108 : decode cX8_fewestOf 108 = .ok (.iload_n 1, 1) := by decide +kernel
theorem dX8_fewestOf_109 : decode cX8_fewestOf 109 = .ok (.imul, 1) := by decide +kernel
theorem dX8_fewestOf_110 : decode cX8_fewestOf 110 = .ok (.iload 4, 2) := by decide +kernel
theorem dX8_fewestOf_112 : decode cX8_fewestOf 112 = .ok (.iconst (-1), 1) := by decide +kernel
theorem dX8_fewestOf_113 : decode cX8_fewestOf 113 = .ok (.iconst 0, 1) := by decide +kernel
theorem dX8_fewestOf_114 : decode cX8_fewestOf 114 = .ok (.invokevirtual 187, 3) := by decide +kernel
theorem dX8_fewestOf_117 : decode cX8_fewestOf 117 = .ok (.iconst 0, 1) := by decide +kernel
theorem dX8_fewestOf_118 : decode cX8_fewestOf 118 = .ok (.istore 6, 2) := by decide +kernel
theorem dX8_fewestOf_120 : decode cX8_fewestOf 120 = .ok (.iconst 0, 1) := by decide +kernel
theorem dX8_fewestOf_121 : decode cX8_fewestOf 121 = .ok (.istore 7, 2) := by decide +kernel
theorem dX8_fewestOf_123 : decode cX8_fewestOf 123 = .ok (.iload 7, 2) := by decide +kernel
theorem dX8_fewestOf_125 : decode cX8_fewestOf 125 = .ok (.bipush 24, 2) := by decide +kernel
theorem dX8_fewestOf_127 : decode cX8_fewestOf 127 = .ok (.iload_n 1, 1) := by decide +kernel
theorem dX8_fewestOf_128 : decode cX8_fewestOf 128 = .ok (.imul, 1) := by decide +kernel
theorem dX8_fewestOf_129 : decode cX8_fewestOf 129 = .ok (.if_icmp .ge 21, 3) := by decide +kernel
theorem dX8_fewestOf_132 : decode cX8_fewestOf 132 = .ok (.iload 6, 2) := by decide +kernel
theorem dX8_fewestOf_134 : decode cX8_fewestOf 134 = .ok (.aload_n 0, 1) := by decide +kernel
theorem dX8_fewestOf_135 : decode cX8_fewestOf 135 = .ok (.getfield 61, 3) := by decide +kernel
theorem dX8_fewestOf_138 : decode cX8_fewestOf 138 = .ok (.iload 7, 2) := by decide +kernel
theorem dX8_fewestOf_140 : decode cX8_fewestOf 140 = .ok (.iaload, 1) := by decide +kernel
theorem dX8_fewestOf_141 : decode cX8_fewestOf 141 = .ok (.ior, 1) := by decide +kernel
theorem dX8_fewestOf_142 : decode cX8_fewestOf 142 = .ok (.istore 6, 2) := by decide +kernel
theorem dX8_fewestOf_144 : decode cX8_fewestOf 144 = .ok (.iinc 7 1, 3) := by decide +kernel
theorem dX8_fewestOf_147 : decode cX8_fewestOf 147 = .ok (.goto (-24), 3) := by decide +kernel
theorem dX8_fewestOf_150 : decode cX8_fewestOf 150 = .ok (.iload 6, 2) := by decide +kernel
theorem dX8_fewestOf_152 : decode cX8_fewestOf 152 = .ok (.ifCond .ne 8, 3) := by decide +kernel
theorem dX8_fewestOf_155 : decode cX8_fewestOf 155 = .ok (.iload 4, 2) := by decide +kernel
theorem dX8_fewestOf_157 : decode cX8_fewestOf 157 = .ok (.goto 4, 3) := by decide +kernel
theorem dX8_fewestOf_160 : decode cX8_fewestOf 160 = .ok (.iload_n 3, 1) := by decide +kernel
theorem dX8_fewestOf_161 : decode cX8_fewestOf 161 = .ok (.istore_n 3, 1) := by decide +kernel
theorem dX8_fewestOf_162 : decode cX8_fewestOf 162 = .ok (.iinc 4 1, 3) := by decide +kernel
theorem dX8_fewestOf_165 : decode cX8_fewestOf 165 = .ok (.goto (-151), 3) := by decide +kernel
theorem dX8_fewestOf_168 : decode cX8_fewestOf 168 = .ok (.iload_n 3, 1) := by decide +kernel
theorem dX8_fewestOf_169 : decode cX8_fewestOf 169 = .ok (.ireturn, 1) := by decide +kernel
abbrev rmX8_fewestOf : Room := { frames := 7, cells := 0, slots := 0, locals := 156 }
set_option maxHeartbeats 4000000 in
set_option maxRecDepth 100000 in
theorem wX8_fewestOf_92 (Cx : ms_C p s m args meth c D cA a shM cX8_fewestOf 8 RX8 (some .int)) (out : Int32 × Mm) (K52 : Int32 → Int32 → Int32 → Int32 → Int32 → Mm → Option (Int32 × Mm)) (hK52 : ∀ (y1 : Int32) (y2 : Int32) (y3 : Int32) (y4 : Int32) (y5 : Int32) , ∀ (σ : Mm) (H : Heap) (locs : List Loc) (ls : Array Slot), ms_I D cA a shM s σ H locs → lv_has ls 8 [(0, .ref (a 0)), (1, .int y1), (3, .int y2), (4, .int y3), (5, .int y4), (6, .int y5)] → K52 y1 y2 y3 y4 y5 σ = some out → W p l e rmX8_fewestOf s m args below meth c H locs 0 0 (MQ below (ms_Qi D cA a shM out.1 out.2) args s 0 0 (ms_A a shM.length)) (F0 m 52 ls [])) : ∀ (y1 : Int32) (y2 : Int32) (y3 : Int32) (y4 : Int32) (y5 : Int32) , ∀ (σ : Mm) (H : Heap) (locs : List Loc) (ls : Array Slot), ms_I D cA a shM s σ H locs → lv_has ls 8 [(0, .ref (a 0)), (1, .int y1), (3, .int y2), (4, .int y3), (6, .int y4)] → fX8_fewestOf_92 K52 y1 y2 y3 y4 y5 σ = some out → W p l e rmX8_fewestOf s m args below meth c H locs 0 0 (MQ below (ms_Qi D cA a shM out.1 out.2) args s 0 0 (ms_A a shM.length)) (F0 m 92 ls [.int y5]) := by
  have hx := Cx.1
  have hb := Cx.2.1
  intro y1 y2 y3 y4 y5 σ H locs ls hI hl h
  unfold fX8_fewestOf_92 at h
  refine lv_istore (lv' := [(5, .int y5), (0, .ref (a 0)), (1, .int y1), (3, .int y2), (4, .int y3), (6, .int y4)]) hx hb dX8_fewestOf_92 hl (by decide) rfl (fun ls hl => ?_)
  refine lv_iinc (v := y4 + 1) (lv' := [(6, .int (y4 + 1)), (5, .int y5), (0, .ref (a 0)), (1, .int y1), (3, .int y2), (4, .int y3)]) hx hb dX8_fewestOf_94 hl (k := 5) rfl rfl (by decide) rfl (fun ls hl => ?_)
  refine lv_goto (tgt := 52) hx hb dX8_fewestOf_97 rfl ?_
  exact hK52 y1 y2 y3 y5 (y4 + 1) σ _ _ _ hI (lv_sub hl [2, 3, 4, 5, 1, 0] rfl) h
set_option maxHeartbeats 4000000 in
set_option maxRecDepth 100000 in
theorem wX8_fewestOf_91 (Cx : ms_C p s m args meth c D cA a shM cX8_fewestOf 8 RX8 (some .int)) (out : Int32 × Mm) (K52 : Int32 → Int32 → Int32 → Int32 → Int32 → Mm → Option (Int32 × Mm)) (hK52 : ∀ (y1 : Int32) (y2 : Int32) (y3 : Int32) (y4 : Int32) (y5 : Int32) , ∀ (σ : Mm) (H : Heap) (locs : List Loc) (ls : Array Slot), ms_I D cA a shM s σ H locs → lv_has ls 8 [(0, .ref (a 0)), (1, .int y1), (3, .int y2), (4, .int y3), (5, .int y4), (6, .int y5)] → K52 y1 y2 y3 y4 y5 σ = some out → W p l e rmX8_fewestOf s m args below meth c H locs 0 0 (MQ below (ms_Qi D cA a shM out.1 out.2) args s 0 0 (ms_A a shM.length)) (F0 m 52 ls [])) : ∀ (y1 : Int32) (y2 : Int32) (y3 : Int32) (y4 : Int32) , ∀ (σ : Mm) (H : Heap) (locs : List Loc) (ls : Array Slot), ms_I D cA a shM s σ H locs → lv_has ls 8 [(0, .ref (a 0)), (1, .int y1), (3, .int y2), (4, .int y3), (6, .int y4)] → fX8_fewestOf_91 K52 y1 y2 y3 y4 σ = some out → W p l e rmX8_fewestOf s m args below meth c H locs 0 0 (MQ below (ms_Qi D cA a shM out.1 out.2) args s 0 0 (ms_A a shM.length)) (F0 m 91 ls []) := by
  have hx := Cx.1
  have hb := Cx.2.1
  intro y1 y2 y3 y4 σ H locs ls hI hl h
  unfold fX8_fewestOf_91 at h
  refine lv_iconst (v := 0) hx hb dX8_fewestOf_91 rfl ?_
  exact wX8_fewestOf_92 Cx out K52 hK52 y1 y2 y3 y4 0 σ _ _ _ hI (lv_sub hl [0, 1, 2, 3, 4] rfl) h
set_option maxHeartbeats 4000000 in
set_option maxRecDepth 100000 in
theorem wX8_fewestOf_87 (Cx : ms_C p s m args meth c D cA a shM cX8_fewestOf 8 RX8 (some .int)) (out : Int32 × Mm) (K52 : Int32 → Int32 → Int32 → Int32 → Int32 → Mm → Option (Int32 × Mm)) (hK52 : ∀ (y1 : Int32) (y2 : Int32) (y3 : Int32) (y4 : Int32) (y5 : Int32) , ∀ (σ : Mm) (H : Heap) (locs : List Loc) (ls : Array Slot), ms_I D cA a shM s σ H locs → lv_has ls 8 [(0, .ref (a 0)), (1, .int y1), (3, .int y2), (4, .int y3), (5, .int y4), (6, .int y5)] → K52 y1 y2 y3 y4 y5 σ = some out → W p l e rmX8_fewestOf s m args below meth c H locs 0 0 (MQ below (ms_Qi D cA a shM out.1 out.2) args s 0 0 (ms_A a shM.length)) (F0 m 52 ls [])) : ∀ (y1 : Int32) (y2 : Int32) (y3 : Int32) (y4 : Int32) , ∀ (σ : Mm) (H : Heap) (locs : List Loc) (ls : Array Slot), ms_I D cA a shM s σ H locs → lv_has ls 8 [(0, .ref (a 0)), (1, .int y1), (3, .int y2), (4, .int y3), (6, .int y4)] → fX8_fewestOf_87 K52 y1 y2 y3 y4 σ = some out → W p l e rmX8_fewestOf s m args below meth c H locs 0 0 (MQ below (ms_Qi D cA a shM out.1 out.2) args s 0 0 (ms_A a shM.length)) (F0 m 87 ls []) := by
  have hx := Cx.1
  have hb := Cx.2.1
  intro y1 y2 y3 y4 σ H locs ls hI hl h
  unfold fX8_fewestOf_87 at h
  refine lv_iconst (v := 1) hx hb dX8_fewestOf_87 rfl ?_
  refine lv_goto (tgt := 92) hx hb dX8_fewestOf_88 rfl ?_
  exact wX8_fewestOf_92 Cx out K52 hK52 y1 y2 y3 y4 1 σ _ _ _ hI (lv_sub hl [0, 1, 2, 3, 4] rfl) h
set_option maxHeartbeats 4000000 in
set_option maxRecDepth 100000 in
theorem wX8_fewestOf_162 (Cx : ms_C p s m args meth c D cA a shM cX8_fewestOf 8 RX8 (some .int)) (out : Int32 × Mm) (K14 : Int32 → Int32 → Int32 → Mm → Option (Int32 × Mm)) (hK14 : ∀ (y1 : Int32) (y2 : Int32) (y3 : Int32) , ∀ (σ : Mm) (H : Heap) (locs : List Loc) (ls : Array Slot), ms_I D cA a shM s σ H locs → lv_has ls 8 [(0, .ref (a 0)), (1, .int y1), (3, .int y2), (4, .int y3)] → K14 y1 y2 y3 σ = some out → W p l e rmX8_fewestOf s m args below meth c H locs 0 0 (MQ below (ms_Qi D cA a shM out.1 out.2) args s 0 0 (ms_A a shM.length)) (F0 m 14 ls [])) : ∀ (y1 : Int32) (y2 : Int32) (y3 : Int32) , ∀ (σ : Mm) (H : Heap) (locs : List Loc) (ls : Array Slot), ms_I D cA a shM s σ H locs → lv_has ls 8 [(0, .ref (a 0)), (1, .int y1), (3, .int y2), (4, .int y3)] → fX8_fewestOf_162 K14 y1 y2 y3 σ = some out → W p l e rmX8_fewestOf s m args below meth c H locs 0 0 (MQ below (ms_Qi D cA a shM out.1 out.2) args s 0 0 (ms_A a shM.length)) (F0 m 162 ls []) := by
  have hx := Cx.1
  have hb := Cx.2.1
  intro y1 y2 y3 σ H locs ls hI hl h
  unfold fX8_fewestOf_162 at h
  refine lv_iinc (v := y3 + 1) (lv' := [(4, .int (y3 + 1)), (0, .ref (a 0)), (1, .int y1), (3, .int y2)]) hx hb dX8_fewestOf_162 hl (k := 3) rfl rfl (by decide) rfl (fun ls hl => ?_)
  refine lv_goto (tgt := 14) hx hb dX8_fewestOf_165 rfl ?_
  exact hK14 y1 y2 (y3 + 1) σ _ _ _ hI (lv_sub hl [1, 2, 3, 0] rfl) h
set_option maxHeartbeats 4000000 in
set_option maxRecDepth 100000 in
theorem wX8_fewestOf_161 (Cx : ms_C p s m args meth c D cA a shM cX8_fewestOf 8 RX8 (some .int)) (out : Int32 × Mm) (K14 : Int32 → Int32 → Int32 → Mm → Option (Int32 × Mm)) (hK14 : ∀ (y1 : Int32) (y2 : Int32) (y3 : Int32) , ∀ (σ : Mm) (H : Heap) (locs : List Loc) (ls : Array Slot), ms_I D cA a shM s σ H locs → lv_has ls 8 [(0, .ref (a 0)), (1, .int y1), (3, .int y2), (4, .int y3)] → K14 y1 y2 y3 σ = some out → W p l e rmX8_fewestOf s m args below meth c H locs 0 0 (MQ below (ms_Qi D cA a shM out.1 out.2) args s 0 0 (ms_A a shM.length)) (F0 m 14 ls [])) : ∀ (y1 : Int32) (y2 : Int32) (y3 : Int32) , ∀ (σ : Mm) (H : Heap) (locs : List Loc) (ls : Array Slot), ms_I D cA a shM s σ H locs → lv_has ls 8 [(0, .ref (a 0)), (1, .int y1), (4, .int y2)] → fX8_fewestOf_161 K14 y1 y2 y3 σ = some out → W p l e rmX8_fewestOf s m args below meth c H locs 0 0 (MQ below (ms_Qi D cA a shM out.1 out.2) args s 0 0 (ms_A a shM.length)) (F0 m 161 ls [.int y3]) := by
  have hx := Cx.1
  have hb := Cx.2.1
  intro y1 y2 y3 σ H locs ls hI hl h
  unfold fX8_fewestOf_161 at h
  refine lv_istore_n (lv' := [(3, .int y3), (0, .ref (a 0)), (1, .int y1), (4, .int y2)]) hx hb dX8_fewestOf_161 rfl hl (by decide) rfl (fun ls hl => ?_)
  exact wX8_fewestOf_162 Cx out K14 hK14 y1 y3 y2 σ _ _ _ hI (lv_sub hl [1, 2, 0, 3] rfl) h
set_option maxHeartbeats 4000000 in
set_option maxRecDepth 100000 in
theorem wX8_fewestOf_123 (Cx : ms_C p s m args meth c D cA a shM cX8_fewestOf 8 RX8 (some .int)) (out : Int32 × Mm) (K14 : Int32 → Int32 → Int32 → Mm → Option (Int32 × Mm)) (hK14 : ∀ (y1 : Int32) (y2 : Int32) (y3 : Int32) , ∀ (σ : Mm) (H : Heap) (locs : List Loc) (ls : Array Slot), ms_I D cA a shM s σ H locs → lv_has ls 8 [(0, .ref (a 0)), (1, .int y1), (3, .int y2), (4, .int y3)] → K14 y1 y2 y3 σ = some out → W p l e rmX8_fewestOf s m args below meth c H locs 0 0 (MQ below (ms_Qi D cA a shM out.1 out.2) args s 0 0 (ms_A a shM.length)) (F0 m 14 ls [])) : ∀ (n : Nat), ∀ (y1 : Int32) (y2 : Int32) (y3 : Int32) (y4 : Int32) (y5 : Int32) , ∀ (σ : Mm) (H : Heap) (locs : List Loc) (ls : Array Slot), ms_I D cA a shM s σ H locs → lv_has ls 8 [(0, .ref (a 0)), (1, .int y1), (3, .int y2), (4, .int y3), (6, .int y4), (7, .int y5)] → fX8_fewestOf_123 K14 n y1 y2 y3 y4 y5 σ = some out → W p l e rmX8_fewestOf s m args below meth c H locs 0 0 (MQ below (ms_Qi D cA a shM out.1 out.2) args s 0 0 (ms_A a shM.length)) (F0 m 123 ls []) := by
  have hx := Cx.1
  have hb := Cx.2.1
  intro n
  induction n with
  | zero =>
    intro y1 y2 y3 y4 y5 σ H locs ls hI hl h
    exact nomatch (show none = some out from h)
  | succ n ih =>
    intro y1 y2 y3 y4 y5 σ H locs ls hI hl h
    rw [fX8_fewestOf_123] at h
    refine lv_iload hx hb dX8_fewestOf_123 (lv_at hl 5 rfl) ?_
    refine lv_bipush (v := 24) hx hb dX8_fewestOf_125 rfl ?_
    refine lv_iload_n hx hb dX8_fewestOf_127 rfl (lv_at hl 1 rfl) ?_
    refine lv_imul hx hb dX8_fewestOf_128 ?_
    refine lv_icmp_ge (tgt := 150) hx hb dX8_fewestOf_129 rfl (fun hc => ?_) (fun hc => ?_)
    · have h := ms_ifT hc h
      refine lv_iload hx hb dX8_fewestOf_150 (lv_at hl 4 rfl) ?_
      refine lv_if_ne (tgt := 160) hx hb dX8_fewestOf_152 rfl (fun hc => ?_) (fun hc => ?_)
      · have h := ms_ifF hc h
        refine lv_iload_n hx hb dX8_fewestOf_160 rfl (lv_at hl 2 rfl) ?_
        exact wX8_fewestOf_161 Cx out K14 hK14 y1 y3 y2 σ _ _ _ hI (lv_sub hl [0, 1, 3] rfl) h
      · have h := ms_ifT hc h
        refine lv_iload hx hb dX8_fewestOf_155 (lv_at hl 3 rfl) ?_
        refine lv_goto (tgt := 161) hx hb dX8_fewestOf_157 rfl ?_
        exact wX8_fewestOf_161 Cx out K14 hK14 y1 y3 y3 σ _ _ _ hI (lv_sub hl [0, 1, 3] rfl) h
    · have h := ms_ifF hc h
      refine lv_iload hx hb dX8_fewestOf_132 (lv_at hl 4 rfl) ?_
      refine lv_aload_n hx hb dX8_fewestOf_134 rfl (lv_at hl 0 rfl) ?_
      refine gr_X8_21 Cx hI wd_7_6 dX8_fewestOf_135 ?_
      refine lv_iload hx hb dX8_fewestOf_138 (lv_at hl 5 rfl) ?_
      obtain ⟨hg, h⟩ := ms_gE h
      refine ms_ld Cx hI 18 shM_18 hg dX8_fewestOf_140 ?_
      refine lv_ior hx hb dX8_fewestOf_141 ?_
      refine lv_istore (lv' := [(6, .int (y4 ||| (σ 18 (ms_ix y5)))), (0, .ref (a 0)), (1, .int y1), (3, .int y2), (4, .int y3), (7, .int y5)]) hx hb dX8_fewestOf_142 hl (by decide) rfl (fun ls hl => ?_)
      refine lv_iinc (v := y5 + 1) (lv' := [(7, .int (y5 + 1)), (6, .int (y4 ||| (σ 18 (ms_ix y5)))), (0, .ref (a 0)), (1, .int y1), (3, .int y2), (4, .int y3)]) hx hb dX8_fewestOf_144 hl (k := 5) rfl rfl (by decide) rfl (fun ls hl => ?_)
      refine lv_goto (tgt := 123) hx hb dX8_fewestOf_147 rfl ?_
      exact ih y1 y2 y3 (y4 ||| (σ 18 (ms_ix y5))) (y5 + 1) σ _ _ _ hI (lv_sub hl [2, 3, 4, 5, 1, 0] rfl) h
set_option maxHeartbeats 4000000 in
set_option maxRecDepth 100000 in
theorem wX8_fewestOf_52 (Cx : ms_C p s m args meth c D cA a shM cX8_fewestOf 8 RX8 (some .int)) (out : Int32 × Mm) (K14 : Int32 → Int32 → Int32 → Mm → Option (Int32 × Mm)) (hK14 : ∀ (y1 : Int32) (y2 : Int32) (y3 : Int32) , ∀ (σ : Mm) (H : Heap) (locs : List Loc) (ls : Array Slot), ms_I D cA a shM s σ H locs → lv_has ls 8 [(0, .ref (a 0)), (1, .int y1), (3, .int y2), (4, .int y3)] → K14 y1 y2 y3 σ = some out → W p l e rmX8_fewestOf s m args below meth c H locs 0 0 (MQ below (ms_Qi D cA a shM out.1 out.2) args s 0 0 (ms_A a shM.length)) (F0 m 14 ls [])) : ∀ (n : Nat), ∀ (y1 : Int32) (y2 : Int32) (y3 : Int32) (y4 : Int32) (y5 : Int32) , ∀ (σ : Mm) (H : Heap) (locs : List Loc) (ls : Array Slot), ms_I D cA a shM s σ H locs → lv_has ls 8 [(0, .ref (a 0)), (1, .int y1), (3, .int y2), (4, .int y3), (5, .int y4), (6, .int y5)] → fX8_fewestOf_52 K14 n y1 y2 y3 y4 y5 σ = some out → W p l e rmX8_fewestOf s m args below meth c H locs 0 0 (MQ below (ms_Qi D cA a shM out.1 out.2) args s 0 0 (ms_A a shM.length)) (F0 m 52 ls []) := by
  have hx := Cx.1
  have hb := Cx.2.1
  intro n
  induction n with
  | zero =>
    intro y1 y2 y3 y4 y5 σ H locs ls hI hl h
    exact nomatch (show none = some out from h)
  | succ n ih =>
    intro y1 y2 y3 y4 y5 σ H locs ls hI hl h
    rw [fX8_fewestOf_52] at h
    refine lv_iload hx hb dX8_fewestOf_52 (lv_at hl 5 rfl) ?_
    refine lv_aload_n hx hb dX8_fewestOf_54 rfl (lv_at hl 0 rfl) ?_
    refine gi_X8_3 Cx hI wd_11_20 dX8_fewestOf_55 ?_
    refine lv_icmp_ge (tgt := 100) hx hb dX8_fewestOf_58 rfl (fun hc => ?_) (fun hc => ?_)
    · have h := ms_ifT hc h
      refine lv_iload hx hb dX8_fewestOf_100 (lv_at hl 4 rfl) ?_
      refine lv_if_eq (tgt := 162) hx hb dX8_fewestOf_102 rfl (fun hc => ?_) (fun hc => ?_)
      · have h := ms_ifT hc h
        exact wX8_fewestOf_162 Cx out K14 hK14 y1 y2 y3 σ _ _ _ hI (lv_sub hl [0, 1, 2, 3] rfl) h
      · have h := ms_ifF hc h
        refine lv_aload_n hx hb dX8_fewestOf_105 rfl (lv_at hl 0 rfl) ?_
        refine lv_bipush (v := 24) hx hb dX8_fewestOf_106 rfl ?_
        refine lv_iload_n hx hb dX8_fewestOf_108 rfl (lv_at hl 1 rfl) ?_
        refine lv_imul hx hb dX8_fewestOf_109 ?_
        refine lv_iload hx hb dX8_fewestOf_110 (lv_at hl 3 rfl) ?_
        refine lv_iconst (v := -1) hx hb dX8_fewestOf_112 rfl ?_
        refine lv_iconst (v := 0) hx hb dX8_fewestOf_113 rfl ?_
        obtain ⟨σ2, hc1, h⟩ := ms_bdE h
        refine kX8_runs Cx hI hc1 wd_24_11 (Nat.le_of_ble_eq_true rfl) (Nat.le_of_ble_eq_true rfl) hl.1 (Nat.le_of_ble_eq_true rfl) dX8_fewestOf_114 (fun H locs hI => ?_)
        refine lv_iconst (v := 0) hx hb dX8_fewestOf_117 rfl ?_
        refine lv_istore (lv' := [(6, .int 0), (0, .ref (a 0)), (1, .int y1), (3, .int y2), (4, .int y3), (5, .int y4)]) hx hb dX8_fewestOf_118 hl (by decide) rfl (fun ls hl => ?_)
        refine lv_iconst (v := 0) hx hb dX8_fewestOf_120 rfl ?_
        refine lv_istore (lv' := [(7, .int 0), (6, .int 0), (0, .ref (a 0)), (1, .int y1), (3, .int y2), (4, .int y3), (5, .int y4)]) hx hb dX8_fewestOf_121 hl (by decide) rfl (fun ls hl => ?_)
        exact wX8_fewestOf_123 Cx out K14 hK14 ms_fu y1 y2 y3 0 0 σ2 _ _ _ hI (lv_sub hl [2, 3, 4, 5, 1, 0] rfl) h
    · have h := ms_ifF hc h
      refine lv_iload hx hb dX8_fewestOf_61 (lv_at hl 4 rfl) ?_
      refine lv_if_eq (tgt := 91) hx hb dX8_fewestOf_63 rfl (fun hc => ?_) (fun hc => ?_)
      · have h := ms_ifT hc h
        exact wX8_fewestOf_91 Cx out (fX8_fewestOf_52 K14 n) ih y1 y2 y3 y5 σ _ _ _ hI (lv_sub hl [0, 1, 2, 3, 5] rfl) h
      · have h := ms_ifF hc h
        refine lv_iload hx hb dX8_fewestOf_66 (lv_at hl 3 rfl) ?_
        refine lv_iload hx hb dX8_fewestOf_68 (lv_at hl 5 rfl) ?_
        obtain ⟨r4, hc3, h⟩ := ms_bdE h
        refine kX8_isIn Cx hI hc3 (Or.inl wd_12_23) (Nat.le_of_ble_eq_true rfl) (Nat.le_of_ble_eq_true rfl) hl.1 (Nat.le_of_ble_eq_true rfl) dX8_fewestOf_70 (fun H locs hI => ?_)
        refine lv_if_eq (tgt := 87) hx hb dX8_fewestOf_73 rfl (fun hc => ?_) (fun hc => ?_)
        · have h := ms_ifT hc h
          exact wX8_fewestOf_87 Cx out (fX8_fewestOf_52 K14 n) ih y1 y2 y3 y5 σ _ _ _ hI (lv_sub hl [0, 1, 2, 3, 5] rfl) h
        · have h := ms_ifF hc h
          refine lv_aload_n hx hb dX8_fewestOf_76 rfl (lv_at hl 0 rfl) ?_
          refine gr_X8_8 Cx hI wd_6_19 dX8_fewestOf_77 ?_
          refine lv_iload hx hb dX8_fewestOf_80 (lv_at hl 5 rfl) ?_
          obtain ⟨hg, h⟩ := ms_gE h
          refine ms_ld Cx hI 7 shM_7 hg dX8_fewestOf_82 ?_
          refine lv_iconst (v := 1) hx hb dX8_fewestOf_83 rfl ?_
          refine lv_icmp_eq (tgt := 91) hx hb dX8_fewestOf_84 rfl (fun hc => ?_) (fun hc => ?_)
          · have h := ms_ifT hc h
            exact wX8_fewestOf_91 Cx out (fX8_fewestOf_52 K14 n) ih y1 y2 y3 y5 σ _ _ _ hI (lv_sub hl [0, 1, 2, 3, 5] rfl) h
          · have h := ms_ifF hc h
            exact wX8_fewestOf_87 Cx out (fX8_fewestOf_52 K14 n) ih y1 y2 y3 y5 σ _ _ _ hI (lv_sub hl [0, 1, 2, 3, 5] rfl) h
set_option maxHeartbeats 4000000 in
set_option maxRecDepth 100000 in
theorem wX8_fewestOf_47 (Cx : ms_C p s m args meth c D cA a shM cX8_fewestOf 8 RX8 (some .int)) (out : Int32 × Mm) (K14 : Int32 → Int32 → Int32 → Mm → Option (Int32 × Mm)) (hK14 : ∀ (y1 : Int32) (y2 : Int32) (y3 : Int32) , ∀ (σ : Mm) (H : Heap) (locs : List Loc) (ls : Array Slot), ms_I D cA a shM s σ H locs → lv_has ls 8 [(0, .ref (a 0)), (1, .int y1), (3, .int y2), (4, .int y3)] → K14 y1 y2 y3 σ = some out → W p l e rmX8_fewestOf s m args below meth c H locs 0 0 (MQ below (ms_Qi D cA a shM out.1 out.2) args s 0 0 (ms_A a shM.length)) (F0 m 14 ls [])) : ∀ (y1 : Int32) (y2 : Int32) (y3 : Int32) (y4 : Int32) , ∀ (σ : Mm) (H : Heap) (locs : List Loc) (ls : Array Slot), ms_I D cA a shM s σ H locs → lv_has ls 8 [(0, .ref (a 0)), (1, .int y1), (3, .int y2), (4, .int y3)] → fX8_fewestOf_47 K14 y1 y2 y3 y4 σ = some out → W p l e rmX8_fewestOf s m args below meth c H locs 0 0 (MQ below (ms_Qi D cA a shM out.1 out.2) args s 0 0 (ms_A a shM.length)) (F0 m 47 ls [.int y4]) := by
  have hx := Cx.1
  have hb := Cx.2.1
  intro y1 y2 y3 y4 σ H locs ls hI hl h
  unfold fX8_fewestOf_47 at h
  refine lv_istore (lv' := [(5, .int y4), (0, .ref (a 0)), (1, .int y1), (3, .int y2), (4, .int y3)]) hx hb dX8_fewestOf_47 hl (by decide) rfl (fun ls hl => ?_)
  refine lv_iconst (v := 0) hx hb dX8_fewestOf_49 rfl ?_
  refine lv_istore (lv' := [(6, .int 0), (5, .int y4), (0, .ref (a 0)), (1, .int y1), (3, .int y2), (4, .int y3)]) hx hb dX8_fewestOf_50 hl (by decide) rfl (fun ls hl => ?_)
  exact wX8_fewestOf_52 Cx out K14 hK14 ms_fu y1 y2 y3 y4 0 σ _ _ _ hI (lv_sub hl [2, 3, 4, 5, 1, 0] rfl) h
set_option maxHeartbeats 4000000 in
set_option maxRecDepth 100000 in
theorem wX8_fewestOf_42 (Cx : ms_C p s m args meth c D cA a shM cX8_fewestOf 8 RX8 (some .int)) (out : Int32 × Mm) (K14 : Int32 → Int32 → Int32 → Mm → Option (Int32 × Mm)) (hK14 : ∀ (y1 : Int32) (y2 : Int32) (y3 : Int32) , ∀ (σ : Mm) (H : Heap) (locs : List Loc) (ls : Array Slot), ms_I D cA a shM s σ H locs → lv_has ls 8 [(0, .ref (a 0)), (1, .int y1), (3, .int y2), (4, .int y3)] → K14 y1 y2 y3 σ = some out → W p l e rmX8_fewestOf s m args below meth c H locs 0 0 (MQ below (ms_Qi D cA a shM out.1 out.2) args s 0 0 (ms_A a shM.length)) (F0 m 14 ls [])) : ∀ (y1 : Int32) (y2 : Int32) (y3 : Int32) , ∀ (σ : Mm) (H : Heap) (locs : List Loc) (ls : Array Slot), ms_I D cA a shM s σ H locs → lv_has ls 8 [(0, .ref (a 0)), (1, .int y1), (3, .int y2), (4, .int y3)] → fX8_fewestOf_42 K14 y1 y2 y3 σ = some out → W p l e rmX8_fewestOf s m args below meth c H locs 0 0 (MQ below (ms_Qi D cA a shM out.1 out.2) args s 0 0 (ms_A a shM.length)) (F0 m 42 ls []) := by
  have hx := Cx.1
  have hb := Cx.2.1
  intro y1 y2 y3 σ H locs ls hI hl h
  unfold fX8_fewestOf_42 at h
  refine lv_iconst (v := 1) hx hb dX8_fewestOf_42 rfl ?_
  refine lv_goto (tgt := 47) hx hb dX8_fewestOf_43 rfl ?_
  exact wX8_fewestOf_47 Cx out K14 hK14 y1 y2 y3 1 σ _ _ _ hI (lv_sub hl [0, 1, 2, 3] rfl) h
set_option maxHeartbeats 4000000 in
set_option maxRecDepth 100000 in
theorem wX8_fewestOf_14 (Cx : ms_C p s m args meth c D cA a shM cX8_fewestOf 8 RX8 (some .int)) (out : Int32 × Mm) : ∀ (n : Nat), ∀ (y1 : Int32) (y2 : Int32) (y3 : Int32) , ∀ (σ : Mm) (H : Heap) (locs : List Loc) (ls : Array Slot), ms_I D cA a shM s σ H locs → lv_has ls 8 [(0, .ref (a 0)), (1, .int y1), (3, .int y2), (4, .int y3)] → fX8_fewestOf_14 n y1 y2 y3 σ = some out → W p l e rmX8_fewestOf s m args below meth c H locs 0 0 (MQ below (ms_Qi D cA a shM out.1 out.2) args s 0 0 (ms_A a shM.length)) (F0 m 14 ls []) := by
  have hx := Cx.1
  have hb := Cx.2.1
  intro n
  induction n with
  | zero =>
    intro y1 y2 y3 σ H locs ls hI hl h
    exact nomatch (show none = some out from h)
  | succ n ih =>
    intro y1 y2 y3 σ H locs ls hI hl h
    rw [fX8_fewestOf_14] at h
    refine lv_iload hx hb dX8_fewestOf_14 (lv_at hl 3 rfl) ?_
    refine lv_iconst (v := 1) hx hb dX8_fewestOf_16 rfl ?_
    refine lv_aload_n hx hb dX8_fewestOf_17 rfl (lv_at hl 0 rfl) ?_
    refine gi_X8_3 Cx hI wd_11_20 dX8_fewestOf_18 ?_
    refine lv_ishl hx hb dX8_fewestOf_21 ?_
    refine lv_icmp_ge (tgt := 168) hx hb dX8_fewestOf_22 rfl (fun hc => ?_) (fun hc => ?_)
    · have h := ms_ifT hc h
      refine lv_iload_n hx hb dX8_fewestOf_168 rfl (lv_at hl 2 rfl) ?_
      exact ms_riw Cx hI h dX8_fewestOf_169
    · have h := ms_ifF hc h
      refine lv_iload_n hx hb dX8_fewestOf_25 rfl (lv_at hl 2 rfl) ?_
      refine lv_iconst (v := -1) hx hb dX8_fewestOf_26 rfl ?_
      refine lv_icmp_eq (tgt := 42) hx hb dX8_fewestOf_27 rfl (fun hc => ?_) (fun hc => ?_)
      · have h := ms_ifT hc h
        exact wX8_fewestOf_42 Cx out (fX8_fewestOf_14 n) ih y1 y2 y3 σ _ _ _ hI (lv_sub hl [0, 1, 2, 3] rfl) h
      · have h := ms_ifF hc h
        refine lv_iload hx hb dX8_fewestOf_30 (lv_at hl 3 rfl) ?_
        obtain ⟨r2, hc1, h⟩ := ms_bdE h
        refine kX8_ones Cx hI hc1 (Or.inl wd_29_8) (Nat.le_of_ble_eq_true rfl) (Nat.le_of_ble_eq_true rfl) hl.1 (Nat.le_of_ble_eq_true rfl) dX8_fewestOf_32 (fun H locs hI => ?_)
        refine lv_iload_n hx hb dX8_fewestOf_35 rfl (lv_at hl 2 rfl) ?_
        obtain ⟨r4, hc3, h⟩ := ms_bdE h
        refine kX8_ones Cx hI hc3 (Or.inl wd_29_8) (Nat.le_of_ble_eq_true rfl) (Nat.le_of_ble_eq_true rfl) hl.1 (Nat.le_of_ble_eq_true rfl) dX8_fewestOf_36 (fun H locs hI => ?_)
        refine lv_icmp_ge (tgt := 46) hx hb dX8_fewestOf_39 rfl (fun hc => ?_) (fun hc => ?_)
        · have h := ms_ifT hc h
          refine lv_iconst (v := 0) hx hb dX8_fewestOf_46 rfl ?_
          exact wX8_fewestOf_47 Cx out (fX8_fewestOf_14 n) ih y1 y2 y3 0 σ _ _ _ hI (lv_sub hl [0, 1, 2, 3] rfl) h
        · have h := ms_ifF hc h
          exact wX8_fewestOf_42 Cx out (fX8_fewestOf_14 n) ih y1 y2 y3 σ _ _ _ hI (lv_sub hl [0, 1, 2, 3] rfl) h
set_option maxHeartbeats 4000000 in
set_option maxRecDepth 100000 in
theorem wX8_fewestOf (Cx : ms_C p s m args meth c D cA a shM cX8_fewestOf 8 RX8 (some .int)) (out : Int32 × Mm) : ∀ (p0 : Int32) , ∀ (σ : Mm) (H : Heap) (locs : List Loc) (ls : Array Slot), ms_I D cA a shM s σ H locs → lv_has ls 8 [(0, .ref (a 0)), (1, .int p0)] → fX8_fewestOf p0 σ = some out → W p l e rmX8_fewestOf s m args below meth c H locs 0 0 (MQ below (ms_Qi D cA a shM out.1 out.2) args s 0 0 (ms_A a shM.length)) (F0 m 0 ls []) := by
  have hx := Cx.1
  have hb := Cx.2.1
  intro p0 σ H locs ls hI hl h
  unfold fX8_fewestOf at h
  refine lv_aload_n hx hb dX8_fewestOf_0 rfl (lv_at hl 0 rfl) ?_
  obtain ⟨⟨r2, σ3⟩, hc1, h⟩ := ms_bdE h
  refine kX8_faultNow Cx hI hc1 wd_11_16 (Nat.le_of_ble_eq_true rfl) (Nat.le_of_ble_eq_true rfl) hl.1 (Nat.le_of_ble_eq_true rfl) dX8_fewestOf_1 (fun H locs hI => ?_)
  refine lv_istore_n (lv' := [(2, .int r2), (0, .ref (a 0)), (1, .int p0)]) hx hb dX8_fewestOf_4 rfl hl (by decide) rfl (fun ls hl => ?_)
  refine lv_aload_n hx hb dX8_fewestOf_5 rfl (lv_at hl 1 rfl) ?_
  obtain ⟨σ5, hc4, h⟩ := ms_bdE h
  refine kX8_laysWinds Cx hI hc4 wd_24_7 (Nat.le_of_ble_eq_true rfl) (Nat.le_of_ble_eq_true rfl) hl.1 (Nat.le_of_ble_eq_true rfl) dX8_fewestOf_6 (fun H locs hI => ?_)
  refine lv_iconst (v := -1) hx hb dX8_fewestOf_9 rfl ?_
  refine lv_istore_n (lv' := [(3, .int (-1)), (2, .int r2), (0, .ref (a 0)), (1, .int p0)]) hx hb dX8_fewestOf_10 rfl hl (by decide) rfl (fun ls hl => ?_)
  refine lv_iconst (v := 0) hx hb dX8_fewestOf_11 rfl ?_
  refine lv_istore (lv' := [(4, .int 0), (3, .int (-1)), (2, .int r2), (0, .ref (a 0)), (1, .int p0)]) hx hb dX8_fewestOf_12 hl (by decide) rfl (fun ls hl => ?_)
  exact wX8_fewestOf_14 Cx out  ms_fu p0 (-1) 0 σ5 _ _ _ hI (lv_sub hl [3, 4, 1, 0] rfl) h
theorem yvX8_fewestOf : ms_YV yX8_fewestOf RX8 cX8_fewestOf 8 (some .int) 1 := ⟨wd_29_5, wd_29_6, wd_1_5, wd_29_7, rfl, by decide +kernel, by decide +kernel, by decide +kernel⟩
set_option maxHeartbeats 4000000 in
theorem metX8_fewestOf (l : Launch) (hDis : ms_Dis a shM.length) {σ : Mm} {p0 : Int32} {out : Int32 × Mm} (h : fX8_fewestOf p0 σ = some out) : Met l yX8_fewestOf (.code yX8_fewestOf cX8_fewestOf 8 (some .int) :: wsL_law) rmX8_fewestOf (ms_Pc D cA a shM [.ref (a 0), .int p0] σ) (ms_Qi D cA a shM out.1 out.2) 0 0 (ms_A a shM.length) := by
  refine Met.ofW (cc := cX8_fewestOf) (maxL := 8) (ret := (some .int)) (by decide) rfl ?_
  intro p e s m args below meth c s₁ B hml hv
  obtain ⟨rfl, hK, hN, hP⟩ := hv
  have hl := lv_entry ([.ref (a 0), .int p0]) (n := 8) (Nat.le_of_ble_eq_true rfl)
  rw [lg_entry_eq]
  generalize (lg_sl ([.ref (a 0), .int p0]) ++ List.replicate (8 - (lg_sl ([.ref (a 0), .int p0])).length) Slot.unset).toArray = ls at hl ⊢
  exact wX8_fewestOf ⟨B.exec, B.bytes, hml, findClass_of_methodNamed B.named, fun w hw => atoms_spec (ws := .code yX8_fewestOf cX8_fewestOf 8 (some .int) :: wsL_law) B.pre w (List.mem_cons_of_mem _ hw), B.returns, B.notSynchronized, hK, hDis, hN⟩ out p0 σ s.heap [] ls ⟨hP, va_S.rf⟩ hl h
theorem kX8_fewestOf (Cx : ms_C p s m args meth c D cA a shM cc nL own ret) {σ : Mm} {H : Heap} {locs : List Loc} (hI : ms_I D cA a shM s σ H locs) {p0 : Int32} {out : Int32 × Mm} (h : fX8_fewestOf p0 σ = some out) (hl : Cond.methodLink own idx yX8_fewestOf ∈ wsL_law) (hf : 7 + 1 ≤ R.frames) (hlo : 8 + (8 + 11) + 156 ≤ R.locals) (hsz : ls.size = nL) (hW : (rest.map fun v => v.category).sum ≤ 8) (hd : decode cc pc = .ok (.invokevirtual idx, 3)) (kk : ∀ (H1 : Heap) (locs1 : List Loc), ms_I D cA a shM s out.2 H1 locs1 → W p l e R s m args below meth c H1 locs1 0 0 Q (F0 m (pc + 3) ls (.int out.1 :: rest))) : W p l e R s m args below meth c H locs 0 0 Q (F0 m pc ls (.int p0 :: .ref (a 0) :: rest)) :=
  ms_ci hI (ms_runV (av := [.int p0]) Cx hI 0 shM_0 (ci := 8) rfl rfl yvX8_fewestOf (metX8_fewestOf l Cx.2.2.2.2.2.2.2.2.1  h) ⟨rfl, rfl⟩ hl ⟨hf, hlo⟩ rfl hsz rfl hW ⟨Nat.zero_le _, Nat.zero_le _⟩ hd) kk
/-! X8 fewest (I)I -/
theorem dX8_fewest_0 : decode cX8_fewest 0 = .ok (.iload_n 1, 1) := by decide +kernel
theorem dX8_fewest_1 : decode cX8_fewest 1 = .ok (.invokestatic 203, 3) := by decide +kernel
theorem dX8_fewest_4 : decode cX8_fewest 4 = .ok (.ifCond .eq 11, 3) := by decide +kernel
theorem dX8_fewest_7 : decode cX8_fewest 7 = .ok (.aload_n 0, 1) := by decide +kernel
theorem dX8_fewest_8 : decode cX8_fewest 8 = .ok (.iload_n 1, 1) := by decide +kernel
theorem dX8_fewest_9 : decode cX8_fewest 9 = .ok (.invokevirtual 224, 3) := by decide +kernel
theorem dX8_fewest_12 : decode cX8_fewest 12 = .ok (.goto 5, 3) := by decide +kernel
theorem dX8_fewest_15 : decode cX8_fewest 15 = .ok (.bipush (-2), 2) := by decide +kernel
theorem dX8_fewest_17 : decode cX8_fewest 17 = .ok (.ireturn, 1) := by decide +kernel
abbrev rmX8_fewest : Room := { frames := 8, cells := 0, slots := 0, locals := 183 }
set_option maxHeartbeats 4000000 in
set_option maxRecDepth 100000 in
theorem wX8_fewest (Cx : ms_C p s m args meth c D cA a shM cX8_fewest 2 RX8 (some .int)) (out : Int32 × Mm) : ∀ (p0 : Int32) , ∀ (σ : Mm) (H : Heap) (locs : List Loc) (ls : Array Slot), ms_I D cA a shM s σ H locs → lv_has ls 2 [(0, .ref (a 0)), (1, .int p0)] → fX8_fewest p0 σ = some out → W p l e rmX8_fewest s m args below meth c H locs 0 0 (MQ below (ms_Qi D cA a shM out.1 out.2) args s 0 0 (ms_A a shM.length)) (F0 m 0 ls []) := by
  have hx := Cx.1
  have hb := Cx.2.1
  intro p0 σ H locs ls hI hl h
  unfold fX8_fewest at h
  refine lv_iload_n hx hb dX8_fewest_0 rfl (lv_at hl 1 rfl) ?_
  obtain ⟨r2, hc1, h⟩ := ms_bdE h
  refine kX8_areDays Cx hI hc1 (Or.inl wd_25_19) (Nat.le_of_ble_eq_true rfl) (Nat.le_of_ble_eq_true rfl) hl.1 (Nat.le_of_ble_eq_true rfl) dX8_fewest_1 (fun H locs hI => ?_)
  refine lv_if_eq (tgt := 15) hx hb dX8_fewest_4 rfl (fun hc => ?_) (fun hc => ?_)
  · have h := ms_ifT hc h
    refine lv_bipush (v := -2) hx hb dX8_fewest_15 rfl ?_
    exact ms_riw Cx hI h dX8_fewest_17
  · have h := ms_ifF hc h
    refine lv_aload_n hx hb dX8_fewest_7 rfl (lv_at hl 0 rfl) ?_
    refine lv_iload_n hx hb dX8_fewest_8 rfl (lv_at hl 1 rfl) ?_
    obtain ⟨⟨r4, σ5⟩, hc3, h⟩ := ms_bdE h
    refine kX8_fewestOf Cx hI hc3 wd_29_4 (Nat.le_of_ble_eq_true rfl) (Nat.le_of_ble_eq_true rfl) hl.1 (Nat.le_of_ble_eq_true rfl) dX8_fewest_9 (fun H locs hI => ?_)
    refine lv_goto (tgt := 17) hx hb dX8_fewest_12 rfl ?_
    exact ms_riw Cx hI h dX8_fewest_17
theorem yvX8_fewest : ms_YV yX8_fewest RX8 cX8_fewest 2 (some .int) 1 := ⟨wd_29_1, wd_29_2, wd_1_5, wd_29_3, rfl, by decide +kernel, by decide +kernel, by decide +kernel⟩
set_option maxHeartbeats 4000000 in
theorem metX8_fewest (l : Launch) (hDis : ms_Dis a shM.length) {σ : Mm} {p0 : Int32} {out : Int32 × Mm} (h : fX8_fewest p0 σ = some out) : Met l yX8_fewest (.code yX8_fewest cX8_fewest 2 (some .int) :: wsL_law) rmX8_fewest (ms_Pc D cA a shM [.ref (a 0), .int p0] σ) (ms_Qi D cA a shM out.1 out.2) 0 0 (ms_A a shM.length) := by
  refine Met.ofW (cc := cX8_fewest) (maxL := 2) (ret := (some .int)) (by decide) rfl ?_
  intro p e s m args below meth c s₁ B hml hv
  obtain ⟨rfl, hK, hN, hP⟩ := hv
  have hl := lv_entry ([.ref (a 0), .int p0]) (n := 2) (Nat.le_of_ble_eq_true rfl)
  rw [lg_entry_eq]
  generalize (lg_sl ([.ref (a 0), .int p0]) ++ List.replicate (2 - (lg_sl ([.ref (a 0), .int p0])).length) Slot.unset).toArray = ls at hl ⊢
  exact wX8_fewest ⟨B.exec, B.bytes, hml, findClass_of_methodNamed B.named, fun w hw => atoms_spec (ws := .code yX8_fewest cX8_fewest 2 (some .int) :: wsL_law) B.pre w (List.mem_cons_of_mem _ hw), B.returns, B.notSynchronized, hK, hDis, hN⟩ out p0 σ s.heap [] ls ⟨hP, va_S.rf⟩ hl h
theorem kX8_fewest (Cx : ms_C p s m args meth c D cA a shM cc nL own ret) {σ : Mm} {H : Heap} {locs : List Loc} (hI : ms_I D cA a shM s σ H locs) {p0 : Int32} {out : Int32 × Mm} (h : fX8_fewest p0 σ = some out) (hl : Cond.methodLink own idx yX8_fewest ∈ wsL_law) (hf : 8 + 1 ≤ R.frames) (hlo : 8 + (2 + 11) + 183 ≤ R.locals) (hsz : ls.size = nL) (hW : (rest.map fun v => v.category).sum ≤ 8) (hd : decode cc pc = .ok (.invokevirtual idx, 3)) (kk : ∀ (H1 : Heap) (locs1 : List Loc), ms_I D cA a shM s out.2 H1 locs1 → W p l e R s m args below meth c H1 locs1 0 0 Q (F0 m (pc + 3) ls (.int out.1 :: rest))) : W p l e R s m args below meth c H locs 0 0 Q (F0 m pc ls (.int p0 :: .ref (a 0) :: rest)) :=
  ms_ci hI (ms_runV (av := [.int p0]) Cx hI 0 shM_0 (ci := 8) rfl rfl yvX8_fewest (metX8_fewest l Cx.2.2.2.2.2.2.2.2.1  h) ⟨rfl, rfl⟩ hl ⟨hf, hlo⟩ rfl hsz rfl hW ⟨Nat.zero_le _, Nat.zero_le _⟩ hd) kk
/-! X8 placeOf (II)I -/
theorem dX8_placeOf_0 : decode cX8_placeOf 0 = .ok (.aload_n 0, 1) := by decide +kernel
theorem dX8_placeOf_1 : decode cX8_placeOf 1 = .ok (.invokevirtual 140, 3) := by decide +kernel
theorem dX8_placeOf_4 : decode cX8_placeOf 4 = .ok (.istore_n 3, 1) := by decide +kernel
theorem dX8_placeOf_5 : decode cX8_placeOf 5 = .ok (.aload_n 0, 1) := by decide +kernel
theorem dX8_placeOf_6 : decode cX8_placeOf 6 = .ok (.getfield 120, 3) := by decide +kernel
theorem dX8_placeOf_9 : decode cX8_placeOf 9 = .ok (.istore 4, 2) := by decide +kernel
theorem dX8_placeOf_11 : decode cX8_placeOf 11 = .ok (.iconst (-1), 1) := by decide +kernel
theorem dX8_placeOf_12 : decode cX8_placeOf 12 = .ok (.istore 5, 2) := by decide +kernel
theorem dX8_placeOf_14 : decode cX8_placeOf 14 = .ok (.iconst (-1), 1) := by decide +kernel
theorem dX8_placeOf_15 : decode cX8_placeOf 15 = .ok (.istore 6, 2) := by decide +kernel
theorem dX8_placeOf_17 : decode cX8_placeOf 17 = .ok (.iconst 0, 1) := by decide +kernel
theorem dX8_placeOf_18 : decode cX8_placeOf 18 = .ok (.istore 7, 2) := by decide +kernel
theorem dX8_placeOf_20 : decode cX8_placeOf 20 = .ok (.iload 7, 2) := by decide +kernel
theorem dX8_placeOf_22 : decode cX8_placeOf 22 = .ok (.bipush 9, 2) := by decide +kernel
theorem dX8_placeOf_24 : decode cX8_placeOf 24 = .ok (.if_icmp .ge 89, 3) := by decide +kernel
theorem dX8_placeOf_27 : decode cX8_placeOf 27 = .ok (.iload 4, 2) := by decide +kernel
theorem dX8_placeOf_29 : decode cX8_placeOf 29 = .ok (.iload 7, 2) := by decide +kernel
theorem dX8_placeOf_31 : decode cX8_placeOf 31 = .ok (.invokestatic 129, 3) := by decide +kernel
theorem dX8_placeOf_34 : decode cX8_placeOf 34 = .ok (.ifCond .ne 73, 3) := by decide +kernel
theorem dX8_placeOf_37 : decode cX8_placeOf 37 = .ok (.aload_n 0, 1) := by decide +kernel
theorem dX8_placeOf_38 : decode cX8_placeOf 38 = .ok (.iload 4, 2) := by decide +kernel
theorem dX8_placeOf_40 : decode cX8_placeOf 40 = .ok (.iconst 1, 1) := by decide +kernel
theorem dX8_placeOf_41 : decode cX8_placeOf 41 = .ok (.iload 7, 2) := by decide +kernel
theorem dX8_placeOf_43 : decode cX8_placeOf 43 = .ok (.ishl, 1) := by decide +kernel
theorem dX8_placeOf_44 : decode cX8_placeOf 44 = .ok (.ior, 1) := by decide +kernel
theorem dX8_placeOf_45 : decode cX8_placeOf 45 = .ok (.putfield 120, 3) := by decide +kernel
theorem dX8_placeOf_48 : decode cX8_placeOf 48 = .ok (.aload_n 0, 1) := by decide +kernel
theorem dX8_placeOf_49 : decode cX8_placeOf 49 = .ok (.invokevirtual 184, 3) := by decide +kernel
theorem dX8_placeOf_52 : decode cX8_placeOf 52 = .ok (.aload_n 0, 1) := by decide +kernel
theorem dX8_placeOf_53 : decode cX8_placeOf 53 = .ok (.bipush 24, 2) := by decide +kernel
theorem dX8_placeOf_55 : decode cX8_placeOf 55 = .ok (.iload_n 1, 1) := by decide +kernel
theorem dX8_placeOf_56 : decode cX8_placeOf 56 = .ok (.imul, 1) := by decide +kernel
theorem dX8_placeOf_57 : decode cX8_placeOf 57 = .ok (.iconst 0, 1) := by decide +kernel
theorem dX8_placeOf_58 : decode cX8_placeOf 58 = .ok (.iconst (-1), 1) := by decide +kernel
theorem dX8_placeOf_59 : decode cX8_placeOf 59 = .ok (.iconst 0, 1) := by decide +kernel
theorem dX8_placeOf_60 : decode cX8_placeOf 60 = .ok (.invokevirtual 187, 3) := by decide +kernel
theorem dX8_placeOf_63 : decode cX8_placeOf 63 = .ok (.aload_n 0, 1) := by decide +kernel
theorem dX8_placeOf_64 : decode cX8_placeOf 64 = .ok (.getfield 49, 3) := by decide +kernel
theorem dX8_placeOf_67 : decode cX8_placeOf 67 = .ok (.aload_n 0, 1) := by decide +kernel
theorem dX8_placeOf_68 : decode cX8_placeOf 68 = .ok (.iload_n 1, 1) := by decide +kernel
theorem dX8_placeOf_69 : decode cX8_placeOf 69 = .ok (.invokevirtual 215, 3) := by decide +kernel
theorem dX8_placeOf_72 : decode cX8_placeOf 72 = .ok (.iaload, 1) := by decide +kernel
theorem dX8_placeOf_73 : decode cX8_placeOf 73 = .ok (.istore 8, 2) := by decide +kernel
theorem dX8_placeOf_75 : decode cX8_placeOf 75 = .ok (.iload 8, 2) := by decide +kernel
theorem dX8_placeOf_77 : decode cX8_placeOf 77 = .ok (.iload 6, 2) := by decide +kernel
theorem dX8_placeOf_79 : decode cX8_placeOf 79 = .ok (.if_icmp .le 8, 3) := by decide +kernel
theorem dX8_placeOf_82 : decode cX8_placeOf 82 = .ok (.iload 7, 2) := by decide +kernel
theorem dX8_placeOf_84 : decode cX8_placeOf 84 = .ok (.goto 5, 3) := by decide +kernel
theorem dX8_placeOf_87 : decode cX8_placeOf 87 = .ok (.iload 5, 2) := by decide +kernel
theorem dX8_placeOf_89 : decode cX8_placeOf 89 = .ok (.istore 5, 2) := by decide +kernel
theorem dX8_placeOf_91 : decode cX8_placeOf 91 = .ok (.iload 8, 2) := by decide +kernel
theorem dX8_placeOf_93 : decode cX8_placeOf 93 = .ok (.iload 6, 2) := by decide +kernel
theorem dX8_placeOf_95 : decode cX8_placeOf 95 = .ok (.if_icmp .le 8, 3) := by decide +kernel
theorem dX8_placeOf_98 : decode cX8_placeOf 98 = .ok (.iload 8, 2) := by decide +kernel
theorem dX8_placeOf_100 : decode cX8_placeOf 100 = .ok (.goto 5, 3) := by decide +kernel
theorem dX8_placeOf_103 : decode cX8_placeOf 103 = .ok (.iload 6, 2) := by decide +kernel
theorem dX8_placeOf_105 : decode cX8_placeOf 105 = .ok (.istore 6, 2) := by decide +kernel
theorem dX8_placeOf_107 : decode cX8_placeOf 107 = .ok (.iinc 7 1, 3) := by decide +kernel
theorem dX8_placeOf_110 : decode cX8_placeOf 110 = .ok (.goto (-90), 3) := by decide +kernel
theorem dX8_placeOf_113 : decode cX8_placeOf 113 = .ok (.aload_n 0, 1) := by decide +kernel
theorem dX8_placeOf_114 : decode cX8_placeOf 114 = .ok (.iload 4, 2) := by decide +kernel
theorem dX8_placeOf_116 : decode cX8_placeOf 116 = .ok (.putfield 120, 3) := by decide +kernel
theorem dX8_placeOf_119 : decode cX8_placeOf 119 = .ok (.iload_n 2, 1) := by decide +kernel
theorem dX8_placeOf_120 : decode cX8_placeOf 120 = .ok (.ifCond .ne 8, 3) := by decide +kernel
theorem dX8_placeOf_123 : decode cX8_placeOf 123 = .ok (.iload 5, 2) := by decide +kernel
theorem dX8_placeOf_125 : decode cX8_placeOf 125 = .ok (.goto 5, 3) := by decide +kernel
theorem dX8_placeOf_128 : decode cX8_placeOf 128 = .ok (.iload 6, 2) := by decide +kernel
theorem dX8_placeOf_130 : decode cX8_placeOf 130 = .ok (.ireturn, 1) := by decide +kernel
abbrev rmX8_placeOf : Room := { frames := 7, cells := 0, slots := 0, locals := 156 }
set_option maxHeartbeats 4000000 in
set_option maxRecDepth 100000 in
theorem wX8_placeOf_107 (Cx : ms_C p s m args meth c D cA a shM cX8_placeOf 9 RX8 (some .int)) (out : Int32 × Mm) (K20 : Int32 → Int32 → Int32 → Int32 → Int32 → Int32 → Mm → Option (Int32 × Mm)) (hK20 : ∀ (y1 : Int32) (y2 : Int32) (y3 : Int32) (y4 : Int32) (y5 : Int32) (y6 : Int32) , ∀ (σ : Mm) (H : Heap) (locs : List Loc) (ls : Array Slot), ms_I D cA a shM s σ H locs → lv_has ls 9 [(0, .ref (a 0)), (1, .int y1), (2, .int y2), (4, .int y3), (5, .int y4), (6, .int y5), (7, .int y6)] → K20 y1 y2 y3 y4 y5 y6 σ = some out → W p l e rmX8_placeOf s m args below meth c H locs 0 0 (MQ below (ms_Qi D cA a shM out.1 out.2) args s 0 0 (ms_A a shM.length)) (F0 m 20 ls [])) : ∀ (y1 : Int32) (y2 : Int32) (y3 : Int32) (y4 : Int32) (y5 : Int32) (y6 : Int32) , ∀ (σ : Mm) (H : Heap) (locs : List Loc) (ls : Array Slot), ms_I D cA a shM s σ H locs → lv_has ls 9 [(0, .ref (a 0)), (1, .int y1), (2, .int y2), (4, .int y3), (5, .int y4), (6, .int y5), (7, .int y6)] → fX8_placeOf_107 K20 y1 y2 y3 y4 y5 y6 σ = some out → W p l e rmX8_placeOf s m args below meth c H locs 0 0 (MQ below (ms_Qi D cA a shM out.1 out.2) args s 0 0 (ms_A a shM.length)) (F0 m 107 ls []) := by
  have hx := Cx.1
  have hb := Cx.2.1
  intro y1 y2 y3 y4 y5 y6 σ H locs ls hI hl h
  unfold fX8_placeOf_107 at h
  refine lv_iinc (v := y6 + 1) (lv' := [(7, .int (y6 + 1)), (0, .ref (a 0)), (1, .int y1), (2, .int y2), (4, .int y3), (5, .int y4), (6, .int y5)]) hx hb dX8_placeOf_107 hl (k := 6) rfl rfl (by decide) rfl (fun ls hl => ?_)
  refine lv_goto (tgt := 20) hx hb dX8_placeOf_110 rfl ?_
  exact hK20 y1 y2 y3 y4 y5 (y6 + 1) σ _ _ _ hI (lv_sub hl [1, 2, 3, 4, 5, 6, 0] rfl) h
set_option maxHeartbeats 4000000 in
set_option maxRecDepth 100000 in
theorem wX8_placeOf_105 (Cx : ms_C p s m args meth c D cA a shM cX8_placeOf 9 RX8 (some .int)) (out : Int32 × Mm) (K20 : Int32 → Int32 → Int32 → Int32 → Int32 → Int32 → Mm → Option (Int32 × Mm)) (hK20 : ∀ (y1 : Int32) (y2 : Int32) (y3 : Int32) (y4 : Int32) (y5 : Int32) (y6 : Int32) , ∀ (σ : Mm) (H : Heap) (locs : List Loc) (ls : Array Slot), ms_I D cA a shM s σ H locs → lv_has ls 9 [(0, .ref (a 0)), (1, .int y1), (2, .int y2), (4, .int y3), (5, .int y4), (6, .int y5), (7, .int y6)] → K20 y1 y2 y3 y4 y5 y6 σ = some out → W p l e rmX8_placeOf s m args below meth c H locs 0 0 (MQ below (ms_Qi D cA a shM out.1 out.2) args s 0 0 (ms_A a shM.length)) (F0 m 20 ls [])) : ∀ (y1 : Int32) (y2 : Int32) (y3 : Int32) (y4 : Int32) (y5 : Int32) (y6 : Int32) , ∀ (σ : Mm) (H : Heap) (locs : List Loc) (ls : Array Slot), ms_I D cA a shM s σ H locs → lv_has ls 9 [(0, .ref (a 0)), (1, .int y1), (2, .int y2), (4, .int y3), (5, .int y4), (7, .int y5)] → fX8_placeOf_105 K20 y1 y2 y3 y4 y5 y6 σ = some out → W p l e rmX8_placeOf s m args below meth c H locs 0 0 (MQ below (ms_Qi D cA a shM out.1 out.2) args s 0 0 (ms_A a shM.length)) (F0 m 105 ls [.int y6]) := by
  have hx := Cx.1
  have hb := Cx.2.1
  intro y1 y2 y3 y4 y5 y6 σ H locs ls hI hl h
  unfold fX8_placeOf_105 at h
  refine lv_istore (lv' := [(6, .int y6), (0, .ref (a 0)), (1, .int y1), (2, .int y2), (4, .int y3), (5, .int y4), (7, .int y5)]) hx hb dX8_placeOf_105 hl (by decide) rfl (fun ls hl => ?_)
  exact wX8_placeOf_107 Cx out K20 hK20 y1 y2 y3 y4 y6 y5 σ _ _ _ hI (lv_sub hl [1, 2, 3, 4, 5, 0, 6] rfl) h
set_option maxHeartbeats 4000000 in
set_option maxRecDepth 100000 in
theorem wX8_placeOf_89 (Cx : ms_C p s m args meth c D cA a shM cX8_placeOf 9 RX8 (some .int)) (out : Int32 × Mm) (K20 : Int32 → Int32 → Int32 → Int32 → Int32 → Int32 → Mm → Option (Int32 × Mm)) (hK20 : ∀ (y1 : Int32) (y2 : Int32) (y3 : Int32) (y4 : Int32) (y5 : Int32) (y6 : Int32) , ∀ (σ : Mm) (H : Heap) (locs : List Loc) (ls : Array Slot), ms_I D cA a shM s σ H locs → lv_has ls 9 [(0, .ref (a 0)), (1, .int y1), (2, .int y2), (4, .int y3), (5, .int y4), (6, .int y5), (7, .int y6)] → K20 y1 y2 y3 y4 y5 y6 σ = some out → W p l e rmX8_placeOf s m args below meth c H locs 0 0 (MQ below (ms_Qi D cA a shM out.1 out.2) args s 0 0 (ms_A a shM.length)) (F0 m 20 ls [])) : ∀ (y1 : Int32) (y2 : Int32) (y3 : Int32) (y4 : Int32) (y5 : Int32) (y6 : Int32) (y7 : Int32) , ∀ (σ : Mm) (H : Heap) (locs : List Loc) (ls : Array Slot), ms_I D cA a shM s σ H locs → lv_has ls 9 [(0, .ref (a 0)), (1, .int y1), (2, .int y2), (4, .int y3), (6, .int y4), (7, .int y5), (8, .int y6)] → fX8_placeOf_89 K20 y1 y2 y3 y4 y5 y6 y7 σ = some out → W p l e rmX8_placeOf s m args below meth c H locs 0 0 (MQ below (ms_Qi D cA a shM out.1 out.2) args s 0 0 (ms_A a shM.length)) (F0 m 89 ls [.int y7]) := by
  have hx := Cx.1
  have hb := Cx.2.1
  intro y1 y2 y3 y4 y5 y6 y7 σ H locs ls hI hl h
  unfold fX8_placeOf_89 at h
  refine lv_istore (lv' := [(5, .int y7), (0, .ref (a 0)), (1, .int y1), (2, .int y2), (4, .int y3), (6, .int y4), (7, .int y5), (8, .int y6)]) hx hb dX8_placeOf_89 hl (by decide) rfl (fun ls hl => ?_)
  refine lv_iload hx hb dX8_placeOf_91 (lv_at hl 7 rfl) ?_
  refine lv_iload hx hb dX8_placeOf_93 (lv_at hl 5 rfl) ?_
  refine lv_icmp_le (tgt := 103) hx hb dX8_placeOf_95 rfl (fun hc => ?_) (fun hc => ?_)
  · have h := ms_ifT hc h
    refine lv_iload hx hb dX8_placeOf_103 (lv_at hl 5 rfl) ?_
    exact wX8_placeOf_105 Cx out K20 hK20 y1 y2 y3 y7 y5 y4 σ _ _ _ hI (lv_sub hl [1, 2, 3, 4, 0, 6] rfl) h
  · have h := ms_ifF hc h
    refine lv_iload hx hb dX8_placeOf_98 (lv_at hl 7 rfl) ?_
    refine lv_goto (tgt := 105) hx hb dX8_placeOf_100 rfl ?_
    exact wX8_placeOf_105 Cx out K20 hK20 y1 y2 y3 y7 y5 y6 σ _ _ _ hI (lv_sub hl [1, 2, 3, 4, 0, 6] rfl) h
set_option maxHeartbeats 4000000 in
set_option maxRecDepth 100000 in
theorem wX8_placeOf_20 (Cx : ms_C p s m args meth c D cA a shM cX8_placeOf 9 RX8 (some .int)) (out : Int32 × Mm) : ∀ (n : Nat), ∀ (y1 : Int32) (y2 : Int32) (y3 : Int32) (y4 : Int32) (y5 : Int32) (y6 : Int32) , ∀ (σ : Mm) (H : Heap) (locs : List Loc) (ls : Array Slot), ms_I D cA a shM s σ H locs → lv_has ls 9 [(0, .ref (a 0)), (1, .int y1), (2, .int y2), (4, .int y3), (5, .int y4), (6, .int y5), (7, .int y6)] → fX8_placeOf_20 n y1 y2 y3 y4 y5 y6 σ = some out → W p l e rmX8_placeOf s m args below meth c H locs 0 0 (MQ below (ms_Qi D cA a shM out.1 out.2) args s 0 0 (ms_A a shM.length)) (F0 m 20 ls []) := by
  have hx := Cx.1
  have hb := Cx.2.1
  intro n
  induction n with
  | zero =>
    intro y1 y2 y3 y4 y5 y6 σ H locs ls hI hl h
    exact nomatch (show none = some out from h)
  | succ n ih =>
    intro y1 y2 y3 y4 y5 y6 σ H locs ls hI hl h
    rw [fX8_placeOf_20] at h
    refine lv_iload hx hb dX8_placeOf_20 (lv_at hl 6 rfl) ?_
    refine lv_bipush (v := 9) hx hb dX8_placeOf_22 rfl ?_
    refine lv_icmp_ge (tgt := 113) hx hb dX8_placeOf_24 rfl (fun hc => ?_) (fun hc => ?_)
    · have h := ms_ifT hc h
      refine lv_aload_n hx hb dX8_placeOf_113 rfl (lv_at hl 0 rfl) ?_
      refine lv_iload hx hb dX8_placeOf_114 (lv_at hl 3 rfl) ?_
      refine pi_X8_10 Cx hI wd_11_21 dX8_placeOf_116 (fun H locs σ1 eσ1 hI => ?_)
      have h := ms_ltE eσ1 h
      refine lv_iload_n hx hb dX8_placeOf_119 rfl (lv_at hl 2 rfl) ?_
      refine lv_if_ne (tgt := 128) hx hb dX8_placeOf_120 rfl (fun hc => ?_) (fun hc => ?_)
      · have h := ms_ifF hc h
        refine lv_iload hx hb dX8_placeOf_128 (lv_at hl 5 rfl) ?_
        exact ms_riw Cx hI h dX8_placeOf_130
      · have h := ms_ifT hc h
        refine lv_iload hx hb dX8_placeOf_123 (lv_at hl 4 rfl) ?_
        refine lv_goto (tgt := 130) hx hb dX8_placeOf_125 rfl ?_
        exact ms_riw Cx hI h dX8_placeOf_130
    · have h := ms_ifF hc h
      refine lv_iload hx hb dX8_placeOf_27 (lv_at hl 3 rfl) ?_
      refine lv_iload hx hb dX8_placeOf_29 (lv_at hl 6 rfl) ?_
      obtain ⟨r3, hc2, h⟩ := ms_bdE h
      refine kX8_isIn Cx hI hc2 (Or.inl wd_12_23) (Nat.le_of_ble_eq_true rfl) (Nat.le_of_ble_eq_true rfl) hl.1 (Nat.le_of_ble_eq_true rfl) dX8_placeOf_31 (fun H locs hI => ?_)
      refine lv_if_ne (tgt := 107) hx hb dX8_placeOf_34 rfl (fun hc => ?_) (fun hc => ?_)
      · have h := ms_ifF hc h
        exact wX8_placeOf_107 Cx out (fX8_placeOf_20 n) ih y1 y2 y3 y4 y5 y6 σ _ _ _ hI (lv_sub hl [0, 1, 2, 3, 4, 5, 6] rfl) h
      · have h := ms_ifT hc h
        refine lv_aload_n hx hb dX8_placeOf_37 rfl (lv_at hl 0 rfl) ?_
        refine lv_iload hx hb dX8_placeOf_38 (lv_at hl 3 rfl) ?_
        refine lv_iconst (v := 1) hx hb dX8_placeOf_40 rfl ?_
        refine lv_iload hx hb dX8_placeOf_41 (lv_at hl 6 rfl) ?_
        refine lv_ishl hx hb dX8_placeOf_43 ?_
        refine lv_ior hx hb dX8_placeOf_44 ?_
        refine pi_X8_10 Cx hI wd_11_21 dX8_placeOf_45 (fun H locs σ4 eσ4 hI => ?_)
        have h := ms_ltE eσ4 h
        refine lv_aload_n hx hb dX8_placeOf_48 rfl (lv_at hl 0 rfl) ?_
        obtain ⟨σ6, hc5, h⟩ := ms_bdE h
        refine kX8_laysWinds Cx hI hc5 wd_24_7 (Nat.le_of_ble_eq_true rfl) (Nat.le_of_ble_eq_true rfl) hl.1 (Nat.le_of_ble_eq_true rfl) dX8_placeOf_49 (fun H locs hI => ?_)
        refine lv_aload_n hx hb dX8_placeOf_52 rfl (lv_at hl 0 rfl) ?_
        refine lv_bipush (v := 24) hx hb dX8_placeOf_53 rfl ?_
        refine lv_iload_n hx hb dX8_placeOf_55 rfl (lv_at hl 1 rfl) ?_
        refine lv_imul hx hb dX8_placeOf_56 ?_
        refine lv_iconst (v := 0) hx hb dX8_placeOf_57 rfl ?_
        refine lv_iconst (v := -1) hx hb dX8_placeOf_58 rfl ?_
        refine lv_iconst (v := 0) hx hb dX8_placeOf_59 rfl ?_
        obtain ⟨σ8, hc7, h⟩ := ms_bdE h
        refine kX8_runs Cx hI hc7 wd_24_11 (Nat.le_of_ble_eq_true rfl) (Nat.le_of_ble_eq_true rfl) hl.1 (Nat.le_of_ble_eq_true rfl) dX8_placeOf_60 (fun H locs hI => ?_)
        refine lv_aload_n hx hb dX8_placeOf_63 rfl (lv_at hl 0 rfl) ?_
        refine gr_X8_17 Cx hI wd_7_2 dX8_placeOf_64 ?_
        refine lv_aload_n hx hb dX8_placeOf_67 rfl (lv_at hl 0 rfl) ?_
        refine lv_iload_n hx hb dX8_placeOf_68 rfl (lv_at hl 1 rfl) ?_
        obtain ⟨r10, hc9, h⟩ := ms_bdE h
        refine kX8_worstBy Cx hI hc9 wd_28_3 (Nat.le_of_ble_eq_true rfl) (Nat.le_of_ble_eq_true rfl) hl.1 (Nat.le_of_ble_eq_true rfl) dX8_placeOf_69 (fun H locs hI => ?_)
        obtain ⟨hg, h⟩ := ms_gE h
        refine ms_ld Cx hI 14 shM_14 hg dX8_placeOf_72 ?_
        refine lv_istore (lv' := [(8, .int (σ8 14 (ms_ix r10))), (0, .ref (a 0)), (1, .int y1), (2, .int y2), (4, .int y3), (5, .int y4), (6, .int y5), (7, .int y6)]) hx hb dX8_placeOf_73 hl (by decide) rfl (fun ls hl => ?_)
        refine lv_iload hx hb dX8_placeOf_75 (lv_at hl 0 rfl) ?_
        refine lv_iload hx hb dX8_placeOf_77 (lv_at hl 6 rfl) ?_
        refine lv_icmp_le (tgt := 87) hx hb dX8_placeOf_79 rfl (fun hc => ?_) (fun hc => ?_)
        · have h := ms_ifT hc h
          refine lv_iload hx hb dX8_placeOf_87 (lv_at hl 5 rfl) ?_
          exact wX8_placeOf_89 Cx out (fX8_placeOf_20 n) ih y1 y2 y3 y5 y6 (σ8 14 (ms_ix r10)) y4 σ8 _ _ _ hI (lv_sub hl [1, 2, 3, 4, 6, 7, 0] rfl) h
        · have h := ms_ifF hc h
          refine lv_iload hx hb dX8_placeOf_82 (lv_at hl 7 rfl) ?_
          refine lv_goto (tgt := 89) hx hb dX8_placeOf_84 rfl ?_
          exact wX8_placeOf_89 Cx out (fX8_placeOf_20 n) ih y1 y2 y3 y5 y6 (σ8 14 (ms_ix r10)) y6 σ8 _ _ _ hI (lv_sub hl [1, 2, 3, 4, 6, 7, 0] rfl) h
set_option maxHeartbeats 4000000 in
set_option maxRecDepth 100000 in
theorem wX8_placeOf (Cx : ms_C p s m args meth c D cA a shM cX8_placeOf 9 RX8 (some .int)) (out : Int32 × Mm) : ∀ (p0 : Int32) (p1 : Int32) , ∀ (σ : Mm) (H : Heap) (locs : List Loc) (ls : Array Slot), ms_I D cA a shM s σ H locs → lv_has ls 9 [(0, .ref (a 0)), (1, .int p0), (2, .int p1)] → fX8_placeOf p0 p1 σ = some out → W p l e rmX8_placeOf s m args below meth c H locs 0 0 (MQ below (ms_Qi D cA a shM out.1 out.2) args s 0 0 (ms_A a shM.length)) (F0 m 0 ls []) := by
  have hx := Cx.1
  have hb := Cx.2.1
  intro p0 p1 σ H locs ls hI hl h
  unfold fX8_placeOf at h
  refine lv_aload_n hx hb dX8_placeOf_0 rfl (lv_at hl 0 rfl) ?_
  obtain ⟨⟨r2, σ3⟩, hc1, h⟩ := ms_bdE h
  refine kX8_faultNow Cx hI hc1 wd_11_16 (Nat.le_of_ble_eq_true rfl) (Nat.le_of_ble_eq_true rfl) hl.1 (Nat.le_of_ble_eq_true rfl) dX8_placeOf_1 (fun H locs hI => ?_)
  refine lv_istore_n (lv' := [(3, .int r2), (0, .ref (a 0)), (1, .int p0), (2, .int p1)]) hx hb dX8_placeOf_4 rfl hl (by decide) rfl (fun ls hl => ?_)
  refine lv_aload_n hx hb dX8_placeOf_5 rfl (lv_at hl 1 rfl) ?_
  refine gi_X8_10 Cx hI wd_11_21 dX8_placeOf_6 ?_
  refine lv_istore (lv' := [(4, .int (σ3 0 10)), (3, .int r2), (0, .ref (a 0)), (1, .int p0), (2, .int p1)]) hx hb dX8_placeOf_9 hl (by decide) rfl (fun ls hl => ?_)
  refine lv_iconst (v := -1) hx hb dX8_placeOf_11 rfl ?_
  refine lv_istore (lv' := [(5, .int (-1)), (4, .int (σ3 0 10)), (3, .int r2), (0, .ref (a 0)), (1, .int p0), (2, .int p1)]) hx hb dX8_placeOf_12 hl (by decide) rfl (fun ls hl => ?_)
  refine lv_iconst (v := -1) hx hb dX8_placeOf_14 rfl ?_
  refine lv_istore (lv' := [(6, .int (-1)), (5, .int (-1)), (4, .int (σ3 0 10)), (3, .int r2), (0, .ref (a 0)), (1, .int p0), (2, .int p1)]) hx hb dX8_placeOf_15 hl (by decide) rfl (fun ls hl => ?_)
  refine lv_iconst (v := 0) hx hb dX8_placeOf_17 rfl ?_
  refine lv_istore (lv' := [(7, .int 0), (6, .int (-1)), (5, .int (-1)), (4, .int (σ3 0 10)), (3, .int r2), (0, .ref (a 0)), (1, .int p0), (2, .int p1)]) hx hb dX8_placeOf_18 hl (by decide) rfl (fun ls hl => ?_)
  exact wX8_placeOf_20 Cx out  ms_fu p0 p1 (σ3 0 10) (-1) (-1) 0 σ3 _ _ _ hI (lv_sub hl [5, 6, 7, 3, 2, 1, 0] rfl) h
theorem yvX8_placeOf : ms_YV yX8_placeOf RX8 cX8_placeOf 9 (some .int) 2 := ⟨wd_30_0, wd_30_1, wd_1_5, wd_30_2, rfl, by decide +kernel, by decide +kernel, by decide +kernel⟩
set_option maxHeartbeats 4000000 in
theorem metX8_placeOf (l : Launch) (hDis : ms_Dis a shM.length) {σ : Mm} {p0 : Int32} {p1 : Int32} {out : Int32 × Mm} (h : fX8_placeOf p0 p1 σ = some out) : Met l yX8_placeOf (.code yX8_placeOf cX8_placeOf 9 (some .int) :: wsL_law) rmX8_placeOf (ms_Pc D cA a shM [.ref (a 0), .int p0, .int p1] σ) (ms_Qi D cA a shM out.1 out.2) 0 0 (ms_A a shM.length) := by
  refine Met.ofW (cc := cX8_placeOf) (maxL := 9) (ret := (some .int)) (by decide) rfl ?_
  intro p e s m args below meth c s₁ B hml hv
  obtain ⟨rfl, hK, hN, hP⟩ := hv
  have hl := lv_entry ([.ref (a 0), .int p0, .int p1]) (n := 9) (Nat.le_of_ble_eq_true rfl)
  rw [lg_entry_eq]
  generalize (lg_sl ([.ref (a 0), .int p0, .int p1]) ++ List.replicate (9 - (lg_sl ([.ref (a 0), .int p0, .int p1])).length) Slot.unset).toArray = ls at hl ⊢
  exact wX8_placeOf ⟨B.exec, B.bytes, hml, findClass_of_methodNamed B.named, fun w hw => atoms_spec (ws := .code yX8_placeOf cX8_placeOf 9 (some .int) :: wsL_law) B.pre w (List.mem_cons_of_mem _ hw), B.returns, B.notSynchronized, hK, hDis, hN⟩ out p0 p1 σ s.heap [] ls ⟨hP, va_S.rf⟩ hl h
theorem kX8_placeOf (Cx : ms_C p s m args meth c D cA a shM cc nL own ret) {σ : Mm} {H : Heap} {locs : List Loc} (hI : ms_I D cA a shM s σ H locs) {p0 : Int32} {p1 : Int32} {out : Int32 × Mm} (h : fX8_placeOf p0 p1 σ = some out) (hl : Cond.methodLink own idx yX8_placeOf ∈ wsL_law) (hf : 7 + 1 ≤ R.frames) (hlo : 8 + (9 + 11) + 156 ≤ R.locals) (hsz : ls.size = nL) (hW : (rest.map fun v => v.category).sum ≤ 8) (hd : decode cc pc = .ok (.invokevirtual idx, 3)) (kk : ∀ (H1 : Heap) (locs1 : List Loc), ms_I D cA a shM s out.2 H1 locs1 → W p l e R s m args below meth c H1 locs1 0 0 Q (F0 m (pc + 3) ls (.int out.1 :: rest))) : W p l e R s m args below meth c H locs 0 0 Q (F0 m pc ls (.int p1 :: .int p0 :: .ref (a 0) :: rest)) :=
  ms_ci hI (ms_runV (av := [.int p0, .int p1]) Cx hI 0 shM_0 (ci := 8) rfl rfl yvX8_placeOf (metX8_placeOf l Cx.2.2.2.2.2.2.2.2.1  h) ⟨rfl, rfl⟩ hl ⟨hf, hlo⟩ rfl hsz rfl hW ⟨Nat.zero_le _, Nat.zero_le _⟩ hd) kk
/-! X8 place (II)I -/
theorem dX8_place_0 : decode cX8_place 0 = .ok (.iload_n 1, 1) := by decide +kernel
theorem dX8_place_1 : decode cX8_place 1 = .ok (.invokestatic 203, 3) := by decide +kernel
theorem dX8_place_4 : decode cX8_place 4 = .ok (.ifCond .eq 21, 3) := by decide +kernel
theorem dX8_place_7 : decode cX8_place 7 = .ok (.iload_n 2, 1) := by decide +kernel
theorem dX8_place_8 : decode cX8_place 8 = .ok (.iconst 0, 1) := by decide +kernel
theorem dX8_place_9 : decode cX8_place 9 = .ok (.iconst 1, 1) := by decide +kernel
theorem dX8_place_10 : decode cX8_place 10 = .ok (.invokestatic 95, 3) := by decide +kernel
theorem dX8_place_13 : decode cX8_place 13 = .ok (.ifCond .eq 12, 3) := by decide +kernel
theorem dX8_place_16 : decode cX8_place 16 = .ok (.aload_n 0, 1) := by decide +kernel
theorem dX8_place_17 : decode cX8_place 17 = .ok (.iload_n 1, 1) := by decide +kernel
theorem dX8_place_18 : decode cX8_place 18 = .ok (.iload_n 2, 1) := by decide +kernel
theorem dX8_place_19 : decode cX8_place 19 = .ok (.invokevirtual 227, 3) := by decide +kernel
theorem dX8_place_22 : decode cX8_place 22 = .ok (.goto 5, 3) := by decide +kernel
theorem dX8_place_25 : decode cX8_place 25 = .ok (.bipush (-2), 2) := by decide +kernel
theorem dX8_place_27 : decode cX8_place 27 = .ok (.ireturn, 1) := by decide +kernel
abbrev rmX8_place : Room := { frames := 8, cells := 0, slots := 0, locals := 184 }
set_option maxHeartbeats 4000000 in
set_option maxRecDepth 100000 in
theorem wX8_place (Cx : ms_C p s m args meth c D cA a shM cX8_place 3 RX8 (some .int)) (out : Int32 × Mm) : ∀ (p0 : Int32) (p1 : Int32) , ∀ (σ : Mm) (H : Heap) (locs : List Loc) (ls : Array Slot), ms_I D cA a shM s σ H locs → lv_has ls 3 [(0, .ref (a 0)), (1, .int p0), (2, .int p1)] → fX8_place p0 p1 σ = some out → W p l e rmX8_place s m args below meth c H locs 0 0 (MQ below (ms_Qi D cA a shM out.1 out.2) args s 0 0 (ms_A a shM.length)) (F0 m 0 ls []) := by
  have hx := Cx.1
  have hb := Cx.2.1
  intro p0 p1 σ H locs ls hI hl h
  unfold fX8_place at h
  refine lv_iload_n hx hb dX8_place_0 rfl (lv_at hl 1 rfl) ?_
  obtain ⟨r2, hc1, h⟩ := ms_bdE h
  refine kX8_areDays Cx hI hc1 (Or.inl wd_25_19) (Nat.le_of_ble_eq_true rfl) (Nat.le_of_ble_eq_true rfl) hl.1 (Nat.le_of_ble_eq_true rfl) dX8_place_1 (fun H locs hI => ?_)
  refine lv_if_eq (tgt := 25) hx hb dX8_place_4 rfl (fun hc => ?_) (fun hc => ?_)
  · have h := ms_ifT hc h
    refine lv_bipush (v := -2) hx hb dX8_place_25 rfl ?_
    exact ms_riw Cx hI h dX8_place_27
  · have h := ms_ifF hc h
    refine lv_iload_n hx hb dX8_place_7 rfl (lv_at hl 2 rfl) ?_
    refine lv_iconst (v := 0) hx hb dX8_place_8 rfl ?_
    refine lv_iconst (v := 1) hx hb dX8_place_9 rfl ?_
    obtain ⟨r4, hc3, h⟩ := ms_bdE h
    refine kX8_in Cx hI hc3 (Or.inl wd_10_20) (Nat.le_of_ble_eq_true rfl) (Nat.le_of_ble_eq_true rfl) hl.1 (Nat.le_of_ble_eq_true rfl) dX8_place_10 (fun H locs hI => ?_)
    refine lv_if_eq (tgt := 25) hx hb dX8_place_13 rfl (fun hc => ?_) (fun hc => ?_)
    · have h := ms_ifT hc h
      refine lv_bipush (v := -2) hx hb dX8_place_25 rfl ?_
      exact ms_riw Cx hI h dX8_place_27
    · have h := ms_ifF hc h
      refine lv_aload_n hx hb dX8_place_16 rfl (lv_at hl 0 rfl) ?_
      refine lv_iload_n hx hb dX8_place_17 rfl (lv_at hl 1 rfl) ?_
      refine lv_iload_n hx hb dX8_place_18 rfl (lv_at hl 2 rfl) ?_
      obtain ⟨⟨r6, σ7⟩, hc5, h⟩ := ms_bdE h
      refine kX8_placeOf Cx hI hc5 wd_29_23 (Nat.le_of_ble_eq_true rfl) (Nat.le_of_ble_eq_true rfl) hl.1 (Nat.le_of_ble_eq_true rfl) dX8_place_19 (fun H locs hI => ?_)
      refine lv_goto (tgt := 27) hx hb dX8_place_22 rfl ?_
      exact ms_riw Cx hI h dX8_place_27
theorem yvX8_place : ms_YV yX8_place RX8 cX8_place 3 (some .int) 2 := ⟨wd_29_20, wd_29_21, wd_1_5, wd_29_22, rfl, by decide +kernel, by decide +kernel, by decide +kernel⟩
set_option maxHeartbeats 4000000 in
theorem metX8_place (l : Launch) (hDis : ms_Dis a shM.length) {σ : Mm} {p0 : Int32} {p1 : Int32} {out : Int32 × Mm} (h : fX8_place p0 p1 σ = some out) : Met l yX8_place (.code yX8_place cX8_place 3 (some .int) :: wsL_law) rmX8_place (ms_Pc D cA a shM [.ref (a 0), .int p0, .int p1] σ) (ms_Qi D cA a shM out.1 out.2) 0 0 (ms_A a shM.length) := by
  refine Met.ofW (cc := cX8_place) (maxL := 3) (ret := (some .int)) (by decide) rfl ?_
  intro p e s m args below meth c s₁ B hml hv
  obtain ⟨rfl, hK, hN, hP⟩ := hv
  have hl := lv_entry ([.ref (a 0), .int p0, .int p1]) (n := 3) (Nat.le_of_ble_eq_true rfl)
  rw [lg_entry_eq]
  generalize (lg_sl ([.ref (a 0), .int p0, .int p1]) ++ List.replicate (3 - (lg_sl ([.ref (a 0), .int p0, .int p1])).length) Slot.unset).toArray = ls at hl ⊢
  exact wX8_place ⟨B.exec, B.bytes, hml, findClass_of_methodNamed B.named, fun w hw => atoms_spec (ws := .code yX8_place cX8_place 3 (some .int) :: wsL_law) B.pre w (List.mem_cons_of_mem _ hw), B.returns, B.notSynchronized, hK, hDis, hN⟩ out p0 p1 σ s.heap [] ls ⟨hP, va_S.rf⟩ hl h
theorem kX8_place (Cx : ms_C p s m args meth c D cA a shM cc nL own ret) {σ : Mm} {H : Heap} {locs : List Loc} (hI : ms_I D cA a shM s σ H locs) {p0 : Int32} {p1 : Int32} {out : Int32 × Mm} (h : fX8_place p0 p1 σ = some out) (hl : Cond.methodLink own idx yX8_place ∈ wsL_law) (hf : 8 + 1 ≤ R.frames) (hlo : 8 + (3 + 11) + 184 ≤ R.locals) (hsz : ls.size = nL) (hW : (rest.map fun v => v.category).sum ≤ 8) (hd : decode cc pc = .ok (.invokevirtual idx, 3)) (kk : ∀ (H1 : Heap) (locs1 : List Loc), ms_I D cA a shM s out.2 H1 locs1 → W p l e R s m args below meth c H1 locs1 0 0 Q (F0 m (pc + 3) ls (.int out.1 :: rest))) : W p l e R s m args below meth c H locs 0 0 Q (F0 m pc ls (.int p1 :: .int p0 :: .ref (a 0) :: rest)) :=
  ms_ci hI (ms_runV (av := [.int p0, .int p1]) Cx hI 0 shM_0 (ci := 8) rfl rfl yvX8_place (metX8_place l Cx.2.2.2.2.2.2.2.2.1  h) ⟨rfl, rfl⟩ hl ⟨hf, hlo⟩ rfl hsz rfl hW ⟨Nat.zero_le _, Nat.zero_le _⟩ hd) kk
/-! X8 mayWait (I)Z -/
theorem dX8_mayWait_0 : decode cX8_mayWait 0 = .ok (.aload_n 0, 1) := by decide +kernel
theorem dX8_mayWait_1 : decode cX8_mayWait 1 = .ok (.getfield 25, 3) := by decide +kernel
theorem dX8_mayWait_4 : decode cX8_mayWait 4 = .ok (.iload_n 1, 1) := by decide +kernel
theorem dX8_mayWait_5 : decode cX8_mayWait 5 = .ok (.iaload, 1) := by decide +kernel
theorem dX8_mayWait_6 : decode cX8_mayWait 6 = .ok (.ifCond .ne 16, 3) := by decide +kernel
theorem dX8_mayWait_9 : decode cX8_mayWait 9 = .ok (.aload_n 0, 1) := by decide +kernel
theorem dX8_mayWait_10 : decode cX8_mayWait 10 = .ok (.getfield 28, 3) := by decide +kernel
theorem dX8_mayWait_13 : decode cX8_mayWait 13 = .ok (.iload_n 1, 1) := by decide +kernel
theorem dX8_mayWait_14 : decode cX8_mayWait 14 = .ok (.iaload, 1) := by decide +kernel
theorem dX8_mayWait_15 : decode cX8_mayWait 15 = .ok (.ifCond .ne 7, 3) := by decide +kernel
theorem dX8_mayWait_18 : decode cX8_mayWait 18 = .ok (.iconst 1, 1) := by decide +kernel
theorem dX8_mayWait_19 : decode cX8_mayWait 19 = .ok (.goto 4, 3) := by decide +kernel
theorem dX8_mayWait_22 : decode cX8_mayWait 22 = .ok (.iconst 0, 1) := by decide +kernel
theorem dX8_mayWait_23 : decode cX8_mayWait 23 = .ok (.ireturn, 1) := by decide +kernel
abbrev rmX8_mayWait : Room := { frames := 0, cells := 0, slots := 0, locals := 0 }
set_option maxHeartbeats 4000000 in
set_option maxRecDepth 100000 in
theorem wX8_mayWait (Cx : ms_C p s m args meth c D cA a shM cX8_mayWait 2 RX8 (some .boolean)) (out : Int32) {σ : Mm} : ∀ (p0 : Int32) , ∀ (H : Heap) (locs : List Loc) (ls : Array Slot), ms_I D cA a shM s σ H locs → lv_has ls 2 [(0, .ref (a 0)), (1, .int p0)] → fX8_mayWait σ p0 = some out → W p l e rmX8_mayWait s m args below meth c H locs 0 0 (MQ below (ms_Qi D cA a shM out σ) args s 0 0 (ms_A a shM.length)) (F0 m 0 ls []) := by
  have hx := Cx.1
  have hb := Cx.2.1
  intro p0 H locs ls hI hl h
  unfold fX8_mayWait at h
  refine lv_aload_n hx hb dX8_mayWait_0 rfl (lv_at hl 0 rfl) ?_
  refine gr_X8_7 Cx hI wd_6_18 dX8_mayWait_1 ?_
  refine lv_iload_n hx hb dX8_mayWait_4 rfl (lv_at hl 1 rfl) ?_
  obtain ⟨hg, h⟩ := ms_gE h
  refine ms_ld Cx hI 6 shM_6 hg dX8_mayWait_5 ?_
  refine lv_if_ne (tgt := 22) hx hb dX8_mayWait_6 rfl (fun hc => ?_) (fun hc => ?_)
  · have h := ms_ifF hc h
    refine lv_iconst (v := 0) hx hb dX8_mayWait_22 rfl ?_
    exact ms_rz Cx hI (Or.inl rfl) (Option.some.inj h) rfl dX8_mayWait_23
  · have h := ms_ifT hc h
    refine lv_aload_n hx hb dX8_mayWait_9 rfl (lv_at hl 0 rfl) ?_
    refine gr_X8_8 Cx hI wd_6_19 dX8_mayWait_10 ?_
    refine lv_iload_n hx hb dX8_mayWait_13 rfl (lv_at hl 1 rfl) ?_
    obtain ⟨hg, h⟩ := ms_gE h
    refine ms_ld Cx hI 7 shM_7 hg dX8_mayWait_14 ?_
    refine lv_if_ne (tgt := 22) hx hb dX8_mayWait_15 rfl (fun hc => ?_) (fun hc => ?_)
    · have h := ms_ifF hc h
      refine lv_iconst (v := 0) hx hb dX8_mayWait_22 rfl ?_
      exact ms_rz Cx hI (Or.inl rfl) (Option.some.inj h) rfl dX8_mayWait_23
    · have h := ms_ifT hc h
      refine lv_iconst (v := 1) hx hb dX8_mayWait_18 rfl ?_
      refine lv_goto (tgt := 23) hx hb dX8_mayWait_19 rfl ?_
      exact ms_rz Cx hI (Or.inr rfl) (Option.some.inj h) rfl dX8_mayWait_23
theorem yvX8_mayWait : ms_YV yX8_mayWait RX8 cX8_mayWait 2 (some .boolean) 1 := ⟨wd_32_5, wd_32_6, wd_1_5, wd_32_7, rfl, by decide +kernel, by decide +kernel, by decide +kernel⟩
set_option maxHeartbeats 4000000 in
theorem metX8_mayWait (l : Launch) (hDis : ms_Dis a shM.length) {σ : Mm} {p0 : Int32} {out : Int32} (h : fX8_mayWait σ p0 = some out) : Met l yX8_mayWait (.code yX8_mayWait cX8_mayWait 2 (some .boolean) :: wsL_law) rmX8_mayWait (ms_Pc D cA a shM [.ref (a 0), .int p0] σ) (ms_Qi D cA a shM out σ) 0 0 (ms_A a shM.length) := by
  refine Met.ofW (cc := cX8_mayWait) (maxL := 2) (ret := (some .boolean)) (by decide) rfl ?_
  intro p e s m args below meth c s₁ B hml hv
  obtain ⟨rfl, hK, hN, hP⟩ := hv
  have hl := lv_entry ([.ref (a 0), .int p0]) (n := 2) (Nat.le_of_ble_eq_true rfl)
  rw [lg_entry_eq]
  generalize (lg_sl ([.ref (a 0), .int p0]) ++ List.replicate (2 - (lg_sl ([.ref (a 0), .int p0])).length) Slot.unset).toArray = ls at hl ⊢
  exact wX8_mayWait ⟨B.exec, B.bytes, hml, findClass_of_methodNamed B.named, fun w hw => atoms_spec (ws := .code yX8_mayWait cX8_mayWait 2 (some .boolean) :: wsL_law) B.pre w (List.mem_cons_of_mem _ hw), B.returns, B.notSynchronized, hK, hDis, hN⟩ out p0 s.heap [] ls ⟨hP, va_S.rf⟩ hl h
theorem kX8_mayWait (Cx : ms_C p s m args meth c D cA a shM cc nL own ret) {σ : Mm} {H : Heap} {locs : List Loc} (hI : ms_I D cA a shM s σ H locs) {p0 : Int32} {out : Int32} (h : fX8_mayWait σ p0 = some out) (hl : Cond.methodLink own idx yX8_mayWait ∈ wsL_law) (hf : 0 + 1 ≤ R.frames) (hlo : 8 + (2 + 11) + 0 ≤ R.locals) (hsz : ls.size = nL) (hW : (rest.map fun v => v.category).sum ≤ 8) (hd : decode cc pc = .ok (.invokevirtual idx, 3)) (kk : ∀ (H1 : Heap) (locs1 : List Loc), ms_I D cA a shM s σ H1 locs1 → W p l e R s m args below meth c H1 locs1 0 0 Q (F0 m (pc + 3) ls (.int out :: rest))) : W p l e R s m args below meth c H locs 0 0 Q (F0 m pc ls (.int p0 :: .ref (a 0) :: rest)) :=
  ms_ci hI (ms_runV (av := [.int p0]) Cx hI 0 shM_0 (ci := 8) rfl rfl yvX8_mayWait (metX8_mayWait l Cx.2.2.2.2.2.2.2.2.1  h) ⟨rfl, rfl⟩ hl ⟨hf, hlo⟩ rfl hsz rfl hW ⟨Nat.zero_le _, Nat.zero_le _⟩ hd) kk
/-! X8 best (I)I -/
theorem dX8_best_0 : decode cX8_best 0 = .ok (.iload_n 1, 1) := by decide +kernel
theorem dX8_best_1 : decode cX8_best 1 = .ok (.bipush (-2), 2) := by decide +kernel
theorem dX8_best_3 : decode cX8_best 3 = .ok (.iconst (-1), 1) := by decide +kernel
theorem dX8_best_4 : decode cX8_best 4 = .ok (.invokestatic 95, 3) := by decide +kernel
theorem dX8_best_7 : decode cX8_best 7 = .ok (.ifCond .ne 14, 3) := by decide +kernel
theorem dX8_best_10 : decode cX8_best 10 = .ok (.aload_n 0, 1) := by decide +kernel
theorem dX8_best_11 : decode cX8_best 11 = .ok (.iload_n 1, 1) := by decide +kernel
theorem dX8_best_12 : decode cX8_best 12 = .ok (.invokevirtual 143, 3) := by decide +kernel
theorem dX8_best_15 : decode cX8_best 15 = .ok (.ifCond .ne 6, 3) := by decide +kernel
theorem dX8_best_18 : decode cX8_best 18 = .ok (.bipush (-2), 2) := by decide +kernel
theorem dX8_best_20 : decode cX8_best 20 = .ok (.ireturn, 1) := by decide +kernel
theorem dX8_best_21 : decode cX8_best 21 = .ok (.aload_n 0, 1) := by decide +kernel
theorem dX8_best_22 : decode cX8_best 22 = .ok (.invokevirtual 140, 3) := by decide +kernel
theorem dX8_best_25 : decode cX8_best 25 = .ok (.istore_n 2, 1) := by decide +kernel
theorem dX8_best_26 : decode cX8_best 26 = .ok (.aload_n 0, 1) := by decide +kernel
theorem dX8_best_27 : decode cX8_best 27 = .ok (.invokevirtual 184, 3) := by decide +kernel
theorem dX8_best_30 : decode cX8_best 30 = .ok (.iconst 0, 1) := by decide +kernel
theorem dX8_best_31 : decode cX8_best 31 = .ok (.istore_n 3, 1) := by decide +kernel
theorem dX8_best_32 : decode cX8_best 32 = .ok (.iconst 0, 1) := by decide +kernel
theorem dX8_best_33 : decode cX8_best 33 = .ok (.istore 4, 2) := by decide +kernel
theorem dX8_best_35 : decode cX8_best 35 = .ok (.iload 4, 2) := by decide +kernel
theorem dX8_best_37 : decode cX8_best 37 = .ok (.aload_n 0, 1) := by decide +kernel
theorem dX8_best_38 : decode cX8_best 38 = .ok (.getfield 117, 3) := by decide +kernel
theorem dX8_best_41 : decode cX8_best 41 = .ok (.if_icmp .ge 43, 3) := by decide +kernel
theorem dX8_best_44 : decode cX8_best 44 = .ok (.aload_n 0, 1) := by decide +kernel
theorem dX8_best_45 : decode cX8_best 45 = .ok (.getfield 67, 3) := by decide +kernel
theorem dX8_best_48 : decode cX8_best 48 = .ok (.iload 4, 2) := by decide +kernel
theorem dX8_best_50 : decode cX8_best 50 = .ok (.aload_n 0, 1) := by decide +kernel
theorem dX8_best_51 : decode cX8_best 51 = .ok (.getfield 31, 3) := by decide +kernel
theorem dX8_best_54 : decode cX8_best 54 = .ok (.iload 4, 2) := by decide +kernel
theorem dX8_best_56 : decode cX8_best 56 = .ok (.iaload, 1) := by decide +kernel
theorem dX8_best_57 : decode cX8_best 57 = .ok (.iastore, 1) := by decide +kernel
theorem dX8_best_58 : decode cX8_best 58 = .ok (.aload_n 0, 1) := by decide +kernel
theorem dX8_best_59 : decode cX8_best 59 = .ok (.iload 4, 2) := by decide +kernel
theorem dX8_best_61 : decode cX8_best 61 = .ok (.invokevirtual 230, 3) := by decide +kernel
theorem dX8_best_64 : decode cX8_best 64 = .ok (.ifCond .eq 14, 3) := by decide +kernel
theorem dX8_best_67 : decode cX8_best 67 = .ok (.aload_n 0, 1) := by decide +kernel
theorem dX8_best_68 : decode cX8_best 68 = .ok (.getfield 64, 3) := by decide +kernel
theorem dX8_best_71 : decode cX8_best 71 = .ok (.iload_n 3, 1) := by decide +kernel
theorem dX8_best_72 : decode cX8_best 72 = .ok (.iload 4, 2) := by decide +kernel
theorem dX8_best_74 : decode cX8_best 74 = .ok (.iastore, 1) := by decide +kernel
theorem dX8_best_75 : decode cX8_best 75 = .ok (.iinc 3 1, 3) := by decide +kernel
theorem dX8_best_78 : decode cX8_best 78 = .ok (.iinc 4 1, 3) := by decide +kernel
theorem dX8_best_81 : decode cX8_best 81 = .ok (.goto (-46), 3) := by decide +kernel
theorem dX8_best_84 : decode cX8_best 84 = .ok (.iload_n 3, 1) := by decide +kernel
theorem dX8_best_85 : decode cX8_best 85 = .ok (.iconst 3, 1) := by decide +kernel
theorem dX8_best_86 : decode cX8_best 86 = .ok (.if_icmp .le 6, 3) := by decide +kernel
theorem dX8_best_89 : decode cX8_best 89 = .ok (.bipush (-4), 2) := by decide +kernel
theorem dX8_best_91 : decode cX8_best 91 = .ok (.ireturn, 1) := by decide +kernel
theorem dX8_best_92 : decode cX8_best 92 = .ok (.iload_n 1, 1) := by decide +kernel
theorem dX8_best_93 : decode cX8_best 93 = .ok (.ifCond .lt 14, 3) := by decide +kernel
theorem dX8_best_96 : decode cX8_best 96 = .ok (.aload_n 0, 1) := by decide +kernel
theorem dX8_best_97 : decode cX8_best 97 = .ok (.iload_n 1, 1) := by decide +kernel
theorem dX8_best_98 : decode cX8_best 98 = .ok (.invokevirtual 230, 3) := by decide +kernel
theorem dX8_best_101 : decode cX8_best 101 = .ok (.ifCond .ne 6, 3) := by decide +kernel
theorem dX8_best_104 : decode cX8_best 104 = .ok (.bipush (-3), 2) := by decide +kernel
theorem dX8_best_106 : decode cX8_best 106 = .ok (.ireturn, 1) := by decide +kernel
theorem dX8_best_107 : decode cX8_best 107 = .ok (.iload_n 3, 1) := by decide +kernel
theorem dX8_best_108 : decode cX8_best 108 = .ok (.ifCond .ne 7, 3) := by decide +kernel
theorem dX8_best_111 : decode cX8_best 111 = .ok (.iconst 1, 1) := by decide +kernel
theorem dX8_best_112 : decode cX8_best 112 = .ok (.goto 27, 3) := by decide +kernel
theorem dX8_best_115 : decode cX8_best 115 = .ok (.iload_n 3, 1) := by decide +kernel
theorem dX8_best_116 : decode cX8_best 116 = .ok (.iconst 1, 1) := by decide +kernel
theorem dX8_best_117 : decode cX8_best 117 = .ok (.if_icmp .ne 8, 3) := by decide +kernel
theorem dX8_best_120 : decode cX8_best 120 = .ok (.bipush 24, 2) := by decide +kernel
theorem dX8_best_122 : decode cX8_best 122 = .ok (.goto 17, 3) := by decide +kernel
theorem dX8_best_125 : decode cX8_best 125 = .ok (.iload_n 3, 1) := by decide +kernel
theorem dX8_best_126 : decode cX8_best 126 = .ok (.iconst 2, 1) := by decide +kernel
theorem dX8_best_127 : decode cX8_best 127 = .ok (.if_icmp .ne 9, 3) := by decide +kernel
theorem dX8_best_130 : decode cX8_best 130 = .ok (.sipush 576, 3) := by decide +kernel
theorem dX8_best_133 : decode cX8_best 133 = .ok (.goto 6, 3) := by decide +kernel
theorem dX8_best_136 : decode cX8_best 136 = .ok (.sipush 13824, 3) := by decide +kernel
theorem dX8_best_139 : decode cX8_best 139 = .ok (.istore 4, 2) := by decide +kernel
theorem dX8_best_141 : decode cX8_best 141 = .ok (.iconst (-1), 1) := by decide +kernel
theorem dX8_best_142 : decode cX8_best 142 = .ok (.istore 5, 2) := by decide +kernel
theorem dX8_best_144 : decode cX8_best 144 = .ok (.iconst 0, 1) := by decide +kernel
theorem dX8_best_145 : decode cX8_best 145 = .ok (.istore 6, 2) := by decide +kernel
theorem dX8_best_147 : decode cX8_best 147 = .ok (.iconst 0, 1) := by decide +kernel
theorem dX8_best_148 : decode cX8_best 148 = .ok (.istore 7, 2) := by decide +kernel
theorem dX8_best_150 : decode cX8_best 150 = .ok (.iload 7, 2) := by decide +kernel
theorem dX8_best_152 : decode cX8_best 152 = .ok (.iload 4, 2) := by decide +kernel
theorem dX8_best_154 : decode cX8_best 154 = .ok (.if_icmp .ge 191, 3) := by decide +kernel
theorem dX8_best_157 : decode cX8_best 157 = .ok (.iload 7, 2) := by decide +kernel
theorem dX8_best_159 : decode cX8_best 159 = .ok (.istore 8, 2) := by decide +kernel
theorem dX8_best_161 : decode cX8_best 161 = .ok (.iload_n 3, 1) := by decide +kernel
theorem dX8_best_162 : decode cX8_best 162 = .ok (.iconst 1, 1) := by decide +kernel
theorem dX8_best_163 : decode cX8_best 163 = .ok (.isub, 1) := by decide +kernel
theorem dX8_best_164 : decode cX8_best 164 = .ok (.istore 9, 2) := by decide +kernel
theorem dX8_best_166 : decode cX8_best 166 = .ok (.iload 9, 2) := by decide +kernel
theorem dX8_best_168 : decode cX8_best 168 = .ok (.ifCond .lt 33, 3) := by decide +kernel
theorem dX8_best_171 : decode cX8_best 171 = .ok (.aload_n 0, 1) := by decide +kernel
theorem dX8_best_172 : decode cX8_best 172 = .ok (.getfield 31, 3) := by decide +kernel
theorem dX8_best_175 : decode cX8_best 175 = .ok (.aload_n 0, 1) := by decide +kernel
theorem dX8_best_176 : decode cX8_best 176 = .ok (.getfield 64, 3) := by decide +kernel
theorem dX8_best_179 : decode cX8_best 179 = .ok (.iload 9, 2) := by decide +kernel
theorem dX8_best_181 : decode cX8_best 181 = .ok (.iaload, 1) := by decide +kernel
theorem dX8_best_182 : decode cX8_best 182 = .ok (.iload 8, 2) := by decide +kernel
theorem dX8_best_184 : decode cX8_best 184 = .ok (.bipush 24, 2) := by decide +kernel
theorem dX8_best_186 : decode cX8_best 186 = .ok (.irem, 1) := by decide +kernel
theorem dX8_best_187 : decode cX8_best 187 = .ok (.iastore, 1) := by decide +kernel
theorem dX8_best_188 : decode cX8_best 188 = .ok (.iload 8, 2) := by decide +kernel
theorem dX8_best_190 : decode cX8_best 190 = .ok (.bipush 24, 2) := by decide +kernel
theorem dX8_best_192 : decode cX8_best 192 = .ok (.idiv, 1) := by decide +kernel
theorem dX8_best_193 : decode cX8_best 193 = .ok (.istore 8, 2) := by decide +kernel
theorem dX8_best_195 : decode cX8_best 195 = .ok (.iinc 9 (-1), 3) := by decide +kernel
theorem dX8_best_198 : decode cX8_best 198 = .ok (.goto (-32), 3) := by decide +kernel
theorem dX8_best_201 : decode cX8_best 201 = .ok (.aload_n 0, 1) := by decide +kernel
theorem dX8_best_202 : decode cX8_best 202 = .ok (.bipush 48, 2) := by decide +kernel
theorem dX8_best_204 : decode cX8_best 204 = .ok (.iconst 0, 1) := by decide +kernel
theorem dX8_best_205 : decode cX8_best 205 = .ok (.iconst (-1), 1) := by decide +kernel
theorem dX8_best_206 : decode cX8_best 206 = .ok (.iconst 0, 1) := by decide +kernel
theorem dX8_best_207 : decode cX8_best 207 = .ok (.invokevirtual 187, 3) := by decide +kernel
theorem dX8_best_210 : decode cX8_best 210 = .ok (.iconst 0, 1) := by decide +kernel
theorem dX8_best_211 : decode cX8_best 211 = .ok (.istore 9, 2) := by decide +kernel
theorem dX8_best_213 : decode cX8_best 213 = .ok (.iconst 0, 1) := by decide +kernel
theorem dX8_best_214 : decode cX8_best 214 = .ok (.istore 10, 2) := by decide +kernel
theorem dX8_best_216 : decode cX8_best 216 = .ok (.iconst 0, 1) := by decide +kernel
theorem dX8_best_217 : decode cX8_best 217 = .ok (.istore 11, 2) := by decide +kernel
theorem dX8_best_219 : decode cX8_best 219 = .ok (.iload 11, 2) := by decide +kernel
theorem dX8_best_221 : decode cX8_best 221 = .ok (.aload_n 0, 1) := by decide +kernel
theorem dX8_best_222 : decode cX8_best 222 = .ok (.getfield 117, 3) := by decide +kernel
theorem dX8_best_225 : decode cX8_best 225 = .ok (.if_icmp .ge 47, 3) := by decide +kernel
theorem dX8_best_228 : decode cX8_best 228 = .ok (.aload_n 0, 1) := by decide +kernel
theorem dX8_best_229 : decode cX8_best 229 = .ok (.iload 11, 2) := by decide +kernel
theorem dX8_best_231 : decode cX8_best 231 = .ok (.iconst 2, 1) := by decide +kernel
theorem dX8_best_232 : decode cX8_best 232 = .ok (.invokevirtual 200, 3) := by decide +kernel
theorem dX8_best_235 : decode cX8_best 235 = .ok (.istore 12, 2) := by decide +kernel
theorem dX8_best_237 : decode cX8_best 237 = .ok (.iload 9, 2) := by decide +kernel
theorem dX8_best_239 : decode cX8_best 239 = .ok (.aload_n 0, 1) := by decide +kernel
theorem dX8_best_240 : decode cX8_best 240 = .ok (.getfield 25, 3) := by decide +kernel
theorem dX8_best_243 : decode cX8_best 243 = .ok (.iload 11, 2) := by decide +kernel
theorem dX8_best_245 : decode cX8_best 245 = .ok (.iaload, 1) := by decide +kernel
theorem dX8_best_246 : decode cX8_best 246 = .ok (.iconst 1, 1) := by decide +kernel
theorem dX8_best_247 : decode cX8_best 247 = .ok (.if_icmp .ne 8, 3) := by decide +kernel
theorem dX8_best_250 : decode cX8_best 250 = .ok (.iload 12, 2) := by decide +kernel
theorem dX8_best_252 : decode cX8_best 252 = .ok (.goto 4, 3) := by decide +kernel
theorem dX8_best_255 : decode cX8_best 255 = .ok (.iconst 0, 1) := by decide +kernel
theorem dX8_best_256 : decode cX8_best 256 = .ok (.iadd, 1) := by decide +kernel
theorem dX8_best_257 : decode cX8_best 257 = .ok (.istore 9, 2) := by decide +kernel
theorem dX8_best_259 : decode cX8_best 259 = .ok (.iload 10, 2) := by decide +kernel
theorem dX8_best_261 : decode cX8_best 261 = .ok (.iload 12, 2) := by decide +kernel
theorem dX8_best_263 : decode cX8_best 263 = .ok (.iadd, 1) := by decide +kernel
theorem dX8_best_264 : decode cX8_best 264 = .ok (.istore 10, 2) := by decide +kernel
theorem dX8_best_266 : decode cX8_best 266 = .ok (.iinc 11 1, 3) := by decide +kernel
theorem dX8_best_269 : decode cX8_best 269 = .ok (.goto (-50), 3) := by decide +kernel
theorem dX8_best_272 : decode cX8_best 272 = .ok (.iload 5, 2) := by decide +kernel
theorem dX8_best_274 : decode cX8_best 274 = .ok (.iconst (-1), 1) := by decide +kernel
theorem dX8_best_275 : decode cX8_best 275 = .ok (.if_icmp .eq 24, 3) := by decide +kernel
theorem dX8_best_278 : decode cX8_best 278 = .ok (.iload 9, 2) := by decide +kernel
theorem dX8_best_280 : decode cX8_best 280 = .ok (.iload 5, 2) := by decide +kernel
theorem dX8_best_282 : decode cX8_best 282 = .ok (.if_icmp .lt 17, 3) := by decide +kernel
theorem dX8_best_285 : decode cX8_best 285 = .ok (.iload 9, 2) := by decide +kernel
theorem dX8_best_287 : decode cX8_best 287 = .ok (.iload 5, 2) := by decide +kernel
theorem dX8_best_289 : decode cX8_best 289 = .ok (.if_icmp .ne 50, 3) := by decide +kernel
theorem dX8_best_292 : decode cX8_best 292 = .ok (.iload 10, 2) := by decide +kernel
theorem dX8_best_294 : decode cX8_best 294 = .ok (.iload 6, 2) := by decide +kernel
theorem dX8_best_296 : decode cX8_best 296 = .ok (.if_icmp .ge 43, 3) := by decide +kernel
theorem dX8_best_299 : decode cX8_best 299 = .ok (.iload 9, 2) := by decide +kernel
theorem dX8_best_301 : decode cX8_best 301 = .ok (.istore 5, 2) := by decide +kernel
theorem dX8_best_303 : decode cX8_best 303 = .ok (.iload 10, 2) := by decide +kernel
theorem dX8_best_305 : decode cX8_best 305 = .ok (.istore 6, 2) := by decide +kernel
theorem dX8_best_307 : decode cX8_best 307 = .ok (.iconst 0, 1) := by decide +kernel
theorem dX8_best_308 : decode cX8_best 308 = .ok (.istore 11, 2) := by decide +kernel
theorem dX8_best_310 : decode cX8_best 310 = .ok (.iload 11, 2) := by decide +kernel
theorem dX8_best_312 : decode cX8_best 312 = .ok (.aload_n 0, 1) := by decide +kernel
theorem dX8_best_313 : decode cX8_best 313 = .ok (.getfield 117, 3) := by decide +kernel
theorem dX8_best_316 : decode cX8_best 316 = .ok (.if_icmp .ge 23, 3) := by decide +kernel
theorem dX8_best_319 : decode cX8_best 319 = .ok (.aload_n 0, 1) := by decide +kernel
theorem dX8_best_320 : decode cX8_best 320 = .ok (.getfield 70, 3) := by decide +kernel
theorem dX8_best_323 : decode cX8_best 323 = .ok (.iload 11, 2) := by decide +kernel
theorem dX8_best_325 : decode cX8_best 325 = .ok (.aload_n 0, 1) := by decide +kernel
theorem dX8_best_326 : decode cX8_best 326 = .ok (.getfield 31, 3) := by decide +kernel
theorem dX8_best_329 : decode cX8_best 329 = .ok (.iload 11, 2) := by decide +kernel
theorem dX8_best_331 : decode cX8_best 331 = .ok (.iaload, 1) := by decide +kernel
theorem dX8_best_332 : decode cX8_best 332 = .ok (.iastore, 1) := by decide +kernel
theorem dX8_best_333 : decode cX8_best 333 = .ok (.iinc 11 1, 3) := by decide +kernel
theorem dX8_best_336 : decode cX8_best 336 = .ok (.goto (-26), 3) := by decide +kernel
theorem dX8_best_339 : decode cX8_best 339 = .ok (.iinc 7 1, 3) := by decide +kernel
theorem dX8_best_342 : decode cX8_best 342 = .ok (.goto (-192), 3) := by decide +kernel
theorem dX8_best_345 : decode cX8_best 345 = .ok (.iconst 0, 1) := by decide +kernel
theorem dX8_best_346 : decode cX8_best 346 = .ok (.istore 7, 2) := by decide +kernel
theorem dX8_best_348 : decode cX8_best 348 = .ok (.iload 7, 2) := by decide +kernel
theorem dX8_best_350 : decode cX8_best 350 = .ok (.aload_n 0, 1) := by decide +kernel
theorem dX8_best_351 : decode cX8_best 351 = .ok (.getfield 117, 3) := by decide +kernel
theorem dX8_best_354 : decode cX8_best 354 = .ok (.if_icmp .ge 23, 3) := by decide +kernel
theorem dX8_best_357 : decode cX8_best 357 = .ok (.aload_n 0, 1) := by decide +kernel
theorem dX8_best_358 : decode cX8_best 358 = .ok (.getfield 31, 3) := by decide +kernel
theorem dX8_best_361 : decode cX8_best 361 = .ok (.iload 7, 2) := by decide +kernel
theorem dX8_best_363 : decode cX8_best 363 = .ok (.aload_n 0, 1) := by decide +kernel
theorem dX8_best_364 : decode cX8_best 364 = .ok (.getfield 67, 3) := by decide +kernel
theorem dX8_best_367 : decode cX8_best 367 = .ok (.iload 7, 2) := by decide +kernel
theorem dX8_best_369 : decode cX8_best 369 = .ok (.iaload, 1) := by decide +kernel
theorem dX8_best_370 : decode cX8_best 370 = .ok (.iastore, 1) := by decide +kernel
theorem dX8_best_371 : decode cX8_best 371 = .ok (.iinc 7 1, 3) := by decide +kernel
theorem dX8_best_374 : decode cX8_best 374 = .ok (.goto (-26), 3) := by decide +kernel
theorem dX8_best_377 : decode cX8_best 377 = .ok (.iload_n 1, 1) := by decide +kernel
theorem dX8_best_378 : decode cX8_best 378 = .ok (.iconst (-1), 1) := by decide +kernel
theorem dX8_best_379 : decode cX8_best 379 = .ok (.if_icmp .ne 8, 3) := by decide +kernel
theorem dX8_best_382 : decode cX8_best 382 = .ok (.iload 5, 2) := by decide +kernel
theorem dX8_best_384 : decode cX8_best 384 = .ok (.goto 20, 3) := by decide +kernel
theorem dX8_best_387 : decode cX8_best 387 = .ok (.iload_n 1, 1) := by decide +kernel
theorem dX8_best_388 : decode cX8_best 388 = .ok (.bipush (-2), 2) := by decide +kernel
theorem dX8_best_390 : decode cX8_best 390 = .ok (.if_icmp .ne 8, 3) := by decide +kernel
theorem dX8_best_393 : decode cX8_best 393 = .ok (.iload 6, 2) := by decide +kernel
theorem dX8_best_395 : decode cX8_best 395 = .ok (.goto 9, 3) := by decide +kernel
theorem dX8_best_398 : decode cX8_best 398 = .ok (.aload_n 0, 1) := by decide +kernel
theorem dX8_best_399 : decode cX8_best 399 = .ok (.getfield 70, 3) := by decide +kernel
theorem dX8_best_402 : decode cX8_best 402 = .ok (.iload_n 1, 1) := by decide +kernel
theorem dX8_best_403 : decode cX8_best 403 = .ok (.iaload, 1) := by decide +kernel
theorem dX8_best_404 : decode cX8_best 404 = .ok (.ireturn, 1) := by decide +kernel
abbrev rmX8_best : Room := { frames := 8, cells := 0, slots := 0, locals := 178 }
set_option maxHeartbeats 4000000 in
set_option maxRecDepth 100000 in
theorem wX8_best_78 (Cx : ms_C p s m args meth c D cA a shM cX8_best 13 RX8 (some .int)) (out : Int32 × Mm) (K35 : Int32 → Int32 → Int32 → Mm → Option (Int32 × Mm)) (hK35 : ∀ (y1 : Int32) (y2 : Int32) (y3 : Int32) , ∀ (σ : Mm) (H : Heap) (locs : List Loc) (ls : Array Slot), ms_I D cA a shM s σ H locs → lv_has ls 13 [(0, .ref (a 0)), (1, .int y1), (3, .int y2), (4, .int y3)] → K35 y1 y2 y3 σ = some out → W p l e rmX8_best s m args below meth c H locs 0 0 (MQ below (ms_Qi D cA a shM out.1 out.2) args s 0 0 (ms_A a shM.length)) (F0 m 35 ls [])) : ∀ (y1 : Int32) (y2 : Int32) (y3 : Int32) , ∀ (σ : Mm) (H : Heap) (locs : List Loc) (ls : Array Slot), ms_I D cA a shM s σ H locs → lv_has ls 13 [(0, .ref (a 0)), (1, .int y1), (3, .int y2), (4, .int y3)] → fX8_best_78 K35 y1 y2 y3 σ = some out → W p l e rmX8_best s m args below meth c H locs 0 0 (MQ below (ms_Qi D cA a shM out.1 out.2) args s 0 0 (ms_A a shM.length)) (F0 m 78 ls []) := by
  have hx := Cx.1
  have hb := Cx.2.1
  intro y1 y2 y3 σ H locs ls hI hl h
  unfold fX8_best_78 at h
  refine lv_iinc (v := y3 + 1) (lv' := [(4, .int (y3 + 1)), (0, .ref (a 0)), (1, .int y1), (3, .int y2)]) hx hb dX8_best_78 hl (k := 3) rfl rfl (by decide) rfl (fun ls hl => ?_)
  refine lv_goto (tgt := 35) hx hb dX8_best_81 rfl ?_
  exact hK35 y1 y2 (y3 + 1) σ _ _ _ hI (lv_sub hl [1, 2, 3, 0] rfl) h
set_option maxHeartbeats 4000000 in
set_option maxRecDepth 100000 in
theorem wX8_best_256 (Cx : ms_C p s m args meth c D cA a shM cX8_best 13 RX8 (some .int)) (out : Int32 × Mm) (K219 : Int32 → Int32 → Int32 → Int32 → Int32 → Int32 → Int32 → Int32 → Int32 → Mm → Option (Int32 × Mm)) (hK219 : ∀ (y1 : Int32) (y2 : Int32) (y3 : Int32) (y4 : Int32) (y5 : Int32) (y6 : Int32) (y7 : Int32) (y8 : Int32) (y9 : Int32) , ∀ (σ : Mm) (H : Heap) (locs : List Loc) (ls : Array Slot), ms_I D cA a shM s σ H locs → lv_has ls 13 [(0, .ref (a 0)), (1, .int y1), (3, .int y2), (4, .int y3), (5, .int y4), (6, .int y5), (7, .int y6), (9, .int y7), (10, .int y8), (11, .int y9)] → K219 y1 y2 y3 y4 y5 y6 y7 y8 y9 σ = some out → W p l e rmX8_best s m args below meth c H locs 0 0 (MQ below (ms_Qi D cA a shM out.1 out.2) args s 0 0 (ms_A a shM.length)) (F0 m 219 ls [])) : ∀ (y1 : Int32) (y2 : Int32) (y3 : Int32) (y4 : Int32) (y5 : Int32) (y6 : Int32) (y7 : Int32) (y8 : Int32) (y9 : Int32) (y10 : Int32) (y11 : Int32) , ∀ (σ : Mm) (H : Heap) (locs : List Loc) (ls : Array Slot), ms_I D cA a shM s σ H locs → lv_has ls 13 [(0, .ref (a 0)), (1, .int y1), (3, .int y2), (4, .int y3), (5, .int y4), (6, .int y5), (7, .int y6), (10, .int y7), (11, .int y8), (12, .int y9)] → fX8_best_256 K219 y1 y2 y3 y4 y5 y6 y7 y8 y9 y10 y11 σ = some out → W p l e rmX8_best s m args below meth c H locs 0 0 (MQ below (ms_Qi D cA a shM out.1 out.2) args s 0 0 (ms_A a shM.length)) (F0 m 256 ls [.int y10, .int y11]) := by
  have hx := Cx.1
  have hb := Cx.2.1
  intro y1 y2 y3 y4 y5 y6 y7 y8 y9 y10 y11 σ H locs ls hI hl h
  unfold fX8_best_256 at h
  refine lv_iadd hx hb dX8_best_256 ?_
  refine lv_istore (lv' := [(9, .int (y11 + y10)), (0, .ref (a 0)), (1, .int y1), (3, .int y2), (4, .int y3), (5, .int y4), (6, .int y5), (7, .int y6), (10, .int y7), (11, .int y8), (12, .int y9)]) hx hb dX8_best_257 hl (by decide) rfl (fun ls hl => ?_)
  refine lv_iload hx hb dX8_best_259 (lv_at hl 8 rfl) ?_
  refine lv_iload hx hb dX8_best_261 (lv_at hl 10 rfl) ?_
  refine lv_iadd hx hb dX8_best_263 ?_
  refine lv_istore (lv' := [(10, .int (y7 + y9)), (9, .int (y11 + y10)), (0, .ref (a 0)), (1, .int y1), (3, .int y2), (4, .int y3), (5, .int y4), (6, .int y5), (7, .int y6), (11, .int y8), (12, .int y9)]) hx hb dX8_best_264 hl (by decide) rfl (fun ls hl => ?_)
  refine lv_iinc (v := y8 + 1) (lv' := [(11, .int (y8 + 1)), (10, .int (y7 + y9)), (9, .int (y11 + y10)), (0, .ref (a 0)), (1, .int y1), (3, .int y2), (4, .int y3), (5, .int y4), (6, .int y5), (7, .int y6), (12, .int y9)]) hx hb dX8_best_266 hl (k := 9) rfl rfl (by decide) rfl (fun ls hl => ?_)
  refine lv_goto (tgt := 219) hx hb dX8_best_269 rfl ?_
  exact hK219 y1 y2 y3 y4 y5 y6 (y11 + y10) (y7 + y9) (y8 + 1) σ _ _ _ hI (lv_sub hl [3, 4, 5, 6, 7, 8, 9, 2, 1, 0] rfl) h
set_option maxHeartbeats 4000000 in
set_option maxRecDepth 100000 in
theorem wX8_best_339 (Cx : ms_C p s m args meth c D cA a shM cX8_best 13 RX8 (some .int)) (out : Int32 × Mm) (K150 : Int32 → Int32 → Int32 → Int32 → Int32 → Int32 → Mm → Option (Int32 × Mm)) (hK150 : ∀ (y1 : Int32) (y2 : Int32) (y3 : Int32) (y4 : Int32) (y5 : Int32) (y6 : Int32) , ∀ (σ : Mm) (H : Heap) (locs : List Loc) (ls : Array Slot), ms_I D cA a shM s σ H locs → lv_has ls 13 [(0, .ref (a 0)), (1, .int y1), (3, .int y2), (4, .int y3), (5, .int y4), (6, .int y5), (7, .int y6)] → K150 y1 y2 y3 y4 y5 y6 σ = some out → W p l e rmX8_best s m args below meth c H locs 0 0 (MQ below (ms_Qi D cA a shM out.1 out.2) args s 0 0 (ms_A a shM.length)) (F0 m 150 ls [])) : ∀ (y1 : Int32) (y2 : Int32) (y3 : Int32) (y4 : Int32) (y5 : Int32) (y6 : Int32) , ∀ (σ : Mm) (H : Heap) (locs : List Loc) (ls : Array Slot), ms_I D cA a shM s σ H locs → lv_has ls 13 [(0, .ref (a 0)), (1, .int y1), (3, .int y2), (4, .int y3), (5, .int y4), (6, .int y5), (7, .int y6)] → fX8_best_339 K150 y1 y2 y3 y4 y5 y6 σ = some out → W p l e rmX8_best s m args below meth c H locs 0 0 (MQ below (ms_Qi D cA a shM out.1 out.2) args s 0 0 (ms_A a shM.length)) (F0 m 339 ls []) := by
  have hx := Cx.1
  have hb := Cx.2.1
  intro y1 y2 y3 y4 y5 y6 σ H locs ls hI hl h
  unfold fX8_best_339 at h
  refine lv_iinc (v := y6 + 1) (lv' := [(7, .int (y6 + 1)), (0, .ref (a 0)), (1, .int y1), (3, .int y2), (4, .int y3), (5, .int y4), (6, .int y5)]) hx hb dX8_best_339 hl (k := 6) rfl rfl (by decide) rfl (fun ls hl => ?_)
  refine lv_goto (tgt := 150) hx hb dX8_best_342 rfl ?_
  exact hK150 y1 y2 y3 y4 y5 (y6 + 1) σ _ _ _ hI (lv_sub hl [1, 2, 3, 4, 5, 6, 0] rfl) h
set_option maxHeartbeats 4000000 in
set_option maxRecDepth 100000 in
theorem wX8_best_310 (Cx : ms_C p s m args meth c D cA a shM cX8_best 13 RX8 (some .int)) (out : Int32 × Mm) (K150 : Int32 → Int32 → Int32 → Int32 → Int32 → Int32 → Mm → Option (Int32 × Mm)) (hK150 : ∀ (y1 : Int32) (y2 : Int32) (y3 : Int32) (y4 : Int32) (y5 : Int32) (y6 : Int32) , ∀ (σ : Mm) (H : Heap) (locs : List Loc) (ls : Array Slot), ms_I D cA a shM s σ H locs → lv_has ls 13 [(0, .ref (a 0)), (1, .int y1), (3, .int y2), (4, .int y3), (5, .int y4), (6, .int y5), (7, .int y6)] → K150 y1 y2 y3 y4 y5 y6 σ = some out → W p l e rmX8_best s m args below meth c H locs 0 0 (MQ below (ms_Qi D cA a shM out.1 out.2) args s 0 0 (ms_A a shM.length)) (F0 m 150 ls [])) : ∀ (n : Nat), ∀ (y1 : Int32) (y2 : Int32) (y3 : Int32) (y4 : Int32) (y5 : Int32) (y6 : Int32) (y7 : Int32) , ∀ (σ : Mm) (H : Heap) (locs : List Loc) (ls : Array Slot), ms_I D cA a shM s σ H locs → lv_has ls 13 [(0, .ref (a 0)), (1, .int y1), (3, .int y2), (4, .int y3), (5, .int y4), (6, .int y5), (7, .int y6), (11, .int y7)] → fX8_best_310 K150 n y1 y2 y3 y4 y5 y6 y7 σ = some out → W p l e rmX8_best s m args below meth c H locs 0 0 (MQ below (ms_Qi D cA a shM out.1 out.2) args s 0 0 (ms_A a shM.length)) (F0 m 310 ls []) := by
  have hx := Cx.1
  have hb := Cx.2.1
  intro n
  induction n with
  | zero =>
    intro y1 y2 y3 y4 y5 y6 y7 σ H locs ls hI hl h
    exact nomatch (show none = some out from h)
  | succ n ih =>
    intro y1 y2 y3 y4 y5 y6 y7 σ H locs ls hI hl h
    rw [fX8_best_310] at h
    refine lv_iload hx hb dX8_best_310 (lv_at hl 7 rfl) ?_
    refine lv_aload_n hx hb dX8_best_312 rfl (lv_at hl 0 rfl) ?_
    refine gi_X8_3 Cx hI wd_11_20 dX8_best_313 ?_
    refine lv_icmp_ge (tgt := 339) hx hb dX8_best_316 rfl (fun hc => ?_) (fun hc => ?_)
    · have h := ms_ifT hc h
      exact wX8_best_339 Cx out K150 hK150 y1 y2 y3 y4 y5 y6 σ _ _ _ hI (lv_sub hl [0, 1, 2, 3, 4, 5, 6] rfl) h
    · have h := ms_ifF hc h
      refine lv_aload_n hx hb dX8_best_319 rfl (lv_at hl 0 rfl) ?_
      refine gr_X8_24 Cx hI wd_7_9 dX8_best_320 ?_
      refine lv_iload hx hb dX8_best_323 (lv_at hl 7 rfl) ?_
      refine lv_aload_n hx hb dX8_best_325 rfl (lv_at hl 0 rfl) ?_
      refine gr_X8_9 Cx hI wd_6_20 dX8_best_326 ?_
      refine lv_iload hx hb dX8_best_329 (lv_at hl 7 rfl) ?_
      obtain ⟨hg, h⟩ := ms_gE h
      refine ms_ld Cx hI 8 shM_8 hg dX8_best_331 ?_
      obtain ⟨hg, h⟩ := ms_gE h
      refine ms_sto Cx hI 21 shM_21 hg dX8_best_332 (fun H locs σ1 eσ1 hI => ?_)
      have h := ms_ltE eσ1 h
      refine lv_iinc (v := y7 + 1) (lv' := [(11, .int (y7 + 1)), (0, .ref (a 0)), (1, .int y1), (3, .int y2), (4, .int y3), (5, .int y4), (6, .int y5), (7, .int y6)]) hx hb dX8_best_333 hl (k := 7) rfl rfl (by decide) rfl (fun ls hl => ?_)
      refine lv_goto (tgt := 310) hx hb dX8_best_336 rfl ?_
      exact ih y1 y2 y3 y4 y5 y6 (y7 + 1) σ1 _ _ _ hI (lv_sub hl [1, 2, 3, 4, 5, 6, 7, 0] rfl) h
set_option maxHeartbeats 4000000 in
set_option maxRecDepth 100000 in
theorem wX8_best_299 (Cx : ms_C p s m args meth c D cA a shM cX8_best 13 RX8 (some .int)) (out : Int32 × Mm) (K150 : Int32 → Int32 → Int32 → Int32 → Int32 → Int32 → Mm → Option (Int32 × Mm)) (hK150 : ∀ (y1 : Int32) (y2 : Int32) (y3 : Int32) (y4 : Int32) (y5 : Int32) (y6 : Int32) , ∀ (σ : Mm) (H : Heap) (locs : List Loc) (ls : Array Slot), ms_I D cA a shM s σ H locs → lv_has ls 13 [(0, .ref (a 0)), (1, .int y1), (3, .int y2), (4, .int y3), (5, .int y4), (6, .int y5), (7, .int y6)] → K150 y1 y2 y3 y4 y5 y6 σ = some out → W p l e rmX8_best s m args below meth c H locs 0 0 (MQ below (ms_Qi D cA a shM out.1 out.2) args s 0 0 (ms_A a shM.length)) (F0 m 150 ls [])) : ∀ (y1 : Int32) (y2 : Int32) (y3 : Int32) (y4 : Int32) (y5 : Int32) (y6 : Int32) , ∀ (σ : Mm) (H : Heap) (locs : List Loc) (ls : Array Slot), ms_I D cA a shM s σ H locs → lv_has ls 13 [(0, .ref (a 0)), (1, .int y1), (3, .int y2), (4, .int y3), (7, .int y4), (9, .int y5), (10, .int y6)] → fX8_best_299 K150 y1 y2 y3 y4 y5 y6 σ = some out → W p l e rmX8_best s m args below meth c H locs 0 0 (MQ below (ms_Qi D cA a shM out.1 out.2) args s 0 0 (ms_A a shM.length)) (F0 m 299 ls []) := by
  have hx := Cx.1
  have hb := Cx.2.1
  intro y1 y2 y3 y4 y5 y6 σ H locs ls hI hl h
  unfold fX8_best_299 at h
  refine lv_iload hx hb dX8_best_299 (lv_at hl 5 rfl) ?_
  refine lv_istore (lv' := [(5, .int y5), (0, .ref (a 0)), (1, .int y1), (3, .int y2), (4, .int y3), (7, .int y4), (9, .int y5), (10, .int y6)]) hx hb dX8_best_301 hl (by decide) rfl (fun ls hl => ?_)
  refine lv_iload hx hb dX8_best_303 (lv_at hl 7 rfl) ?_
  refine lv_istore (lv' := [(6, .int y6), (5, .int y5), (0, .ref (a 0)), (1, .int y1), (3, .int y2), (4, .int y3), (7, .int y4), (9, .int y5), (10, .int y6)]) hx hb dX8_best_305 hl (by decide) rfl (fun ls hl => ?_)
  refine lv_iconst (v := 0) hx hb dX8_best_307 rfl ?_
  refine lv_istore (lv' := [(11, .int 0), (6, .int y6), (5, .int y5), (0, .ref (a 0)), (1, .int y1), (3, .int y2), (4, .int y3), (7, .int y4), (9, .int y5), (10, .int y6)]) hx hb dX8_best_308 hl (by decide) rfl (fun ls hl => ?_)
  exact wX8_best_310 Cx out K150 hK150 ms_fu y1 y2 y3 y5 y6 y4 0 σ _ _ _ hI (lv_sub hl [3, 4, 5, 6, 2, 1, 7, 0] rfl) h
set_option maxHeartbeats 4000000 in
set_option maxRecDepth 100000 in
theorem wX8_best_219 (Cx : ms_C p s m args meth c D cA a shM cX8_best 13 RX8 (some .int)) (out : Int32 × Mm) (K150 : Int32 → Int32 → Int32 → Int32 → Int32 → Int32 → Mm → Option (Int32 × Mm)) (hK150 : ∀ (y1 : Int32) (y2 : Int32) (y3 : Int32) (y4 : Int32) (y5 : Int32) (y6 : Int32) , ∀ (σ : Mm) (H : Heap) (locs : List Loc) (ls : Array Slot), ms_I D cA a shM s σ H locs → lv_has ls 13 [(0, .ref (a 0)), (1, .int y1), (3, .int y2), (4, .int y3), (5, .int y4), (6, .int y5), (7, .int y6)] → K150 y1 y2 y3 y4 y5 y6 σ = some out → W p l e rmX8_best s m args below meth c H locs 0 0 (MQ below (ms_Qi D cA a shM out.1 out.2) args s 0 0 (ms_A a shM.length)) (F0 m 150 ls [])) : ∀ (n : Nat), ∀ (y1 : Int32) (y2 : Int32) (y3 : Int32) (y4 : Int32) (y5 : Int32) (y6 : Int32) (y7 : Int32) (y8 : Int32) (y9 : Int32) , ∀ (σ : Mm) (H : Heap) (locs : List Loc) (ls : Array Slot), ms_I D cA a shM s σ H locs → lv_has ls 13 [(0, .ref (a 0)), (1, .int y1), (3, .int y2), (4, .int y3), (5, .int y4), (6, .int y5), (7, .int y6), (9, .int y7), (10, .int y8), (11, .int y9)] → fX8_best_219 K150 n y1 y2 y3 y4 y5 y6 y7 y8 y9 σ = some out → W p l e rmX8_best s m args below meth c H locs 0 0 (MQ below (ms_Qi D cA a shM out.1 out.2) args s 0 0 (ms_A a shM.length)) (F0 m 219 ls []) := by
  have hx := Cx.1
  have hb := Cx.2.1
  intro n
  induction n with
  | zero =>
    intro y1 y2 y3 y4 y5 y6 y7 y8 y9 σ H locs ls hI hl h
    exact nomatch (show none = some out from h)
  | succ n ih =>
    intro y1 y2 y3 y4 y5 y6 y7 y8 y9 σ H locs ls hI hl h
    rw [fX8_best_219] at h
    refine lv_iload hx hb dX8_best_219 (lv_at hl 9 rfl) ?_
    refine lv_aload_n hx hb dX8_best_221 rfl (lv_at hl 0 rfl) ?_
    refine gi_X8_3 Cx hI wd_11_20 dX8_best_222 ?_
    refine lv_icmp_ge (tgt := 272) hx hb dX8_best_225 rfl (fun hc => ?_) (fun hc => ?_)
    · have h := ms_ifT hc h
      refine lv_iload hx hb dX8_best_272 (lv_at hl 4 rfl) ?_
      refine lv_iconst (v := -1) hx hb dX8_best_274 rfl ?_
      refine lv_icmp_eq (tgt := 299) hx hb dX8_best_275 rfl (fun hc => ?_) (fun hc => ?_)
      · have h := ms_ifT hc h
        exact wX8_best_299 Cx out K150 hK150 y1 y2 y3 y6 y7 y8 σ _ _ _ hI (lv_sub hl [0, 1, 2, 3, 6, 7, 8] rfl) h
      · have h := ms_ifF hc h
        refine lv_iload hx hb dX8_best_278 (lv_at hl 7 rfl) ?_
        refine lv_iload hx hb dX8_best_280 (lv_at hl 4 rfl) ?_
        refine lv_icmp_lt (tgt := 299) hx hb dX8_best_282 rfl (fun hc => ?_) (fun hc => ?_)
        · have h := ms_ifT hc h
          exact wX8_best_299 Cx out K150 hK150 y1 y2 y3 y6 y7 y8 σ _ _ _ hI (lv_sub hl [0, 1, 2, 3, 6, 7, 8] rfl) h
        · have h := ms_ifF hc h
          refine lv_iload hx hb dX8_best_285 (lv_at hl 7 rfl) ?_
          refine lv_iload hx hb dX8_best_287 (lv_at hl 4 rfl) ?_
          refine lv_icmp_ne (tgt := 339) hx hb dX8_best_289 rfl (fun hc => ?_) (fun hc => ?_)
          · have h := ms_ifF hc h
            exact wX8_best_339 Cx out K150 hK150 y1 y2 y3 y4 y5 y6 σ _ _ _ hI (lv_sub hl [0, 1, 2, 3, 4, 5, 6] rfl) h
          · have h := ms_ifT hc h
            refine lv_iload hx hb dX8_best_292 (lv_at hl 8 rfl) ?_
            refine lv_iload hx hb dX8_best_294 (lv_at hl 5 rfl) ?_
            refine lv_icmp_ge (tgt := 339) hx hb dX8_best_296 rfl (fun hc => ?_) (fun hc => ?_)
            · have h := ms_ifT hc h
              exact wX8_best_339 Cx out K150 hK150 y1 y2 y3 y4 y5 y6 σ _ _ _ hI (lv_sub hl [0, 1, 2, 3, 4, 5, 6] rfl) h
            · have h := ms_ifF hc h
              exact wX8_best_299 Cx out K150 hK150 y1 y2 y3 y6 y7 y8 σ _ _ _ hI (lv_sub hl [0, 1, 2, 3, 6, 7, 8] rfl) h
    · have h := ms_ifF hc h
      refine lv_aload_n hx hb dX8_best_228 rfl (lv_at hl 0 rfl) ?_
      refine lv_iload hx hb dX8_best_229 (lv_at hl 9 rfl) ?_
      refine lv_iconst (v := 2) hx hb dX8_best_231 rfl ?_
      obtain ⟨r2, hc1, h⟩ := ms_bdE h
      refine kX8_stoodBy Cx hI hc1 wd_26_2 (Nat.le_of_ble_eq_true rfl) (Nat.le_of_ble_eq_true rfl) hl.1 (Nat.le_of_ble_eq_true rfl) dX8_best_232 (fun H locs hI => ?_)
      refine lv_istore (lv' := [(12, .int r2), (0, .ref (a 0)), (1, .int y1), (3, .int y2), (4, .int y3), (5, .int y4), (6, .int y5), (7, .int y6), (9, .int y7), (10, .int y8), (11, .int y9)]) hx hb dX8_best_235 hl (by decide) rfl (fun ls hl => ?_)
      refine lv_iload hx hb dX8_best_237 (lv_at hl 8 rfl) ?_
      refine lv_aload_n hx hb dX8_best_239 rfl (lv_at hl 1 rfl) ?_
      refine gr_X8_7 Cx hI wd_6_18 dX8_best_240 ?_
      refine lv_iload hx hb dX8_best_243 (lv_at hl 10 rfl) ?_
      obtain ⟨hg, h⟩ := ms_gE h
      refine ms_ld Cx hI 6 shM_6 hg dX8_best_245 ?_
      refine lv_iconst (v := 1) hx hb dX8_best_246 rfl ?_
      refine lv_icmp_ne (tgt := 255) hx hb dX8_best_247 rfl (fun hc => ?_) (fun hc => ?_)
      · have h := ms_ifF hc h
        refine lv_iconst (v := 0) hx hb dX8_best_255 rfl ?_
        exact wX8_best_256 Cx out (fX8_best_219 K150 n) ih y1 y2 y3 y4 y5 y6 y8 y9 r2 0 y7 σ _ _ _ hI (lv_sub hl [1, 2, 3, 4, 5, 6, 7, 9, 10, 0] rfl) h
      · have h := ms_ifT hc h
        refine lv_iload hx hb dX8_best_250 (lv_at hl 0 rfl) ?_
        refine lv_goto (tgt := 256) hx hb dX8_best_252 rfl ?_
        exact wX8_best_256 Cx out (fX8_best_219 K150 n) ih y1 y2 y3 y4 y5 y6 y8 y9 r2 r2 y7 σ _ _ _ hI (lv_sub hl [1, 2, 3, 4, 5, 6, 7, 9, 10, 0] rfl) h
set_option maxHeartbeats 4000000 in
set_option maxRecDepth 100000 in
theorem wX8_best_166 (Cx : ms_C p s m args meth c D cA a shM cX8_best 13 RX8 (some .int)) (out : Int32 × Mm) (K150 : Int32 → Int32 → Int32 → Int32 → Int32 → Int32 → Mm → Option (Int32 × Mm)) (hK150 : ∀ (y1 : Int32) (y2 : Int32) (y3 : Int32) (y4 : Int32) (y5 : Int32) (y6 : Int32) , ∀ (σ : Mm) (H : Heap) (locs : List Loc) (ls : Array Slot), ms_I D cA a shM s σ H locs → lv_has ls 13 [(0, .ref (a 0)), (1, .int y1), (3, .int y2), (4, .int y3), (5, .int y4), (6, .int y5), (7, .int y6)] → K150 y1 y2 y3 y4 y5 y6 σ = some out → W p l e rmX8_best s m args below meth c H locs 0 0 (MQ below (ms_Qi D cA a shM out.1 out.2) args s 0 0 (ms_A a shM.length)) (F0 m 150 ls [])) : ∀ (n : Nat), ∀ (y1 : Int32) (y2 : Int32) (y3 : Int32) (y4 : Int32) (y5 : Int32) (y6 : Int32) (y7 : Int32) (y8 : Int32) , ∀ (σ : Mm) (H : Heap) (locs : List Loc) (ls : Array Slot), ms_I D cA a shM s σ H locs → lv_has ls 13 [(0, .ref (a 0)), (1, .int y1), (3, .int y2), (4, .int y3), (5, .int y4), (6, .int y5), (7, .int y6), (8, .int y7), (9, .int y8)] → fX8_best_166 K150 n y1 y2 y3 y4 y5 y6 y7 y8 σ = some out → W p l e rmX8_best s m args below meth c H locs 0 0 (MQ below (ms_Qi D cA a shM out.1 out.2) args s 0 0 (ms_A a shM.length)) (F0 m 166 ls []) := by
  have hx := Cx.1
  have hb := Cx.2.1
  intro n
  induction n with
  | zero =>
    intro y1 y2 y3 y4 y5 y6 y7 y8 σ H locs ls hI hl h
    exact nomatch (show none = some out from h)
  | succ n ih =>
    intro y1 y2 y3 y4 y5 y6 y7 y8 σ H locs ls hI hl h
    rw [fX8_best_166] at h
    refine lv_iload hx hb dX8_best_166 (lv_at hl 8 rfl) ?_
    refine lv_if_lt (tgt := 201) hx hb dX8_best_168 rfl (fun hc => ?_) (fun hc => ?_)
    · have h := ms_ifT hc h
      refine lv_aload_n hx hb dX8_best_201 rfl (lv_at hl 0 rfl) ?_
      refine lv_bipush (v := 48) hx hb dX8_best_202 rfl ?_
      refine lv_iconst (v := 0) hx hb dX8_best_204 rfl ?_
      refine lv_iconst (v := -1) hx hb dX8_best_205 rfl ?_
      refine lv_iconst (v := 0) hx hb dX8_best_206 rfl ?_
      obtain ⟨σ2, hc1, h⟩ := ms_bdE h
      refine kX8_runs Cx hI hc1 wd_24_11 (Nat.le_of_ble_eq_true rfl) (Nat.le_of_ble_eq_true rfl) hl.1 (Nat.le_of_ble_eq_true rfl) dX8_best_207 (fun H locs hI => ?_)
      refine lv_iconst (v := 0) hx hb dX8_best_210 rfl ?_
      refine lv_istore (lv' := [(9, .int 0), (0, .ref (a 0)), (1, .int y1), (3, .int y2), (4, .int y3), (5, .int y4), (6, .int y5), (7, .int y6), (8, .int y7)]) hx hb dX8_best_211 hl (by decide) rfl (fun ls hl => ?_)
      refine lv_iconst (v := 0) hx hb dX8_best_213 rfl ?_
      refine lv_istore (lv' := [(10, .int 0), (9, .int 0), (0, .ref (a 0)), (1, .int y1), (3, .int y2), (4, .int y3), (5, .int y4), (6, .int y5), (7, .int y6), (8, .int y7)]) hx hb dX8_best_214 hl (by decide) rfl (fun ls hl => ?_)
      refine lv_iconst (v := 0) hx hb dX8_best_216 rfl ?_
      refine lv_istore (lv' := [(11, .int 0), (10, .int 0), (9, .int 0), (0, .ref (a 0)), (1, .int y1), (3, .int y2), (4, .int y3), (5, .int y4), (6, .int y5), (7, .int y6), (8, .int y7)]) hx hb dX8_best_217 hl (by decide) rfl (fun ls hl => ?_)
      exact wX8_best_219 Cx out K150 hK150 ms_fu y1 y2 y3 y4 y5 y6 0 0 0 σ2 _ _ _ hI (lv_sub hl [3, 4, 5, 6, 7, 8, 9, 2, 1, 0] rfl) h
    · have h := ms_ifF hc h
      refine lv_aload_n hx hb dX8_best_171 rfl (lv_at hl 0 rfl) ?_
      refine gr_X8_9 Cx hI wd_6_20 dX8_best_172 ?_
      refine lv_aload_n hx hb dX8_best_175 rfl (lv_at hl 0 rfl) ?_
      refine gr_X8_22 Cx hI wd_7_7 dX8_best_176 ?_
      refine lv_iload hx hb dX8_best_179 (lv_at hl 8 rfl) ?_
      obtain ⟨hg, h⟩ := ms_gE h
      refine ms_ld Cx hI 19 shM_19 hg dX8_best_181 ?_
      refine lv_iload hx hb dX8_best_182 (lv_at hl 7 rfl) ?_
      refine lv_bipush (v := 24) hx hb dX8_best_184 rfl ?_
      refine ms_lrem hx hb dX8_best_186 (by decide) ?_
      obtain ⟨hg, h⟩ := ms_gE h
      refine ms_sto Cx hI 8 shM_8 hg dX8_best_187 (fun H locs σ3 eσ3 hI => ?_)
      have h := ms_ltE eσ3 h
      refine lv_iload hx hb dX8_best_188 (lv_at hl 7 rfl) ?_
      refine lv_bipush (v := 24) hx hb dX8_best_190 rfl ?_
      refine lv_idiv hx hb dX8_best_192 (by decide) ?_
      refine lv_istore (lv' := [(8, .int (y7 / 24)), (0, .ref (a 0)), (1, .int y1), (3, .int y2), (4, .int y3), (5, .int y4), (6, .int y5), (7, .int y6), (9, .int y8)]) hx hb dX8_best_193 hl (by decide) rfl (fun ls hl => ?_)
      refine lv_iinc (v := y8 + (-1)) (lv' := [(9, .int (y8 + (-1))), (8, .int (y7 / 24)), (0, .ref (a 0)), (1, .int y1), (3, .int y2), (4, .int y3), (5, .int y4), (6, .int y5), (7, .int y6)]) hx hb dX8_best_195 hl (k := 8) rfl rfl (by decide) rfl (fun ls hl => ?_)
      refine lv_goto (tgt := 166) hx hb dX8_best_198 rfl ?_
      exact ih y1 y2 y3 y4 y5 y6 (y7 / 24) (y8 + (-1)) σ3 _ _ _ hI (lv_sub hl [2, 3, 4, 5, 6, 7, 8, 1, 0] rfl) h
set_option maxHeartbeats 4000000 in
set_option maxRecDepth 100000 in
theorem wX8_best_348 (Cx : ms_C p s m args meth c D cA a shM cX8_best 13 RX8 (some .int)) (out : Int32 × Mm) : ∀ (n : Nat), ∀ (y1 : Int32) (y2 : Int32) (y3 : Int32) (y4 : Int32) , ∀ (σ : Mm) (H : Heap) (locs : List Loc) (ls : Array Slot), ms_I D cA a shM s σ H locs → lv_has ls 13 [(0, .ref (a 0)), (1, .int y1), (5, .int y2), (6, .int y3), (7, .int y4)] → fX8_best_348 n y1 y2 y3 y4 σ = some out → W p l e rmX8_best s m args below meth c H locs 0 0 (MQ below (ms_Qi D cA a shM out.1 out.2) args s 0 0 (ms_A a shM.length)) (F0 m 348 ls []) := by
  have hx := Cx.1
  have hb := Cx.2.1
  intro n
  induction n with
  | zero =>
    intro y1 y2 y3 y4 σ H locs ls hI hl h
    exact nomatch (show none = some out from h)
  | succ n ih =>
    intro y1 y2 y3 y4 σ H locs ls hI hl h
    rw [fX8_best_348] at h
    refine lv_iload hx hb dX8_best_348 (lv_at hl 4 rfl) ?_
    refine lv_aload_n hx hb dX8_best_350 rfl (lv_at hl 0 rfl) ?_
    refine gi_X8_3 Cx hI wd_11_20 dX8_best_351 ?_
    refine lv_icmp_ge (tgt := 377) hx hb dX8_best_354 rfl (fun hc => ?_) (fun hc => ?_)
    · have h := ms_ifT hc h
      refine lv_iload_n hx hb dX8_best_377 rfl (lv_at hl 1 rfl) ?_
      refine lv_iconst (v := -1) hx hb dX8_best_378 rfl ?_
      refine lv_icmp_ne (tgt := 387) hx hb dX8_best_379 rfl (fun hc => ?_) (fun hc => ?_)
      · have h := ms_ifF hc h
        refine lv_iload_n hx hb dX8_best_387 rfl (lv_at hl 1 rfl) ?_
        refine lv_bipush (v := -2) hx hb dX8_best_388 rfl ?_
        refine lv_icmp_ne (tgt := 398) hx hb dX8_best_390 rfl (fun hc => ?_) (fun hc => ?_)
        · have h := ms_ifF hc h
          refine lv_aload_n hx hb dX8_best_398 rfl (lv_at hl 0 rfl) ?_
          refine gr_X8_24 Cx hI wd_7_9 dX8_best_399 ?_
          refine lv_iload_n hx hb dX8_best_402 rfl (lv_at hl 1 rfl) ?_
          obtain ⟨hg, h⟩ := ms_gE h
          refine ms_ld Cx hI 21 shM_21 hg dX8_best_403 ?_
          exact ms_riw Cx hI h dX8_best_404
        · have h := ms_ifT hc h
          refine lv_iload hx hb dX8_best_393 (lv_at hl 3 rfl) ?_
          refine lv_goto (tgt := 404) hx hb dX8_best_395 rfl ?_
          exact ms_riw Cx hI h dX8_best_404
      · have h := ms_ifT hc h
        refine lv_iload hx hb dX8_best_382 (lv_at hl 2 rfl) ?_
        refine lv_goto (tgt := 404) hx hb dX8_best_384 rfl ?_
        exact ms_riw Cx hI h dX8_best_404
    · have h := ms_ifF hc h
      refine lv_aload_n hx hb dX8_best_357 rfl (lv_at hl 0 rfl) ?_
      refine gr_X8_9 Cx hI wd_6_20 dX8_best_358 ?_
      refine lv_iload hx hb dX8_best_361 (lv_at hl 4 rfl) ?_
      refine lv_aload_n hx hb dX8_best_363 rfl (lv_at hl 0 rfl) ?_
      refine gr_X8_23 Cx hI wd_7_8 dX8_best_364 ?_
      refine lv_iload hx hb dX8_best_367 (lv_at hl 4 rfl) ?_
      obtain ⟨hg, h⟩ := ms_gE h
      refine ms_ld Cx hI 20 shM_20 hg dX8_best_369 ?_
      obtain ⟨hg, h⟩ := ms_gE h
      refine ms_sto Cx hI 8 shM_8 hg dX8_best_370 (fun H locs σ1 eσ1 hI => ?_)
      have h := ms_ltE eσ1 h
      refine lv_iinc (v := y4 + 1) (lv' := [(7, .int (y4 + 1)), (0, .ref (a 0)), (1, .int y1), (5, .int y2), (6, .int y3)]) hx hb dX8_best_371 hl (k := 4) rfl rfl (by decide) rfl (fun ls hl => ?_)
      refine lv_goto (tgt := 348) hx hb dX8_best_374 rfl ?_
      exact ih y1 y2 y3 (y4 + 1) σ1 _ _ _ hI (lv_sub hl [1, 2, 3, 4, 0] rfl) h
set_option maxHeartbeats 4000000 in
set_option maxRecDepth 100000 in
theorem wX8_best_150 (Cx : ms_C p s m args meth c D cA a shM cX8_best 13 RX8 (some .int)) (out : Int32 × Mm) : ∀ (n : Nat), ∀ (y1 : Int32) (y2 : Int32) (y3 : Int32) (y4 : Int32) (y5 : Int32) (y6 : Int32) , ∀ (σ : Mm) (H : Heap) (locs : List Loc) (ls : Array Slot), ms_I D cA a shM s σ H locs → lv_has ls 13 [(0, .ref (a 0)), (1, .int y1), (3, .int y2), (4, .int y3), (5, .int y4), (6, .int y5), (7, .int y6)] → fX8_best_150 n y1 y2 y3 y4 y5 y6 σ = some out → W p l e rmX8_best s m args below meth c H locs 0 0 (MQ below (ms_Qi D cA a shM out.1 out.2) args s 0 0 (ms_A a shM.length)) (F0 m 150 ls []) := by
  have hx := Cx.1
  have hb := Cx.2.1
  intro n
  induction n with
  | zero =>
    intro y1 y2 y3 y4 y5 y6 σ H locs ls hI hl h
    exact nomatch (show none = some out from h)
  | succ n ih =>
    intro y1 y2 y3 y4 y5 y6 σ H locs ls hI hl h
    rw [fX8_best_150] at h
    refine lv_iload hx hb dX8_best_150 (lv_at hl 6 rfl) ?_
    refine lv_iload hx hb dX8_best_152 (lv_at hl 3 rfl) ?_
    refine lv_icmp_ge (tgt := 345) hx hb dX8_best_154 rfl (fun hc => ?_) (fun hc => ?_)
    · have h := ms_ifT hc h
      refine lv_iconst (v := 0) hx hb dX8_best_345 rfl ?_
      refine lv_istore (lv' := [(7, .int 0), (0, .ref (a 0)), (1, .int y1), (3, .int y2), (4, .int y3), (5, .int y4), (6, .int y5)]) hx hb dX8_best_346 hl (by decide) rfl (fun ls hl => ?_)
      exact wX8_best_348 Cx out  ms_fu y1 y4 y5 0 σ _ _ _ hI (lv_sub hl [1, 2, 5, 6, 0] rfl) h
    · have h := ms_ifF hc h
      refine lv_iload hx hb dX8_best_157 (lv_at hl 6 rfl) ?_
      refine lv_istore (lv' := [(8, .int y6), (0, .ref (a 0)), (1, .int y1), (3, .int y2), (4, .int y3), (5, .int y4), (6, .int y5), (7, .int y6)]) hx hb dX8_best_159 hl (by decide) rfl (fun ls hl => ?_)
      refine lv_iload_n hx hb dX8_best_161 rfl (lv_at hl 3 rfl) ?_
      refine lv_iconst (v := 1) hx hb dX8_best_162 rfl ?_
      refine lv_isub hx hb dX8_best_163 ?_
      refine lv_istore (lv' := [(9, .int (y2 - 1)), (8, .int y6), (0, .ref (a 0)), (1, .int y1), (3, .int y2), (4, .int y3), (5, .int y4), (6, .int y5), (7, .int y6)]) hx hb dX8_best_164 hl (by decide) rfl (fun ls hl => ?_)
      exact wX8_best_166 Cx out (fX8_best_150 n) ih ms_fu y1 y2 y3 y4 y5 y6 y6 (y2 - 1) σ _ _ _ hI (lv_sub hl [2, 3, 4, 5, 6, 7, 8, 1, 0] rfl) h
set_option maxHeartbeats 4000000 in
set_option maxRecDepth 100000 in
theorem wX8_best_139 (Cx : ms_C p s m args meth c D cA a shM cX8_best 13 RX8 (some .int)) (out : Int32 × Mm) : ∀ (y1 : Int32) (y2 : Int32) (y3 : Int32) , ∀ (σ : Mm) (H : Heap) (locs : List Loc) (ls : Array Slot), ms_I D cA a shM s σ H locs → lv_has ls 13 [(0, .ref (a 0)), (1, .int y1), (3, .int y2)] → fX8_best_139 y1 y2 y3 σ = some out → W p l e rmX8_best s m args below meth c H locs 0 0 (MQ below (ms_Qi D cA a shM out.1 out.2) args s 0 0 (ms_A a shM.length)) (F0 m 139 ls [.int y3]) := by
  have hx := Cx.1
  have hb := Cx.2.1
  intro y1 y2 y3 σ H locs ls hI hl h
  unfold fX8_best_139 at h
  refine lv_istore (lv' := [(4, .int y3), (0, .ref (a 0)), (1, .int y1), (3, .int y2)]) hx hb dX8_best_139 hl (by decide) rfl (fun ls hl => ?_)
  refine lv_iconst (v := -1) hx hb dX8_best_141 rfl ?_
  refine lv_istore (lv' := [(5, .int (-1)), (4, .int y3), (0, .ref (a 0)), (1, .int y1), (3, .int y2)]) hx hb dX8_best_142 hl (by decide) rfl (fun ls hl => ?_)
  refine lv_iconst (v := 0) hx hb dX8_best_144 rfl ?_
  refine lv_istore (lv' := [(6, .int 0), (5, .int (-1)), (4, .int y3), (0, .ref (a 0)), (1, .int y1), (3, .int y2)]) hx hb dX8_best_145 hl (by decide) rfl (fun ls hl => ?_)
  refine lv_iconst (v := 0) hx hb dX8_best_147 rfl ?_
  refine lv_istore (lv' := [(7, .int 0), (6, .int 0), (5, .int (-1)), (4, .int y3), (0, .ref (a 0)), (1, .int y1), (3, .int y2)]) hx hb dX8_best_148 hl (by decide) rfl (fun ls hl => ?_)
  exact wX8_best_150 Cx out  ms_fu y1 y2 y3 (-1) 0 0 σ _ _ _ hI (lv_sub hl [4, 5, 6, 3, 2, 1, 0] rfl) h
set_option maxHeartbeats 4000000 in
set_option maxRecDepth 100000 in
theorem wX8_best_107 (Cx : ms_C p s m args meth c D cA a shM cX8_best 13 RX8 (some .int)) (out : Int32 × Mm) : ∀ (y1 : Int32) (y2 : Int32) , ∀ (σ : Mm) (H : Heap) (locs : List Loc) (ls : Array Slot), ms_I D cA a shM s σ H locs → lv_has ls 13 [(0, .ref (a 0)), (1, .int y1), (3, .int y2)] → fX8_best_107 y1 y2 σ = some out → W p l e rmX8_best s m args below meth c H locs 0 0 (MQ below (ms_Qi D cA a shM out.1 out.2) args s 0 0 (ms_A a shM.length)) (F0 m 107 ls []) := by
  have hx := Cx.1
  have hb := Cx.2.1
  intro y1 y2 σ H locs ls hI hl h
  unfold fX8_best_107 at h
  refine lv_iload_n hx hb dX8_best_107 rfl (lv_at hl 2 rfl) ?_
  refine lv_if_ne (tgt := 115) hx hb dX8_best_108 rfl (fun hc => ?_) (fun hc => ?_)
  · have h := ms_ifF hc h
    refine lv_iload_n hx hb dX8_best_115 rfl (lv_at hl 2 rfl) ?_
    refine lv_iconst (v := 1) hx hb dX8_best_116 rfl ?_
    refine lv_icmp_ne (tgt := 125) hx hb dX8_best_117 rfl (fun hc => ?_) (fun hc => ?_)
    · have h := ms_ifF hc h
      refine lv_iload_n hx hb dX8_best_125 rfl (lv_at hl 2 rfl) ?_
      refine lv_iconst (v := 2) hx hb dX8_best_126 rfl ?_
      refine lv_icmp_ne (tgt := 136) hx hb dX8_best_127 rfl (fun hc => ?_) (fun hc => ?_)
      · have h := ms_ifF hc h
        refine lv_sipush (v := 13824) hx hb dX8_best_136 rfl ?_
        exact wX8_best_139 Cx out  y1 y2 13824 σ _ _ _ hI (lv_sub hl [0, 1, 2] rfl) h
      · have h := ms_ifT hc h
        refine lv_sipush (v := 576) hx hb dX8_best_130 rfl ?_
        refine lv_goto (tgt := 139) hx hb dX8_best_133 rfl ?_
        exact wX8_best_139 Cx out  y1 y2 576 σ _ _ _ hI (lv_sub hl [0, 1, 2] rfl) h
    · have h := ms_ifT hc h
      refine lv_bipush (v := 24) hx hb dX8_best_120 rfl ?_
      refine lv_goto (tgt := 139) hx hb dX8_best_122 rfl ?_
      exact wX8_best_139 Cx out  y1 y2 24 σ _ _ _ hI (lv_sub hl [0, 1, 2] rfl) h
  · have h := ms_ifT hc h
    refine lv_iconst (v := 1) hx hb dX8_best_111 rfl ?_
    refine lv_goto (tgt := 139) hx hb dX8_best_112 rfl ?_
    exact wX8_best_139 Cx out  y1 y2 1 σ _ _ _ hI (lv_sub hl [0, 1, 2] rfl) h
set_option maxHeartbeats 4000000 in
set_option maxRecDepth 100000 in
theorem wX8_best_35 (Cx : ms_C p s m args meth c D cA a shM cX8_best 13 RX8 (some .int)) (out : Int32 × Mm) : ∀ (n : Nat), ∀ (y1 : Int32) (y2 : Int32) (y3 : Int32) , ∀ (σ : Mm) (H : Heap) (locs : List Loc) (ls : Array Slot), ms_I D cA a shM s σ H locs → lv_has ls 13 [(0, .ref (a 0)), (1, .int y1), (3, .int y2), (4, .int y3)] → fX8_best_35 n y1 y2 y3 σ = some out → W p l e rmX8_best s m args below meth c H locs 0 0 (MQ below (ms_Qi D cA a shM out.1 out.2) args s 0 0 (ms_A a shM.length)) (F0 m 35 ls []) := by
  have hx := Cx.1
  have hb := Cx.2.1
  intro n
  induction n with
  | zero =>
    intro y1 y2 y3 σ H locs ls hI hl h
    exact nomatch (show none = some out from h)
  | succ n ih =>
    intro y1 y2 y3 σ H locs ls hI hl h
    rw [fX8_best_35] at h
    refine lv_iload hx hb dX8_best_35 (lv_at hl 3 rfl) ?_
    refine lv_aload_n hx hb dX8_best_37 rfl (lv_at hl 0 rfl) ?_
    refine gi_X8_3 Cx hI wd_11_20 dX8_best_38 ?_
    refine lv_icmp_ge (tgt := 84) hx hb dX8_best_41 rfl (fun hc => ?_) (fun hc => ?_)
    · have h := ms_ifT hc h
      refine lv_iload_n hx hb dX8_best_84 rfl (lv_at hl 2 rfl) ?_
      refine lv_iconst (v := 3) hx hb dX8_best_85 rfl ?_
      refine lv_icmp_le (tgt := 92) hx hb dX8_best_86 rfl (fun hc => ?_) (fun hc => ?_)
      · have h := ms_ifT hc h
        refine lv_iload_n hx hb dX8_best_92 rfl (lv_at hl 1 rfl) ?_
        refine lv_if_lt (tgt := 107) hx hb dX8_best_93 rfl (fun hc => ?_) (fun hc => ?_)
        · have h := ms_ifT hc h
          exact wX8_best_107 Cx out  y1 y2 σ _ _ _ hI (lv_sub hl [0, 1, 2] rfl) h
        · have h := ms_ifF hc h
          refine lv_aload_n hx hb dX8_best_96 rfl (lv_at hl 0 rfl) ?_
          refine lv_iload_n hx hb dX8_best_97 rfl (lv_at hl 1 rfl) ?_
          obtain ⟨r2, hc1, h⟩ := ms_bdE h
          refine kX8_mayWait Cx hI hc1 wd_32_4 (Nat.le_of_ble_eq_true rfl) (Nat.le_of_ble_eq_true rfl) hl.1 (Nat.le_of_ble_eq_true rfl) dX8_best_98 (fun H locs hI => ?_)
          refine lv_if_ne (tgt := 107) hx hb dX8_best_101 rfl (fun hc => ?_) (fun hc => ?_)
          · have h := ms_ifF hc h
            exact wX8_best_107 Cx out  y1 y2 σ _ _ _ hI (lv_sub hl [0, 1, 2] rfl) h
          · have h := ms_ifT hc h
            refine lv_bipush (v := -3) hx hb dX8_best_104 rfl ?_
            exact ms_riw Cx hI h dX8_best_106
      · have h := ms_ifF hc h
        refine lv_bipush (v := -4) hx hb dX8_best_89 rfl ?_
        exact ms_riw Cx hI h dX8_best_91
    · have h := ms_ifF hc h
      refine lv_aload_n hx hb dX8_best_44 rfl (lv_at hl 0 rfl) ?_
      refine gr_X8_23 Cx hI wd_7_8 dX8_best_45 ?_
      refine lv_iload hx hb dX8_best_48 (lv_at hl 3 rfl) ?_
      refine lv_aload_n hx hb dX8_best_50 rfl (lv_at hl 0 rfl) ?_
      refine gr_X8_9 Cx hI wd_6_20 dX8_best_51 ?_
      refine lv_iload hx hb dX8_best_54 (lv_at hl 3 rfl) ?_
      obtain ⟨hg, h⟩ := ms_gE h
      refine ms_ld Cx hI 8 shM_8 hg dX8_best_56 ?_
      obtain ⟨hg, h⟩ := ms_gE h
      refine ms_sto Cx hI 20 shM_20 hg dX8_best_57 (fun H locs σ3 eσ3 hI => ?_)
      have h := ms_ltE eσ3 h
      refine lv_aload_n hx hb dX8_best_58 rfl (lv_at hl 0 rfl) ?_
      refine lv_iload hx hb dX8_best_59 (lv_at hl 3 rfl) ?_
      obtain ⟨r5, hc4, h⟩ := ms_bdE h
      refine kX8_mayWait Cx hI hc4 wd_32_4 (Nat.le_of_ble_eq_true rfl) (Nat.le_of_ble_eq_true rfl) hl.1 (Nat.le_of_ble_eq_true rfl) dX8_best_61 (fun H locs hI => ?_)
      refine lv_if_eq (tgt := 78) hx hb dX8_best_64 rfl (fun hc => ?_) (fun hc => ?_)
      · have h := ms_ifT hc h
        exact wX8_best_78 Cx out (fX8_best_35 n) ih y1 y2 y3 σ3 _ _ _ hI (lv_sub hl [0, 1, 2, 3] rfl) h
      · have h := ms_ifF hc h
        refine lv_aload_n hx hb dX8_best_67 rfl (lv_at hl 0 rfl) ?_
        refine gr_X8_22 Cx hI wd_7_7 dX8_best_68 ?_
        refine lv_iload_n hx hb dX8_best_71 rfl (lv_at hl 2 rfl) ?_
        refine lv_iload hx hb dX8_best_72 (lv_at hl 3 rfl) ?_
        obtain ⟨hg, h⟩ := ms_gE h
        refine ms_sto Cx hI 19 shM_19 hg dX8_best_74 (fun H locs σ6 eσ6 hI => ?_)
        have h := ms_ltE eσ6 h
        refine lv_iinc (v := y2 + 1) (lv' := [(3, .int (y2 + 1)), (0, .ref (a 0)), (1, .int y1), (4, .int y3)]) hx hb dX8_best_75 hl (k := 2) rfl rfl (by decide) rfl (fun ls hl => ?_)
        exact wX8_best_78 Cx out (fX8_best_35 n) ih y1 (y2 + 1) y3 σ6 _ _ _ hI (lv_sub hl [1, 2, 0, 3] rfl) h
set_option maxHeartbeats 4000000 in
set_option maxRecDepth 100000 in
theorem wX8_best_21 (Cx : ms_C p s m args meth c D cA a shM cX8_best 13 RX8 (some .int)) (out : Int32 × Mm) : ∀ (y1 : Int32) , ∀ (σ : Mm) (H : Heap) (locs : List Loc) (ls : Array Slot), ms_I D cA a shM s σ H locs → lv_has ls 13 [(0, .ref (a 0)), (1, .int y1)] → fX8_best_21 y1 σ = some out → W p l e rmX8_best s m args below meth c H locs 0 0 (MQ below (ms_Qi D cA a shM out.1 out.2) args s 0 0 (ms_A a shM.length)) (F0 m 21 ls []) := by
  have hx := Cx.1
  have hb := Cx.2.1
  intro y1 σ H locs ls hI hl h
  unfold fX8_best_21 at h
  refine lv_aload_n hx hb dX8_best_21 rfl (lv_at hl 0 rfl) ?_
  obtain ⟨⟨r2, σ3⟩, hc1, h⟩ := ms_bdE h
  refine kX8_faultNow Cx hI hc1 wd_11_16 (Nat.le_of_ble_eq_true rfl) (Nat.le_of_ble_eq_true rfl) hl.1 (Nat.le_of_ble_eq_true rfl) dX8_best_22 (fun H locs hI => ?_)
  refine lv_istore_n (lv' := [(2, .int r2), (0, .ref (a 0)), (1, .int y1)]) hx hb dX8_best_25 rfl hl (by decide) rfl (fun ls hl => ?_)
  refine lv_aload_n hx hb dX8_best_26 rfl (lv_at hl 1 rfl) ?_
  obtain ⟨σ5, hc4, h⟩ := ms_bdE h
  refine kX8_laysWinds Cx hI hc4 wd_24_7 (Nat.le_of_ble_eq_true rfl) (Nat.le_of_ble_eq_true rfl) hl.1 (Nat.le_of_ble_eq_true rfl) dX8_best_27 (fun H locs hI => ?_)
  refine lv_iconst (v := 0) hx hb dX8_best_30 rfl ?_
  refine lv_istore_n (lv' := [(3, .int 0), (2, .int r2), (0, .ref (a 0)), (1, .int y1)]) hx hb dX8_best_31 rfl hl (by decide) rfl (fun ls hl => ?_)
  refine lv_iconst (v := 0) hx hb dX8_best_32 rfl ?_
  refine lv_istore (lv' := [(4, .int 0), (3, .int 0), (2, .int r2), (0, .ref (a 0)), (1, .int y1)]) hx hb dX8_best_33 hl (by decide) rfl (fun ls hl => ?_)
  exact wX8_best_35 Cx out  ms_fu y1 0 0 σ5 _ _ _ hI (lv_sub hl [3, 4, 1, 0] rfl) h
set_option maxHeartbeats 4000000 in
set_option maxRecDepth 100000 in
theorem wX8_best (Cx : ms_C p s m args meth c D cA a shM cX8_best 13 RX8 (some .int)) (out : Int32 × Mm) : ∀ (p0 : Int32) , ∀ (σ : Mm) (H : Heap) (locs : List Loc) (ls : Array Slot), ms_I D cA a shM s σ H locs → lv_has ls 13 [(0, .ref (a 0)), (1, .int p0)] → fX8_best p0 σ = some out → W p l e rmX8_best s m args below meth c H locs 0 0 (MQ below (ms_Qi D cA a shM out.1 out.2) args s 0 0 (ms_A a shM.length)) (F0 m 0 ls []) := by
  have hx := Cx.1
  have hb := Cx.2.1
  intro p0 σ H locs ls hI hl h
  unfold fX8_best at h
  refine lv_iload_n hx hb dX8_best_0 rfl (lv_at hl 1 rfl) ?_
  refine lv_bipush (v := -2) hx hb dX8_best_1 rfl ?_
  refine lv_iconst (v := -1) hx hb dX8_best_3 rfl ?_
  obtain ⟨r2, hc1, h⟩ := ms_bdE h
  refine kX8_in Cx hI hc1 (Or.inl wd_10_20) (Nat.le_of_ble_eq_true rfl) (Nat.le_of_ble_eq_true rfl) hl.1 (Nat.le_of_ble_eq_true rfl) dX8_best_4 (fun H locs hI => ?_)
  refine lv_if_ne (tgt := 21) hx hb dX8_best_7 rfl (fun hc => ?_) (fun hc => ?_)
  · have h := ms_ifF hc h
    exact wX8_best_21 Cx out  p0 σ _ _ _ hI (lv_sub hl [0, 1] rfl) h
  · have h := ms_ifT hc h
    refine lv_aload_n hx hb dX8_best_10 rfl (lv_at hl 0 rfl) ?_
    refine lv_iload_n hx hb dX8_best_11 rfl (lv_at hl 1 rfl) ?_
    obtain ⟨⟨r4, σ5⟩, hc3, h⟩ := ms_bdE h
    refine kX8_isThing Cx hI hc3 wd_13_23 (Nat.le_of_ble_eq_true rfl) (Nat.le_of_ble_eq_true rfl) hl.1 (Nat.le_of_ble_eq_true rfl) dX8_best_12 (fun H locs hI => ?_)
    refine lv_if_ne (tgt := 21) hx hb dX8_best_15 rfl (fun hc => ?_) (fun hc => ?_)
    · have h := ms_ifF hc h
      exact wX8_best_21 Cx out  p0 σ5 _ _ _ hI (lv_sub hl [0, 1] rfl) h
    · have h := ms_ifT hc h
      refine lv_bipush (v := -2) hx hb dX8_best_18 rfl ?_
      exact ms_riw Cx hI h dX8_best_20
theorem yvX8_best : ms_YV yX8_best RX8 cX8_best 13 (some .int) 1 := ⟨wd_32_1, wd_32_2, wd_1_5, wd_32_3, rfl, by decide +kernel, by decide +kernel, by decide +kernel⟩
set_option maxHeartbeats 4000000 in
theorem metX8_best (l : Launch) (hDis : ms_Dis a shM.length) {σ : Mm} {p0 : Int32} {out : Int32 × Mm} (h : fX8_best p0 σ = some out) : Met l yX8_best (.code yX8_best cX8_best 13 (some .int) :: wsL_law) rmX8_best (ms_Pc D cA a shM [.ref (a 0), .int p0] σ) (ms_Qi D cA a shM out.1 out.2) 0 0 (ms_A a shM.length) := by
  refine Met.ofW (cc := cX8_best) (maxL := 13) (ret := (some .int)) (by decide) rfl ?_
  intro p e s m args below meth c s₁ B hml hv
  obtain ⟨rfl, hK, hN, hP⟩ := hv
  have hl := lv_entry ([.ref (a 0), .int p0]) (n := 13) (Nat.le_of_ble_eq_true rfl)
  rw [lg_entry_eq]
  generalize (lg_sl ([.ref (a 0), .int p0]) ++ List.replicate (13 - (lg_sl ([.ref (a 0), .int p0])).length) Slot.unset).toArray = ls at hl ⊢
  exact wX8_best ⟨B.exec, B.bytes, hml, findClass_of_methodNamed B.named, fun w hw => atoms_spec (ws := .code yX8_best cX8_best 13 (some .int) :: wsL_law) B.pre w (List.mem_cons_of_mem _ hw), B.returns, B.notSynchronized, hK, hDis, hN⟩ out p0 σ s.heap [] ls ⟨hP, va_S.rf⟩ hl h
theorem kX8_best (Cx : ms_C p s m args meth c D cA a shM cc nL own ret) {σ : Mm} {H : Heap} {locs : List Loc} (hI : ms_I D cA a shM s σ H locs) {p0 : Int32} {out : Int32 × Mm} (h : fX8_best p0 σ = some out) (hl : Cond.methodLink own idx yX8_best ∈ wsL_law) (hf : 8 + 1 ≤ R.frames) (hlo : 8 + (13 + 11) + 178 ≤ R.locals) (hsz : ls.size = nL) (hW : (rest.map fun v => v.category).sum ≤ 8) (hd : decode cc pc = .ok (.invokevirtual idx, 3)) (kk : ∀ (H1 : Heap) (locs1 : List Loc), ms_I D cA a shM s out.2 H1 locs1 → W p l e R s m args below meth c H1 locs1 0 0 Q (F0 m (pc + 3) ls (.int out.1 :: rest))) : W p l e R s m args below meth c H locs 0 0 Q (F0 m pc ls (.int p0 :: .ref (a 0) :: rest)) :=
  ms_ci hI (ms_runV (av := [.int p0]) Cx hI 0 shM_0 (ci := 8) rfl rfl yvX8_best (metX8_best l Cx.2.2.2.2.2.2.2.2.1  h) ⟨rfl, rfl⟩ hl ⟨hf, hlo⟩ rfl hsz rfl hW ⟨Nat.zero_le _, Nat.zero_le _⟩ hd) kk
end WK
