section WK
variable {p : Program} {l : Launch} {e : Env} {R : Room} {s : State} {m : MethodId} {args : Array Value} {below : List Frame} {meth : Method} {c : Code} {Q : State → Prop}
variable {D : va_G} {cA : Nat → ClassId} {a : Nat → Nat} {cc : ByteArray} {nL idx : Nat} {own : String} {ret : Option FieldType} {pc : Nat} {ls : Array Slot} {rest : List Value}
/-! X4 refuseLast (Z)V -/
theorem dX4_refuseLast_0 : decode cX4_refuseLast 0 = .ok (.iload_n 1, 1) := by decide +kernel
theorem dX4_refuseLast_1 : decode cX4_refuseLast 1 = .ok (.ifCond .eq 13, 3) := by decide +kernel
theorem dX4_refuseLast_4 : decode cX4_refuseLast 4 = .ok (.aload_n 0, 1) := by decide +kernel
theorem dX4_refuseLast_5 : decode cX4_refuseLast 5 = .ok (.aload_n 0, 1) := by decide +kernel
theorem dX4_refuseLast_6 : decode cX4_refuseLast 6 = .ok (.getfield 37, 3) := by decide +kernel
theorem dX4_refuseLast_9 : decode cX4_refuseLast 9 = .ok (.iconst 1, 1) := by decide +kernel
theorem dX4_refuseLast_10 : decode cX4_refuseLast 10 = .ok (.isub, 1) := by decide +kernel
theorem dX4_refuseLast_11 : decode cX4_refuseLast 11 = .ok (.putfield 34, 3) := by decide +kernel
theorem dX4_refuseLast_14 : decode cX4_refuseLast 14 = .ok (.return_, 1) := by decide +kernel
abbrev rmX4_refuseLast : Room := { frames := 0, cells := 0, slots := 0, locals := 0 }
set_option maxHeartbeats 4000000 in
set_option maxRecDepth 100000 in
theorem wX4_refuseLast (Cx : ms_C p s m args meth c D cA a shX cX4_refuseLast 2 RX4 none) (out : Mm) : ∀ (p0 : Int32) , ∀ (σ : Mm) (H : Heap) (locs : List Loc) (ls : Array Slot), ms_I D cA a shX s σ H locs → lv_has ls 2 [(0, .ref (a 1)), (1, .int p0)] → fX4_refuseLast p0 σ = some out → W p l e rmX4_refuseLast s m args below meth c H locs 0 0 (MQ below (ms_Qv D cA a shX out) args s 0 0 (ms_A a shX.length)) (F0 m 0 ls []) := by
  have hx := Cx.1
  have hb := Cx.2.1
  intro p0 σ H locs ls hI hl h
  unfold fX4_refuseLast at h
  refine lv_iload_n hx hb dX4_refuseLast_0 rfl (lv_at hl 1 rfl) ?_
  refine lv_if_eq (tgt := 14) hx hb dX4_refuseLast_1 rfl (fun hc => ?_) (fun hc => ?_)
  · have h := ms_ifT hc h
    exact ms_rv Cx hI (Option.some.inj h) dX4_refuseLast_14
  · have h := ms_ifF hc h
    refine lv_aload_n hx hb dX4_refuseLast_4 rfl (lv_at hl 0 rfl) ?_
    refine lv_aload_n hx hb dX4_refuseLast_5 rfl (lv_at hl 0 rfl) ?_
    refine gi_X4_8 Cx hI wd_3_15 dX4_refuseLast_6 ?_
    refine lv_iconst (v := 1) hx hb dX4_refuseLast_9 rfl ?_
    refine lv_isub hx hb dX4_refuseLast_10 ?_
    refine pi_X4_7 Cx hI wd_3_14 dX4_refuseLast_11 (fun H locs σ1 eσ1 hI => ?_)
    have h := ms_ltE eσ1 h
    exact ms_rv Cx hI (Option.some.inj h) dX4_refuseLast_14
theorem yvX4_refuseLast : ms_YV yX4_refuseLast RX4 cX4_refuseLast 2 none 1 := ⟨wd_9_19, wd_9_20, wd_1_14, wd_9_21, rfl, by decide +kernel, by decide +kernel, by decide +kernel⟩
set_option maxHeartbeats 4000000 in
theorem metX4_refuseLast (l : Launch) (hDis : ms_Dis a shX.length) {σ : Mm} {p0 : Int32} {out : Mm} (h : fX4_refuseLast p0 σ = some out) : Met l yX4_refuseLast (.code yX4_refuseLast cX4_refuseLast 2 none :: wsL_law) rmX4_refuseLast (ms_Pc D cA a shX [.ref (a 1), .int p0] σ) (ms_Qv D cA a shX out) 0 0 (ms_A a shX.length) := by
  refine Met.ofW (cc := cX4_refuseLast) (maxL := 2) (ret := none) (by decide) rfl ?_
  intro p e s m args below meth c s₁ B hml hv
  obtain ⟨rfl, hK, hN, hP⟩ := hv
  have hl := lv_entry ([.ref (a 1), .int p0]) (n := 2) (Nat.le_of_ble_eq_true rfl)
  rw [lg_entry_eq]
  generalize (lg_sl ([.ref (a 1), .int p0]) ++ List.replicate (2 - (lg_sl ([.ref (a 1), .int p0])).length) Slot.unset).toArray = ls at hl ⊢
  exact wX4_refuseLast ⟨B.exec, B.bytes, hml, findClass_of_methodNamed B.named, fun w hw => atoms_spec (ws := .code yX4_refuseLast cX4_refuseLast 2 none :: wsL_law) B.pre w (List.mem_cons_of_mem _ hw), B.returns, B.notSynchronized, hK, hDis, hN⟩ out p0 σ s.heap [] ls ⟨hP, va_S.rf⟩ hl h
theorem kX4_refuseLast (Cx : ms_C p s m args meth c D cA a shX cc nL own ret) {σ : Mm} {H : Heap} {locs : List Loc} (hI : ms_I D cA a shX s σ H locs) {p0 : Int32} {out : Mm} (h : fX4_refuseLast p0 σ = some out) (hl : Cond.methodLink own idx yX4_refuseLast ∈ wsL_law) (hf : 0 + 1 ≤ R.frames) (hlo : 8 + (2 + 11) + 0 ≤ R.locals) (hsz : ls.size = nL) (hW : (rest.map fun v => v.category).sum ≤ 8) (hd : decode cc pc = .ok (.invokevirtual idx, 3)) (kk : ∀ (H1 : Heap) (locs1 : List Loc), ms_I D cA a shX s out H1 locs1 → W p l e R s m args below meth c H1 locs1 0 0 Q (F0 m (pc + 3) ls (rest))) : W p l e R s m args below meth c H locs 0 0 Q (F0 m pc ls (.int p0 :: .ref (a 1) :: rest)) :=
  ms_cv hI (ms_runV (av := [.int p0]) Cx hI 1 shX_1 (ci := 4) rfl rfl yvX4_refuseLast (metX4_refuseLast l Cx.2.2.2.2.2.2.2.2.1  h) ⟨rfl, rfl⟩ hl ⟨hf, hlo⟩ rfl hsz rfl hW ⟨Nat.zero_le _, Nat.zero_le _⟩ hd) kk
/-! X4 oneFigure (I)I -/
theorem dX4_oneFigure_0 : decode cX4_oneFigure 0 = .ok (.aload_n 0, 1) := by decide +kernel
theorem dX4_oneFigure_1 : decode cX4_oneFigure 1 = .ok (.invokevirtual 85, 3) := by decide +kernel
theorem dX4_oneFigure_4 : decode cX4_oneFigure 4 = .ok (.istore_n 2, 1) := by decide +kernel
theorem dX4_oneFigure_5 : decode cX4_oneFigure 5 = .ok (.aload_n 0, 1) := by decide +kernel
theorem dX4_oneFigure_6 : decode cX4_oneFigure 6 = .ok (.getfield 34, 3) := by decide +kernel
theorem dX4_oneFigure_9 : decode cX4_oneFigure 9 = .ok (.iconst (-1), 1) := by decide +kernel
theorem dX4_oneFigure_10 : decode cX4_oneFigure 10 = .ok (.if_icmp .ne 17, 3) := by decide +kernel
theorem dX4_oneFigure_13 : decode cX4_oneFigure 13 = .ok (.aload_n 0, 1) := by decide +kernel
theorem dX4_oneFigure_14 : decode cX4_oneFigure 14 = .ok (.iload_n 2, 1) := by decide +kernel
theorem dX4_oneFigure_15 : decode cX4_oneFigure 15 = .ok (.iload_n 1, 1) := by decide +kernel
theorem dX4_oneFigure_16 : decode cX4_oneFigure 16 = .ok (.if_icmp .le 7, 3) := by decide +kernel
theorem dX4_oneFigure_19 : decode cX4_oneFigure 19 = .ok (.iconst 1, 1) := by decide +kernel
theorem dX4_oneFigure_20 : decode cX4_oneFigure 20 = .ok (.goto 4, 3) := by decide +kernel
theorem dX4_oneFigure_23 : decode cX4_oneFigure 23 = .ok (.iconst 0, 1) := by decide +kernel
theorem dX4_oneFigure_24 : decode cX4_oneFigure 24 = .ok (.invokevirtual 81, 3) := by decide +kernel
theorem dX4_oneFigure_27 : decode cX4_oneFigure 27 = .ok (.iload_n 2, 1) := by decide +kernel
theorem dX4_oneFigure_28 : decode cX4_oneFigure 28 = .ok (.ireturn, 1) := by decide +kernel
abbrev rmX4_oneFigure : Room := { frames := 2, cells := 0, slots := 0, locals := 43 }
set_option maxHeartbeats 4000000 in
set_option maxRecDepth 100000 in
theorem wX4_oneFigure_24 (Cx : ms_C p s m args meth c D cA a shX cX4_oneFigure 3 RX4 (some .int)) (out : Int32 × Mm) : ∀ (y1 : Int32) (y2 : Int32) , ∀ (σ : Mm) (H : Heap) (locs : List Loc) (ls : Array Slot), ms_I D cA a shX s σ H locs → lv_has ls 3 [(2, .int y1)] → fX4_oneFigure_24 y1 y2 σ = some out → W p l e rmX4_oneFigure s m args below meth c H locs 0 0 (MQ below (ms_Qi D cA a shX out.1 out.2) args s 0 0 (ms_A a shX.length)) (F0 m 24 ls [.int y2, .ref (a 1)]) := by
  have hx := Cx.1
  have hb := Cx.2.1
  intro y1 y2 σ H locs ls hI hl h
  unfold fX4_oneFigure_24 at h
  obtain ⟨σ2, hc1, h⟩ := ms_bdE h
  refine kX4_refuseLast Cx hI hc1 wd_9_18 (Nat.le_of_ble_eq_true rfl) (Nat.le_of_ble_eq_true rfl) hl.1 (Nat.le_of_ble_eq_true rfl) dX4_oneFigure_24 (fun H locs hI => ?_)
  refine lv_iload_n hx hb dX4_oneFigure_27 rfl (lv_at hl 0 rfl) ?_
  exact ms_riw Cx hI h dX4_oneFigure_28
set_option maxHeartbeats 4000000 in
set_option maxRecDepth 100000 in
theorem wX4_oneFigure (Cx : ms_C p s m args meth c D cA a shX cX4_oneFigure 3 RX4 (some .int)) (out : Int32 × Mm) : ∀ (p0 : Int32) , ∀ (σ : Mm) (H : Heap) (locs : List Loc) (ls : Array Slot), ms_I D cA a shX s σ H locs → lv_has ls 3 [(0, .ref (a 1)), (1, .int p0)] → fX4_oneFigure p0 σ = some out → W p l e rmX4_oneFigure s m args below meth c H locs 0 0 (MQ below (ms_Qi D cA a shX out.1 out.2) args s 0 0 (ms_A a shX.length)) (F0 m 0 ls []) := by
  have hx := Cx.1
  have hb := Cx.2.1
  intro p0 σ H locs ls hI hl h
  unfold fX4_oneFigure at h
  refine lv_aload_n hx hb dX4_oneFigure_0 rfl (lv_at hl 0 rfl) ?_
  obtain ⟨⟨r2, σ3⟩, hc1, h⟩ := ms_bdE h
  refine kX4_figure Cx hI hc1 wd_9_6 (Nat.le_of_ble_eq_true rfl) (Nat.le_of_ble_eq_true rfl) hl.1 (Nat.le_of_ble_eq_true rfl) dX4_oneFigure_1 (fun H locs hI => ?_)
  refine lv_istore_n (lv' := [(2, .int r2), (0, .ref (a 1)), (1, .int p0)]) hx hb dX4_oneFigure_4 rfl hl (by decide) rfl (fun ls hl => ?_)
  refine lv_aload_n hx hb dX4_oneFigure_5 rfl (lv_at hl 1 rfl) ?_
  refine gi_X4_7 Cx hI wd_3_14 dX4_oneFigure_6 ?_
  refine lv_iconst (v := -1) hx hb dX4_oneFigure_9 rfl ?_
  refine lv_icmp_ne (tgt := 27) hx hb dX4_oneFigure_10 rfl (fun hc => ?_) (fun hc => ?_)
  · have h := ms_ifF hc h
    refine lv_iload_n hx hb dX4_oneFigure_27 rfl (lv_at hl 0 rfl) ?_
    exact ms_riw Cx hI h dX4_oneFigure_28
  · have h := ms_ifT hc h
    refine lv_aload_n hx hb dX4_oneFigure_13 rfl (lv_at hl 1 rfl) ?_
    refine lv_iload_n hx hb dX4_oneFigure_14 rfl (lv_at hl 0 rfl) ?_
    refine lv_iload_n hx hb dX4_oneFigure_15 rfl (lv_at hl 2 rfl) ?_
    refine lv_icmp_le (tgt := 23) hx hb dX4_oneFigure_16 rfl (fun hc => ?_) (fun hc => ?_)
    · have h := ms_ifT hc h
      refine lv_iconst (v := 0) hx hb dX4_oneFigure_23 rfl ?_
      exact wX4_oneFigure_24 Cx out  r2 0 σ3 _ _ _ hI (lv_sub hl [0] rfl) h
    · have h := ms_ifF hc h
      refine lv_iconst (v := 1) hx hb dX4_oneFigure_19 rfl ?_
      refine lv_goto (tgt := 24) hx hb dX4_oneFigure_20 rfl ?_
      exact wX4_oneFigure_24 Cx out  r2 1 σ3 _ _ _ hI (lv_sub hl [0] rfl) h
theorem yvX4_oneFigure : ms_YV yX4_oneFigure RX4 cX4_oneFigure 3 (some .int) 1 := ⟨wd_9_15, wd_9_16, wd_1_14, wd_9_17, rfl, by decide +kernel, by decide +kernel, by decide +kernel⟩
set_option maxHeartbeats 4000000 in
theorem metX4_oneFigure (l : Launch) (hDis : ms_Dis a shX.length) {σ : Mm} {p0 : Int32} {out : Int32 × Mm} (h : fX4_oneFigure p0 σ = some out) : Met l yX4_oneFigure (.code yX4_oneFigure cX4_oneFigure 3 (some .int) :: wsL_law) rmX4_oneFigure (ms_Pc D cA a shX [.ref (a 1), .int p0] σ) (ms_Qi D cA a shX out.1 out.2) 0 0 (ms_A a shX.length) := by
  refine Met.ofW (cc := cX4_oneFigure) (maxL := 3) (ret := (some .int)) (by decide) rfl ?_
  intro p e s m args below meth c s₁ B hml hv
  obtain ⟨rfl, hK, hN, hP⟩ := hv
  have hl := lv_entry ([.ref (a 1), .int p0]) (n := 3) (Nat.le_of_ble_eq_true rfl)
  rw [lg_entry_eq]
  generalize (lg_sl ([.ref (a 1), .int p0]) ++ List.replicate (3 - (lg_sl ([.ref (a 1), .int p0])).length) Slot.unset).toArray = ls at hl ⊢
  exact wX4_oneFigure ⟨B.exec, B.bytes, hml, findClass_of_methodNamed B.named, fun w hw => atoms_spec (ws := .code yX4_oneFigure cX4_oneFigure 3 (some .int) :: wsL_law) B.pre w (List.mem_cons_of_mem _ hw), B.returns, B.notSynchronized, hK, hDis, hN⟩ out p0 σ s.heap [] ls ⟨hP, va_S.rf⟩ hl h
theorem kX4_oneFigure (Cx : ms_C p s m args meth c D cA a shX cc nL own ret) {σ : Mm} {H : Heap} {locs : List Loc} (hI : ms_I D cA a shX s σ H locs) {p0 : Int32} {out : Int32 × Mm} (h : fX4_oneFigure p0 σ = some out) (hl : Cond.methodLink own idx yX4_oneFigure ∈ wsL_law) (hf : 2 + 1 ≤ R.frames) (hlo : 8 + (3 + 11) + 43 ≤ R.locals) (hsz : ls.size = nL) (hW : (rest.map fun v => v.category).sum ≤ 8) (hd : decode cc pc = .ok (.invokevirtual idx, 3)) (kk : ∀ (H1 : Heap) (locs1 : List Loc), ms_I D cA a shX s out.2 H1 locs1 → W p l e R s m args below meth c H1 locs1 0 0 Q (F0 m (pc + 3) ls (.int out.1 :: rest))) : W p l e R s m args below meth c H locs 0 0 Q (F0 m pc ls (.int p0 :: .ref (a 1) :: rest)) :=
  ms_ci hI (ms_runV (av := [.int p0]) Cx hI 1 shX_1 (ci := 4) rfl rfl yvX4_oneFigure (metX4_oneFigure l Cx.2.2.2.2.2.2.2.2.1  h) ⟨rfl, rfl⟩ hl ⟨hf, hlo⟩ rfl hsz rfl hW ⟨Nat.zero_le _, Nat.zero_le _⟩ hd) kk
/-! X4 parseHandle ()V -/
theorem dX4_parseHandle_0 : decode cX4_parseHandle 0 = .ok (.aload_n 0, 1) := by decide +kernel
theorem dX4_parseHandle_1 : decode cX4_parseHandle 1 = .ok (.bipush 8, 2) := by decide +kernel
theorem dX4_parseHandle_3 : decode cX4_parseHandle 3 = .ok (.invokevirtual 74, 3) := by decide +kernel
theorem dX4_parseHandle_6 : decode cX4_parseHandle 6 = .ok (.istore_n 1, 1) := by decide +kernel
theorem dX4_parseHandle_7 : decode cX4_parseHandle 7 = .ok (.aload_n 0, 1) := by decide +kernel
theorem dX4_parseHandle_8 : decode cX4_parseHandle 8 = .ok (.getfield 34, 3) := by decide +kernel
theorem dX4_parseHandle_11 : decode cX4_parseHandle 11 = .ok (.iconst (-1), 1) := by decide +kernel
theorem dX4_parseHandle_12 : decode cX4_parseHandle 12 = .ok (.if_icmp .ne 36, 3) := by decide +kernel
theorem dX4_parseHandle_15 : decode cX4_parseHandle 15 = .ok (.aload_n 0, 1) := by decide +kernel
theorem dX4_parseHandle_16 : decode cX4_parseHandle 16 = .ok (.aload_n 0, 1) := by decide +kernel
theorem dX4_parseHandle_17 : decode cX4_parseHandle 17 = .ok (.getfield 31, 3) := by decide +kernel
theorem dX4_parseHandle_20 : decode cX4_parseHandle 20 = .ok (.iload_n 1, 1) := by decide +kernel
theorem dX4_parseHandle_21 : decode cX4_parseHandle 21 = .ok (.invokestatic 78, 3) := by decide +kernel
theorem dX4_parseHandle_24 : decode cX4_parseHandle 24 = .ok (.iconst 1, 1) := by decide +kernel
theorem dX4_parseHandle_25 : decode cX4_parseHandle 25 = .ok (.if_icmp .ne 7, 3) := by decide +kernel
theorem dX4_parseHandle_28 : decode cX4_parseHandle 28 = .ok (.iconst 1, 1) := by decide +kernel
theorem dX4_parseHandle_29 : decode cX4_parseHandle 29 = .ok (.goto 4, 3) := by decide +kernel
theorem dX4_parseHandle_32 : decode cX4_parseHandle 32 = .ok (.iconst 0, 1) := by decide +kernel
theorem dX4_parseHandle_33 : decode cX4_parseHandle 33 = .ok (.invokevirtual 81, 3) := by decide +kernel
theorem dX4_parseHandle_36 : decode cX4_parseHandle 36 = .ok (.aload_n 0, 1) := by decide +kernel
theorem dX4_parseHandle_37 : decode cX4_parseHandle 37 = .ok (.dup, 1) := by decide +kernel
theorem dX4_parseHandle_38 : decode cX4_parseHandle 38 = .ok (.getfield 31, 3) := by decide +kernel
theorem dX4_parseHandle_41 : decode cX4_parseHandle 41 = .ok (.iconst 1, 1) := by decide +kernel
theorem dX4_parseHandle_42 : decode cX4_parseHandle 42 = .ok (.iload_n 1, 1) := by decide +kernel
theorem dX4_parseHandle_43 : decode cX4_parseHandle 43 = .ok (.ishl, 1) := by decide +kernel
theorem dX4_parseHandle_44 : decode cX4_parseHandle 44 = .ok (.ior, 1) := by decide +kernel
theorem dX4_parseHandle_45 : decode cX4_parseHandle 45 = .ok (.putfield 31, 3) := by decide +kernel
theorem dX4_parseHandle_48 : decode cX4_parseHandle 48 = .ok (.return_, 1) := by decide +kernel
abbrev rmX4_parseHandle : Room := { frames := 3, cells := 0, slots := 0, locals := 65 }
set_option maxHeartbeats 4000000 in
set_option maxRecDepth 100000 in
theorem wX4_parseHandle_33 (Cx : ms_C p s m args meth c D cA a shX cX4_parseHandle 2 RX4 none) (out : Mm) : ∀ (y1 : Int32) (y2 : Int32) , ∀ (σ : Mm) (H : Heap) (locs : List Loc) (ls : Array Slot), ms_I D cA a shX s σ H locs → lv_has ls 2 [(0, .ref (a 1)), (1, .int y1)] → fX4_parseHandle_33 y1 y2 σ = some out → W p l e rmX4_parseHandle s m args below meth c H locs 0 0 (MQ below (ms_Qv D cA a shX out) args s 0 0 (ms_A a shX.length)) (F0 m 33 ls [.int y2, .ref (a 1)]) := by
  have hx := Cx.1
  have hb := Cx.2.1
  intro y1 y2 σ H locs ls hI hl h
  unfold fX4_parseHandle_33 at h
  obtain ⟨σ2, hc1, h⟩ := ms_bdE h
  refine kX4_refuseLast Cx hI hc1 wd_9_18 (Nat.le_of_ble_eq_true rfl) (Nat.le_of_ble_eq_true rfl) hl.1 (Nat.le_of_ble_eq_true rfl) dX4_parseHandle_33 (fun H locs hI => ?_)
  refine lv_aload_n hx hb dX4_parseHandle_36 rfl (lv_at hl 0 rfl) ?_
  refine lv_dup hx hb dX4_parseHandle_37 rfl ?_
  refine gi_X4_6 Cx hI wd_3_13 dX4_parseHandle_38 ?_
  refine lv_iconst (v := 1) hx hb dX4_parseHandle_41 rfl ?_
  refine lv_iload_n hx hb dX4_parseHandle_42 rfl (lv_at hl 1 rfl) ?_
  refine lv_ishl hx hb dX4_parseHandle_43 ?_
  refine lv_ior hx hb dX4_parseHandle_44 ?_
  refine pi_X4_6 Cx hI wd_3_13 dX4_parseHandle_45 (fun H locs σ3 eσ3 hI => ?_)
  have h := ms_ltE eσ3 h
  exact ms_rv Cx hI (Option.some.inj h) dX4_parseHandle_48
set_option maxHeartbeats 4000000 in
set_option maxRecDepth 100000 in
theorem wX4_parseHandle (Cx : ms_C p s m args meth c D cA a shX cX4_parseHandle 2 RX4 none) (out : Mm) : ∀ (σ : Mm) (H : Heap) (locs : List Loc) (ls : Array Slot), ms_I D cA a shX s σ H locs → lv_has ls 2 [(0, .ref (a 1))] → fX4_parseHandle σ = some out → W p l e rmX4_parseHandle s m args below meth c H locs 0 0 (MQ below (ms_Qv D cA a shX out) args s 0 0 (ms_A a shX.length)) (F0 m 0 ls []) := by
  have hx := Cx.1
  have hb := Cx.2.1
  intro σ H locs ls hI hl h
  unfold fX4_parseHandle at h
  refine lv_aload_n hx hb dX4_parseHandle_0 rfl (lv_at hl 0 rfl) ?_
  refine lv_bipush (v := 8) hx hb dX4_parseHandle_1 rfl ?_
  obtain ⟨⟨r2, σ3⟩, hc1, h⟩ := ms_bdE h
  refine kX4_oneFigure Cx hI hc1 wd_9_14 (Nat.le_of_ble_eq_true rfl) (Nat.le_of_ble_eq_true rfl) hl.1 (Nat.le_of_ble_eq_true rfl) dX4_parseHandle_3 (fun H locs hI => ?_)
  refine lv_istore_n (lv' := [(1, .int r2), (0, .ref (a 1))]) hx hb dX4_parseHandle_6 rfl hl (by decide) rfl (fun ls hl => ?_)
  refine lv_aload_n hx hb dX4_parseHandle_7 rfl (lv_at hl 1 rfl) ?_
  refine gi_X4_7 Cx hI wd_3_14 dX4_parseHandle_8 ?_
  refine lv_iconst (v := -1) hx hb dX4_parseHandle_11 rfl ?_
  refine lv_icmp_ne (tgt := 48) hx hb dX4_parseHandle_12 rfl (fun hc => ?_) (fun hc => ?_)
  · have h := ms_ifF hc h
    exact ms_rv Cx hI (Option.some.inj h) dX4_parseHandle_48
  · have h := ms_ifT hc h
    refine lv_aload_n hx hb dX4_parseHandle_15 rfl (lv_at hl 1 rfl) ?_
    refine lv_aload_n hx hb dX4_parseHandle_16 rfl (lv_at hl 1 rfl) ?_
    refine gi_X4_6 Cx hI wd_3_13 dX4_parseHandle_17 ?_
    refine lv_iload_n hx hb dX4_parseHandle_20 rfl (lv_at hl 0 rfl) ?_
    obtain ⟨r5, hc4, h⟩ := ms_bdE h
    refine kX7_bit Cx hI hc4 (Or.inr nq_7) (Nat.le_of_ble_eq_true rfl) (Nat.le_of_ble_eq_true rfl) hl.1 (Nat.le_of_ble_eq_true rfl) dX4_parseHandle_21 (fun H locs hI => ?_)
    refine lv_iconst (v := 1) hx hb dX4_parseHandle_24 rfl ?_
    refine lv_icmp_ne (tgt := 32) hx hb dX4_parseHandle_25 rfl (fun hc => ?_) (fun hc => ?_)
    · have h := ms_ifF hc h
      refine lv_iconst (v := 0) hx hb dX4_parseHandle_32 rfl ?_
      exact wX4_parseHandle_33 Cx out  r2 0 σ3 _ _ _ hI (lv_sub hl [1, 0] rfl) h
    · have h := ms_ifT hc h
      refine lv_iconst (v := 1) hx hb dX4_parseHandle_28 rfl ?_
      refine lv_goto (tgt := 33) hx hb dX4_parseHandle_29 rfl ?_
      exact wX4_parseHandle_33 Cx out  r2 1 σ3 _ _ _ hI (lv_sub hl [1, 0] rfl) h
theorem yvX4_parseHandle : ms_YV yX4_parseHandle RX4 cX4_parseHandle 2 none 0 := ⟨wd_9_11, wd_9_12, wd_1_14, wd_9_13, rfl, by decide +kernel, by decide +kernel, by decide +kernel⟩
set_option maxHeartbeats 4000000 in
theorem metX4_parseHandle (l : Launch) (hDis : ms_Dis a shX.length) {σ : Mm} {out : Mm} (h : fX4_parseHandle σ = some out) : Met l yX4_parseHandle (.code yX4_parseHandle cX4_parseHandle 2 none :: wsL_law) rmX4_parseHandle (ms_Pc D cA a shX [.ref (a 1)] σ) (ms_Qv D cA a shX out) 0 0 (ms_A a shX.length) := by
  refine Met.ofW (cc := cX4_parseHandle) (maxL := 2) (ret := none) (by decide) rfl ?_
  intro p e s m args below meth c s₁ B hml hv
  obtain ⟨rfl, hK, hN, hP⟩ := hv
  have hl := lv_entry ([.ref (a 1)]) (n := 2) (Nat.le_of_ble_eq_true rfl)
  rw [lg_entry_eq]
  generalize (lg_sl ([.ref (a 1)]) ++ List.replicate (2 - (lg_sl ([.ref (a 1)])).length) Slot.unset).toArray = ls at hl ⊢
  exact wX4_parseHandle ⟨B.exec, B.bytes, hml, findClass_of_methodNamed B.named, fun w hw => atoms_spec (ws := .code yX4_parseHandle cX4_parseHandle 2 none :: wsL_law) B.pre w (List.mem_cons_of_mem _ hw), B.returns, B.notSynchronized, hK, hDis, hN⟩ out σ s.heap [] ls ⟨hP, va_S.rf⟩ hl h
theorem kX4_parseHandle (Cx : ms_C p s m args meth c D cA a shX cc nL own ret) {σ : Mm} {H : Heap} {locs : List Loc} (hI : ms_I D cA a shX s σ H locs) {out : Mm} (h : fX4_parseHandle σ = some out) (hl : Cond.methodLink own idx yX4_parseHandle ∈ wsL_law) (hf : 3 + 1 ≤ R.frames) (hlo : 8 + (2 + 11) + 65 ≤ R.locals) (hsz : ls.size = nL) (hW : (rest.map fun v => v.category).sum ≤ 8) (hd : decode cc pc = .ok (.invokevirtual idx, 3)) (kk : ∀ (H1 : Heap) (locs1 : List Loc), ms_I D cA a shX s out H1 locs1 → W p l e R s m args below meth c H1 locs1 0 0 Q (F0 m (pc + 3) ls (rest))) : W p l e R s m args below meth c H locs 0 0 Q (F0 m pc ls (.ref (a 1) :: rest)) :=
  ms_cv hI (ms_runV (av := []) Cx hI 1 shX_1 (ci := 4) rfl rfl yvX4_parseHandle (metX4_parseHandle l Cx.2.2.2.2.2.2.2.2.1  h) ⟨rfl, rfl⟩ hl ⟨hf, hlo⟩ rfl hsz rfl hW ⟨Nat.zero_le _, Nat.zero_le _⟩ hd) kk
/-! X4 parseGroup (I)V -/
theorem dX4_parseGroup_0 : decode cX4_parseGroup 0 = .ok (.aload_n 0, 1) := by decide +kernel
theorem dX4_parseGroup_1 : decode cX4_parseGroup 1 = .ok (.getfield 18, 3) := by decide +kernel
theorem dX4_parseGroup_4 : decode cX4_parseGroup 4 = .ok (.iload_n 1, 1) := by decide +kernel
theorem dX4_parseGroup_5 : decode cX4_parseGroup 5 = .ok (.iconst 0, 1) := by decide +kernel
theorem dX4_parseGroup_6 : decode cX4_parseGroup 6 = .ok (.iadd, 1) := by decide +kernel
theorem dX4_parseGroup_7 : decode cX4_parseGroup 7 = .ok (.aload_n 0, 1) := by decide +kernel
theorem dX4_parseGroup_8 : decode cX4_parseGroup 8 = .ok (.iconst 1, 1) := by decide +kernel
theorem dX4_parseGroup_9 : decode cX4_parseGroup 9 = .ok (.bipush 99, 2) := by decide +kernel
theorem dX4_parseGroup_11 : decode cX4_parseGroup 11 = .ok (.invokevirtual 71, 3) := by decide +kernel
theorem dX4_parseGroup_14 : decode cX4_parseGroup 14 = .ok (.iastore, 1) := by decide +kernel
theorem dX4_parseGroup_15 : decode cX4_parseGroup 15 = .ok (.aload_n 0, 1) := by decide +kernel
theorem dX4_parseGroup_16 : decode cX4_parseGroup 16 = .ok (.getfield 18, 3) := by decide +kernel
theorem dX4_parseGroup_19 : decode cX4_parseGroup 19 = .ok (.iload_n 1, 1) := by decide +kernel
theorem dX4_parseGroup_20 : decode cX4_parseGroup 20 = .ok (.iconst 1, 1) := by decide +kernel
theorem dX4_parseGroup_21 : decode cX4_parseGroup 21 = .ok (.iadd, 1) := by decide +kernel
theorem dX4_parseGroup_22 : decode cX4_parseGroup 22 = .ok (.aload_n 0, 1) := by decide +kernel
theorem dX4_parseGroup_23 : decode cX4_parseGroup 23 = .ok (.iconst 0, 1) := by decide +kernel
theorem dX4_parseGroup_24 : decode cX4_parseGroup 24 = .ok (.bipush 23, 2) := by decide +kernel
theorem dX4_parseGroup_26 : decode cX4_parseGroup 26 = .ok (.invokevirtual 71, 3) := by decide +kernel
theorem dX4_parseGroup_29 : decode cX4_parseGroup 29 = .ok (.iastore, 1) := by decide +kernel
theorem dX4_parseGroup_30 : decode cX4_parseGroup 30 = .ok (.aload_n 0, 1) := by decide +kernel
theorem dX4_parseGroup_31 : decode cX4_parseGroup 31 = .ok (.getfield 18, 3) := by decide +kernel
theorem dX4_parseGroup_34 : decode cX4_parseGroup 34 = .ok (.iload_n 1, 1) := by decide +kernel
theorem dX4_parseGroup_35 : decode cX4_parseGroup 35 = .ok (.iconst 2, 1) := by decide +kernel
theorem dX4_parseGroup_36 : decode cX4_parseGroup 36 = .ok (.iadd, 1) := by decide +kernel
theorem dX4_parseGroup_37 : decode cX4_parseGroup 37 = .ok (.aload_n 0, 1) := by decide +kernel
theorem dX4_parseGroup_38 : decode cX4_parseGroup 38 = .ok (.bipush 8, 2) := by decide +kernel
theorem dX4_parseGroup_40 : decode cX4_parseGroup 40 = .ok (.invokevirtual 74, 3) := by decide +kernel
theorem dX4_parseGroup_43 : decode cX4_parseGroup 43 = .ok (.iastore, 1) := by decide +kernel
theorem dX4_parseGroup_44 : decode cX4_parseGroup 44 = .ok (.aload_n 0, 1) := by decide +kernel
theorem dX4_parseGroup_45 : decode cX4_parseGroup 45 = .ok (.getfield 18, 3) := by decide +kernel
theorem dX4_parseGroup_48 : decode cX4_parseGroup 48 = .ok (.iload_n 1, 1) := by decide +kernel
theorem dX4_parseGroup_49 : decode cX4_parseGroup 49 = .ok (.iconst 2, 1) := by decide +kernel
theorem dX4_parseGroup_50 : decode cX4_parseGroup 50 = .ok (.iadd, 1) := by decide +kernel
theorem dX4_parseGroup_51 : decode cX4_parseGroup 51 = .ok (.iconst 1, 1) := by decide +kernel
theorem dX4_parseGroup_52 : decode cX4_parseGroup 52 = .ok (.iadd, 1) := by decide +kernel
theorem dX4_parseGroup_53 : decode cX4_parseGroup 53 = .ok (.aload_n 0, 1) := by decide +kernel
theorem dX4_parseGroup_54 : decode cX4_parseGroup 54 = .ok (.bipush 8, 2) := by decide +kernel
theorem dX4_parseGroup_56 : decode cX4_parseGroup 56 = .ok (.invokevirtual 74, 3) := by decide +kernel
theorem dX4_parseGroup_59 : decode cX4_parseGroup 59 = .ok (.iastore, 1) := by decide +kernel
theorem dX4_parseGroup_60 : decode cX4_parseGroup 60 = .ok (.aload_n 0, 1) := by decide +kernel
theorem dX4_parseGroup_61 : decode cX4_parseGroup 61 = .ok (.getfield 34, 3) := by decide +kernel
theorem dX4_parseGroup_64 : decode cX4_parseGroup 64 = .ok (.iconst (-1), 1) := by decide +kernel
theorem dX4_parseGroup_65 : decode cX4_parseGroup 65 = .ok (.if_icmp .ne 33, 3) := by decide +kernel
theorem dX4_parseGroup_68 : decode cX4_parseGroup 68 = .ok (.aload_n 0, 1) := by decide +kernel
theorem dX4_parseGroup_69 : decode cX4_parseGroup 69 = .ok (.aload_n 0, 1) := by decide +kernel
theorem dX4_parseGroup_70 : decode cX4_parseGroup 70 = .ok (.getfield 18, 3) := by decide +kernel
theorem dX4_parseGroup_73 : decode cX4_parseGroup 73 = .ok (.iload_n 1, 1) := by decide +kernel
theorem dX4_parseGroup_74 : decode cX4_parseGroup 74 = .ok (.iconst 2, 1) := by decide +kernel
theorem dX4_parseGroup_75 : decode cX4_parseGroup 75 = .ok (.iadd, 1) := by decide +kernel
theorem dX4_parseGroup_76 : decode cX4_parseGroup 76 = .ok (.iaload, 1) := by decide +kernel
theorem dX4_parseGroup_77 : decode cX4_parseGroup 77 = .ok (.aload_n 0, 1) := by decide +kernel
theorem dX4_parseGroup_78 : decode cX4_parseGroup 78 = .ok (.getfield 18, 3) := by decide +kernel
theorem dX4_parseGroup_81 : decode cX4_parseGroup 81 = .ok (.iload_n 1, 1) := by decide +kernel
theorem dX4_parseGroup_82 : decode cX4_parseGroup 82 = .ok (.iconst 2, 1) := by decide +kernel
theorem dX4_parseGroup_83 : decode cX4_parseGroup 83 = .ok (.iadd, 1) := by decide +kernel
theorem dX4_parseGroup_84 : decode cX4_parseGroup 84 = .ok (.iconst 1, 1) := by decide +kernel
theorem dX4_parseGroup_85 : decode cX4_parseGroup 85 = .ok (.iadd, 1) := by decide +kernel
theorem dX4_parseGroup_86 : decode cX4_parseGroup 86 = .ok (.iaload, 1) := by decide +kernel
theorem dX4_parseGroup_87 : decode cX4_parseGroup 87 = .ok (.if_icmp .ne 7, 3) := by decide +kernel
theorem dX4_parseGroup_90 : decode cX4_parseGroup 90 = .ok (.iconst 1, 1) := by decide +kernel
theorem dX4_parseGroup_91 : decode cX4_parseGroup 91 = .ok (.goto 4, 3) := by decide +kernel
theorem dX4_parseGroup_94 : decode cX4_parseGroup 94 = .ok (.iconst 0, 1) := by decide +kernel
theorem dX4_parseGroup_95 : decode cX4_parseGroup 95 = .ok (.invokevirtual 81, 3) := by decide +kernel
theorem dX4_parseGroup_98 : decode cX4_parseGroup 98 = .ok (.aload_n 0, 1) := by decide +kernel
theorem dX4_parseGroup_99 : decode cX4_parseGroup 99 = .ok (.getfield 18, 3) := by decide +kernel
theorem dX4_parseGroup_102 : decode cX4_parseGroup 102 = .ok (.iload_n 1, 1) := by decide +kernel
theorem dX4_parseGroup_103 : decode cX4_parseGroup 103 = .ok (.iconst 4, 1) := by decide +kernel
theorem dX4_parseGroup_104 : decode cX4_parseGroup 104 = .ok (.iadd, 1) := by decide +kernel
theorem dX4_parseGroup_105 : decode cX4_parseGroup 105 = .ok (.aload_n 0, 1) := by decide +kernel
theorem dX4_parseGroup_106 : decode cX4_parseGroup 106 = .ok (.bipush 9, 2) := by decide +kernel
theorem dX4_parseGroup_108 : decode cX4_parseGroup 108 = .ok (.invokevirtual 74, 3) := by decide +kernel
theorem dX4_parseGroup_111 : decode cX4_parseGroup 111 = .ok (.iastore, 1) := by decide +kernel
theorem dX4_parseGroup_112 : decode cX4_parseGroup 112 = .ok (.aload_n 0, 1) := by decide +kernel
theorem dX4_parseGroup_113 : decode cX4_parseGroup 113 = .ok (.getfield 18, 3) := by decide +kernel
theorem dX4_parseGroup_116 : decode cX4_parseGroup 116 = .ok (.iload_n 1, 1) := by decide +kernel
theorem dX4_parseGroup_117 : decode cX4_parseGroup 117 = .ok (.iconst 4, 1) := by decide +kernel
theorem dX4_parseGroup_118 : decode cX4_parseGroup 118 = .ok (.iadd, 1) := by decide +kernel
theorem dX4_parseGroup_119 : decode cX4_parseGroup 119 = .ok (.iconst 1, 1) := by decide +kernel
theorem dX4_parseGroup_120 : decode cX4_parseGroup 120 = .ok (.iadd, 1) := by decide +kernel
theorem dX4_parseGroup_121 : decode cX4_parseGroup 121 = .ok (.aload_n 0, 1) := by decide +kernel
theorem dX4_parseGroup_122 : decode cX4_parseGroup 122 = .ok (.bipush 9, 2) := by decide +kernel
theorem dX4_parseGroup_124 : decode cX4_parseGroup 124 = .ok (.invokevirtual 74, 3) := by decide +kernel
theorem dX4_parseGroup_127 : decode cX4_parseGroup 127 = .ok (.iastore, 1) := by decide +kernel
theorem dX4_parseGroup_128 : decode cX4_parseGroup 128 = .ok (.return_, 1) := by decide +kernel
abbrev rmX4_parseGroup : Room := { frames := 3, cells := 0, slots := 0, locals := 67 }
set_option maxHeartbeats 4000000 in
set_option maxRecDepth 100000 in
theorem wX4_parseGroup_98 (Cx : ms_C p s m args meth c D cA a shX cX4_parseGroup 2 RX4 none) (out : Mm) : ∀ (y1 : Int32) , ∀ (σ : Mm) (H : Heap) (locs : List Loc) (ls : Array Slot), ms_I D cA a shX s σ H locs → lv_has ls 2 [(0, .ref (a 1)), (1, .int y1)] → fX4_parseGroup_98 y1 σ = some out → W p l e rmX4_parseGroup s m args below meth c H locs 0 0 (MQ below (ms_Qv D cA a shX out) args s 0 0 (ms_A a shX.length)) (F0 m 98 ls []) := by
  have hx := Cx.1
  have hb := Cx.2.1
  intro y1 σ H locs ls hI hl h
  unfold fX4_parseGroup_98 at h
  refine lv_aload_n hx hb dX4_parseGroup_98 rfl (lv_at hl 0 rfl) ?_
  refine gr_X4_2 Cx hI wd_3_9 dX4_parseGroup_99 ?_
  refine lv_iload_n hx hb dX4_parseGroup_102 rfl (lv_at hl 1 rfl) ?_
  refine lv_iconst (v := 4) hx hb dX4_parseGroup_103 rfl ?_
  refine lv_iadd hx hb dX4_parseGroup_104 ?_
  refine lv_aload_n hx hb dX4_parseGroup_105 rfl (lv_at hl 0 rfl) ?_
  refine lv_bipush (v := 9) hx hb dX4_parseGroup_106 rfl ?_
  obtain ⟨⟨r2, σ3⟩, hc1, h⟩ := ms_bdE h
  refine kX4_oneFigure Cx hI hc1 wd_9_14 (Nat.le_of_ble_eq_true rfl) (Nat.le_of_ble_eq_true rfl) hl.1 (Nat.le_of_ble_eq_true rfl) dX4_parseGroup_108 (fun H locs hI => ?_)
  obtain ⟨hg, h⟩ := ms_gE h
  refine ms_sto Cx hI 4 shX_4 hg dX4_parseGroup_111 (fun H locs σ4 eσ4 hI => ?_)
  have h := ms_ltE eσ4 h
  refine lv_aload_n hx hb dX4_parseGroup_112 rfl (lv_at hl 0 rfl) ?_
  refine gr_X4_2 Cx hI wd_3_9 dX4_parseGroup_113 ?_
  refine lv_iload_n hx hb dX4_parseGroup_116 rfl (lv_at hl 1 rfl) ?_
  refine lv_iconst (v := 4) hx hb dX4_parseGroup_117 rfl ?_
  refine lv_iadd hx hb dX4_parseGroup_118 ?_
  refine lv_iconst (v := 1) hx hb dX4_parseGroup_119 rfl ?_
  refine lv_iadd hx hb dX4_parseGroup_120 ?_
  refine lv_aload_n hx hb dX4_parseGroup_121 rfl (lv_at hl 0 rfl) ?_
  refine lv_bipush (v := 9) hx hb dX4_parseGroup_122 rfl ?_
  obtain ⟨⟨r6, σ7⟩, hc5, h⟩ := ms_bdE h
  refine kX4_oneFigure Cx hI hc5 wd_9_14 (Nat.le_of_ble_eq_true rfl) (Nat.le_of_ble_eq_true rfl) hl.1 (Nat.le_of_ble_eq_true rfl) dX4_parseGroup_124 (fun H locs hI => ?_)
  obtain ⟨hg, h⟩ := ms_gE h
  refine ms_sto Cx hI 4 shX_4 hg dX4_parseGroup_127 (fun H locs σ8 eσ8 hI => ?_)
  have h := ms_ltE eσ8 h
  exact ms_rv Cx hI (Option.some.inj h) dX4_parseGroup_128
set_option maxHeartbeats 4000000 in
set_option maxRecDepth 100000 in
theorem wX4_parseGroup_95 (Cx : ms_C p s m args meth c D cA a shX cX4_parseGroup 2 RX4 none) (out : Mm) : ∀ (y1 : Int32) (y2 : Int32) , ∀ (σ : Mm) (H : Heap) (locs : List Loc) (ls : Array Slot), ms_I D cA a shX s σ H locs → lv_has ls 2 [(0, .ref (a 1)), (1, .int y1)] → fX4_parseGroup_95 y1 y2 σ = some out → W p l e rmX4_parseGroup s m args below meth c H locs 0 0 (MQ below (ms_Qv D cA a shX out) args s 0 0 (ms_A a shX.length)) (F0 m 95 ls [.int y2, .ref (a 1)]) := by
  have hx := Cx.1
  have hb := Cx.2.1
  intro y1 y2 σ H locs ls hI hl h
  unfold fX4_parseGroup_95 at h
  obtain ⟨σ2, hc1, h⟩ := ms_bdE h
  refine kX4_refuseLast Cx hI hc1 wd_9_18 (Nat.le_of_ble_eq_true rfl) (Nat.le_of_ble_eq_true rfl) hl.1 (Nat.le_of_ble_eq_true rfl) dX4_parseGroup_95 (fun H locs hI => ?_)
  exact wX4_parseGroup_98 Cx out  y1 σ2 _ _ _ hI (lv_sub hl [0, 1] rfl) h
set_option maxHeartbeats 4000000 in
set_option maxRecDepth 100000 in
theorem wX4_parseGroup (Cx : ms_C p s m args meth c D cA a shX cX4_parseGroup 2 RX4 none) (out : Mm) : ∀ (p0 : Int32) , ∀ (σ : Mm) (H : Heap) (locs : List Loc) (ls : Array Slot), ms_I D cA a shX s σ H locs → lv_has ls 2 [(0, .ref (a 1)), (1, .int p0)] → fX4_parseGroup p0 σ = some out → W p l e rmX4_parseGroup s m args below meth c H locs 0 0 (MQ below (ms_Qv D cA a shX out) args s 0 0 (ms_A a shX.length)) (F0 m 0 ls []) := by
  have hx := Cx.1
  have hb := Cx.2.1
  intro p0 σ H locs ls hI hl h
  unfold fX4_parseGroup at h
  refine lv_aload_n hx hb dX4_parseGroup_0 rfl (lv_at hl 0 rfl) ?_
  refine gr_X4_2 Cx hI wd_3_9 dX4_parseGroup_1 ?_
  refine lv_iload_n hx hb dX4_parseGroup_4 rfl (lv_at hl 1 rfl) ?_
  refine lv_iconst (v := 0) hx hb dX4_parseGroup_5 rfl ?_
  refine lv_iadd hx hb dX4_parseGroup_6 ?_
  refine lv_aload_n hx hb dX4_parseGroup_7 rfl (lv_at hl 0 rfl) ?_
  refine lv_iconst (v := 1) hx hb dX4_parseGroup_8 rfl ?_
  refine lv_bipush (v := 99) hx hb dX4_parseGroup_9 rfl ?_
  obtain ⟨⟨r2, σ3⟩, hc1, h⟩ := ms_bdE h
  refine kX4_twoFigures Cx hI hc1 wd_9_2 (Nat.le_of_ble_eq_true rfl) (Nat.le_of_ble_eq_true rfl) hl.1 (Nat.le_of_ble_eq_true rfl) dX4_parseGroup_11 (fun H locs hI => ?_)
  obtain ⟨hg, h⟩ := ms_gE h
  refine ms_sto Cx hI 4 shX_4 hg dX4_parseGroup_14 (fun H locs σ4 eσ4 hI => ?_)
  have h := ms_ltE eσ4 h
  refine lv_aload_n hx hb dX4_parseGroup_15 rfl (lv_at hl 0 rfl) ?_
  refine gr_X4_2 Cx hI wd_3_9 dX4_parseGroup_16 ?_
  refine lv_iload_n hx hb dX4_parseGroup_19 rfl (lv_at hl 1 rfl) ?_
  refine lv_iconst (v := 1) hx hb dX4_parseGroup_20 rfl ?_
  refine lv_iadd hx hb dX4_parseGroup_21 ?_
  refine lv_aload_n hx hb dX4_parseGroup_22 rfl (lv_at hl 0 rfl) ?_
  refine lv_iconst (v := 0) hx hb dX4_parseGroup_23 rfl ?_
  refine lv_bipush (v := 23) hx hb dX4_parseGroup_24 rfl ?_
  obtain ⟨⟨r6, σ7⟩, hc5, h⟩ := ms_bdE h
  refine kX4_twoFigures Cx hI hc5 wd_9_2 (Nat.le_of_ble_eq_true rfl) (Nat.le_of_ble_eq_true rfl) hl.1 (Nat.le_of_ble_eq_true rfl) dX4_parseGroup_26 (fun H locs hI => ?_)
  obtain ⟨hg, h⟩ := ms_gE h
  refine ms_sto Cx hI 4 shX_4 hg dX4_parseGroup_29 (fun H locs σ8 eσ8 hI => ?_)
  have h := ms_ltE eσ8 h
  refine lv_aload_n hx hb dX4_parseGroup_30 rfl (lv_at hl 0 rfl) ?_
  refine gr_X4_2 Cx hI wd_3_9 dX4_parseGroup_31 ?_
  refine lv_iload_n hx hb dX4_parseGroup_34 rfl (lv_at hl 1 rfl) ?_
  refine lv_iconst (v := 2) hx hb dX4_parseGroup_35 rfl ?_
  refine lv_iadd hx hb dX4_parseGroup_36 ?_
  refine lv_aload_n hx hb dX4_parseGroup_37 rfl (lv_at hl 0 rfl) ?_
  refine lv_bipush (v := 8) hx hb dX4_parseGroup_38 rfl ?_
  obtain ⟨⟨r10, σ11⟩, hc9, h⟩ := ms_bdE h
  refine kX4_oneFigure Cx hI hc9 wd_9_14 (Nat.le_of_ble_eq_true rfl) (Nat.le_of_ble_eq_true rfl) hl.1 (Nat.le_of_ble_eq_true rfl) dX4_parseGroup_40 (fun H locs hI => ?_)
  obtain ⟨hg, h⟩ := ms_gE h
  refine ms_sto Cx hI 4 shX_4 hg dX4_parseGroup_43 (fun H locs σ12 eσ12 hI => ?_)
  have h := ms_ltE eσ12 h
  refine lv_aload_n hx hb dX4_parseGroup_44 rfl (lv_at hl 0 rfl) ?_
  refine gr_X4_2 Cx hI wd_3_9 dX4_parseGroup_45 ?_
  refine lv_iload_n hx hb dX4_parseGroup_48 rfl (lv_at hl 1 rfl) ?_
  refine lv_iconst (v := 2) hx hb dX4_parseGroup_49 rfl ?_
  refine lv_iadd hx hb dX4_parseGroup_50 ?_
  refine lv_iconst (v := 1) hx hb dX4_parseGroup_51 rfl ?_
  refine lv_iadd hx hb dX4_parseGroup_52 ?_
  refine lv_aload_n hx hb dX4_parseGroup_53 rfl (lv_at hl 0 rfl) ?_
  refine lv_bipush (v := 8) hx hb dX4_parseGroup_54 rfl ?_
  obtain ⟨⟨r14, σ15⟩, hc13, h⟩ := ms_bdE h
  refine kX4_oneFigure Cx hI hc13 wd_9_14 (Nat.le_of_ble_eq_true rfl) (Nat.le_of_ble_eq_true rfl) hl.1 (Nat.le_of_ble_eq_true rfl) dX4_parseGroup_56 (fun H locs hI => ?_)
  obtain ⟨hg, h⟩ := ms_gE h
  refine ms_sto Cx hI 4 shX_4 hg dX4_parseGroup_59 (fun H locs σ16 eσ16 hI => ?_)
  have h := ms_ltE eσ16 h
  refine lv_aload_n hx hb dX4_parseGroup_60 rfl (lv_at hl 0 rfl) ?_
  refine gi_X4_7 Cx hI wd_3_14 dX4_parseGroup_61 ?_
  refine lv_iconst (v := -1) hx hb dX4_parseGroup_64 rfl ?_
  refine lv_icmp_ne (tgt := 98) hx hb dX4_parseGroup_65 rfl (fun hc => ?_) (fun hc => ?_)
  · have h := ms_ifF hc h
    exact wX4_parseGroup_98 Cx out  p0 σ16 _ _ _ hI (lv_sub hl [0, 1] rfl) h
  · have h := ms_ifT hc h
    refine lv_aload_n hx hb dX4_parseGroup_68 rfl (lv_at hl 0 rfl) ?_
    refine lv_aload_n hx hb dX4_parseGroup_69 rfl (lv_at hl 0 rfl) ?_
    refine gr_X4_2 Cx hI wd_3_9 dX4_parseGroup_70 ?_
    refine lv_iload_n hx hb dX4_parseGroup_73 rfl (lv_at hl 1 rfl) ?_
    refine lv_iconst (v := 2) hx hb dX4_parseGroup_74 rfl ?_
    refine lv_iadd hx hb dX4_parseGroup_75 ?_
    obtain ⟨hg, h⟩ := ms_gE h
    refine ms_ld Cx hI 4 shX_4 hg dX4_parseGroup_76 ?_
    refine lv_aload_n hx hb dX4_parseGroup_77 rfl (lv_at hl 0 rfl) ?_
    refine gr_X4_2 Cx hI wd_3_9 dX4_parseGroup_78 ?_
    refine lv_iload_n hx hb dX4_parseGroup_81 rfl (lv_at hl 1 rfl) ?_
    refine lv_iconst (v := 2) hx hb dX4_parseGroup_82 rfl ?_
    refine lv_iadd hx hb dX4_parseGroup_83 ?_
    refine lv_iconst (v := 1) hx hb dX4_parseGroup_84 rfl ?_
    refine lv_iadd hx hb dX4_parseGroup_85 ?_
    obtain ⟨hg, h⟩ := ms_gE h
    refine ms_ld Cx hI 4 shX_4 hg dX4_parseGroup_86 ?_
    refine lv_icmp_ne (tgt := 94) hx hb dX4_parseGroup_87 rfl (fun hc => ?_) (fun hc => ?_)
    · have h := ms_ifF hc h
      refine lv_iconst (v := 0) hx hb dX4_parseGroup_94 rfl ?_
      exact wX4_parseGroup_95 Cx out  p0 0 σ16 _ _ _ hI (lv_sub hl [0, 1] rfl) h
    · have h := ms_ifT hc h
      refine lv_iconst (v := 1) hx hb dX4_parseGroup_90 rfl ?_
      refine lv_goto (tgt := 95) hx hb dX4_parseGroup_91 rfl ?_
      exact wX4_parseGroup_95 Cx out  p0 1 σ16 _ _ _ hI (lv_sub hl [0, 1] rfl) h
theorem yvX4_parseGroup : ms_YV yX4_parseGroup RX4 cX4_parseGroup 2 none 1 := ⟨wd_10_1, wd_10_2, wd_1_14, wd_10_3, rfl, by decide +kernel, by decide +kernel, by decide +kernel⟩
set_option maxHeartbeats 4000000 in
theorem metX4_parseGroup (l : Launch) (hDis : ms_Dis a shX.length) {σ : Mm} {p0 : Int32} {out : Mm} (h : fX4_parseGroup p0 σ = some out) : Met l yX4_parseGroup (.code yX4_parseGroup cX4_parseGroup 2 none :: wsL_law) rmX4_parseGroup (ms_Pc D cA a shX [.ref (a 1), .int p0] σ) (ms_Qv D cA a shX out) 0 0 (ms_A a shX.length) := by
  refine Met.ofW (cc := cX4_parseGroup) (maxL := 2) (ret := none) (by decide) rfl ?_
  intro p e s m args below meth c s₁ B hml hv
  obtain ⟨rfl, hK, hN, hP⟩ := hv
  have hl := lv_entry ([.ref (a 1), .int p0]) (n := 2) (Nat.le_of_ble_eq_true rfl)
  rw [lg_entry_eq]
  generalize (lg_sl ([.ref (a 1), .int p0]) ++ List.replicate (2 - (lg_sl ([.ref (a 1), .int p0])).length) Slot.unset).toArray = ls at hl ⊢
  exact wX4_parseGroup ⟨B.exec, B.bytes, hml, findClass_of_methodNamed B.named, fun w hw => atoms_spec (ws := .code yX4_parseGroup cX4_parseGroup 2 none :: wsL_law) B.pre w (List.mem_cons_of_mem _ hw), B.returns, B.notSynchronized, hK, hDis, hN⟩ out p0 σ s.heap [] ls ⟨hP, va_S.rf⟩ hl h
theorem kX4_parseGroup (Cx : ms_C p s m args meth c D cA a shX cc nL own ret) {σ : Mm} {H : Heap} {locs : List Loc} (hI : ms_I D cA a shX s σ H locs) {p0 : Int32} {out : Mm} (h : fX4_parseGroup p0 σ = some out) (hl : Cond.methodLink own idx yX4_parseGroup ∈ wsL_law) (hf : 3 + 1 ≤ R.frames) (hlo : 8 + (2 + 11) + 67 ≤ R.locals) (hsz : ls.size = nL) (hW : (rest.map fun v => v.category).sum ≤ 8) (hd : decode cc pc = .ok (.invokevirtual idx, 3)) (kk : ∀ (H1 : Heap) (locs1 : List Loc), ms_I D cA a shX s out H1 locs1 → W p l e R s m args below meth c H1 locs1 0 0 Q (F0 m (pc + 3) ls (rest))) : W p l e R s m args below meth c H locs 0 0 Q (F0 m pc ls (.int p0 :: .ref (a 1) :: rest)) :=
  ms_cv hI (ms_runV (av := [.int p0]) Cx hI 1 shX_1 (ci := 4) rfl rfl yvX4_parseGroup (metX4_parseGroup l Cx.2.2.2.2.2.2.2.2.1  h) ⟨rfl, rfl⟩ hl ⟨hf, hlo⟩ rfl hsz rfl hW ⟨Nat.zero_le _, Nat.zero_le _⟩ hd) kk
/-! X4 parsePart ()V -/
theorem dX4_parsePart_0 : decode cX4_parsePart 0 = .ok (.aload_n 0, 1) := by decide +kernel
theorem dX4_parsePart_1 : decode cX4_parsePart 1 = .ok (.invokevirtual 57, 3) := by decide +kernel
theorem dX4_parsePart_4 : decode cX4_parsePart 4 = .ok (.istore_n 1, 1) := by decide +kernel
theorem dX4_parsePart_5 : decode cX4_parsePart 5 = .ok (.iload_n 1, 1) := by decide +kernel
theorem dX4_parsePart_6 : decode cX4_parsePart 6 = .ok (.bipush 116, 2) := by decide +kernel
theorem dX4_parsePart_8 : decode cX4_parsePart 8 = .ok (.if_icmp .ne 45, 3) := by decide +kernel
theorem dX4_parsePart_11 : decode cX4_parsePart 11 = .ok (.aload_n 0, 1) := by decide +kernel
theorem dX4_parsePart_12 : decode cX4_parsePart 12 = .ok (.getfield 25, 3) := by decide +kernel
theorem dX4_parsePart_15 : decode cX4_parsePart 15 = .ok (.bipush 6, 2) := by decide +kernel
theorem dX4_parsePart_17 : decode cX4_parsePart 17 = .ok (.if_icmp .ge 36, 3) := by decide +kernel
theorem dX4_parsePart_20 : decode cX4_parsePart 20 = .ok (.aload_n 0, 1) := by decide +kernel
theorem dX4_parsePart_21 : decode cX4_parsePart 21 = .ok (.dup, 1) := by decide +kernel
theorem dX4_parsePart_22 : decode cX4_parsePart 22 = .ok (.getfield 37, 3) := by decide +kernel
theorem dX4_parsePart_25 : decode cX4_parsePart 25 = .ok (.iconst 1, 1) := by decide +kernel
theorem dX4_parsePart_26 : decode cX4_parsePart 26 = .ok (.iadd, 1) := by decide +kernel
theorem dX4_parsePart_27 : decode cX4_parsePart 27 = .ok (.putfield 37, 3) := by decide +kernel
theorem dX4_parsePart_30 : decode cX4_parsePart 30 = .ok (.aload_n 0, 1) := by decide +kernel
theorem dX4_parsePart_31 : decode cX4_parsePart 31 = .ok (.aload_n 0, 1) := by decide +kernel
theorem dX4_parsePart_32 : decode cX4_parsePart 32 = .ok (.getfield 25, 3) := by decide +kernel
theorem dX4_parsePart_35 : decode cX4_parsePart 35 = .ok (.iconst 4, 1) := by decide +kernel
theorem dX4_parsePart_36 : decode cX4_parsePart 36 = .ok (.imul, 1) := by decide +kernel
theorem dX4_parsePart_37 : decode cX4_parsePart 37 = .ok (.invokevirtual 61, 3) := by decide +kernel
theorem dX4_parsePart_40 : decode cX4_parsePart 40 = .ok (.aload_n 0, 1) := by decide +kernel
theorem dX4_parsePart_41 : decode cX4_parsePart 41 = .ok (.dup, 1) := by decide +kernel
theorem dX4_parsePart_42 : decode cX4_parsePart 42 = .ok (.getfield 25, 3) := by decide +kernel
theorem dX4_parsePart_45 : decode cX4_parsePart 45 = .ok (.iconst 1, 1) := by decide +kernel
theorem dX4_parsePart_46 : decode cX4_parsePart 46 = .ok (.iadd, 1) := by decide +kernel
theorem dX4_parsePart_47 : decode cX4_parsePart 47 = .ok (.putfield 25, 3) := by decide +kernel
theorem dX4_parsePart_50 : decode cX4_parsePart 50 = .ok (.goto 83, 3) := by decide +kernel
theorem dX4_parsePart_53 : decode cX4_parsePart 53 = .ok (.iload_n 1, 1) := by decide +kernel
theorem dX4_parsePart_54 : decode cX4_parsePart 54 = .ok (.bipush 104, 2) := by decide +kernel
theorem dX4_parsePart_56 : decode cX4_parsePart 56 = .ok (.if_icmp .ne 20, 3) := by decide +kernel
theorem dX4_parsePart_59 : decode cX4_parsePart 59 = .ok (.aload_n 0, 1) := by decide +kernel
theorem dX4_parsePart_60 : decode cX4_parsePart 60 = .ok (.dup, 1) := by decide +kernel
theorem dX4_parsePart_61 : decode cX4_parsePart 61 = .ok (.getfield 37, 3) := by decide +kernel
theorem dX4_parsePart_64 : decode cX4_parsePart 64 = .ok (.iconst 1, 1) := by decide +kernel
theorem dX4_parsePart_65 : decode cX4_parsePart 65 = .ok (.iadd, 1) := by decide +kernel
theorem dX4_parsePart_66 : decode cX4_parsePart 66 = .ok (.putfield 37, 3) := by decide +kernel
theorem dX4_parsePart_69 : decode cX4_parsePart 69 = .ok (.aload_n 0, 1) := by decide +kernel
theorem dX4_parsePart_70 : decode cX4_parsePart 70 = .ok (.invokevirtual 65, 3) := by decide +kernel
theorem dX4_parsePart_73 : decode cX4_parsePart 73 = .ok (.goto 60, 3) := by decide +kernel
theorem dX4_parsePart_76 : decode cX4_parsePart 76 = .ok (.iload_n 1, 1) := by decide +kernel
theorem dX4_parsePart_77 : decode cX4_parsePart 77 = .ok (.bipush 103, 2) := by decide +kernel
theorem dX4_parsePart_79 : decode cX4_parsePart 79 = .ok (.if_icmp .ne 46, 3) := by decide +kernel
theorem dX4_parsePart_82 : decode cX4_parsePart 82 = .ok (.aload_n 0, 1) := by decide +kernel
theorem dX4_parsePart_83 : decode cX4_parsePart 83 = .ok (.getfield 28, 3) := by decide +kernel
theorem dX4_parsePart_86 : decode cX4_parsePart 86 = .ok (.bipush 8, 2) := by decide +kernel
theorem dX4_parsePart_88 : decode cX4_parsePart 88 = .ok (.if_icmp .ge 37, 3) := by decide +kernel
theorem dX4_parsePart_91 : decode cX4_parsePart 91 = .ok (.aload_n 0, 1) := by decide +kernel
theorem dX4_parsePart_92 : decode cX4_parsePart 92 = .ok (.dup, 1) := by decide +kernel
theorem dX4_parsePart_93 : decode cX4_parsePart 93 = .ok (.getfield 37, 3) := by decide +kernel
theorem dX4_parsePart_96 : decode cX4_parsePart 96 = .ok (.iconst 1, 1) := by decide +kernel
theorem dX4_parsePart_97 : decode cX4_parsePart 97 = .ok (.iadd, 1) := by decide +kernel
theorem dX4_parsePart_98 : decode cX4_parsePart 98 = .ok (.putfield 37, 3) := by decide +kernel
theorem dX4_parsePart_101 : decode cX4_parsePart 101 = .ok (.aload_n 0, 1) := by decide +kernel
theorem dX4_parsePart_102 : decode cX4_parsePart 102 = .ok (.aload_n 0, 1) := by decide +kernel
theorem dX4_parsePart_103 : decode cX4_parsePart 103 = .ok (.getfield 28, 3) := by decide +kernel
theorem dX4_parsePart_106 : decode cX4_parsePart 106 = .ok (.bipush 6, 2) := by decide +kernel
theorem dX4_parsePart_108 : decode cX4_parsePart 108 = .ok (.imul, 1) := by decide +kernel
theorem dX4_parsePart_109 : decode cX4_parsePart 109 = .ok (.invokevirtual 68, 3) := by decide +kernel
theorem dX4_parsePart_112 : decode cX4_parsePart 112 = .ok (.aload_n 0, 1) := by decide +kernel
theorem dX4_parsePart_113 : decode cX4_parsePart 113 = .ok (.dup, 1) := by decide +kernel
theorem dX4_parsePart_114 : decode cX4_parsePart 114 = .ok (.getfield 28, 3) := by decide +kernel
theorem dX4_parsePart_117 : decode cX4_parsePart 117 = .ok (.iconst 1, 1) := by decide +kernel
theorem dX4_parsePart_118 : decode cX4_parsePart 118 = .ok (.iadd, 1) := by decide +kernel
theorem dX4_parsePart_119 : decode cX4_parsePart 119 = .ok (.putfield 28, 3) := by decide +kernel
theorem dX4_parsePart_122 : decode cX4_parsePart 122 = .ok (.goto 11, 3) := by decide +kernel
theorem dX4_parsePart_125 : decode cX4_parsePart 125 = .ok (.aload_n 0, 1) := by decide +kernel
theorem dX4_parsePart_126 : decode cX4_parsePart 126 = .ok (.aload_n 0, 1) := by decide +kernel
theorem dX4_parsePart_127 : decode cX4_parsePart 127 = .ok (.getfield 37, 3) := by decide +kernel
theorem dX4_parsePart_130 : decode cX4_parsePart 130 = .ok (.putfield 34, 3) := by decide +kernel
theorem dX4_parsePart_133 : decode cX4_parsePart 133 = .ok (.return_, 1) := by decide +kernel
abbrev rmX4_parsePart : Room := { frames := 4, cells := 0, slots := 0, locals := 88 }
set_option maxHeartbeats 4000000 in
set_option maxRecDepth 100000 in
theorem wX4_parsePart_125 (Cx : ms_C p s m args meth c D cA a shX cX4_parsePart 2 RX4 none) (out : Mm) : ∀ (σ : Mm) (H : Heap) (locs : List Loc) (ls : Array Slot), ms_I D cA a shX s σ H locs → lv_has ls 2 [(0, .ref (a 1))] → fX4_parsePart_125 σ = some out → W p l e rmX4_parsePart s m args below meth c H locs 0 0 (MQ below (ms_Qv D cA a shX out) args s 0 0 (ms_A a shX.length)) (F0 m 125 ls []) := by
  have hx := Cx.1
  have hb := Cx.2.1
  intro σ H locs ls hI hl h
  unfold fX4_parsePart_125 at h
  refine lv_aload_n hx hb dX4_parsePart_125 rfl (lv_at hl 0 rfl) ?_
  refine lv_aload_n hx hb dX4_parsePart_126 rfl (lv_at hl 0 rfl) ?_
  refine gi_X4_8 Cx hI wd_3_15 dX4_parsePart_127 ?_
  refine pi_X4_7 Cx hI wd_3_14 dX4_parsePart_130 (fun H locs σ1 eσ1 hI => ?_)
  have h := ms_ltE eσ1 h
  exact ms_rv Cx hI (Option.some.inj h) dX4_parsePart_133
set_option maxHeartbeats 4000000 in
set_option maxRecDepth 100000 in
theorem wX4_parsePart_53 (Cx : ms_C p s m args meth c D cA a shX cX4_parsePart 2 RX4 none) (out : Mm) : ∀ (y1 : Int32) , ∀ (σ : Mm) (H : Heap) (locs : List Loc) (ls : Array Slot), ms_I D cA a shX s σ H locs → lv_has ls 2 [(0, .ref (a 1)), (1, .int y1)] → fX4_parsePart_53 y1 σ = some out → W p l e rmX4_parsePart s m args below meth c H locs 0 0 (MQ below (ms_Qv D cA a shX out) args s 0 0 (ms_A a shX.length)) (F0 m 53 ls []) := by
  have hx := Cx.1
  have hb := Cx.2.1
  intro y1 σ H locs ls hI hl h
  unfold fX4_parsePart_53 at h
  refine lv_iload_n hx hb dX4_parsePart_53 rfl (lv_at hl 1 rfl) ?_
  refine lv_bipush (v := 104) hx hb dX4_parsePart_54 rfl ?_
  refine lv_icmp_ne (tgt := 76) hx hb dX4_parsePart_56 rfl (fun hc => ?_) (fun hc => ?_)
  · have h := ms_ifF hc h
    refine lv_iload_n hx hb dX4_parsePart_76 rfl (lv_at hl 1 rfl) ?_
    refine lv_bipush (v := 103) hx hb dX4_parsePart_77 rfl ?_
    refine lv_icmp_ne (tgt := 125) hx hb dX4_parsePart_79 rfl (fun hc => ?_) (fun hc => ?_)
    · have h := ms_ifF hc h
      exact wX4_parsePart_125 Cx out  σ _ _ _ hI (lv_sub hl [0] rfl) h
    · have h := ms_ifT hc h
      refine lv_aload_n hx hb dX4_parsePart_82 rfl (lv_at hl 0 rfl) ?_
      refine gi_X4_5 Cx hI wd_3_12 dX4_parsePart_83 ?_
      refine lv_bipush (v := 8) hx hb dX4_parsePart_86 rfl ?_
      refine lv_icmp_ge (tgt := 125) hx hb dX4_parsePart_88 rfl (fun hc => ?_) (fun hc => ?_)
      · have h := ms_ifT hc h
        exact wX4_parsePart_125 Cx out  σ _ _ _ hI (lv_sub hl [0] rfl) h
      · have h := ms_ifF hc h
        refine lv_aload_n hx hb dX4_parsePart_91 rfl (lv_at hl 0 rfl) ?_
        refine lv_dup hx hb dX4_parsePart_92 rfl ?_
        refine gi_X4_8 Cx hI wd_3_15 dX4_parsePart_93 ?_
        refine lv_iconst (v := 1) hx hb dX4_parsePart_96 rfl ?_
        refine lv_iadd hx hb dX4_parsePart_97 ?_
        refine pi_X4_8 Cx hI wd_3_15 dX4_parsePart_98 (fun H locs σ1 eσ1 hI => ?_)
        have h := ms_ltE eσ1 h
        refine lv_aload_n hx hb dX4_parsePart_101 rfl (lv_at hl 0 rfl) ?_
        refine lv_aload_n hx hb dX4_parsePart_102 rfl (lv_at hl 0 rfl) ?_
        refine gi_X4_5 Cx hI wd_3_12 dX4_parsePart_103 ?_
        refine lv_bipush (v := 6) hx hb dX4_parsePart_106 rfl ?_
        refine lv_imul hx hb dX4_parsePart_108 ?_
        obtain ⟨σ3, hc2, h⟩ := ms_bdE h
        refine kX4_parseGroup Cx hI hc2 wd_10_0 (Nat.le_of_ble_eq_true rfl) (Nat.le_of_ble_eq_true rfl) hl.1 (Nat.le_of_ble_eq_true rfl) dX4_parsePart_109 (fun H locs hI => ?_)
        refine lv_aload_n hx hb dX4_parsePart_112 rfl (lv_at hl 0 rfl) ?_
        refine lv_dup hx hb dX4_parsePart_113 rfl ?_
        refine gi_X4_5 Cx hI wd_3_12 dX4_parsePart_114 ?_
        refine lv_iconst (v := 1) hx hb dX4_parsePart_117 rfl ?_
        refine lv_iadd hx hb dX4_parsePart_118 ?_
        refine pi_X4_5 Cx hI wd_3_12 dX4_parsePart_119 (fun H locs σ4 eσ4 hI => ?_)
        have h := ms_ltE eσ4 h
        refine lv_goto (tgt := 133) hx hb dX4_parsePart_122 rfl ?_
        exact ms_rv Cx hI (Option.some.inj h) dX4_parsePart_133
  · have h := ms_ifT hc h
    refine lv_aload_n hx hb dX4_parsePart_59 rfl (lv_at hl 0 rfl) ?_
    refine lv_dup hx hb dX4_parsePart_60 rfl ?_
    refine gi_X4_8 Cx hI wd_3_15 dX4_parsePart_61 ?_
    refine lv_iconst (v := 1) hx hb dX4_parsePart_64 rfl ?_
    refine lv_iadd hx hb dX4_parsePart_65 ?_
    refine pi_X4_8 Cx hI wd_3_15 dX4_parsePart_66 (fun H locs σ5 eσ5 hI => ?_)
    have h := ms_ltE eσ5 h
    refine lv_aload_n hx hb dX4_parsePart_69 rfl (lv_at hl 0 rfl) ?_
    obtain ⟨σ7, hc6, h⟩ := ms_bdE h
    refine kX4_parseHandle Cx hI hc6 wd_9_10 (Nat.le_of_ble_eq_true rfl) (Nat.le_of_ble_eq_true rfl) hl.1 (Nat.le_of_ble_eq_true rfl) dX4_parsePart_70 (fun H locs hI => ?_)
    refine lv_goto (tgt := 133) hx hb dX4_parsePart_73 rfl ?_
    exact ms_rv Cx hI (Option.some.inj h) dX4_parsePart_133
set_option maxHeartbeats 4000000 in
set_option maxRecDepth 100000 in
theorem wX4_parsePart (Cx : ms_C p s m args meth c D cA a shX cX4_parsePart 2 RX4 none) (out : Mm) : ∀ (σ : Mm) (H : Heap) (locs : List Loc) (ls : Array Slot), ms_I D cA a shX s σ H locs → lv_has ls 2 [(0, .ref (a 1))] → fX4_parsePart σ = some out → W p l e rmX4_parsePart s m args below meth c H locs 0 0 (MQ below (ms_Qv D cA a shX out) args s 0 0 (ms_A a shX.length)) (F0 m 0 ls []) := by
  have hx := Cx.1
  have hb := Cx.2.1
  intro σ H locs ls hI hl h
  unfold fX4_parsePart at h
  refine lv_aload_n hx hb dX4_parsePart_0 rfl (lv_at hl 0 rfl) ?_
  obtain ⟨r2, hc1, h⟩ := ms_bdE h
  refine kX4_next Cx hI hc1 wd_8_18 (Nat.le_of_ble_eq_true rfl) (Nat.le_of_ble_eq_true rfl) hl.1 (Nat.le_of_ble_eq_true rfl) dX4_parsePart_1 (fun H locs hI => ?_)
  refine lv_istore_n (lv' := [(1, .int r2), (0, .ref (a 1))]) hx hb dX4_parsePart_4 rfl hl (by decide) rfl (fun ls hl => ?_)
  refine lv_iload_n hx hb dX4_parsePart_5 rfl (lv_at hl 0 rfl) ?_
  refine lv_bipush (v := 116) hx hb dX4_parsePart_6 rfl ?_
  refine lv_icmp_ne (tgt := 53) hx hb dX4_parsePart_8 rfl (fun hc => ?_) (fun hc => ?_)
  · have h := ms_ifF hc h
    exact wX4_parsePart_53 Cx out  r2 σ _ _ _ hI (lv_sub hl [1, 0] rfl) h
  · have h := ms_ifT hc h
    refine lv_aload_n hx hb dX4_parsePart_11 rfl (lv_at hl 1 rfl) ?_
    refine gi_X4_4 Cx hI wd_3_11 dX4_parsePart_12 ?_
    refine lv_bipush (v := 6) hx hb dX4_parsePart_15 rfl ?_
    refine lv_icmp_ge (tgt := 53) hx hb dX4_parsePart_17 rfl (fun hc => ?_) (fun hc => ?_)
    · have h := ms_ifT hc h
      exact wX4_parsePart_53 Cx out  r2 σ _ _ _ hI (lv_sub hl [1, 0] rfl) h
    · have h := ms_ifF hc h
      refine lv_aload_n hx hb dX4_parsePart_20 rfl (lv_at hl 1 rfl) ?_
      refine lv_dup hx hb dX4_parsePart_21 rfl ?_
      refine gi_X4_8 Cx hI wd_3_15 dX4_parsePart_22 ?_
      refine lv_iconst (v := 1) hx hb dX4_parsePart_25 rfl ?_
      refine lv_iadd hx hb dX4_parsePart_26 ?_
      refine pi_X4_8 Cx hI wd_3_15 dX4_parsePart_27 (fun H locs σ3 eσ3 hI => ?_)
      have h := ms_ltE eσ3 h
      refine lv_aload_n hx hb dX4_parsePart_30 rfl (lv_at hl 1 rfl) ?_
      refine lv_aload_n hx hb dX4_parsePart_31 rfl (lv_at hl 1 rfl) ?_
      refine gi_X4_4 Cx hI wd_3_11 dX4_parsePart_32 ?_
      refine lv_iconst (v := 4) hx hb dX4_parsePart_35 rfl ?_
      refine lv_imul hx hb dX4_parsePart_36 ?_
      obtain ⟨σ5, hc4, h⟩ := ms_bdE h
      refine kX4_parseThing Cx hI hc4 wd_8_22 (Nat.le_of_ble_eq_true rfl) (Nat.le_of_ble_eq_true rfl) hl.1 (Nat.le_of_ble_eq_true rfl) dX4_parsePart_37 (fun H locs hI => ?_)
      refine lv_aload_n hx hb dX4_parsePart_40 rfl (lv_at hl 1 rfl) ?_
      refine lv_dup hx hb dX4_parsePart_41 rfl ?_
      refine gi_X4_4 Cx hI wd_3_11 dX4_parsePart_42 ?_
      refine lv_iconst (v := 1) hx hb dX4_parsePart_45 rfl ?_
      refine lv_iadd hx hb dX4_parsePart_46 ?_
      refine pi_X4_4 Cx hI wd_3_11 dX4_parsePart_47 (fun H locs σ6 eσ6 hI => ?_)
      have h := ms_ltE eσ6 h
      refine lv_goto (tgt := 133) hx hb dX4_parsePart_50 rfl ?_
      exact ms_rv Cx hI (Option.some.inj h) dX4_parsePart_133
theorem yvX4_parsePart : ms_YV yX4_parsePart RX4 cX4_parsePart 2 none 0 := ⟨wd_8_15, wd_8_16, wd_1_14, wd_8_17, rfl, by decide +kernel, by decide +kernel, by decide +kernel⟩
set_option maxHeartbeats 4000000 in
theorem metX4_parsePart (l : Launch) (hDis : ms_Dis a shX.length) {σ : Mm} {out : Mm} (h : fX4_parsePart σ = some out) : Met l yX4_parsePart (.code yX4_parsePart cX4_parsePart 2 none :: wsL_law) rmX4_parsePart (ms_Pc D cA a shX [.ref (a 1)] σ) (ms_Qv D cA a shX out) 0 0 (ms_A a shX.length) := by
  refine Met.ofW (cc := cX4_parsePart) (maxL := 2) (ret := none) (by decide) rfl ?_
  intro p e s m args below meth c s₁ B hml hv
  obtain ⟨rfl, hK, hN, hP⟩ := hv
  have hl := lv_entry ([.ref (a 1)]) (n := 2) (Nat.le_of_ble_eq_true rfl)
  rw [lg_entry_eq]
  generalize (lg_sl ([.ref (a 1)]) ++ List.replicate (2 - (lg_sl ([.ref (a 1)])).length) Slot.unset).toArray = ls at hl ⊢
  exact wX4_parsePart ⟨B.exec, B.bytes, hml, findClass_of_methodNamed B.named, fun w hw => atoms_spec (ws := .code yX4_parsePart cX4_parsePart 2 none :: wsL_law) B.pre w (List.mem_cons_of_mem _ hw), B.returns, B.notSynchronized, hK, hDis, hN⟩ out σ s.heap [] ls ⟨hP, va_S.rf⟩ hl h
theorem kX4_parsePart (Cx : ms_C p s m args meth c D cA a shX cc nL own ret) {σ : Mm} {H : Heap} {locs : List Loc} (hI : ms_I D cA a shX s σ H locs) {out : Mm} (h : fX4_parsePart σ = some out) (hl : Cond.methodLink own idx yX4_parsePart ∈ wsL_law) (hf : 4 + 1 ≤ R.frames) (hlo : 8 + (2 + 11) + 88 ≤ R.locals) (hsz : ls.size = nL) (hW : (rest.map fun v => v.category).sum ≤ 8) (hd : decode cc pc = .ok (.invokevirtual idx, 3)) (kk : ∀ (H1 : Heap) (locs1 : List Loc), ms_I D cA a shX s out H1 locs1 → W p l e R s m args below meth c H1 locs1 0 0 Q (F0 m (pc + 3) ls (rest))) : W p l e R s m args below meth c H locs 0 0 Q (F0 m pc ls (.ref (a 1) :: rest)) :=
  ms_cv hI (ms_runV (av := []) Cx hI 1 shX_1 (ci := 4) rfl rfl yvX4_parsePart (metX4_parsePart l Cx.2.2.2.2.2.2.2.2.1  h) ⟨rfl, rfl⟩ hl ⟨hf, hlo⟩ rfl hsz rfl hW ⟨Nat.zero_le _, Nat.zero_le _⟩ hd) kk
/-! X4 parseBetween ()V -/
theorem dX4_parseBetween_0 : decode cX4_parseBetween 0 = .ok (.aload_n 0, 1) := by decide +kernel
theorem dX4_parseBetween_1 : decode cX4_parseBetween 1 = .ok (.invokevirtual 57, 3) := by decide +kernel
theorem dX4_parseBetween_4 : decode cX4_parseBetween 4 = .ok (.bipush 59, 2) := by decide +kernel
theorem dX4_parseBetween_6 : decode cX4_parseBetween 6 = .ok (.if_icmp .ne 16, 3) := by decide +kernel
theorem dX4_parseBetween_9 : decode cX4_parseBetween 9 = .ok (.aload_n 0, 1) := by decide +kernel
theorem dX4_parseBetween_10 : decode cX4_parseBetween 10 = .ok (.dup, 1) := by decide +kernel
theorem dX4_parseBetween_11 : decode cX4_parseBetween 11 = .ok (.getfield 37, 3) := by decide +kernel
theorem dX4_parseBetween_14 : decode cX4_parseBetween 14 = .ok (.iconst 1, 1) := by decide +kernel
theorem dX4_parseBetween_15 : decode cX4_parseBetween 15 = .ok (.iadd, 1) := by decide +kernel
theorem dX4_parseBetween_16 : decode cX4_parseBetween 16 = .ok (.putfield 37, 3) := by decide +kernel
theorem dX4_parseBetween_19 : decode cX4_parseBetween 19 = .ok (.goto 11, 3) := by decide +kernel
theorem dX4_parseBetween_22 : decode cX4_parseBetween 22 = .ok (.aload_n 0, 1) := by decide +kernel
theorem dX4_parseBetween_23 : decode cX4_parseBetween 23 = .ok (.aload_n 0, 1) := by decide +kernel
theorem dX4_parseBetween_24 : decode cX4_parseBetween 24 = .ok (.getfield 37, 3) := by decide +kernel
theorem dX4_parseBetween_27 : decode cX4_parseBetween 27 = .ok (.putfield 34, 3) := by decide +kernel
theorem dX4_parseBetween_30 : decode cX4_parseBetween 30 = .ok (.return_, 1) := by decide +kernel
abbrev rmX4_parseBetween : Room := { frames := 1, cells := 0, slots := 0, locals := 20 }
set_option maxHeartbeats 4000000 in
set_option maxRecDepth 100000 in
theorem wX4_parseBetween (Cx : ms_C p s m args meth c D cA a shX cX4_parseBetween 1 RX4 none) (out : Mm) : ∀ (σ : Mm) (H : Heap) (locs : List Loc) (ls : Array Slot), ms_I D cA a shX s σ H locs → lv_has ls 1 [(0, .ref (a 1))] → fX4_parseBetween σ = some out → W p l e rmX4_parseBetween s m args below meth c H locs 0 0 (MQ below (ms_Qv D cA a shX out) args s 0 0 (ms_A a shX.length)) (F0 m 0 ls []) := by
  have hx := Cx.1
  have hb := Cx.2.1
  intro σ H locs ls hI hl h
  unfold fX4_parseBetween at h
  refine lv_aload_n hx hb dX4_parseBetween_0 rfl (lv_at hl 0 rfl) ?_
  obtain ⟨r2, hc1, h⟩ := ms_bdE h
  refine kX4_next Cx hI hc1 wd_8_18 (Nat.le_of_ble_eq_true rfl) (Nat.le_of_ble_eq_true rfl) hl.1 (Nat.le_of_ble_eq_true rfl) dX4_parseBetween_1 (fun H locs hI => ?_)
  refine lv_bipush (v := 59) hx hb dX4_parseBetween_4 rfl ?_
  refine lv_icmp_ne (tgt := 22) hx hb dX4_parseBetween_6 rfl (fun hc => ?_) (fun hc => ?_)
  · have h := ms_ifF hc h
    refine lv_aload_n hx hb dX4_parseBetween_22 rfl (lv_at hl 0 rfl) ?_
    refine lv_aload_n hx hb dX4_parseBetween_23 rfl (lv_at hl 0 rfl) ?_
    refine gi_X4_8 Cx hI wd_3_15 dX4_parseBetween_24 ?_
    refine pi_X4_7 Cx hI wd_3_14 dX4_parseBetween_27 (fun H locs σ3 eσ3 hI => ?_)
    have h := ms_ltE eσ3 h
    exact ms_rv Cx hI (Option.some.inj h) dX4_parseBetween_30
  · have h := ms_ifT hc h
    refine lv_aload_n hx hb dX4_parseBetween_9 rfl (lv_at hl 0 rfl) ?_
    refine lv_dup hx hb dX4_parseBetween_10 rfl ?_
    refine gi_X4_8 Cx hI wd_3_15 dX4_parseBetween_11 ?_
    refine lv_iconst (v := 1) hx hb dX4_parseBetween_14 rfl ?_
    refine lv_iadd hx hb dX4_parseBetween_15 ?_
    refine pi_X4_8 Cx hI wd_3_15 dX4_parseBetween_16 (fun H locs σ4 eσ4 hI => ?_)
    have h := ms_ltE eσ4 h
    refine lv_goto (tgt := 30) hx hb dX4_parseBetween_19 rfl ?_
    exact ms_rv Cx hI (Option.some.inj h) dX4_parseBetween_30
theorem yvX4_parseBetween : ms_YV yX4_parseBetween RX4 cX4_parseBetween 1 none 0 := ⟨wd_10_5, wd_10_6, wd_1_14, wd_10_7, rfl, by decide +kernel, by decide +kernel, by decide +kernel⟩
set_option maxHeartbeats 4000000 in
theorem metX4_parseBetween (l : Launch) (hDis : ms_Dis a shX.length) {σ : Mm} {out : Mm} (h : fX4_parseBetween σ = some out) : Met l yX4_parseBetween (.code yX4_parseBetween cX4_parseBetween 1 none :: wsL_law) rmX4_parseBetween (ms_Pc D cA a shX [.ref (a 1)] σ) (ms_Qv D cA a shX out) 0 0 (ms_A a shX.length) := by
  refine Met.ofW (cc := cX4_parseBetween) (maxL := 1) (ret := none) (by decide) rfl ?_
  intro p e s m args below meth c s₁ B hml hv
  obtain ⟨rfl, hK, hN, hP⟩ := hv
  have hl := lv_entry ([.ref (a 1)]) (n := 1) (Nat.le_of_ble_eq_true rfl)
  rw [lg_entry_eq]
  generalize (lg_sl ([.ref (a 1)]) ++ List.replicate (1 - (lg_sl ([.ref (a 1)])).length) Slot.unset).toArray = ls at hl ⊢
  exact wX4_parseBetween ⟨B.exec, B.bytes, hml, findClass_of_methodNamed B.named, fun w hw => atoms_spec (ws := .code yX4_parseBetween cX4_parseBetween 1 none :: wsL_law) B.pre w (List.mem_cons_of_mem _ hw), B.returns, B.notSynchronized, hK, hDis, hN⟩ out σ s.heap [] ls ⟨hP, va_S.rf⟩ hl h
theorem kX4_parseBetween (Cx : ms_C p s m args meth c D cA a shX cc nL own ret) {σ : Mm} {H : Heap} {locs : List Loc} (hI : ms_I D cA a shX s σ H locs) {out : Mm} (h : fX4_parseBetween σ = some out) (hl : Cond.methodLink own idx yX4_parseBetween ∈ wsL_law) (hf : 1 + 1 ≤ R.frames) (hlo : 8 + (1 + 11) + 20 ≤ R.locals) (hsz : ls.size = nL) (hW : (rest.map fun v => v.category).sum ≤ 8) (hd : decode cc pc = .ok (.invokevirtual idx, 3)) (kk : ∀ (H1 : Heap) (locs1 : List Loc), ms_I D cA a shX s out H1 locs1 → W p l e R s m args below meth c H1 locs1 0 0 Q (F0 m (pc + 3) ls (rest))) : W p l e R s m args below meth c H locs 0 0 Q (F0 m pc ls (.ref (a 1) :: rest)) :=
  ms_cv hI (ms_runV (av := []) Cx hI 1 shX_1 (ci := 4) rfl rfl yvX4_parseBetween (metX4_parseBetween l Cx.2.2.2.2.2.2.2.2.1  h) ⟨rfl, rfl⟩ hl ⟨hf, hlo⟩ rfl hsz rfl hW ⟨Nat.zero_le _, Nat.zero_le _⟩ hd) kk
/-! X4 parse ()V -/
theorem dX4_parse_0 : decode cX4_parse 0 = .ok (.aload_n 0, 1) := by decide +kernel
theorem dX4_parse_1 : decode cX4_parse 1 = .ok (.invokevirtual 48, 3) := by decide +kernel
theorem dX4_parse_4 : decode cX4_parse 4 = .ok (.aload_n 0, 1) := by decide +kernel
theorem dX4_parse_5 : decode cX4_parse 5 = .ok (.iconst (-1), 1) := by decide +kernel
theorem dX4_parse_6 : decode cX4_parse 6 = .ok (.putfield 34, 3) := by decide +kernel
theorem dX4_parse_9 : decode cX4_parse 9 = .ok (.aload_n 0, 1) := by decide +kernel
theorem dX4_parse_10 : decode cX4_parse 10 = .ok (.iconst 0, 1) := by decide +kernel
theorem dX4_parse_11 : decode cX4_parse 11 = .ok (.putfield 37, 3) := by decide +kernel
theorem dX4_parse_14 : decode cX4_parse 14 = .ok (.aload_n 0, 1) := by decide +kernel
theorem dX4_parse_15 : decode cX4_parse 15 = .ok (.getfield 21, 3) := by decide +kernel
theorem dX4_parse_18 : decode cX4_parse 18 = .ok (.ifCond .le 7, 3) := by decide +kernel
theorem dX4_parse_21 : decode cX4_parse 21 = .ok (.iconst 1, 1) := by decide +kernel
theorem dX4_parse_22 : decode cX4_parse 22 = .ok (.goto 4, 3) := by decide +kernel
theorem dX4_parse_25 : decode cX4_parse 25 = .ok (.iconst 0, 1) := by decide +kernel
theorem dX4_parse_26 : decode cX4_parse 26 = .ok (.istore_n 1, 1) := by decide +kernel
theorem dX4_parse_27 : decode cX4_parse 27 = .ok (.iconst 0, 1) := by decide +kernel
theorem dX4_parse_28 : decode cX4_parse 28 = .ok (.istore_n 2, 1) := by decide +kernel
theorem dX4_parse_29 : decode cX4_parse 29 = .ok (.iload_n 2, 1) := by decide +kernel
theorem dX4_parse_30 : decode cX4_parse 30 = .ok (.bipush 100, 2) := by decide +kernel
theorem dX4_parse_32 : decode cX4_parse 32 = .ok (.if_icmp .ge 64, 3) := by decide +kernel
theorem dX4_parse_35 : decode cX4_parse 35 = .ok (.iload_n 1, 1) := by decide +kernel
theorem dX4_parse_36 : decode cX4_parse 36 = .ok (.ifCond .eq 60, 3) := by decide +kernel
theorem dX4_parse_39 : decode cX4_parse 39 = .ok (.aload_n 0, 1) := by decide +kernel
theorem dX4_parse_40 : decode cX4_parse 40 = .ok (.invokevirtual 51, 3) := by decide +kernel
theorem dX4_parse_43 : decode cX4_parse 43 = .ok (.aload_n 0, 1) := by decide +kernel
theorem dX4_parse_44 : decode cX4_parse 44 = .ok (.getfield 34, 3) := by decide +kernel
theorem dX4_parse_47 : decode cX4_parse 47 = .ok (.iconst (-1), 1) := by decide +kernel
theorem dX4_parse_48 : decode cX4_parse 48 = .ok (.if_icmp .ne 18, 3) := by decide +kernel
theorem dX4_parse_51 : decode cX4_parse 51 = .ok (.aload_n 0, 1) := by decide +kernel
theorem dX4_parse_52 : decode cX4_parse 52 = .ok (.getfield 37, 3) := by decide +kernel
theorem dX4_parse_55 : decode cX4_parse 55 = .ok (.aload_n 0, 1) := by decide +kernel
theorem dX4_parse_56 : decode cX4_parse 56 = .ok (.getfield 21, 3) := by decide +kernel
theorem dX4_parse_59 : decode cX4_parse 59 = .ok (.if_icmp .ge 7, 3) := by decide +kernel
theorem dX4_parse_62 : decode cX4_parse 62 = .ok (.iconst 1, 1) := by decide +kernel
theorem dX4_parse_63 : decode cX4_parse 63 = .ok (.goto 4, 3) := by decide +kernel
theorem dX4_parse_66 : decode cX4_parse 66 = .ok (.iconst 0, 1) := by decide +kernel
theorem dX4_parse_67 : decode cX4_parse 67 = .ok (.istore_n 1, 1) := by decide +kernel
theorem dX4_parse_68 : decode cX4_parse 68 = .ok (.iload_n 1, 1) := by decide +kernel
theorem dX4_parse_69 : decode cX4_parse 69 = .ok (.ifCond .eq 21, 3) := by decide +kernel
theorem dX4_parse_72 : decode cX4_parse 72 = .ok (.aload_n 0, 1) := by decide +kernel
theorem dX4_parse_73 : decode cX4_parse 73 = .ok (.invokevirtual 54, 3) := by decide +kernel
theorem dX4_parse_76 : decode cX4_parse 76 = .ok (.aload_n 0, 1) := by decide +kernel
theorem dX4_parse_77 : decode cX4_parse 77 = .ok (.getfield 34, 3) := by decide +kernel
theorem dX4_parse_80 : decode cX4_parse 80 = .ok (.iconst (-1), 1) := by decide +kernel
theorem dX4_parse_81 : decode cX4_parse 81 = .ok (.if_icmp .ne 7, 3) := by decide +kernel
theorem dX4_parse_84 : decode cX4_parse 84 = .ok (.iconst 1, 1) := by decide +kernel
theorem dX4_parse_85 : decode cX4_parse 85 = .ok (.goto 4, 3) := by decide +kernel
theorem dX4_parse_88 : decode cX4_parse 88 = .ok (.iconst 0, 1) := by decide +kernel
theorem dX4_parse_89 : decode cX4_parse 89 = .ok (.istore_n 1, 1) := by decide +kernel
theorem dX4_parse_90 : decode cX4_parse 90 = .ok (.iinc 2 1, 3) := by decide +kernel
theorem dX4_parse_93 : decode cX4_parse 93 = .ok (.goto (-64), 3) := by decide +kernel
theorem dX4_parse_96 : decode cX4_parse 96 = .ok (.aload_n 0, 1) := by decide +kernel
theorem dX4_parse_97 : decode cX4_parse 97 = .ok (.getfield 34, 3) := by decide +kernel
theorem dX4_parse_100 : decode cX4_parse 100 = .ok (.iconst (-1), 1) := by decide +kernel
theorem dX4_parse_101 : decode cX4_parse 101 = .ok (.if_icmp .eq 7, 3) := by decide +kernel
theorem dX4_parse_104 : decode cX4_parse 104 = .ok (.aload_n 0, 1) := by decide +kernel
theorem dX4_parse_105 : decode cX4_parse 105 = .ok (.invokevirtual 48, 3) := by decide +kernel
theorem dX4_parse_108 : decode cX4_parse 108 = .ok (.return_, 1) := by decide +kernel
abbrev rmX4_parse : Room := { frames := 5, cells := 0, slots := 0, locals := 109 }
set_option maxHeartbeats 4000000 in
set_option maxRecDepth 100000 in
theorem wX4_parse_96 (Cx : ms_C p s m args meth c D cA a shX cX4_parse 3 RX4 none) (out : Mm) : ∀ (σ : Mm) (H : Heap) (locs : List Loc) (ls : Array Slot), ms_I D cA a shX s σ H locs → lv_has ls 3 [(0, .ref (a 1))] → fX4_parse_96 σ = some out → W p l e rmX4_parse s m args below meth c H locs 0 0 (MQ below (ms_Qv D cA a shX out) args s 0 0 (ms_A a shX.length)) (F0 m 96 ls []) := by
  have hx := Cx.1
  have hb := Cx.2.1
  intro σ H locs ls hI hl h
  unfold fX4_parse_96 at h
  refine lv_aload_n hx hb dX4_parse_96 rfl (lv_at hl 0 rfl) ?_
  refine gi_X4_7 Cx hI wd_3_14 dX4_parse_97 ?_
  refine lv_iconst (v := -1) hx hb dX4_parse_100 rfl ?_
  refine lv_icmp_eq (tgt := 108) hx hb dX4_parse_101 rfl (fun hc => ?_) (fun hc => ?_)
  · have h := ms_ifT hc h
    exact ms_rv Cx hI (Option.some.inj h) dX4_parse_108
  · have h := ms_ifF hc h
    refine lv_aload_n hx hb dX4_parse_104 rfl (lv_at hl 0 rfl) ?_
    obtain ⟨σ2, hc1, h⟩ := ms_bdE h
    refine kX4_forgetParts Cx hI hc1 wd_8_10 (Nat.le_of_ble_eq_true rfl) (Nat.le_of_ble_eq_true rfl) hl.1 (Nat.le_of_ble_eq_true rfl) dX4_parse_105 (fun H locs hI => ?_)
    exact ms_rv Cx hI (Option.some.inj h) dX4_parse_108
set_option maxHeartbeats 4000000 in
set_option maxRecDepth 100000 in
theorem wX4_parse_90 (Cx : ms_C p s m args meth c D cA a shX cX4_parse 3 RX4 none) (out : Mm) (K29 : Int32 → Int32 → Mm → Option (Mm)) (hK29 : ∀ (y1 : Int32) (y2 : Int32) , ∀ (σ : Mm) (H : Heap) (locs : List Loc) (ls : Array Slot), ms_I D cA a shX s σ H locs → lv_has ls 3 [(0, .ref (a 1)), (1, .int y1), (2, .int y2)] → K29 y1 y2 σ = some out → W p l e rmX4_parse s m args below meth c H locs 0 0 (MQ below (ms_Qv D cA a shX out) args s 0 0 (ms_A a shX.length)) (F0 m 29 ls [])) : ∀ (y1 : Int32) (y2 : Int32) , ∀ (σ : Mm) (H : Heap) (locs : List Loc) (ls : Array Slot), ms_I D cA a shX s σ H locs → lv_has ls 3 [(0, .ref (a 1)), (1, .int y1), (2, .int y2)] → fX4_parse_90 K29 y1 y2 σ = some out → W p l e rmX4_parse s m args below meth c H locs 0 0 (MQ below (ms_Qv D cA a shX out) args s 0 0 (ms_A a shX.length)) (F0 m 90 ls []) := by
  have hx := Cx.1
  have hb := Cx.2.1
  intro y1 y2 σ H locs ls hI hl h
  unfold fX4_parse_90 at h
  refine lv_iinc (v := y2 + 1) (lv' := [(2, .int (y2 + 1)), (0, .ref (a 1)), (1, .int y1)]) hx hb dX4_parse_90 hl (k := 2) rfl rfl (by decide) rfl (fun ls hl => ?_)
  refine lv_goto (tgt := 29) hx hb dX4_parse_93 rfl ?_
  exact hK29 y1 (y2 + 1) σ _ _ _ hI (lv_sub hl [1, 2, 0] rfl) h
set_option maxHeartbeats 4000000 in
set_option maxRecDepth 100000 in
theorem wX4_parse_89 (Cx : ms_C p s m args meth c D cA a shX cX4_parse 3 RX4 none) (out : Mm) (K29 : Int32 → Int32 → Mm → Option (Mm)) (hK29 : ∀ (y1 : Int32) (y2 : Int32) , ∀ (σ : Mm) (H : Heap) (locs : List Loc) (ls : Array Slot), ms_I D cA a shX s σ H locs → lv_has ls 3 [(0, .ref (a 1)), (1, .int y1), (2, .int y2)] → K29 y1 y2 σ = some out → W p l e rmX4_parse s m args below meth c H locs 0 0 (MQ below (ms_Qv D cA a shX out) args s 0 0 (ms_A a shX.length)) (F0 m 29 ls [])) : ∀ (y1 : Int32) (y2 : Int32) , ∀ (σ : Mm) (H : Heap) (locs : List Loc) (ls : Array Slot), ms_I D cA a shX s σ H locs → lv_has ls 3 [(0, .ref (a 1)), (2, .int y1)] → fX4_parse_89 K29 y1 y2 σ = some out → W p l e rmX4_parse s m args below meth c H locs 0 0 (MQ below (ms_Qv D cA a shX out) args s 0 0 (ms_A a shX.length)) (F0 m 89 ls [.int y2]) := by
  have hx := Cx.1
  have hb := Cx.2.1
  intro y1 y2 σ H locs ls hI hl h
  unfold fX4_parse_89 at h
  refine lv_istore_n (lv' := [(1, .int y2), (0, .ref (a 1)), (2, .int y1)]) hx hb dX4_parse_89 rfl hl (by decide) rfl (fun ls hl => ?_)
  exact wX4_parse_90 Cx out K29 hK29 y2 y1 σ _ _ _ hI (lv_sub hl [1, 0, 2] rfl) h
set_option maxHeartbeats 4000000 in
set_option maxRecDepth 100000 in
theorem wX4_parse_67 (Cx : ms_C p s m args meth c D cA a shX cX4_parse 3 RX4 none) (out : Mm) (K29 : Int32 → Int32 → Mm → Option (Mm)) (hK29 : ∀ (y1 : Int32) (y2 : Int32) , ∀ (σ : Mm) (H : Heap) (locs : List Loc) (ls : Array Slot), ms_I D cA a shX s σ H locs → lv_has ls 3 [(0, .ref (a 1)), (1, .int y1), (2, .int y2)] → K29 y1 y2 σ = some out → W p l e rmX4_parse s m args below meth c H locs 0 0 (MQ below (ms_Qv D cA a shX out) args s 0 0 (ms_A a shX.length)) (F0 m 29 ls [])) : ∀ (y1 : Int32) (y2 : Int32) , ∀ (σ : Mm) (H : Heap) (locs : List Loc) (ls : Array Slot), ms_I D cA a shX s σ H locs → lv_has ls 3 [(0, .ref (a 1)), (2, .int y1)] → fX4_parse_67 K29 y1 y2 σ = some out → W p l e rmX4_parse s m args below meth c H locs 0 0 (MQ below (ms_Qv D cA a shX out) args s 0 0 (ms_A a shX.length)) (F0 m 67 ls [.int y2]) := by
  have hx := Cx.1
  have hb := Cx.2.1
  intro y1 y2 σ H locs ls hI hl h
  unfold fX4_parse_67 at h
  refine lv_istore_n (lv' := [(1, .int y2), (0, .ref (a 1)), (2, .int y1)]) hx hb dX4_parse_67 rfl hl (by decide) rfl (fun ls hl => ?_)
  refine lv_iload_n hx hb dX4_parse_68 rfl (lv_at hl 0 rfl) ?_
  refine lv_if_eq (tgt := 90) hx hb dX4_parse_69 rfl (fun hc => ?_) (fun hc => ?_)
  · have h := ms_ifT hc h
    exact wX4_parse_90 Cx out K29 hK29 y2 y1 σ _ _ _ hI (lv_sub hl [1, 0, 2] rfl) h
  · have h := ms_ifF hc h
    refine lv_aload_n hx hb dX4_parse_72 rfl (lv_at hl 1 rfl) ?_
    obtain ⟨σ2, hc1, h⟩ := ms_bdE h
    refine kX4_parseBetween Cx hI hc1 wd_10_4 (Nat.le_of_ble_eq_true rfl) (Nat.le_of_ble_eq_true rfl) hl.1 (Nat.le_of_ble_eq_true rfl) dX4_parse_73 (fun H locs hI => ?_)
    refine lv_aload_n hx hb dX4_parse_76 rfl (lv_at hl 1 rfl) ?_
    refine gi_X4_7 Cx hI wd_3_14 dX4_parse_77 ?_
    refine lv_iconst (v := -1) hx hb dX4_parse_80 rfl ?_
    refine lv_icmp_ne (tgt := 88) hx hb dX4_parse_81 rfl (fun hc => ?_) (fun hc => ?_)
    · have h := ms_ifF hc h
      refine lv_iconst (v := 0) hx hb dX4_parse_88 rfl ?_
      exact wX4_parse_89 Cx out K29 hK29 y1 0 σ2 _ _ _ hI (lv_sub hl [1, 2] rfl) h
    · have h := ms_ifT hc h
      refine lv_iconst (v := 1) hx hb dX4_parse_84 rfl ?_
      refine lv_goto (tgt := 89) hx hb dX4_parse_85 rfl ?_
      exact wX4_parse_89 Cx out K29 hK29 y1 1 σ2 _ _ _ hI (lv_sub hl [1, 2] rfl) h
set_option maxHeartbeats 4000000 in
set_option maxRecDepth 100000 in
theorem wX4_parse_66 (Cx : ms_C p s m args meth c D cA a shX cX4_parse 3 RX4 none) (out : Mm) (K29 : Int32 → Int32 → Mm → Option (Mm)) (hK29 : ∀ (y1 : Int32) (y2 : Int32) , ∀ (σ : Mm) (H : Heap) (locs : List Loc) (ls : Array Slot), ms_I D cA a shX s σ H locs → lv_has ls 3 [(0, .ref (a 1)), (1, .int y1), (2, .int y2)] → K29 y1 y2 σ = some out → W p l e rmX4_parse s m args below meth c H locs 0 0 (MQ below (ms_Qv D cA a shX out) args s 0 0 (ms_A a shX.length)) (F0 m 29 ls [])) : ∀ (y1 : Int32) , ∀ (σ : Mm) (H : Heap) (locs : List Loc) (ls : Array Slot), ms_I D cA a shX s σ H locs → lv_has ls 3 [(0, .ref (a 1)), (2, .int y1)] → fX4_parse_66 K29 y1 σ = some out → W p l e rmX4_parse s m args below meth c H locs 0 0 (MQ below (ms_Qv D cA a shX out) args s 0 0 (ms_A a shX.length)) (F0 m 66 ls []) := by
  have hx := Cx.1
  have hb := Cx.2.1
  intro y1 σ H locs ls hI hl h
  unfold fX4_parse_66 at h
  refine lv_iconst (v := 0) hx hb dX4_parse_66 rfl ?_
  exact wX4_parse_67 Cx out K29 hK29 y1 0 σ _ _ _ hI (lv_sub hl [0, 1] rfl) h
set_option maxHeartbeats 4000000 in
set_option maxRecDepth 100000 in
theorem wX4_parse_29 (Cx : ms_C p s m args meth c D cA a shX cX4_parse 3 RX4 none) (out : Mm) : ∀ (n : Nat), ∀ (y1 : Int32) (y2 : Int32) , ∀ (σ : Mm) (H : Heap) (locs : List Loc) (ls : Array Slot), ms_I D cA a shX s σ H locs → lv_has ls 3 [(0, .ref (a 1)), (1, .int y1), (2, .int y2)] → fX4_parse_29 n y1 y2 σ = some out → W p l e rmX4_parse s m args below meth c H locs 0 0 (MQ below (ms_Qv D cA a shX out) args s 0 0 (ms_A a shX.length)) (F0 m 29 ls []) := by
  have hx := Cx.1
  have hb := Cx.2.1
  intro n
  induction n with
  | zero =>
    intro y1 y2 σ H locs ls hI hl h
    exact nomatch (show none = some out from h)
  | succ n ih =>
    intro y1 y2 σ H locs ls hI hl h
    rw [fX4_parse_29] at h
    refine lv_iload_n hx hb dX4_parse_29 rfl (lv_at hl 2 rfl) ?_
    refine lv_bipush (v := 100) hx hb dX4_parse_30 rfl ?_
    refine lv_icmp_ge (tgt := 96) hx hb dX4_parse_32 rfl (fun hc => ?_) (fun hc => ?_)
    · have h := ms_ifT hc h
      exact wX4_parse_96 Cx out  σ _ _ _ hI (lv_sub hl [0] rfl) h
    · have h := ms_ifF hc h
      refine lv_iload_n hx hb dX4_parse_35 rfl (lv_at hl 1 rfl) ?_
      refine lv_if_eq (tgt := 96) hx hb dX4_parse_36 rfl (fun hc => ?_) (fun hc => ?_)
      · have h := ms_ifT hc h
        exact wX4_parse_96 Cx out  σ _ _ _ hI (lv_sub hl [0] rfl) h
      · have h := ms_ifF hc h
        refine lv_aload_n hx hb dX4_parse_39 rfl (lv_at hl 0 rfl) ?_
        obtain ⟨σ2, hc1, h⟩ := ms_bdE h
        refine kX4_parsePart Cx hI hc1 wd_8_14 (Nat.le_of_ble_eq_true rfl) (Nat.le_of_ble_eq_true rfl) hl.1 (Nat.le_of_ble_eq_true rfl) dX4_parse_40 (fun H locs hI => ?_)
        refine lv_aload_n hx hb dX4_parse_43 rfl (lv_at hl 0 rfl) ?_
        refine gi_X4_7 Cx hI wd_3_14 dX4_parse_44 ?_
        refine lv_iconst (v := -1) hx hb dX4_parse_47 rfl ?_
        refine lv_icmp_ne (tgt := 66) hx hb dX4_parse_48 rfl (fun hc => ?_) (fun hc => ?_)
        · have h := ms_ifF hc h
          exact wX4_parse_66 Cx out (fX4_parse_29 n) ih y2 σ2 _ _ _ hI (lv_sub hl [0, 2] rfl) h
        · have h := ms_ifT hc h
          refine lv_aload_n hx hb dX4_parse_51 rfl (lv_at hl 0 rfl) ?_
          refine gi_X4_8 Cx hI wd_3_15 dX4_parse_52 ?_
          refine lv_aload_n hx hb dX4_parse_55 rfl (lv_at hl 0 rfl) ?_
          refine gi_X4_3 Cx hI wd_3_10 dX4_parse_56 ?_
          refine lv_icmp_ge (tgt := 66) hx hb dX4_parse_59 rfl (fun hc => ?_) (fun hc => ?_)
          · have h := ms_ifT hc h
            exact wX4_parse_66 Cx out (fX4_parse_29 n) ih y2 σ2 _ _ _ hI (lv_sub hl [0, 2] rfl) h
          · have h := ms_ifF hc h
            refine lv_iconst (v := 1) hx hb dX4_parse_62 rfl ?_
            refine lv_goto (tgt := 67) hx hb dX4_parse_63 rfl ?_
            exact wX4_parse_67 Cx out (fX4_parse_29 n) ih y2 1 σ2 _ _ _ hI (lv_sub hl [0, 2] rfl) h
set_option maxHeartbeats 4000000 in
set_option maxRecDepth 100000 in
theorem wX4_parse_26 (Cx : ms_C p s m args meth c D cA a shX cX4_parse 3 RX4 none) (out : Mm) : ∀ (y1 : Int32) , ∀ (σ : Mm) (H : Heap) (locs : List Loc) (ls : Array Slot), ms_I D cA a shX s σ H locs → lv_has ls 3 [(0, .ref (a 1))] → fX4_parse_26 y1 σ = some out → W p l e rmX4_parse s m args below meth c H locs 0 0 (MQ below (ms_Qv D cA a shX out) args s 0 0 (ms_A a shX.length)) (F0 m 26 ls [.int y1]) := by
  have hx := Cx.1
  have hb := Cx.2.1
  intro y1 σ H locs ls hI hl h
  unfold fX4_parse_26 at h
  refine lv_istore_n (lv' := [(1, .int y1), (0, .ref (a 1))]) hx hb dX4_parse_26 rfl hl (by decide) rfl (fun ls hl => ?_)
  refine lv_iconst (v := 0) hx hb dX4_parse_27 rfl ?_
  refine lv_istore_n (lv' := [(2, .int 0), (1, .int y1), (0, .ref (a 1))]) hx hb dX4_parse_28 rfl hl (by decide) rfl (fun ls hl => ?_)
  exact wX4_parse_29 Cx out  ms_fu y1 0 σ _ _ _ hI (lv_sub hl [2, 1, 0] rfl) h
set_option maxHeartbeats 4000000 in
set_option maxRecDepth 100000 in
theorem wX4_parse (Cx : ms_C p s m args meth c D cA a shX cX4_parse 3 RX4 none) (out : Mm) : ∀ (σ : Mm) (H : Heap) (locs : List Loc) (ls : Array Slot), ms_I D cA a shX s σ H locs → lv_has ls 3 [(0, .ref (a 1))] → fX4_parse σ = some out → W p l e rmX4_parse s m args below meth c H locs 0 0 (MQ below (ms_Qv D cA a shX out) args s 0 0 (ms_A a shX.length)) (F0 m 0 ls []) := by
  have hx := Cx.1
  have hb := Cx.2.1
  intro σ H locs ls hI hl h
  unfold fX4_parse at h
  refine lv_aload_n hx hb dX4_parse_0 rfl (lv_at hl 0 rfl) ?_
  obtain ⟨σ2, hc1, h⟩ := ms_bdE h
  refine kX4_forgetParts Cx hI hc1 wd_8_10 (Nat.le_of_ble_eq_true rfl) (Nat.le_of_ble_eq_true rfl) hl.1 (Nat.le_of_ble_eq_true rfl) dX4_parse_1 (fun H locs hI => ?_)
  refine lv_aload_n hx hb dX4_parse_4 rfl (lv_at hl 0 rfl) ?_
  refine lv_iconst (v := -1) hx hb dX4_parse_5 rfl ?_
  refine pi_X4_7 Cx hI wd_3_14 dX4_parse_6 (fun H locs σ3 eσ3 hI => ?_)
  have h := ms_ltE eσ3 h
  refine lv_aload_n hx hb dX4_parse_9 rfl (lv_at hl 0 rfl) ?_
  refine lv_iconst (v := 0) hx hb dX4_parse_10 rfl ?_
  refine pi_X4_8 Cx hI wd_3_15 dX4_parse_11 (fun H locs σ4 eσ4 hI => ?_)
  have h := ms_ltE eσ4 h
  refine lv_aload_n hx hb dX4_parse_14 rfl (lv_at hl 0 rfl) ?_
  refine gi_X4_3 Cx hI wd_3_10 dX4_parse_15 ?_
  refine lv_if_le (tgt := 25) hx hb dX4_parse_18 rfl (fun hc => ?_) (fun hc => ?_)
  · have h := ms_ifT hc h
    refine lv_iconst (v := 0) hx hb dX4_parse_25 rfl ?_
    exact wX4_parse_26 Cx out  0 σ4 _ _ _ hI (lv_sub hl [0] rfl) h
  · have h := ms_ifF hc h
    refine lv_iconst (v := 1) hx hb dX4_parse_21 rfl ?_
    refine lv_goto (tgt := 26) hx hb dX4_parse_22 rfl ?_
    exact wX4_parse_26 Cx out  1 σ4 _ _ _ hI (lv_sub hl [0] rfl) h
theorem yvX4_parse : ms_YV yX4_parse RX4 cX4_parse 3 none 0 := ⟨wd_8_7, wd_8_8, wd_1_14, wd_8_9, rfl, by decide +kernel, by decide +kernel, by decide +kernel⟩
set_option maxHeartbeats 4000000 in
theorem metX4_parse (l : Launch) (hDis : ms_Dis a shX.length) {σ : Mm} {out : Mm} (h : fX4_parse σ = some out) : Met l yX4_parse (.code yX4_parse cX4_parse 3 none :: wsL_law) rmX4_parse (ms_Pc D cA a shX [.ref (a 1)] σ) (ms_Qv D cA a shX out) 0 0 (ms_A a shX.length) := by
  refine Met.ofW (cc := cX4_parse) (maxL := 3) (ret := none) (by decide) rfl ?_
  intro p e s m args below meth c s₁ B hml hv
  obtain ⟨rfl, hK, hN, hP⟩ := hv
  have hl := lv_entry ([.ref (a 1)]) (n := 3) (Nat.le_of_ble_eq_true rfl)
  rw [lg_entry_eq]
  generalize (lg_sl ([.ref (a 1)]) ++ List.replicate (3 - (lg_sl ([.ref (a 1)])).length) Slot.unset).toArray = ls at hl ⊢
  exact wX4_parse ⟨B.exec, B.bytes, hml, findClass_of_methodNamed B.named, fun w hw => atoms_spec (ws := .code yX4_parse cX4_parse 3 none :: wsL_law) B.pre w (List.mem_cons_of_mem _ hw), B.returns, B.notSynchronized, hK, hDis, hN⟩ out σ s.heap [] ls ⟨hP, va_S.rf⟩ hl h
theorem kX4_parse (Cx : ms_C p s m args meth c D cA a shX cc nL own ret) {σ : Mm} {H : Heap} {locs : List Loc} (hI : ms_I D cA a shX s σ H locs) {out : Mm} (h : fX4_parse σ = some out) (hl : Cond.methodLink own idx yX4_parse ∈ wsL_law) (hf : 5 + 1 ≤ R.frames) (hlo : 8 + (3 + 11) + 109 ≤ R.locals) (hsz : ls.size = nL) (hW : (rest.map fun v => v.category).sum ≤ 8) (hd : decode cc pc = .ok (.invokevirtual idx, 3)) (kk : ∀ (H1 : Heap) (locs1 : List Loc), ms_I D cA a shX s out H1 locs1 → W p l e R s m args below meth c H1 locs1 0 0 Q (F0 m (pc + 3) ls (rest))) : W p l e R s m args below meth c H locs 0 0 Q (F0 m pc ls (.ref (a 1) :: rest)) :=
  ms_cv hI (ms_runV (av := []) Cx hI 1 shX_1 (ci := 4) rfl rfl yvX4_parse (metX4_parse l Cx.2.2.2.2.2.2.2.2.1  h) ⟨rfl, rfl⟩ hl ⟨hf, hlo⟩ rfl hsz rfl hW ⟨Nat.zero_le _, Nat.zero_le _⟩ hd) kk
/-! X5 note (II)V -/
theorem dX5_note_0 : decode cX5_note 0 = .ok (.aload_n 0, 1) := by decide +kernel
theorem dX5_note_1 : decode cX5_note 1 = .ok (.getfield 21, 3) := by decide +kernel
theorem dX5_note_4 : decode cX5_note 4 = .ok (.bipush 12, 2) := by decide +kernel
theorem dX5_note_6 : decode cX5_note 6 = .ok (.if_icmp .ge 38, 3) := by decide +kernel
theorem dX5_note_9 : decode cX5_note 9 = .ok (.aload_n 0, 1) := by decide +kernel
theorem dX5_note_10 : decode cX5_note 10 = .ok (.getfield 9, 3) := by decide +kernel
theorem dX5_note_13 : decode cX5_note 13 = .ok (.aload_n 0, 1) := by decide +kernel
theorem dX5_note_14 : decode cX5_note 14 = .ok (.getfield 21, 3) := by decide +kernel
theorem dX5_note_17 : decode cX5_note 17 = .ok (.iload_n 1, 1) := by decide +kernel
theorem dX5_note_18 : decode cX5_note 18 = .ok (.iastore, 1) := by decide +kernel
theorem dX5_note_19 : decode cX5_note 19 = .ok (.aload_n 0, 1) := by decide +kernel
theorem dX5_note_20 : decode cX5_note 20 = .ok (.getfield 15, 3) := by decide +kernel
theorem dX5_note_23 : decode cX5_note 23 = .ok (.aload_n 0, 1) := by decide +kernel
theorem dX5_note_24 : decode cX5_note 24 = .ok (.getfield 21, 3) := by decide +kernel
theorem dX5_note_27 : decode cX5_note 27 = .ok (.iload_n 2, 1) := by decide +kernel
theorem dX5_note_28 : decode cX5_note 28 = .ok (.iastore, 1) := by decide +kernel
theorem dX5_note_29 : decode cX5_note 29 = .ok (.aload_n 0, 1) := by decide +kernel
theorem dX5_note_30 : decode cX5_note 30 = .ok (.dup, 1) := by decide +kernel
theorem dX5_note_31 : decode cX5_note 31 = .ok (.getfield 21, 3) := by decide +kernel
theorem dX5_note_34 : decode cX5_note 34 = .ok (.iconst 1, 1) := by decide +kernel
theorem dX5_note_35 : decode cX5_note 35 = .ok (.iadd, 1) := by decide +kernel
theorem dX5_note_36 : decode cX5_note 36 = .ok (.putfield 21, 3) := by decide +kernel
theorem dX5_note_39 : decode cX5_note 39 = .ok (.aload_n 0, 1) := by decide +kernel
theorem dX5_note_40 : decode cX5_note 40 = .ok (.iconst 0, 1) := by decide +kernel
theorem dX5_note_41 : decode cX5_note 41 = .ok (.putfield 38, 3) := by decide +kernel
theorem dX5_note_44 : decode cX5_note 44 = .ok (.return_, 1) := by decide +kernel
abbrev rmX5_note : Room := { frames := 0, cells := 0, slots := 0, locals := 0 }
set_option maxHeartbeats 4000000 in
set_option maxRecDepth 100000 in
theorem wX5_note (Cx : ms_C p s m args meth c D cA a shX cX5_note 3 RX5 none) (out : Mm) : ∀ (p0 : Int32) (p1 : Int32) , ∀ (σ : Mm) (H : Heap) (locs : List Loc) (ls : Array Slot), ms_I D cA a shX s σ H locs → lv_has ls 3 [(0, .ref (a 22)), (1, .int p0), (2, .int p1)] → fX5_note p0 p1 σ = some out → W p l e rmX5_note s m args below meth c H locs 0 0 (MQ below (ms_Qv D cA a shX out) args s 0 0 (ms_A a shX.length)) (F0 m 0 ls []) := by
  have hx := Cx.1
  have hb := Cx.2.1
  intro p0 p1 σ H locs ls hI hl h
  unfold fX5_note at h
  refine lv_aload_n hx hb dX5_note_0 rfl (lv_at hl 0 rfl) ?_
  refine gi_X5_3 Cx hI wd_5_20 dX5_note_1 ?_
  refine lv_bipush (v := 12) hx hb dX5_note_4 rfl ?_
  refine lv_icmp_ge (tgt := 44) hx hb dX5_note_6 rfl (fun hc => ?_) (fun hc => ?_)
  · have h := ms_ifT hc h
    exact ms_rv Cx hI (Option.some.inj h) dX5_note_44
  · have h := ms_ifF hc h
    refine lv_aload_n hx hb dX5_note_9 rfl (lv_at hl 0 rfl) ?_
    refine gr_X5_0 Cx hI wd_5_17 dX5_note_10 ?_
    refine lv_aload_n hx hb dX5_note_13 rfl (lv_at hl 0 rfl) ?_
    refine gi_X5_3 Cx hI wd_5_20 dX5_note_14 ?_
    refine lv_iload_n hx hb dX5_note_17 rfl (lv_at hl 1 rfl) ?_
    obtain ⟨hg, h⟩ := ms_gE h
    refine ms_sto Cx hI 23 shX_23 hg dX5_note_18 (fun H locs σ1 eσ1 hI => ?_)
    have h := ms_ltE eσ1 h
    refine lv_aload_n hx hb dX5_note_19 rfl (lv_at hl 0 rfl) ?_
    refine gr_X5_1 Cx hI wd_5_18 dX5_note_20 ?_
    refine lv_aload_n hx hb dX5_note_23 rfl (lv_at hl 0 rfl) ?_
    refine gi_X5_3 Cx hI wd_5_20 dX5_note_24 ?_
    refine lv_iload_n hx hb dX5_note_27 rfl (lv_at hl 2 rfl) ?_
    obtain ⟨hg, h⟩ := ms_gE h
    refine ms_sto Cx hI 24 shX_24 hg dX5_note_28 (fun H locs σ2 eσ2 hI => ?_)
    have h := ms_ltE eσ2 h
    refine lv_aload_n hx hb dX5_note_29 rfl (lv_at hl 0 rfl) ?_
    refine lv_dup hx hb dX5_note_30 rfl ?_
    refine gi_X5_3 Cx hI wd_5_20 dX5_note_31 ?_
    refine lv_iconst (v := 1) hx hb dX5_note_34 rfl ?_
    refine lv_iadd hx hb dX5_note_35 ?_
    refine pi_X5_3 Cx hI wd_5_20 dX5_note_36 (fun H locs σ3 eσ3 hI => ?_)
    have h := ms_ltE eσ3 h
    refine lv_aload_n hx hb dX5_note_39 rfl (lv_at hl 0 rfl) ?_
    refine lv_iconst (v := 0) hx hb dX5_note_40 rfl ?_
    refine pi_X5_8 Cx hI (Or.inl rfl) wd_6_1 dX5_note_41 (fun H locs σ4 eσ4 hI => ?_)
    have h := ms_ltE eσ4 h
    exact ms_rv Cx hI (Option.some.inj h) dX5_note_44
theorem yvX5_note : ms_YV yX5_note RX5 cX5_note 3 none 2 := ⟨wd_33_6, wd_33_7, wd_2_21, wd_33_8, rfl, by decide +kernel, by decide +kernel, by decide +kernel⟩
set_option maxHeartbeats 4000000 in
theorem metX5_note (l : Launch) (hDis : ms_Dis a shX.length) {σ : Mm} {p0 : Int32} {p1 : Int32} {out : Mm} (h : fX5_note p0 p1 σ = some out) : Met l yX5_note (.code yX5_note cX5_note 3 none :: wsL_law) rmX5_note (ms_Pc D cA a shX [.ref (a 22), .int p0, .int p1] σ) (ms_Qv D cA a shX out) 0 0 (ms_A a shX.length) := by
  refine Met.ofW (cc := cX5_note) (maxL := 3) (ret := none) (by decide) rfl ?_
  intro p e s m args below meth c s₁ B hml hv
  obtain ⟨rfl, hK, hN, hP⟩ := hv
  have hl := lv_entry ([.ref (a 22), .int p0, .int p1]) (n := 3) (Nat.le_of_ble_eq_true rfl)
  rw [lg_entry_eq]
  generalize (lg_sl ([.ref (a 22), .int p0, .int p1]) ++ List.replicate (3 - (lg_sl ([.ref (a 22), .int p0, .int p1])).length) Slot.unset).toArray = ls at hl ⊢
  exact wX5_note ⟨B.exec, B.bytes, hml, findClass_of_methodNamed B.named, fun w hw => atoms_spec (ws := .code yX5_note cX5_note 3 none :: wsL_law) B.pre w (List.mem_cons_of_mem _ hw), B.returns, B.notSynchronized, hK, hDis, hN⟩ out p0 p1 σ s.heap [] ls ⟨hP, va_S.rf⟩ hl h
theorem kX5_note (Cx : ms_C p s m args meth c D cA a shX cc nL own ret) {σ : Mm} {H : Heap} {locs : List Loc} (hI : ms_I D cA a shX s σ H locs) {p0 : Int32} {p1 : Int32} {out : Mm} (h : fX5_note p0 p1 σ = some out) (hl : Cond.methodLink own idx yX5_note ∈ wsL_law) (hf : 0 + 1 ≤ R.frames) (hlo : 8 + (3 + 11) + 0 ≤ R.locals) (hsz : ls.size = nL) (hW : (rest.map fun v => v.category).sum ≤ 8) (hd : decode cc pc = .ok (.invokevirtual idx, 3)) (kk : ∀ (H1 : Heap) (locs1 : List Loc), ms_I D cA a shX s out H1 locs1 → W p l e R s m args below meth c H1 locs1 0 0 Q (F0 m (pc + 3) ls (rest))) : W p l e R s m args below meth c H locs 0 0 Q (F0 m pc ls (.int p1 :: .int p0 :: .ref (a 22) :: rest)) :=
  ms_cv hI (ms_runV (av := [.int p0, .int p1]) Cx hI 22 shX_22 (ci := 5) rfl rfl yvX5_note (metX5_note l Cx.2.2.2.2.2.2.2.2.1  h) ⟨rfl, rfl⟩ hl ⟨hf, hlo⟩ rfl hsz rfl hW ⟨Nat.zero_le _, Nat.zero_le _⟩ hd) kk
/-! X5 clearNotes ()V -/
theorem dX5_clearNotes_0 : decode cX5_clearNotes 0 = .ok (.aload_n 0, 1) := by decide +kernel
theorem dX5_clearNotes_1 : decode cX5_clearNotes 1 = .ok (.iconst 0, 1) := by decide +kernel
theorem dX5_clearNotes_2 : decode cX5_clearNotes 2 = .ok (.putfield 21, 3) := by decide +kernel
theorem dX5_clearNotes_5 : decode cX5_clearNotes 5 = .ok (.aload_n 0, 1) := by decide +kernel
theorem dX5_clearNotes_6 : decode cX5_clearNotes 6 = .ok (.iconst 0, 1) := by decide +kernel
theorem dX5_clearNotes_7 : decode cX5_clearNotes 7 = .ok (.putfield 38, 3) := by decide +kernel
theorem dX5_clearNotes_10 : decode cX5_clearNotes 10 = .ok (.return_, 1) := by decide +kernel
abbrev rmX5_clearNotes : Room := { frames := 0, cells := 0, slots := 0, locals := 0 }
set_option maxHeartbeats 4000000 in
set_option maxRecDepth 100000 in
theorem wX5_clearNotes (Cx : ms_C p s m args meth c D cA a shX cX5_clearNotes 1 RX5 none) (out : Mm) : ∀ (σ : Mm) (H : Heap) (locs : List Loc) (ls : Array Slot), ms_I D cA a shX s σ H locs → lv_has ls 1 [(0, .ref (a 22))] → fX5_clearNotes σ = some out → W p l e rmX5_clearNotes s m args below meth c H locs 0 0 (MQ below (ms_Qv D cA a shX out) args s 0 0 (ms_A a shX.length)) (F0 m 0 ls []) := by
  have hx := Cx.1
  have hb := Cx.2.1
  intro σ H locs ls hI hl h
  unfold fX5_clearNotes at h
  refine lv_aload_n hx hb dX5_clearNotes_0 rfl (lv_at hl 0 rfl) ?_
  refine lv_iconst (v := 0) hx hb dX5_clearNotes_1 rfl ?_
  refine pi_X5_3 Cx hI wd_5_20 dX5_clearNotes_2 (fun H locs σ1 eσ1 hI => ?_)
  have h := ms_ltE eσ1 h
  refine lv_aload_n hx hb dX5_clearNotes_5 rfl (lv_at hl 0 rfl) ?_
  refine lv_iconst (v := 0) hx hb dX5_clearNotes_6 rfl ?_
  refine pi_X5_8 Cx hI (Or.inl rfl) wd_6_1 dX5_clearNotes_7 (fun H locs σ2 eσ2 hI => ?_)
  have h := ms_ltE eσ2 h
  exact ms_rv Cx hI (Option.some.inj h) dX5_clearNotes_10
theorem yvX5_clearNotes : ms_YV yX5_clearNotes RX5 cX5_clearNotes 1 none 0 := ⟨wd_33_19, wd_33_20, wd_2_21, wd_33_21, rfl, by decide +kernel, by decide +kernel, by decide +kernel⟩
set_option maxHeartbeats 4000000 in
theorem metX5_clearNotes (l : Launch) (hDis : ms_Dis a shX.length) {σ : Mm} {out : Mm} (h : fX5_clearNotes σ = some out) : Met l yX5_clearNotes (.code yX5_clearNotes cX5_clearNotes 1 none :: wsL_law) rmX5_clearNotes (ms_Pc D cA a shX [.ref (a 22)] σ) (ms_Qv D cA a shX out) 0 0 (ms_A a shX.length) := by
  refine Met.ofW (cc := cX5_clearNotes) (maxL := 1) (ret := none) (by decide) rfl ?_
  intro p e s m args below meth c s₁ B hml hv
  obtain ⟨rfl, hK, hN, hP⟩ := hv
  have hl := lv_entry ([.ref (a 22)]) (n := 1) (Nat.le_of_ble_eq_true rfl)
  rw [lg_entry_eq]
  generalize (lg_sl ([.ref (a 22)]) ++ List.replicate (1 - (lg_sl ([.ref (a 22)])).length) Slot.unset).toArray = ls at hl ⊢
  exact wX5_clearNotes ⟨B.exec, B.bytes, hml, findClass_of_methodNamed B.named, fun w hw => atoms_spec (ws := .code yX5_clearNotes cX5_clearNotes 1 none :: wsL_law) B.pre w (List.mem_cons_of_mem _ hw), B.returns, B.notSynchronized, hK, hDis, hN⟩ out σ s.heap [] ls ⟨hP, va_S.rf⟩ hl h
theorem kX5_clearNotes (Cx : ms_C p s m args meth c D cA a shX cc nL own ret) {σ : Mm} {H : Heap} {locs : List Loc} (hI : ms_I D cA a shX s σ H locs) {out : Mm} (h : fX5_clearNotes σ = some out) (hl : Cond.methodLink own idx yX5_clearNotes ∈ wsL_law) (hf : 0 + 1 ≤ R.frames) (hlo : 8 + (1 + 11) + 0 ≤ R.locals) (hsz : ls.size = nL) (hW : (rest.map fun v => v.category).sum ≤ 8) (hd : decode cc pc = .ok (.invokevirtual idx, 3)) (kk : ∀ (H1 : Heap) (locs1 : List Loc), ms_I D cA a shX s out H1 locs1 → W p l e R s m args below meth c H1 locs1 0 0 Q (F0 m (pc + 3) ls (rest))) : W p l e R s m args below meth c H locs 0 0 Q (F0 m pc ls (.ref (a 22) :: rest)) :=
  ms_cv hI (ms_runV (av := []) Cx hI 22 shX_22 (ci := 5) rfl rfl yvX5_clearNotes (metX5_clearNotes l Cx.2.2.2.2.2.2.2.2.1  h) ⟨rfl, rfl⟩ hl ⟨hf, hlo⟩ rfl hsz rfl hW ⟨Nat.zero_le _, Nat.zero_le _⟩ hd) kk
/-! X5 differing ([I)I -/
theorem dX5_differing_0 : decode cX5_differing 0 = .ok (.iconst 0, 1) := by decide +kernel
theorem dX5_differing_1 : decode cX5_differing 1 = .ok (.istore_n 2, 1) := by decide +kernel
theorem dX5_differing_2 : decode cX5_differing 2 = .ok (.iconst 0, 1) := by decide +kernel
theorem dX5_differing_3 : decode cX5_differing 3 = .ok (.istore_n 3, 1) := by decide +kernel
theorem dX5_differing_4 : decode cX5_differing 4 = .ok (.iload_n 3, 1) := by decide +kernel
theorem dX5_differing_5 : decode cX5_differing 5 = .ok (.aload_n 0, 1) := by decide +kernel
theorem dX5_differing_6 : decode cX5_differing 6 = .ok (.getfield 21, 3) := by decide +kernel
theorem dX5_differing_9 : decode cX5_differing 9 = .ok (.if_icmp .ge 34, 3) := by decide +kernel
theorem dX5_differing_12 : decode cX5_differing 12 = .ok (.iload_n 2, 1) := by decide +kernel
theorem dX5_differing_13 : decode cX5_differing 13 = .ok (.aload_n 1, 1) := by decide +kernel
theorem dX5_differing_14 : decode cX5_differing 14 = .ok (.aload_n 0, 1) := by decide +kernel
theorem dX5_differing_15 : decode cX5_differing 15 = .ok (.getfield 9, 3) := by decide +kernel
theorem dX5_differing_18 : decode cX5_differing 18 = .ok (.iload_n 3, 1) := by decide +kernel
theorem dX5_differing_19 : decode cX5_differing 19 = .ok (.iaload, 1) := by decide +kernel
theorem dX5_differing_20 : decode cX5_differing 20 = .ok (.iaload, 1) := by decide +kernel
theorem dX5_differing_21 : decode cX5_differing 21 = .ok (.aload_n 0, 1) := by decide +kernel
theorem dX5_differing_22 : decode cX5_differing 22 = .ok (.getfield 15, 3) := by decide +kernel
theorem dX5_differing_25 : decode cX5_differing 25 = .ok (.iload_n 3, 1) := by decide +kernel
theorem dX5_differing_26 : decode cX5_differing 26 = .ok (.iaload, 1) := by decide +kernel
theorem dX5_differing_27 : decode cX5_differing 27 = .ok (.if_icmp .ne 7, 3) := by decide +kernel
theorem dX5_differing_30 : decode cX5_differing 30 = .ok (.iconst 0, 1) := by decide +kernel
theorem dX5_differing_31 : decode cX5_differing 31 = .ok (.goto 4, 3) := by decide +kernel
theorem dX5_differing_34 : decode cX5_differing 34 = .ok (.iconst 1, 1) := by decide +kernel
theorem dX5_differing_35 : decode cX5_differing 35 = .ok (.iadd, 1) := by decide +kernel
theorem dX5_differing_36 : decode cX5_differing 36 = .ok (.istore_n 2, 1) := by decide +kernel
theorem dX5_differing_37 : decode cX5_differing 37 = .ok (.iinc 3 1, 3) := by decide +kernel
theorem dX5_differing_40 : decode cX5_differing 40 = .ok (.goto (-36), 3) := by decide +kernel
theorem dX5_differing_43 : decode cX5_differing 43 = .ok (.iload_n 2, 1) := by decide +kernel
theorem dX5_differing_44 : decode cX5_differing 44 = .ok (.ireturn, 1) := by decide +kernel
abbrev rmX5_differing : Room := { frames := 0, cells := 0, slots := 0, locals := 0 }
set_option maxHeartbeats 4000000 in
set_option maxRecDepth 100000 in
theorem wX5_differing_35 (Cx : ms_C p s m args meth c D cA a shX cX5_differing 4 RX5 (some .int)) (out : Int32) {σ : Mm} (K4 : Int32 → Int32 → Option (Int32)) (hK4 : ∀ (y1 : Int32) (y2 : Int32) , ∀ (H : Heap) (locs : List Loc) (ls : Array Slot), ms_I D cA a shX s σ H locs → lv_has ls 4 [(0, .ref (a 22)), (1, .ref (a 13)), (2, .int y1), (3, .int y2)] → K4 y1 y2 = some out → W p l e rmX5_differing s m args below meth c H locs 0 0 (MQ below (ms_Qi D cA a shX out σ) args s 0 0 (ms_A a shX.length)) (F0 m 4 ls [])) : ∀ (y1 : Int32) (y2 : Int32) (y3 : Int32) , ∀ (H : Heap) (locs : List Loc) (ls : Array Slot), ms_I D cA a shX s σ H locs → lv_has ls 4 [(0, .ref (a 22)), (1, .ref (a 13)), (3, .int y1)] → fX5_differing_35 σ K4 y1 y2 y3 = some out → W p l e rmX5_differing s m args below meth c H locs 0 0 (MQ below (ms_Qi D cA a shX out σ) args s 0 0 (ms_A a shX.length)) (F0 m 35 ls [.int y2, .int y3]) := by
  have hx := Cx.1
  have hb := Cx.2.1
  intro y1 y2 y3 H locs ls hI hl h
  unfold fX5_differing_35 at h
  refine lv_iadd hx hb dX5_differing_35 ?_
  refine lv_istore_n (lv' := [(2, .int (y3 + y2)), (0, .ref (a 22)), (1, .ref (a 13)), (3, .int y1)]) hx hb dX5_differing_36 rfl hl (by decide) rfl (fun ls hl => ?_)
  refine lv_iinc (v := y1 + 1) (lv' := [(3, .int (y1 + 1)), (2, .int (y3 + y2)), (0, .ref (a 22)), (1, .ref (a 13))]) hx hb dX5_differing_37 hl (k := 3) rfl rfl (by decide) rfl (fun ls hl => ?_)
  refine lv_goto (tgt := 4) hx hb dX5_differing_40 rfl ?_
  exact hK4 (y3 + y2) (y1 + 1) _ _ _ hI (lv_sub hl [2, 3, 1, 0] rfl) h
set_option maxHeartbeats 4000000 in
set_option maxRecDepth 100000 in
theorem wX5_differing_4 (Cx : ms_C p s m args meth c D cA a shX cX5_differing 4 RX5 (some .int)) (out : Int32) {σ : Mm} : ∀ (n : Nat), ∀ (y1 : Int32) (y2 : Int32) , ∀ (H : Heap) (locs : List Loc) (ls : Array Slot), ms_I D cA a shX s σ H locs → lv_has ls 4 [(0, .ref (a 22)), (1, .ref (a 13)), (2, .int y1), (3, .int y2)] → fX5_differing_4 σ n y1 y2 = some out → W p l e rmX5_differing s m args below meth c H locs 0 0 (MQ below (ms_Qi D cA a shX out σ) args s 0 0 (ms_A a shX.length)) (F0 m 4 ls []) := by
  have hx := Cx.1
  have hb := Cx.2.1
  intro n
  induction n with
  | zero =>
    intro y1 y2 H locs ls hI hl h
    exact nomatch (show none = some out from h)
  | succ n ih =>
    intro y1 y2 H locs ls hI hl h
    rw [fX5_differing_4] at h
    refine lv_iload_n hx hb dX5_differing_4 rfl (lv_at hl 3 rfl) ?_
    refine lv_aload_n hx hb dX5_differing_5 rfl (lv_at hl 0 rfl) ?_
    refine gi_X5_3 Cx hI wd_5_20 dX5_differing_6 ?_
    refine lv_icmp_ge (tgt := 43) hx hb dX5_differing_9 rfl (fun hc => ?_) (fun hc => ?_)
    · have h := ms_ifT hc h
      refine lv_iload_n hx hb dX5_differing_43 rfl (lv_at hl 2 rfl) ?_
      exact ms_ri Cx hI (Option.some.inj h) rfl dX5_differing_44
    · have h := ms_ifF hc h
      refine lv_iload_n hx hb dX5_differing_12 rfl (lv_at hl 2 rfl) ?_
      refine lv_aload_n hx hb dX5_differing_13 rfl (lv_at hl 1 rfl) ?_
      refine lv_aload_n hx hb dX5_differing_14 rfl (lv_at hl 0 rfl) ?_
      refine gr_X5_0 Cx hI wd_5_17 dX5_differing_15 ?_
      refine lv_iload_n hx hb dX5_differing_18 rfl (lv_at hl 3 rfl) ?_
      obtain ⟨hg, h⟩ := ms_gE h
      refine ms_ld Cx hI 23 shX_23 hg dX5_differing_19 ?_
      obtain ⟨hg, h⟩ := ms_gE h
      refine ms_ld Cx hI 13 shX_13 hg dX5_differing_20 ?_
      refine lv_aload_n hx hb dX5_differing_21 rfl (lv_at hl 0 rfl) ?_
      refine gr_X5_1 Cx hI wd_5_18 dX5_differing_22 ?_
      refine lv_iload_n hx hb dX5_differing_25 rfl (lv_at hl 3 rfl) ?_
      obtain ⟨hg, h⟩ := ms_gE h
      refine ms_ld Cx hI 24 shX_24 hg dX5_differing_26 ?_
      refine lv_icmp_ne (tgt := 34) hx hb dX5_differing_27 rfl (fun hc => ?_) (fun hc => ?_)
      · have h := ms_ifF hc h
        refine lv_iconst (v := 1) hx hb dX5_differing_34 rfl ?_
        exact wX5_differing_35 Cx out (fX5_differing_4 σ n) ih y2 1 y1 _ _ _ hI (lv_sub hl [0, 1, 3] rfl) h
      · have h := ms_ifT hc h
        refine lv_iconst (v := 0) hx hb dX5_differing_30 rfl ?_
        refine lv_goto (tgt := 35) hx hb dX5_differing_31 rfl ?_
        exact wX5_differing_35 Cx out (fX5_differing_4 σ n) ih y2 0 y1 _ _ _ hI (lv_sub hl [0, 1, 3] rfl) h
set_option maxHeartbeats 4000000 in
set_option maxRecDepth 100000 in
theorem wX5_differing (Cx : ms_C p s m args meth c D cA a shX cX5_differing 4 RX5 (some .int)) (out : Int32) {σ : Mm} : ∀ (H : Heap) (locs : List Loc) (ls : Array Slot), ms_I D cA a shX s σ H locs → lv_has ls 4 [(0, .ref (a 22)), (1, .ref (a 13))] → fX5_differing σ = some out → W p l e rmX5_differing s m args below meth c H locs 0 0 (MQ below (ms_Qi D cA a shX out σ) args s 0 0 (ms_A a shX.length)) (F0 m 0 ls []) := by
  have hx := Cx.1
  have hb := Cx.2.1
  intro H locs ls hI hl h
  unfold fX5_differing at h
  refine lv_iconst (v := 0) hx hb dX5_differing_0 rfl ?_
  refine lv_istore_n (lv' := [(2, .int 0), (0, .ref (a 22)), (1, .ref (a 13))]) hx hb dX5_differing_1 rfl hl (by decide) rfl (fun ls hl => ?_)
  refine lv_iconst (v := 0) hx hb dX5_differing_2 rfl ?_
  refine lv_istore_n (lv' := [(3, .int 0), (2, .int 0), (0, .ref (a 22)), (1, .ref (a 13))]) hx hb dX5_differing_3 rfl hl (by decide) rfl (fun ls hl => ?_)
  exact wX5_differing_4 Cx out  ms_fu 0 0 _ _ _ hI (lv_sub hl [2, 3, 1, 0] rfl) h
theorem yvX5_differing : ms_YV yX5_differing RX5 cX5_differing 4 (some .int) 1 := ⟨wd_34_7, wd_34_8, wd_2_21, wd_34_9, rfl, by decide +kernel, by decide +kernel, by decide +kernel⟩
set_option maxHeartbeats 4000000 in
theorem metX5_differing (l : Launch) (hDis : ms_Dis a shX.length) {σ : Mm} {out : Int32} (h : fX5_differing σ = some out) : Met l yX5_differing (.code yX5_differing cX5_differing 4 (some .int) :: wsL_law) rmX5_differing (ms_Pc D cA a shX [.ref (a 22), .ref (a 13)] σ) (ms_Qi D cA a shX out σ) 0 0 (ms_A a shX.length) := by
  refine Met.ofW (cc := cX5_differing) (maxL := 4) (ret := (some .int)) (by decide) rfl ?_
  intro p e s m args below meth c s₁ B hml hv
  obtain ⟨rfl, hK, hN, hP⟩ := hv
  have hl := lv_entry ([.ref (a 22), .ref (a 13)]) (n := 4) (Nat.le_of_ble_eq_true rfl)
  rw [lg_entry_eq]
  generalize (lg_sl ([.ref (a 22), .ref (a 13)]) ++ List.replicate (4 - (lg_sl ([.ref (a 22), .ref (a 13)])).length) Slot.unset).toArray = ls at hl ⊢
  exact wX5_differing ⟨B.exec, B.bytes, hml, findClass_of_methodNamed B.named, fun w hw => atoms_spec (ws := .code yX5_differing cX5_differing 4 (some .int) :: wsL_law) B.pre w (List.mem_cons_of_mem _ hw), B.returns, B.notSynchronized, hK, hDis, hN⟩ out  s.heap [] ls ⟨hP, va_S.rf⟩ hl h
theorem kX5_differing (Cx : ms_C p s m args meth c D cA a shX cc nL own ret) {σ : Mm} {H : Heap} {locs : List Loc} (hI : ms_I D cA a shX s σ H locs) {out : Int32} (h : fX5_differing σ = some out) (hl : Cond.methodLink own idx yX5_differing ∈ wsL_law) (hf : 0 + 1 ≤ R.frames) (hlo : 8 + (4 + 11) + 0 ≤ R.locals) (hsz : ls.size = nL) (hW : (rest.map fun v => v.category).sum ≤ 8) (hd : decode cc pc = .ok (.invokevirtual idx, 3)) (kk : ∀ (H1 : Heap) (locs1 : List Loc), ms_I D cA a shX s σ H1 locs1 → W p l e R s m args below meth c H1 locs1 0 0 Q (F0 m (pc + 3) ls (.int out :: rest))) : W p l e R s m args below meth c H locs 0 0 Q (F0 m pc ls (.ref (a 13) :: .ref (a 22) :: rest)) :=
  ms_ci hI (ms_runV (av := [.ref (a 13)]) Cx hI 22 shX_22 (ci := 5) rfl rfl yvX5_differing (metX5_differing l Cx.2.2.2.2.2.2.2.2.1  h) ⟨rfl, rfl⟩ hl ⟨hf, hlo⟩ rfl hsz rfl hW ⟨Nat.zero_le _, Nat.zero_le _⟩ hd) kk
/-! X5 layDue ()V -/
theorem dX5_layDue_0 : decode cX5_layDue 0 = .ok (.aload_n 0, 1) := by decide +kernel
theorem dX5_layDue_1 : decode cX5_layDue 1 = .ok (.getfield 18, 3) := by decide +kernel
theorem dX5_layDue_4 : decode cX5_layDue 4 = .ok (.iconst (-1), 1) := by decide +kernel
theorem dX5_layDue_5 : decode cX5_layDue 5 = .ok (.invokestatic 54, 3) := by decide +kernel
theorem dX5_layDue_8 : decode cX5_layDue 8 = .ok (.aload_n 0, 1) := by decide +kernel
theorem dX5_layDue_9 : decode cX5_layDue 9 = .ok (.iconst 0, 1) := by decide +kernel
theorem dX5_layDue_10 : decode cX5_layDue 10 = .ok (.putfield 25, 3) := by decide +kernel
theorem dX5_layDue_13 : decode cX5_layDue 13 = .ok (.aload_n 0, 1) := by decide +kernel
theorem dX5_layDue_14 : decode cX5_layDue 14 = .ok (.iconst 0, 1) := by decide +kernel
theorem dX5_layDue_15 : decode cX5_layDue 15 = .ok (.putfield 28, 3) := by decide +kernel
theorem dX5_layDue_18 : decode cX5_layDue 18 = .ok (.iconst 0, 1) := by decide +kernel
theorem dX5_layDue_19 : decode cX5_layDue 19 = .ok (.istore_n 1, 1) := by decide +kernel
theorem dX5_layDue_20 : decode cX5_layDue 20 = .ok (.iload_n 1, 1) := by decide +kernel
theorem dX5_layDue_21 : decode cX5_layDue 21 = .ok (.aload_n 0, 1) := by decide +kernel
theorem dX5_layDue_22 : decode cX5_layDue 22 = .ok (.getfield 21, 3) := by decide +kernel
theorem dX5_layDue_25 : decode cX5_layDue 25 = .ok (.if_icmp .ge 83, 3) := by decide +kernel
theorem dX5_layDue_28 : decode cX5_layDue 28 = .ok (.aload_n 0, 1) := by decide +kernel
theorem dX5_layDue_29 : decode cX5_layDue 29 = .ok (.getfield 9, 3) := by decide +kernel
theorem dX5_layDue_32 : decode cX5_layDue 32 = .ok (.iload_n 1, 1) := by decide +kernel
theorem dX5_layDue_33 : decode cX5_layDue 33 = .ok (.iaload, 1) := by decide +kernel
theorem dX5_layDue_34 : decode cX5_layDue 34 = .ok (.istore_n 2, 1) := by decide +kernel
theorem dX5_layDue_35 : decode cX5_layDue 35 = .ok (.aload_n 0, 1) := by decide +kernel
theorem dX5_layDue_36 : decode cX5_layDue 36 = .ok (.aload_n 0, 1) := by decide +kernel
theorem dX5_layDue_37 : decode cX5_layDue 37 = .ok (.getfield 28, 3) := by decide +kernel
theorem dX5_layDue_40 : decode cX5_layDue 40 = .ok (.ifCond .ne 28, 3) := by decide +kernel
theorem dX5_layDue_43 : decode cX5_layDue 43 = .ok (.aload_n 0, 1) := by decide +kernel
theorem dX5_layDue_44 : decode cX5_layDue 44 = .ok (.getfield 18, 3) := by decide +kernel
theorem dX5_layDue_47 : decode cX5_layDue 47 = .ok (.iload_n 2, 1) := by decide +kernel
theorem dX5_layDue_48 : decode cX5_layDue 48 = .ok (.iaload, 1) := by decide +kernel
theorem dX5_layDue_49 : decode cX5_layDue 49 = .ok (.iconst (-1), 1) := by decide +kernel
theorem dX5_layDue_50 : decode cX5_layDue 50 = .ok (.if_icmp .eq 22, 3) := by decide +kernel
theorem dX5_layDue_53 : decode cX5_layDue 53 = .ok (.aload_n 0, 1) := by decide +kernel
theorem dX5_layDue_54 : decode cX5_layDue 54 = .ok (.getfield 18, 3) := by decide +kernel
theorem dX5_layDue_57 : decode cX5_layDue 57 = .ok (.iload_n 2, 1) := by decide +kernel
theorem dX5_layDue_58 : decode cX5_layDue 58 = .ok (.iaload, 1) := by decide +kernel
theorem dX5_layDue_59 : decode cX5_layDue 59 = .ok (.aload_n 0, 1) := by decide +kernel
theorem dX5_layDue_60 : decode cX5_layDue 60 = .ok (.getfield 15, 3) := by decide +kernel
theorem dX5_layDue_63 : decode cX5_layDue 63 = .ok (.iload_n 1, 1) := by decide +kernel
theorem dX5_layDue_64 : decode cX5_layDue 64 = .ok (.iaload, 1) := by decide +kernel
theorem dX5_layDue_65 : decode cX5_layDue 65 = .ok (.if_icmp .eq 7, 3) := by decide +kernel
theorem dX5_layDue_68 : decode cX5_layDue 68 = .ok (.iconst 1, 1) := by decide +kernel
theorem dX5_layDue_69 : decode cX5_layDue 69 = .ok (.goto 4, 3) := by decide +kernel
theorem dX5_layDue_72 : decode cX5_layDue 72 = .ok (.iconst 0, 1) := by decide +kernel
theorem dX5_layDue_73 : decode cX5_layDue 73 = .ok (.putfield 28, 3) := by decide +kernel
theorem dX5_layDue_76 : decode cX5_layDue 76 = .ok (.aload_n 0, 1) := by decide +kernel
theorem dX5_layDue_77 : decode cX5_layDue 77 = .ok (.getfield 18, 3) := by decide +kernel
theorem dX5_layDue_80 : decode cX5_layDue 80 = .ok (.iload_n 2, 1) := by decide +kernel
theorem dX5_layDue_81 : decode cX5_layDue 81 = .ok (.aload_n 0, 1) := by decide +kernel
theorem dX5_layDue_82 : decode cX5_layDue 82 = .ok (.getfield 15, 3) := by decide +kernel
theorem dX5_layDue_85 : decode cX5_layDue 85 = .ok (.iload_n 1, 1) := by decide +kernel
theorem dX5_layDue_86 : decode cX5_layDue 86 = .ok (.iaload, 1) := by decide +kernel
theorem dX5_layDue_87 : decode cX5_layDue 87 = .ok (.iastore, 1) := by decide +kernel
theorem dX5_layDue_88 : decode cX5_layDue 88 = .ok (.aload_n 0, 1) := by decide +kernel
theorem dX5_layDue_89 : decode cX5_layDue 89 = .ok (.aload_n 0, 1) := by decide +kernel
theorem dX5_layDue_90 : decode cX5_layDue 90 = .ok (.getfield 25, 3) := by decide +kernel
theorem dX5_layDue_93 : decode cX5_layDue 93 = .ok (.iload_n 2, 1) := by decide +kernel
theorem dX5_layDue_94 : decode cX5_layDue 94 = .ok (.iconst 1, 1) := by decide +kernel
theorem dX5_layDue_95 : decode cX5_layDue 95 = .ok (.iadd, 1) := by decide +kernel
theorem dX5_layDue_96 : decode cX5_layDue 96 = .ok (.invokestatic 60, 3) := by decide +kernel
theorem dX5_layDue_99 : decode cX5_layDue 99 = .ok (.putfield 25, 3) := by decide +kernel
theorem dX5_layDue_102 : decode cX5_layDue 102 = .ok (.iinc 1 1, 3) := by decide +kernel
theorem dX5_layDue_105 : decode cX5_layDue 105 = .ok (.goto (-85), 3) := by decide +kernel
theorem dX5_layDue_108 : decode cX5_layDue 108 = .ok (.return_, 1) := by decide +kernel
abbrev rmX5_layDue : Room := { frames := 1, cells := 0, slots := 0, locals := 23 }
set_option maxHeartbeats 4000000 in
set_option maxRecDepth 100000 in
theorem wX5_layDue_73 (Cx : ms_C p s m args meth c D cA a shX cX5_layDue 3 RX5 none) (out : Mm) (K20 : Int32 → Mm → Option (Mm)) (hK20 : ∀ (y1 : Int32) , ∀ (σ : Mm) (H : Heap) (locs : List Loc) (ls : Array Slot), ms_I D cA a shX s σ H locs → lv_has ls 3 [(0, .ref (a 22)), (1, .int y1)] → K20 y1 σ = some out → W p l e rmX5_layDue s m args below meth c H locs 0 0 (MQ below (ms_Qv D cA a shX out) args s 0 0 (ms_A a shX.length)) (F0 m 20 ls [])) : ∀ (y1 : Int32) (y2 : Int32) (y3 : Int32) , ∀ (σ : Mm) (H : Heap) (locs : List Loc) (ls : Array Slot), ms_I D cA a shX s σ H locs → lv_has ls 3 [(0, .ref (a 22)), (1, .int y1), (2, .int y2)] → fX5_layDue_73 K20 y1 y2 y3 σ = some out → W p l e rmX5_layDue s m args below meth c H locs 0 0 (MQ below (ms_Qv D cA a shX out) args s 0 0 (ms_A a shX.length)) (F0 m 73 ls [.int y3, .ref (a 22)]) := by
  have hx := Cx.1
  have hb := Cx.2.1
  intro y1 y2 y3 σ H locs ls hI hl h
  unfold fX5_layDue_73 at h
  obtain ⟨hg, h⟩ := ms_gE h
  refine pi_X5_5 Cx hI hg wd_5_22 dX5_layDue_73 (fun H locs σ1 eσ1 hI => ?_)
  have h := ms_ltE eσ1 h
  refine lv_aload_n hx hb dX5_layDue_76 rfl (lv_at hl 0 rfl) ?_
  refine gr_X5_2 Cx hI wd_5_19 dX5_layDue_77 ?_
  refine lv_iload_n hx hb dX5_layDue_80 rfl (lv_at hl 2 rfl) ?_
  refine lv_aload_n hx hb dX5_layDue_81 rfl (lv_at hl 0 rfl) ?_
  refine gr_X5_1 Cx hI wd_5_18 dX5_layDue_82 ?_
  refine lv_iload_n hx hb dX5_layDue_85 rfl (lv_at hl 1 rfl) ?_
  obtain ⟨hg, h⟩ := ms_gE h
  refine ms_ld Cx hI 24 shX_24 hg dX5_layDue_86 ?_
  obtain ⟨hg, h⟩ := ms_gE h
  refine ms_sto Cx hI 25 shX_25 hg dX5_layDue_87 (fun H locs σ2 eσ2 hI => ?_)
  have h := ms_ltE eσ2 h
  refine lv_aload_n hx hb dX5_layDue_88 rfl (lv_at hl 0 rfl) ?_
  refine lv_aload_n hx hb dX5_layDue_89 rfl (lv_at hl 0 rfl) ?_
  refine gi_X5_4 Cx hI wd_5_21 dX5_layDue_90 ?_
  refine lv_iload_n hx hb dX5_layDue_93 rfl (lv_at hl 2 rfl) ?_
  refine lv_iconst (v := 1) hx hb dX5_layDue_94 rfl ?_
  refine lv_iadd hx hb dX5_layDue_95 ?_
  refine ms_max Cx wd_35_12 hl.1 (Nat.le_of_ble_eq_true rfl) (Nat.le_of_ble_eq_true rfl) ⟨Nat.zero_le _, Nat.zero_le _⟩ dX5_layDue_96 ?_
  refine pi_X5_4 Cx hI wd_5_21 dX5_layDue_99 (fun H locs σ3 eσ3 hI => ?_)
  have h := ms_ltE eσ3 h
  refine lv_iinc (v := y1 + 1) (lv' := [(1, .int (y1 + 1)), (0, .ref (a 22)), (2, .int y2)]) hx hb dX5_layDue_102 hl (k := 1) rfl rfl (by decide) rfl (fun ls hl => ?_)
  refine lv_goto (tgt := 20) hx hb dX5_layDue_105 rfl ?_
  exact hK20 (y1 + 1) σ3 _ _ _ hI (lv_sub hl [1, 0] rfl) h
set_option maxHeartbeats 4000000 in
set_option maxRecDepth 100000 in
theorem wX5_layDue_68 (Cx : ms_C p s m args meth c D cA a shX cX5_layDue 3 RX5 none) (out : Mm) (K20 : Int32 → Mm → Option (Mm)) (hK20 : ∀ (y1 : Int32) , ∀ (σ : Mm) (H : Heap) (locs : List Loc) (ls : Array Slot), ms_I D cA a shX s σ H locs → lv_has ls 3 [(0, .ref (a 22)), (1, .int y1)] → K20 y1 σ = some out → W p l e rmX5_layDue s m args below meth c H locs 0 0 (MQ below (ms_Qv D cA a shX out) args s 0 0 (ms_A a shX.length)) (F0 m 20 ls [])) : ∀ (y1 : Int32) (y2 : Int32) , ∀ (σ : Mm) (H : Heap) (locs : List Loc) (ls : Array Slot), ms_I D cA a shX s σ H locs → lv_has ls 3 [(0, .ref (a 22)), (1, .int y1), (2, .int y2)] → fX5_layDue_68 K20 y1 y2 σ = some out → W p l e rmX5_layDue s m args below meth c H locs 0 0 (MQ below (ms_Qv D cA a shX out) args s 0 0 (ms_A a shX.length)) (F0 m 68 ls [.ref (a 22)]) := by
  have hx := Cx.1
  have hb := Cx.2.1
  intro y1 y2 σ H locs ls hI hl h
  unfold fX5_layDue_68 at h
  refine lv_iconst (v := 1) hx hb dX5_layDue_68 rfl ?_
  refine lv_goto (tgt := 73) hx hb dX5_layDue_69 rfl ?_
  exact wX5_layDue_73 Cx out K20 hK20 y1 y2 1 σ _ _ _ hI (lv_sub hl [0, 1, 2] rfl) h
set_option maxHeartbeats 4000000 in
set_option maxRecDepth 100000 in
theorem wX5_layDue_72 (Cx : ms_C p s m args meth c D cA a shX cX5_layDue 3 RX5 none) (out : Mm) (K20 : Int32 → Mm → Option (Mm)) (hK20 : ∀ (y1 : Int32) , ∀ (σ : Mm) (H : Heap) (locs : List Loc) (ls : Array Slot), ms_I D cA a shX s σ H locs → lv_has ls 3 [(0, .ref (a 22)), (1, .int y1)] → K20 y1 σ = some out → W p l e rmX5_layDue s m args below meth c H locs 0 0 (MQ below (ms_Qv D cA a shX out) args s 0 0 (ms_A a shX.length)) (F0 m 20 ls [])) : ∀ (y1 : Int32) (y2 : Int32) , ∀ (σ : Mm) (H : Heap) (locs : List Loc) (ls : Array Slot), ms_I D cA a shX s σ H locs → lv_has ls 3 [(0, .ref (a 22)), (1, .int y1), (2, .int y2)] → fX5_layDue_72 K20 y1 y2 σ = some out → W p l e rmX5_layDue s m args below meth c H locs 0 0 (MQ below (ms_Qv D cA a shX out) args s 0 0 (ms_A a shX.length)) (F0 m 72 ls [.ref (a 22)]) := by
  have hx := Cx.1
  have hb := Cx.2.1
  intro y1 y2 σ H locs ls hI hl h
  unfold fX5_layDue_72 at h
  refine lv_iconst (v := 0) hx hb dX5_layDue_72 rfl ?_
  exact wX5_layDue_73 Cx out K20 hK20 y1 y2 0 σ _ _ _ hI (lv_sub hl [0, 1, 2] rfl) h
set_option maxHeartbeats 4000000 in
set_option maxRecDepth 100000 in
theorem wX5_layDue_20 (Cx : ms_C p s m args meth c D cA a shX cX5_layDue 3 RX5 none) (out : Mm) : ∀ (n : Nat), ∀ (y1 : Int32) , ∀ (σ : Mm) (H : Heap) (locs : List Loc) (ls : Array Slot), ms_I D cA a shX s σ H locs → lv_has ls 3 [(0, .ref (a 22)), (1, .int y1)] → fX5_layDue_20 n y1 σ = some out → W p l e rmX5_layDue s m args below meth c H locs 0 0 (MQ below (ms_Qv D cA a shX out) args s 0 0 (ms_A a shX.length)) (F0 m 20 ls []) := by
  have hx := Cx.1
  have hb := Cx.2.1
  intro n
  induction n with
  | zero =>
    intro y1 σ H locs ls hI hl h
    exact nomatch (show none = some out from h)
  | succ n ih =>
    intro y1 σ H locs ls hI hl h
    rw [fX5_layDue_20] at h
    refine lv_iload_n hx hb dX5_layDue_20 rfl (lv_at hl 1 rfl) ?_
    refine lv_aload_n hx hb dX5_layDue_21 rfl (lv_at hl 0 rfl) ?_
    refine gi_X5_3 Cx hI wd_5_20 dX5_layDue_22 ?_
    refine lv_icmp_ge (tgt := 108) hx hb dX5_layDue_25 rfl (fun hc => ?_) (fun hc => ?_)
    · have h := ms_ifT hc h
      exact ms_rv Cx hI (Option.some.inj h) dX5_layDue_108
    · have h := ms_ifF hc h
      refine lv_aload_n hx hb dX5_layDue_28 rfl (lv_at hl 0 rfl) ?_
      refine gr_X5_0 Cx hI wd_5_17 dX5_layDue_29 ?_
      refine lv_iload_n hx hb dX5_layDue_32 rfl (lv_at hl 1 rfl) ?_
      obtain ⟨hg, h⟩ := ms_gE h
      refine ms_ld Cx hI 23 shX_23 hg dX5_layDue_33 ?_
      refine lv_istore_n (lv' := [(2, .int (σ 23 (ms_ix y1))), (0, .ref (a 22)), (1, .int y1)]) hx hb dX5_layDue_34 rfl hl (by decide) rfl (fun ls hl => ?_)
      refine lv_aload_n hx hb dX5_layDue_35 rfl (lv_at hl 1 rfl) ?_
      refine lv_aload_n hx hb dX5_layDue_36 rfl (lv_at hl 1 rfl) ?_
      refine gi_X5_5 Cx hI wd_5_22 dX5_layDue_37 ?_
      refine lv_if_ne (tgt := 68) hx hb dX5_layDue_40 rfl (fun hc => ?_) (fun hc => ?_)
      · have h := ms_ifF hc h
        exact wX5_layDue_68 Cx out (fX5_layDue_20 n) ih y1 (σ 23 (ms_ix y1)) σ _ _ _ hI (lv_sub hl [1, 2, 0] rfl) h
      · have h := ms_ifT hc h
        refine lv_aload_n hx hb dX5_layDue_43 rfl (lv_at hl 1 rfl) ?_
        refine gr_X5_2 Cx hI wd_5_19 dX5_layDue_44 ?_
        refine lv_iload_n hx hb dX5_layDue_47 rfl (lv_at hl 0 rfl) ?_
        obtain ⟨hg, h⟩ := ms_gE h
        refine ms_ld Cx hI 25 shX_25 hg dX5_layDue_48 ?_
        refine lv_iconst (v := -1) hx hb dX5_layDue_49 rfl ?_
        refine lv_icmp_eq (tgt := 72) hx hb dX5_layDue_50 rfl (fun hc => ?_) (fun hc => ?_)
        · have h := ms_ifT hc h
          exact wX5_layDue_72 Cx out (fX5_layDue_20 n) ih y1 (σ 23 (ms_ix y1)) σ _ _ _ hI (lv_sub hl [1, 2, 0] rfl) h
        · have h := ms_ifF hc h
          refine lv_aload_n hx hb dX5_layDue_53 rfl (lv_at hl 1 rfl) ?_
          refine gr_X5_2 Cx hI wd_5_19 dX5_layDue_54 ?_
          refine lv_iload_n hx hb dX5_layDue_57 rfl (lv_at hl 0 rfl) ?_
          obtain ⟨hg, h⟩ := ms_gE h
          refine ms_ld Cx hI 25 shX_25 hg dX5_layDue_58 ?_
          refine lv_aload_n hx hb dX5_layDue_59 rfl (lv_at hl 1 rfl) ?_
          refine gr_X5_1 Cx hI wd_5_18 dX5_layDue_60 ?_
          refine lv_iload_n hx hb dX5_layDue_63 rfl (lv_at hl 2 rfl) ?_
          obtain ⟨hg, h⟩ := ms_gE h
          refine ms_ld Cx hI 24 shX_24 hg dX5_layDue_64 ?_
          refine lv_icmp_eq (tgt := 72) hx hb dX5_layDue_65 rfl (fun hc => ?_) (fun hc => ?_)
          · have h := ms_ifT hc h
            exact wX5_layDue_72 Cx out (fX5_layDue_20 n) ih y1 (σ 23 (ms_ix y1)) σ _ _ _ hI (lv_sub hl [1, 2, 0] rfl) h
          · have h := ms_ifF hc h
            exact wX5_layDue_68 Cx out (fX5_layDue_20 n) ih y1 (σ 23 (ms_ix y1)) σ _ _ _ hI (lv_sub hl [1, 2, 0] rfl) h
set_option maxHeartbeats 4000000 in
set_option maxRecDepth 100000 in
theorem wX5_layDue (Cx : ms_C p s m args meth c D cA a shX cX5_layDue 3 RX5 none) (out : Mm) : ∀ (σ : Mm) (H : Heap) (locs : List Loc) (ls : Array Slot), ms_I D cA a shX s σ H locs → lv_has ls 3 [(0, .ref (a 22))] → fX5_layDue σ = some out → W p l e rmX5_layDue s m args below meth c H locs 0 0 (MQ below (ms_Qv D cA a shX out) args s 0 0 (ms_A a shX.length)) (F0 m 0 ls []) := by
  have hx := Cx.1
  have hb := Cx.2.1
  intro σ H locs ls hI hl h
  unfold fX5_layDue at h
  refine lv_aload_n hx hb dX5_layDue_0 rfl (lv_at hl 0 rfl) ?_
  refine gr_X5_2 Cx hI wd_5_19 dX5_layDue_1 ?_
  refine lv_iconst (v := -1) hx hb dX5_layDue_4 rfl ?_
  refine ms_fill Cx hI 25 shX_25 wd_35_15 (Nat.le_of_ble_eq_true rfl) (Nat.le_of_ble_eq_true rfl) hl.1 (Nat.le_of_ble_eq_true rfl) dX5_layDue_5 (fun H locs σ1 eσ1 hI => ?_)
  have h := ms_ltE eσ1 h
  refine lv_aload_n hx hb dX5_layDue_8 rfl (lv_at hl 0 rfl) ?_
  refine lv_iconst (v := 0) hx hb dX5_layDue_9 rfl ?_
  refine pi_X5_4 Cx hI wd_5_21 dX5_layDue_10 (fun H locs σ2 eσ2 hI => ?_)
  have h := ms_ltE eσ2 h
  refine lv_aload_n hx hb dX5_layDue_13 rfl (lv_at hl 0 rfl) ?_
  refine lv_iconst (v := 0) hx hb dX5_layDue_14 rfl ?_
  refine pi_X5_5 Cx hI (Or.inl rfl) wd_5_22 dX5_layDue_15 (fun H locs σ3 eσ3 hI => ?_)
  have h := ms_ltE eσ3 h
  refine lv_iconst (v := 0) hx hb dX5_layDue_18 rfl ?_
  refine lv_istore_n (lv' := [(1, .int 0), (0, .ref (a 22))]) hx hb dX5_layDue_19 rfl hl (by decide) rfl (fun ls hl => ?_)
  exact wX5_layDue_20 Cx out  ms_fu 0 σ3 _ _ _ hI (lv_sub hl [1, 0] rfl) h
theorem yvX5_layDue : ms_YV yX5_layDue RX5 cX5_layDue 3 none 0 := ⟨wd_35_9, wd_35_10, wd_2_21, wd_35_11, rfl, by decide +kernel, by decide +kernel, by decide +kernel⟩
set_option maxHeartbeats 4000000 in
theorem metX5_layDue (l : Launch) (hDis : ms_Dis a shX.length) {σ : Mm} {out : Mm} (h : fX5_layDue σ = some out) : Met l yX5_layDue (.code yX5_layDue cX5_layDue 3 none :: wsL_law) rmX5_layDue (ms_Pc D cA a shX [.ref (a 22)] σ) (ms_Qv D cA a shX out) 0 0 (ms_A a shX.length) := by
  refine Met.ofW (cc := cX5_layDue) (maxL := 3) (ret := none) (by decide) rfl ?_
  intro p e s m args below meth c s₁ B hml hv
  obtain ⟨rfl, hK, hN, hP⟩ := hv
  have hl := lv_entry ([.ref (a 22)]) (n := 3) (Nat.le_of_ble_eq_true rfl)
  rw [lg_entry_eq]
  generalize (lg_sl ([.ref (a 22)]) ++ List.replicate (3 - (lg_sl ([.ref (a 22)])).length) Slot.unset).toArray = ls at hl ⊢
  exact wX5_layDue ⟨B.exec, B.bytes, hml, findClass_of_methodNamed B.named, fun w hw => atoms_spec (ws := .code yX5_layDue cX5_layDue 3 none :: wsL_law) B.pre w (List.mem_cons_of_mem _ hw), B.returns, B.notSynchronized, hK, hDis, hN⟩ out σ s.heap [] ls ⟨hP, va_S.rf⟩ hl h
theorem kX5_layDue (Cx : ms_C p s m args meth c D cA a shX cc nL own ret) {σ : Mm} {H : Heap} {locs : List Loc} (hI : ms_I D cA a shX s σ H locs) {out : Mm} (h : fX5_layDue σ = some out) (hl : Cond.methodLink own idx yX5_layDue ∈ wsL_law) (hf : 1 + 1 ≤ R.frames) (hlo : 8 + (3 + 11) + 23 ≤ R.locals) (hsz : ls.size = nL) (hW : (rest.map fun v => v.category).sum ≤ 8) (hd : decode cc pc = .ok (.invokevirtual idx, 3)) (kk : ∀ (H1 : Heap) (locs1 : List Loc), ms_I D cA a shX s out H1 locs1 → W p l e R s m args below meth c H1 locs1 0 0 Q (F0 m (pc + 3) ls (rest))) : W p l e R s m args below meth c H locs 0 0 Q (F0 m pc ls (.ref (a 22) :: rest)) :=
  ms_cv hI (ms_runV (av := []) Cx hI 22 shX_22 (ci := 5) rfl rfl yvX5_layDue (metX5_layDue l Cx.2.2.2.2.2.2.2.2.1  h) ⟨rfl, rfl⟩ hl ⟨hf, hlo⟩ rfl hsz rfl hW ⟨Nat.zero_le _, Nat.zero_le _⟩ hd) kk
/-! X5 fits (LMarketSpring$Spring;)Z -/
theorem dX5_fits_0 : decode cX5_fits 0 = .ok (.aload_n 1, 1) := by decide +kernel
theorem dX5_fits_1 : decode cX5_fits 1 = .ok (.invokevirtual 66, 3) := by decide +kernel
theorem dX5_fits_4 : decode cX5_fits 4 = .ok (.iconst 0, 1) := by decide +kernel
theorem dX5_fits_5 : decode cX5_fits 5 = .ok (.istore_n 2, 1) := by decide +kernel
theorem dX5_fits_6 : decode cX5_fits 6 = .ok (.iload_n 2, 1) := by decide +kernel
theorem dX5_fits_7 : decode cX5_fits 7 = .ok (.aload_n 0, 1) := by decide +kernel
theorem dX5_fits_8 : decode cX5_fits 8 = .ok (.getfield 25, 3) := by decide +kernel
theorem dX5_fits_11 : decode cX5_fits 11 = .ok (.if_icmp .ge 42, 3) := by decide +kernel
theorem dX5_fits_14 : decode cX5_fits 14 = .ok (.aload_n 1, 1) := by decide +kernel
theorem dX5_fits_15 : decode cX5_fits 15 = .ok (.iload_n 2, 1) := by decide +kernel
theorem dX5_fits_16 : decode cX5_fits 16 = .ok (.bipush 24, 2) := by decide +kernel
theorem dX5_fits_18 : decode cX5_fits 18 = .ok (.irem, 1) := by decide +kernel
theorem dX5_fits_19 : decode cX5_fits 19 = .ok (.invokevirtual 69, 3) := by decide +kernel
theorem dX5_fits_22 : decode cX5_fits 22 = .ok (.aload_n 0, 1) := by decide +kernel
theorem dX5_fits_23 : decode cX5_fits 23 = .ok (.getfield 18, 3) := by decide +kernel
theorem dX5_fits_26 : decode cX5_fits 26 = .ok (.iload_n 2, 1) := by decide +kernel
theorem dX5_fits_27 : decode cX5_fits 27 = .ok (.iaload, 1) := by decide +kernel
theorem dX5_fits_28 : decode cX5_fits 28 = .ok (.iconst (-1), 1) := by decide +kernel
theorem dX5_fits_29 : decode cX5_fits 29 = .ok (.if_icmp .eq 18, 3) := by decide +kernel
theorem dX5_fits_32 : decode cX5_fits 32 = .ok (.aload_n 0, 1) := by decide +kernel
theorem dX5_fits_33 : decode cX5_fits 33 = .ok (.getfield 18, 3) := by decide +kernel
theorem dX5_fits_36 : decode cX5_fits 36 = .ok (.iload_n 2, 1) := by decide +kernel
theorem dX5_fits_37 : decode cX5_fits 37 = .ok (.iaload, 1) := by decide +kernel
theorem dX5_fits_38 : decode cX5_fits 38 = .ok (.aload_n 1, 1) := by decide +kernel
theorem dX5_fits_39 : decode cX5_fits 39 = .ok (.getfield 73, 3) := by decide +kernel
theorem dX5_fits_42 : decode cX5_fits 42 = .ok (.if_icmp .eq 5, 3) := by decide +kernel
theorem dX5_fits_45 : decode cX5_fits 45 = .ok (.iconst 0, 1) := by decide +kernel
theorem dX5_fits_46 : decode cX5_fits 46 = .ok (.ireturn, 1) := by decide +kernel
theorem dX5_fits_47 : decode cX5_fits 47 = .ok (.iinc 2 1, 3) := by decide +kernel
theorem dX5_fits_50 : decode cX5_fits 50 = .ok (.goto (-44), 3) := by decide +kernel
theorem dX5_fits_53 : decode cX5_fits 53 = .ok (.iconst 1, 1) := by decide +kernel
theorem dX5_fits_54 : decode cX5_fits 54 = .ok (.ireturn, 1) := by decide +kernel
abbrev rmX5_fits : Room := { frames := 3, cells := 0, slots := 0, locals := 65 }
set_option maxHeartbeats 4000000 in
set_option maxRecDepth 100000 in
theorem wX5_fits_47 (Cx : ms_C p s m args meth c D cA a shX cX5_fits 3 RX5 (some .boolean)) (out : Int32 × Mm) (K6 : Int32 → Mm → Option (Int32 × Mm)) (hK6 : ∀ (y1 : Int32) , ∀ (σ : Mm) (H : Heap) (locs : List Loc) (ls : Array Slot), ms_I D cA a shX s σ H locs → lv_has ls 3 [(0, .ref (a 22)), (1, .ref (a 8)), (2, .int y1)] → K6 y1 σ = some out → W p l e rmX5_fits s m args below meth c H locs 0 0 (MQ below (ms_Qi D cA a shX out.1 out.2) args s 0 0 (ms_A a shX.length)) (F0 m 6 ls [])) : ∀ (y1 : Int32) , ∀ (σ : Mm) (H : Heap) (locs : List Loc) (ls : Array Slot), ms_I D cA a shX s σ H locs → lv_has ls 3 [(0, .ref (a 22)), (1, .ref (a 8)), (2, .int y1)] → fX5_fits_47 K6 y1 σ = some out → W p l e rmX5_fits s m args below meth c H locs 0 0 (MQ below (ms_Qi D cA a shX out.1 out.2) args s 0 0 (ms_A a shX.length)) (F0 m 47 ls []) := by
  have hx := Cx.1
  have hb := Cx.2.1
  intro y1 σ H locs ls hI hl h
  unfold fX5_fits_47 at h
  refine lv_iinc (v := y1 + 1) (lv' := [(2, .int (y1 + 1)), (0, .ref (a 22)), (1, .ref (a 8))]) hx hb dX5_fits_47 hl (k := 2) rfl rfl (by decide) rfl (fun ls hl => ?_)
  refine lv_goto (tgt := 6) hx hb dX5_fits_50 rfl ?_
  exact hK6 (y1 + 1) σ _ _ _ hI (lv_sub hl [1, 2, 0] rfl) h
set_option maxHeartbeats 4000000 in
set_option maxRecDepth 100000 in
theorem wX5_fits_6 (Cx : ms_C p s m args meth c D cA a shX cX5_fits 3 RX5 (some .boolean)) (out : Int32 × Mm) : ∀ (n : Nat), ∀ (y1 : Int32) , ∀ (σ : Mm) (H : Heap) (locs : List Loc) (ls : Array Slot), ms_I D cA a shX s σ H locs → lv_has ls 3 [(0, .ref (a 22)), (1, .ref (a 8)), (2, .int y1)] → fX5_fits_6 n y1 σ = some out → W p l e rmX5_fits s m args below meth c H locs 0 0 (MQ below (ms_Qi D cA a shX out.1 out.2) args s 0 0 (ms_A a shX.length)) (F0 m 6 ls []) := by
  have hx := Cx.1
  have hb := Cx.2.1
  intro n
  induction n with
  | zero =>
    intro y1 σ H locs ls hI hl h
    exact nomatch (show none = some out from h)
  | succ n ih =>
    intro y1 σ H locs ls hI hl h
    rw [fX5_fits_6] at h
    refine lv_iload_n hx hb dX5_fits_6 rfl (lv_at hl 2 rfl) ?_
    refine lv_aload_n hx hb dX5_fits_7 rfl (lv_at hl 0 rfl) ?_
    refine gi_X5_4 Cx hI wd_5_21 dX5_fits_8 ?_
    refine lv_icmp_ge (tgt := 53) hx hb dX5_fits_11 rfl (fun hc => ?_) (fun hc => ?_)
    · have h := ms_ifT hc h
      refine lv_iconst (v := 1) hx hb dX5_fits_53 rfl ?_
      exact ms_rzw Cx hI (Or.inr rfl) h dX5_fits_54
    · have h := ms_ifF hc h
      refine lv_aload_n hx hb dX5_fits_14 rfl (lv_at hl 1 rfl) ?_
      refine lv_iload_n hx hb dX5_fits_15 rfl (lv_at hl 2 rfl) ?_
      refine lv_bipush (v := 24) hx hb dX5_fits_16 rfl ?_
      refine ms_lrem hx hb dX5_fits_18 (by decide) ?_
      obtain ⟨σ2, hc1, h⟩ := ms_bdE h
      refine kX3_turn Cx hI hc1 wd_35_23 (Nat.le_of_ble_eq_true rfl) (Nat.le_of_ble_eq_true rfl) hl.1 (Nat.le_of_ble_eq_true rfl) dX5_fits_19 (fun H locs hI => ?_)
      refine lv_aload_n hx hb dX5_fits_22 rfl (lv_at hl 0 rfl) ?_
      refine gr_X5_2 Cx hI wd_5_19 dX5_fits_23 ?_
      refine lv_iload_n hx hb dX5_fits_26 rfl (lv_at hl 2 rfl) ?_
      obtain ⟨hg, h⟩ := ms_gE h
      refine ms_ld Cx hI 25 shX_25 hg dX5_fits_27 ?_
      refine lv_iconst (v := -1) hx hb dX5_fits_28 rfl ?_
      refine lv_icmp_eq (tgt := 47) hx hb dX5_fits_29 rfl (fun hc => ?_) (fun hc => ?_)
      · have h := ms_ifT hc h
        exact wX5_fits_47 Cx out (fX5_fits_6 n) ih y1 σ2 _ _ _ hI (lv_sub hl [0, 1, 2] rfl) h
      · have h := ms_ifF hc h
        refine lv_aload_n hx hb dX5_fits_32 rfl (lv_at hl 0 rfl) ?_
        refine gr_X5_2 Cx hI wd_5_19 dX5_fits_33 ?_
        refine lv_iload_n hx hb dX5_fits_36 rfl (lv_at hl 2 rfl) ?_
        obtain ⟨hg, h⟩ := ms_gE h
        refine ms_ld Cx hI 25 shX_25 hg dX5_fits_37 ?_
        refine lv_aload_n hx hb dX5_fits_38 rfl (lv_at hl 1 rfl) ?_
        refine gi_X3_12 Cx hI wd_35_21 dX5_fits_39 ?_
        refine lv_icmp_eq (tgt := 47) hx hb dX5_fits_42 rfl (fun hc => ?_) (fun hc => ?_)
        · have h := ms_ifT hc h
          exact wX5_fits_47 Cx out (fX5_fits_6 n) ih y1 σ2 _ _ _ hI (lv_sub hl [0, 1, 2] rfl) h
        · have h := ms_ifF hc h
          refine lv_iconst (v := 0) hx hb dX5_fits_45 rfl ?_
          exact ms_rzw Cx hI (Or.inl rfl) h dX5_fits_46
set_option maxHeartbeats 4000000 in
set_option maxRecDepth 100000 in
theorem wX5_fits (Cx : ms_C p s m args meth c D cA a shX cX5_fits 3 RX5 (some .boolean)) (out : Int32 × Mm) : ∀ (σ : Mm) (H : Heap) (locs : List Loc) (ls : Array Slot), ms_I D cA a shX s σ H locs → lv_has ls 3 [(0, .ref (a 22)), (1, .ref (a 8))] → fX5_fits σ = some out → W p l e rmX5_fits s m args below meth c H locs 0 0 (MQ below (ms_Qi D cA a shX out.1 out.2) args s 0 0 (ms_A a shX.length)) (F0 m 0 ls []) := by
  have hx := Cx.1
  have hb := Cx.2.1
  intro σ H locs ls hI hl h
  unfold fX5_fits at h
  refine lv_aload_n hx hb dX5_fits_0 rfl (lv_at hl 1 rfl) ?_
  obtain ⟨σ2, hc1, h⟩ := ms_bdE h
  refine kX3_begin Cx hI hc1 wd_35_22 (Nat.le_of_ble_eq_true rfl) (Nat.le_of_ble_eq_true rfl) hl.1 (Nat.le_of_ble_eq_true rfl) dX5_fits_1 (fun H locs hI => ?_)
  refine lv_iconst (v := 0) hx hb dX5_fits_4 rfl ?_
  refine lv_istore_n (lv' := [(2, .int 0), (0, .ref (a 22)), (1, .ref (a 8))]) hx hb dX5_fits_5 rfl hl (by decide) rfl (fun ls hl => ?_)
  exact wX5_fits_6 Cx out  ms_fu 0 σ2 _ _ _ hI (lv_sub hl [1, 2, 0] rfl) h
theorem yvX5_fits : ms_YV yX5_fits RX5 cX5_fits 3 (some .boolean) 1 := ⟨wd_35_18, wd_35_19, wd_2_21, wd_35_20, rfl, by decide +kernel, by decide +kernel, by decide +kernel⟩
set_option maxHeartbeats 4000000 in
theorem metX5_fits (l : Launch) (hDis : ms_Dis a shX.length) {σ : Mm} {out : Int32 × Mm} (h : fX5_fits σ = some out) : Met l yX5_fits (.code yX5_fits cX5_fits 3 (some .boolean) :: wsL_law) rmX5_fits (ms_Pc D cA a shX [.ref (a 22), .ref (a 8)] σ) (ms_Qi D cA a shX out.1 out.2) 0 0 (ms_A a shX.length) := by
  refine Met.ofW (cc := cX5_fits) (maxL := 3) (ret := (some .boolean)) (by decide) rfl ?_
  intro p e s m args below meth c s₁ B hml hv
  obtain ⟨rfl, hK, hN, hP⟩ := hv
  have hl := lv_entry ([.ref (a 22), .ref (a 8)]) (n := 3) (Nat.le_of_ble_eq_true rfl)
  rw [lg_entry_eq]
  generalize (lg_sl ([.ref (a 22), .ref (a 8)]) ++ List.replicate (3 - (lg_sl ([.ref (a 22), .ref (a 8)])).length) Slot.unset).toArray = ls at hl ⊢
  exact wX5_fits ⟨B.exec, B.bytes, hml, findClass_of_methodNamed B.named, fun w hw => atoms_spec (ws := .code yX5_fits cX5_fits 3 (some .boolean) :: wsL_law) B.pre w (List.mem_cons_of_mem _ hw), B.returns, B.notSynchronized, hK, hDis, hN⟩ out σ s.heap [] ls ⟨hP, va_S.rf⟩ hl h
theorem kX5_fits (Cx : ms_C p s m args meth c D cA a shX cc nL own ret) {σ : Mm} {H : Heap} {locs : List Loc} (hI : ms_I D cA a shX s σ H locs) {out : Int32 × Mm} (h : fX5_fits σ = some out) (hl : Cond.methodLink own idx yX5_fits ∈ wsL_law) (hf : 3 + 1 ≤ R.frames) (hlo : 8 + (3 + 11) + 65 ≤ R.locals) (hsz : ls.size = nL) (hW : (rest.map fun v => v.category).sum ≤ 8) (hd : decode cc pc = .ok (.invokevirtual idx, 3)) (kk : ∀ (H1 : Heap) (locs1 : List Loc), ms_I D cA a shX s out.2 H1 locs1 → W p l e R s m args below meth c H1 locs1 0 0 Q (F0 m (pc + 3) ls (.int out.1 :: rest))) : W p l e R s m args below meth c H locs 0 0 Q (F0 m pc ls (.ref (a 8) :: .ref (a 22) :: rest)) :=
  ms_ci hI (ms_runV (av := [.ref (a 8)]) Cx hI 22 shX_22 (ci := 5) rfl rfl yvX5_fits (metX5_fits l Cx.2.2.2.2.2.2.2.2.1  h) ⟨rfl, rfl⟩ hl ⟨hf, hlo⟩ rfl hsz rfl hW ⟨Nat.zero_le _, Nat.zero_le _⟩ hd) kk
/-! X5 search (LMarketSpring$Spring;)V -/
theorem dX5_search_0 : decode cX5_search 0 = .ok (.aload_n 0, 1) := by decide +kernel
theorem dX5_search_1 : decode cX5_search 1 = .ok (.invokevirtual 41, 3) := by decide +kernel
theorem dX5_search_4 : decode cX5_search 4 = .ok (.aload_n 0, 1) := by decide +kernel
theorem dX5_search_5 : decode cX5_search 5 = .ok (.iconst 0, 1) := by decide +kernel
theorem dX5_search_6 : decode cX5_search 6 = .ok (.putfield 32, 3) := by decide +kernel
theorem dX5_search_9 : decode cX5_search 9 = .ok (.aload_n 0, 1) := by decide +kernel
theorem dX5_search_10 : decode cX5_search 10 = .ok (.iconst (-1), 1) := by decide +kernel
theorem dX5_search_11 : decode cX5_search 11 = .ok (.putfield 35, 3) := by decide +kernel
theorem dX5_search_14 : decode cX5_search 14 = .ok (.iconst 0, 1) := by decide +kernel
theorem dX5_search_15 : decode cX5_search 15 = .ok (.istore_n 2, 1) := by decide +kernel
theorem dX5_search_16 : decode cX5_search 16 = .ok (.iload_n 2, 1) := by decide +kernel
theorem dX5_search_17 : decode cX5_search 17 = .ok (.bipush 24, 2) := by decide +kernel
theorem dX5_search_19 : decode cX5_search 19 = .ok (.if_icmp .ge 78, 3) := by decide +kernel
theorem dX5_search_22 : decode cX5_search 22 = .ok (.aload_n 0, 1) := by decide +kernel
theorem dX5_search_23 : decode cX5_search 23 = .ok (.getfield 28, 3) := by decide +kernel
theorem dX5_search_26 : decode cX5_search 26 = .ok (.ifCond .ne 71, 3) := by decide +kernel
theorem dX5_search_29 : decode cX5_search 29 = .ok (.iconst 1, 1) := by decide +kernel
theorem dX5_search_30 : decode cX5_search 30 = .ok (.istore_n 3, 1) := by decide +kernel
theorem dX5_search_31 : decode cX5_search 31 = .ok (.iload_n 3, 1) := by decide +kernel
theorem dX5_search_32 : decode cX5_search 32 = .ok (.bipush 40, 2) := by decide +kernel
theorem dX5_search_34 : decode cX5_search 34 = .ok (.if_icmp .gt 57, 3) := by decide +kernel
theorem dX5_search_37 : decode cX5_search 37 = .ok (.aload_n 1, 1) := by decide +kernel
theorem dX5_search_38 : decode cX5_search 38 = .ok (.iload_n 2, 1) := by decide +kernel
theorem dX5_search_39 : decode cX5_search 39 = .ok (.iload_n 3, 1) := by decide +kernel
theorem dX5_search_40 : decode cX5_search 40 = .ok (.invokevirtual 44, 3) := by decide +kernel
theorem dX5_search_43 : decode cX5_search 43 = .ok (.aload_n 0, 1) := by decide +kernel
theorem dX5_search_44 : decode cX5_search 44 = .ok (.aload_n 1, 1) := by decide +kernel
theorem dX5_search_45 : decode cX5_search 45 = .ok (.invokevirtual 50, 3) := by decide +kernel
theorem dX5_search_48 : decode cX5_search 48 = .ok (.ifCond .eq 37, 3) := by decide +kernel
theorem dX5_search_51 : decode cX5_search 51 = .ok (.aload_n 0, 1) := by decide +kernel
theorem dX5_search_52 : decode cX5_search 52 = .ok (.aload_n 0, 1) := by decide +kernel
theorem dX5_search_53 : decode cX5_search 53 = .ok (.getfield 32, 3) := by decide +kernel
theorem dX5_search_56 : decode cX5_search 56 = .ok (.ifCond .ne 12, 3) := by decide +kernel
theorem dX5_search_59 : decode cX5_search 59 = .ok (.bipush 100, 2) := by decide +kernel
theorem dX5_search_61 : decode cX5_search 61 = .ok (.iload_n 2, 1) := by decide +kernel
theorem dX5_search_62 : decode cX5_search 62 = .ok (.imul, 1) := by decide +kernel
theorem dX5_search_63 : decode cX5_search 63 = .ok (.iload_n 3, 1) := by decide +kernel
theorem dX5_search_64 : decode cX5_search 64 = .ok (.iadd, 1) := by decide +kernel
theorem dX5_search_65 : decode cX5_search 65 = .ok (.goto 7, 3) := by decide +kernel
theorem dX5_search_68 : decode cX5_search 68 = .ok (.aload_n 0, 1) := by decide +kernel
theorem dX5_search_69 : decode cX5_search 69 = .ok (.getfield 35, 3) := by decide +kernel
theorem dX5_search_72 : decode cX5_search 72 = .ok (.putfield 35, 3) := by decide +kernel
theorem dX5_search_75 : decode cX5_search 75 = .ok (.aload_n 0, 1) := by decide +kernel
theorem dX5_search_76 : decode cX5_search 76 = .ok (.dup, 1) := by decide +kernel
theorem dX5_search_77 : decode cX5_search 77 = .ok (.getfield 32, 3) := by decide +kernel
theorem dX5_search_80 : decode cX5_search 80 = .ok (.iconst 1, 1) := by decide +kernel
theorem dX5_search_81 : decode cX5_search 81 = .ok (.iadd, 1) := by decide +kernel
theorem dX5_search_82 : decode cX5_search 82 = .ok (.putfield 32, 3) := by decide +kernel
theorem dX5_search_85 : decode cX5_search 85 = .ok (.iinc 3 1, 3) := by decide +kernel
theorem dX5_search_88 : decode cX5_search 88 = .ok (.goto (-57), 3) := by decide +kernel
theorem dX5_search_91 : decode cX5_search 91 = .ok (.iinc 2 1, 3) := by decide +kernel
theorem dX5_search_94 : decode cX5_search 94 = .ok (.goto (-78), 3) := by decide +kernel
theorem dX5_search_97 : decode cX5_search 97 = .ok (.aload_n 0, 1) := by decide +kernel
theorem dX5_search_98 : decode cX5_search 98 = .ok (.iconst 1, 1) := by decide +kernel
theorem dX5_search_99 : decode cX5_search 99 = .ok (.putfield 38, 3) := by decide +kernel
theorem dX5_search_102 : decode cX5_search 102 = .ok (.return_, 1) := by decide +kernel
abbrev rmX5_search : Room := { frames := 4, cells := 0, slots := 0, locals := 87 }
set_option maxHeartbeats 4000000 in
set_option maxRecDepth 100000 in
theorem wX5_search_85 (Cx : ms_C p s m args meth c D cA a shX cX5_search 4 RX5 none) (out : Mm) (K31 : Int32 → Int32 → Mm → Option (Mm)) (hK31 : ∀ (y1 : Int32) (y2 : Int32) , ∀ (σ : Mm) (H : Heap) (locs : List Loc) (ls : Array Slot), ms_I D cA a shX s σ H locs → lv_has ls 4 [(0, .ref (a 22)), (1, .ref (a 8)), (2, .int y1), (3, .int y2)] → K31 y1 y2 σ = some out → W p l e rmX5_search s m args below meth c H locs 0 0 (MQ below (ms_Qv D cA a shX out) args s 0 0 (ms_A a shX.length)) (F0 m 31 ls [])) : ∀ (y1 : Int32) (y2 : Int32) , ∀ (σ : Mm) (H : Heap) (locs : List Loc) (ls : Array Slot), ms_I D cA a shX s σ H locs → lv_has ls 4 [(0, .ref (a 22)), (1, .ref (a 8)), (2, .int y1), (3, .int y2)] → fX5_search_85 K31 y1 y2 σ = some out → W p l e rmX5_search s m args below meth c H locs 0 0 (MQ below (ms_Qv D cA a shX out) args s 0 0 (ms_A a shX.length)) (F0 m 85 ls []) := by
  have hx := Cx.1
  have hb := Cx.2.1
  intro y1 y2 σ H locs ls hI hl h
  unfold fX5_search_85 at h
  refine lv_iinc (v := y2 + 1) (lv' := [(3, .int (y2 + 1)), (0, .ref (a 22)), (1, .ref (a 8)), (2, .int y1)]) hx hb dX5_search_85 hl (k := 3) rfl rfl (by decide) rfl (fun ls hl => ?_)
  refine lv_goto (tgt := 31) hx hb dX5_search_88 rfl ?_
  exact hK31 y1 (y2 + 1) σ _ _ _ hI (lv_sub hl [1, 2, 3, 0] rfl) h
set_option maxHeartbeats 4000000 in
set_option maxRecDepth 100000 in
theorem wX5_search_72 (Cx : ms_C p s m args meth c D cA a shX cX5_search 4 RX5 none) (out : Mm) (K31 : Int32 → Int32 → Mm → Option (Mm)) (hK31 : ∀ (y1 : Int32) (y2 : Int32) , ∀ (σ : Mm) (H : Heap) (locs : List Loc) (ls : Array Slot), ms_I D cA a shX s σ H locs → lv_has ls 4 [(0, .ref (a 22)), (1, .ref (a 8)), (2, .int y1), (3, .int y2)] → K31 y1 y2 σ = some out → W p l e rmX5_search s m args below meth c H locs 0 0 (MQ below (ms_Qv D cA a shX out) args s 0 0 (ms_A a shX.length)) (F0 m 31 ls [])) : ∀ (y1 : Int32) (y2 : Int32) (y3 : Int32) , ∀ (σ : Mm) (H : Heap) (locs : List Loc) (ls : Array Slot), ms_I D cA a shX s σ H locs → lv_has ls 4 [(0, .ref (a 22)), (1, .ref (a 8)), (2, .int y1), (3, .int y2)] → fX5_search_72 K31 y1 y2 y3 σ = some out → W p l e rmX5_search s m args below meth c H locs 0 0 (MQ below (ms_Qv D cA a shX out) args s 0 0 (ms_A a shX.length)) (F0 m 72 ls [.int y3, .ref (a 22)]) := by
  have hx := Cx.1
  have hb := Cx.2.1
  intro y1 y2 y3 σ H locs ls hI hl h
  unfold fX5_search_72 at h
  refine pi_X5_7 Cx hI wd_6_0 dX5_search_72 (fun H locs σ1 eσ1 hI => ?_)
  have h := ms_ltE eσ1 h
  refine lv_aload_n hx hb dX5_search_75 rfl (lv_at hl 0 rfl) ?_
  refine lv_dup hx hb dX5_search_76 rfl ?_
  refine gi_X5_6 Cx hI wd_5_23 dX5_search_77 ?_
  refine lv_iconst (v := 1) hx hb dX5_search_80 rfl ?_
  refine lv_iadd hx hb dX5_search_81 ?_
  refine pi_X5_6 Cx hI wd_5_23 dX5_search_82 (fun H locs σ2 eσ2 hI => ?_)
  have h := ms_ltE eσ2 h
  exact wX5_search_85 Cx out K31 hK31 y1 y2 σ2 _ _ _ hI (lv_sub hl [0, 1, 2, 3] rfl) h
set_option maxHeartbeats 4000000 in
set_option maxRecDepth 100000 in
theorem wX5_search_31 (Cx : ms_C p s m args meth c D cA a shX cX5_search 4 RX5 none) (out : Mm) (K16 : Int32 → Mm → Option (Mm)) (hK16 : ∀ (y1 : Int32) , ∀ (σ : Mm) (H : Heap) (locs : List Loc) (ls : Array Slot), ms_I D cA a shX s σ H locs → lv_has ls 4 [(0, .ref (a 22)), (1, .ref (a 8)), (2, .int y1)] → K16 y1 σ = some out → W p l e rmX5_search s m args below meth c H locs 0 0 (MQ below (ms_Qv D cA a shX out) args s 0 0 (ms_A a shX.length)) (F0 m 16 ls [])) : ∀ (n : Nat), ∀ (y1 : Int32) (y2 : Int32) , ∀ (σ : Mm) (H : Heap) (locs : List Loc) (ls : Array Slot), ms_I D cA a shX s σ H locs → lv_has ls 4 [(0, .ref (a 22)), (1, .ref (a 8)), (2, .int y1), (3, .int y2)] → fX5_search_31 K16 n y1 y2 σ = some out → W p l e rmX5_search s m args below meth c H locs 0 0 (MQ below (ms_Qv D cA a shX out) args s 0 0 (ms_A a shX.length)) (F0 m 31 ls []) := by
  have hx := Cx.1
  have hb := Cx.2.1
  intro n
  induction n with
  | zero =>
    intro y1 y2 σ H locs ls hI hl h
    exact nomatch (show none = some out from h)
  | succ n ih =>
    intro y1 y2 σ H locs ls hI hl h
    rw [fX5_search_31] at h
    refine lv_iload_n hx hb dX5_search_31 rfl (lv_at hl 3 rfl) ?_
    refine lv_bipush (v := 40) hx hb dX5_search_32 rfl ?_
    refine lv_icmp_gt (tgt := 91) hx hb dX5_search_34 rfl (fun hc => ?_) (fun hc => ?_)
    · have h := ms_ifT hc h
      refine lv_iinc (v := y1 + 1) (lv' := [(2, .int (y1 + 1)), (0, .ref (a 22)), (1, .ref (a 8)), (3, .int y2)]) hx hb dX5_search_91 hl (k := 2) rfl rfl (by decide) rfl (fun ls hl => ?_)
      refine lv_goto (tgt := 16) hx hb dX5_search_94 rfl ?_
      exact hK16 (y1 + 1) σ _ _ _ hI (lv_sub hl [1, 2, 0] rfl) h
    · have h := ms_ifF hc h
      refine lv_aload_n hx hb dX5_search_37 rfl (lv_at hl 1 rfl) ?_
      refine lv_iload_n hx hb dX5_search_38 rfl (lv_at hl 2 rfl) ?_
      refine lv_iload_n hx hb dX5_search_39 rfl (lv_at hl 3 rfl) ?_
      obtain ⟨σ2, hc1, h⟩ := ms_bdE h
      refine kX3_rob Cx hI hc1 wd_35_16 (Nat.le_of_ble_eq_true rfl) (Nat.le_of_ble_eq_true rfl) hl.1 (Nat.le_of_ble_eq_true rfl) dX5_search_40 (fun H locs hI => ?_)
      refine lv_aload_n hx hb dX5_search_43 rfl (lv_at hl 0 rfl) ?_
      refine lv_aload_n hx hb dX5_search_44 rfl (lv_at hl 1 rfl) ?_
      obtain ⟨⟨r4, σ5⟩, hc3, h⟩ := ms_bdE h
      refine kX5_fits Cx hI hc3 wd_35_17 (Nat.le_of_ble_eq_true rfl) (Nat.le_of_ble_eq_true rfl) hl.1 (Nat.le_of_ble_eq_true rfl) dX5_search_45 (fun H locs hI => ?_)
      refine lv_if_eq (tgt := 85) hx hb dX5_search_48 rfl (fun hc => ?_) (fun hc => ?_)
      · have h := ms_ifT hc h
        exact wX5_search_85 Cx out (fX5_search_31 K16 n) ih y1 y2 σ5 _ _ _ hI (lv_sub hl [0, 1, 2, 3] rfl) h
      · have h := ms_ifF hc h
        refine lv_aload_n hx hb dX5_search_51 rfl (lv_at hl 0 rfl) ?_
        refine lv_aload_n hx hb dX5_search_52 rfl (lv_at hl 0 rfl) ?_
        refine gi_X5_6 Cx hI wd_5_23 dX5_search_53 ?_
        refine lv_if_ne (tgt := 68) hx hb dX5_search_56 rfl (fun hc => ?_) (fun hc => ?_)
        · have h := ms_ifF hc h
          refine lv_aload_n hx hb dX5_search_68 rfl (lv_at hl 0 rfl) ?_
          refine gi_X5_7 Cx hI wd_6_0 dX5_search_69 ?_
          exact wX5_search_72 Cx out (fX5_search_31 K16 n) ih y1 y2 (σ5 22 7) σ5 _ _ _ hI (lv_sub hl [0, 1, 2, 3] rfl) h
        · have h := ms_ifT hc h
          refine lv_bipush (v := 100) hx hb dX5_search_59 rfl ?_
          refine lv_iload_n hx hb dX5_search_61 rfl (lv_at hl 2 rfl) ?_
          refine lv_imul hx hb dX5_search_62 ?_
          refine lv_iload_n hx hb dX5_search_63 rfl (lv_at hl 3 rfl) ?_
          refine lv_iadd hx hb dX5_search_64 ?_
          refine lv_goto (tgt := 72) hx hb dX5_search_65 rfl ?_
          exact wX5_search_72 Cx out (fX5_search_31 K16 n) ih y1 y2 ((100 * y1) + y2) σ5 _ _ _ hI (lv_sub hl [0, 1, 2, 3] rfl) h
set_option maxHeartbeats 4000000 in
set_option maxRecDepth 100000 in
theorem wX5_search_16 (Cx : ms_C p s m args meth c D cA a shX cX5_search 4 RX5 none) (out : Mm) : ∀ (n : Nat), ∀ (y1 : Int32) , ∀ (σ : Mm) (H : Heap) (locs : List Loc) (ls : Array Slot), ms_I D cA a shX s σ H locs → lv_has ls 4 [(0, .ref (a 22)), (1, .ref (a 8)), (2, .int y1)] → fX5_search_16 n y1 σ = some out → W p l e rmX5_search s m args below meth c H locs 0 0 (MQ below (ms_Qv D cA a shX out) args s 0 0 (ms_A a shX.length)) (F0 m 16 ls []) := by
  have hx := Cx.1
  have hb := Cx.2.1
  intro n
  induction n with
  | zero =>
    intro y1 σ H locs ls hI hl h
    exact nomatch (show none = some out from h)
  | succ n ih =>
    intro y1 σ H locs ls hI hl h
    rw [fX5_search_16] at h
    refine lv_iload_n hx hb dX5_search_16 rfl (lv_at hl 2 rfl) ?_
    refine lv_bipush (v := 24) hx hb dX5_search_17 rfl ?_
    refine lv_icmp_ge (tgt := 97) hx hb dX5_search_19 rfl (fun hc => ?_) (fun hc => ?_)
    · have h := ms_ifT hc h
      refine lv_aload_n hx hb dX5_search_97 rfl (lv_at hl 0 rfl) ?_
      refine lv_iconst (v := 1) hx hb dX5_search_98 rfl ?_
      refine pi_X5_8 Cx hI (Or.inr rfl) wd_6_1 dX5_search_99 (fun H locs σ1 eσ1 hI => ?_)
      have h := ms_ltE eσ1 h
      exact ms_rv Cx hI (Option.some.inj h) dX5_search_102
    · have h := ms_ifF hc h
      refine lv_aload_n hx hb dX5_search_22 rfl (lv_at hl 0 rfl) ?_
      refine gi_X5_5 Cx hI wd_5_22 dX5_search_23 ?_
      refine lv_if_ne (tgt := 97) hx hb dX5_search_26 rfl (fun hc => ?_) (fun hc => ?_)
      · have h := ms_ifF hc h
        refine lv_aload_n hx hb dX5_search_97 rfl (lv_at hl 0 rfl) ?_
        refine lv_iconst (v := 1) hx hb dX5_search_98 rfl ?_
        refine pi_X5_8 Cx hI (Or.inr rfl) wd_6_1 dX5_search_99 (fun H locs σ2 eσ2 hI => ?_)
        have h := ms_ltE eσ2 h
        exact ms_rv Cx hI (Option.some.inj h) dX5_search_102
      · have h := ms_ifT hc h
        refine lv_iconst (v := 1) hx hb dX5_search_29 rfl ?_
        refine lv_istore_n (lv' := [(3, .int 1), (0, .ref (a 22)), (1, .ref (a 8)), (2, .int y1)]) hx hb dX5_search_30 rfl hl (by decide) rfl (fun ls hl => ?_)
        exact wX5_search_31 Cx out (fX5_search_16 n) ih ms_fu y1 1 σ _ _ _ hI (lv_sub hl [1, 2, 3, 0] rfl) h
set_option maxHeartbeats 4000000 in
set_option maxRecDepth 100000 in
theorem wX5_search (Cx : ms_C p s m args meth c D cA a shX cX5_search 4 RX5 none) (out : Mm) : ∀ (σ : Mm) (H : Heap) (locs : List Loc) (ls : Array Slot), ms_I D cA a shX s σ H locs → lv_has ls 4 [(0, .ref (a 22)), (1, .ref (a 8))] → fX5_search σ = some out → W p l e rmX5_search s m args below meth c H locs 0 0 (MQ below (ms_Qv D cA a shX out) args s 0 0 (ms_A a shX.length)) (F0 m 0 ls []) := by
  have hx := Cx.1
  have hb := Cx.2.1
  intro σ H locs ls hI hl h
  unfold fX5_search at h
  refine lv_aload_n hx hb dX5_search_0 rfl (lv_at hl 0 rfl) ?_
  obtain ⟨σ2, hc1, h⟩ := ms_bdE h
  refine kX5_layDue Cx hI hc1 wd_35_8 (Nat.le_of_ble_eq_true rfl) (Nat.le_of_ble_eq_true rfl) hl.1 (Nat.le_of_ble_eq_true rfl) dX5_search_1 (fun H locs hI => ?_)
  refine lv_aload_n hx hb dX5_search_4 rfl (lv_at hl 0 rfl) ?_
  refine lv_iconst (v := 0) hx hb dX5_search_5 rfl ?_
  refine pi_X5_6 Cx hI wd_5_23 dX5_search_6 (fun H locs σ3 eσ3 hI => ?_)
  have h := ms_ltE eσ3 h
  refine lv_aload_n hx hb dX5_search_9 rfl (lv_at hl 0 rfl) ?_
  refine lv_iconst (v := -1) hx hb dX5_search_10 rfl ?_
  refine pi_X5_7 Cx hI wd_6_0 dX5_search_11 (fun H locs σ4 eσ4 hI => ?_)
  have h := ms_ltE eσ4 h
  refine lv_iconst (v := 0) hx hb dX5_search_14 rfl ?_
  refine lv_istore_n (lv' := [(2, .int 0), (0, .ref (a 22)), (1, .ref (a 8))]) hx hb dX5_search_15 rfl hl (by decide) rfl (fun ls hl => ?_)
  exact wX5_search_16 Cx out  ms_fu 0 σ4 _ _ _ hI (lv_sub hl [1, 2, 0] rfl) h
theorem yvX5_search : ms_YV yX5_search RX5 cX5_search 4 none 1 := ⟨wd_35_5, wd_35_6, wd_2_21, wd_35_7, rfl, by decide +kernel, by decide +kernel, by decide +kernel⟩
set_option maxHeartbeats 4000000 in
theorem metX5_search (l : Launch) (hDis : ms_Dis a shX.length) {σ : Mm} {out : Mm} (h : fX5_search σ = some out) : Met l yX5_search (.code yX5_search cX5_search 4 none :: wsL_law) rmX5_search (ms_Pc D cA a shX [.ref (a 22), .ref (a 8)] σ) (ms_Qv D cA a shX out) 0 0 (ms_A a shX.length) := by
  refine Met.ofW (cc := cX5_search) (maxL := 4) (ret := none) (by decide) rfl ?_
  intro p e s m args below meth c s₁ B hml hv
  obtain ⟨rfl, hK, hN, hP⟩ := hv
  have hl := lv_entry ([.ref (a 22), .ref (a 8)]) (n := 4) (Nat.le_of_ble_eq_true rfl)
  rw [lg_entry_eq]
  generalize (lg_sl ([.ref (a 22), .ref (a 8)]) ++ List.replicate (4 - (lg_sl ([.ref (a 22), .ref (a 8)])).length) Slot.unset).toArray = ls at hl ⊢
  exact wX5_search ⟨B.exec, B.bytes, hml, findClass_of_methodNamed B.named, fun w hw => atoms_spec (ws := .code yX5_search cX5_search 4 none :: wsL_law) B.pre w (List.mem_cons_of_mem _ hw), B.returns, B.notSynchronized, hK, hDis, hN⟩ out σ s.heap [] ls ⟨hP, va_S.rf⟩ hl h
theorem kX5_search (Cx : ms_C p s m args meth c D cA a shX cc nL own ret) {σ : Mm} {H : Heap} {locs : List Loc} (hI : ms_I D cA a shX s σ H locs) {out : Mm} (h : fX5_search σ = some out) (hl : Cond.methodLink own idx yX5_search ∈ wsL_law) (hf : 4 + 1 ≤ R.frames) (hlo : 8 + (4 + 11) + 87 ≤ R.locals) (hsz : ls.size = nL) (hW : (rest.map fun v => v.category).sum ≤ 8) (hd : decode cc pc = .ok (.invokevirtual idx, 3)) (kk : ∀ (H1 : Heap) (locs1 : List Loc), ms_I D cA a shX s out H1 locs1 → W p l e R s m args below meth c H1 locs1 0 0 Q (F0 m (pc + 3) ls (rest))) : W p l e R s m args below meth c H locs 0 0 Q (F0 m pc ls (.ref (a 8) :: .ref (a 22) :: rest)) :=
  ms_cv hI (ms_runV (av := [.ref (a 8)]) Cx hI 22 shX_22 (ci := 5) rfl rfl yvX5_search (metX5_search l Cx.2.2.2.2.2.2.2.2.1  h) ⟨rfl, rfl⟩ hl ⟨hf, hlo⟩ rfl hsz rfl hW ⟨Nat.zero_le _, Nat.zero_le _⟩ hd) kk
end WK
