section WK
variable {p : Program} {l : Launch} {e : Env} {R : Room} {s : State} {m : MethodId} {args : Array Value} {below : List Frame} {meth : Method} {c : Code} {Q : State → Prop}
variable {D : va_G} {cA : Nat → ClassId} {a : Nat → Nat} {cc : ByteArray} {nL idx : Nat} {own : String} {ret : Option FieldType} {pc : Nat} {ls : Array Slot} {rest : List Value}
/-! X7 lasts ()I -/
theorem dX7_lasts_0 : decode cX7_lasts 0 = .ok (.aload_n 0, 1) := by decide +kernel
theorem dX7_lasts_1 : decode cX7_lasts 1 = .ok (.invokevirtual 163, 3) := by decide +kernel
theorem dX7_lasts_4 : decode cX7_lasts 4 = .ok (.aload_n 0, 1) := by decide +kernel
theorem dX7_lasts_5 : decode cX7_lasts 5 = .ok (.getfield 54, 3) := by decide +kernel
theorem dX7_lasts_8 : decode cX7_lasts 8 = .ok (.invokevirtual 228, 3) := by decide +kernel
theorem dX7_lasts_11 : decode cX7_lasts 11 = .ok (.ireturn, 1) := by decide +kernel
abbrev rmX7_lasts : Room := { frames := 6, cells := 0, slots := 0, locals := 139 }
set_option maxHeartbeats 4000000 in
set_option maxRecDepth 100000 in
theorem wX7_lasts (Cx : ms_C p s m args meth c D cA a shX cX7_lasts 1 RX7 (some .int)) (out : Int32 × Mm) : ∀ (σ : Mm) (H : Heap) (locs : List Loc) (ls : Array Slot), ms_I D cA a shX s σ H locs → lv_has ls 1 [(0, .ref (a 0))] → fX7_lasts σ = some out → W p l e rmX7_lasts s m args below meth c H locs 0 0 (MQ below (ms_Qi D cA a shX out.1 out.2) args s 0 0 (ms_A a shX.length)) (F0 m 0 ls []) := by
  have hx := Cx.1
  have hb := Cx.2.1
  intro σ H locs ls hI hl h
  unfold fX7_lasts at h
  refine lv_aload_n hx hb dX7_lasts_0 rfl (lv_at hl 0 rfl) ?_
  obtain ⟨σ2, hc1, h⟩ := ms_bdE h
  refine kX7_recordDays Cx hI hc1 wd_21_3 (Nat.le_of_ble_eq_true rfl) (Nat.le_of_ble_eq_true rfl) hl.1 (Nat.le_of_ble_eq_true rfl) dX7_lasts_1 (fun H locs hI => ?_)
  refine lv_aload_n hx hb dX7_lasts_4 rfl (lv_at hl 0 rfl) ?_
  refine gr_X7_6 Cx hI wd_2_14 dX7_lasts_5 ?_
  obtain ⟨r4, hc3, h⟩ := ms_bdE h
  refine kX0_firstStanding Cx hI hc3 wd_32_12 (Nat.le_of_ble_eq_true rfl) (Nat.le_of_ble_eq_true rfl) hl.1 (Nat.le_of_ble_eq_true rfl) dX7_lasts_8 (fun H locs hI => ?_)
  exact ms_riw Cx hI h dX7_lasts_11
theorem yvX7_lasts : ms_YV yX7_lasts RX7 cX7_lasts 1 (some .int) 0 := ⟨wd_32_9, wd_32_10, wd_1_2, wd_32_11, rfl, by decide +kernel, by decide +kernel, by decide +kernel⟩
set_option maxHeartbeats 4000000 in
theorem metX7_lasts (l : Launch) (hDis : ms_Dis a shX.length) {σ : Mm} {out : Int32 × Mm} (h : fX7_lasts σ = some out) : Met l yX7_lasts (.code yX7_lasts cX7_lasts 1 (some .int) :: wsL_law) rmX7_lasts (ms_Pc D cA a shX [.ref (a 0)] σ) (ms_Qi D cA a shX out.1 out.2) 0 0 (ms_A a shX.length) := by
  refine Met.ofW (cc := cX7_lasts) (maxL := 1) (ret := (some .int)) (by decide) rfl ?_
  intro p e s m args below meth c s₁ B hml hv
  obtain ⟨rfl, hK, hN, hP⟩ := hv
  have hl := lv_entry ([.ref (a 0)]) (n := 1) (Nat.le_of_ble_eq_true rfl)
  rw [lg_entry_eq]
  generalize (lg_sl ([.ref (a 0)]) ++ List.replicate (1 - (lg_sl ([.ref (a 0)])).length) Slot.unset).toArray = ls at hl ⊢
  exact wX7_lasts ⟨B.exec, B.bytes, hml, findClass_of_methodNamed B.named, fun w hw => atoms_spec (ws := .code yX7_lasts cX7_lasts 1 (some .int) :: wsL_law) B.pre w (List.mem_cons_of_mem _ hw), B.returns, B.notSynchronized, hK, hDis, hN⟩ out σ s.heap [] ls ⟨hP, va_S.rf⟩ hl h
theorem kX7_lasts (Cx : ms_C p s m args meth c D cA a shX cc nL own ret) {σ : Mm} {H : Heap} {locs : List Loc} (hI : ms_I D cA a shX s σ H locs) {out : Int32 × Mm} (h : fX7_lasts σ = some out) (hl : Cond.methodLink own idx yX7_lasts ∈ wsL_law) (hf : 6 + 1 ≤ R.frames) (hlo : 8 + (1 + 11) + 139 ≤ R.locals) (hsz : ls.size = nL) (hW : (rest.map fun v => v.category).sum ≤ 8) (hd : decode cc pc = .ok (.invokevirtual idx, 3)) (kk : ∀ (H1 : Heap) (locs1 : List Loc), ms_I D cA a shX s out.2 H1 locs1 → W p l e R s m args below meth c H1 locs1 0 0 Q (F0 m (pc + 3) ls (.int out.1 :: rest))) : W p l e R s m args below meth c H locs 0 0 Q (F0 m pc ls (.ref (a 0) :: rest)) :=
  ms_ci hI (ms_runV (av := []) Cx hI 0 shX_0 (ci := 7) rfl rfl yvX7_lasts (metX7_lasts l Cx.2.2.2.2.2.2.2.2.1  h) ⟨rfl, rfl⟩ hl ⟨hf, hlo⟩ rfl hsz rfl hW ⟨Nat.zero_le _, Nat.zero_le _⟩ hd) kk
/-! X7 seen (II)I -/
theorem dX7_seen_0 : decode cX7_seen 0 = .ok (.iload_n 1, 1) := by decide +kernel
theorem dX7_seen_1 : decode cX7_seen 1 = .ok (.invokestatic 160, 3) := by decide +kernel
theorem dX7_seen_4 : decode cX7_seen 4 = .ok (.ifCond .eq 14, 3) := by decide +kernel
theorem dX7_seen_7 : decode cX7_seen 7 = .ok (.iload_n 2, 1) := by decide +kernel
theorem dX7_seen_8 : decode cX7_seen 8 = .ok (.iconst 0, 1) := by decide +kernel
theorem dX7_seen_9 : decode cX7_seen 9 = .ok (.sipush 999, 3) := by decide +kernel
theorem dX7_seen_12 : decode cX7_seen 12 = .ok (.invokestatic 82, 3) := by decide +kernel
theorem dX7_seen_15 : decode cX7_seen 15 = .ok (.ifCond .ne 6, 3) := by decide +kernel
theorem dX7_seen_18 : decode cX7_seen 18 = .ok (.bipush (-2), 2) := by decide +kernel
theorem dX7_seen_20 : decode cX7_seen 20 = .ok (.ireturn, 1) := by decide +kernel
theorem dX7_seen_21 : decode cX7_seen 21 = .ok (.aload_n 0, 1) := by decide +kernel
theorem dX7_seen_22 : decode cX7_seen 22 = .ok (.getfield 68, 3) := by decide +kernel
theorem dX7_seen_25 : decode cX7_seen 25 = .ok (.getfield 231, 3) := by decide +kernel
theorem dX7_seen_28 : decode cX7_seen 28 = .ok (.bipush 12, 2) := by decide +kernel
theorem dX7_seen_30 : decode cX7_seen 30 = .ok (.if_icmp .lt 6, 3) := by decide +kernel
theorem dX7_seen_33 : decode cX7_seen 33 = .ok (.bipush (-4), 2) := by decide +kernel
theorem dX7_seen_35 : decode cX7_seen 35 = .ok (.ireturn, 1) := by decide +kernel
theorem dX7_seen_36 : decode cX7_seen 36 = .ok (.aload_n 0, 1) := by decide +kernel
theorem dX7_seen_37 : decode cX7_seen 37 = .ok (.getfield 68, 3) := by decide +kernel
theorem dX7_seen_40 : decode cX7_seen 40 = .ok (.iload_n 1, 1) := by decide +kernel
theorem dX7_seen_41 : decode cX7_seen 41 = .ok (.iload_n 2, 1) := by decide +kernel
theorem dX7_seen_42 : decode cX7_seen 42 = .ok (.invokevirtual 232, 3) := by decide +kernel
theorem dX7_seen_45 : decode cX7_seen 45 = .ok (.aload_n 0, 1) := by decide +kernel
theorem dX7_seen_46 : decode cX7_seen 46 = .ok (.getfield 68, 3) := by decide +kernel
theorem dX7_seen_49 : decode cX7_seen 49 = .ok (.getfield 231, 3) := by decide +kernel
theorem dX7_seen_52 : decode cX7_seen 52 = .ok (.ireturn, 1) := by decide +kernel
abbrev rmX7_seen : Room := { frames := 2, cells := 0, slots := 0, locals := 42 }
set_option maxHeartbeats 4000000 in
set_option maxRecDepth 100000 in
theorem wX7_seen (Cx : ms_C p s m args meth c D cA a shX cX7_seen 3 RX7 (some .int)) (out : Int32 × Mm) : ∀ (p0 : Int32) (p1 : Int32) , ∀ (σ : Mm) (H : Heap) (locs : List Loc) (ls : Array Slot), ms_I D cA a shX s σ H locs → lv_has ls 3 [(0, .ref (a 0)), (1, .int p0), (2, .int p1)] → fX7_seen p0 p1 σ = some out → W p l e rmX7_seen s m args below meth c H locs 0 0 (MQ below (ms_Qi D cA a shX out.1 out.2) args s 0 0 (ms_A a shX.length)) (F0 m 0 ls []) := by
  have hx := Cx.1
  have hb := Cx.2.1
  intro p0 p1 σ H locs ls hI hl h
  unfold fX7_seen at h
  refine lv_iload_n hx hb dX7_seen_0 rfl (lv_at hl 1 rfl) ?_
  obtain ⟨r2, hc1, h⟩ := ms_bdE h
  refine kX7_isHour Cx hI hc1 (Or.inl wd_21_0) (Nat.le_of_ble_eq_true rfl) (Nat.le_of_ble_eq_true rfl) hl.1 (Nat.le_of_ble_eq_true rfl) dX7_seen_1 (fun H locs hI => ?_)
  refine lv_if_eq (tgt := 18) hx hb dX7_seen_4 rfl (fun hc => ?_) (fun hc => ?_)
  · have h := ms_ifT hc h
    refine lv_bipush (v := -2) hx hb dX7_seen_18 rfl ?_
    exact ms_riw Cx hI h dX7_seen_20
  · have h := ms_ifF hc h
    refine lv_iload_n hx hb dX7_seen_7 rfl (lv_at hl 2 rfl) ?_
    refine lv_iconst (v := 0) hx hb dX7_seen_8 rfl ?_
    refine lv_sipush (v := 999) hx hb dX7_seen_9 rfl ?_
    obtain ⟨r4, hc3, h⟩ := ms_bdE h
    refine kX7_within Cx hI hc3 (Or.inl wd_7_23) (Nat.le_of_ble_eq_true rfl) (Nat.le_of_ble_eq_true rfl) hl.1 (Nat.le_of_ble_eq_true rfl) dX7_seen_12 (fun H locs hI => ?_)
    refine lv_if_ne (tgt := 21) hx hb dX7_seen_15 rfl (fun hc => ?_) (fun hc => ?_)
    · have h := ms_ifF hc h
      refine lv_aload_n hx hb dX7_seen_21 rfl (lv_at hl 0 rfl) ?_
      refine gr_X7_8 Cx hI wd_2_22 dX7_seen_22 ?_
      refine gi_X5_3 Cx hI wd_33_4 dX7_seen_25 ?_
      refine lv_bipush (v := 12) hx hb dX7_seen_28 rfl ?_
      refine lv_icmp_lt (tgt := 36) hx hb dX7_seen_30 rfl (fun hc => ?_) (fun hc => ?_)
      · have h := ms_ifT hc h
        refine lv_aload_n hx hb dX7_seen_36 rfl (lv_at hl 0 rfl) ?_
        refine gr_X7_8 Cx hI wd_2_22 dX7_seen_37 ?_
        refine lv_iload_n hx hb dX7_seen_40 rfl (lv_at hl 1 rfl) ?_
        refine lv_iload_n hx hb dX7_seen_41 rfl (lv_at hl 2 rfl) ?_
        obtain ⟨σ6, hc5, h⟩ := ms_bdE h
        refine kX5_note Cx hI hc5 wd_33_5 (Nat.le_of_ble_eq_true rfl) (Nat.le_of_ble_eq_true rfl) hl.1 (Nat.le_of_ble_eq_true rfl) dX7_seen_42 (fun H locs hI => ?_)
        refine lv_aload_n hx hb dX7_seen_45 rfl (lv_at hl 0 rfl) ?_
        refine gr_X7_8 Cx hI wd_2_22 dX7_seen_46 ?_
        refine gi_X5_3 Cx hI wd_33_4 dX7_seen_49 ?_
        exact ms_riw Cx hI h dX7_seen_52
      · have h := ms_ifF hc h
        refine lv_bipush (v := -4) hx hb dX7_seen_33 rfl ?_
        exact ms_riw Cx hI h dX7_seen_35
    · have h := ms_ifT hc h
      refine lv_bipush (v := -2) hx hb dX7_seen_18 rfl ?_
      exact ms_riw Cx hI h dX7_seen_20
theorem yvX7_seen : ms_YV yX7_seen RX7 cX7_seen 3 (some .int) 2 := ⟨wd_33_1, wd_33_2, wd_1_2, wd_33_3, rfl, by decide +kernel, by decide +kernel, by decide +kernel⟩
set_option maxHeartbeats 4000000 in
theorem metX7_seen (l : Launch) (hDis : ms_Dis a shX.length) {σ : Mm} {p0 : Int32} {p1 : Int32} {out : Int32 × Mm} (h : fX7_seen p0 p1 σ = some out) : Met l yX7_seen (.code yX7_seen cX7_seen 3 (some .int) :: wsL_law) rmX7_seen (ms_Pc D cA a shX [.ref (a 0), .int p0, .int p1] σ) (ms_Qi D cA a shX out.1 out.2) 0 0 (ms_A a shX.length) := by
  refine Met.ofW (cc := cX7_seen) (maxL := 3) (ret := (some .int)) (by decide) rfl ?_
  intro p e s m args below meth c s₁ B hml hv
  obtain ⟨rfl, hK, hN, hP⟩ := hv
  have hl := lv_entry ([.ref (a 0), .int p0, .int p1]) (n := 3) (Nat.le_of_ble_eq_true rfl)
  rw [lg_entry_eq]
  generalize (lg_sl ([.ref (a 0), .int p0, .int p1]) ++ List.replicate (3 - (lg_sl ([.ref (a 0), .int p0, .int p1])).length) Slot.unset).toArray = ls at hl ⊢
  exact wX7_seen ⟨B.exec, B.bytes, hml, findClass_of_methodNamed B.named, fun w hw => atoms_spec (ws := .code yX7_seen cX7_seen 3 (some .int) :: wsL_law) B.pre w (List.mem_cons_of_mem _ hw), B.returns, B.notSynchronized, hK, hDis, hN⟩ out p0 p1 σ s.heap [] ls ⟨hP, va_S.rf⟩ hl h
theorem kX7_seen (Cx : ms_C p s m args meth c D cA a shX cc nL own ret) {σ : Mm} {H : Heap} {locs : List Loc} (hI : ms_I D cA a shX s σ H locs) {p0 : Int32} {p1 : Int32} {out : Int32 × Mm} (h : fX7_seen p0 p1 σ = some out) (hl : Cond.methodLink own idx yX7_seen ∈ wsL_law) (hf : 2 + 1 ≤ R.frames) (hlo : 8 + (3 + 11) + 42 ≤ R.locals) (hsz : ls.size = nL) (hW : (rest.map fun v => v.category).sum ≤ 8) (hd : decode cc pc = .ok (.invokevirtual idx, 3)) (kk : ∀ (H1 : Heap) (locs1 : List Loc), ms_I D cA a shX s out.2 H1 locs1 → W p l e R s m args below meth c H1 locs1 0 0 Q (F0 m (pc + 3) ls (.int out.1 :: rest))) : W p l e R s m args below meth c H locs 0 0 Q (F0 m pc ls (.int p1 :: .int p0 :: .ref (a 0) :: rest)) :=
  ms_ci hI (ms_runV (av := [.int p0, .int p1]) Cx hI 0 shX_0 (ci := 7) rfl rfl yvX7_seen (metX7_seen l Cx.2.2.2.2.2.2.2.2.1  h) ⟨rfl, rfl⟩ hl ⟨hf, hlo⟩ rfl hsz rfl hW ⟨Nat.zero_le _, Nat.zero_le _⟩ hd) kk
/-! X7 forget ()I -/
theorem dX7_forget_0 : decode cX7_forget 0 = .ok (.aload_n 0, 1) := by decide +kernel
theorem dX7_forget_1 : decode cX7_forget 1 = .ok (.getfield 68, 3) := by decide +kernel
theorem dX7_forget_4 : decode cX7_forget 4 = .ok (.getfield 231, 3) := by decide +kernel
theorem dX7_forget_7 : decode cX7_forget 7 = .ok (.istore_n 1, 1) := by decide +kernel
theorem dX7_forget_8 : decode cX7_forget 8 = .ok (.aload_n 0, 1) := by decide +kernel
theorem dX7_forget_9 : decode cX7_forget 9 = .ok (.getfield 68, 3) := by decide +kernel
theorem dX7_forget_12 : decode cX7_forget 12 = .ok (.invokevirtual 235, 3) := by decide +kernel
theorem dX7_forget_15 : decode cX7_forget 15 = .ok (.iload_n 1, 1) := by decide +kernel
theorem dX7_forget_16 : decode cX7_forget 16 = .ok (.ireturn, 1) := by decide +kernel
abbrev rmX7_forget : Room := { frames := 1, cells := 0, slots := 0, locals := 20 }
set_option maxHeartbeats 4000000 in
set_option maxRecDepth 100000 in
theorem wX7_forget (Cx : ms_C p s m args meth c D cA a shX cX7_forget 2 RX7 (some .int)) (out : Int32 × Mm) : ∀ (σ : Mm) (H : Heap) (locs : List Loc) (ls : Array Slot), ms_I D cA a shX s σ H locs → lv_has ls 2 [(0, .ref (a 0))] → fX7_forget σ = some out → W p l e rmX7_forget s m args below meth c H locs 0 0 (MQ below (ms_Qi D cA a shX out.1 out.2) args s 0 0 (ms_A a shX.length)) (F0 m 0 ls []) := by
  have hx := Cx.1
  have hb := Cx.2.1
  intro σ H locs ls hI hl h
  unfold fX7_forget at h
  refine lv_aload_n hx hb dX7_forget_0 rfl (lv_at hl 0 rfl) ?_
  refine gr_X7_8 Cx hI wd_2_22 dX7_forget_1 ?_
  refine gi_X5_3 Cx hI wd_33_4 dX7_forget_4 ?_
  refine lv_istore_n (lv' := [(1, .int (σ 22 3)), (0, .ref (a 0))]) hx hb dX7_forget_7 rfl hl (by decide) rfl (fun ls hl => ?_)
  refine lv_aload_n hx hb dX7_forget_8 rfl (lv_at hl 1 rfl) ?_
  refine gr_X7_8 Cx hI wd_2_22 dX7_forget_9 ?_
  obtain ⟨σ2, hc1, h⟩ := ms_bdE h
  refine kX5_clearNotes Cx hI hc1 wd_33_18 (Nat.le_of_ble_eq_true rfl) (Nat.le_of_ble_eq_true rfl) hl.1 (Nat.le_of_ble_eq_true rfl) dX7_forget_12 (fun H locs hI => ?_)
  refine lv_iload_n hx hb dX7_forget_15 rfl (lv_at hl 0 rfl) ?_
  exact ms_riw Cx hI h dX7_forget_16
theorem yvX7_forget : ms_YV yX7_forget RX7 cX7_forget 2 (some .int) 0 := ⟨wd_33_15, wd_33_16, wd_1_2, wd_33_17, rfl, by decide +kernel, by decide +kernel, by decide +kernel⟩
set_option maxHeartbeats 4000000 in
theorem metX7_forget (l : Launch) (hDis : ms_Dis a shX.length) {σ : Mm} {out : Int32 × Mm} (h : fX7_forget σ = some out) : Met l yX7_forget (.code yX7_forget cX7_forget 2 (some .int) :: wsL_law) rmX7_forget (ms_Pc D cA a shX [.ref (a 0)] σ) (ms_Qi D cA a shX out.1 out.2) 0 0 (ms_A a shX.length) := by
  refine Met.ofW (cc := cX7_forget) (maxL := 2) (ret := (some .int)) (by decide) rfl ?_
  intro p e s m args below meth c s₁ B hml hv
  obtain ⟨rfl, hK, hN, hP⟩ := hv
  have hl := lv_entry ([.ref (a 0)]) (n := 2) (Nat.le_of_ble_eq_true rfl)
  rw [lg_entry_eq]
  generalize (lg_sl ([.ref (a 0)]) ++ List.replicate (2 - (lg_sl ([.ref (a 0)])).length) Slot.unset).toArray = ls at hl ⊢
  exact wX7_forget ⟨B.exec, B.bytes, hml, findClass_of_methodNamed B.named, fun w hw => atoms_spec (ws := .code yX7_forget cX7_forget 2 (some .int) :: wsL_law) B.pre w (List.mem_cons_of_mem _ hw), B.returns, B.notSynchronized, hK, hDis, hN⟩ out σ s.heap [] ls ⟨hP, va_S.rf⟩ hl h
theorem kX7_forget (Cx : ms_C p s m args meth c D cA a shX cc nL own ret) {σ : Mm} {H : Heap} {locs : List Loc} (hI : ms_I D cA a shX s σ H locs) {out : Int32 × Mm} (h : fX7_forget σ = some out) (hl : Cond.methodLink own idx yX7_forget ∈ wsL_law) (hf : 1 + 1 ≤ R.frames) (hlo : 8 + (2 + 11) + 20 ≤ R.locals) (hsz : ls.size = nL) (hW : (rest.map fun v => v.category).sum ≤ 8) (hd : decode cc pc = .ok (.invokevirtual idx, 3)) (kk : ∀ (H1 : Heap) (locs1 : List Loc), ms_I D cA a shX s out.2 H1 locs1 → W p l e R s m args below meth c H1 locs1 0 0 Q (F0 m (pc + 3) ls (.int out.1 :: rest))) : W p l e R s m args below meth c H locs 0 0 Q (F0 m pc ls (.ref (a 0) :: rest)) :=
  ms_ci hI (ms_runV (av := []) Cx hI 0 shX_0 (ci := 7) rfl rfl yvX7_forget (metX7_forget l Cx.2.2.2.2.2.2.2.2.1  h) ⟨rfl, rfl⟩ hl ⟨hf, hlo⟩ rfl hsz rfl hW ⟨Nat.zero_le _, Nat.zero_le _⟩ hd) kk
/-! X7 unlike ()I -/
theorem dX7_unlike_0 : decode cX7_unlike 0 = .ok (.aload_n 0, 1) := by decide +kernel
theorem dX7_unlike_1 : decode cX7_unlike 1 = .ok (.invokevirtual 163, 3) := by decide +kernel
theorem dX7_unlike_4 : decode cX7_unlike 4 = .ok (.aload_n 0, 1) := by decide +kernel
theorem dX7_unlike_5 : decode cX7_unlike 5 = .ok (.getfield 68, 3) := by decide +kernel
theorem dX7_unlike_8 : decode cX7_unlike 8 = .ok (.aload_n 0, 1) := by decide +kernel
theorem dX7_unlike_9 : decode cX7_unlike 9 = .ok (.getfield 54, 3) := by decide +kernel
theorem dX7_unlike_12 : decode cX7_unlike 12 = .ok (.getfield 166, 3) := by decide +kernel
theorem dX7_unlike_15 : decode cX7_unlike 15 = .ok (.invokevirtual 238, 3) := by decide +kernel
theorem dX7_unlike_18 : decode cX7_unlike 18 = .ok (.ireturn, 1) := by decide +kernel
abbrev rmX7_unlike : Room := { frames := 6, cells := 0, slots := 0, locals := 139 }
set_option maxHeartbeats 4000000 in
set_option maxRecDepth 100000 in
theorem wX7_unlike (Cx : ms_C p s m args meth c D cA a shX cX7_unlike 1 RX7 (some .int)) (out : Int32 × Mm) : ∀ (σ : Mm) (H : Heap) (locs : List Loc) (ls : Array Slot), ms_I D cA a shX s σ H locs → lv_has ls 1 [(0, .ref (a 0))] → fX7_unlike σ = some out → W p l e rmX7_unlike s m args below meth c H locs 0 0 (MQ below (ms_Qi D cA a shX out.1 out.2) args s 0 0 (ms_A a shX.length)) (F0 m 0 ls []) := by
  have hx := Cx.1
  have hb := Cx.2.1
  intro σ H locs ls hI hl h
  unfold fX7_unlike at h
  refine lv_aload_n hx hb dX7_unlike_0 rfl (lv_at hl 0 rfl) ?_
  obtain ⟨σ2, hc1, h⟩ := ms_bdE h
  refine kX7_recordDays Cx hI hc1 wd_21_3 (Nat.le_of_ble_eq_true rfl) (Nat.le_of_ble_eq_true rfl) hl.1 (Nat.le_of_ble_eq_true rfl) dX7_unlike_1 (fun H locs hI => ?_)
  refine lv_aload_n hx hb dX7_unlike_4 rfl (lv_at hl 0 rfl) ?_
  refine gr_X7_8 Cx hI wd_2_22 dX7_unlike_5 ?_
  refine lv_aload_n hx hb dX7_unlike_8 rfl (lv_at hl 0 rfl) ?_
  refine gr_X7_6 Cx hI wd_2_14 dX7_unlike_9 ?_
  refine gr_X0_0 Cx hI wd_20_22 dX7_unlike_12 ?_
  obtain ⟨r4, hc3, h⟩ := ms_bdE h
  refine kX5_differing Cx hI hc3 wd_34_6 (Nat.le_of_ble_eq_true rfl) (Nat.le_of_ble_eq_true rfl) hl.1 (Nat.le_of_ble_eq_true rfl) dX7_unlike_15 (fun H locs hI => ?_)
  exact ms_riw Cx hI h dX7_unlike_18
theorem yvX7_unlike : ms_YV yX7_unlike RX7 cX7_unlike 1 (some .int) 0 := ⟨wd_34_3, wd_34_4, wd_1_2, wd_34_5, rfl, by decide +kernel, by decide +kernel, by decide +kernel⟩
set_option maxHeartbeats 4000000 in
theorem metX7_unlike (l : Launch) (hDis : ms_Dis a shX.length) {σ : Mm} {out : Int32 × Mm} (h : fX7_unlike σ = some out) : Met l yX7_unlike (.code yX7_unlike cX7_unlike 1 (some .int) :: wsL_law) rmX7_unlike (ms_Pc D cA a shX [.ref (a 0)] σ) (ms_Qi D cA a shX out.1 out.2) 0 0 (ms_A a shX.length) := by
  refine Met.ofW (cc := cX7_unlike) (maxL := 1) (ret := (some .int)) (by decide) rfl ?_
  intro p e s m args below meth c s₁ B hml hv
  obtain ⟨rfl, hK, hN, hP⟩ := hv
  have hl := lv_entry ([.ref (a 0)]) (n := 1) (Nat.le_of_ble_eq_true rfl)
  rw [lg_entry_eq]
  generalize (lg_sl ([.ref (a 0)]) ++ List.replicate (1 - (lg_sl ([.ref (a 0)])).length) Slot.unset).toArray = ls at hl ⊢
  exact wX7_unlike ⟨B.exec, B.bytes, hml, findClass_of_methodNamed B.named, fun w hw => atoms_spec (ws := .code yX7_unlike cX7_unlike 1 (some .int) :: wsL_law) B.pre w (List.mem_cons_of_mem _ hw), B.returns, B.notSynchronized, hK, hDis, hN⟩ out σ s.heap [] ls ⟨hP, va_S.rf⟩ hl h
theorem kX7_unlike (Cx : ms_C p s m args meth c D cA a shX cc nL own ret) {σ : Mm} {H : Heap} {locs : List Loc} (hI : ms_I D cA a shX s σ H locs) {out : Int32 × Mm} (h : fX7_unlike σ = some out) (hl : Cond.methodLink own idx yX7_unlike ∈ wsL_law) (hf : 6 + 1 ≤ R.frames) (hlo : 8 + (1 + 11) + 139 ≤ R.locals) (hsz : ls.size = nL) (hW : (rest.map fun v => v.category).sum ≤ 8) (hd : decode cc pc = .ok (.invokevirtual idx, 3)) (kk : ∀ (H1 : Heap) (locs1 : List Loc), ms_I D cA a shX s out.2 H1 locs1 → W p l e R s m args below meth c H1 locs1 0 0 Q (F0 m (pc + 3) ls (.int out.1 :: rest))) : W p l e R s m args below meth c H locs 0 0 Q (F0 m pc ls (.ref (a 0) :: rest)) :=
  ms_ci hI (ms_runV (av := []) Cx hI 0 shX_0 (ci := 7) rfl rfl yvX7_unlike (metX7_unlike l Cx.2.2.2.2.2.2.2.2.1  h) ⟨rfl, rfl⟩ hl ⟨hf, hlo⟩ rfl hsz rfl hW ⟨Nat.zero_le _, Nat.zero_le _⟩ hd) kk
/-! X7 thief (I)I -/
theorem dX7_thief_0 : decode cX7_thief 0 = .ok (.iload_n 1, 1) := by decide +kernel
theorem dX7_thief_1 : decode cX7_thief 1 = .ok (.iconst 0, 1) := by decide +kernel
theorem dX7_thief_2 : decode cX7_thief 2 = .ok (.iconst 1, 1) := by decide +kernel
theorem dX7_thief_3 : decode cX7_thief 3 = .ok (.invokestatic 82, 3) := by decide +kernel
theorem dX7_thief_6 : decode cX7_thief 6 = .ok (.ifCond .ne 6, 3) := by decide +kernel
theorem dX7_thief_9 : decode cX7_thief 9 = .ok (.bipush (-2), 2) := by decide +kernel
theorem dX7_thief_11 : decode cX7_thief 11 = .ok (.ireturn, 1) := by decide +kernel
theorem dX7_thief_12 : decode cX7_thief 12 = .ok (.aload_n 0, 1) := by decide +kernel
theorem dX7_thief_13 : decode cX7_thief 13 = .ok (.getfield 68, 3) := by decide +kernel
theorem dX7_thief_16 : decode cX7_thief 16 = .ok (.getfield 242, 3) := by decide +kernel
theorem dX7_thief_19 : decode cX7_thief 19 = .ok (.ifCond .ne 29, 3) := by decide +kernel
theorem dX7_thief_22 : decode cX7_thief 22 = .ok (.aload_n 0, 1) := by decide +kernel
theorem dX7_thief_23 : decode cX7_thief 23 = .ok (.aload_n 0, 1) := by decide +kernel
theorem dX7_thief_24 : decode cX7_thief 24 = .ok (.getfield 12, 3) := by decide +kernel
theorem dX7_thief_27 : decode cX7_thief 27 = .ok (.getfield 113, 3) := by decide +kernel
theorem dX7_thief_30 : decode cX7_thief 30 = .ok (.aload_n 0, 1) := by decide +kernel
theorem dX7_thief_31 : decode cX7_thief 31 = .ok (.getfield 31, 3) := by decide +kernel
theorem dX7_thief_34 : decode cX7_thief 34 = .ok (.invokevirtual 198, 3) := by decide +kernel
theorem dX7_thief_37 : decode cX7_thief 37 = .ok (.aload_n 0, 1) := by decide +kernel
theorem dX7_thief_38 : decode cX7_thief 38 = .ok (.getfield 68, 3) := by decide +kernel
theorem dX7_thief_41 : decode cX7_thief 41 = .ok (.aload_n 0, 1) := by decide +kernel
theorem dX7_thief_42 : decode cX7_thief 42 = .ok (.getfield 47, 3) := by decide +kernel
theorem dX7_thief_45 : decode cX7_thief 45 = .ok (.invokevirtual 243, 3) := by decide +kernel
theorem dX7_thief_48 : decode cX7_thief 48 = .ok (.iload_n 1, 1) := by decide +kernel
theorem dX7_thief_49 : decode cX7_thief 49 = .ok (.ifCond .ne 13, 3) := by decide +kernel
theorem dX7_thief_52 : decode cX7_thief 52 = .ok (.aload_n 0, 1) := by decide +kernel
theorem dX7_thief_53 : decode cX7_thief 53 = .ok (.getfield 68, 3) := by decide +kernel
theorem dX7_thief_56 : decode cX7_thief 56 = .ok (.getfield 246, 3) := by decide +kernel
theorem dX7_thief_59 : decode cX7_thief 59 = .ok (.goto 10, 3) := by decide +kernel
theorem dX7_thief_62 : decode cX7_thief 62 = .ok (.aload_n 0, 1) := by decide +kernel
theorem dX7_thief_63 : decode cX7_thief 63 = .ok (.getfield 68, 3) := by decide +kernel
theorem dX7_thief_66 : decode cX7_thief 66 = .ok (.getfield 249, 3) := by decide +kernel
theorem dX7_thief_69 : decode cX7_thief 69 = .ok (.ireturn, 1) := by decide +kernel
abbrev rmX7_thief : Room := { frames := 5, cells := 0, slots := 0, locals := 119 }
set_option maxHeartbeats 4000000 in
set_option maxRecDepth 100000 in
theorem wX7_thief_48 (Cx : ms_C p s m args meth c D cA a shX cX7_thief 2 RX7 (some .int)) (out : Int32 × Mm) : ∀ (y1 : Int32) , ∀ (σ : Mm) (H : Heap) (locs : List Loc) (ls : Array Slot), ms_I D cA a shX s σ H locs → lv_has ls 2 [(0, .ref (a 0)), (1, .int y1)] → fX7_thief_48 y1 σ = some out → W p l e rmX7_thief s m args below meth c H locs 0 0 (MQ below (ms_Qi D cA a shX out.1 out.2) args s 0 0 (ms_A a shX.length)) (F0 m 48 ls []) := by
  have hx := Cx.1
  have hb := Cx.2.1
  intro y1 σ H locs ls hI hl h
  unfold fX7_thief_48 at h
  refine lv_iload_n hx hb dX7_thief_48 rfl (lv_at hl 1 rfl) ?_
  refine lv_if_ne (tgt := 62) hx hb dX7_thief_49 rfl (fun hc => ?_) (fun hc => ?_)
  · have h := ms_ifF hc h
    refine lv_aload_n hx hb dX7_thief_62 rfl (lv_at hl 0 rfl) ?_
    refine gr_X7_8 Cx hI wd_2_22 dX7_thief_63 ?_
    refine gi_X5_7 Cx hI wd_35_3 dX7_thief_66 ?_
    exact ms_riw Cx hI h dX7_thief_69
  · have h := ms_ifT hc h
    refine lv_aload_n hx hb dX7_thief_52 rfl (lv_at hl 0 rfl) ?_
    refine gr_X7_8 Cx hI wd_2_22 dX7_thief_53 ?_
    refine gi_X5_6 Cx hI wd_35_2 dX7_thief_56 ?_
    refine lv_goto (tgt := 69) hx hb dX7_thief_59 rfl ?_
    exact ms_riw Cx hI h dX7_thief_69
set_option maxHeartbeats 4000000 in
set_option maxRecDepth 100000 in
theorem wX7_thief (Cx : ms_C p s m args meth c D cA a shX cX7_thief 2 RX7 (some .int)) (out : Int32 × Mm) : ∀ (p0 : Int32) , ∀ (σ : Mm) (H : Heap) (locs : List Loc) (ls : Array Slot), ms_I D cA a shX s σ H locs → lv_has ls 2 [(0, .ref (a 0)), (1, .int p0)] → fX7_thief p0 σ = some out → W p l e rmX7_thief s m args below meth c H locs 0 0 (MQ below (ms_Qi D cA a shX out.1 out.2) args s 0 0 (ms_A a shX.length)) (F0 m 0 ls []) := by
  have hx := Cx.1
  have hb := Cx.2.1
  intro p0 σ H locs ls hI hl h
  unfold fX7_thief at h
  refine lv_iload_n hx hb dX7_thief_0 rfl (lv_at hl 1 rfl) ?_
  refine lv_iconst (v := 0) hx hb dX7_thief_1 rfl ?_
  refine lv_iconst (v := 1) hx hb dX7_thief_2 rfl ?_
  obtain ⟨r2, hc1, h⟩ := ms_bdE h
  refine kX7_within Cx hI hc1 (Or.inl wd_7_23) (Nat.le_of_ble_eq_true rfl) (Nat.le_of_ble_eq_true rfl) hl.1 (Nat.le_of_ble_eq_true rfl) dX7_thief_3 (fun H locs hI => ?_)
  refine lv_if_ne (tgt := 12) hx hb dX7_thief_6 rfl (fun hc => ?_) (fun hc => ?_)
  · have h := ms_ifF hc h
    refine lv_aload_n hx hb dX7_thief_12 rfl (lv_at hl 0 rfl) ?_
    refine gr_X7_8 Cx hI wd_2_22 dX7_thief_13 ?_
    refine gi_X5_8 Cx hI wd_10_14 dX7_thief_16 ?_
    refine lv_if_ne (tgt := 48) hx hb dX7_thief_19 rfl (fun hc => ?_) (fun hc => ?_)
    · have h := ms_ifF hc h
      exact wX7_thief_48 Cx out  p0 σ _ _ _ hI (lv_sub hl [0, 1] rfl) h
    · have h := ms_ifT hc h
      refine lv_aload_n hx hb dX7_thief_22 rfl (lv_at hl 0 rfl) ?_
      refine lv_aload_n hx hb dX7_thief_23 rfl (lv_at hl 0 rfl) ?_
      refine gr_X7_0 Cx hI wd_1_15 dX7_thief_24 ?_
      refine gi_X4_6 Cx hI wd_14_11 dX7_thief_27 ?_
      refine lv_aload_n hx hb dX7_thief_30 rfl (lv_at hl 0 rfl) ?_
      refine gi_X7_3 Cx hI wd_2_2 dX7_thief_31 ?_
      obtain ⟨σ4, hc3, h⟩ := ms_bdE h
      refine kX7_makeReady Cx hI hc3 wd_21_7 (Nat.le_of_ble_eq_true rfl) (Nat.le_of_ble_eq_true rfl) hl.1 (Nat.le_of_ble_eq_true rfl) dX7_thief_34 (fun H locs hI => ?_)
      refine lv_aload_n hx hb dX7_thief_37 rfl (lv_at hl 0 rfl) ?_
      refine gr_X7_8 Cx hI wd_2_22 dX7_thief_38 ?_
      refine lv_aload_n hx hb dX7_thief_41 rfl (lv_at hl 0 rfl) ?_
      refine gr_X7_5 Cx hI wd_2_10 dX7_thief_42 ?_
      obtain ⟨σ6, hc5, h⟩ := ms_bdE h
      refine kX5_search Cx hI hc5 wd_35_4 (Nat.le_of_ble_eq_true rfl) (Nat.le_of_ble_eq_true rfl) hl.1 (Nat.le_of_ble_eq_true rfl) dX7_thief_45 (fun H locs hI => ?_)
      exact wX7_thief_48 Cx out  p0 σ6 _ _ _ hI (lv_sub hl [0, 1] rfl) h
  · have h := ms_ifT hc h
    refine lv_bipush (v := -2) hx hb dX7_thief_9 rfl ?_
    exact ms_riw Cx hI h dX7_thief_11
theorem yvX7_thief : ms_YV yX7_thief RX7 cX7_thief 2 (some .int) 1 := ⟨wd_34_23, wd_35_0, wd_1_2, wd_35_1, rfl, by decide +kernel, by decide +kernel, by decide +kernel⟩
set_option maxHeartbeats 4000000 in
theorem metX7_thief (l : Launch) (hDis : ms_Dis a shX.length) {σ : Mm} {p0 : Int32} {out : Int32 × Mm} (h : fX7_thief p0 σ = some out) : Met l yX7_thief (.code yX7_thief cX7_thief 2 (some .int) :: wsL_law) rmX7_thief (ms_Pc D cA a shX [.ref (a 0), .int p0] σ) (ms_Qi D cA a shX out.1 out.2) 0 0 (ms_A a shX.length) := by
  refine Met.ofW (cc := cX7_thief) (maxL := 2) (ret := (some .int)) (by decide) rfl ?_
  intro p e s m args below meth c s₁ B hml hv
  obtain ⟨rfl, hK, hN, hP⟩ := hv
  have hl := lv_entry ([.ref (a 0), .int p0]) (n := 2) (Nat.le_of_ble_eq_true rfl)
  rw [lg_entry_eq]
  generalize (lg_sl ([.ref (a 0), .int p0]) ++ List.replicate (2 - (lg_sl ([.ref (a 0), .int p0])).length) Slot.unset).toArray = ls at hl ⊢
  exact wX7_thief ⟨B.exec, B.bytes, hml, findClass_of_methodNamed B.named, fun w hw => atoms_spec (ws := .code yX7_thief cX7_thief 2 (some .int) :: wsL_law) B.pre w (List.mem_cons_of_mem _ hw), B.returns, B.notSynchronized, hK, hDis, hN⟩ out p0 σ s.heap [] ls ⟨hP, va_S.rf⟩ hl h
theorem kX7_thief (Cx : ms_C p s m args meth c D cA a shX cc nL own ret) {σ : Mm} {H : Heap} {locs : List Loc} (hI : ms_I D cA a shX s σ H locs) {p0 : Int32} {out : Int32 × Mm} (h : fX7_thief p0 σ = some out) (hl : Cond.methodLink own idx yX7_thief ∈ wsL_law) (hf : 5 + 1 ≤ R.frames) (hlo : 8 + (2 + 11) + 119 ≤ R.locals) (hsz : ls.size = nL) (hW : (rest.map fun v => v.category).sum ≤ 8) (hd : decode cc pc = .ok (.invokevirtual idx, 3)) (kk : ∀ (H1 : Heap) (locs1 : List Loc), ms_I D cA a shX s out.2 H1 locs1 → W p l e R s m args below meth c H1 locs1 0 0 Q (F0 m (pc + 3) ls (.int out.1 :: rest))) : W p l e R s m args below meth c H locs 0 0 Q (F0 m pc ls (.int p0 :: .ref (a 0) :: rest)) :=
  ms_ci hI (ms_runV (av := [.int p0]) Cx hI 0 shX_0 (ci := 7) rfl rfl yvX7_thief (metX7_thief l Cx.2.2.2.2.2.2.2.2.1  h) ⟨rfl, rfl⟩ hl ⟨hf, hlo⟩ rfl hsz rfl hW ⟨Nat.zero_le _, Nat.zero_le _⟩ hd) kk
/-! X7 robbed (III)I -/
theorem dX7_robbed_0 : decode cX7_robbed 0 = .ok (.iload_n 1, 1) := by decide +kernel
theorem dX7_robbed_1 : decode cX7_robbed 1 = .ok (.iconst 0, 1) := by decide +kernel
theorem dX7_robbed_2 : decode cX7_robbed 2 = .ok (.bipush 23, 2) := by decide +kernel
theorem dX7_robbed_4 : decode cX7_robbed 4 = .ok (.invokestatic 82, 3) := by decide +kernel
theorem dX7_robbed_7 : decode cX7_robbed 7 = .ok (.ifCond .eq 20, 3) := by decide +kernel
theorem dX7_robbed_10 : decode cX7_robbed 10 = .ok (.iload_n 2, 1) := by decide +kernel
theorem dX7_robbed_11 : decode cX7_robbed 11 = .ok (.iconst 0, 1) := by decide +kernel
theorem dX7_robbed_12 : decode cX7_robbed 12 = .ok (.bipush 40, 2) := by decide +kernel
theorem dX7_robbed_14 : decode cX7_robbed 14 = .ok (.invokestatic 82, 3) := by decide +kernel
theorem dX7_robbed_17 : decode cX7_robbed 17 = .ok (.ifCond .eq 10, 3) := by decide +kernel
theorem dX7_robbed_20 : decode cX7_robbed 20 = .ok (.iload_n 3, 1) := by decide +kernel
theorem dX7_robbed_21 : decode cX7_robbed 21 = .ok (.invokestatic 160, 3) := by decide +kernel
theorem dX7_robbed_24 : decode cX7_robbed 24 = .ok (.ifCond .ne 6, 3) := by decide +kernel
theorem dX7_robbed_27 : decode cX7_robbed 27 = .ok (.bipush (-2), 2) := by decide +kernel
theorem dX7_robbed_29 : decode cX7_robbed 29 = .ok (.ireturn, 1) := by decide +kernel
theorem dX7_robbed_30 : decode cX7_robbed 30 = .ok (.aload_n 0, 1) := by decide +kernel
theorem dX7_robbed_31 : decode cX7_robbed 31 = .ok (.aload_n 0, 1) := by decide +kernel
theorem dX7_robbed_32 : decode cX7_robbed 32 = .ok (.getfield 12, 3) := by decide +kernel
theorem dX7_robbed_35 : decode cX7_robbed 35 = .ok (.getfield 113, 3) := by decide +kernel
theorem dX7_robbed_38 : decode cX7_robbed 38 = .ok (.aload_n 0, 1) := by decide +kernel
theorem dX7_robbed_39 : decode cX7_robbed 39 = .ok (.getfield 31, 3) := by decide +kernel
theorem dX7_robbed_42 : decode cX7_robbed 42 = .ok (.invokevirtual 198, 3) := by decide +kernel
theorem dX7_robbed_45 : decode cX7_robbed 45 = .ok (.aload_n 0, 1) := by decide +kernel
theorem dX7_robbed_46 : decode cX7_robbed 46 = .ok (.getfield 47, 3) := by decide +kernel
theorem dX7_robbed_49 : decode cX7_robbed 49 = .ok (.iload_n 1, 1) := by decide +kernel
theorem dX7_robbed_50 : decode cX7_robbed 50 = .ok (.iload_n 2, 1) := by decide +kernel
theorem dX7_robbed_51 : decode cX7_robbed 51 = .ok (.invokevirtual 252, 3) := by decide +kernel
theorem dX7_robbed_54 : decode cX7_robbed 54 = .ok (.aload_n 0, 1) := by decide +kernel
theorem dX7_robbed_55 : decode cX7_robbed 55 = .ok (.getfield 47, 3) := by decide +kernel
theorem dX7_robbed_58 : decode cX7_robbed 58 = .ok (.invokevirtual 255, 3) := by decide +kernel
theorem dX7_robbed_61 : decode cX7_robbed 61 = .ok (.iconst 0, 1) := by decide +kernel
theorem dX7_robbed_62 : decode cX7_robbed 62 = .ok (.istore 4, 2) := by decide +kernel
theorem dX7_robbed_64 : decode cX7_robbed 64 = .ok (.iload 4, 2) := by decide +kernel
theorem dX7_robbed_66 : decode cX7_robbed 66 = .ok (.iload_n 3, 1) := by decide +kernel
theorem dX7_robbed_67 : decode cX7_robbed 67 = .ok (.if_icmp .gt 21, 3) := by decide +kernel
theorem dX7_robbed_70 : decode cX7_robbed 70 = .ok (.aload_n 0, 1) := by decide +kernel
theorem dX7_robbed_71 : decode cX7_robbed 71 = .ok (.getfield 47, 3) := by decide +kernel
theorem dX7_robbed_74 : decode cX7_robbed 74 = .ok (.iload 4, 2) := by decide +kernel
theorem dX7_robbed_76 : decode cX7_robbed 76 = .ok (.bipush 24, 2) := by decide +kernel
theorem dX7_robbed_78 : decode cX7_robbed 78 = .ok (.irem, 1) := by decide +kernel
theorem dX7_robbed_79 : decode cX7_robbed 79 = .ok (.invokevirtual 258, 3) := by decide +kernel
theorem dX7_robbed_82 : decode cX7_robbed 82 = .ok (.iinc 4 1, 3) := by decide +kernel
theorem dX7_robbed_85 : decode cX7_robbed 85 = .ok (.goto (-21), 3) := by decide +kernel
theorem dX7_robbed_88 : decode cX7_robbed 88 = .ok (.aload_n 0, 1) := by decide +kernel
theorem dX7_robbed_89 : decode cX7_robbed 89 = .ok (.getfield 47, 3) := by decide +kernel
theorem dX7_robbed_92 : decode cX7_robbed 92 = .ok (.getfield 261, 3) := by decide +kernel
theorem dX7_robbed_95 : decode cX7_robbed 95 = .ok (.ireturn, 1) := by decide +kernel
abbrev rmX7_robbed : Room := { frames := 5, cells := 0, slots := 0, locals := 119 }
set_option maxHeartbeats 4000000 in
set_option maxRecDepth 100000 in
theorem wX7_robbed_64 (Cx : ms_C p s m args meth c D cA a shX cX7_robbed 5 RX7 (some .int)) (out : Int32 × Mm) : ∀ (n : Nat), ∀ (y1 : Int32) (y2 : Int32) , ∀ (σ : Mm) (H : Heap) (locs : List Loc) (ls : Array Slot), ms_I D cA a shX s σ H locs → lv_has ls 5 [(0, .ref (a 0)), (3, .int y1), (4, .int y2)] → fX7_robbed_64 n y1 y2 σ = some out → W p l e rmX7_robbed s m args below meth c H locs 0 0 (MQ below (ms_Qi D cA a shX out.1 out.2) args s 0 0 (ms_A a shX.length)) (F0 m 64 ls []) := by
  have hx := Cx.1
  have hb := Cx.2.1
  intro n
  induction n with
  | zero =>
    intro y1 y2 σ H locs ls hI hl h
    exact nomatch (show none = some out from h)
  | succ n ih =>
    intro y1 y2 σ H locs ls hI hl h
    rw [fX7_robbed_64] at h
    refine lv_iload hx hb dX7_robbed_64 (lv_at hl 2 rfl) ?_
    refine lv_iload_n hx hb dX7_robbed_66 rfl (lv_at hl 1 rfl) ?_
    refine lv_icmp_gt (tgt := 88) hx hb dX7_robbed_67 rfl (fun hc => ?_) (fun hc => ?_)
    · have h := ms_ifT hc h
      refine lv_aload_n hx hb dX7_robbed_88 rfl (lv_at hl 0 rfl) ?_
      refine gr_X7_5 Cx hI wd_2_10 dX7_robbed_89 ?_
      refine gi_X3_12 Cx hI wd_36_8 dX7_robbed_92 ?_
      exact ms_riw Cx hI h dX7_robbed_95
    · have h := ms_ifF hc h
      refine lv_aload_n hx hb dX7_robbed_70 rfl (lv_at hl 0 rfl) ?_
      refine gr_X7_5 Cx hI wd_2_10 dX7_robbed_71 ?_
      refine lv_iload hx hb dX7_robbed_74 (lv_at hl 2 rfl) ?_
      refine lv_bipush (v := 24) hx hb dX7_robbed_76 rfl ?_
      refine ms_lrem hx hb dX7_robbed_78 (by decide) ?_
      obtain ⟨σ2, hc1, h⟩ := ms_bdE h
      refine kX3_turn Cx hI hc1 wd_36_10 (Nat.le_of_ble_eq_true rfl) (Nat.le_of_ble_eq_true rfl) hl.1 (Nat.le_of_ble_eq_true rfl) dX7_robbed_79 (fun H locs hI => ?_)
      refine lv_iinc (v := y2 + 1) (lv' := [(4, .int (y2 + 1)), (0, .ref (a 0)), (3, .int y1)]) hx hb dX7_robbed_82 hl (k := 2) rfl rfl (by decide) rfl (fun ls hl => ?_)
      refine lv_goto (tgt := 64) hx hb dX7_robbed_85 rfl ?_
      exact ih y1 (y2 + 1) σ2 _ _ _ hI (lv_sub hl [1, 2, 0] rfl) h
set_option maxHeartbeats 4000000 in
set_option maxRecDepth 100000 in
theorem wX7_robbed (Cx : ms_C p s m args meth c D cA a shX cX7_robbed 5 RX7 (some .int)) (out : Int32 × Mm) : ∀ (p0 : Int32) (p1 : Int32) (p2 : Int32) , ∀ (σ : Mm) (H : Heap) (locs : List Loc) (ls : Array Slot), ms_I D cA a shX s σ H locs → lv_has ls 5 [(0, .ref (a 0)), (1, .int p0), (2, .int p1), (3, .int p2)] → fX7_robbed p0 p1 p2 σ = some out → W p l e rmX7_robbed s m args below meth c H locs 0 0 (MQ below (ms_Qi D cA a shX out.1 out.2) args s 0 0 (ms_A a shX.length)) (F0 m 0 ls []) := by
  have hx := Cx.1
  have hb := Cx.2.1
  intro p0 p1 p2 σ H locs ls hI hl h
  unfold fX7_robbed at h
  refine lv_iload_n hx hb dX7_robbed_0 rfl (lv_at hl 1 rfl) ?_
  refine lv_iconst (v := 0) hx hb dX7_robbed_1 rfl ?_
  refine lv_bipush (v := 23) hx hb dX7_robbed_2 rfl ?_
  obtain ⟨r2, hc1, h⟩ := ms_bdE h
  refine kX7_within Cx hI hc1 (Or.inl wd_7_23) (Nat.le_of_ble_eq_true rfl) (Nat.le_of_ble_eq_true rfl) hl.1 (Nat.le_of_ble_eq_true rfl) dX7_robbed_4 (fun H locs hI => ?_)
  refine lv_if_eq (tgt := 27) hx hb dX7_robbed_7 rfl (fun hc => ?_) (fun hc => ?_)
  · have h := ms_ifT hc h
    refine lv_bipush (v := -2) hx hb dX7_robbed_27 rfl ?_
    exact ms_riw Cx hI h dX7_robbed_29
  · have h := ms_ifF hc h
    refine lv_iload_n hx hb dX7_robbed_10 rfl (lv_at hl 2 rfl) ?_
    refine lv_iconst (v := 0) hx hb dX7_robbed_11 rfl ?_
    refine lv_bipush (v := 40) hx hb dX7_robbed_12 rfl ?_
    obtain ⟨r4, hc3, h⟩ := ms_bdE h
    refine kX7_within Cx hI hc3 (Or.inl wd_7_23) (Nat.le_of_ble_eq_true rfl) (Nat.le_of_ble_eq_true rfl) hl.1 (Nat.le_of_ble_eq_true rfl) dX7_robbed_14 (fun H locs hI => ?_)
    refine lv_if_eq (tgt := 27) hx hb dX7_robbed_17 rfl (fun hc => ?_) (fun hc => ?_)
    · have h := ms_ifT hc h
      refine lv_bipush (v := -2) hx hb dX7_robbed_27 rfl ?_
      exact ms_riw Cx hI h dX7_robbed_29
    · have h := ms_ifF hc h
      refine lv_iload_n hx hb dX7_robbed_20 rfl (lv_at hl 3 rfl) ?_
      obtain ⟨r6, hc5, h⟩ := ms_bdE h
      refine kX7_isHour Cx hI hc5 (Or.inl wd_21_0) (Nat.le_of_ble_eq_true rfl) (Nat.le_of_ble_eq_true rfl) hl.1 (Nat.le_of_ble_eq_true rfl) dX7_robbed_21 (fun H locs hI => ?_)
      refine lv_if_ne (tgt := 30) hx hb dX7_robbed_24 rfl (fun hc => ?_) (fun hc => ?_)
      · have h := ms_ifF hc h
        refine lv_aload_n hx hb dX7_robbed_30 rfl (lv_at hl 0 rfl) ?_
        refine lv_aload_n hx hb dX7_robbed_31 rfl (lv_at hl 0 rfl) ?_
        refine gr_X7_0 Cx hI wd_1_15 dX7_robbed_32 ?_
        refine gi_X4_6 Cx hI wd_14_11 dX7_robbed_35 ?_
        refine lv_aload_n hx hb dX7_robbed_38 rfl (lv_at hl 0 rfl) ?_
        refine gi_X7_3 Cx hI wd_2_2 dX7_robbed_39 ?_
        obtain ⟨σ8, hc7, h⟩ := ms_bdE h
        refine kX7_makeReady Cx hI hc7 wd_21_7 (Nat.le_of_ble_eq_true rfl) (Nat.le_of_ble_eq_true rfl) hl.1 (Nat.le_of_ble_eq_true rfl) dX7_robbed_42 (fun H locs hI => ?_)
        refine lv_aload_n hx hb dX7_robbed_45 rfl (lv_at hl 0 rfl) ?_
        refine gr_X7_5 Cx hI wd_2_10 dX7_robbed_46 ?_
        refine lv_iload_n hx hb dX7_robbed_49 rfl (lv_at hl 1 rfl) ?_
        refine lv_iload_n hx hb dX7_robbed_50 rfl (lv_at hl 2 rfl) ?_
        obtain ⟨σ10, hc9, h⟩ := ms_bdE h
        refine kX3_rob Cx hI hc9 wd_22_11 (Nat.le_of_ble_eq_true rfl) (Nat.le_of_ble_eq_true rfl) hl.1 (Nat.le_of_ble_eq_true rfl) dX7_robbed_51 (fun H locs hI => ?_)
        refine lv_aload_n hx hb dX7_robbed_54 rfl (lv_at hl 0 rfl) ?_
        refine gr_X7_5 Cx hI wd_2_10 dX7_robbed_55 ?_
        obtain ⟨σ12, hc11, h⟩ := ms_bdE h
        refine kX3_begin Cx hI hc11 wd_36_9 (Nat.le_of_ble_eq_true rfl) (Nat.le_of_ble_eq_true rfl) hl.1 (Nat.le_of_ble_eq_true rfl) dX7_robbed_58 (fun H locs hI => ?_)
        refine lv_iconst (v := 0) hx hb dX7_robbed_61 rfl ?_
        refine lv_istore (lv' := [(4, .int 0), (0, .ref (a 0)), (1, .int p0), (2, .int p1), (3, .int p2)]) hx hb dX7_robbed_62 hl (by decide) rfl (fun ls hl => ?_)
        exact wX7_robbed_64 Cx out  ms_fu p2 0 σ12 _ _ _ hI (lv_sub hl [1, 4, 0] rfl) h
      · have h := ms_ifT hc h
        refine lv_bipush (v := -2) hx hb dX7_robbed_27 rfl ?_
        exact ms_riw Cx hI h dX7_robbed_29
theorem yvX7_robbed : ms_YV yX7_robbed RX7 cX7_robbed 5 (some .int) 3 := ⟨wd_36_5, wd_36_6, wd_1_2, wd_36_7, rfl, by decide +kernel, by decide +kernel, by decide +kernel⟩
set_option maxHeartbeats 4000000 in
theorem metX7_robbed (l : Launch) (hDis : ms_Dis a shX.length) {σ : Mm} {p0 : Int32} {p1 : Int32} {p2 : Int32} {out : Int32 × Mm} (h : fX7_robbed p0 p1 p2 σ = some out) : Met l yX7_robbed (.code yX7_robbed cX7_robbed 5 (some .int) :: wsL_law) rmX7_robbed (ms_Pc D cA a shX [.ref (a 0), .int p0, .int p1, .int p2] σ) (ms_Qi D cA a shX out.1 out.2) 0 0 (ms_A a shX.length) := by
  refine Met.ofW (cc := cX7_robbed) (maxL := 5) (ret := (some .int)) (by decide) rfl ?_
  intro p e s m args below meth c s₁ B hml hv
  obtain ⟨rfl, hK, hN, hP⟩ := hv
  have hl := lv_entry ([.ref (a 0), .int p0, .int p1, .int p2]) (n := 5) (Nat.le_of_ble_eq_true rfl)
  rw [lg_entry_eq]
  generalize (lg_sl ([.ref (a 0), .int p0, .int p1, .int p2]) ++ List.replicate (5 - (lg_sl ([.ref (a 0), .int p0, .int p1, .int p2])).length) Slot.unset).toArray = ls at hl ⊢
  exact wX7_robbed ⟨B.exec, B.bytes, hml, findClass_of_methodNamed B.named, fun w hw => atoms_spec (ws := .code yX7_robbed cX7_robbed 5 (some .int) :: wsL_law) B.pre w (List.mem_cons_of_mem _ hw), B.returns, B.notSynchronized, hK, hDis, hN⟩ out p0 p1 p2 σ s.heap [] ls ⟨hP, va_S.rf⟩ hl h
theorem kX7_robbed (Cx : ms_C p s m args meth c D cA a shX cc nL own ret) {σ : Mm} {H : Heap} {locs : List Loc} (hI : ms_I D cA a shX s σ H locs) {p0 : Int32} {p1 : Int32} {p2 : Int32} {out : Int32 × Mm} (h : fX7_robbed p0 p1 p2 σ = some out) (hl : Cond.methodLink own idx yX7_robbed ∈ wsL_law) (hf : 5 + 1 ≤ R.frames) (hlo : 8 + (5 + 11) + 119 ≤ R.locals) (hsz : ls.size = nL) (hW : (rest.map fun v => v.category).sum ≤ 8) (hd : decode cc pc = .ok (.invokevirtual idx, 3)) (kk : ∀ (H1 : Heap) (locs1 : List Loc), ms_I D cA a shX s out.2 H1 locs1 → W p l e R s m args below meth c H1 locs1 0 0 Q (F0 m (pc + 3) ls (.int out.1 :: rest))) : W p l e R s m args below meth c H locs 0 0 Q (F0 m pc ls (.int p2 :: .int p1 :: .int p0 :: .ref (a 0) :: rest)) :=
  ms_ci hI (ms_runV (av := [.int p0, .int p1, .int p2]) Cx hI 0 shX_0 (ci := 7) rfl rfl yvX7_robbed (metX7_robbed l Cx.2.2.2.2.2.2.2.2.1  h) ⟨rfl, rfl⟩ hl ⟨hf, hlo⟩ rfl hsz rfl hW ⟨Nat.zero_le _, Nat.zero_le _⟩ hd) kk
/-! X7 isForm (I)Z -/
theorem dX7_isForm_0 : decode cX7_isForm 0 = .ok (.iload_n 0, 1) := by decide +kernel
theorem dX7_isForm_1 : decode cX7_isForm 1 = .ok (.iconst 0, 1) := by decide +kernel
theorem dX7_isForm_2 : decode cX7_isForm 2 = .ok (.iconst 2, 1) := by decide +kernel
theorem dX7_isForm_3 : decode cX7_isForm 3 = .ok (.invokestatic 82, 3) := by decide +kernel
theorem dX7_isForm_6 : decode cX7_isForm 6 = .ok (.ireturn, 1) := by decide +kernel
abbrev rmX7_isForm : Room := { frames := 1, cells := 0, slots := 0, locals := 22 }
set_option maxHeartbeats 4000000 in
set_option maxRecDepth 100000 in
theorem wX7_isForm (Cx : ms_C p s m args meth c D cA a shX cX7_isForm 1 RX7 (some .boolean)) (out : Int32) {σ : Mm} : ∀ (p0 : Int32) , ∀ (H : Heap) (locs : List Loc) (ls : Array Slot), ms_I D cA a shX s σ H locs → lv_has ls 1 [(0, .int p0)] → fX7_isForm p0 = some out → W p l e rmX7_isForm s m args below meth c H locs 0 0 (MQ below (ms_Qi D cA a shX out σ) args s 0 0 (ms_A a shX.length)) (F0 m 0 ls []) := by
  have hx := Cx.1
  have hb := Cx.2.1
  intro p0 H locs ls hI hl h
  unfold fX7_isForm at h
  refine lv_iload_n hx hb dX7_isForm_0 rfl (lv_at hl 0 rfl) ?_
  refine lv_iconst (v := 0) hx hb dX7_isForm_1 rfl ?_
  refine lv_iconst (v := 2) hx hb dX7_isForm_2 rfl ?_
  obtain ⟨r2, hc1, h⟩ := ms_bdE h
  refine kX7_within Cx hI hc1 (Or.inl wd_7_23) (Nat.le_of_ble_eq_true rfl) (Nat.le_of_ble_eq_true rfl) hl.1 (Nat.le_of_ble_eq_true rfl) dX7_isForm_3 (fun H locs hI => ?_)
  obtain ⟨hg, h⟩ := ms_gE h
  exact ms_rz Cx hI hg (Option.some.inj h) rfl dX7_isForm_6
theorem yvX7_isForm : ms_YS yX7_isForm cX7_isForm 1 (some .boolean) 1 := ⟨wd_37_0, wd_1_2, wd_37_1, by decide +kernel, by decide +kernel, by decide +kernel⟩
set_option maxHeartbeats 4000000 in
theorem metX7_isForm (l : Launch) (hDis : ms_Dis a shX.length) {σ : Mm} {p0 : Int32} {out : Int32} (h : fX7_isForm p0 = some out) : Met l yX7_isForm (.code yX7_isForm cX7_isForm 1 (some .boolean) :: wsL_law) rmX7_isForm (ms_Pc D cA a shX [.int p0] σ) (ms_Qi D cA a shX out σ) 0 0 (ms_A a shX.length) := by
  refine Met.ofW (cc := cX7_isForm) (maxL := 1) (ret := (some .boolean)) (by decide) rfl ?_
  intro p e s m args below meth c s₁ B hml hv
  obtain ⟨rfl, hK, hN, hP⟩ := hv
  have hl := lv_entry ([.int p0]) (n := 1) (Nat.le_of_ble_eq_true rfl)
  rw [lg_entry_eq]
  generalize (lg_sl ([.int p0]) ++ List.replicate (1 - (lg_sl ([.int p0])).length) Slot.unset).toArray = ls at hl ⊢
  exact wX7_isForm ⟨B.exec, B.bytes, hml, findClass_of_methodNamed B.named, fun w hw => atoms_spec (ws := .code yX7_isForm cX7_isForm 1 (some .boolean) :: wsL_law) B.pre w (List.mem_cons_of_mem _ hw), B.returns, B.notSynchronized, hK, hDis, hN⟩ out p0 s.heap [] ls ⟨hP, va_S.rf⟩ hl h
theorem kX7_isForm (Cx : ms_C p s m args meth c D cA a shX cc nL own ret) {σ : Mm} {H : Heap} {locs : List Loc} (hI : ms_I D cA a shX s σ H locs) {p0 : Int32} {out : Int32} (h : fX7_isForm p0 = some out) (hl : Cond.methodLink own idx yX7_isForm ∈ wsL_law ∨ (own, idx, yX7_isForm) ∈ ms_nq) (hf : 1 + 1 ≤ R.frames) (hlo : 8 + (1 + 11) + 22 ≤ R.locals) (hsz : ls.size = nL) (hW : (rest.map fun v => v.category).sum ≤ 8) (hd : decode cc pc = .ok (.invokestatic idx, 3)) (kk : ∀ (H1 : Heap) (locs1 : List Loc), ms_I D cA a shX s σ H1 locs1 → W p l e R s m args below meth c H1 locs1 0 0 Q (F0 m (pc + 3) ls (.int out :: rest))) : W p l e R s m args below meth c H locs 0 0 Q (F0 m pc ls (.int p0 :: rest)) :=
  ms_ci hI (ms_runS (av := [.int p0]) Cx hI yvX7_isForm (metX7_isForm l Cx.2.2.2.2.2.2.2.2.1  h) ⟨rfl, rfl⟩ hl ⟨hf, hlo⟩ rfl hsz rfl hW ⟨Nat.zero_le _, Nat.zero_le _⟩ hd) kk
/-! X7 sheet (III)I -/
theorem dX7_sheet_0 : decode cX7_sheet 0 = .ok (.iload_n 1, 1) := by decide +kernel
theorem dX7_sheet_1 : decode cX7_sheet 1 = .ok (.invokestatic 128, 3) := by decide +kernel
theorem dX7_sheet_4 : decode cX7_sheet 4 = .ok (.ifCond .eq 16, 3) := by decide +kernel
theorem dX7_sheet_7 : decode cX7_sheet 7 = .ok (.iload_n 2, 1) := by decide +kernel
theorem dX7_sheet_8 : decode cX7_sheet 8 = .ok (.invokestatic 264, 3) := by decide +kernel
theorem dX7_sheet_11 : decode cX7_sheet 11 = .ok (.ifCond .eq 9, 3) := by decide +kernel
theorem dX7_sheet_14 : decode cX7_sheet 14 = .ok (.iload_n 3, 1) := by decide +kernel
theorem dX7_sheet_15 : decode cX7_sheet 15 = .ok (.bipush 48, 2) := by decide +kernel
theorem dX7_sheet_17 : decode cX7_sheet 17 = .ok (.if_icmp .le 6, 3) := by decide +kernel
theorem dX7_sheet_20 : decode cX7_sheet 20 = .ok (.bipush (-2), 2) := by decide +kernel
theorem dX7_sheet_22 : decode cX7_sheet 22 = .ok (.ireturn, 1) := by decide +kernel
theorem dX7_sheet_23 : decode cX7_sheet 23 = .ok (.iload_n 3, 1) := by decide +kernel
theorem dX7_sheet_24 : decode cX7_sheet 24 = .ok (.ifCond .ge 9, 3) := by decide +kernel
theorem dX7_sheet_27 : decode cX7_sheet 27 = .ok (.aload_n 0, 1) := by decide +kernel
theorem dX7_sheet_28 : decode cX7_sheet 28 = .ok (.iconst 5, 1) := by decide +kernel
theorem dX7_sheet_29 : decode cX7_sheet 29 = .ok (.invokevirtual 135, 3) := by decide +kernel
theorem dX7_sheet_32 : decode cX7_sheet 32 = .ok (.ireturn, 1) := by decide +kernel
theorem dX7_sheet_33 : decode cX7_sheet 33 = .ok (.aload_n 0, 1) := by decide +kernel
theorem dX7_sheet_34 : decode cX7_sheet 34 = .ok (.getfield 74, 3) := by decide +kernel
theorem dX7_sheet_37 : decode cX7_sheet 37 = .ok (.iload_n 1, 1) := by decide +kernel
theorem dX7_sheet_38 : decode cX7_sheet 38 = .ok (.aaload, 1) := by decide +kernel
theorem dX7_sheet_39 : decode cX7_sheet 39 = .ok (.iload_n 2, 1) := by decide +kernel
theorem dX7_sheet_40 : decode cX7_sheet 40 = .ok (.iload_n 3, 1) := by decide +kernel
theorem dX7_sheet_41 : decode cX7_sheet 41 = .ok (.invokevirtual 267, 3) := by decide +kernel
theorem dX7_sheet_44 : decode cX7_sheet 44 = .ok (.iload_n 3, 1) := by decide +kernel
theorem dX7_sheet_45 : decode cX7_sheet 45 = .ok (.ireturn, 1) := by decide +kernel
abbrev rmX7_sheet : Room := { frames := 2, cells := 0, slots := 0, locals := 45 }
set_option maxHeartbeats 4000000 in
set_option maxRecDepth 100000 in
theorem wX7_sheet (Cx : ms_C p s m args meth c D cA a shX cX7_sheet 4 RX7 (some .int)) (out : Int32 × Mm) : ∀ (p0 : Int32) (p1 : Int32) (p2 : Int32) , ∀ (σ : Mm) (H : Heap) (locs : List Loc) (ls : Array Slot), ms_I D cA a shX s σ H locs → lv_has ls 4 [(0, .ref (a 0)), (1, .int p0), (2, .int p1), (3, .int p2)] → fX7_sheet p0 p1 p2 σ = some out → W p l e rmX7_sheet s m args below meth c H locs 0 0 (MQ below (ms_Qi D cA a shX out.1 out.2) args s 0 0 (ms_A a shX.length)) (F0 m 0 ls []) := by
  have hx := Cx.1
  have hb := Cx.2.1
  intro p0 p1 p2 σ H locs ls hI hl h
  unfold fX7_sheet at h
  refine lv_iload_n hx hb dX7_sheet_0 rfl (lv_at hl 1 rfl) ?_
  obtain ⟨r2, hc1, h⟩ := ms_bdE h
  refine kX7_isSheet Cx hI hc1 (Or.inl wd_17_8) (Nat.le_of_ble_eq_true rfl) (Nat.le_of_ble_eq_true rfl) hl.1 (Nat.le_of_ble_eq_true rfl) dX7_sheet_1 (fun H locs hI => ?_)
  refine lv_if_eq (tgt := 20) hx hb dX7_sheet_4 rfl (fun hc => ?_) (fun hc => ?_)
  · have h := ms_ifT hc h
    refine lv_bipush (v := -2) hx hb dX7_sheet_20 rfl ?_
    exact ms_riw Cx hI h dX7_sheet_22
  · have h := ms_ifF hc h
    refine lv_iload_n hx hb dX7_sheet_7 rfl (lv_at hl 2 rfl) ?_
    obtain ⟨r4, hc3, h⟩ := ms_bdE h
    refine kX7_isForm Cx hI hc3 (Or.inl wd_36_23) (Nat.le_of_ble_eq_true rfl) (Nat.le_of_ble_eq_true rfl) hl.1 (Nat.le_of_ble_eq_true rfl) dX7_sheet_8 (fun H locs hI => ?_)
    refine lv_if_eq (tgt := 20) hx hb dX7_sheet_11 rfl (fun hc => ?_) (fun hc => ?_)
    · have h := ms_ifT hc h
      refine lv_bipush (v := -2) hx hb dX7_sheet_20 rfl ?_
      exact ms_riw Cx hI h dX7_sheet_22
    · have h := ms_ifF hc h
      refine lv_iload_n hx hb dX7_sheet_14 rfl (lv_at hl 3 rfl) ?_
      refine lv_bipush (v := 48) hx hb dX7_sheet_15 rfl ?_
      refine lv_icmp_le (tgt := 23) hx hb dX7_sheet_17 rfl (fun hc => ?_) (fun hc => ?_)
      · have h := ms_ifT hc h
        refine lv_iload_n hx hb dX7_sheet_23 rfl (lv_at hl 3 rfl) ?_
        refine lv_if_ge (tgt := 33) hx hb dX7_sheet_24 rfl (fun hc => ?_) (fun hc => ?_)
        · have h := ms_ifT hc h
          refine lv_aload_n hx hb dX7_sheet_33 rfl (lv_at hl 0 rfl) ?_
          refine gr_X7_9 Cx hI wd_3_0 dX7_sheet_34 ?_
          refine lv_iload_n hx hb dX7_sheet_37 rfl (lv_at hl 1 rfl) ?_
          obtain ⟨hg, h⟩ := ms_gE h
          refine ms_ldr Cx hI 26 shX_26 hg dX7_sheet_38 ?_
          have hq5 := ms_ixlt hg
          refine lv_iload_n hx hb dX7_sheet_39 rfl (lv_at hl 2 rfl) ?_
          refine lv_iload_n hx hb dX7_sheet_40 rfl (lv_at hl 3 rfl) ?_
          obtain ⟨σ7, hc6, h⟩ := ms_bdE h
          refine kX2_renew Cx hI hq5 hc6 wd_37_2 (Nat.le_of_ble_eq_true rfl) (Nat.le_of_ble_eq_true rfl) hl.1 (Nat.le_of_ble_eq_true rfl) dX7_sheet_41 (fun H locs hI => ?_)
          refine lv_iload_n hx hb dX7_sheet_44 rfl (lv_at hl 3 rfl) ?_
          exact ms_riw Cx hI h dX7_sheet_45
        · have h := ms_ifF hc h
          refine lv_aload_n hx hb dX7_sheet_27 rfl (lv_at hl 0 rfl) ?_
          refine lv_iconst (v := 5) hx hb dX7_sheet_28 rfl ?_
          obtain ⟨⟨r9, σ10⟩, hc8, h⟩ := ms_bdE h
          refine kX7_find Cx hI hc8 wd_17_11 (Nat.le_of_ble_eq_true rfl) (Nat.le_of_ble_eq_true rfl) hl.1 (Nat.le_of_ble_eq_true rfl) dX7_sheet_29 (fun H locs hI => ?_)
          exact ms_riw Cx hI h dX7_sheet_32
      · have h := ms_ifF hc h
        refine lv_bipush (v := -2) hx hb dX7_sheet_20 rfl ?_
        exact ms_riw Cx hI h dX7_sheet_22
theorem yvX7_sheet : ms_YV yX7_sheet RX7 cX7_sheet 4 (some .int) 3 := ⟨wd_36_20, wd_36_21, wd_1_2, wd_36_22, rfl, by decide +kernel, by decide +kernel, by decide +kernel⟩
set_option maxHeartbeats 4000000 in
theorem metX7_sheet (l : Launch) (hDis : ms_Dis a shX.length) {σ : Mm} {p0 : Int32} {p1 : Int32} {p2 : Int32} {out : Int32 × Mm} (h : fX7_sheet p0 p1 p2 σ = some out) : Met l yX7_sheet (.code yX7_sheet cX7_sheet 4 (some .int) :: wsL_law) rmX7_sheet (ms_Pc D cA a shX [.ref (a 0), .int p0, .int p1, .int p2] σ) (ms_Qi D cA a shX out.1 out.2) 0 0 (ms_A a shX.length) := by
  refine Met.ofW (cc := cX7_sheet) (maxL := 4) (ret := (some .int)) (by decide) rfl ?_
  intro p e s m args below meth c s₁ B hml hv
  obtain ⟨rfl, hK, hN, hP⟩ := hv
  have hl := lv_entry ([.ref (a 0), .int p0, .int p1, .int p2]) (n := 4) (Nat.le_of_ble_eq_true rfl)
  rw [lg_entry_eq]
  generalize (lg_sl ([.ref (a 0), .int p0, .int p1, .int p2]) ++ List.replicate (4 - (lg_sl ([.ref (a 0), .int p0, .int p1, .int p2])).length) Slot.unset).toArray = ls at hl ⊢
  exact wX7_sheet ⟨B.exec, B.bytes, hml, findClass_of_methodNamed B.named, fun w hw => atoms_spec (ws := .code yX7_sheet cX7_sheet 4 (some .int) :: wsL_law) B.pre w (List.mem_cons_of_mem _ hw), B.returns, B.notSynchronized, hK, hDis, hN⟩ out p0 p1 p2 σ s.heap [] ls ⟨hP, va_S.rf⟩ hl h
theorem kX7_sheet (Cx : ms_C p s m args meth c D cA a shX cc nL own ret) {σ : Mm} {H : Heap} {locs : List Loc} (hI : ms_I D cA a shX s σ H locs) {p0 : Int32} {p1 : Int32} {p2 : Int32} {out : Int32 × Mm} (h : fX7_sheet p0 p1 p2 σ = some out) (hl : Cond.methodLink own idx yX7_sheet ∈ wsL_law) (hf : 2 + 1 ≤ R.frames) (hlo : 8 + (4 + 11) + 45 ≤ R.locals) (hsz : ls.size = nL) (hW : (rest.map fun v => v.category).sum ≤ 8) (hd : decode cc pc = .ok (.invokevirtual idx, 3)) (kk : ∀ (H1 : Heap) (locs1 : List Loc), ms_I D cA a shX s out.2 H1 locs1 → W p l e R s m args below meth c H1 locs1 0 0 Q (F0 m (pc + 3) ls (.int out.1 :: rest))) : W p l e R s m args below meth c H locs 0 0 Q (F0 m pc ls (.int p2 :: .int p1 :: .int p0 :: .ref (a 0) :: rest)) :=
  ms_ci hI (ms_runV (av := [.int p0, .int p1, .int p2]) Cx hI 0 shX_0 (ci := 7) rfl rfl yvX7_sheet (metX7_sheet l Cx.2.2.2.2.2.2.2.2.1  h) ⟨rfl, rfl⟩ hl ⟨hf, hlo⟩ rfl hsz rfl hW ⟨Nat.zero_le _, Nat.zero_le _⟩ hd) kk
/-! X7 lose (I)I -/
theorem dX7_lose_0 : decode cX7_lose 0 = .ok (.iload_n 1, 1) := by decide +kernel
theorem dX7_lose_1 : decode cX7_lose 1 = .ok (.invokestatic 128, 3) := by decide +kernel
theorem dX7_lose_4 : decode cX7_lose 4 = .ok (.ifCond .ne 6, 3) := by decide +kernel
theorem dX7_lose_7 : decode cX7_lose 7 = .ok (.bipush (-2), 2) := by decide +kernel
theorem dX7_lose_9 : decode cX7_lose 9 = .ok (.ireturn, 1) := by decide +kernel
theorem dX7_lose_10 : decode cX7_lose 10 = .ok (.aload_n 0, 1) := by decide +kernel
theorem dX7_lose_11 : decode cX7_lose 11 = .ok (.getfield 74, 3) := by decide +kernel
theorem dX7_lose_14 : decode cX7_lose 14 = .ok (.iload_n 1, 1) := by decide +kernel
theorem dX7_lose_15 : decode cX7_lose 15 = .ok (.aaload, 1) := by decide +kernel
theorem dX7_lose_16 : decode cX7_lose 16 = .ok (.getfield 131, 3) := by decide +kernel
theorem dX7_lose_19 : decode cX7_lose 19 = .ok (.ifCond .eq 9, 3) := by decide +kernel
theorem dX7_lose_22 : decode cX7_lose 22 = .ok (.aload_n 0, 1) := by decide +kernel
theorem dX7_lose_23 : decode cX7_lose 23 = .ok (.iconst 1, 1) := by decide +kernel
theorem dX7_lose_24 : decode cX7_lose 24 = .ok (.invokevirtual 135, 3) := by decide +kernel
theorem dX7_lose_27 : decode cX7_lose 27 = .ok (.ireturn, 1) := by decide +kernel
theorem dX7_lose_28 : decode cX7_lose 28 = .ok (.aload_n 0, 1) := by decide +kernel
theorem dX7_lose_29 : decode cX7_lose 29 = .ok (.getfield 74, 3) := by decide +kernel
theorem dX7_lose_32 : decode cX7_lose 32 = .ok (.iload_n 1, 1) := by decide +kernel
theorem dX7_lose_33 : decode cX7_lose 33 = .ok (.aaload, 1) := by decide +kernel
theorem dX7_lose_34 : decode cX7_lose 34 = .ok (.iconst 1, 1) := by decide +kernel
theorem dX7_lose_35 : decode cX7_lose 35 = .ok (.putfield 131, 3) := by decide +kernel
theorem dX7_lose_38 : decode cX7_lose 38 = .ok (.aload_n 0, 1) := by decide +kernel
theorem dX7_lose_39 : decode cX7_lose 39 = .ok (.getfield 74, 3) := by decide +kernel
theorem dX7_lose_42 : decode cX7_lose 42 = .ok (.iload_n 1, 1) := by decide +kernel
theorem dX7_lose_43 : decode cX7_lose 43 = .ok (.aaload, 1) := by decide +kernel
theorem dX7_lose_44 : decode cX7_lose 44 = .ok (.getfield 139, 3) := by decide +kernel
theorem dX7_lose_47 : decode cX7_lose 47 = .ok (.ireturn, 1) := by decide +kernel
abbrev rmX7_lose : Room := { frames := 2, cells := 0, slots := 0, locals := 42 }
set_option maxHeartbeats 4000000 in
set_option maxRecDepth 100000 in
theorem wX7_lose (Cx : ms_C p s m args meth c D cA a shX cX7_lose 2 RX7 (some .int)) (out : Int32 × Mm) : ∀ (p0 : Int32) , ∀ (σ : Mm) (H : Heap) (locs : List Loc) (ls : Array Slot), ms_I D cA a shX s σ H locs → lv_has ls 2 [(0, .ref (a 0)), (1, .int p0)] → fX7_lose p0 σ = some out → W p l e rmX7_lose s m args below meth c H locs 0 0 (MQ below (ms_Qi D cA a shX out.1 out.2) args s 0 0 (ms_A a shX.length)) (F0 m 0 ls []) := by
  have hx := Cx.1
  have hb := Cx.2.1
  intro p0 σ H locs ls hI hl h
  unfold fX7_lose at h
  refine lv_iload_n hx hb dX7_lose_0 rfl (lv_at hl 1 rfl) ?_
  obtain ⟨r2, hc1, h⟩ := ms_bdE h
  refine kX7_isSheet Cx hI hc1 (Or.inl wd_17_8) (Nat.le_of_ble_eq_true rfl) (Nat.le_of_ble_eq_true rfl) hl.1 (Nat.le_of_ble_eq_true rfl) dX7_lose_1 (fun H locs hI => ?_)
  refine lv_if_ne (tgt := 10) hx hb dX7_lose_4 rfl (fun hc => ?_) (fun hc => ?_)
  · have h := ms_ifF hc h
    refine lv_aload_n hx hb dX7_lose_10 rfl (lv_at hl 0 rfl) ?_
    refine gr_X7_9 Cx hI wd_3_0 dX7_lose_11 ?_
    refine lv_iload_n hx hb dX7_lose_14 rfl (lv_at hl 1 rfl) ?_
    obtain ⟨hg, h⟩ := ms_gE h
    refine ms_ldr Cx hI 26 shX_26 hg dX7_lose_15 ?_
    have hq3 := ms_ixlt hg
    refine gi_X2_3 Cx hI hq3 wd_17_1 dX7_lose_16 ?_
    refine lv_if_eq (tgt := 28) hx hb dX7_lose_19 rfl (fun hc => ?_) (fun hc => ?_)
    · have h := ms_ifT hc h
      refine lv_aload_n hx hb dX7_lose_28 rfl (lv_at hl 0 rfl) ?_
      refine gr_X7_9 Cx hI wd_3_0 dX7_lose_29 ?_
      refine lv_iload_n hx hb dX7_lose_32 rfl (lv_at hl 1 rfl) ?_
      obtain ⟨hg, h⟩ := ms_gE h
      refine ms_ldr Cx hI 26 shX_26 hg dX7_lose_33 ?_
      have hq4 := ms_ixlt hg
      refine lv_iconst (v := 1) hx hb dX7_lose_34 rfl ?_
      refine pi_X2_3 Cx hI hq4 (Or.inr rfl) wd_17_1 dX7_lose_35 (fun H locs σ5 eσ5 hI => ?_)
      have h := ms_ltE eσ5 h
      refine lv_aload_n hx hb dX7_lose_38 rfl (lv_at hl 0 rfl) ?_
      refine gr_X7_9 Cx hI wd_3_0 dX7_lose_39 ?_
      refine lv_iload_n hx hb dX7_lose_42 rfl (lv_at hl 1 rfl) ?_
      obtain ⟨hg, h⟩ := ms_gE h
      refine ms_ldr Cx hI 26 shX_26 hg dX7_lose_43 ?_
      have hq6 := ms_ixlt hg
      refine gi_X2_2 Cx hI hq6 wd_17_2 dX7_lose_44 ?_
      exact ms_riw Cx hI h dX7_lose_47
    · have h := ms_ifF hc h
      refine lv_aload_n hx hb dX7_lose_22 rfl (lv_at hl 0 rfl) ?_
      refine lv_iconst (v := 1) hx hb dX7_lose_23 rfl ?_
      obtain ⟨⟨r8, σ9⟩, hc7, h⟩ := ms_bdE h
      refine kX7_find Cx hI hc7 wd_17_11 (Nat.le_of_ble_eq_true rfl) (Nat.le_of_ble_eq_true rfl) hl.1 (Nat.le_of_ble_eq_true rfl) dX7_lose_24 (fun H locs hI => ?_)
      exact ms_riw Cx hI h dX7_lose_27
  · have h := ms_ifT hc h
    refine lv_bipush (v := -2) hx hb dX7_lose_7 rfl ?_
    exact ms_riw Cx hI h dX7_lose_9
theorem yvX7_lose : ms_YV yX7_lose RX7 cX7_lose 2 (some .int) 1 := ⟨wd_37_12, wd_37_13, wd_1_2, wd_37_14, rfl, by decide +kernel, by decide +kernel, by decide +kernel⟩
set_option maxHeartbeats 4000000 in
theorem metX7_lose (l : Launch) (hDis : ms_Dis a shX.length) {σ : Mm} {p0 : Int32} {out : Int32 × Mm} (h : fX7_lose p0 σ = some out) : Met l yX7_lose (.code yX7_lose cX7_lose 2 (some .int) :: wsL_law) rmX7_lose (ms_Pc D cA a shX [.ref (a 0), .int p0] σ) (ms_Qi D cA a shX out.1 out.2) 0 0 (ms_A a shX.length) := by
  refine Met.ofW (cc := cX7_lose) (maxL := 2) (ret := (some .int)) (by decide) rfl ?_
  intro p e s m args below meth c s₁ B hml hv
  obtain ⟨rfl, hK, hN, hP⟩ := hv
  have hl := lv_entry ([.ref (a 0), .int p0]) (n := 2) (Nat.le_of_ble_eq_true rfl)
  rw [lg_entry_eq]
  generalize (lg_sl ([.ref (a 0), .int p0]) ++ List.replicate (2 - (lg_sl ([.ref (a 0), .int p0])).length) Slot.unset).toArray = ls at hl ⊢
  exact wX7_lose ⟨B.exec, B.bytes, hml, findClass_of_methodNamed B.named, fun w hw => atoms_spec (ws := .code yX7_lose cX7_lose 2 (some .int) :: wsL_law) B.pre w (List.mem_cons_of_mem _ hw), B.returns, B.notSynchronized, hK, hDis, hN⟩ out p0 σ s.heap [] ls ⟨hP, va_S.rf⟩ hl h
theorem kX7_lose (Cx : ms_C p s m args meth c D cA a shX cc nL own ret) {σ : Mm} {H : Heap} {locs : List Loc} (hI : ms_I D cA a shX s σ H locs) {p0 : Int32} {out : Int32 × Mm} (h : fX7_lose p0 σ = some out) (hl : Cond.methodLink own idx yX7_lose ∈ wsL_law) (hf : 2 + 1 ≤ R.frames) (hlo : 8 + (2 + 11) + 42 ≤ R.locals) (hsz : ls.size = nL) (hW : (rest.map fun v => v.category).sum ≤ 8) (hd : decode cc pc = .ok (.invokevirtual idx, 3)) (kk : ∀ (H1 : Heap) (locs1 : List Loc), ms_I D cA a shX s out.2 H1 locs1 → W p l e R s m args below meth c H1 locs1 0 0 Q (F0 m (pc + 3) ls (.int out.1 :: rest))) : W p l e R s m args below meth c H locs 0 0 Q (F0 m pc ls (.int p0 :: .ref (a 0) :: rest)) :=
  ms_ci hI (ms_runV (av := [.int p0]) Cx hI 0 shX_0 (ci := 7) rfl rfl yvX7_lose (metX7_lose l Cx.2.2.2.2.2.2.2.2.1  h) ⟨rfl, rfl⟩ hl ⟨hf, hlo⟩ rfl hsz rfl hW ⟨Nat.zero_le _, Nat.zero_le _⟩ hd) kk
/-! X7 findingOfItem (LMarketSpring$Sheet;II)I -/
theorem dX7_findingOfItem_0 : decode cX7_findingOfItem 0 = .ok (.aload_n 0, 1) := by decide +kernel
theorem dX7_findingOfItem_1 : decode cX7_findingOfItem 1 = .ok (.getfield 131, 3) := by decide +kernel
theorem dX7_findingOfItem_4 : decode cX7_findingOfItem 4 = .ok (.ifCond .eq 5, 3) := by decide +kernel
theorem dX7_findingOfItem_7 : decode cX7_findingOfItem 7 = .ok (.iconst 1, 1) := by decide +kernel
theorem dX7_findingOfItem_8 : decode cX7_findingOfItem 8 = .ok (.ireturn, 1) := by decide +kernel
theorem dX7_findingOfItem_9 : decode cX7_findingOfItem 9 = .ok (.aload_n 0, 1) := by decide +kernel
theorem dX7_findingOfItem_10 : decode cX7_findingOfItem 10 = .ok (.getfield 278, 3) := by decide +kernel
theorem dX7_findingOfItem_13 : decode cX7_findingOfItem 13 = .ok (.iload_n 1, 1) := by decide +kernel
theorem dX7_findingOfItem_14 : decode cX7_findingOfItem 14 = .ok (.if_icmp .eq 5, 3) := by decide +kernel
theorem dX7_findingOfItem_17 : decode cX7_findingOfItem 17 = .ok (.iconst 3, 1) := by decide +kernel
theorem dX7_findingOfItem_18 : decode cX7_findingOfItem 18 = .ok (.ireturn, 1) := by decide +kernel
theorem dX7_findingOfItem_19 : decode cX7_findingOfItem 19 = .ok (.iload_n 2, 1) := by decide +kernel
theorem dX7_findingOfItem_20 : decode cX7_findingOfItem 20 = .ok (.iconst 0, 1) := by decide +kernel
theorem dX7_findingOfItem_21 : decode cX7_findingOfItem 21 = .ok (.aload_n 0, 1) := by decide +kernel
theorem dX7_findingOfItem_22 : decode cX7_findingOfItem 22 = .ok (.getfield 139, 3) := by decide +kernel
theorem dX7_findingOfItem_25 : decode cX7_findingOfItem 25 = .ok (.iconst 1, 1) := by decide +kernel
theorem dX7_findingOfItem_26 : decode cX7_findingOfItem 26 = .ok (.isub, 1) := by decide +kernel
theorem dX7_findingOfItem_27 : decode cX7_findingOfItem 27 = .ok (.invokestatic 82, 3) := by decide +kernel
theorem dX7_findingOfItem_30 : decode cX7_findingOfItem 30 = .ok (.ifCond .eq 7, 3) := by decide +kernel
theorem dX7_findingOfItem_33 : decode cX7_findingOfItem 33 = .ok (.iconst 0, 1) := by decide +kernel
theorem dX7_findingOfItem_34 : decode cX7_findingOfItem 34 = .ok (.goto 4, 3) := by decide +kernel
theorem dX7_findingOfItem_37 : decode cX7_findingOfItem 37 = .ok (.iconst 2, 1) := by decide +kernel
theorem dX7_findingOfItem_38 : decode cX7_findingOfItem 38 = .ok (.ireturn, 1) := by decide +kernel
abbrev rmX7_findingOfItem : Room := { frames := 1, cells := 0, slots := 0, locals := 22 }
set_option maxHeartbeats 4000000 in
set_option maxRecDepth 100000 in
theorem wX7_findingOfItem (Cx : ms_C p s m args meth c D cA a shX cX7_findingOfItem 3 RX7 (some .int)) (out : Int32) {σ : Mm} : ∀ (j0 : Nat) (p1 : Int32) (p2 : Int32) , j0 < 4 → ∀ (H : Heap) (locs : List Loc) (ls : Array Slot), ms_I D cA a shX s σ H locs → lv_has ls 3 [(0, .ref (a (27 + 2 * j0))), (1, .int p1), (2, .int p2)] → fX7_findingOfItem σ j0 p1 p2 = some out → W p l e rmX7_findingOfItem s m args below meth c H locs 0 0 (MQ below (ms_Qi D cA a shX out σ) args s 0 0 (ms_A a shX.length)) (F0 m 0 ls []) := by
  have hx := Cx.1
  have hb := Cx.2.1
  intro j0 p1 p2 h_j0 H locs ls hI hl h
  unfold fX7_findingOfItem at h
  refine lv_aload_n hx hb dX7_findingOfItem_0 rfl (lv_at hl 0 rfl) ?_
  refine gi_X2_3 Cx hI h_j0 wd_17_1 dX7_findingOfItem_1 ?_
  refine lv_if_eq (tgt := 9) hx hb dX7_findingOfItem_4 rfl (fun hc => ?_) (fun hc => ?_)
  · have h := ms_ifT hc h
    refine lv_aload_n hx hb dX7_findingOfItem_9 rfl (lv_at hl 0 rfl) ?_
    refine gi_X2_1 Cx hI h_j0 wd_38_2 dX7_findingOfItem_10 ?_
    refine lv_iload_n hx hb dX7_findingOfItem_13 rfl (lv_at hl 1 rfl) ?_
    refine lv_icmp_eq (tgt := 19) hx hb dX7_findingOfItem_14 rfl (fun hc => ?_) (fun hc => ?_)
    · have h := ms_ifT hc h
      refine lv_iload_n hx hb dX7_findingOfItem_19 rfl (lv_at hl 2 rfl) ?_
      refine lv_iconst (v := 0) hx hb dX7_findingOfItem_20 rfl ?_
      refine lv_aload_n hx hb dX7_findingOfItem_21 rfl (lv_at hl 0 rfl) ?_
      refine gi_X2_2 Cx hI h_j0 wd_17_2 dX7_findingOfItem_22 ?_
      refine lv_iconst (v := 1) hx hb dX7_findingOfItem_25 rfl ?_
      refine lv_isub hx hb dX7_findingOfItem_26 ?_
      obtain ⟨r2, hc1, h⟩ := ms_bdE h
      refine kX7_within Cx hI hc1 (Or.inl wd_7_23) (Nat.le_of_ble_eq_true rfl) (Nat.le_of_ble_eq_true rfl) hl.1 (Nat.le_of_ble_eq_true rfl) dX7_findingOfItem_27 (fun H locs hI => ?_)
      refine lv_if_eq (tgt := 37) hx hb dX7_findingOfItem_30 rfl (fun hc => ?_) (fun hc => ?_)
      · have h := ms_ifT hc h
        refine lv_iconst (v := 2) hx hb dX7_findingOfItem_37 rfl ?_
        exact ms_ri Cx hI (Option.some.inj h) rfl dX7_findingOfItem_38
      · have h := ms_ifF hc h
        refine lv_iconst (v := 0) hx hb dX7_findingOfItem_33 rfl ?_
        refine lv_goto (tgt := 38) hx hb dX7_findingOfItem_34 rfl ?_
        exact ms_ri Cx hI (Option.some.inj h) rfl dX7_findingOfItem_38
    · have h := ms_ifF hc h
      refine lv_iconst (v := 3) hx hb dX7_findingOfItem_17 rfl ?_
      exact ms_ri Cx hI (Option.some.inj h) rfl dX7_findingOfItem_18
  · have h := ms_ifF hc h
    refine lv_iconst (v := 1) hx hb dX7_findingOfItem_7 rfl ?_
    exact ms_ri Cx hI (Option.some.inj h) rfl dX7_findingOfItem_8
theorem yvX7_findingOfItem : ms_YS yX7_findingOfItem cX7_findingOfItem 3 (some .int) 3 := ⟨wd_38_0, wd_1_2, wd_38_1, by decide +kernel, by decide +kernel, by decide +kernel⟩
set_option maxHeartbeats 4000000 in
theorem metX7_findingOfItem (l : Launch) (hDis : ms_Dis a shX.length) {σ : Mm} {j0 : Nat} {p1 : Int32} {p2 : Int32} (h_j0 : j0 < 4) {out : Int32} (h : fX7_findingOfItem σ j0 p1 p2 = some out) : Met l yX7_findingOfItem (.code yX7_findingOfItem cX7_findingOfItem 3 (some .int) :: wsL_law) rmX7_findingOfItem (ms_Pc D cA a shX [.ref (a (27 + 2 * j0)), .int p1, .int p2] σ) (ms_Qi D cA a shX out σ) 0 0 (ms_A a shX.length) := by
  refine Met.ofW (cc := cX7_findingOfItem) (maxL := 3) (ret := (some .int)) (by decide) rfl ?_
  intro p e s m args below meth c s₁ B hml hv
  obtain ⟨rfl, hK, hN, hP⟩ := hv
  have hl := lv_entry ([.ref (a (27 + 2 * j0)), .int p1, .int p2]) (n := 3) (Nat.le_of_ble_eq_true rfl)
  rw [lg_entry_eq]
  generalize (lg_sl ([.ref (a (27 + 2 * j0)), .int p1, .int p2]) ++ List.replicate (3 - (lg_sl ([.ref (a (27 + 2 * j0)), .int p1, .int p2])).length) Slot.unset).toArray = ls at hl ⊢
  exact wX7_findingOfItem ⟨B.exec, B.bytes, hml, findClass_of_methodNamed B.named, fun w hw => atoms_spec (ws := .code yX7_findingOfItem cX7_findingOfItem 3 (some .int) :: wsL_law) B.pre w (List.mem_cons_of_mem _ hw), B.returns, B.notSynchronized, hK, hDis, hN⟩ out j0 p1 p2 h_j0 s.heap [] ls ⟨hP, va_S.rf⟩ hl h
theorem kX7_findingOfItem (Cx : ms_C p s m args meth c D cA a shX cc nL own ret) {σ : Mm} {H : Heap} {locs : List Loc} (hI : ms_I D cA a shX s σ H locs) {j0 : Nat} {p1 : Int32} {p2 : Int32} (h_j0 : j0 < 4) {out : Int32} (h : fX7_findingOfItem σ j0 p1 p2 = some out) (hl : Cond.methodLink own idx yX7_findingOfItem ∈ wsL_law ∨ (own, idx, yX7_findingOfItem) ∈ ms_nq) (hf : 1 + 1 ≤ R.frames) (hlo : 8 + (3 + 11) + 22 ≤ R.locals) (hsz : ls.size = nL) (hW : (rest.map fun v => v.category).sum ≤ 8) (hd : decode cc pc = .ok (.invokestatic idx, 3)) (kk : ∀ (H1 : Heap) (locs1 : List Loc), ms_I D cA a shX s σ H1 locs1 → W p l e R s m args below meth c H1 locs1 0 0 Q (F0 m (pc + 3) ls (.int out :: rest))) : W p l e R s m args below meth c H locs 0 0 Q (F0 m pc ls (.int p2 :: .int p1 :: .ref (a (27 + 2 * j0)) :: rest)) :=
  ms_ci hI (ms_runS (av := [.ref (a (27 + 2 * j0)), .int p1, .int p2]) Cx hI yvX7_findingOfItem (metX7_findingOfItem l Cx.2.2.2.2.2.2.2.2.1 h_j0 h) ⟨rfl, rfl⟩ hl ⟨hf, hlo⟩ rfl hsz rfl hW ⟨Nat.zero_le _, Nat.zero_le _⟩ hd) kk
/-! X7 put (IIII)I -/
theorem dX7_put_0 : decode cX7_put 0 = .ok (.iload_n 1, 1) := by decide +kernel
theorem dX7_put_1 : decode cX7_put 1 = .ok (.invokestatic 128, 3) := by decide +kernel
theorem dX7_put_4 : decode cX7_put 4 = .ok (.ifCond .eq 10, 3) := by decide +kernel
theorem dX7_put_7 : decode cX7_put 7 = .ok (.iload_n 2, 1) := by decide +kernel
theorem dX7_put_8 : decode cX7_put 8 = .ok (.invokestatic 264, 3) := by decide +kernel
theorem dX7_put_11 : decode cX7_put 11 = .ok (.ifCond .ne 6, 3) := by decide +kernel
theorem dX7_put_14 : decode cX7_put 14 = .ok (.bipush (-2), 2) := by decide +kernel
theorem dX7_put_16 : decode cX7_put 16 = .ok (.ireturn, 1) := by decide +kernel
theorem dX7_put_17 : decode cX7_put 17 = .ok (.aload_n 0, 1) := by decide +kernel
theorem dX7_put_18 : decode cX7_put 18 = .ok (.getfield 74, 3) := by decide +kernel
theorem dX7_put_21 : decode cX7_put 21 = .ok (.iload_n 1, 1) := by decide +kernel
theorem dX7_put_22 : decode cX7_put 22 = .ok (.aaload, 1) := by decide +kernel
theorem dX7_put_23 : decode cX7_put 23 = .ok (.iload_n 2, 1) := by decide +kernel
theorem dX7_put_24 : decode cX7_put 24 = .ok (.iload_n 3, 1) := by decide +kernel
theorem dX7_put_25 : decode cX7_put 25 = .ok (.invokestatic 270, 3) := by decide +kernel
theorem dX7_put_28 : decode cX7_put 28 = .ok (.istore 5, 2) := by decide +kernel
theorem dX7_put_30 : decode cX7_put 30 = .ok (.iload 5, 2) := by decide +kernel
theorem dX7_put_32 : decode cX7_put 32 = .ok (.ifCond .eq 10, 3) := by decide +kernel
theorem dX7_put_35 : decode cX7_put 35 = .ok (.aload_n 0, 1) := by decide +kernel
theorem dX7_put_36 : decode cX7_put 36 = .ok (.iload 5, 2) := by decide +kernel
theorem dX7_put_38 : decode cX7_put 38 = .ok (.invokevirtual 135, 3) := by decide +kernel
theorem dX7_put_41 : decode cX7_put 41 = .ok (.ireturn, 1) := by decide +kernel
theorem dX7_put_42 : decode cX7_put 42 = .ok (.aload_n 0, 1) := by decide +kernel
theorem dX7_put_43 : decode cX7_put 43 = .ok (.getfield 74, 3) := by decide +kernel
theorem dX7_put_46 : decode cX7_put 46 = .ok (.iload_n 1, 1) := by decide +kernel
theorem dX7_put_47 : decode cX7_put 47 = .ok (.aaload, 1) := by decide +kernel
theorem dX7_put_48 : decode cX7_put 48 = .ok (.iload_n 3, 1) := by decide +kernel
theorem dX7_put_49 : decode cX7_put 49 = .ok (.iload 4, 2) := by decide +kernel
theorem dX7_put_51 : decode cX7_put 51 = .ok (.invokevirtual 274, 3) := by decide +kernel
theorem dX7_put_54 : decode cX7_put 54 = .ok (.iconst 1, 1) := by decide +kernel
theorem dX7_put_55 : decode cX7_put 55 = .ok (.ireturn, 1) := by decide +kernel
abbrev rmX7_put : Room := { frames := 2, cells := 0, slots := 0, locals := 44 }
set_option maxHeartbeats 4000000 in
set_option maxRecDepth 100000 in
theorem wX7_put (Cx : ms_C p s m args meth c D cA a shX cX7_put 6 RX7 (some .int)) (out : Int32 × Mm) : ∀ (p0 : Int32) (p1 : Int32) (p2 : Int32) (p3 : Int32) , ∀ (σ : Mm) (H : Heap) (locs : List Loc) (ls : Array Slot), ms_I D cA a shX s σ H locs → lv_has ls 6 [(0, .ref (a 0)), (1, .int p0), (2, .int p1), (3, .int p2), (4, .int p3)] → fX7_put p0 p1 p2 p3 σ = some out → W p l e rmX7_put s m args below meth c H locs 0 0 (MQ below (ms_Qi D cA a shX out.1 out.2) args s 0 0 (ms_A a shX.length)) (F0 m 0 ls []) := by
  have hx := Cx.1
  have hb := Cx.2.1
  intro p0 p1 p2 p3 σ H locs ls hI hl h
  unfold fX7_put at h
  refine lv_iload_n hx hb dX7_put_0 rfl (lv_at hl 1 rfl) ?_
  obtain ⟨r2, hc1, h⟩ := ms_bdE h
  refine kX7_isSheet Cx hI hc1 (Or.inl wd_17_8) (Nat.le_of_ble_eq_true rfl) (Nat.le_of_ble_eq_true rfl) hl.1 (Nat.le_of_ble_eq_true rfl) dX7_put_1 (fun H locs hI => ?_)
  refine lv_if_eq (tgt := 14) hx hb dX7_put_4 rfl (fun hc => ?_) (fun hc => ?_)
  · have h := ms_ifT hc h
    refine lv_bipush (v := -2) hx hb dX7_put_14 rfl ?_
    exact ms_riw Cx hI h dX7_put_16
  · have h := ms_ifF hc h
    refine lv_iload_n hx hb dX7_put_7 rfl (lv_at hl 2 rfl) ?_
    obtain ⟨r4, hc3, h⟩ := ms_bdE h
    refine kX7_isForm Cx hI hc3 (Or.inl wd_36_23) (Nat.le_of_ble_eq_true rfl) (Nat.le_of_ble_eq_true rfl) hl.1 (Nat.le_of_ble_eq_true rfl) dX7_put_8 (fun H locs hI => ?_)
    refine lv_if_ne (tgt := 17) hx hb dX7_put_11 rfl (fun hc => ?_) (fun hc => ?_)
    · have h := ms_ifF hc h
      refine lv_aload_n hx hb dX7_put_17 rfl (lv_at hl 0 rfl) ?_
      refine gr_X7_9 Cx hI wd_3_0 dX7_put_18 ?_
      refine lv_iload_n hx hb dX7_put_21 rfl (lv_at hl 1 rfl) ?_
      obtain ⟨hg, h⟩ := ms_gE h
      refine ms_ldr Cx hI 26 shX_26 hg dX7_put_22 ?_
      have hq5 := ms_ixlt hg
      refine lv_iload_n hx hb dX7_put_23 rfl (lv_at hl 2 rfl) ?_
      refine lv_iload_n hx hb dX7_put_24 rfl (lv_at hl 3 rfl) ?_
      obtain ⟨r7, hc6, h⟩ := ms_bdE h
      refine kX7_findingOfItem Cx hI hq5 hc6 (Or.inl wd_37_23) (Nat.le_of_ble_eq_true rfl) (Nat.le_of_ble_eq_true rfl) hl.1 (Nat.le_of_ble_eq_true rfl) dX7_put_25 (fun H locs hI => ?_)
      refine lv_istore (lv' := [(5, .int r7), (0, .ref (a 0)), (1, .int p0), (2, .int p1), (3, .int p2), (4, .int p3)]) hx hb dX7_put_28 hl (by decide) rfl (fun ls hl => ?_)
      refine lv_iload hx hb dX7_put_30 (lv_at hl 0 rfl) ?_
      refine lv_if_eq (tgt := 42) hx hb dX7_put_32 rfl (fun hc => ?_) (fun hc => ?_)
      · have h := ms_ifT hc h
        refine lv_aload_n hx hb dX7_put_42 rfl (lv_at hl 1 rfl) ?_
        refine gr_X7_9 Cx hI wd_3_0 dX7_put_43 ?_
        refine lv_iload_n hx hb dX7_put_46 rfl (lv_at hl 2 rfl) ?_
        obtain ⟨hg, h⟩ := ms_gE h
        refine ms_ldr Cx hI 26 shX_26 hg dX7_put_47 ?_
        have hq8 := ms_ixlt hg
        refine lv_iload_n hx hb dX7_put_48 rfl (lv_at hl 4 rfl) ?_
        refine lv_iload hx hb dX7_put_49 (lv_at hl 5 rfl) ?_
        obtain ⟨σ10, hc9, h⟩ := ms_bdE h
        refine kX2_store Cx hI hq8 hc9 wd_38_3 (Nat.le_of_ble_eq_true rfl) (Nat.le_of_ble_eq_true rfl) hl.1 (Nat.le_of_ble_eq_true rfl) dX7_put_51 (fun H locs hI => ?_)
        refine lv_iconst (v := 1) hx hb dX7_put_54 rfl ?_
        exact ms_riw Cx hI h dX7_put_55
      · have h := ms_ifF hc h
        refine lv_aload_n hx hb dX7_put_35 rfl (lv_at hl 1 rfl) ?_
        refine lv_iload hx hb dX7_put_36 (lv_at hl 0 rfl) ?_
        obtain ⟨⟨r12, σ13⟩, hc11, h⟩ := ms_bdE h
        refine kX7_find Cx hI hc11 wd_17_11 (Nat.le_of_ble_eq_true rfl) (Nat.le_of_ble_eq_true rfl) hl.1 (Nat.le_of_ble_eq_true rfl) dX7_put_38 (fun H locs hI => ?_)
        exact ms_riw Cx hI h dX7_put_41
    · have h := ms_ifT hc h
      refine lv_bipush (v := -2) hx hb dX7_put_14 rfl ?_
      exact ms_riw Cx hI h dX7_put_16
theorem yvX7_put : ms_YV yX7_put RX7 cX7_put 6 (some .int) 4 := ⟨wd_37_20, wd_37_21, wd_1_2, wd_37_22, rfl, by decide +kernel, by decide +kernel, by decide +kernel⟩
set_option maxHeartbeats 4000000 in
theorem metX7_put (l : Launch) (hDis : ms_Dis a shX.length) {σ : Mm} {p0 : Int32} {p1 : Int32} {p2 : Int32} {p3 : Int32} {out : Int32 × Mm} (h : fX7_put p0 p1 p2 p3 σ = some out) : Met l yX7_put (.code yX7_put cX7_put 6 (some .int) :: wsL_law) rmX7_put (ms_Pc D cA a shX [.ref (a 0), .int p0, .int p1, .int p2, .int p3] σ) (ms_Qi D cA a shX out.1 out.2) 0 0 (ms_A a shX.length) := by
  refine Met.ofW (cc := cX7_put) (maxL := 6) (ret := (some .int)) (by decide) rfl ?_
  intro p e s m args below meth c s₁ B hml hv
  obtain ⟨rfl, hK, hN, hP⟩ := hv
  have hl := lv_entry ([.ref (a 0), .int p0, .int p1, .int p2, .int p3]) (n := 6) (Nat.le_of_ble_eq_true rfl)
  rw [lg_entry_eq]
  generalize (lg_sl ([.ref (a 0), .int p0, .int p1, .int p2, .int p3]) ++ List.replicate (6 - (lg_sl ([.ref (a 0), .int p0, .int p1, .int p2, .int p3])).length) Slot.unset).toArray = ls at hl ⊢
  exact wX7_put ⟨B.exec, B.bytes, hml, findClass_of_methodNamed B.named, fun w hw => atoms_spec (ws := .code yX7_put cX7_put 6 (some .int) :: wsL_law) B.pre w (List.mem_cons_of_mem _ hw), B.returns, B.notSynchronized, hK, hDis, hN⟩ out p0 p1 p2 p3 σ s.heap [] ls ⟨hP, va_S.rf⟩ hl h
theorem kX7_put (Cx : ms_C p s m args meth c D cA a shX cc nL own ret) {σ : Mm} {H : Heap} {locs : List Loc} (hI : ms_I D cA a shX s σ H locs) {p0 : Int32} {p1 : Int32} {p2 : Int32} {p3 : Int32} {out : Int32 × Mm} (h : fX7_put p0 p1 p2 p3 σ = some out) (hl : Cond.methodLink own idx yX7_put ∈ wsL_law) (hf : 2 + 1 ≤ R.frames) (hlo : 8 + (6 + 11) + 44 ≤ R.locals) (hsz : ls.size = nL) (hW : (rest.map fun v => v.category).sum ≤ 8) (hd : decode cc pc = .ok (.invokevirtual idx, 3)) (kk : ∀ (H1 : Heap) (locs1 : List Loc), ms_I D cA a shX s out.2 H1 locs1 → W p l e R s m args below meth c H1 locs1 0 0 Q (F0 m (pc + 3) ls (.int out.1 :: rest))) : W p l e R s m args below meth c H locs 0 0 Q (F0 m pc ls (.int p3 :: .int p2 :: .int p1 :: .int p0 :: .ref (a 0) :: rest)) :=
  ms_ci hI (ms_runV (av := [.int p0, .int p1, .int p2, .int p3]) Cx hI 0 shX_0 (ci := 7) rfl rfl yvX7_put (metX7_put l Cx.2.2.2.2.2.2.2.2.1  h) ⟨rfl, rfl⟩ hl ⟨hf, hlo⟩ rfl hsz rfl hW ⟨Nat.zero_le _, Nat.zero_le _⟩ hd) kk
/-! X7 get (III)I -/
theorem dX7_get_0 : decode cX7_get 0 = .ok (.iload_n 1, 1) := by decide +kernel
theorem dX7_get_1 : decode cX7_get 1 = .ok (.invokestatic 128, 3) := by decide +kernel
theorem dX7_get_4 : decode cX7_get 4 = .ok (.ifCond .eq 10, 3) := by decide +kernel
theorem dX7_get_7 : decode cX7_get 7 = .ok (.iload_n 2, 1) := by decide +kernel
theorem dX7_get_8 : decode cX7_get 8 = .ok (.invokestatic 264, 3) := by decide +kernel
theorem dX7_get_11 : decode cX7_get 11 = .ok (.ifCond .ne 7, 3) := by decide +kernel
theorem dX7_get_14 : decode cX7_get 14 = .ok (.ldc_w 277, 3) := by decide +kernel
theorem dX7_get_17 : decode cX7_get 17 = .ok (.ireturn, 1) := by decide +kernel
theorem dX7_get_18 : decode cX7_get 18 = .ok (.aload_n 0, 1) := by decide +kernel
theorem dX7_get_19 : decode cX7_get 19 = .ok (.getfield 74, 3) := by decide +kernel
theorem dX7_get_22 : decode cX7_get 22 = .ok (.iload_n 1, 1) := by decide +kernel
theorem dX7_get_23 : decode cX7_get 23 = .ok (.aaload, 1) := by decide +kernel
theorem dX7_get_24 : decode cX7_get 24 = .ok (.iload_n 2, 1) := by decide +kernel
theorem dX7_get_25 : decode cX7_get 25 = .ok (.iload_n 3, 1) := by decide +kernel
theorem dX7_get_26 : decode cX7_get 26 = .ok (.invokestatic 270, 3) := by decide +kernel
theorem dX7_get_29 : decode cX7_get 29 = .ok (.istore 4, 2) := by decide +kernel
theorem dX7_get_31 : decode cX7_get 31 = .ok (.iload 4, 2) := by decide +kernel
theorem dX7_get_33 : decode cX7_get 33 = .ok (.ifCond .eq 13, 3) := by decide +kernel
theorem dX7_get_36 : decode cX7_get 36 = .ok (.aload_n 0, 1) := by decide +kernel
theorem dX7_get_37 : decode cX7_get 37 = .ok (.iload 4, 2) := by decide +kernel
theorem dX7_get_39 : decode cX7_get 39 = .ok (.putfield 78, 3) := by decide +kernel
theorem dX7_get_42 : decode cX7_get 42 = .ok (.ldc_w 277, 3) := by decide +kernel
theorem dX7_get_45 : decode cX7_get 45 = .ok (.ireturn, 1) := by decide +kernel
theorem dX7_get_46 : decode cX7_get 46 = .ok (.aload_n 0, 1) := by decide +kernel
theorem dX7_get_47 : decode cX7_get 47 = .ok (.getfield 74, 3) := by decide +kernel
theorem dX7_get_50 : decode cX7_get 50 = .ok (.iload_n 1, 1) := by decide +kernel
theorem dX7_get_51 : decode cX7_get 51 = .ok (.aaload, 1) := by decide +kernel
theorem dX7_get_52 : decode cX7_get 52 = .ok (.getfield 147, 3) := by decide +kernel
theorem dX7_get_55 : decode cX7_get 55 = .ok (.iload_n 3, 1) := by decide +kernel
theorem dX7_get_56 : decode cX7_get 56 = .ok (.iaload, 1) := by decide +kernel
theorem dX7_get_57 : decode cX7_get 57 = .ok (.ireturn, 1) := by decide +kernel
abbrev rmX7_get : Room := { frames := 2, cells := 0, slots := 0, locals := 44 }
set_option maxHeartbeats 4000000 in
set_option maxRecDepth 100000 in
theorem wX7_get (Cx : ms_C p s m args meth c D cA a shX cX7_get 5 RX7 (some .int)) (out : Int32 × Mm) : ∀ (p0 : Int32) (p1 : Int32) (p2 : Int32) , ∀ (σ : Mm) (H : Heap) (locs : List Loc) (ls : Array Slot), ms_I D cA a shX s σ H locs → lv_has ls 5 [(0, .ref (a 0)), (1, .int p0), (2, .int p1), (3, .int p2)] → fX7_get p0 p1 p2 σ = some out → W p l e rmX7_get s m args below meth c H locs 0 0 (MQ below (ms_Qi D cA a shX out.1 out.2) args s 0 0 (ms_A a shX.length)) (F0 m 0 ls []) := by
  have hx := Cx.1
  have hb := Cx.2.1
  intro p0 p1 p2 σ H locs ls hI hl h
  unfold fX7_get at h
  refine lv_iload_n hx hb dX7_get_0 rfl (lv_at hl 1 rfl) ?_
  obtain ⟨r2, hc1, h⟩ := ms_bdE h
  refine kX7_isSheet Cx hI hc1 (Or.inl wd_17_8) (Nat.le_of_ble_eq_true rfl) (Nat.le_of_ble_eq_true rfl) hl.1 (Nat.le_of_ble_eq_true rfl) dX7_get_1 (fun H locs hI => ?_)
  refine lv_if_eq (tgt := 14) hx hb dX7_get_4 rfl (fun hc => ?_) (fun hc => ?_)
  · have h := ms_ifT hc h
    refine lv_ldcw hx hb Cx.2.2.2.1 (Cx.2.2.2.2.1 _ wd_38_23) dX7_get_14 ?_
    exact ms_riw Cx hI h dX7_get_17
  · have h := ms_ifF hc h
    refine lv_iload_n hx hb dX7_get_7 rfl (lv_at hl 2 rfl) ?_
    obtain ⟨r4, hc3, h⟩ := ms_bdE h
    refine kX7_isForm Cx hI hc3 (Or.inl wd_36_23) (Nat.le_of_ble_eq_true rfl) (Nat.le_of_ble_eq_true rfl) hl.1 (Nat.le_of_ble_eq_true rfl) dX7_get_8 (fun H locs hI => ?_)
    refine lv_if_ne (tgt := 18) hx hb dX7_get_11 rfl (fun hc => ?_) (fun hc => ?_)
    · have h := ms_ifF hc h
      refine lv_aload_n hx hb dX7_get_18 rfl (lv_at hl 0 rfl) ?_
      refine gr_X7_9 Cx hI wd_3_0 dX7_get_19 ?_
      refine lv_iload_n hx hb dX7_get_22 rfl (lv_at hl 1 rfl) ?_
      obtain ⟨hg, h⟩ := ms_gE h
      refine ms_ldr Cx hI 26 shX_26 hg dX7_get_23 ?_
      have hq5 := ms_ixlt hg
      refine lv_iload_n hx hb dX7_get_24 rfl (lv_at hl 2 rfl) ?_
      refine lv_iload_n hx hb dX7_get_25 rfl (lv_at hl 3 rfl) ?_
      obtain ⟨r7, hc6, h⟩ := ms_bdE h
      refine kX7_findingOfItem Cx hI hq5 hc6 (Or.inl wd_37_23) (Nat.le_of_ble_eq_true rfl) (Nat.le_of_ble_eq_true rfl) hl.1 (Nat.le_of_ble_eq_true rfl) dX7_get_26 (fun H locs hI => ?_)
      refine lv_istore (lv' := [(4, .int r7), (0, .ref (a 0)), (1, .int p0), (2, .int p1), (3, .int p2)]) hx hb dX7_get_29 hl (by decide) rfl (fun ls hl => ?_)
      refine lv_iload hx hb dX7_get_31 (lv_at hl 0 rfl) ?_
      refine lv_if_eq (tgt := 46) hx hb dX7_get_33 rfl (fun hc => ?_) (fun hc => ?_)
      · have h := ms_ifT hc h
        refine lv_aload_n hx hb dX7_get_46 rfl (lv_at hl 1 rfl) ?_
        refine gr_X7_9 Cx hI wd_3_0 dX7_get_47 ?_
        refine lv_iload_n hx hb dX7_get_50 rfl (lv_at hl 2 rfl) ?_
        obtain ⟨hg, h⟩ := ms_gE h
        refine ms_ldr Cx hI 26 shX_26 hg dX7_get_51 ?_
        have hq8 := ms_ixlt hg
        refine gr_X2_0 Cx hI hq8 wd_17_7 dX7_get_52 ?_
        refine lv_iload_n hx hb dX7_get_55 rfl (lv_at hl 4 rfl) ?_
        obtain ⟨hg, h⟩ := ms_gE h
        refine ms_ld Cx hI (28 + 2 * (ms_ix p0)) (shX_J hq8) hg dX7_get_56 ?_
        exact ms_riw Cx hI h dX7_get_57
      · have h := ms_ifF hc h
        refine lv_aload_n hx hb dX7_get_36 rfl (lv_at hl 1 rfl) ?_
        refine lv_iload hx hb dX7_get_37 (lv_at hl 0 rfl) ?_
        refine pi_X7_10 Cx hI wd_3_1 dX7_get_39 (fun H locs σ9 eσ9 hI => ?_)
        have h := ms_ltE eσ9 h
        refine lv_ldcw hx hb Cx.2.2.2.1 (Cx.2.2.2.2.1 _ wd_38_23) dX7_get_42 ?_
        exact ms_riw Cx hI h dX7_get_45
    · have h := ms_ifT hc h
      refine lv_ldcw hx hb Cx.2.2.2.1 (Cx.2.2.2.2.1 _ wd_38_23) dX7_get_14 ?_
      exact ms_riw Cx hI h dX7_get_17
theorem yvX7_get : ms_YV yX7_get RX7 cX7_get 5 (some .int) 3 := ⟨wd_38_20, wd_38_21, wd_1_2, wd_38_22, rfl, by decide +kernel, by decide +kernel, by decide +kernel⟩
set_option maxHeartbeats 4000000 in
theorem metX7_get (l : Launch) (hDis : ms_Dis a shX.length) {σ : Mm} {p0 : Int32} {p1 : Int32} {p2 : Int32} {out : Int32 × Mm} (h : fX7_get p0 p1 p2 σ = some out) : Met l yX7_get (.code yX7_get cX7_get 5 (some .int) :: wsL_law) rmX7_get (ms_Pc D cA a shX [.ref (a 0), .int p0, .int p1, .int p2] σ) (ms_Qi D cA a shX out.1 out.2) 0 0 (ms_A a shX.length) := by
  refine Met.ofW (cc := cX7_get) (maxL := 5) (ret := (some .int)) (by decide) rfl ?_
  intro p e s m args below meth c s₁ B hml hv
  obtain ⟨rfl, hK, hN, hP⟩ := hv
  have hl := lv_entry ([.ref (a 0), .int p0, .int p1, .int p2]) (n := 5) (Nat.le_of_ble_eq_true rfl)
  rw [lg_entry_eq]
  generalize (lg_sl ([.ref (a 0), .int p0, .int p1, .int p2]) ++ List.replicate (5 - (lg_sl ([.ref (a 0), .int p0, .int p1, .int p2])).length) Slot.unset).toArray = ls at hl ⊢
  exact wX7_get ⟨B.exec, B.bytes, hml, findClass_of_methodNamed B.named, fun w hw => atoms_spec (ws := .code yX7_get cX7_get 5 (some .int) :: wsL_law) B.pre w (List.mem_cons_of_mem _ hw), B.returns, B.notSynchronized, hK, hDis, hN⟩ out p0 p1 p2 σ s.heap [] ls ⟨hP, va_S.rf⟩ hl h
theorem kX7_get (Cx : ms_C p s m args meth c D cA a shX cc nL own ret) {σ : Mm} {H : Heap} {locs : List Loc} (hI : ms_I D cA a shX s σ H locs) {p0 : Int32} {p1 : Int32} {p2 : Int32} {out : Int32 × Mm} (h : fX7_get p0 p1 p2 σ = some out) (hl : Cond.methodLink own idx yX7_get ∈ wsL_law) (hf : 2 + 1 ≤ R.frames) (hlo : 8 + (5 + 11) + 44 ≤ R.locals) (hsz : ls.size = nL) (hW : (rest.map fun v => v.category).sum ≤ 8) (hd : decode cc pc = .ok (.invokevirtual idx, 3)) (kk : ∀ (H1 : Heap) (locs1 : List Loc), ms_I D cA a shX s out.2 H1 locs1 → W p l e R s m args below meth c H1 locs1 0 0 Q (F0 m (pc + 3) ls (.int out.1 :: rest))) : W p l e R s m args below meth c H locs 0 0 Q (F0 m pc ls (.int p2 :: .int p1 :: .int p0 :: .ref (a 0) :: rest)) :=
  ms_ci hI (ms_runV (av := [.int p0, .int p1, .int p2]) Cx hI 0 shX_0 (ci := 7) rfl rfl yvX7_get (metX7_get l Cx.2.2.2.2.2.2.2.2.1  h) ⟨rfl, rfl⟩ hl ⟨hf, hlo⟩ rfl hsz rfl hW ⟨Nat.zero_le _, Nat.zero_le _⟩ hd) kk
/-! X7 copy (IIIII)I -/
theorem dX7_copy_0 : decode cX7_copy 0 = .ok (.iload_n 1, 1) := by decide +kernel
theorem dX7_copy_1 : decode cX7_copy 1 = .ok (.invokestatic 128, 3) := by decide +kernel
theorem dX7_copy_4 : decode cX7_copy 4 = .ok (.ifCond .eq 10, 3) := by decide +kernel
theorem dX7_copy_7 : decode cX7_copy 7 = .ok (.iload_n 3, 1) := by decide +kernel
theorem dX7_copy_8 : decode cX7_copy 8 = .ok (.invokestatic 128, 3) := by decide +kernel
theorem dX7_copy_11 : decode cX7_copy 11 = .ok (.ifCond .ne 6, 3) := by decide +kernel
theorem dX7_copy_14 : decode cX7_copy 14 = .ok (.bipush (-2), 2) := by decide +kernel
theorem dX7_copy_16 : decode cX7_copy 16 = .ok (.ireturn, 1) := by decide +kernel
theorem dX7_copy_17 : decode cX7_copy 17 = .ok (.aload_n 0, 1) := by decide +kernel
theorem dX7_copy_18 : decode cX7_copy 18 = .ok (.getfield 74, 3) := by decide +kernel
theorem dX7_copy_21 : decode cX7_copy 21 = .ok (.iload_n 1, 1) := by decide +kernel
theorem dX7_copy_22 : decode cX7_copy 22 = .ok (.aaload, 1) := by decide +kernel
theorem dX7_copy_23 : decode cX7_copy 23 = .ok (.astore 6, 2) := by decide +kernel
theorem dX7_copy_25 : decode cX7_copy 25 = .ok (.aload_n 0, 1) := by decide +kernel
theorem dX7_copy_26 : decode cX7_copy 26 = .ok (.getfield 74, 3) := by decide +kernel
theorem dX7_copy_29 : decode cX7_copy 29 = .ok (.iload_n 3, 1) := by decide +kernel
theorem dX7_copy_30 : decode cX7_copy 30 = .ok (.aaload, 1) := by decide +kernel
theorem dX7_copy_31 : decode cX7_copy 31 = .ok (.astore 7, 2) := by decide +kernel
theorem dX7_copy_33 : decode cX7_copy 33 = .ok (.aload 6, 2) := by decide +kernel
theorem dX7_copy_35 : decode cX7_copy 35 = .ok (.getfield 131, 3) := by decide +kernel
theorem dX7_copy_38 : decode cX7_copy 38 = .ok (.ifCond .ne 11, 3) := by decide +kernel
theorem dX7_copy_41 : decode cX7_copy 41 = .ok (.aload 7, 2) := by decide +kernel
theorem dX7_copy_43 : decode cX7_copy 43 = .ok (.getfield 131, 3) := by decide +kernel
theorem dX7_copy_46 : decode cX7_copy 46 = .ok (.ifCond .eq 9, 3) := by decide +kernel
theorem dX7_copy_49 : decode cX7_copy 49 = .ok (.aload_n 0, 1) := by decide +kernel
theorem dX7_copy_50 : decode cX7_copy 50 = .ok (.iconst 1, 1) := by decide +kernel
theorem dX7_copy_51 : decode cX7_copy 51 = .ok (.invokevirtual 135, 3) := by decide +kernel
theorem dX7_copy_54 : decode cX7_copy 54 = .ok (.ireturn, 1) := by decide +kernel
theorem dX7_copy_55 : decode cX7_copy 55 = .ok (.aload 6, 2) := by decide +kernel
theorem dX7_copy_57 : decode cX7_copy 57 = .ok (.getfield 278, 3) := by decide +kernel
theorem dX7_copy_60 : decode cX7_copy 60 = .ok (.aload 7, 2) := by decide +kernel
theorem dX7_copy_62 : decode cX7_copy 62 = .ok (.getfield 278, 3) := by decide +kernel
theorem dX7_copy_65 : decode cX7_copy 65 = .ok (.if_icmp .eq 9, 3) := by decide +kernel
theorem dX7_copy_68 : decode cX7_copy 68 = .ok (.aload_n 0, 1) := by decide +kernel
theorem dX7_copy_69 : decode cX7_copy 69 = .ok (.iconst 4, 1) := by decide +kernel
theorem dX7_copy_70 : decode cX7_copy 70 = .ok (.invokevirtual 135, 3) := by decide +kernel
theorem dX7_copy_73 : decode cX7_copy 73 = .ok (.ireturn, 1) := by decide +kernel
theorem dX7_copy_74 : decode cX7_copy 74 = .ok (.aload 6, 2) := by decide +kernel
theorem dX7_copy_76 : decode cX7_copy 76 = .ok (.iload_n 2, 1) := by decide +kernel
theorem dX7_copy_77 : decode cX7_copy 77 = .ok (.iload 5, 2) := by decide +kernel
theorem dX7_copy_79 : decode cX7_copy 79 = .ok (.invokevirtual 281, 3) := by decide +kernel
theorem dX7_copy_82 : decode cX7_copy 82 = .ok (.ifCond .eq 15, 3) := by decide +kernel
theorem dX7_copy_85 : decode cX7_copy 85 = .ok (.aload 7, 2) := by decide +kernel
theorem dX7_copy_87 : decode cX7_copy 87 = .ok (.iload 4, 2) := by decide +kernel
theorem dX7_copy_89 : decode cX7_copy 89 = .ok (.iload 5, 2) := by decide +kernel
theorem dX7_copy_91 : decode cX7_copy 91 = .ok (.invokevirtual 281, 3) := by decide +kernel
theorem dX7_copy_94 : decode cX7_copy 94 = .ok (.ifCond .ne 9, 3) := by decide +kernel
theorem dX7_copy_97 : decode cX7_copy 97 = .ok (.aload_n 0, 1) := by decide +kernel
theorem dX7_copy_98 : decode cX7_copy 98 = .ok (.iconst 2, 1) := by decide +kernel
theorem dX7_copy_99 : decode cX7_copy 99 = .ok (.invokevirtual 135, 3) := by decide +kernel
theorem dX7_copy_102 : decode cX7_copy 102 = .ok (.ireturn, 1) := by decide +kernel
theorem dX7_copy_103 : decode cX7_copy 103 = .ok (.aload 6, 2) := by decide +kernel
theorem dX7_copy_105 : decode cX7_copy 105 = .ok (.getfield 147, 3) := by decide +kernel
theorem dX7_copy_108 : decode cX7_copy 108 = .ok (.iload_n 2, 1) := by decide +kernel
theorem dX7_copy_109 : decode cX7_copy 109 = .ok (.aload 7, 2) := by decide +kernel
theorem dX7_copy_111 : decode cX7_copy 111 = .ok (.getfield 147, 3) := by decide +kernel
theorem dX7_copy_114 : decode cX7_copy 114 = .ok (.iload 4, 2) := by decide +kernel
theorem dX7_copy_116 : decode cX7_copy 116 = .ok (.iload 5, 2) := by decide +kernel
theorem dX7_copy_118 : decode cX7_copy 118 = .ok (.invokestatic 285, 3) := by decide +kernel
theorem dX7_copy_121 : decode cX7_copy 121 = .ok (.iconst 1, 1) := by decide +kernel
theorem dX7_copy_122 : decode cX7_copy 122 = .ok (.ireturn, 1) := by decide +kernel
abbrev rmX7_copy : Room := { frames := 2, cells := 0, slots := 0, locals := 60 }
set_option maxHeartbeats 4000000 in
set_option maxRecDepth 100000 in
theorem wX7_copy_49 (Cx : ms_C p s m args meth c D cA a shX cX7_copy 8 RX7 (some .int)) (out : Int32 × Mm) : ∀ (σ : Mm) (H : Heap) (locs : List Loc) (ls : Array Slot), ms_I D cA a shX s σ H locs → lv_has ls 8 [(0, .ref (a 0))] → fX7_copy_49 σ = some out → W p l e rmX7_copy s m args below meth c H locs 0 0 (MQ below (ms_Qi D cA a shX out.1 out.2) args s 0 0 (ms_A a shX.length)) (F0 m 49 ls []) := by
  have hx := Cx.1
  have hb := Cx.2.1
  intro σ H locs ls hI hl h
  unfold fX7_copy_49 at h
  refine lv_aload_n hx hb dX7_copy_49 rfl (lv_at hl 0 rfl) ?_
  refine lv_iconst (v := 1) hx hb dX7_copy_50 rfl ?_
  obtain ⟨⟨r2, σ3⟩, hc1, h⟩ := ms_bdE h
  refine kX7_find Cx hI hc1 wd_17_11 (Nat.le_of_ble_eq_true rfl) (Nat.le_of_ble_eq_true rfl) hl.1 (Nat.le_of_ble_eq_true rfl) dX7_copy_51 (fun H locs hI => ?_)
  exact ms_riw Cx hI h dX7_copy_54
set_option maxHeartbeats 4000000 in
set_option maxRecDepth 100000 in
theorem wX7_copy_97 (Cx : ms_C p s m args meth c D cA a shX cX7_copy 8 RX7 (some .int)) (out : Int32 × Mm) : ∀ (σ : Mm) (H : Heap) (locs : List Loc) (ls : Array Slot), ms_I D cA a shX s σ H locs → lv_has ls 8 [(0, .ref (a 0))] → fX7_copy_97 σ = some out → W p l e rmX7_copy s m args below meth c H locs 0 0 (MQ below (ms_Qi D cA a shX out.1 out.2) args s 0 0 (ms_A a shX.length)) (F0 m 97 ls []) := by
  have hx := Cx.1
  have hb := Cx.2.1
  intro σ H locs ls hI hl h
  unfold fX7_copy_97 at h
  refine lv_aload_n hx hb dX7_copy_97 rfl (lv_at hl 0 rfl) ?_
  refine lv_iconst (v := 2) hx hb dX7_copy_98 rfl ?_
  obtain ⟨⟨r2, σ3⟩, hc1, h⟩ := ms_bdE h
  refine kX7_find Cx hI hc1 wd_17_11 (Nat.le_of_ble_eq_true rfl) (Nat.le_of_ble_eq_true rfl) hl.1 (Nat.le_of_ble_eq_true rfl) dX7_copy_99 (fun H locs hI => ?_)
  exact ms_riw Cx hI h dX7_copy_102
set_option maxHeartbeats 4000000 in
set_option maxRecDepth 100000 in
theorem wX7_copy (Cx : ms_C p s m args meth c D cA a shX cX7_copy 8 RX7 (some .int)) (out : Int32 × Mm) : ∀ (p0 : Int32) (p1 : Int32) (p2 : Int32) (p3 : Int32) (p4 : Int32) , ∀ (σ : Mm) (H : Heap) (locs : List Loc) (ls : Array Slot), ms_I D cA a shX s σ H locs → lv_has ls 8 [(0, .ref (a 0)), (1, .int p0), (2, .int p1), (3, .int p2), (4, .int p3), (5, .int p4)] → fX7_copy p0 p1 p2 p3 p4 σ = some out → W p l e rmX7_copy s m args below meth c H locs 0 0 (MQ below (ms_Qi D cA a shX out.1 out.2) args s 0 0 (ms_A a shX.length)) (F0 m 0 ls []) := by
  have hx := Cx.1
  have hb := Cx.2.1
  intro p0 p1 p2 p3 p4 σ H locs ls hI hl h
  unfold fX7_copy at h
  refine lv_iload_n hx hb dX7_copy_0 rfl (lv_at hl 1 rfl) ?_
  obtain ⟨r2, hc1, h⟩ := ms_bdE h
  refine kX7_isSheet Cx hI hc1 (Or.inl wd_17_8) (Nat.le_of_ble_eq_true rfl) (Nat.le_of_ble_eq_true rfl) hl.1 (Nat.le_of_ble_eq_true rfl) dX7_copy_1 (fun H locs hI => ?_)
  refine lv_if_eq (tgt := 14) hx hb dX7_copy_4 rfl (fun hc => ?_) (fun hc => ?_)
  · have h := ms_ifT hc h
    refine lv_bipush (v := -2) hx hb dX7_copy_14 rfl ?_
    exact ms_riw Cx hI h dX7_copy_16
  · have h := ms_ifF hc h
    refine lv_iload_n hx hb dX7_copy_7 rfl (lv_at hl 3 rfl) ?_
    obtain ⟨r4, hc3, h⟩ := ms_bdE h
    refine kX7_isSheet Cx hI hc3 (Or.inl wd_17_8) (Nat.le_of_ble_eq_true rfl) (Nat.le_of_ble_eq_true rfl) hl.1 (Nat.le_of_ble_eq_true rfl) dX7_copy_8 (fun H locs hI => ?_)
    refine lv_if_ne (tgt := 17) hx hb dX7_copy_11 rfl (fun hc => ?_) (fun hc => ?_)
    · have h := ms_ifF hc h
      refine lv_aload_n hx hb dX7_copy_17 rfl (lv_at hl 0 rfl) ?_
      refine gr_X7_9 Cx hI wd_3_0 dX7_copy_18 ?_
      refine lv_iload_n hx hb dX7_copy_21 rfl (lv_at hl 1 rfl) ?_
      obtain ⟨hg, h⟩ := ms_gE h
      refine ms_ldr Cx hI 26 shX_26 hg dX7_copy_22 ?_
      have hq5 := ms_ixlt hg
      refine lv_astore (lv' := [(6, .ref (a (27 + 2 * (ms_ix p0)))), (0, .ref (a 0)), (1, .int p0), (2, .int p1), (3, .int p2), (4, .int p3), (5, .int p4)]) hx hb dX7_copy_23 hl (by decide) rfl (fun ls hl => ?_)
      refine lv_aload_n hx hb dX7_copy_25 rfl (lv_at hl 1 rfl) ?_
      refine gr_X7_9 Cx hI wd_3_0 dX7_copy_26 ?_
      refine lv_iload_n hx hb dX7_copy_29 rfl (lv_at hl 4 rfl) ?_
      obtain ⟨hg, h⟩ := ms_gE h
      refine ms_ldr Cx hI 26 shX_26 hg dX7_copy_30 ?_
      have hq6 := ms_ixlt hg
      refine lv_astore (lv' := [(7, .ref (a (27 + 2 * (ms_ix p2)))), (6, .ref (a (27 + 2 * (ms_ix p0)))), (0, .ref (a 0)), (1, .int p0), (2, .int p1), (3, .int p2), (4, .int p3), (5, .int p4)]) hx hb dX7_copy_31 hl (by decide) rfl (fun ls hl => ?_)
      refine lv_aload hx hb dX7_copy_33 (lv_at hl 1 rfl) ?_
      refine gi_X2_3 Cx hI hq5 wd_17_1 dX7_copy_35 ?_
      refine lv_if_ne (tgt := 49) hx hb dX7_copy_38 rfl (fun hc => ?_) (fun hc => ?_)
      · have h := ms_ifF hc h
        exact wX7_copy_49 Cx out  σ _ _ _ hI (lv_sub hl [2] rfl) h
      · have h := ms_ifT hc h
        refine lv_aload hx hb dX7_copy_41 (lv_at hl 0 rfl) ?_
        refine gi_X2_3 Cx hI hq6 wd_17_1 dX7_copy_43 ?_
        refine lv_if_eq (tgt := 55) hx hb dX7_copy_46 rfl (fun hc => ?_) (fun hc => ?_)
        · have h := ms_ifT hc h
          refine lv_aload hx hb dX7_copy_55 (lv_at hl 1 rfl) ?_
          refine gi_X2_1 Cx hI hq5 wd_38_2 dX7_copy_57 ?_
          refine lv_aload hx hb dX7_copy_60 (lv_at hl 0 rfl) ?_
          refine gi_X2_1 Cx hI hq6 wd_38_2 dX7_copy_62 ?_
          refine lv_icmp_eq (tgt := 74) hx hb dX7_copy_65 rfl (fun hc => ?_) (fun hc => ?_)
          · have h := ms_ifT hc h
            refine lv_aload hx hb dX7_copy_74 (lv_at hl 1 rfl) ?_
            refine lv_iload_n hx hb dX7_copy_76 rfl (lv_at hl 4 rfl) ?_
            refine lv_iload hx hb dX7_copy_77 (lv_at hl 7 rfl) ?_
            obtain ⟨r8, hc7, h⟩ := ms_bdE h
            refine kX2_hasRun Cx hI hq5 hc7 wd_39_13 (Nat.le_of_ble_eq_true rfl) (Nat.le_of_ble_eq_true rfl) hl.1 (Nat.le_of_ble_eq_true rfl) dX7_copy_79 (fun H locs hI => ?_)
            refine lv_if_eq (tgt := 97) hx hb dX7_copy_82 rfl (fun hc => ?_) (fun hc => ?_)
            · have h := ms_ifT hc h
              exact wX7_copy_97 Cx out  σ _ _ _ hI (lv_sub hl [2] rfl) h
            · have h := ms_ifF hc h
              refine lv_aload hx hb dX7_copy_85 (lv_at hl 0 rfl) ?_
              refine lv_iload hx hb dX7_copy_87 (lv_at hl 6 rfl) ?_
              refine lv_iload hx hb dX7_copy_89 (lv_at hl 7 rfl) ?_
              obtain ⟨r10, hc9, h⟩ := ms_bdE h
              refine kX2_hasRun Cx hI hq6 hc9 wd_39_13 (Nat.le_of_ble_eq_true rfl) (Nat.le_of_ble_eq_true rfl) hl.1 (Nat.le_of_ble_eq_true rfl) dX7_copy_91 (fun H locs hI => ?_)
              refine lv_if_ne (tgt := 103) hx hb dX7_copy_94 rfl (fun hc => ?_) (fun hc => ?_)
              · have h := ms_ifF hc h
                refine lv_aload hx hb dX7_copy_103 (lv_at hl 1 rfl) ?_
                refine gr_X2_0 Cx hI hq5 wd_17_7 dX7_copy_105 ?_
                refine lv_iload_n hx hb dX7_copy_108 rfl (lv_at hl 4 rfl) ?_
                refine lv_aload hx hb dX7_copy_109 (lv_at hl 0 rfl) ?_
                refine gr_X2_0 Cx hI hq6 wd_17_7 dX7_copy_111 ?_
                refine lv_iload hx hb dX7_copy_114 (lv_at hl 6 rfl) ?_
                refine lv_iload hx hb dX7_copy_116 (lv_at hl 7 rfl) ?_
                obtain ⟨hg, h⟩ := ms_gE h
                refine ms_acopy Cx hI hq5 hq6 hg wd_39_9 hl.1 (Nat.le_of_ble_eq_true rfl) (by decide) dX7_copy_118 (fun H locs σ11 eσ11 hI => ?_)
                have h := ms_ltE eσ11 h
                refine lv_iconst (v := 1) hx hb dX7_copy_121 rfl ?_
                exact ms_riw Cx hI h dX7_copy_122
              · have h := ms_ifT hc h
                exact wX7_copy_97 Cx out  σ _ _ _ hI (lv_sub hl [2] rfl) h
          · have h := ms_ifF hc h
            refine lv_aload_n hx hb dX7_copy_68 rfl (lv_at hl 2 rfl) ?_
            refine lv_iconst (v := 4) hx hb dX7_copy_69 rfl ?_
            obtain ⟨⟨r13, σ14⟩, hc12, h⟩ := ms_bdE h
            refine kX7_find Cx hI hc12 wd_17_11 (Nat.le_of_ble_eq_true rfl) (Nat.le_of_ble_eq_true rfl) hl.1 (Nat.le_of_ble_eq_true rfl) dX7_copy_70 (fun H locs hI => ?_)
            exact ms_riw Cx hI h dX7_copy_73
        · have h := ms_ifF hc h
          exact wX7_copy_49 Cx out  σ _ _ _ hI (lv_sub hl [2] rfl) h
    · have h := ms_ifT hc h
      refine lv_bipush (v := -2) hx hb dX7_copy_14 rfl ?_
      exact ms_riw Cx hI h dX7_copy_16
theorem yvX7_copy : ms_YV yX7_copy RX7 cX7_copy 8 (some .int) 5 := ⟨wd_39_6, wd_39_7, wd_1_2, wd_39_8, rfl, by decide +kernel, by decide +kernel, by decide +kernel⟩
set_option maxHeartbeats 4000000 in
theorem metX7_copy (l : Launch) (hDis : ms_Dis a shX.length) {σ : Mm} {p0 : Int32} {p1 : Int32} {p2 : Int32} {p3 : Int32} {p4 : Int32} {out : Int32 × Mm} (h : fX7_copy p0 p1 p2 p3 p4 σ = some out) : Met l yX7_copy (.code yX7_copy cX7_copy 8 (some .int) :: wsL_law) rmX7_copy (ms_Pc D cA a shX [.ref (a 0), .int p0, .int p1, .int p2, .int p3, .int p4] σ) (ms_Qi D cA a shX out.1 out.2) 0 0 (ms_A a shX.length) := by
  refine Met.ofW (cc := cX7_copy) (maxL := 8) (ret := (some .int)) (by decide) rfl ?_
  intro p e s m args below meth c s₁ B hml hv
  obtain ⟨rfl, hK, hN, hP⟩ := hv
  have hl := lv_entry ([.ref (a 0), .int p0, .int p1, .int p2, .int p3, .int p4]) (n := 8) (Nat.le_of_ble_eq_true rfl)
  rw [lg_entry_eq]
  generalize (lg_sl ([.ref (a 0), .int p0, .int p1, .int p2, .int p3, .int p4]) ++ List.replicate (8 - (lg_sl ([.ref (a 0), .int p0, .int p1, .int p2, .int p3, .int p4])).length) Slot.unset).toArray = ls at hl ⊢
  exact wX7_copy ⟨B.exec, B.bytes, hml, findClass_of_methodNamed B.named, fun w hw => atoms_spec (ws := .code yX7_copy cX7_copy 8 (some .int) :: wsL_law) B.pre w (List.mem_cons_of_mem _ hw), B.returns, B.notSynchronized, hK, hDis, hN⟩ out p0 p1 p2 p3 p4 σ s.heap [] ls ⟨hP, va_S.rf⟩ hl h
theorem kX7_copy (Cx : ms_C p s m args meth c D cA a shX cc nL own ret) {σ : Mm} {H : Heap} {locs : List Loc} (hI : ms_I D cA a shX s σ H locs) {p0 : Int32} {p1 : Int32} {p2 : Int32} {p3 : Int32} {p4 : Int32} {out : Int32 × Mm} (h : fX7_copy p0 p1 p2 p3 p4 σ = some out) (hl : Cond.methodLink own idx yX7_copy ∈ wsL_law) (hf : 2 + 1 ≤ R.frames) (hlo : 8 + (8 + 11) + 60 ≤ R.locals) (hsz : ls.size = nL) (hW : (rest.map fun v => v.category).sum ≤ 8) (hd : decode cc pc = .ok (.invokevirtual idx, 3)) (kk : ∀ (H1 : Heap) (locs1 : List Loc), ms_I D cA a shX s out.2 H1 locs1 → W p l e R s m args below meth c H1 locs1 0 0 Q (F0 m (pc + 3) ls (.int out.1 :: rest))) : W p l e R s m args below meth c H locs 0 0 Q (F0 m pc ls (.int p4 :: .int p3 :: .int p2 :: .int p1 :: .int p0 :: .ref (a 0) :: rest)) :=
  ms_ci hI (ms_runV (av := [.int p0, .int p1, .int p2, .int p3, .int p4]) Cx hI 0 shX_0 (ci := 7) rfl rfl yvX7_copy (metX7_copy l Cx.2.2.2.2.2.2.2.2.1  h) ⟨rfl, rfl⟩ hl ⟨hf, hlo⟩ rfl hsz rfl hW ⟨Nat.zero_le _, Nat.zero_le _⟩ hd) kk
/-! X7 write (II)I -/
theorem dX7_write_0 : decode cX7_write 0 = .ok (.iload_n 1, 1) := by decide +kernel
theorem dX7_write_1 : decode cX7_write 1 = .ok (.invokestatic 160, 3) := by decide +kernel
theorem dX7_write_4 : decode cX7_write 4 = .ok (.ifCond .eq 10, 3) := by decide +kernel
theorem dX7_write_7 : decode cX7_write 7 = .ok (.iload_n 2, 1) := by decide +kernel
theorem dX7_write_8 : decode cX7_write 8 = .ok (.invokestatic 128, 3) := by decide +kernel
theorem dX7_write_11 : decode cX7_write 11 = .ok (.ifCond .ne 6, 3) := by decide +kernel
theorem dX7_write_14 : decode cX7_write 14 = .ok (.bipush (-2), 2) := by decide +kernel
theorem dX7_write_16 : decode cX7_write 16 = .ok (.ireturn, 1) := by decide +kernel
theorem dX7_write_17 : decode cX7_write 17 = .ok (.aload_n 0, 1) := by decide +kernel
theorem dX7_write_18 : decode cX7_write 18 = .ok (.getfield 74, 3) := by decide +kernel
theorem dX7_write_21 : decode cX7_write 21 = .ok (.iload_n 2, 1) := by decide +kernel
theorem dX7_write_22 : decode cX7_write 22 = .ok (.aaload, 1) := by decide +kernel
theorem dX7_write_23 : decode cX7_write 23 = .ok (.getfield 131, 3) := by decide +kernel
theorem dX7_write_26 : decode cX7_write 26 = .ok (.ifCond .eq 9, 3) := by decide +kernel
theorem dX7_write_29 : decode cX7_write 29 = .ok (.aload_n 0, 1) := by decide +kernel
theorem dX7_write_30 : decode cX7_write 30 = .ok (.iconst 1, 1) := by decide +kernel
theorem dX7_write_31 : decode cX7_write 31 = .ok (.invokevirtual 135, 3) := by decide +kernel
theorem dX7_write_34 : decode cX7_write 34 = .ok (.ireturn, 1) := by decide +kernel
theorem dX7_write_35 : decode cX7_write 35 = .ok (.aload_n 0, 1) := by decide +kernel
theorem dX7_write_36 : decode cX7_write 36 = .ok (.invokevirtual 163, 3) := by decide +kernel
theorem dX7_write_39 : decode cX7_write 39 = .ok (.aload_n 0, 1) := by decide +kernel
theorem dX7_write_40 : decode cX7_write 40 = .ok (.getfield 74, 3) := by decide +kernel
theorem dX7_write_43 : decode cX7_write 43 = .ok (.iload_n 2, 1) := by decide +kernel
theorem dX7_write_44 : decode cX7_write 44 = .ok (.aaload, 1) := by decide +kernel
theorem dX7_write_45 : decode cX7_write 45 = .ok (.getfield 139, 3) := by decide +kernel
theorem dX7_write_48 : decode cX7_write 48 = .ok (.sipush 240, 3) := by decide +kernel
theorem dX7_write_51 : decode cX7_write 51 = .ok (.iload_n 1, 1) := by decide +kernel
theorem dX7_write_52 : decode cX7_write 52 = .ok (.isub, 1) := by decide +kernel
theorem dX7_write_53 : decode cX7_write 53 = .ok (.invokestatic 142, 3) := by decide +kernel
theorem dX7_write_56 : decode cX7_write 56 = .ok (.istore_n 3, 1) := by decide +kernel
theorem dX7_write_57 : decode cX7_write 57 = .ok (.iconst 0, 1) := by decide +kernel
theorem dX7_write_58 : decode cX7_write 58 = .ok (.istore 4, 2) := by decide +kernel
theorem dX7_write_60 : decode cX7_write 60 = .ok (.iload 4, 2) := by decide +kernel
theorem dX7_write_62 : decode cX7_write 62 = .ok (.iload_n 3, 1) := by decide +kernel
theorem dX7_write_63 : decode cX7_write 63 = .ok (.if_icmp .ge 32, 3) := by decide +kernel
theorem dX7_write_66 : decode cX7_write 66 = .ok (.aload_n 0, 1) := by decide +kernel
theorem dX7_write_67 : decode cX7_write 67 = .ok (.getfield 74, 3) := by decide +kernel
theorem dX7_write_70 : decode cX7_write 70 = .ok (.iload_n 2, 1) := by decide +kernel
theorem dX7_write_71 : decode cX7_write 71 = .ok (.aaload, 1) := by decide +kernel
theorem dX7_write_72 : decode cX7_write 72 = .ok (.iload 4, 2) := by decide +kernel
theorem dX7_write_74 : decode cX7_write 74 = .ok (.aload_n 0, 1) := by decide +kernel
theorem dX7_write_75 : decode cX7_write 75 = .ok (.getfield 54, 3) := by decide +kernel
theorem dX7_write_78 : decode cX7_write 78 = .ok (.getfield 166, 3) := by decide +kernel
theorem dX7_write_81 : decode cX7_write 81 = .ok (.iload_n 1, 1) := by decide +kernel
theorem dX7_write_82 : decode cX7_write 82 = .ok (.iload 4, 2) := by decide +kernel
theorem dX7_write_84 : decode cX7_write 84 = .ok (.iadd, 1) := by decide +kernel
theorem dX7_write_85 : decode cX7_write 85 = .ok (.iaload, 1) := by decide +kernel
theorem dX7_write_86 : decode cX7_write 86 = .ok (.invokevirtual 274, 3) := by decide +kernel
theorem dX7_write_89 : decode cX7_write 89 = .ok (.iinc 4 1, 3) := by decide +kernel
theorem dX7_write_92 : decode cX7_write 92 = .ok (.goto (-32), 3) := by decide +kernel
theorem dX7_write_95 : decode cX7_write 95 = .ok (.iload_n 3, 1) := by decide +kernel
theorem dX7_write_96 : decode cX7_write 96 = .ok (.ireturn, 1) := by decide +kernel
abbrev rmX7_write : Room := { frames := 6, cells := 0, slots := 0, locals := 139 }
set_option maxHeartbeats 4000000 in
set_option maxRecDepth 100000 in
theorem wX7_write_60 (Cx : ms_C p s m args meth c D cA a shX cX7_write 5 RX7 (some .int)) (out : Int32 × Mm) : ∀ (n : Nat), ∀ (y1 : Int32) (y2 : Int32) (y3 : Int32) (y4 : Int32) , ∀ (σ : Mm) (H : Heap) (locs : List Loc) (ls : Array Slot), ms_I D cA a shX s σ H locs → lv_has ls 5 [(0, .ref (a 0)), (1, .int y1), (2, .int y2), (3, .int y3), (4, .int y4)] → fX7_write_60 n y1 y2 y3 y4 σ = some out → W p l e rmX7_write s m args below meth c H locs 0 0 (MQ below (ms_Qi D cA a shX out.1 out.2) args s 0 0 (ms_A a shX.length)) (F0 m 60 ls []) := by
  have hx := Cx.1
  have hb := Cx.2.1
  intro n
  induction n with
  | zero =>
    intro y1 y2 y3 y4 σ H locs ls hI hl h
    exact nomatch (show none = some out from h)
  | succ n ih =>
    intro y1 y2 y3 y4 σ H locs ls hI hl h
    rw [fX7_write_60] at h
    refine lv_iload hx hb dX7_write_60 (lv_at hl 4 rfl) ?_
    refine lv_iload_n hx hb dX7_write_62 rfl (lv_at hl 3 rfl) ?_
    refine lv_icmp_ge (tgt := 95) hx hb dX7_write_63 rfl (fun hc => ?_) (fun hc => ?_)
    · have h := ms_ifT hc h
      refine lv_iload_n hx hb dX7_write_95 rfl (lv_at hl 3 rfl) ?_
      exact ms_riw Cx hI h dX7_write_96
    · have h := ms_ifF hc h
      refine lv_aload_n hx hb dX7_write_66 rfl (lv_at hl 0 rfl) ?_
      refine gr_X7_9 Cx hI wd_3_0 dX7_write_67 ?_
      refine lv_iload_n hx hb dX7_write_70 rfl (lv_at hl 2 rfl) ?_
      obtain ⟨hg, h⟩ := ms_gE h
      refine ms_ldr Cx hI 26 shX_26 hg dX7_write_71 ?_
      have hq1 := ms_ixlt hg
      refine lv_iload hx hb dX7_write_72 (lv_at hl 4 rfl) ?_
      refine lv_aload_n hx hb dX7_write_74 rfl (lv_at hl 0 rfl) ?_
      refine gr_X7_6 Cx hI wd_2_14 dX7_write_75 ?_
      refine gr_X0_0 Cx hI wd_20_22 dX7_write_78 ?_
      refine lv_iload_n hx hb dX7_write_81 rfl (lv_at hl 1 rfl) ?_
      refine lv_iload hx hb dX7_write_82 (lv_at hl 4 rfl) ?_
      refine lv_iadd hx hb dX7_write_84 ?_
      obtain ⟨hg, h⟩ := ms_gE h
      refine ms_ld Cx hI 13 shX_13 hg dX7_write_85 ?_
      obtain ⟨σ3, hc2, h⟩ := ms_bdE h
      refine kX2_store Cx hI hq1 hc2 wd_38_3 (Nat.le_of_ble_eq_true rfl) (Nat.le_of_ble_eq_true rfl) hl.1 (Nat.le_of_ble_eq_true rfl) dX7_write_86 (fun H locs hI => ?_)
      refine lv_iinc (v := y4 + 1) (lv' := [(4, .int (y4 + 1)), (0, .ref (a 0)), (1, .int y1), (2, .int y2), (3, .int y3)]) hx hb dX7_write_89 hl (k := 4) rfl rfl (by decide) rfl (fun ls hl => ?_)
      refine lv_goto (tgt := 60) hx hb dX7_write_92 rfl ?_
      exact ih y1 y2 y3 (y4 + 1) σ3 _ _ _ hI (lv_sub hl [1, 2, 3, 4, 0] rfl) h
set_option maxHeartbeats 4000000 in
set_option maxRecDepth 100000 in
theorem wX7_write (Cx : ms_C p s m args meth c D cA a shX cX7_write 5 RX7 (some .int)) (out : Int32 × Mm) : ∀ (p0 : Int32) (p1 : Int32) , ∀ (σ : Mm) (H : Heap) (locs : List Loc) (ls : Array Slot), ms_I D cA a shX s σ H locs → lv_has ls 5 [(0, .ref (a 0)), (1, .int p0), (2, .int p1)] → fX7_write p0 p1 σ = some out → W p l e rmX7_write s m args below meth c H locs 0 0 (MQ below (ms_Qi D cA a shX out.1 out.2) args s 0 0 (ms_A a shX.length)) (F0 m 0 ls []) := by
  have hx := Cx.1
  have hb := Cx.2.1
  intro p0 p1 σ H locs ls hI hl h
  unfold fX7_write at h
  refine lv_iload_n hx hb dX7_write_0 rfl (lv_at hl 1 rfl) ?_
  obtain ⟨r2, hc1, h⟩ := ms_bdE h
  refine kX7_isHour Cx hI hc1 (Or.inl wd_21_0) (Nat.le_of_ble_eq_true rfl) (Nat.le_of_ble_eq_true rfl) hl.1 (Nat.le_of_ble_eq_true rfl) dX7_write_1 (fun H locs hI => ?_)
  refine lv_if_eq (tgt := 14) hx hb dX7_write_4 rfl (fun hc => ?_) (fun hc => ?_)
  · have h := ms_ifT hc h
    refine lv_bipush (v := -2) hx hb dX7_write_14 rfl ?_
    exact ms_riw Cx hI h dX7_write_16
  · have h := ms_ifF hc h
    refine lv_iload_n hx hb dX7_write_7 rfl (lv_at hl 2 rfl) ?_
    obtain ⟨r4, hc3, h⟩ := ms_bdE h
    refine kX7_isSheet Cx hI hc3 (Or.inl wd_17_8) (Nat.le_of_ble_eq_true rfl) (Nat.le_of_ble_eq_true rfl) hl.1 (Nat.le_of_ble_eq_true rfl) dX7_write_8 (fun H locs hI => ?_)
    refine lv_if_ne (tgt := 17) hx hb dX7_write_11 rfl (fun hc => ?_) (fun hc => ?_)
    · have h := ms_ifF hc h
      refine lv_aload_n hx hb dX7_write_17 rfl (lv_at hl 0 rfl) ?_
      refine gr_X7_9 Cx hI wd_3_0 dX7_write_18 ?_
      refine lv_iload_n hx hb dX7_write_21 rfl (lv_at hl 2 rfl) ?_
      obtain ⟨hg, h⟩ := ms_gE h
      refine ms_ldr Cx hI 26 shX_26 hg dX7_write_22 ?_
      have hq5 := ms_ixlt hg
      refine gi_X2_3 Cx hI hq5 wd_17_1 dX7_write_23 ?_
      refine lv_if_eq (tgt := 35) hx hb dX7_write_26 rfl (fun hc => ?_) (fun hc => ?_)
      · have h := ms_ifT hc h
        refine lv_aload_n hx hb dX7_write_35 rfl (lv_at hl 0 rfl) ?_
        obtain ⟨σ7, hc6, h⟩ := ms_bdE h
        refine kX7_recordDays Cx hI hc6 wd_21_3 (Nat.le_of_ble_eq_true rfl) (Nat.le_of_ble_eq_true rfl) hl.1 (Nat.le_of_ble_eq_true rfl) dX7_write_36 (fun H locs hI => ?_)
        refine lv_aload_n hx hb dX7_write_39 rfl (lv_at hl 0 rfl) ?_
        refine gr_X7_9 Cx hI wd_3_0 dX7_write_40 ?_
        refine lv_iload_n hx hb dX7_write_43 rfl (lv_at hl 2 rfl) ?_
        obtain ⟨hg, h⟩ := ms_gE h
        refine ms_ldr Cx hI 26 shX_26 hg dX7_write_44 ?_
        have hq8 := ms_ixlt hg
        refine gi_X2_2 Cx hI hq8 wd_17_2 dX7_write_45 ?_
        refine lv_sipush (v := 240) hx hb dX7_write_48 rfl ?_
        refine lv_iload_n hx hb dX7_write_51 rfl (lv_at hl 1 rfl) ?_
        refine lv_isub hx hb dX7_write_52 ?_
        refine ms_min Cx wd_17_3 hl.1 (Nat.le_of_ble_eq_true rfl) (Nat.le_of_ble_eq_true rfl) ⟨Nat.zero_le _, Nat.zero_le _⟩ dX7_write_53 ?_
        refine lv_topi (fun x9 ex9 => ?_)
        have h := ms_ltE ex9 h
        refine lv_istore_n (lv' := [(3, .int x9), (0, .ref (a 0)), (1, .int p0), (2, .int p1)]) hx hb dX7_write_56 rfl hl (by decide) rfl (fun ls hl => ?_)
        refine lv_iconst (v := 0) hx hb dX7_write_57 rfl ?_
        refine lv_istore (lv' := [(4, .int 0), (3, .int x9), (0, .ref (a 0)), (1, .int p0), (2, .int p1)]) hx hb dX7_write_58 hl (by decide) rfl (fun ls hl => ?_)
        exact wX7_write_60 Cx out  ms_fu p0 p1 x9 0 σ7 _ _ _ hI (lv_sub hl [2, 3, 4, 1, 0] rfl) h
      · have h := ms_ifF hc h
        refine lv_aload_n hx hb dX7_write_29 rfl (lv_at hl 0 rfl) ?_
        refine lv_iconst (v := 1) hx hb dX7_write_30 rfl ?_
        obtain ⟨⟨r11, σ12⟩, hc10, h⟩ := ms_bdE h
        refine kX7_find Cx hI hc10 wd_17_11 (Nat.le_of_ble_eq_true rfl) (Nat.le_of_ble_eq_true rfl) hl.1 (Nat.le_of_ble_eq_true rfl) dX7_write_31 (fun H locs hI => ?_)
        exact ms_riw Cx hI h dX7_write_34
    · have h := ms_ifT hc h
      refine lv_bipush (v := -2) hx hb dX7_write_14 rfl ?_
      exact ms_riw Cx hI h dX7_write_16
theorem yvX7_write : ms_YV yX7_write RX7 cX7_write 5 (some .int) 2 := ⟨wd_39_22, wd_39_23, wd_1_2, wd_40_0, rfl, by decide +kernel, by decide +kernel, by decide +kernel⟩
set_option maxHeartbeats 4000000 in
theorem metX7_write (l : Launch) (hDis : ms_Dis a shX.length) {σ : Mm} {p0 : Int32} {p1 : Int32} {out : Int32 × Mm} (h : fX7_write p0 p1 σ = some out) : Met l yX7_write (.code yX7_write cX7_write 5 (some .int) :: wsL_law) rmX7_write (ms_Pc D cA a shX [.ref (a 0), .int p0, .int p1] σ) (ms_Qi D cA a shX out.1 out.2) 0 0 (ms_A a shX.length) := by
  refine Met.ofW (cc := cX7_write) (maxL := 5) (ret := (some .int)) (by decide) rfl ?_
  intro p e s m args below meth c s₁ B hml hv
  obtain ⟨rfl, hK, hN, hP⟩ := hv
  have hl := lv_entry ([.ref (a 0), .int p0, .int p1]) (n := 5) (Nat.le_of_ble_eq_true rfl)
  rw [lg_entry_eq]
  generalize (lg_sl ([.ref (a 0), .int p0, .int p1]) ++ List.replicate (5 - (lg_sl ([.ref (a 0), .int p0, .int p1])).length) Slot.unset).toArray = ls at hl ⊢
  exact wX7_write ⟨B.exec, B.bytes, hml, findClass_of_methodNamed B.named, fun w hw => atoms_spec (ws := .code yX7_write cX7_write 5 (some .int) :: wsL_law) B.pre w (List.mem_cons_of_mem _ hw), B.returns, B.notSynchronized, hK, hDis, hN⟩ out p0 p1 σ s.heap [] ls ⟨hP, va_S.rf⟩ hl h
theorem kX7_write (Cx : ms_C p s m args meth c D cA a shX cc nL own ret) {σ : Mm} {H : Heap} {locs : List Loc} (hI : ms_I D cA a shX s σ H locs) {p0 : Int32} {p1 : Int32} {out : Int32 × Mm} (h : fX7_write p0 p1 σ = some out) (hl : Cond.methodLink own idx yX7_write ∈ wsL_law) (hf : 6 + 1 ≤ R.frames) (hlo : 8 + (5 + 11) + 139 ≤ R.locals) (hsz : ls.size = nL) (hW : (rest.map fun v => v.category).sum ≤ 8) (hd : decode cc pc = .ok (.invokevirtual idx, 3)) (kk : ∀ (H1 : Heap) (locs1 : List Loc), ms_I D cA a shX s out.2 H1 locs1 → W p l e R s m args below meth c H1 locs1 0 0 Q (F0 m (pc + 3) ls (.int out.1 :: rest))) : W p l e R s m args below meth c H locs 0 0 Q (F0 m pc ls (.int p1 :: .int p0 :: .ref (a 0) :: rest)) :=
  ms_ci hI (ms_runV (av := [.int p0, .int p1]) Cx hI 0 shX_0 (ci := 7) rfl rfl yvX7_write (metX7_write l Cx.2.2.2.2.2.2.2.2.1  h) ⟨rfl, rfl⟩ hl ⟨hf, hlo⟩ rfl hsz rfl hW ⟨Nat.zero_le _, Nat.zero_le _⟩ hd) kk
/-! X7 count (I)I -/
theorem dX7_count_0 : decode cX7_count 0 = .ok (.iload_n 1, 1) := by decide +kernel
theorem dX7_count_1 : decode cX7_count 1 = .ok (.tableswitch 133 0 8 #[51, 59, 70, 78, 86, 94, 102, 113, 128], 51) := by decide +kernel
theorem dX7_count_52 : decode cX7_count 52 = .ok (.aload_n 0, 1) := by decide +kernel
theorem dX7_count_53 : decode cX7_count 53 = .ok (.getfield 12, 3) := by decide +kernel
theorem dX7_count_56 : decode cX7_count 56 = .ok (.getfield 190, 3) := by decide +kernel
theorem dX7_count_59 : decode cX7_count 59 = .ok (.ireturn, 1) := by decide +kernel
theorem dX7_count_60 : decode cX7_count 60 = .ok (.aload_n 0, 1) := by decide +kernel
theorem dX7_count_61 : decode cX7_count 61 = .ok (.getfield 12, 3) := by decide +kernel
theorem dX7_count_64 : decode cX7_count 64 = .ok (.getfield 113, 3) := by decide +kernel
theorem dX7_count_67 : decode cX7_count 67 = .ok (.invokestatic 193, 3) := by decide +kernel
theorem dX7_count_70 : decode cX7_count 70 = .ok (.ireturn, 1) := by decide +kernel
theorem dX7_count_71 : decode cX7_count 71 = .ok (.aload_n 0, 1) := by decide +kernel
theorem dX7_count_72 : decode cX7_count 72 = .ok (.getfield 12, 3) := by decide +kernel
theorem dX7_count_75 : decode cX7_count 75 = .ok (.getfield 291, 3) := by decide +kernel
theorem dX7_count_78 : decode cX7_count 78 = .ok (.ireturn, 1) := by decide +kernel
theorem dX7_count_79 : decode cX7_count 79 = .ok (.aload_n 0, 1) := by decide +kernel
theorem dX7_count_80 : decode cX7_count 80 = .ok (.getfield 12, 3) := by decide +kernel
theorem dX7_count_83 : decode cX7_count 83 = .ok (.getfield 86, 3) := by decide +kernel
theorem dX7_count_86 : decode cX7_count 86 = .ok (.ireturn, 1) := by decide +kernel
theorem dX7_count_87 : decode cX7_count 87 = .ok (.aload_n 0, 1) := by decide +kernel
theorem dX7_count_88 : decode cX7_count 88 = .ok (.getfield 68, 3) := by decide +kernel
theorem dX7_count_91 : decode cX7_count 91 = .ok (.getfield 231, 3) := by decide +kernel
theorem dX7_count_94 : decode cX7_count 94 = .ok (.ireturn, 1) := by decide +kernel
theorem dX7_count_95 : decode cX7_count 95 = .ok (.aload_n 0, 1) := by decide +kernel
theorem dX7_count_96 : decode cX7_count 96 = .ok (.getfield 12, 3) := by decide +kernel
theorem dX7_count_99 : decode cX7_count 99 = .ok (.invokevirtual 294, 3) := by decide +kernel
theorem dX7_count_102 : decode cX7_count 102 = .ok (.ireturn, 1) := by decide +kernel
theorem dX7_count_103 : decode cX7_count 103 = .ok (.aload_n 0, 1) := by decide +kernel
theorem dX7_count_104 : decode cX7_count 104 = .ok (.getfield 12, 3) := by decide +kernel
theorem dX7_count_107 : decode cX7_count 107 = .ok (.invokevirtual 297, 3) := by decide +kernel
theorem dX7_count_110 : decode cX7_count 110 = .ok (.invokestatic 193, 3) := by decide +kernel
theorem dX7_count_113 : decode cX7_count 113 = .ok (.ireturn, 1) := by decide +kernel
theorem dX7_count_114 : decode cX7_count 114 = .ok (.aload_n 0, 1) := by decide +kernel
theorem dX7_count_115 : decode cX7_count 115 = .ok (.getfield 40, 3) := by decide +kernel
theorem dX7_count_118 : decode cX7_count 118 = .ok (.aload_n 0, 1) := by decide +kernel
theorem dX7_count_119 : decode cX7_count 119 = .ok (.getfield 12, 3) := by decide +kernel
theorem dX7_count_122 : decode cX7_count 122 = .ok (.getfield 113, 3) := by decide +kernel
theorem dX7_count_125 : decode cX7_count 125 = .ok (.invokevirtual 300, 3) := by decide +kernel
theorem dX7_count_128 : decode cX7_count 128 = .ok (.ireturn, 1) := by decide +kernel
theorem dX7_count_129 : decode cX7_count 129 = .ok (.aload_n 0, 1) := by decide +kernel
theorem dX7_count_130 : decode cX7_count 130 = .ok (.getfield 78, 3) := by decide +kernel
theorem dX7_count_133 : decode cX7_count 133 = .ok (.ireturn, 1) := by decide +kernel
theorem dX7_count_134 : decode cX7_count 134 = .ok (.bipush (-2), 2) := by decide +kernel
theorem dX7_count_136 : decode cX7_count 136 = .ok (.ireturn, 1) := by decide +kernel
abbrev rmX7_count : Room := { frames := 4, cells := 0, slots := 0, locals := 96 }
set_option maxHeartbeats 4000000 in
set_option maxRecDepth 100000 in
theorem wX7_count (Cx : ms_C p s m args meth c D cA a shX cX7_count 2 RX7 (some .int)) (out : Int32) {σ : Mm} : ∀ (p0 : Int32) , ∀ (H : Heap) (locs : List Loc) (ls : Array Slot), ms_I D cA a shX s σ H locs → lv_has ls 2 [(0, .ref (a 0)), (1, .int p0)] → fX7_count σ p0 = some out → W p l e rmX7_count s m args below meth c H locs 0 0 (MQ below (ms_Qi D cA a shX out σ) args s 0 0 (ms_A a shX.length)) (F0 m 0 ls []) := by
  have hx := Cx.1
  have hb := Cx.2.1
  intro p0 H locs ls hI hl h
  unfold fX7_count at h
  refine lv_iload_n hx hb dX7_count_0 rfl (lv_at hl 1 rfl) ?_
  by_cases hc0 : p0 = 0
  · have h := ms_ifT hc0 h
    refine lv_tableIn (off := 51) (tgt := 52) hx hb dX7_count_1 (by rw [hc0]; decide) (by rw [hc0]; decide) (by rw [hc0]; rfl) rfl ?_
    refine lv_aload_n hx hb dX7_count_52 rfl (lv_at hl 0 rfl) ?_
    refine gr_X7_0 Cx hI wd_1_15 dX7_count_53 ?_
    refine gi_X4_4 Cx hI wd_21_11 dX7_count_56 ?_
    exact ms_ri Cx hI (Option.some.inj h) rfl dX7_count_59
  have h := ms_ifF hc0 h
  by_cases hc1 : p0 = 1
  · have h := ms_ifT hc1 h
    refine lv_tableIn (off := 59) (tgt := 60) hx hb dX7_count_1 (by rw [hc1]; decide) (by rw [hc1]; decide) (by rw [hc1]; rfl) rfl ?_
    refine lv_aload_n hx hb dX7_count_60 rfl (lv_at hl 0 rfl) ?_
    refine gr_X7_0 Cx hI wd_1_15 dX7_count_61 ?_
    refine gi_X4_6 Cx hI wd_14_11 dX7_count_64 ?_
    obtain ⟨r2, hc1, h⟩ := ms_bdE h
    refine kJ6_bitCount_0f7a4 Cx hI hc1 (Or.inl wd_28_11) (Nat.le_of_ble_eq_true rfl) (Nat.le_of_ble_eq_true rfl) hl.1 (Nat.le_of_ble_eq_true rfl) dX7_count_67 (fun H locs hI => ?_)
    exact ms_ri Cx hI (Option.some.inj h) rfl dX7_count_70
  have h := ms_ifF hc1 h
  by_cases hc2 : p0 = 2
  · have h := ms_ifT hc2 h
    refine lv_tableIn (off := 70) (tgt := 71) hx hb dX7_count_1 (by rw [hc2]; decide) (by rw [hc2]; decide) (by rw [hc2]; rfl) rfl ?_
    refine lv_aload_n hx hb dX7_count_71 rfl (lv_at hl 0 rfl) ?_
    refine gr_X7_0 Cx hI wd_1_15 dX7_count_72 ?_
    refine gi_X4_5 Cx hI wd_40_9 dX7_count_75 ?_
    exact ms_ri Cx hI (Option.some.inj h) rfl dX7_count_78
  have h := ms_ifF hc2 h
  by_cases hc3 : p0 = 3
  · have h := ms_ifT hc3 h
    refine lv_tableIn (off := 78) (tgt := 79) hx hb dX7_count_1 (by rw [hc3]; decide) (by rw [hc3]; decide) (by rw [hc3]; rfl) rfl ?_
    refine lv_aload_n hx hb dX7_count_79 rfl (lv_at hl 0 rfl) ?_
    refine gr_X7_0 Cx hI wd_1_15 dX7_count_80 ?_
    refine gi_X4_3 Cx hI wd_7_22 dX7_count_83 ?_
    exact ms_ri Cx hI (Option.some.inj h) rfl dX7_count_86
  have h := ms_ifF hc3 h
  by_cases hc4 : p0 = 4
  · have h := ms_ifT hc4 h
    refine lv_tableIn (off := 86) (tgt := 87) hx hb dX7_count_1 (by rw [hc4]; decide) (by rw [hc4]; decide) (by rw [hc4]; rfl) rfl ?_
    refine lv_aload_n hx hb dX7_count_87 rfl (lv_at hl 0 rfl) ?_
    refine gr_X7_8 Cx hI wd_2_22 dX7_count_88 ?_
    refine gi_X5_3 Cx hI wd_33_4 dX7_count_91 ?_
    exact ms_ri Cx hI (Option.some.inj h) rfl dX7_count_94
  have h := ms_ifF hc4 h
  by_cases hc5 : p0 = 5
  · have h := ms_ifT hc5 h
    refine lv_tableIn (off := 94) (tgt := 95) hx hb dX7_count_1 (by rw [hc5]; decide) (by rw [hc5]; decide) (by rw [hc5]; rfl) rfl ?_
    refine lv_aload_n hx hb dX7_count_95 rfl (lv_at hl 0 rfl) ?_
    refine gr_X7_0 Cx hI wd_1_15 dX7_count_96 ?_
    obtain ⟨r4, hc3, h⟩ := ms_bdE h
    refine kX4_allPeople Cx hI hc3 wd_40_10 (Nat.le_of_ble_eq_true rfl) (Nat.le_of_ble_eq_true rfl) hl.1 (Nat.le_of_ble_eq_true rfl) dX7_count_99 (fun H locs hI => ?_)
    exact ms_ri Cx hI (Option.some.inj h) rfl dX7_count_102
  have h := ms_ifF hc5 h
  by_cases hc6 : p0 = 6
  · have h := ms_ifT hc6 h
    refine lv_tableIn (off := 102) (tgt := 103) hx hb dX7_count_1 (by rw [hc6]; decide) (by rw [hc6]; decide) (by rw [hc6]; rfl) rfl ?_
    refine lv_aload_n hx hb dX7_count_103 rfl (lv_at hl 0 rfl) ?_
    refine gr_X7_0 Cx hI wd_1_15 dX7_count_104 ?_
    obtain ⟨r6, hc5, h⟩ := ms_bdE h
    refine kX4_mustBits Cx hI hc5 wd_30_13 (Nat.le_of_ble_eq_true rfl) (Nat.le_of_ble_eq_true rfl) hl.1 (Nat.le_of_ble_eq_true rfl) dX7_count_107 (fun H locs hI => ?_)
    obtain ⟨r8, hc7, h⟩ := ms_bdE h
    refine kJ6_bitCount_0f7a4 Cx hI hc7 (Or.inl wd_28_11) (Nat.le_of_ble_eq_true rfl) (Nat.le_of_ble_eq_true rfl) hl.1 (Nat.le_of_ble_eq_true rfl) dX7_count_110 (fun H locs hI => ?_)
    exact ms_ri Cx hI (Option.some.inj h) rfl dX7_count_113
  have h := ms_ifF hc6 h
  by_cases hc7 : p0 = 7
  · have h := ms_ifT hc7 h
    refine lv_tableIn (off := 113) (tgt := 114) hx hb dX7_count_1 (by rw [hc7]; decide) (by rw [hc7]; decide) (by rw [hc7]; rfl) rfl ?_
    refine lv_aload_n hx hb dX7_count_114 rfl (lv_at hl 0 rfl) ?_
    refine gr_X7_4 Cx hI wd_2_6 dX7_count_115 ?_
    refine lv_aload_n hx hb dX7_count_118 rfl (lv_at hl 0 rfl) ?_
    refine gr_X7_0 Cx hI wd_1_15 dX7_count_119 ?_
    refine gi_X4_6 Cx hI wd_14_11 dX7_count_122 ?_
    obtain ⟨r10, hc9, h⟩ := ms_bdE h
    refine kX6_windingOfDay Cx hI hc9 wd_40_15 (Nat.le_of_ble_eq_true rfl) (Nat.le_of_ble_eq_true rfl) hl.1 (Nat.le_of_ble_eq_true rfl) dX7_count_125 (fun H locs hI => ?_)
    exact ms_ri Cx hI (Option.some.inj h) rfl dX7_count_128
  have h := ms_ifF hc7 h
  by_cases hc8 : p0 = 8
  · have h := ms_ifT hc8 h
    refine lv_tableIn (off := 128) (tgt := 129) hx hb dX7_count_1 (by rw [hc8]; decide) (by rw [hc8]; decide) (by rw [hc8]; rfl) rfl ?_
    refine lv_aload_n hx hb dX7_count_129 rfl (lv_at hl 0 rfl) ?_
    refine gi_X7_10 Cx hI wd_3_1 dX7_count_130 ?_
    exact ms_ri Cx hI (Option.some.inj h) rfl dX7_count_133
  have h := ms_ifF hc8 h
  refine lv_tableOut (tgt := 134) hx hb dX7_count_1 (ms_tout9 hc0 hc1 hc2 hc3 hc4 hc5 hc6 hc7 hc8) rfl ?_
  refine lv_bipush (v := -2) hx hb dX7_count_134 rfl ?_
  exact ms_ri Cx hI (Option.some.inj h) rfl dX7_count_136
theorem yvX7_count : ms_YV yX7_count RX7 cX7_count 2 (some .int) 1 := ⟨wd_40_6, wd_40_7, wd_1_2, wd_40_8, rfl, by decide +kernel, by decide +kernel, by decide +kernel⟩
set_option maxHeartbeats 4000000 in
theorem metX7_count (l : Launch) (hDis : ms_Dis a shX.length) {σ : Mm} {p0 : Int32} {out : Int32} (h : fX7_count σ p0 = some out) : Met l yX7_count (.code yX7_count cX7_count 2 (some .int) :: wsL_law) rmX7_count (ms_Pc D cA a shX [.ref (a 0), .int p0] σ) (ms_Qi D cA a shX out σ) 0 0 (ms_A a shX.length) := by
  refine Met.ofW (cc := cX7_count) (maxL := 2) (ret := (some .int)) (by decide) rfl ?_
  intro p e s m args below meth c s₁ B hml hv
  obtain ⟨rfl, hK, hN, hP⟩ := hv
  have hl := lv_entry ([.ref (a 0), .int p0]) (n := 2) (Nat.le_of_ble_eq_true rfl)
  rw [lg_entry_eq]
  generalize (lg_sl ([.ref (a 0), .int p0]) ++ List.replicate (2 - (lg_sl ([.ref (a 0), .int p0])).length) Slot.unset).toArray = ls at hl ⊢
  exact wX7_count ⟨B.exec, B.bytes, hml, findClass_of_methodNamed B.named, fun w hw => atoms_spec (ws := .code yX7_count cX7_count 2 (some .int) :: wsL_law) B.pre w (List.mem_cons_of_mem _ hw), B.returns, B.notSynchronized, hK, hDis, hN⟩ out p0 s.heap [] ls ⟨hP, va_S.rf⟩ hl h
theorem kX7_count (Cx : ms_C p s m args meth c D cA a shX cc nL own ret) {σ : Mm} {H : Heap} {locs : List Loc} (hI : ms_I D cA a shX s σ H locs) {p0 : Int32} {out : Int32} (h : fX7_count σ p0 = some out) (hl : Cond.methodLink own idx yX7_count ∈ wsL_law) (hf : 4 + 1 ≤ R.frames) (hlo : 8 + (2 + 11) + 96 ≤ R.locals) (hsz : ls.size = nL) (hW : (rest.map fun v => v.category).sum ≤ 8) (hd : decode cc pc = .ok (.invokevirtual idx, 3)) (kk : ∀ (H1 : Heap) (locs1 : List Loc), ms_I D cA a shX s σ H1 locs1 → W p l e R s m args below meth c H1 locs1 0 0 Q (F0 m (pc + 3) ls (.int out :: rest))) : W p l e R s m args below meth c H locs 0 0 Q (F0 m pc ls (.int p0 :: .ref (a 0) :: rest)) :=
  ms_ci hI (ms_runV (av := [.int p0]) Cx hI 0 shX_0 (ci := 7) rfl rfl yvX7_count (metX7_count l Cx.2.2.2.2.2.2.2.2.1  h) ⟨rfl, rfl⟩ hl ⟨hf, hlo⟩ rfl hsz rfl hW ⟨Nat.zero_le _, Nat.zero_le _⟩ hd) kk
/-! X7 digest ()J -/
theorem dX7_digest_0 : decode cX7_digest 0 = .ok (.ldc2_w 303, 3) := by decide +kernel
theorem dX7_digest_3 : decode cX7_digest 3 = .ok (.lstore_n 1, 1) := by decide +kernel
theorem dX7_digest_4 : decode cX7_digest 4 = .ok (.iconst 0, 1) := by decide +kernel
theorem dX7_digest_5 : decode cX7_digest 5 = .ok (.istore_n 3, 1) := by decide +kernel
theorem dX7_digest_6 : decode cX7_digest 6 = .ok (.iload_n 3, 1) := by decide +kernel
theorem dX7_digest_7 : decode cX7_digest 7 = .ok (.bipush 7, 2) := by decide +kernel
theorem dX7_digest_9 : decode cX7_digest 9 = .ok (.if_icmp .gt 22, 3) := by decide +kernel
theorem dX7_digest_12 : decode cX7_digest 12 = .ok (.ldc2_w 305, 3) := by decide +kernel
theorem dX7_digest_15 : decode cX7_digest 15 = .ok (.lload_n 1, 1) := by decide +kernel
theorem dX7_digest_16 : decode cX7_digest 16 = .ok (.lmul, 1) := by decide +kernel
theorem dX7_digest_17 : decode cX7_digest 17 = .ok (.aload_n 0, 1) := by decide +kernel
theorem dX7_digest_18 : decode cX7_digest 18 = .ok (.iload_n 3, 1) := by decide +kernel
theorem dX7_digest_19 : decode cX7_digest 19 = .ok (.invokevirtual 307, 3) := by decide +kernel
theorem dX7_digest_22 : decode cX7_digest 22 = .ok (.i2l, 1) := by decide +kernel
theorem dX7_digest_23 : decode cX7_digest 23 = .ok (.ladd, 1) := by decide +kernel
theorem dX7_digest_24 : decode cX7_digest 24 = .ok (.lstore_n 1, 1) := by decide +kernel
theorem dX7_digest_25 : decode cX7_digest 25 = .ok (.iinc 3 1, 3) := by decide +kernel
theorem dX7_digest_28 : decode cX7_digest 28 = .ok (.goto (-22), 3) := by decide +kernel
theorem dX7_digest_31 : decode cX7_digest 31 = .ok (.ldc2_w 305, 3) := by decide +kernel
theorem dX7_digest_34 : decode cX7_digest 34 = .ok (.lload_n 1, 1) := by decide +kernel
theorem dX7_digest_35 : decode cX7_digest 35 = .ok (.lmul, 1) := by decide +kernel
theorem dX7_digest_36 : decode cX7_digest 36 = .ok (.aload_n 0, 1) := by decide +kernel
theorem dX7_digest_37 : decode cX7_digest 37 = .ok (.invokevirtual 310, 3) := by decide +kernel
theorem dX7_digest_40 : decode cX7_digest 40 = .ok (.i2l, 1) := by decide +kernel
theorem dX7_digest_41 : decode cX7_digest 41 = .ok (.ladd, 1) := by decide +kernel
theorem dX7_digest_42 : decode cX7_digest 42 = .ok (.lstore_n 1, 1) := by decide +kernel
theorem dX7_digest_43 : decode cX7_digest 43 = .ok (.iconst 0, 1) := by decide +kernel
theorem dX7_digest_44 : decode cX7_digest 44 = .ok (.istore_n 3, 1) := by decide +kernel
theorem dX7_digest_45 : decode cX7_digest 45 = .ok (.iload_n 3, 1) := by decide +kernel
theorem dX7_digest_46 : decode cX7_digest 46 = .ok (.aload_n 0, 1) := by decide +kernel
theorem dX7_digest_47 : decode cX7_digest 47 = .ok (.getfield 12, 3) := by decide +kernel
theorem dX7_digest_50 : decode cX7_digest 50 = .ok (.getfield 190, 3) := by decide +kernel
theorem dX7_digest_53 : decode cX7_digest 53 = .ok (.if_icmp .ge 53, 3) := by decide +kernel
theorem dX7_digest_56 : decode cX7_digest 56 = .ok (.iconst 0, 1) := by decide +kernel
theorem dX7_digest_57 : decode cX7_digest 57 = .ok (.istore 4, 2) := by decide +kernel
theorem dX7_digest_59 : decode cX7_digest 59 = .ok (.iload 4, 2) := by decide +kernel
theorem dX7_digest_61 : decode cX7_digest 61 = .ok (.iconst 5, 1) := by decide +kernel
theorem dX7_digest_62 : decode cX7_digest 62 = .ok (.if_icmp .gt 24, 3) := by decide +kernel
theorem dX7_digest_65 : decode cX7_digest 65 = .ok (.ldc2_w 305, 3) := by decide +kernel
theorem dX7_digest_68 : decode cX7_digest 68 = .ok (.lload_n 1, 1) := by decide +kernel
theorem dX7_digest_69 : decode cX7_digest 69 = .ok (.lmul, 1) := by decide +kernel
theorem dX7_digest_70 : decode cX7_digest 70 = .ok (.aload_n 0, 1) := by decide +kernel
theorem dX7_digest_71 : decode cX7_digest 71 = .ok (.iload_n 3, 1) := by decide +kernel
theorem dX7_digest_72 : decode cX7_digest 72 = .ok (.iload 4, 2) := by decide +kernel
theorem dX7_digest_74 : decode cX7_digest 74 = .ok (.invokevirtual 313, 3) := by decide +kernel
theorem dX7_digest_77 : decode cX7_digest 77 = .ok (.i2l, 1) := by decide +kernel
theorem dX7_digest_78 : decode cX7_digest 78 = .ok (.ladd, 1) := by decide +kernel
theorem dX7_digest_79 : decode cX7_digest 79 = .ok (.lstore_n 1, 1) := by decide +kernel
theorem dX7_digest_80 : decode cX7_digest 80 = .ok (.iinc 4 1, 3) := by decide +kernel
theorem dX7_digest_83 : decode cX7_digest 83 = .ok (.goto (-24), 3) := by decide +kernel
theorem dX7_digest_86 : decode cX7_digest 86 = .ok (.ldc2_w 305, 3) := by decide +kernel
theorem dX7_digest_89 : decode cX7_digest 89 = .ok (.lload_n 1, 1) := by decide +kernel
theorem dX7_digest_90 : decode cX7_digest 90 = .ok (.lmul, 1) := by decide +kernel
theorem dX7_digest_91 : decode cX7_digest 91 = .ok (.aload_n 0, 1) := by decide +kernel
theorem dX7_digest_92 : decode cX7_digest 92 = .ok (.iload_n 3, 1) := by decide +kernel
theorem dX7_digest_93 : decode cX7_digest 93 = .ok (.iconst 2, 1) := by decide +kernel
theorem dX7_digest_94 : decode cX7_digest 94 = .ok (.invokevirtual 316, 3) := by decide +kernel
theorem dX7_digest_97 : decode cX7_digest 97 = .ok (.i2l, 1) := by decide +kernel
theorem dX7_digest_98 : decode cX7_digest 98 = .ok (.ladd, 1) := by decide +kernel
theorem dX7_digest_99 : decode cX7_digest 99 = .ok (.lstore_n 1, 1) := by decide +kernel
theorem dX7_digest_100 : decode cX7_digest 100 = .ok (.iinc 3 1, 3) := by decide +kernel
theorem dX7_digest_103 : decode cX7_digest 103 = .ok (.goto (-58), 3) := by decide +kernel
theorem dX7_digest_106 : decode cX7_digest 106 = .ok (.iconst 0, 1) := by decide +kernel
theorem dX7_digest_107 : decode cX7_digest 107 = .ok (.istore_n 3, 1) := by decide +kernel
theorem dX7_digest_108 : decode cX7_digest 108 = .ok (.iload_n 3, 1) := by decide +kernel
theorem dX7_digest_109 : decode cX7_digest 109 = .ok (.aload_n 0, 1) := by decide +kernel
theorem dX7_digest_110 : decode cX7_digest 110 = .ok (.getfield 12, 3) := by decide +kernel
theorem dX7_digest_113 : decode cX7_digest 113 = .ok (.getfield 291, 3) := by decide +kernel
theorem dX7_digest_116 : decode cX7_digest 116 = .ok (.if_icmp .ge 22, 3) := by decide +kernel
theorem dX7_digest_119 : decode cX7_digest 119 = .ok (.ldc2_w 305, 3) := by decide +kernel
theorem dX7_digest_122 : decode cX7_digest 122 = .ok (.lload_n 1, 1) := by decide +kernel
theorem dX7_digest_123 : decode cX7_digest 123 = .ok (.lmul, 1) := by decide +kernel
theorem dX7_digest_124 : decode cX7_digest 124 = .ok (.aload_n 0, 1) := by decide +kernel
theorem dX7_digest_125 : decode cX7_digest 125 = .ok (.iload_n 3, 1) := by decide +kernel
theorem dX7_digest_126 : decode cX7_digest 126 = .ok (.invokevirtual 319, 3) := by decide +kernel
theorem dX7_digest_129 : decode cX7_digest 129 = .ok (.i2l, 1) := by decide +kernel
theorem dX7_digest_130 : decode cX7_digest 130 = .ok (.ladd, 1) := by decide +kernel
theorem dX7_digest_131 : decode cX7_digest 131 = .ok (.lstore_n 1, 1) := by decide +kernel
theorem dX7_digest_132 : decode cX7_digest 132 = .ok (.iinc 3 1, 3) := by decide +kernel
theorem dX7_digest_135 : decode cX7_digest 135 = .ok (.goto (-27), 3) := by decide +kernel
theorem dX7_digest_138 : decode cX7_digest 138 = .ok (.ldc2_w 305, 3) := by decide +kernel
theorem dX7_digest_141 : decode cX7_digest 141 = .ok (.lload_n 1, 1) := by decide +kernel
theorem dX7_digest_142 : decode cX7_digest 142 = .ok (.lmul, 1) := by decide +kernel
theorem dX7_digest_143 : decode cX7_digest 143 = .ok (.aload_n 0, 1) := by decide +kernel
theorem dX7_digest_144 : decode cX7_digest 144 = .ok (.iconst 0, 1) := by decide +kernel
theorem dX7_digest_145 : decode cX7_digest 145 = .ok (.invokevirtual 322, 3) := by decide +kernel
theorem dX7_digest_148 : decode cX7_digest 148 = .ok (.i2l, 1) := by decide +kernel
theorem dX7_digest_149 : decode cX7_digest 149 = .ok (.ladd, 1) := by decide +kernel
theorem dX7_digest_150 : decode cX7_digest 150 = .ok (.lstore_n 1, 1) := by decide +kernel
theorem dX7_digest_151 : decode cX7_digest 151 = .ok (.ldc2_w 305, 3) := by decide +kernel
theorem dX7_digest_154 : decode cX7_digest 154 = .ok (.lload_n 1, 1) := by decide +kernel
theorem dX7_digest_155 : decode cX7_digest 155 = .ok (.lmul, 1) := by decide +kernel
theorem dX7_digest_156 : decode cX7_digest 156 = .ok (.aload_n 0, 1) := by decide +kernel
theorem dX7_digest_157 : decode cX7_digest 157 = .ok (.iconst 1, 1) := by decide +kernel
theorem dX7_digest_158 : decode cX7_digest 158 = .ok (.invokevirtual 322, 3) := by decide +kernel
theorem dX7_digest_161 : decode cX7_digest 161 = .ok (.i2l, 1) := by decide +kernel
theorem dX7_digest_162 : decode cX7_digest 162 = .ok (.ladd, 1) := by decide +kernel
theorem dX7_digest_163 : decode cX7_digest 163 = .ok (.lstore_n 1, 1) := by decide +kernel
theorem dX7_digest_164 : decode cX7_digest 164 = .ok (.getstatic 325, 3) := by decide +kernel
theorem dX7_digest_167 : decode cX7_digest 167 = .ok (.astore_n 3, 1) := by decide +kernel
theorem dX7_digest_168 : decode cX7_digest 168 = .ok (.aload_n 3, 1) := by decide +kernel
theorem dX7_digest_169 : decode cX7_digest 169 = .ok (.arraylength, 1) := by decide +kernel
theorem dX7_digest_170 : decode cX7_digest 170 = .ok (.istore 4, 2) := by decide +kernel
theorem dX7_digest_172 : decode cX7_digest 172 = .ok (.iconst 0, 1) := by decide +kernel
theorem dX7_digest_173 : decode cX7_digest 173 = .ok (.istore 5, 2) := by decide +kernel
theorem dX7_digest_175 : decode cX7_digest 175 = .ok (.iload 5, 2) := by decide +kernel
theorem dX7_digest_177 : decode cX7_digest 177 = .ok (.iload 4, 2) := by decide +kernel
theorem dX7_digest_179 : decode cX7_digest 179 = .ok (.if_icmp .ge 59, 3) := by decide +kernel
theorem dX7_digest_182 : decode cX7_digest 182 = .ok (.aload_n 3, 1) := by decide +kernel
theorem dX7_digest_183 : decode cX7_digest 183 = .ok (.iload 5, 2) := by decide +kernel
theorem dX7_digest_185 : decode cX7_digest 185 = .ok (.iaload, 1) := by decide +kernel
theorem dX7_digest_186 : decode cX7_digest 186 = .ok (.istore 6, 2) := by decide +kernel
theorem dX7_digest_188 : decode cX7_digest 188 = .ok (.ldc2_w 305, 3) := by decide +kernel
theorem dX7_digest_191 : decode cX7_digest 191 = .ok (.lload_n 1, 1) := by decide +kernel
theorem dX7_digest_192 : decode cX7_digest 192 = .ok (.lmul, 1) := by decide +kernel
theorem dX7_digest_193 : decode cX7_digest 193 = .ok (.aload_n 0, 1) := by decide +kernel
theorem dX7_digest_194 : decode cX7_digest 194 = .ok (.iload 6, 2) := by decide +kernel
theorem dX7_digest_196 : decode cX7_digest 196 = .ok (.iconst 0, 1) := by decide +kernel
theorem dX7_digest_197 : decode cX7_digest 197 = .ok (.invokevirtual 328, 3) := by decide +kernel
theorem dX7_digest_200 : decode cX7_digest 200 = .ok (.i2l, 1) := by decide +kernel
theorem dX7_digest_201 : decode cX7_digest 201 = .ok (.ladd, 1) := by decide +kernel
theorem dX7_digest_202 : decode cX7_digest 202 = .ok (.lstore_n 1, 1) := by decide +kernel
theorem dX7_digest_203 : decode cX7_digest 203 = .ok (.ldc2_w 305, 3) := by decide +kernel
theorem dX7_digest_206 : decode cX7_digest 206 = .ok (.lload_n 1, 1) := by decide +kernel
theorem dX7_digest_207 : decode cX7_digest 207 = .ok (.lmul, 1) := by decide +kernel
theorem dX7_digest_208 : decode cX7_digest 208 = .ok (.aload_n 0, 1) := by decide +kernel
theorem dX7_digest_209 : decode cX7_digest 209 = .ok (.iload 6, 2) := by decide +kernel
theorem dX7_digest_211 : decode cX7_digest 211 = .ok (.iconst 1, 1) := by decide +kernel
theorem dX7_digest_212 : decode cX7_digest 212 = .ok (.invokevirtual 328, 3) := by decide +kernel
theorem dX7_digest_215 : decode cX7_digest 215 = .ok (.i2l, 1) := by decide +kernel
theorem dX7_digest_216 : decode cX7_digest 216 = .ok (.ladd, 1) := by decide +kernel
theorem dX7_digest_217 : decode cX7_digest 217 = .ok (.lstore_n 1, 1) := by decide +kernel
theorem dX7_digest_218 : decode cX7_digest 218 = .ok (.ldc2_w 305, 3) := by decide +kernel
theorem dX7_digest_221 : decode cX7_digest 221 = .ok (.lload_n 1, 1) := by decide +kernel
theorem dX7_digest_222 : decode cX7_digest 222 = .ok (.lmul, 1) := by decide +kernel
theorem dX7_digest_223 : decode cX7_digest 223 = .ok (.aload_n 0, 1) := by decide +kernel
theorem dX7_digest_224 : decode cX7_digest 224 = .ok (.iload 6, 2) := by decide +kernel
theorem dX7_digest_226 : decode cX7_digest 226 = .ok (.invokevirtual 330, 3) := by decide +kernel
theorem dX7_digest_229 : decode cX7_digest 229 = .ok (.i2l, 1) := by decide +kernel
theorem dX7_digest_230 : decode cX7_digest 230 = .ok (.ladd, 1) := by decide +kernel
theorem dX7_digest_231 : decode cX7_digest 231 = .ok (.lstore_n 1, 1) := by decide +kernel
theorem dX7_digest_232 : decode cX7_digest 232 = .ok (.iinc 5 1, 3) := by decide +kernel
theorem dX7_digest_235 : decode cX7_digest 235 = .ok (.goto (-60), 3) := by decide +kernel
theorem dX7_digest_238 : decode cX7_digest 238 = .ok (.ldc2_w 305, 3) := by decide +kernel
theorem dX7_digest_241 : decode cX7_digest 241 = .ok (.lload_n 1, 1) := by decide +kernel
theorem dX7_digest_242 : decode cX7_digest 242 = .ok (.lmul, 1) := by decide +kernel
theorem dX7_digest_243 : decode cX7_digest 243 = .ok (.aload_n 0, 1) := by decide +kernel
theorem dX7_digest_244 : decode cX7_digest 244 = .ok (.iconst 2, 1) := by decide +kernel
theorem dX7_digest_245 : decode cX7_digest 245 = .ok (.invokevirtual 333, 3) := by decide +kernel
theorem dX7_digest_248 : decode cX7_digest 248 = .ok (.i2l, 1) := by decide +kernel
theorem dX7_digest_249 : decode cX7_digest 249 = .ok (.ladd, 1) := by decide +kernel
theorem dX7_digest_250 : decode cX7_digest 250 = .ok (.lstore_n 1, 1) := by decide +kernel
theorem dX7_digest_251 : decode cX7_digest 251 = .ok (.ldc2_w 305, 3) := by decide +kernel
theorem dX7_digest_254 : decode cX7_digest 254 = .ok (.lload_n 1, 1) := by decide +kernel
theorem dX7_digest_255 : decode cX7_digest 255 = .ok (.lmul, 1) := by decide +kernel
theorem dX7_digest_256 : decode cX7_digest 256 = .ok (.aload_n 0, 1) := by decide +kernel
theorem dX7_digest_257 : decode cX7_digest 257 = .ok (.iconst 3, 1) := by decide +kernel
theorem dX7_digest_258 : decode cX7_digest 258 = .ok (.iconst 0, 1) := by decide +kernel
theorem dX7_digest_259 : decode cX7_digest 259 = .ok (.invokevirtual 336, 3) := by decide +kernel
theorem dX7_digest_262 : decode cX7_digest 262 = .ok (.i2l, 1) := by decide +kernel
theorem dX7_digest_263 : decode cX7_digest 263 = .ok (.ladd, 1) := by decide +kernel
theorem dX7_digest_264 : decode cX7_digest 264 = .ok (.lstore_n 1, 1) := by decide +kernel
theorem dX7_digest_265 : decode cX7_digest 265 = .ok (.ldc2_w 305, 3) := by decide +kernel
theorem dX7_digest_268 : decode cX7_digest 268 = .ok (.lload_n 1, 1) := by decide +kernel
theorem dX7_digest_269 : decode cX7_digest 269 = .ok (.lmul, 1) := by decide +kernel
theorem dX7_digest_270 : decode cX7_digest 270 = .ok (.aload_n 0, 1) := by decide +kernel
theorem dX7_digest_271 : decode cX7_digest 271 = .ok (.iconst 3, 1) := by decide +kernel
theorem dX7_digest_272 : decode cX7_digest 272 = .ok (.iconst 1, 1) := by decide +kernel
theorem dX7_digest_273 : decode cX7_digest 273 = .ok (.invokevirtual 336, 3) := by decide +kernel
theorem dX7_digest_276 : decode cX7_digest 276 = .ok (.i2l, 1) := by decide +kernel
theorem dX7_digest_277 : decode cX7_digest 277 = .ok (.ladd, 1) := by decide +kernel
theorem dX7_digest_278 : decode cX7_digest 278 = .ok (.lstore_n 1, 1) := by decide +kernel
theorem dX7_digest_279 : decode cX7_digest 279 = .ok (.ldc2_w 305, 3) := by decide +kernel
theorem dX7_digest_282 : decode cX7_digest 282 = .ok (.lload_n 1, 1) := by decide +kernel
theorem dX7_digest_283 : decode cX7_digest 283 = .ok (.lmul, 1) := by decide +kernel
theorem dX7_digest_284 : decode cX7_digest 284 = .ok (.aload_n 0, 1) := by decide +kernel
theorem dX7_digest_285 : decode cX7_digest 285 = .ok (.iconst 2, 1) := by decide +kernel
theorem dX7_digest_286 : decode cX7_digest 286 = .ok (.invokevirtual 339, 3) := by decide +kernel
theorem dX7_digest_289 : decode cX7_digest 289 = .ok (.i2l, 1) := by decide +kernel
theorem dX7_digest_290 : decode cX7_digest 290 = .ok (.ladd, 1) := by decide +kernel
theorem dX7_digest_291 : decode cX7_digest 291 = .ok (.lstore_n 1, 1) := by decide +kernel
theorem dX7_digest_292 : decode cX7_digest 292 = .ok (.ldc2_w 305, 3) := by decide +kernel
theorem dX7_digest_295 : decode cX7_digest 295 = .ok (.lload_n 1, 1) := by decide +kernel
theorem dX7_digest_296 : decode cX7_digest 296 = .ok (.lmul, 1) := by decide +kernel
theorem dX7_digest_297 : decode cX7_digest 297 = .ok (.aload_n 0, 1) := by decide +kernel
theorem dX7_digest_298 : decode cX7_digest 298 = .ok (.iconst 2, 1) := by decide +kernel
theorem dX7_digest_299 : decode cX7_digest 299 = .ok (.iconst 0, 1) := by decide +kernel
theorem dX7_digest_300 : decode cX7_digest 300 = .ok (.invokevirtual 342, 3) := by decide +kernel
theorem dX7_digest_303 : decode cX7_digest 303 = .ok (.i2l, 1) := by decide +kernel
theorem dX7_digest_304 : decode cX7_digest 304 = .ok (.ladd, 1) := by decide +kernel
theorem dX7_digest_305 : decode cX7_digest 305 = .ok (.lstore_n 1, 1) := by decide +kernel
theorem dX7_digest_306 : decode cX7_digest 306 = .ok (.ldc2_w 305, 3) := by decide +kernel
theorem dX7_digest_309 : decode cX7_digest 309 = .ok (.lload_n 1, 1) := by decide +kernel
theorem dX7_digest_310 : decode cX7_digest 310 = .ok (.lmul, 1) := by decide +kernel
theorem dX7_digest_311 : decode cX7_digest 311 = .ok (.aload_n 0, 1) := by decide +kernel
theorem dX7_digest_312 : decode cX7_digest 312 = .ok (.iconst 2, 1) := by decide +kernel
theorem dX7_digest_313 : decode cX7_digest 313 = .ok (.iconst 1, 1) := by decide +kernel
theorem dX7_digest_314 : decode cX7_digest 314 = .ok (.invokevirtual 342, 3) := by decide +kernel
theorem dX7_digest_317 : decode cX7_digest 317 = .ok (.i2l, 1) := by decide +kernel
theorem dX7_digest_318 : decode cX7_digest 318 = .ok (.ladd, 1) := by decide +kernel
theorem dX7_digest_319 : decode cX7_digest 319 = .ok (.lstore_n 1, 1) := by decide +kernel
theorem dX7_digest_320 : decode cX7_digest 320 = .ok (.ldc2_w 305, 3) := by decide +kernel
theorem dX7_digest_323 : decode cX7_digest 323 = .ok (.lload_n 1, 1) := by decide +kernel
theorem dX7_digest_324 : decode cX7_digest 324 = .ok (.lmul, 1) := by decide +kernel
theorem dX7_digest_325 : decode cX7_digest 325 = .ok (.aload_n 0, 1) := by decide +kernel
theorem dX7_digest_326 : decode cX7_digest 326 = .ok (.invokevirtual 345, 3) := by decide +kernel
theorem dX7_digest_329 : decode cX7_digest 329 = .ok (.i2l, 1) := by decide +kernel
theorem dX7_digest_330 : decode cX7_digest 330 = .ok (.ladd, 1) := by decide +kernel
theorem dX7_digest_331 : decode cX7_digest 331 = .ok (.lstore_n 1, 1) := by decide +kernel
theorem dX7_digest_332 : decode cX7_digest 332 = .ok (.ldc2_w 305, 3) := by decide +kernel
theorem dX7_digest_335 : decode cX7_digest 335 = .ok (.lload_n 1, 1) := by decide +kernel
theorem dX7_digest_336 : decode cX7_digest 336 = .ok (.lmul, 1) := by decide +kernel
theorem dX7_digest_337 : decode cX7_digest 337 = .ok (.aload_n 0, 1) := by decide +kernel
theorem dX7_digest_338 : decode cX7_digest 338 = .ok (.invokevirtual 348, 3) := by decide +kernel
theorem dX7_digest_341 : decode cX7_digest 341 = .ok (.i2l, 1) := by decide +kernel
theorem dX7_digest_342 : decode cX7_digest 342 = .ok (.ladd, 1) := by decide +kernel
theorem dX7_digest_343 : decode cX7_digest 343 = .ok (.lstore_n 1, 1) := by decide +kernel
theorem dX7_digest_344 : decode cX7_digest 344 = .ok (.ldc2_w 305, 3) := by decide +kernel
theorem dX7_digest_347 : decode cX7_digest 347 = .ok (.lload_n 1, 1) := by decide +kernel
theorem dX7_digest_348 : decode cX7_digest 348 = .ok (.lmul, 1) := by decide +kernel
theorem dX7_digest_349 : decode cX7_digest 349 = .ok (.aload_n 0, 1) := by decide +kernel
theorem dX7_digest_350 : decode cX7_digest 350 = .ok (.bipush 9, 2) := by decide +kernel
theorem dX7_digest_352 : decode cX7_digest 352 = .ok (.iconst 5, 1) := by decide +kernel
theorem dX7_digest_353 : decode cX7_digest 353 = .ok (.bipush 47, 2) := by decide +kernel
theorem dX7_digest_355 : decode cX7_digest 355 = .ok (.invokevirtual 351, 3) := by decide +kernel
theorem dX7_digest_358 : decode cX7_digest 358 = .ok (.i2l, 1) := by decide +kernel
theorem dX7_digest_359 : decode cX7_digest 359 = .ok (.ladd, 1) := by decide +kernel
theorem dX7_digest_360 : decode cX7_digest 360 = .ok (.lreturn, 1) := by decide +kernel
abbrev rmX7_digest : Room := { frames := 7, cells := 0, slots := 0, locals := 162 }
set_option maxHeartbeats 4000000 in
set_option maxRecDepth 100000 in
theorem wX7_digest_59 (Cx : ms_C p s m args meth c D cA a shX cX7_digest 7 RX7 (some .long)) {t_SETTING_LEAST t_SETTING_MOST t_DIGEST_HOURS : Nat} (hZ : ms_ZS (ms_A a shX.length) t_SETTING_LEAST t_SETTING_MOST t_DIGEST_HOURS s s.heap) (out : Int64 × Mm) (K45 : Int64 → Int32 → Mm → Option (Int64 × Mm)) (hK45 : ∀ (y1 : Int64) (y2 : Int32) , ∀ (σ : Mm) (H : Heap) (locs : List Loc) (ls : Array Slot), ms_I D cA a shX s σ H locs → lv_has ls 7 [(0, .ref (a 0)), (1, .long y1), (3, .int y2)] → K45 y1 y2 σ = some out → W p l e rmX7_digest s m args below meth c H locs 0 0 (MQ below (ms_Ql D cA a shX out.1 out.2) args s 0 0 (ms_A a shX.length)) (F0 m 45 ls [])) : ∀ (n : Nat), ∀ (y1 : Int64) (y2 : Int32) (y3 : Int32) , ∀ (σ : Mm) (H : Heap) (locs : List Loc) (ls : Array Slot), ms_I D cA a shX s σ H locs → lv_has ls 7 [(0, .ref (a 0)), (1, .long y1), (3, .int y2), (4, .int y3)] → fX7_digest_59 K45 n y1 y2 y3 σ = some out → W p l e rmX7_digest s m args below meth c H locs 0 0 (MQ below (ms_Ql D cA a shX out.1 out.2) args s 0 0 (ms_A a shX.length)) (F0 m 59 ls []) := by
  have hx := Cx.1
  have hb := Cx.2.1
  obtain ⟨hZ_SETTING_LEAST, hZ_SETTING_MOST, hZ_DIGEST_HOURS⟩ := id hZ
  intro n
  induction n with
  | zero =>
    intro y1 y2 y3 σ H locs ls hI hl h
    exact nomatch (show none = some out from h)
  | succ n ih =>
    intro y1 y2 y3 σ H locs ls hI hl h
    rw [fX7_digest_59] at h
    refine lv_iload hx hb dX7_digest_59 (lv_at hl 3 rfl) ?_
    refine lv_iconst (v := 5) hx hb dX7_digest_61 rfl ?_
    refine lv_icmp_gt (tgt := 86) hx hb dX7_digest_62 rfl (fun hc => ?_) (fun hc => ?_)
    · have h := ms_ifT hc h
      refine lv_ldc2 hx hb Cx.2.2.2.1 (Cx.2.2.2.2.1 _ wd_41_8) dX7_digest_86 ?_
      refine lv_lload_n hx hb dX7_digest_89 rfl (lv_at hl 1 rfl) ?_
      refine lv_lmul hx hb dX7_digest_90 ?_
      refine lv_aload_n hx hb dX7_digest_91 rfl (lv_at hl 0 rfl) ?_
      refine lv_iload_n hx hb dX7_digest_92 rfl (lv_at hl 2 rfl) ?_
      refine lv_iconst (v := 2) hx hb dX7_digest_93 rfl ?_
      obtain ⟨⟨r2, σ3⟩, hc1, h⟩ := ms_bdE h
      refine kX7_stood Cx hI hc1 wd_41_13 (Nat.le_of_ble_eq_true rfl) (Nat.le_of_ble_eq_true rfl) hl.1 (Nat.le_of_ble_eq_true rfl) dX7_digest_94 (fun H locs hI => ?_)
      refine lv_i2l hx hb dX7_digest_97 rfl ?_
      refine lv_ladd hx hb dX7_digest_98 ?_
      refine lv_topl (fun x4 ex4 => ?_)
      have h := ms_ltE ex4 h
      refine lv_lstore_n (lv' := [(1, .long x4), (0, .ref (a 0)), (3, .int y2), (4, .int y3)]) hx hb dX7_digest_99 rfl hl (by decide) rfl (fun ls hl => ?_)
      refine lv_iinc (v := y2 + 1) (lv' := [(3, .int (y2 + 1)), (1, .long x4), (0, .ref (a 0)), (4, .int y3)]) hx hb dX7_digest_100 hl (k := 2) rfl rfl (by decide) rfl (fun ls hl => ?_)
      refine lv_goto (tgt := 45) hx hb dX7_digest_103 rfl ?_
      exact hK45 x4 (y2 + 1) σ3 _ _ _ hI (lv_sub hl [2, 1, 0] rfl) h
    · have h := ms_ifF hc h
      refine lv_ldc2 hx hb Cx.2.2.2.1 (Cx.2.2.2.2.1 _ wd_41_8) dX7_digest_65 ?_
      refine lv_lload_n hx hb dX7_digest_68 rfl (lv_at hl 1 rfl) ?_
      refine lv_lmul hx hb dX7_digest_69 ?_
      refine lv_aload_n hx hb dX7_digest_70 rfl (lv_at hl 0 rfl) ?_
      refine lv_iload_n hx hb dX7_digest_71 rfl (lv_at hl 2 rfl) ?_
      refine lv_iload hx hb dX7_digest_72 (lv_at hl 3 rfl) ?_
      obtain ⟨r6, hc5, h⟩ := ms_bdE h
      refine kX7_thing Cx hI hc5 wd_41_12 (Nat.le_of_ble_eq_true rfl) (Nat.le_of_ble_eq_true rfl) hl.1 (Nat.le_of_ble_eq_true rfl) dX7_digest_74 (fun H locs hI => ?_)
      refine lv_i2l hx hb dX7_digest_77 rfl ?_
      refine lv_ladd hx hb dX7_digest_78 ?_
      refine lv_topl (fun x7 ex7 => ?_)
      have h := ms_ltE ex7 h
      refine lv_lstore_n (lv' := [(1, .long x7), (0, .ref (a 0)), (3, .int y2), (4, .int y3)]) hx hb dX7_digest_79 rfl hl (by decide) rfl (fun ls hl => ?_)
      refine lv_iinc (v := y3 + 1) (lv' := [(4, .int (y3 + 1)), (1, .long x7), (0, .ref (a 0)), (3, .int y2)]) hx hb dX7_digest_80 hl (k := 3) rfl rfl (by decide) rfl (fun ls hl => ?_)
      refine lv_goto (tgt := 59) hx hb dX7_digest_83 rfl ?_
      exact ih x7 y2 (y3 + 1) σ _ _ _ hI (lv_sub hl [2, 1, 3, 0] rfl) h
set_option maxHeartbeats 4000000 in
set_option maxRecDepth 100000 in
theorem wX7_digest_175 (Cx : ms_C p s m args meth c D cA a shX cX7_digest 7 RX7 (some .long)) {t_SETTING_LEAST t_SETTING_MOST t_DIGEST_HOURS : Nat} (hZ : ms_ZS (ms_A a shX.length) t_SETTING_LEAST t_SETTING_MOST t_DIGEST_HOURS s s.heap) (out : Int64 × Mm) : ∀ (n : Nat), ∀ (y1 : Int64) (y2 : Int32) (y3 : Int32) , ∀ (σ : Mm) (H : Heap) (locs : List Loc) (ls : Array Slot), ms_I D cA a shX s σ H locs → lv_has ls 7 [(0, .ref (a 0)), (1, .long y1), (3, .ref t_DIGEST_HOURS), (4, .int y2), (5, .int y3)] → fX7_digest_175 n y1 y2 y3 σ = some out → W p l e rmX7_digest s m args below meth c H locs 0 0 (MQ below (ms_Ql D cA a shX out.1 out.2) args s 0 0 (ms_A a shX.length)) (F0 m 175 ls []) := by
  have hx := Cx.1
  have hb := Cx.2.1
  obtain ⟨hZ_SETTING_LEAST, hZ_SETTING_MOST, hZ_DIGEST_HOURS⟩ := id hZ
  intro n
  induction n with
  | zero =>
    intro y1 y2 y3 σ H locs ls hI hl h
    exact nomatch (show none = some out from h)
  | succ n ih =>
    intro y1 y2 y3 σ H locs ls hI hl h
    rw [fX7_digest_175] at h
    refine lv_iload hx hb dX7_digest_175 (lv_at hl 4 rfl) ?_
    refine lv_iload hx hb dX7_digest_177 (lv_at hl 3 rfl) ?_
    refine lv_icmp_ge (tgt := 238) hx hb dX7_digest_179 rfl (fun hc => ?_) (fun hc => ?_)
    · have h := ms_ifT hc h
      refine lv_ldc2 hx hb Cx.2.2.2.1 (Cx.2.2.2.2.1 _ wd_41_8) dX7_digest_238 ?_
      refine lv_lload_n hx hb dX7_digest_241 rfl (lv_at hl 1 rfl) ?_
      refine lv_lmul hx hb dX7_digest_242 ?_
      refine lv_aload_n hx hb dX7_digest_243 rfl (lv_at hl 0 rfl) ?_
      refine lv_iconst (v := 2) hx hb dX7_digest_244 rfl ?_
      obtain ⟨⟨r2, σ3⟩, hc1, h⟩ := ms_bdE h
      refine kX7_lost Cx hI hc1 wd_41_18 (Nat.le_of_ble_eq_true rfl) (Nat.le_of_ble_eq_true rfl) hl.1 (Nat.le_of_ble_eq_true rfl) dX7_digest_245 (fun H locs hI => ?_)
      refine lv_i2l hx hb dX7_digest_248 rfl ?_
      refine lv_ladd hx hb dX7_digest_249 ?_
      refine lv_topl (fun x4 ex4 => ?_)
      have h := ms_ltE ex4 h
      refine lv_lstore_n (lv' := [(1, .long x4), (0, .ref (a 0)), (3, .ref t_DIGEST_HOURS), (4, .int y2), (5, .int y3)]) hx hb dX7_digest_250 rfl hl (by decide) rfl (fun ls hl => ?_)
      refine lv_ldc2 hx hb Cx.2.2.2.1 (Cx.2.2.2.2.1 _ wd_41_8) dX7_digest_251 ?_
      refine lv_lload_n hx hb dX7_digest_254 rfl (lv_at hl 0 rfl) ?_
      refine lv_lmul hx hb dX7_digest_255 ?_
      refine lv_aload_n hx hb dX7_digest_256 rfl (lv_at hl 1 rfl) ?_
      refine lv_iconst (v := 3) hx hb dX7_digest_257 rfl ?_
      refine lv_iconst (v := 0) hx hb dX7_digest_258 rfl ?_
      obtain ⟨⟨r6, σ7⟩, hc5, h⟩ := ms_bdE h
      refine kX7_worst Cx hI hc5 wd_41_19 (Nat.le_of_ble_eq_true rfl) (Nat.le_of_ble_eq_true rfl) hl.1 (Nat.le_of_ble_eq_true rfl) dX7_digest_259 (fun H locs hI => ?_)
      refine lv_i2l hx hb dX7_digest_262 rfl ?_
      refine lv_ladd hx hb dX7_digest_263 ?_
      refine lv_topl (fun x8 ex8 => ?_)
      have h := ms_ltE ex8 h
      refine lv_lstore_n (lv' := [(1, .long x8), (0, .ref (a 0)), (3, .ref t_DIGEST_HOURS), (4, .int y2), (5, .int y3)]) hx hb dX7_digest_264 rfl hl (by decide) rfl (fun ls hl => ?_)
      refine lv_ldc2 hx hb Cx.2.2.2.1 (Cx.2.2.2.2.1 _ wd_41_8) dX7_digest_265 ?_
      refine lv_lload_n hx hb dX7_digest_268 rfl (lv_at hl 0 rfl) ?_
      refine lv_lmul hx hb dX7_digest_269 ?_
      refine lv_aload_n hx hb dX7_digest_270 rfl (lv_at hl 1 rfl) ?_
      refine lv_iconst (v := 3) hx hb dX7_digest_271 rfl ?_
      refine lv_iconst (v := 1) hx hb dX7_digest_272 rfl ?_
      obtain ⟨⟨r10, σ11⟩, hc9, h⟩ := ms_bdE h
      refine kX7_worst Cx hI hc9 wd_41_19 (Nat.le_of_ble_eq_true rfl) (Nat.le_of_ble_eq_true rfl) hl.1 (Nat.le_of_ble_eq_true rfl) dX7_digest_273 (fun H locs hI => ?_)
      refine lv_i2l hx hb dX7_digest_276 rfl ?_
      refine lv_ladd hx hb dX7_digest_277 ?_
      refine lv_topl (fun x12 ex12 => ?_)
      have h := ms_ltE ex12 h
      refine lv_lstore_n (lv' := [(1, .long x12), (0, .ref (a 0)), (3, .ref t_DIGEST_HOURS), (4, .int y2), (5, .int y3)]) hx hb dX7_digest_278 rfl hl (by decide) rfl (fun ls hl => ?_)
      refine lv_ldc2 hx hb Cx.2.2.2.1 (Cx.2.2.2.2.1 _ wd_41_8) dX7_digest_279 ?_
      refine lv_lload_n hx hb dX7_digest_282 rfl (lv_at hl 0 rfl) ?_
      refine lv_lmul hx hb dX7_digest_283 ?_
      refine lv_aload_n hx hb dX7_digest_284 rfl (lv_at hl 1 rfl) ?_
      refine lv_iconst (v := 2) hx hb dX7_digest_285 rfl ?_
      obtain ⟨⟨r14, σ15⟩, hc13, h⟩ := ms_bdE h
      refine kX7_fewest Cx hI hc13 wd_41_20 (Nat.le_of_ble_eq_true rfl) (Nat.le_of_ble_eq_true rfl) hl.1 (Nat.le_of_ble_eq_true rfl) dX7_digest_286 (fun H locs hI => ?_)
      refine lv_i2l hx hb dX7_digest_289 rfl ?_
      refine lv_ladd hx hb dX7_digest_290 ?_
      refine lv_topl (fun x16 ex16 => ?_)
      have h := ms_ltE ex16 h
      refine lv_lstore_n (lv' := [(1, .long x16), (0, .ref (a 0)), (3, .ref t_DIGEST_HOURS), (4, .int y2), (5, .int y3)]) hx hb dX7_digest_291 rfl hl (by decide) rfl (fun ls hl => ?_)
      refine lv_ldc2 hx hb Cx.2.2.2.1 (Cx.2.2.2.2.1 _ wd_41_8) dX7_digest_292 ?_
      refine lv_lload_n hx hb dX7_digest_295 rfl (lv_at hl 0 rfl) ?_
      refine lv_lmul hx hb dX7_digest_296 ?_
      refine lv_aload_n hx hb dX7_digest_297 rfl (lv_at hl 1 rfl) ?_
      refine lv_iconst (v := 2) hx hb dX7_digest_298 rfl ?_
      refine lv_iconst (v := 0) hx hb dX7_digest_299 rfl ?_
      obtain ⟨⟨r18, σ19⟩, hc17, h⟩ := ms_bdE h
      refine kX7_place Cx hI hc17 wd_41_21 (Nat.le_of_ble_eq_true rfl) (Nat.le_of_ble_eq_true rfl) hl.1 (Nat.le_of_ble_eq_true rfl) dX7_digest_300 (fun H locs hI => ?_)
      refine lv_i2l hx hb dX7_digest_303 rfl ?_
      refine lv_ladd hx hb dX7_digest_304 ?_
      refine lv_topl (fun x20 ex20 => ?_)
      have h := ms_ltE ex20 h
      refine lv_lstore_n (lv' := [(1, .long x20), (0, .ref (a 0)), (3, .ref t_DIGEST_HOURS), (4, .int y2), (5, .int y3)]) hx hb dX7_digest_305 rfl hl (by decide) rfl (fun ls hl => ?_)
      refine lv_ldc2 hx hb Cx.2.2.2.1 (Cx.2.2.2.2.1 _ wd_41_8) dX7_digest_306 ?_
      refine lv_lload_n hx hb dX7_digest_309 rfl (lv_at hl 0 rfl) ?_
      refine lv_lmul hx hb dX7_digest_310 ?_
      refine lv_aload_n hx hb dX7_digest_311 rfl (lv_at hl 1 rfl) ?_
      refine lv_iconst (v := 2) hx hb dX7_digest_312 rfl ?_
      refine lv_iconst (v := 1) hx hb dX7_digest_313 rfl ?_
      obtain ⟨⟨r22, σ23⟩, hc21, h⟩ := ms_bdE h
      refine kX7_place Cx hI hc21 wd_41_21 (Nat.le_of_ble_eq_true rfl) (Nat.le_of_ble_eq_true rfl) hl.1 (Nat.le_of_ble_eq_true rfl) dX7_digest_314 (fun H locs hI => ?_)
      refine lv_i2l hx hb dX7_digest_317 rfl ?_
      refine lv_ladd hx hb dX7_digest_318 ?_
      refine lv_topl (fun x24 ex24 => ?_)
      have h := ms_ltE ex24 h
      refine lv_lstore_n (lv' := [(1, .long x24), (0, .ref (a 0)), (3, .ref t_DIGEST_HOURS), (4, .int y2), (5, .int y3)]) hx hb dX7_digest_319 rfl hl (by decide) rfl (fun ls hl => ?_)
      refine lv_ldc2 hx hb Cx.2.2.2.1 (Cx.2.2.2.2.1 _ wd_41_8) dX7_digest_320 ?_
      refine lv_lload_n hx hb dX7_digest_323 rfl (lv_at hl 0 rfl) ?_
      refine lv_lmul hx hb dX7_digest_324 ?_
      refine lv_aload_n hx hb dX7_digest_325 rfl (lv_at hl 1 rfl) ?_
      obtain ⟨⟨r26, σ27⟩, hc25, h⟩ := ms_bdE h
      refine kX7_lasts Cx hI hc25 wd_41_22 (Nat.le_of_ble_eq_true rfl) (Nat.le_of_ble_eq_true rfl) hl.1 (Nat.le_of_ble_eq_true rfl) dX7_digest_326 (fun H locs hI => ?_)
      refine lv_i2l hx hb dX7_digest_329 rfl ?_
      refine lv_ladd hx hb dX7_digest_330 ?_
      refine lv_topl (fun x28 ex28 => ?_)
      have h := ms_ltE ex28 h
      refine lv_lstore_n (lv' := [(1, .long x28), (0, .ref (a 0)), (3, .ref t_DIGEST_HOURS), (4, .int y2), (5, .int y3)]) hx hb dX7_digest_331 rfl hl (by decide) rfl (fun ls hl => ?_)
      refine lv_ldc2 hx hb Cx.2.2.2.1 (Cx.2.2.2.2.1 _ wd_41_8) dX7_digest_332 ?_
      refine lv_lload_n hx hb dX7_digest_335 rfl (lv_at hl 0 rfl) ?_
      refine lv_lmul hx hb dX7_digest_336 ?_
      refine lv_aload_n hx hb dX7_digest_337 rfl (lv_at hl 1 rfl) ?_
      obtain ⟨⟨r30, σ31⟩, hc29, h⟩ := ms_bdE h
      refine kX7_unlike Cx hI hc29 wd_41_23 (Nat.le_of_ble_eq_true rfl) (Nat.le_of_ble_eq_true rfl) hl.1 (Nat.le_of_ble_eq_true rfl) dX7_digest_338 (fun H locs hI => ?_)
      refine lv_i2l hx hb dX7_digest_341 rfl ?_
      refine lv_ladd hx hb dX7_digest_342 ?_
      refine lv_topl (fun x32 ex32 => ?_)
      have h := ms_ltE ex32 h
      refine lv_lstore_n (lv' := [(1, .long x32), (0, .ref (a 0)), (3, .ref t_DIGEST_HOURS), (4, .int y2), (5, .int y3)]) hx hb dX7_digest_343 rfl hl (by decide) rfl (fun ls hl => ?_)
      refine lv_ldc2 hx hb Cx.2.2.2.1 (Cx.2.2.2.2.1 _ wd_41_8) dX7_digest_344 ?_
      refine lv_lload_n hx hb dX7_digest_347 rfl (lv_at hl 0 rfl) ?_
      refine lv_lmul hx hb dX7_digest_348 ?_
      refine lv_aload_n hx hb dX7_digest_349 rfl (lv_at hl 1 rfl) ?_
      refine lv_bipush (v := 9) hx hb dX7_digest_350 rfl ?_
      refine lv_iconst (v := 5) hx hb dX7_digest_352 rfl ?_
      refine lv_bipush (v := 47) hx hb dX7_digest_353 rfl ?_
      obtain ⟨⟨r34, σ35⟩, hc33, h⟩ := ms_bdE h
      refine kX7_robbed Cx hI hc33 wd_42_0 (Nat.le_of_ble_eq_true rfl) (Nat.le_of_ble_eq_true rfl) hl.1 (Nat.le_of_ble_eq_true rfl) dX7_digest_355 (fun H locs hI => ?_)
      refine lv_i2l hx hb dX7_digest_358 rfl ?_
      refine lv_ladd hx hb dX7_digest_359 ?_
      exact ms_rlw Cx hI h dX7_digest_360
    · have h := ms_ifF hc h
      refine lv_aload_n hx hb dX7_digest_182 rfl (lv_at hl 2 rfl) ?_
      refine lv_iload hx hb dX7_digest_183 (lv_at hl 4 rfl) ?_
      obtain ⟨hg, h⟩ := ms_gE h
      refine ms_zld Cx hZ_DIGEST_HOURS hI hg dX7_digest_185 ?_
      refine lv_istore (lv' := [(6, .int (ms_dh (ms_ix y3))), (0, .ref (a 0)), (1, .long y1), (3, .ref t_DIGEST_HOURS), (4, .int y2), (5, .int y3)]) hx hb dX7_digest_186 hl (by decide) rfl (fun ls hl => ?_)
      refine lv_ldc2 hx hb Cx.2.2.2.1 (Cx.2.2.2.2.1 _ wd_41_8) dX7_digest_188 ?_
      refine lv_lload_n hx hb dX7_digest_191 rfl (lv_at hl 2 rfl) ?_
      refine lv_lmul hx hb dX7_digest_192 ?_
      refine lv_aload_n hx hb dX7_digest_193 rfl (lv_at hl 1 rfl) ?_
      refine lv_iload hx hb dX7_digest_194 (lv_at hl 0 rfl) ?_
      refine lv_iconst (v := 0) hx hb dX7_digest_196 rfl ?_
      obtain ⟨⟨r37, σ38⟩, hc36, h⟩ := ms_bdE h
      refine kX7_level Cx hI hc36 wd_41_16 (Nat.le_of_ble_eq_true rfl) (Nat.le_of_ble_eq_true rfl) hl.1 (Nat.le_of_ble_eq_true rfl) dX7_digest_197 (fun H locs hI => ?_)
      refine lv_i2l hx hb dX7_digest_200 rfl ?_
      refine lv_ladd hx hb dX7_digest_201 ?_
      refine lv_topl (fun x39 ex39 => ?_)
      have h := ms_ltE ex39 h
      refine lv_lstore_n (lv' := [(1, .long x39), (6, .int (ms_dh (ms_ix y3))), (0, .ref (a 0)), (3, .ref t_DIGEST_HOURS), (4, .int y2), (5, .int y3)]) hx hb dX7_digest_202 rfl hl (by decide) rfl (fun ls hl => ?_)
      refine lv_ldc2 hx hb Cx.2.2.2.1 (Cx.2.2.2.2.1 _ wd_41_8) dX7_digest_203 ?_
      refine lv_lload_n hx hb dX7_digest_206 rfl (lv_at hl 0 rfl) ?_
      refine lv_lmul hx hb dX7_digest_207 ?_
      refine lv_aload_n hx hb dX7_digest_208 rfl (lv_at hl 2 rfl) ?_
      refine lv_iload hx hb dX7_digest_209 (lv_at hl 1 rfl) ?_
      refine lv_iconst (v := 1) hx hb dX7_digest_211 rfl ?_
      obtain ⟨⟨r41, σ42⟩, hc40, h⟩ := ms_bdE h
      refine kX7_level Cx hI hc40 wd_41_16 (Nat.le_of_ble_eq_true rfl) (Nat.le_of_ble_eq_true rfl) hl.1 (Nat.le_of_ble_eq_true rfl) dX7_digest_212 (fun H locs hI => ?_)
      refine lv_i2l hx hb dX7_digest_215 rfl ?_
      refine lv_ladd hx hb dX7_digest_216 ?_
      refine lv_topl (fun x43 ex43 => ?_)
      have h := ms_ltE ex43 h
      refine lv_lstore_n (lv' := [(1, .long x43), (6, .int (ms_dh (ms_ix y3))), (0, .ref (a 0)), (3, .ref t_DIGEST_HOURS), (4, .int y2), (5, .int y3)]) hx hb dX7_digest_217 rfl hl (by decide) rfl (fun ls hl => ?_)
      refine lv_ldc2 hx hb Cx.2.2.2.1 (Cx.2.2.2.2.1 _ wd_41_8) dX7_digest_218 ?_
      refine lv_lload_n hx hb dX7_digest_221 rfl (lv_at hl 0 rfl) ?_
      refine lv_lmul hx hb dX7_digest_222 ?_
      refine lv_aload_n hx hb dX7_digest_223 rfl (lv_at hl 2 rfl) ?_
      refine lv_iload hx hb dX7_digest_224 (lv_at hl 1 rfl) ?_
      obtain ⟨⟨r45, σ46⟩, hc44, h⟩ := ms_bdE h
      refine kX7_flow Cx hI hc44 wd_41_17 (Nat.le_of_ble_eq_true rfl) (Nat.le_of_ble_eq_true rfl) hl.1 (Nat.le_of_ble_eq_true rfl) dX7_digest_226 (fun H locs hI => ?_)
      refine lv_i2l hx hb dX7_digest_229 rfl ?_
      refine lv_ladd hx hb dX7_digest_230 ?_
      refine lv_topl (fun x47 ex47 => ?_)
      have h := ms_ltE ex47 h
      refine lv_lstore_n (lv' := [(1, .long x47), (6, .int (ms_dh (ms_ix y3))), (0, .ref (a 0)), (3, .ref t_DIGEST_HOURS), (4, .int y2), (5, .int y3)]) hx hb dX7_digest_231 rfl hl (by decide) rfl (fun ls hl => ?_)
      refine lv_iinc (v := y3 + 1) (lv' := [(5, .int (y3 + 1)), (1, .long x47), (6, .int (ms_dh (ms_ix y3))), (0, .ref (a 0)), (3, .ref t_DIGEST_HOURS), (4, .int y2)]) hx hb dX7_digest_232 hl (k := 5) rfl rfl (by decide) rfl (fun ls hl => ?_)
      refine lv_goto (tgt := 175) hx hb dX7_digest_235 rfl ?_
      exact ih x47 y2 (y3 + 1) σ46 _ _ _ hI (lv_sub hl [3, 1, 4, 5, 0] rfl) h
set_option maxHeartbeats 4000000 in
set_option maxRecDepth 100000 in
theorem wX7_digest_108 (Cx : ms_C p s m args meth c D cA a shX cX7_digest 7 RX7 (some .long)) {t_SETTING_LEAST t_SETTING_MOST t_DIGEST_HOURS : Nat} (hZ : ms_ZS (ms_A a shX.length) t_SETTING_LEAST t_SETTING_MOST t_DIGEST_HOURS s s.heap) (out : Int64 × Mm) : ∀ (n : Nat), ∀ (y1 : Int64) (y2 : Int32) , ∀ (σ : Mm) (H : Heap) (locs : List Loc) (ls : Array Slot), ms_I D cA a shX s σ H locs → lv_has ls 7 [(0, .ref (a 0)), (1, .long y1), (3, .int y2)] → fX7_digest_108 n y1 y2 σ = some out → W p l e rmX7_digest s m args below meth c H locs 0 0 (MQ below (ms_Ql D cA a shX out.1 out.2) args s 0 0 (ms_A a shX.length)) (F0 m 108 ls []) := by
  have hx := Cx.1
  have hb := Cx.2.1
  obtain ⟨hZ_SETTING_LEAST, hZ_SETTING_MOST, hZ_DIGEST_HOURS⟩ := id hZ
  intro n
  induction n with
  | zero =>
    intro y1 y2 σ H locs ls hI hl h
    exact nomatch (show none = some out from h)
  | succ n ih =>
    intro y1 y2 σ H locs ls hI hl h
    rw [fX7_digest_108] at h
    refine lv_iload_n hx hb dX7_digest_108 rfl (lv_at hl 2 rfl) ?_
    refine lv_aload_n hx hb dX7_digest_109 rfl (lv_at hl 0 rfl) ?_
    refine gr_X7_0 Cx hI wd_1_15 dX7_digest_110 ?_
    refine gi_X4_5 Cx hI wd_40_9 dX7_digest_113 ?_
    refine lv_icmp_ge (tgt := 138) hx hb dX7_digest_116 rfl (fun hc => ?_) (fun hc => ?_)
    · have h := ms_ifT hc h
      refine lv_ldc2 hx hb Cx.2.2.2.1 (Cx.2.2.2.2.1 _ wd_41_8) dX7_digest_138 ?_
      refine lv_lload_n hx hb dX7_digest_141 rfl (lv_at hl 1 rfl) ?_
      refine lv_lmul hx hb dX7_digest_142 ?_
      refine lv_aload_n hx hb dX7_digest_143 rfl (lv_at hl 0 rfl) ?_
      refine lv_iconst (v := 0) hx hb dX7_digest_144 rfl ?_
      obtain ⟨r2, hc1, h⟩ := ms_bdE h
      refine kX7_toil Cx hI hc1 wd_41_15 (Nat.le_of_ble_eq_true rfl) (Nat.le_of_ble_eq_true rfl) hl.1 (Nat.le_of_ble_eq_true rfl) dX7_digest_145 (fun H locs hI => ?_)
      refine lv_i2l hx hb dX7_digest_148 rfl ?_
      refine lv_ladd hx hb dX7_digest_149 ?_
      refine lv_topl (fun x3 ex3 => ?_)
      have h := ms_ltE ex3 h
      refine lv_lstore_n (lv' := [(1, .long x3), (0, .ref (a 0)), (3, .int y2)]) hx hb dX7_digest_150 rfl hl (by decide) rfl (fun ls hl => ?_)
      refine lv_ldc2 hx hb Cx.2.2.2.1 (Cx.2.2.2.2.1 _ wd_41_8) dX7_digest_151 ?_
      refine lv_lload_n hx hb dX7_digest_154 rfl (lv_at hl 0 rfl) ?_
      refine lv_lmul hx hb dX7_digest_155 ?_
      refine lv_aload_n hx hb dX7_digest_156 rfl (lv_at hl 1 rfl) ?_
      refine lv_iconst (v := 1) hx hb dX7_digest_157 rfl ?_
      obtain ⟨r5, hc4, h⟩ := ms_bdE h
      refine kX7_toil Cx hI hc4 wd_41_15 (Nat.le_of_ble_eq_true rfl) (Nat.le_of_ble_eq_true rfl) hl.1 (Nat.le_of_ble_eq_true rfl) dX7_digest_158 (fun H locs hI => ?_)
      refine lv_i2l hx hb dX7_digest_161 rfl ?_
      refine lv_ladd hx hb dX7_digest_162 ?_
      refine lv_topl (fun x6 ex6 => ?_)
      have h := ms_ltE ex6 h
      refine lv_lstore_n (lv' := [(1, .long x6), (0, .ref (a 0)), (3, .int y2)]) hx hb dX7_digest_163 rfl hl (by decide) rfl (fun ls hl => ?_)
      refine ms_gz Cx hZ_DIGEST_HOURS hI wd_41_9 dX7_digest_164 ?_
      refine lv_astore_n (lv' := [(3, .ref t_DIGEST_HOURS), (1, .long x6), (0, .ref (a 0))]) hx hb dX7_digest_167 rfl hl (by decide) rfl (fun ls hl => ?_)
      refine lv_aload_n hx hb dX7_digest_168 rfl (lv_at hl 0 rfl) ?_
      refine ms_zlen Cx hZ_DIGEST_HOURS hI dX7_digest_169 ?_
      refine lv_istore (lv' := [(4, .int 5), (3, .ref t_DIGEST_HOURS), (1, .long x6), (0, .ref (a 0))]) hx hb dX7_digest_170 hl (by decide) rfl (fun ls hl => ?_)
      refine lv_iconst (v := 0) hx hb dX7_digest_172 rfl ?_
      refine lv_istore (lv' := [(5, .int 0), (4, .int 5), (3, .ref t_DIGEST_HOURS), (1, .long x6), (0, .ref (a 0))]) hx hb dX7_digest_173 hl (by decide) rfl (fun ls hl => ?_)
      exact wX7_digest_175 Cx hZ out  ms_fu x6 5 0 σ _ _ _ hI (lv_sub hl [4, 3, 2, 1, 0] rfl) h
    · have h := ms_ifF hc h
      refine lv_ldc2 hx hb Cx.2.2.2.1 (Cx.2.2.2.2.1 _ wd_41_8) dX7_digest_119 ?_
      refine lv_lload_n hx hb dX7_digest_122 rfl (lv_at hl 1 rfl) ?_
      refine lv_lmul hx hb dX7_digest_123 ?_
      refine lv_aload_n hx hb dX7_digest_124 rfl (lv_at hl 0 rfl) ?_
      refine lv_iload_n hx hb dX7_digest_125 rfl (lv_at hl 2 rfl) ?_
      obtain ⟨r8, hc7, h⟩ := ms_bdE h
      refine kX7_goes Cx hI hc7 wd_41_14 (Nat.le_of_ble_eq_true rfl) (Nat.le_of_ble_eq_true rfl) hl.1 (Nat.le_of_ble_eq_true rfl) dX7_digest_126 (fun H locs hI => ?_)
      refine lv_i2l hx hb dX7_digest_129 rfl ?_
      refine lv_ladd hx hb dX7_digest_130 ?_
      refine lv_topl (fun x9 ex9 => ?_)
      have h := ms_ltE ex9 h
      refine lv_lstore_n (lv' := [(1, .long x9), (0, .ref (a 0)), (3, .int y2)]) hx hb dX7_digest_131 rfl hl (by decide) rfl (fun ls hl => ?_)
      refine lv_iinc (v := y2 + 1) (lv' := [(3, .int (y2 + 1)), (1, .long x9), (0, .ref (a 0))]) hx hb dX7_digest_132 hl (k := 2) rfl rfl (by decide) rfl (fun ls hl => ?_)
      refine lv_goto (tgt := 108) hx hb dX7_digest_135 rfl ?_
      exact ih x9 (y2 + 1) σ _ _ _ hI (lv_sub hl [2, 1, 0] rfl) h
set_option maxHeartbeats 4000000 in
set_option maxRecDepth 100000 in
theorem wX7_digest_45 (Cx : ms_C p s m args meth c D cA a shX cX7_digest 7 RX7 (some .long)) {t_SETTING_LEAST t_SETTING_MOST t_DIGEST_HOURS : Nat} (hZ : ms_ZS (ms_A a shX.length) t_SETTING_LEAST t_SETTING_MOST t_DIGEST_HOURS s s.heap) (out : Int64 × Mm) : ∀ (n : Nat), ∀ (y1 : Int64) (y2 : Int32) , ∀ (σ : Mm) (H : Heap) (locs : List Loc) (ls : Array Slot), ms_I D cA a shX s σ H locs → lv_has ls 7 [(0, .ref (a 0)), (1, .long y1), (3, .int y2)] → fX7_digest_45 n y1 y2 σ = some out → W p l e rmX7_digest s m args below meth c H locs 0 0 (MQ below (ms_Ql D cA a shX out.1 out.2) args s 0 0 (ms_A a shX.length)) (F0 m 45 ls []) := by
  have hx := Cx.1
  have hb := Cx.2.1
  obtain ⟨hZ_SETTING_LEAST, hZ_SETTING_MOST, hZ_DIGEST_HOURS⟩ := id hZ
  intro n
  induction n with
  | zero =>
    intro y1 y2 σ H locs ls hI hl h
    exact nomatch (show none = some out from h)
  | succ n ih =>
    intro y1 y2 σ H locs ls hI hl h
    rw [fX7_digest_45] at h
    refine lv_iload_n hx hb dX7_digest_45 rfl (lv_at hl 2 rfl) ?_
    refine lv_aload_n hx hb dX7_digest_46 rfl (lv_at hl 0 rfl) ?_
    refine gr_X7_0 Cx hI wd_1_15 dX7_digest_47 ?_
    refine gi_X4_4 Cx hI wd_21_11 dX7_digest_50 ?_
    refine lv_icmp_ge (tgt := 106) hx hb dX7_digest_53 rfl (fun hc => ?_) (fun hc => ?_)
    · have h := ms_ifT hc h
      refine lv_iconst (v := 0) hx hb dX7_digest_106 rfl ?_
      refine lv_istore_n (lv' := [(3, .int 0), (0, .ref (a 0)), (1, .long y1)]) hx hb dX7_digest_107 rfl hl (by decide) rfl (fun ls hl => ?_)
      exact wX7_digest_108 Cx hZ out  ms_fu y1 0 σ _ _ _ hI (lv_sub hl [1, 2, 0] rfl) h
    · have h := ms_ifF hc h
      refine lv_iconst (v := 0) hx hb dX7_digest_56 rfl ?_
      refine lv_istore (lv' := [(4, .int 0), (0, .ref (a 0)), (1, .long y1), (3, .int y2)]) hx hb dX7_digest_57 hl (by decide) rfl (fun ls hl => ?_)
      exact wX7_digest_59 Cx hZ out (fX7_digest_45 n) ih ms_fu y1 y2 0 σ _ _ _ hI (lv_sub hl [1, 2, 3, 0] rfl) h
set_option maxHeartbeats 4000000 in
set_option maxRecDepth 100000 in
theorem wX7_digest_6 (Cx : ms_C p s m args meth c D cA a shX cX7_digest 7 RX7 (some .long)) {t_SETTING_LEAST t_SETTING_MOST t_DIGEST_HOURS : Nat} (hZ : ms_ZS (ms_A a shX.length) t_SETTING_LEAST t_SETTING_MOST t_DIGEST_HOURS s s.heap) (out : Int64 × Mm) : ∀ (n : Nat), ∀ (y1 : Int64) (y2 : Int32) , ∀ (σ : Mm) (H : Heap) (locs : List Loc) (ls : Array Slot), ms_I D cA a shX s σ H locs → lv_has ls 7 [(0, .ref (a 0)), (1, .long y1), (3, .int y2)] → fX7_digest_6 n y1 y2 σ = some out → W p l e rmX7_digest s m args below meth c H locs 0 0 (MQ below (ms_Ql D cA a shX out.1 out.2) args s 0 0 (ms_A a shX.length)) (F0 m 6 ls []) := by
  have hx := Cx.1
  have hb := Cx.2.1
  obtain ⟨hZ_SETTING_LEAST, hZ_SETTING_MOST, hZ_DIGEST_HOURS⟩ := id hZ
  intro n
  induction n with
  | zero =>
    intro y1 y2 σ H locs ls hI hl h
    exact nomatch (show none = some out from h)
  | succ n ih =>
    intro y1 y2 σ H locs ls hI hl h
    rw [fX7_digest_6] at h
    refine lv_iload_n hx hb dX7_digest_6 rfl (lv_at hl 2 rfl) ?_
    refine lv_bipush (v := 7) hx hb dX7_digest_7 rfl ?_
    refine lv_icmp_gt (tgt := 31) hx hb dX7_digest_9 rfl (fun hc => ?_) (fun hc => ?_)
    · have h := ms_ifT hc h
      refine lv_ldc2 hx hb Cx.2.2.2.1 (Cx.2.2.2.2.1 _ wd_41_8) dX7_digest_31 ?_
      refine lv_lload_n hx hb dX7_digest_34 rfl (lv_at hl 1 rfl) ?_
      refine lv_lmul hx hb dX7_digest_35 ?_
      refine lv_aload_n hx hb dX7_digest_36 rfl (lv_at hl 0 rfl) ?_
      obtain ⟨r2, hc1, h⟩ := ms_bdE h
      refine kX7_fault Cx hI hc1 wd_41_11 (Nat.le_of_ble_eq_true rfl) (Nat.le_of_ble_eq_true rfl) hl.1 (Nat.le_of_ble_eq_true rfl) dX7_digest_37 (fun H locs hI => ?_)
      refine lv_i2l hx hb dX7_digest_40 rfl ?_
      refine lv_ladd hx hb dX7_digest_41 ?_
      refine lv_topl (fun x3 ex3 => ?_)
      have h := ms_ltE ex3 h
      refine lv_lstore_n (lv' := [(1, .long x3), (0, .ref (a 0)), (3, .int y2)]) hx hb dX7_digest_42 rfl hl (by decide) rfl (fun ls hl => ?_)
      refine lv_iconst (v := 0) hx hb dX7_digest_43 rfl ?_
      refine lv_istore_n (lv' := [(3, .int 0), (1, .long x3), (0, .ref (a 0))]) hx hb dX7_digest_44 rfl hl (by decide) rfl (fun ls hl => ?_)
      exact wX7_digest_45 Cx hZ out  ms_fu x3 0 σ _ _ _ hI (lv_sub hl [2, 1, 0] rfl) h
    · have h := ms_ifF hc h
      refine lv_ldc2 hx hb Cx.2.2.2.1 (Cx.2.2.2.2.1 _ wd_41_8) dX7_digest_12 ?_
      refine lv_lload_n hx hb dX7_digest_15 rfl (lv_at hl 1 rfl) ?_
      refine lv_lmul hx hb dX7_digest_16 ?_
      refine lv_aload_n hx hb dX7_digest_17 rfl (lv_at hl 0 rfl) ?_
      refine lv_iload_n hx hb dX7_digest_18 rfl (lv_at hl 2 rfl) ?_
      obtain ⟨r5, hc4, h⟩ := ms_bdE h
      refine kX7_count Cx hI hc4 wd_41_10 (Nat.le_of_ble_eq_true rfl) (Nat.le_of_ble_eq_true rfl) hl.1 (Nat.le_of_ble_eq_true rfl) dX7_digest_19 (fun H locs hI => ?_)
      refine lv_i2l hx hb dX7_digest_22 rfl ?_
      refine lv_ladd hx hb dX7_digest_23 ?_
      refine lv_topl (fun x6 ex6 => ?_)
      have h := ms_ltE ex6 h
      refine lv_lstore_n (lv' := [(1, .long x6), (0, .ref (a 0)), (3, .int y2)]) hx hb dX7_digest_24 rfl hl (by decide) rfl (fun ls hl => ?_)
      refine lv_iinc (v := y2 + 1) (lv' := [(3, .int (y2 + 1)), (1, .long x6), (0, .ref (a 0))]) hx hb dX7_digest_25 hl (k := 2) rfl rfl (by decide) rfl (fun ls hl => ?_)
      refine lv_goto (tgt := 6) hx hb dX7_digest_28 rfl ?_
      exact ih x6 (y2 + 1) σ _ _ _ hI (lv_sub hl [2, 1, 0] rfl) h
set_option maxHeartbeats 4000000 in
set_option maxRecDepth 100000 in
theorem wX7_digest (Cx : ms_C p s m args meth c D cA a shX cX7_digest 7 RX7 (some .long)) {t_SETTING_LEAST t_SETTING_MOST t_DIGEST_HOURS : Nat} (hZ : ms_ZS (ms_A a shX.length) t_SETTING_LEAST t_SETTING_MOST t_DIGEST_HOURS s s.heap) (out : Int64 × Mm) : ∀ (σ : Mm) (H : Heap) (locs : List Loc) (ls : Array Slot), ms_I D cA a shX s σ H locs → lv_has ls 7 [(0, .ref (a 0))] → fX7_digest σ = some out → W p l e rmX7_digest s m args below meth c H locs 0 0 (MQ below (ms_Ql D cA a shX out.1 out.2) args s 0 0 (ms_A a shX.length)) (F0 m 0 ls []) := by
  have hx := Cx.1
  have hb := Cx.2.1
  obtain ⟨hZ_SETTING_LEAST, hZ_SETTING_MOST, hZ_DIGEST_HOURS⟩ := id hZ
  intro σ H locs ls hI hl h
  unfold fX7_digest at h
  refine lv_ldc2 hx hb Cx.2.2.2.1 (Cx.2.2.2.2.1 _ wd_41_7) dX7_digest_0 ?_
  refine lv_lstore_n (lv' := [(1, .long 17), (0, .ref (a 0))]) hx hb dX7_digest_3 rfl hl (by decide) rfl (fun ls hl => ?_)
  refine lv_iconst (v := 0) hx hb dX7_digest_4 rfl ?_
  refine lv_istore_n (lv' := [(3, .int 0), (1, .long 17), (0, .ref (a 0))]) hx hb dX7_digest_5 rfl hl (by decide) rfl (fun ls hl => ?_)
  exact wX7_digest_6 Cx hZ out  ms_fu 17 0 σ _ _ _ hI (lv_sub hl [2, 1, 0] rfl) h
theorem yvX7_digest : ms_YV yX7_digest RX7 cX7_digest 7 (some .long) 0 := ⟨wd_41_4, wd_41_5, wd_1_2, wd_41_6, rfl, by decide +kernel, by decide +kernel, by decide +kernel⟩
set_option maxHeartbeats 4000000 in
theorem metX7_digest (l : Launch) (hDis : ms_Dis a shX.length) {σ : Mm} {out : Int64 × Mm} (h : fX7_digest σ = some out) : Met l yX7_digest (.code yX7_digest cX7_digest 7 (some .long) :: wsL_law) rmX7_digest (ms_PcZ D cA a shX [.ref (a 0)] σ) (ms_Ql D cA a shX out.1 out.2) 0 0 (ms_A a shX.length) := by
  refine Met.ofW (cc := cX7_digest) (maxL := 7) (ret := (some .long)) (by decide) rfl ?_
  intro p e s m args below meth c s₁ B hml hv
  obtain ⟨rfl, hK, hN, hP, t1, t2, t3, hZ⟩ := hv
  have hl := lv_entry ([.ref (a 0)]) (n := 7) (Nat.le_of_ble_eq_true rfl)
  rw [lg_entry_eq]
  generalize (lg_sl ([.ref (a 0)]) ++ List.replicate (7 - (lg_sl ([.ref (a 0)])).length) Slot.unset).toArray = ls at hl ⊢
  exact wX7_digest ⟨B.exec, B.bytes, hml, findClass_of_methodNamed B.named, fun w hw => atoms_spec (ws := .code yX7_digest cX7_digest 7 (some .long) :: wsL_law) B.pre w (List.mem_cons_of_mem _ hw), B.returns, B.notSynchronized, hK, hDis, hN⟩ hZ out σ s.heap [] ls ⟨hP, va_S.rf⟩ hl h
end WK
