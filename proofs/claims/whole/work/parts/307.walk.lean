section WK
variable {p : Program} {l : Launch} {e : Env} {R : Room} {s : State} {m : MethodId} {args : Array Value} {below : List Frame} {meth : Method} {c : Code} {Q : State → Prop}
variable {D : va_G} {cA : Nat → ClassId} {a : Nat → Nat} {cc : ByteArray} {nL idx : Nat} {own : String} {ret : Option FieldType} {pc : Nat} {ls : Array Slot} {rest : List Value}
/-! X8 faultNow ()I -/
theorem dX8_faultNow_0 : decode cX8_faultNow 0 = .ok (.aload_n 0, 1) := by decide +kernel
theorem dX8_faultNow_1 : decode cX8_faultNow 1 = .ok (.invokevirtual 136, 3) := by decide +kernel
theorem dX8_faultNow_4 : decode cX8_faultNow 4 = .ok (.istore_n 1, 1) := by decide +kernel
theorem dX8_faultNow_5 : decode cX8_faultNow 5 = .ok (.iload_n 1, 1) := by decide +kernel
theorem dX8_faultNow_6 : decode cX8_faultNow 6 = .ok (.iconst (-1), 1) := by decide +kernel
theorem dX8_faultNow_7 : decode cX8_faultNow 7 = .ok (.if_icmp .eq 18, 3) := by decide +kernel
theorem dX8_faultNow_10 : decode cX8_faultNow 10 = .ok (.aload_n 0, 1) := by decide +kernel
theorem dX8_faultNow_11 : decode cX8_faultNow 11 = .ok (.iconst 0, 1) := by decide +kernel
theorem dX8_faultNow_12 : decode cX8_faultNow 12 = .ok (.putfield 117, 3) := by decide +kernel
theorem dX8_faultNow_15 : decode cX8_faultNow 15 = .ok (.aload_n 0, 1) := by decide +kernel
theorem dX8_faultNow_16 : decode cX8_faultNow 16 = .ok (.iconst 0, 1) := by decide +kernel
theorem dX8_faultNow_17 : decode cX8_faultNow 17 = .ok (.putfield 120, 3) := by decide +kernel
theorem dX8_faultNow_20 : decode cX8_faultNow 20 = .ok (.aload_n 0, 1) := by decide +kernel
theorem dX8_faultNow_21 : decode cX8_faultNow 21 = .ok (.iconst 0, 1) := by decide +kernel
theorem dX8_faultNow_22 : decode cX8_faultNow 22 = .ok (.putfield 123, 3) := by decide +kernel
theorem dX8_faultNow_25 : decode cX8_faultNow 25 = .ok (.iload_n 1, 1) := by decide +kernel
theorem dX8_faultNow_26 : decode cX8_faultNow 26 = .ok (.ireturn, 1) := by decide +kernel
abbrev rmX8_faultNow : Room := { frames := 6, cells := 0, slots := 0, locals := 135 }
set_option maxHeartbeats 4000000 in
set_option maxRecDepth 100000 in
theorem wX8_faultNow (Cx : ms_C p s m args meth c D cA a shM cX8_faultNow 2 RX8 (some .int)) (out : Int32 × Mm) : ∀ (σ : Mm) (H : Heap) (locs : List Loc) (ls : Array Slot), ms_I D cA a shM s σ H locs → lv_has ls 2 [(0, .ref (a 0))] → fX8_faultNow σ = some out → W p l e rmX8_faultNow s m args below meth c H locs 0 0 (MQ below (ms_Qi D cA a shM out.1 out.2) args s 0 0 (ms_A a shM.length)) (F0 m 0 ls []) := by
  have hx := Cx.1
  have hb := Cx.2.1
  intro σ H locs ls hI hl h
  unfold fX8_faultNow at h
  refine lv_aload_n hx hb dX8_faultNow_0 rfl (lv_at hl 0 rfl) ?_
  obtain ⟨⟨r2, σ3⟩, hc1, h⟩ := ms_bdE h
  refine kX8_reads Cx hI hc1 wd_11_23 (Nat.le_of_ble_eq_true rfl) (Nat.le_of_ble_eq_true rfl) hl.1 (Nat.le_of_ble_eq_true rfl) dX8_faultNow_1 (fun H locs hI => ?_)
  refine lv_istore_n (lv' := [(1, .int r2), (0, .ref (a 0))]) hx hb dX8_faultNow_4 rfl hl (by decide) rfl (fun ls hl => ?_)
  refine lv_iload_n hx hb dX8_faultNow_5 rfl (lv_at hl 0 rfl) ?_
  refine lv_iconst (v := -1) hx hb dX8_faultNow_6 rfl ?_
  refine lv_icmp_eq (tgt := 25) hx hb dX8_faultNow_7 rfl (fun hc => ?_) (fun hc => ?_)
  · have h := ms_ifT hc h
    refine lv_iload_n hx hb dX8_faultNow_25 rfl (lv_at hl 0 rfl) ?_
    exact ms_riw Cx hI h dX8_faultNow_26
  · have h := ms_ifF hc h
    refine lv_aload_n hx hb dX8_faultNow_10 rfl (lv_at hl 1 rfl) ?_
    refine lv_iconst (v := 0) hx hb dX8_faultNow_11 rfl ?_
    refine pi_X8_3 Cx hI wd_11_20 dX8_faultNow_12 (fun H locs σ4 eσ4 hI => ?_)
    have h := ms_ltE eσ4 h
    refine lv_aload_n hx hb dX8_faultNow_15 rfl (lv_at hl 1 rfl) ?_
    refine lv_iconst (v := 0) hx hb dX8_faultNow_16 rfl ?_
    refine pi_X8_10 Cx hI wd_11_21 dX8_faultNow_17 (fun H locs σ5 eσ5 hI => ?_)
    have h := ms_ltE eσ5 h
    refine lv_aload_n hx hb dX8_faultNow_20 rfl (lv_at hl 1 rfl) ?_
    refine lv_iconst (v := 0) hx hb dX8_faultNow_21 rfl ?_
    refine pi_X8_11 Cx hI wd_11_22 dX8_faultNow_22 (fun H locs σ6 eσ6 hI => ?_)
    have h := ms_ltE eσ6 h
    refine lv_iload_n hx hb dX8_faultNow_25 rfl (lv_at hl 0 rfl) ?_
    exact ms_riw Cx hI h dX8_faultNow_26
theorem yvX8_faultNow : ms_YV yX8_faultNow RX8 cX8_faultNow 2 (some .int) 0 := ⟨wd_11_17, wd_11_18, wd_1_5, wd_11_19, rfl, by decide +kernel, by decide +kernel, by decide +kernel⟩
set_option maxHeartbeats 4000000 in
theorem metX8_faultNow (l : Launch) (hDis : ms_Dis a shM.length) {σ : Mm} {out : Int32 × Mm} (h : fX8_faultNow σ = some out) : Met l yX8_faultNow (.code yX8_faultNow cX8_faultNow 2 (some .int) :: wsL_law) rmX8_faultNow (ms_Pc D cA a shM [.ref (a 0)] σ) (ms_Qi D cA a shM out.1 out.2) 0 0 (ms_A a shM.length) := by
  refine Met.ofW (cc := cX8_faultNow) (maxL := 2) (ret := (some .int)) (by decide) rfl ?_
  intro p e s m args below meth c s₁ B hml hv
  obtain ⟨rfl, hK, hN, hP⟩ := hv
  have hl := lv_entry ([.ref (a 0)]) (n := 2) (Nat.le_of_ble_eq_true rfl)
  rw [lg_entry_eq]
  generalize (lg_sl ([.ref (a 0)]) ++ List.replicate (2 - (lg_sl ([.ref (a 0)])).length) Slot.unset).toArray = ls at hl ⊢
  exact wX8_faultNow ⟨B.exec, B.bytes, hml, findClass_of_methodNamed B.named, fun w hw => atoms_spec (ws := .code yX8_faultNow cX8_faultNow 2 (some .int) :: wsL_law) B.pre w (List.mem_cons_of_mem _ hw), B.returns, B.notSynchronized, hK, hDis, hN⟩ out σ s.heap [] ls ⟨hP, va_S.rf⟩ hl h
theorem kX8_faultNow (Cx : ms_C p s m args meth c D cA a shM cc nL own ret) {σ : Mm} {H : Heap} {locs : List Loc} (hI : ms_I D cA a shM s σ H locs) {out : Int32 × Mm} (h : fX8_faultNow σ = some out) (hl : Cond.methodLink own idx yX8_faultNow ∈ wsL_law) (hf : 6 + 1 ≤ R.frames) (hlo : 8 + (2 + 11) + 135 ≤ R.locals) (hsz : ls.size = nL) (hW : (rest.map fun v => v.category).sum ≤ 8) (hd : decode cc pc = .ok (.invokevirtual idx, 3)) (kk : ∀ (H1 : Heap) (locs1 : List Loc), ms_I D cA a shM s out.2 H1 locs1 → W p l e R s m args below meth c H1 locs1 0 0 Q (F0 m (pc + 3) ls (.int out.1 :: rest))) : W p l e R s m args below meth c H locs 0 0 Q (F0 m pc ls (.ref (a 0) :: rest)) :=
  ms_ci hI (ms_runV (av := []) Cx hI 0 shM_0 (ci := 8) rfl rfl yvX8_faultNow (metX8_faultNow l Cx.2.2.2.2.2.2.2.2.1  h) ⟨rfl, rfl⟩ hl ⟨hf, hlo⟩ rfl hsz rfl hW ⟨Nat.zero_le _, Nat.zero_le _⟩ hd) kk
/-! X8 fault ()I -/
theorem dX8_fault_0 : decode cX8_fault 0 = .ok (.aload_n 0, 1) := by decide +kernel
theorem dX8_fault_1 : decode cX8_fault 1 = .ok (.invokevirtual 140, 3) := by decide +kernel
theorem dX8_fault_4 : decode cX8_fault 4 = .ok (.ireturn, 1) := by decide +kernel
abbrev rmX8_fault : Room := { frames := 7, cells := 0, slots := 0, locals := 156 }
set_option maxHeartbeats 4000000 in
set_option maxRecDepth 100000 in
theorem wX8_fault (Cx : ms_C p s m args meth c D cA a shM cX8_fault 1 RX8 (some .int)) (out : Int32 × Mm) : ∀ (σ : Mm) (H : Heap) (locs : List Loc) (ls : Array Slot), ms_I D cA a shM s σ H locs → lv_has ls 1 [(0, .ref (a 0))] → fX8_fault σ = some out → W p l e rmX8_fault s m args below meth c H locs 0 0 (MQ below (ms_Qi D cA a shM out.1 out.2) args s 0 0 (ms_A a shM.length)) (F0 m 0 ls []) := by
  have hx := Cx.1
  have hb := Cx.2.1
  intro σ H locs ls hI hl h
  unfold fX8_fault at h
  refine lv_aload_n hx hb dX8_fault_0 rfl (lv_at hl 0 rfl) ?_
  obtain ⟨⟨r2, σ3⟩, hc1, h⟩ := ms_bdE h
  refine kX8_faultNow Cx hI hc1 wd_11_16 (Nat.le_of_ble_eq_true rfl) (Nat.le_of_ble_eq_true rfl) hl.1 (Nat.le_of_ble_eq_true rfl) dX8_fault_1 (fun H locs hI => ?_)
  exact ms_riw Cx hI h dX8_fault_4
theorem yvX8_fault : ms_YV yX8_fault RX8 cX8_fault 1 (some .int) 0 := ⟨wd_11_13, wd_11_14, wd_1_5, wd_11_15, rfl, by decide +kernel, by decide +kernel, by decide +kernel⟩
set_option maxHeartbeats 4000000 in
theorem metX8_fault (l : Launch) (hDis : ms_Dis a shM.length) {σ : Mm} {out : Int32 × Mm} (h : fX8_fault σ = some out) : Met l yX8_fault (.code yX8_fault cX8_fault 1 (some .int) :: wsL_law) rmX8_fault (ms_Pc D cA a shM [.ref (a 0)] σ) (ms_Qi D cA a shM out.1 out.2) 0 0 (ms_A a shM.length) := by
  refine Met.ofW (cc := cX8_fault) (maxL := 1) (ret := (some .int)) (by decide) rfl ?_
  intro p e s m args below meth c s₁ B hml hv
  obtain ⟨rfl, hK, hN, hP⟩ := hv
  have hl := lv_entry ([.ref (a 0)]) (n := 1) (Nat.le_of_ble_eq_true rfl)
  rw [lg_entry_eq]
  generalize (lg_sl ([.ref (a 0)]) ++ List.replicate (1 - (lg_sl ([.ref (a 0)])).length) Slot.unset).toArray = ls at hl ⊢
  exact wX8_fault ⟨B.exec, B.bytes, hml, findClass_of_methodNamed B.named, fun w hw => atoms_spec (ws := .code yX8_fault cX8_fault 1 (some .int) :: wsL_law) B.pre w (List.mem_cons_of_mem _ hw), B.returns, B.notSynchronized, hK, hDis, hN⟩ out σ s.heap [] ls ⟨hP, va_S.rf⟩ hl h
theorem kX8_fault (Cx : ms_C p s m args meth c D cA a shM cc nL own ret) {σ : Mm} {H : Heap} {locs : List Loc} (hI : ms_I D cA a shM s σ H locs) {out : Int32 × Mm} (h : fX8_fault σ = some out) (hl : Cond.methodLink own idx yX8_fault ∈ wsL_law) (hf : 7 + 1 ≤ R.frames) (hlo : 8 + (1 + 11) + 156 ≤ R.locals) (hsz : ls.size = nL) (hW : (rest.map fun v => v.category).sum ≤ 8) (hd : decode cc pc = .ok (.invokevirtual idx, 3)) (kk : ∀ (H1 : Heap) (locs1 : List Loc), ms_I D cA a shM s out.2 H1 locs1 → W p l e R s m args below meth c H1 locs1 0 0 Q (F0 m (pc + 3) ls (.int out.1 :: rest))) : W p l e R s m args below meth c H locs 0 0 Q (F0 m pc ls (.ref (a 0) :: rest)) :=
  ms_ci hI (ms_runV (av := []) Cx hI 0 shM_0 (ci := 8) rfl rfl yvX8_fault (metX8_fault l Cx.2.2.2.2.2.2.2.2.1  h) ⟨rfl, rfl⟩ hl ⟨hf, hlo⟩ rfl hsz rfl hW ⟨Nat.zero_le _, Nat.zero_le _⟩ hd) kk
/-! X8 isThing (I)Z -/
theorem dX8_isThing_0 : decode cX8_isThing 0 = .ok (.aload_n 0, 1) := by decide +kernel
theorem dX8_isThing_1 : decode cX8_isThing 1 = .ok (.invokevirtual 140, 3) := by decide +kernel
theorem dX8_isThing_4 : decode cX8_isThing 4 = .ok (.istore_n 2, 1) := by decide +kernel
theorem dX8_isThing_5 : decode cX8_isThing 5 = .ok (.iload_n 1, 1) := by decide +kernel
theorem dX8_isThing_6 : decode cX8_isThing 6 = .ok (.iconst 0, 1) := by decide +kernel
theorem dX8_isThing_7 : decode cX8_isThing 7 = .ok (.aload_n 0, 1) := by decide +kernel
theorem dX8_isThing_8 : decode cX8_isThing 8 = .ok (.getfield 117, 3) := by decide +kernel
theorem dX8_isThing_11 : decode cX8_isThing 11 = .ok (.iconst 1, 1) := by decide +kernel
theorem dX8_isThing_12 : decode cX8_isThing 12 = .ok (.isub, 1) := by decide +kernel
theorem dX8_isThing_13 : decode cX8_isThing 13 = .ok (.invokestatic 95, 3) := by decide +kernel
theorem dX8_isThing_16 : decode cX8_isThing 16 = .ok (.ireturn, 1) := by decide +kernel
abbrev rmX8_isThing : Room := { frames := 7, cells := 0, slots := 0, locals := 156 }
set_option maxHeartbeats 4000000 in
set_option maxRecDepth 100000 in
theorem wX8_isThing (Cx : ms_C p s m args meth c D cA a shM cX8_isThing 3 RX8 (some .boolean)) (out : Int32 × Mm) : ∀ (p0 : Int32) , ∀ (σ : Mm) (H : Heap) (locs : List Loc) (ls : Array Slot), ms_I D cA a shM s σ H locs → lv_has ls 3 [(0, .ref (a 0)), (1, .int p0)] → fX8_isThing p0 σ = some out → W p l e rmX8_isThing s m args below meth c H locs 0 0 (MQ below (ms_Qi D cA a shM out.1 out.2) args s 0 0 (ms_A a shM.length)) (F0 m 0 ls []) := by
  have hx := Cx.1
  have hb := Cx.2.1
  intro p0 σ H locs ls hI hl h
  unfold fX8_isThing at h
  refine lv_aload_n hx hb dX8_isThing_0 rfl (lv_at hl 0 rfl) ?_
  obtain ⟨⟨r2, σ3⟩, hc1, h⟩ := ms_bdE h
  refine kX8_faultNow Cx hI hc1 wd_11_16 (Nat.le_of_ble_eq_true rfl) (Nat.le_of_ble_eq_true rfl) hl.1 (Nat.le_of_ble_eq_true rfl) dX8_isThing_1 (fun H locs hI => ?_)
  refine lv_istore_n (lv' := [(2, .int r2), (0, .ref (a 0)), (1, .int p0)]) hx hb dX8_isThing_4 rfl hl (by decide) rfl (fun ls hl => ?_)
  refine lv_iload_n hx hb dX8_isThing_5 rfl (lv_at hl 2 rfl) ?_
  refine lv_iconst (v := 0) hx hb dX8_isThing_6 rfl ?_
  refine lv_aload_n hx hb dX8_isThing_7 rfl (lv_at hl 1 rfl) ?_
  refine gi_X8_3 Cx hI wd_11_20 dX8_isThing_8 ?_
  refine lv_iconst (v := 1) hx hb dX8_isThing_11 rfl ?_
  refine lv_isub hx hb dX8_isThing_12 ?_
  obtain ⟨r5, hc4, h⟩ := ms_bdE h
  refine kX8_in Cx hI hc4 (Or.inl wd_10_20) (Nat.le_of_ble_eq_true rfl) (Nat.le_of_ble_eq_true rfl) hl.1 (Nat.le_of_ble_eq_true rfl) dX8_isThing_13 (fun H locs hI => ?_)
  obtain ⟨hg, h⟩ := ms_gE h
  exact ms_rzw Cx hI hg h dX8_isThing_16
theorem yvX8_isThing : ms_YV yX8_isThing RX8 cX8_isThing 3 (some .boolean) 1 := ⟨wd_14_0, wd_14_1, wd_1_5, wd_14_2, rfl, by decide +kernel, by decide +kernel, by decide +kernel⟩
set_option maxHeartbeats 4000000 in
theorem metX8_isThing (l : Launch) (hDis : ms_Dis a shM.length) {σ : Mm} {p0 : Int32} {out : Int32 × Mm} (h : fX8_isThing p0 σ = some out) : Met l yX8_isThing (.code yX8_isThing cX8_isThing 3 (some .boolean) :: wsL_law) rmX8_isThing (ms_Pc D cA a shM [.ref (a 0), .int p0] σ) (ms_Qi D cA a shM out.1 out.2) 0 0 (ms_A a shM.length) := by
  refine Met.ofW (cc := cX8_isThing) (maxL := 3) (ret := (some .boolean)) (by decide) rfl ?_
  intro p e s m args below meth c s₁ B hml hv
  obtain ⟨rfl, hK, hN, hP⟩ := hv
  have hl := lv_entry ([.ref (a 0), .int p0]) (n := 3) (Nat.le_of_ble_eq_true rfl)
  rw [lg_entry_eq]
  generalize (lg_sl ([.ref (a 0), .int p0]) ++ List.replicate (3 - (lg_sl ([.ref (a 0), .int p0])).length) Slot.unset).toArray = ls at hl ⊢
  exact wX8_isThing ⟨B.exec, B.bytes, hml, findClass_of_methodNamed B.named, fun w hw => atoms_spec (ws := .code yX8_isThing cX8_isThing 3 (some .boolean) :: wsL_law) B.pre w (List.mem_cons_of_mem _ hw), B.returns, B.notSynchronized, hK, hDis, hN⟩ out p0 σ s.heap [] ls ⟨hP, va_S.rf⟩ hl h
theorem kX8_isThing (Cx : ms_C p s m args meth c D cA a shM cc nL own ret) {σ : Mm} {H : Heap} {locs : List Loc} (hI : ms_I D cA a shM s σ H locs) {p0 : Int32} {out : Int32 × Mm} (h : fX8_isThing p0 σ = some out) (hl : Cond.methodLink own idx yX8_isThing ∈ wsL_law) (hf : 7 + 1 ≤ R.frames) (hlo : 8 + (3 + 11) + 156 ≤ R.locals) (hsz : ls.size = nL) (hW : (rest.map fun v => v.category).sum ≤ 8) (hd : decode cc pc = .ok (.invokevirtual idx, 3)) (kk : ∀ (H1 : Heap) (locs1 : List Loc), ms_I D cA a shM s out.2 H1 locs1 → W p l e R s m args below meth c H1 locs1 0 0 Q (F0 m (pc + 3) ls (.int out.1 :: rest))) : W p l e R s m args below meth c H locs 0 0 Q (F0 m pc ls (.int p0 :: .ref (a 0) :: rest)) :=
  ms_ci hI (ms_runV (av := [.int p0]) Cx hI 0 shM_0 (ci := 8) rfl rfl yvX8_isThing (metX8_isThing l Cx.2.2.2.2.2.2.2.2.1  h) ⟨rfl, rfl⟩ hl ⟨hf, hlo⟩ rfl hsz rfl hW ⟨Nat.zero_le _, Nat.zero_le _⟩ hd) kk
/-! X8 thingOf (II)I -/
theorem dX8_thingOf_0 : decode cX8_thingOf 0 = .ok (.iload_n 2, 1) := by decide +kernel
theorem dX8_thingOf_1 : decode cX8_thingOf 1 = .ok (.ifCond .ne 12, 3) := by decide +kernel
theorem dX8_thingOf_4 : decode cX8_thingOf 4 = .ok (.aload_n 0, 1) := by decide +kernel
theorem dX8_thingOf_5 : decode cX8_thingOf 5 = .ok (.getfield 16, 3) := by decide +kernel
theorem dX8_thingOf_8 : decode cX8_thingOf 8 = .ok (.iload_n 1, 1) := by decide +kernel
theorem dX8_thingOf_9 : decode cX8_thingOf 9 = .ok (.iaload, 1) := by decide +kernel
theorem dX8_thingOf_10 : decode cX8_thingOf 10 = .ok (.goto 65, 3) := by decide +kernel
theorem dX8_thingOf_13 : decode cX8_thingOf 13 = .ok (.iload_n 2, 1) := by decide +kernel
theorem dX8_thingOf_14 : decode cX8_thingOf 14 = .ok (.iconst 1, 1) := by decide +kernel
theorem dX8_thingOf_15 : decode cX8_thingOf 15 = .ok (.if_icmp .ne 12, 3) := by decide +kernel
theorem dX8_thingOf_18 : decode cX8_thingOf 18 = .ok (.aload_n 0, 1) := by decide +kernel
theorem dX8_thingOf_19 : decode cX8_thingOf 19 = .ok (.getfield 19, 3) := by decide +kernel
theorem dX8_thingOf_22 : decode cX8_thingOf 22 = .ok (.iload_n 1, 1) := by decide +kernel
theorem dX8_thingOf_23 : decode cX8_thingOf 23 = .ok (.iaload, 1) := by decide +kernel
theorem dX8_thingOf_24 : decode cX8_thingOf 24 = .ok (.goto 51, 3) := by decide +kernel
theorem dX8_thingOf_27 : decode cX8_thingOf 27 = .ok (.iload_n 2, 1) := by decide +kernel
theorem dX8_thingOf_28 : decode cX8_thingOf 28 = .ok (.iconst 2, 1) := by decide +kernel
theorem dX8_thingOf_29 : decode cX8_thingOf 29 = .ok (.if_icmp .ne 12, 3) := by decide +kernel
theorem dX8_thingOf_32 : decode cX8_thingOf 32 = .ok (.aload_n 0, 1) := by decide +kernel
theorem dX8_thingOf_33 : decode cX8_thingOf 33 = .ok (.getfield 22, 3) := by decide +kernel
theorem dX8_thingOf_36 : decode cX8_thingOf 36 = .ok (.iload_n 1, 1) := by decide +kernel
theorem dX8_thingOf_37 : decode cX8_thingOf 37 = .ok (.iaload, 1) := by decide +kernel
theorem dX8_thingOf_38 : decode cX8_thingOf 38 = .ok (.goto 37, 3) := by decide +kernel
theorem dX8_thingOf_41 : decode cX8_thingOf 41 = .ok (.iload_n 2, 1) := by decide +kernel
theorem dX8_thingOf_42 : decode cX8_thingOf 42 = .ok (.iconst 3, 1) := by decide +kernel
theorem dX8_thingOf_43 : decode cX8_thingOf 43 = .ok (.if_icmp .ne 12, 3) := by decide +kernel
theorem dX8_thingOf_46 : decode cX8_thingOf 46 = .ok (.aload_n 0, 1) := by decide +kernel
theorem dX8_thingOf_47 : decode cX8_thingOf 47 = .ok (.getfield 25, 3) := by decide +kernel
theorem dX8_thingOf_50 : decode cX8_thingOf 50 = .ok (.iload_n 1, 1) := by decide +kernel
theorem dX8_thingOf_51 : decode cX8_thingOf 51 = .ok (.iaload, 1) := by decide +kernel
theorem dX8_thingOf_52 : decode cX8_thingOf 52 = .ok (.goto 23, 3) := by decide +kernel
theorem dX8_thingOf_55 : decode cX8_thingOf 55 = .ok (.iload_n 2, 1) := by decide +kernel
theorem dX8_thingOf_56 : decode cX8_thingOf 56 = .ok (.iconst 4, 1) := by decide +kernel
theorem dX8_thingOf_57 : decode cX8_thingOf 57 = .ok (.if_icmp .ne 12, 3) := by decide +kernel
theorem dX8_thingOf_60 : decode cX8_thingOf 60 = .ok (.aload_n 0, 1) := by decide +kernel
theorem dX8_thingOf_61 : decode cX8_thingOf 61 = .ok (.getfield 28, 3) := by decide +kernel
theorem dX8_thingOf_64 : decode cX8_thingOf 64 = .ok (.iload_n 1, 1) := by decide +kernel
theorem dX8_thingOf_65 : decode cX8_thingOf 65 = .ok (.iaload, 1) := by decide +kernel
theorem dX8_thingOf_66 : decode cX8_thingOf 66 = .ok (.goto 9, 3) := by decide +kernel
theorem dX8_thingOf_69 : decode cX8_thingOf 69 = .ok (.aload_n 0, 1) := by decide +kernel
theorem dX8_thingOf_70 : decode cX8_thingOf 70 = .ok (.getfield 31, 3) := by decide +kernel
theorem dX8_thingOf_73 : decode cX8_thingOf 73 = .ok (.iload_n 1, 1) := by decide +kernel
theorem dX8_thingOf_74 : decode cX8_thingOf 74 = .ok (.iaload, 1) := by decide +kernel
theorem dX8_thingOf_75 : decode cX8_thingOf 75 = .ok (.ireturn, 1) := by decide +kernel
abbrev rmX8_thingOf : Room := { frames := 0, cells := 0, slots := 0, locals := 0 }
set_option maxHeartbeats 4000000 in
set_option maxRecDepth 100000 in
theorem wX8_thingOf (Cx : ms_C p s m args meth c D cA a shM cX8_thingOf 3 RX8 (some .int)) (out : Int32) {σ : Mm} : ∀ (p0 : Int32) (p1 : Int32) , ∀ (H : Heap) (locs : List Loc) (ls : Array Slot), ms_I D cA a shM s σ H locs → lv_has ls 3 [(0, .ref (a 0)), (1, .int p0), (2, .int p1)] → fX8_thingOf σ p0 p1 = some out → W p l e rmX8_thingOf s m args below meth c H locs 0 0 (MQ below (ms_Qi D cA a shM out σ) args s 0 0 (ms_A a shM.length)) (F0 m 0 ls []) := by
  have hx := Cx.1
  have hb := Cx.2.1
  intro p0 p1 H locs ls hI hl h
  unfold fX8_thingOf at h
  refine lv_iload_n hx hb dX8_thingOf_0 rfl (lv_at hl 2 rfl) ?_
  refine lv_if_ne (tgt := 13) hx hb dX8_thingOf_1 rfl (fun hc => ?_) (fun hc => ?_)
  · have h := ms_ifF hc h
    refine lv_iload_n hx hb dX8_thingOf_13 rfl (lv_at hl 2 rfl) ?_
    refine lv_iconst (v := 1) hx hb dX8_thingOf_14 rfl ?_
    refine lv_icmp_ne (tgt := 27) hx hb dX8_thingOf_15 rfl (fun hc => ?_) (fun hc => ?_)
    · have h := ms_ifF hc h
      refine lv_iload_n hx hb dX8_thingOf_27 rfl (lv_at hl 2 rfl) ?_
      refine lv_iconst (v := 2) hx hb dX8_thingOf_28 rfl ?_
      refine lv_icmp_ne (tgt := 41) hx hb dX8_thingOf_29 rfl (fun hc => ?_) (fun hc => ?_)
      · have h := ms_ifF hc h
        refine lv_iload_n hx hb dX8_thingOf_41 rfl (lv_at hl 2 rfl) ?_
        refine lv_iconst (v := 3) hx hb dX8_thingOf_42 rfl ?_
        refine lv_icmp_ne (tgt := 55) hx hb dX8_thingOf_43 rfl (fun hc => ?_) (fun hc => ?_)
        · have h := ms_ifF hc h
          refine lv_iload_n hx hb dX8_thingOf_55 rfl (lv_at hl 2 rfl) ?_
          refine lv_iconst (v := 4) hx hb dX8_thingOf_56 rfl ?_
          refine lv_icmp_ne (tgt := 69) hx hb dX8_thingOf_57 rfl (fun hc => ?_) (fun hc => ?_)
          · have h := ms_ifF hc h
            refine lv_aload_n hx hb dX8_thingOf_69 rfl (lv_at hl 0 rfl) ?_
            refine gr_X8_9 Cx hI wd_6_20 dX8_thingOf_70 ?_
            refine lv_iload_n hx hb dX8_thingOf_73 rfl (lv_at hl 1 rfl) ?_
            obtain ⟨hg, h⟩ := ms_gE h
            refine ms_ld Cx hI 8 shM_8 hg dX8_thingOf_74 ?_
            exact ms_ri Cx hI (Option.some.inj h) rfl dX8_thingOf_75
          · have h := ms_ifT hc h
            refine lv_aload_n hx hb dX8_thingOf_60 rfl (lv_at hl 0 rfl) ?_
            refine gr_X8_8 Cx hI wd_6_19 dX8_thingOf_61 ?_
            refine lv_iload_n hx hb dX8_thingOf_64 rfl (lv_at hl 1 rfl) ?_
            obtain ⟨hg, h⟩ := ms_gE h
            refine ms_ld Cx hI 7 shM_7 hg dX8_thingOf_65 ?_
            refine lv_goto (tgt := 75) hx hb dX8_thingOf_66 rfl ?_
            exact ms_ri Cx hI (Option.some.inj h) rfl dX8_thingOf_75
        · have h := ms_ifT hc h
          refine lv_aload_n hx hb dX8_thingOf_46 rfl (lv_at hl 0 rfl) ?_
          refine gr_X8_7 Cx hI wd_6_18 dX8_thingOf_47 ?_
          refine lv_iload_n hx hb dX8_thingOf_50 rfl (lv_at hl 1 rfl) ?_
          obtain ⟨hg, h⟩ := ms_gE h
          refine ms_ld Cx hI 6 shM_6 hg dX8_thingOf_51 ?_
          refine lv_goto (tgt := 75) hx hb dX8_thingOf_52 rfl ?_
          exact ms_ri Cx hI (Option.some.inj h) rfl dX8_thingOf_75
      · have h := ms_ifT hc h
        refine lv_aload_n hx hb dX8_thingOf_32 rfl (lv_at hl 0 rfl) ?_
        refine gr_X8_6 Cx hI wd_6_17 dX8_thingOf_33 ?_
        refine lv_iload_n hx hb dX8_thingOf_36 rfl (lv_at hl 1 rfl) ?_
        obtain ⟨hg, h⟩ := ms_gE h
        refine ms_ld Cx hI 5 shM_5 hg dX8_thingOf_37 ?_
        refine lv_goto (tgt := 75) hx hb dX8_thingOf_38 rfl ?_
        exact ms_ri Cx hI (Option.some.inj h) rfl dX8_thingOf_75
    · have h := ms_ifT hc h
      refine lv_aload_n hx hb dX8_thingOf_18 rfl (lv_at hl 0 rfl) ?_
      refine gr_X8_5 Cx hI wd_6_16 dX8_thingOf_19 ?_
      refine lv_iload_n hx hb dX8_thingOf_22 rfl (lv_at hl 1 rfl) ?_
      obtain ⟨hg, h⟩ := ms_gE h
      refine ms_ld Cx hI 4 shM_4 hg dX8_thingOf_23 ?_
      refine lv_goto (tgt := 75) hx hb dX8_thingOf_24 rfl ?_
      exact ms_ri Cx hI (Option.some.inj h) rfl dX8_thingOf_75
  · have h := ms_ifT hc h
    refine lv_aload_n hx hb dX8_thingOf_4 rfl (lv_at hl 0 rfl) ?_
    refine gr_X8_4 Cx hI wd_6_15 dX8_thingOf_5 ?_
    refine lv_iload_n hx hb dX8_thingOf_8 rfl (lv_at hl 1 rfl) ?_
    obtain ⟨hg, h⟩ := ms_gE h
    refine ms_ld Cx hI 3 shM_3 hg dX8_thingOf_9 ?_
    refine lv_goto (tgt := 75) hx hb dX8_thingOf_10 rfl ?_
    exact ms_ri Cx hI (Option.some.inj h) rfl dX8_thingOf_75
theorem yvX8_thingOf : ms_YV yX8_thingOf RX8 cX8_thingOf 3 (some .int) 2 := ⟨wd_14_4, wd_14_5, wd_1_5, wd_14_6, rfl, by decide +kernel, by decide +kernel, by decide +kernel⟩
set_option maxHeartbeats 4000000 in
theorem metX8_thingOf (l : Launch) (hDis : ms_Dis a shM.length) {σ : Mm} {p0 : Int32} {p1 : Int32} {out : Int32} (h : fX8_thingOf σ p0 p1 = some out) : Met l yX8_thingOf (.code yX8_thingOf cX8_thingOf 3 (some .int) :: wsL_law) rmX8_thingOf (ms_Pc D cA a shM [.ref (a 0), .int p0, .int p1] σ) (ms_Qi D cA a shM out σ) 0 0 (ms_A a shM.length) := by
  refine Met.ofW (cc := cX8_thingOf) (maxL := 3) (ret := (some .int)) (by decide) rfl ?_
  intro p e s m args below meth c s₁ B hml hv
  obtain ⟨rfl, hK, hN, hP⟩ := hv
  have hl := lv_entry ([.ref (a 0), .int p0, .int p1]) (n := 3) (Nat.le_of_ble_eq_true rfl)
  rw [lg_entry_eq]
  generalize (lg_sl ([.ref (a 0), .int p0, .int p1]) ++ List.replicate (3 - (lg_sl ([.ref (a 0), .int p0, .int p1])).length) Slot.unset).toArray = ls at hl ⊢
  exact wX8_thingOf ⟨B.exec, B.bytes, hml, findClass_of_methodNamed B.named, fun w hw => atoms_spec (ws := .code yX8_thingOf cX8_thingOf 3 (some .int) :: wsL_law) B.pre w (List.mem_cons_of_mem _ hw), B.returns, B.notSynchronized, hK, hDis, hN⟩ out p0 p1 s.heap [] ls ⟨hP, va_S.rf⟩ hl h
theorem kX8_thingOf (Cx : ms_C p s m args meth c D cA a shM cc nL own ret) {σ : Mm} {H : Heap} {locs : List Loc} (hI : ms_I D cA a shM s σ H locs) {p0 : Int32} {p1 : Int32} {out : Int32} (h : fX8_thingOf σ p0 p1 = some out) (hl : Cond.methodLink own idx yX8_thingOf ∈ wsL_law) (hf : 0 + 1 ≤ R.frames) (hlo : 8 + (3 + 11) + 0 ≤ R.locals) (hsz : ls.size = nL) (hW : (rest.map fun v => v.category).sum ≤ 8) (hd : decode cc pc = .ok (.invokevirtual idx, 3)) (kk : ∀ (H1 : Heap) (locs1 : List Loc), ms_I D cA a shM s σ H1 locs1 → W p l e R s m args below meth c H1 locs1 0 0 Q (F0 m (pc + 3) ls (.int out :: rest))) : W p l e R s m args below meth c H locs 0 0 Q (F0 m pc ls (.int p1 :: .int p0 :: .ref (a 0) :: rest)) :=
  ms_ci hI (ms_runV (av := [.int p0, .int p1]) Cx hI 0 shM_0 (ci := 8) rfl rfl yvX8_thingOf (metX8_thingOf l Cx.2.2.2.2.2.2.2.2.1  h) ⟨rfl, rfl⟩ hl ⟨hf, hlo⟩ rfl hsz rfl hW ⟨Nat.zero_le _, Nat.zero_le _⟩ hd) kk
/-! X8 thing (II)I -/
theorem dX8_thing_0 : decode cX8_thing 0 = .ok (.aload_n 0, 1) := by decide +kernel
theorem dX8_thing_1 : decode cX8_thing 1 = .ok (.iload_n 1, 1) := by decide +kernel
theorem dX8_thing_2 : decode cX8_thing 2 = .ok (.invokevirtual 143, 3) := by decide +kernel
theorem dX8_thing_5 : decode cX8_thing 5 = .ok (.ifCond .eq 21, 3) := by decide +kernel
theorem dX8_thing_8 : decode cX8_thing 8 = .ok (.iload_n 2, 1) := by decide +kernel
theorem dX8_thing_9 : decode cX8_thing 9 = .ok (.iconst 0, 1) := by decide +kernel
theorem dX8_thing_10 : decode cX8_thing 10 = .ok (.iconst 5, 1) := by decide +kernel
theorem dX8_thing_11 : decode cX8_thing 11 = .ok (.invokestatic 95, 3) := by decide +kernel
theorem dX8_thing_14 : decode cX8_thing 14 = .ok (.ifCond .eq 12, 3) := by decide +kernel
theorem dX8_thing_17 : decode cX8_thing 17 = .ok (.aload_n 0, 1) := by decide +kernel
theorem dX8_thing_18 : decode cX8_thing 18 = .ok (.iload_n 1, 1) := by decide +kernel
theorem dX8_thing_19 : decode cX8_thing 19 = .ok (.iload_n 2, 1) := by decide +kernel
theorem dX8_thing_20 : decode cX8_thing 20 = .ok (.invokevirtual 147, 3) := by decide +kernel
theorem dX8_thing_23 : decode cX8_thing 23 = .ok (.goto 5, 3) := by decide +kernel
theorem dX8_thing_26 : decode cX8_thing 26 = .ok (.bipush (-2), 2) := by decide +kernel
theorem dX8_thing_28 : decode cX8_thing 28 = .ok (.ireturn, 1) := by decide +kernel
abbrev rmX8_thing : Room := { frames := 8, cells := 0, slots := 0, locals := 178 }
set_option maxHeartbeats 4000000 in
set_option maxRecDepth 100000 in
theorem wX8_thing (Cx : ms_C p s m args meth c D cA a shM cX8_thing 3 RX8 (some .int)) (out : Int32 × Mm) : ∀ (p0 : Int32) (p1 : Int32) , ∀ (σ : Mm) (H : Heap) (locs : List Loc) (ls : Array Slot), ms_I D cA a shM s σ H locs → lv_has ls 3 [(0, .ref (a 0)), (1, .int p0), (2, .int p1)] → fX8_thing p0 p1 σ = some out → W p l e rmX8_thing s m args below meth c H locs 0 0 (MQ below (ms_Qi D cA a shM out.1 out.2) args s 0 0 (ms_A a shM.length)) (F0 m 0 ls []) := by
  have hx := Cx.1
  have hb := Cx.2.1
  intro p0 p1 σ H locs ls hI hl h
  unfold fX8_thing at h
  refine lv_aload_n hx hb dX8_thing_0 rfl (lv_at hl 0 rfl) ?_
  refine lv_iload_n hx hb dX8_thing_1 rfl (lv_at hl 1 rfl) ?_
  obtain ⟨⟨r2, σ3⟩, hc1, h⟩ := ms_bdE h
  refine kX8_isThing Cx hI hc1 wd_13_23 (Nat.le_of_ble_eq_true rfl) (Nat.le_of_ble_eq_true rfl) hl.1 (Nat.le_of_ble_eq_true rfl) dX8_thing_2 (fun H locs hI => ?_)
  refine lv_if_eq (tgt := 26) hx hb dX8_thing_5 rfl (fun hc => ?_) (fun hc => ?_)
  · have h := ms_ifT hc h
    refine lv_bipush (v := -2) hx hb dX8_thing_26 rfl ?_
    exact ms_riw Cx hI h dX8_thing_28
  · have h := ms_ifF hc h
    refine lv_iload_n hx hb dX8_thing_8 rfl (lv_at hl 2 rfl) ?_
    refine lv_iconst (v := 0) hx hb dX8_thing_9 rfl ?_
    refine lv_iconst (v := 5) hx hb dX8_thing_10 rfl ?_
    obtain ⟨r5, hc4, h⟩ := ms_bdE h
    refine kX8_in Cx hI hc4 (Or.inl wd_10_20) (Nat.le_of_ble_eq_true rfl) (Nat.le_of_ble_eq_true rfl) hl.1 (Nat.le_of_ble_eq_true rfl) dX8_thing_11 (fun H locs hI => ?_)
    refine lv_if_eq (tgt := 26) hx hb dX8_thing_14 rfl (fun hc => ?_) (fun hc => ?_)
    · have h := ms_ifT hc h
      refine lv_bipush (v := -2) hx hb dX8_thing_26 rfl ?_
      exact ms_riw Cx hI h dX8_thing_28
    · have h := ms_ifF hc h
      refine lv_aload_n hx hb dX8_thing_17 rfl (lv_at hl 0 rfl) ?_
      refine lv_iload_n hx hb dX8_thing_18 rfl (lv_at hl 1 rfl) ?_
      refine lv_iload_n hx hb dX8_thing_19 rfl (lv_at hl 2 rfl) ?_
      obtain ⟨r7, hc6, h⟩ := ms_bdE h
      refine kX8_thingOf Cx hI hc6 wd_14_3 (Nat.le_of_ble_eq_true rfl) (Nat.le_of_ble_eq_true rfl) hl.1 (Nat.le_of_ble_eq_true rfl) dX8_thing_20 (fun H locs hI => ?_)
      refine lv_goto (tgt := 28) hx hb dX8_thing_23 rfl ?_
      exact ms_riw Cx hI h dX8_thing_28
theorem yvX8_thing : ms_YV yX8_thing RX8 cX8_thing 3 (some .int) 2 := ⟨wd_13_20, wd_13_21, wd_1_5, wd_13_22, rfl, by decide +kernel, by decide +kernel, by decide +kernel⟩
set_option maxHeartbeats 4000000 in
theorem metX8_thing (l : Launch) (hDis : ms_Dis a shM.length) {σ : Mm} {p0 : Int32} {p1 : Int32} {out : Int32 × Mm} (h : fX8_thing p0 p1 σ = some out) : Met l yX8_thing (.code yX8_thing cX8_thing 3 (some .int) :: wsL_law) rmX8_thing (ms_Pc D cA a shM [.ref (a 0), .int p0, .int p1] σ) (ms_Qi D cA a shM out.1 out.2) 0 0 (ms_A a shM.length) := by
  refine Met.ofW (cc := cX8_thing) (maxL := 3) (ret := (some .int)) (by decide) rfl ?_
  intro p e s m args below meth c s₁ B hml hv
  obtain ⟨rfl, hK, hN, hP⟩ := hv
  have hl := lv_entry ([.ref (a 0), .int p0, .int p1]) (n := 3) (Nat.le_of_ble_eq_true rfl)
  rw [lg_entry_eq]
  generalize (lg_sl ([.ref (a 0), .int p0, .int p1]) ++ List.replicate (3 - (lg_sl ([.ref (a 0), .int p0, .int p1])).length) Slot.unset).toArray = ls at hl ⊢
  exact wX8_thing ⟨B.exec, B.bytes, hml, findClass_of_methodNamed B.named, fun w hw => atoms_spec (ws := .code yX8_thing cX8_thing 3 (some .int) :: wsL_law) B.pre w (List.mem_cons_of_mem _ hw), B.returns, B.notSynchronized, hK, hDis, hN⟩ out p0 p1 σ s.heap [] ls ⟨hP, va_S.rf⟩ hl h
theorem kX8_thing (Cx : ms_C p s m args meth c D cA a shM cc nL own ret) {σ : Mm} {H : Heap} {locs : List Loc} (hI : ms_I D cA a shM s σ H locs) {p0 : Int32} {p1 : Int32} {out : Int32 × Mm} (h : fX8_thing p0 p1 σ = some out) (hl : Cond.methodLink own idx yX8_thing ∈ wsL_law) (hf : 8 + 1 ≤ R.frames) (hlo : 8 + (3 + 11) + 178 ≤ R.locals) (hsz : ls.size = nL) (hW : (rest.map fun v => v.category).sum ≤ 8) (hd : decode cc pc = .ok (.invokevirtual idx, 3)) (kk : ∀ (H1 : Heap) (locs1 : List Loc), ms_I D cA a shM s out.2 H1 locs1 → W p l e R s m args below meth c H1 locs1 0 0 Q (F0 m (pc + 3) ls (.int out.1 :: rest))) : W p l e R s m args below meth c H locs 0 0 Q (F0 m pc ls (.int p1 :: .int p0 :: .ref (a 0) :: rest)) :=
  ms_ci hI (ms_runV (av := [.int p0, .int p1]) Cx hI 0 shM_0 (ci := 8) rfl rfl yvX8_thing (metX8_thing l Cx.2.2.2.2.2.2.2.2.1  h) ⟨rfl, rfl⟩ hl ⟨hf, hlo⟩ rfl hsz rfl hW ⟨Nat.zero_le _, Nat.zero_le _⟩ hd) kk
/-! X8 handleOf (I)I -/
theorem dX8_handleOf_0 : decode cX8_handleOf 0 = .ok (.aload_n 0, 1) := by decide +kernel
theorem dX8_handleOf_1 : decode cX8_handleOf 1 = .ok (.invokevirtual 140, 3) := by decide +kernel
theorem dX8_handleOf_4 : decode cX8_handleOf 4 = .ok (.istore_n 2, 1) := by decide +kernel
theorem dX8_handleOf_5 : decode cX8_handleOf 5 = .ok (.aload_n 0, 1) := by decide +kernel
theorem dX8_handleOf_6 : decode cX8_handleOf 6 = .ok (.getfield 120, 3) := by decide +kernel
theorem dX8_handleOf_9 : decode cX8_handleOf 9 = .ok (.iload_n 1, 1) := by decide +kernel
theorem dX8_handleOf_10 : decode cX8_handleOf 10 = .ok (.invokestatic 129, 3) := by decide +kernel
theorem dX8_handleOf_13 : decode cX8_handleOf 13 = .ok (.ifCond .eq 7, 3) := by decide +kernel
theorem dX8_handleOf_16 : decode cX8_handleOf 16 = .ok (.iconst 1, 1) := by decide +kernel
theorem dX8_handleOf_17 : decode cX8_handleOf 17 = .ok (.goto 4, 3) := by decide +kernel
theorem dX8_handleOf_20 : decode cX8_handleOf 20 = .ok (.iconst 0, 1) := by decide +kernel
theorem dX8_handleOf_21 : decode cX8_handleOf 21 = .ok (.ireturn, 1) := by decide +kernel
abbrev rmX8_handleOf : Room := { frames := 7, cells := 0, slots := 0, locals := 156 }
set_option maxHeartbeats 4000000 in
set_option maxRecDepth 100000 in
theorem wX8_handleOf (Cx : ms_C p s m args meth c D cA a shM cX8_handleOf 3 RX8 (some .int)) (out : Int32 × Mm) : ∀ (p0 : Int32) , ∀ (σ : Mm) (H : Heap) (locs : List Loc) (ls : Array Slot), ms_I D cA a shM s σ H locs → lv_has ls 3 [(0, .ref (a 0)), (1, .int p0)] → fX8_handleOf p0 σ = some out → W p l e rmX8_handleOf s m args below meth c H locs 0 0 (MQ below (ms_Qi D cA a shM out.1 out.2) args s 0 0 (ms_A a shM.length)) (F0 m 0 ls []) := by
  have hx := Cx.1
  have hb := Cx.2.1
  intro p0 σ H locs ls hI hl h
  unfold fX8_handleOf at h
  refine lv_aload_n hx hb dX8_handleOf_0 rfl (lv_at hl 0 rfl) ?_
  obtain ⟨⟨r2, σ3⟩, hc1, h⟩ := ms_bdE h
  refine kX8_faultNow Cx hI hc1 wd_11_16 (Nat.le_of_ble_eq_true rfl) (Nat.le_of_ble_eq_true rfl) hl.1 (Nat.le_of_ble_eq_true rfl) dX8_handleOf_1 (fun H locs hI => ?_)
  refine lv_istore_n (lv' := [(2, .int r2), (0, .ref (a 0)), (1, .int p0)]) hx hb dX8_handleOf_4 rfl hl (by decide) rfl (fun ls hl => ?_)
  refine lv_aload_n hx hb dX8_handleOf_5 rfl (lv_at hl 1 rfl) ?_
  refine gi_X8_10 Cx hI wd_11_21 dX8_handleOf_6 ?_
  refine lv_iload_n hx hb dX8_handleOf_9 rfl (lv_at hl 2 rfl) ?_
  obtain ⟨r5, hc4, h⟩ := ms_bdE h
  refine kX8_isIn Cx hI hc4 (Or.inl wd_12_23) (Nat.le_of_ble_eq_true rfl) (Nat.le_of_ble_eq_true rfl) hl.1 (Nat.le_of_ble_eq_true rfl) dX8_handleOf_10 (fun H locs hI => ?_)
  refine lv_if_eq (tgt := 20) hx hb dX8_handleOf_13 rfl (fun hc => ?_) (fun hc => ?_)
  · have h := ms_ifT hc h
    refine lv_iconst (v := 0) hx hb dX8_handleOf_20 rfl ?_
    exact ms_riw Cx hI h dX8_handleOf_21
  · have h := ms_ifF hc h
    refine lv_iconst (v := 1) hx hb dX8_handleOf_16 rfl ?_
    refine lv_goto (tgt := 21) hx hb dX8_handleOf_17 rfl ?_
    exact ms_riw Cx hI h dX8_handleOf_21
theorem yvX8_handleOf : ms_YV yX8_handleOf RX8 cX8_handleOf 3 (some .int) 1 := ⟨wd_14_17, wd_14_18, wd_1_5, wd_14_19, rfl, by decide +kernel, by decide +kernel, by decide +kernel⟩
set_option maxHeartbeats 4000000 in
theorem metX8_handleOf (l : Launch) (hDis : ms_Dis a shM.length) {σ : Mm} {p0 : Int32} {out : Int32 × Mm} (h : fX8_handleOf p0 σ = some out) : Met l yX8_handleOf (.code yX8_handleOf cX8_handleOf 3 (some .int) :: wsL_law) rmX8_handleOf (ms_Pc D cA a shM [.ref (a 0), .int p0] σ) (ms_Qi D cA a shM out.1 out.2) 0 0 (ms_A a shM.length) := by
  refine Met.ofW (cc := cX8_handleOf) (maxL := 3) (ret := (some .int)) (by decide) rfl ?_
  intro p e s m args below meth c s₁ B hml hv
  obtain ⟨rfl, hK, hN, hP⟩ := hv
  have hl := lv_entry ([.ref (a 0), .int p0]) (n := 3) (Nat.le_of_ble_eq_true rfl)
  rw [lg_entry_eq]
  generalize (lg_sl ([.ref (a 0), .int p0]) ++ List.replicate (3 - (lg_sl ([.ref (a 0), .int p0])).length) Slot.unset).toArray = ls at hl ⊢
  exact wX8_handleOf ⟨B.exec, B.bytes, hml, findClass_of_methodNamed B.named, fun w hw => atoms_spec (ws := .code yX8_handleOf cX8_handleOf 3 (some .int) :: wsL_law) B.pre w (List.mem_cons_of_mem _ hw), B.returns, B.notSynchronized, hK, hDis, hN⟩ out p0 σ s.heap [] ls ⟨hP, va_S.rf⟩ hl h
theorem kX8_handleOf (Cx : ms_C p s m args meth c D cA a shM cc nL own ret) {σ : Mm} {H : Heap} {locs : List Loc} (hI : ms_I D cA a shM s σ H locs) {p0 : Int32} {out : Int32 × Mm} (h : fX8_handleOf p0 σ = some out) (hl : Cond.methodLink own idx yX8_handleOf ∈ wsL_law) (hf : 7 + 1 ≤ R.frames) (hlo : 8 + (3 + 11) + 156 ≤ R.locals) (hsz : ls.size = nL) (hW : (rest.map fun v => v.category).sum ≤ 8) (hd : decode cc pc = .ok (.invokevirtual idx, 3)) (kk : ∀ (H1 : Heap) (locs1 : List Loc), ms_I D cA a shM s out.2 H1 locs1 → W p l e R s m args below meth c H1 locs1 0 0 Q (F0 m (pc + 3) ls (.int out.1 :: rest))) : W p l e R s m args below meth c H locs 0 0 Q (F0 m pc ls (.int p0 :: .ref (a 0) :: rest)) :=
  ms_ci hI (ms_runV (av := [.int p0]) Cx hI 0 shM_0 (ci := 8) rfl rfl yvX8_handleOf (metX8_handleOf l Cx.2.2.2.2.2.2.2.2.1  h) ⟨rfl, rfl⟩ hl ⟨hf, hlo⟩ rfl hsz rfl hW ⟨Nat.zero_le _, Nat.zero_le _⟩ hd) kk
/-! X8 handle (I)I -/
theorem dX8_handle_0 : decode cX8_handle 0 = .ok (.iload_n 1, 1) := by decide +kernel
theorem dX8_handle_1 : decode cX8_handle 1 = .ok (.iconst 0, 1) := by decide +kernel
theorem dX8_handle_2 : decode cX8_handle 2 = .ok (.bipush 8, 2) := by decide +kernel
theorem dX8_handle_4 : decode cX8_handle 4 = .ok (.invokestatic 95, 3) := by decide +kernel
theorem dX8_handle_7 : decode cX8_handle 7 = .ok (.ifCond .eq 11, 3) := by decide +kernel
theorem dX8_handle_10 : decode cX8_handle 10 = .ok (.aload_n 0, 1) := by decide +kernel
theorem dX8_handle_11 : decode cX8_handle 11 = .ok (.iload_n 1, 1) := by decide +kernel
theorem dX8_handle_12 : decode cX8_handle 12 = .ok (.invokevirtual 151, 3) := by decide +kernel
theorem dX8_handle_15 : decode cX8_handle 15 = .ok (.goto 5, 3) := by decide +kernel
theorem dX8_handle_18 : decode cX8_handle 18 = .ok (.bipush (-2), 2) := by decide +kernel
theorem dX8_handle_20 : decode cX8_handle 20 = .ok (.ireturn, 1) := by decide +kernel
abbrev rmX8_handle : Room := { frames := 8, cells := 0, slots := 0, locals := 178 }
set_option maxHeartbeats 4000000 in
set_option maxRecDepth 100000 in
theorem wX8_handle (Cx : ms_C p s m args meth c D cA a shM cX8_handle 2 RX8 (some .int)) (out : Int32 × Mm) : ∀ (p0 : Int32) , ∀ (σ : Mm) (H : Heap) (locs : List Loc) (ls : Array Slot), ms_I D cA a shM s σ H locs → lv_has ls 2 [(0, .ref (a 0)), (1, .int p0)] → fX8_handle p0 σ = some out → W p l e rmX8_handle s m args below meth c H locs 0 0 (MQ below (ms_Qi D cA a shM out.1 out.2) args s 0 0 (ms_A a shM.length)) (F0 m 0 ls []) := by
  have hx := Cx.1
  have hb := Cx.2.1
  intro p0 σ H locs ls hI hl h
  unfold fX8_handle at h
  refine lv_iload_n hx hb dX8_handle_0 rfl (lv_at hl 1 rfl) ?_
  refine lv_iconst (v := 0) hx hb dX8_handle_1 rfl ?_
  refine lv_bipush (v := 8) hx hb dX8_handle_2 rfl ?_
  obtain ⟨r2, hc1, h⟩ := ms_bdE h
  refine kX8_in Cx hI hc1 (Or.inl wd_10_20) (Nat.le_of_ble_eq_true rfl) (Nat.le_of_ble_eq_true rfl) hl.1 (Nat.le_of_ble_eq_true rfl) dX8_handle_4 (fun H locs hI => ?_)
  refine lv_if_eq (tgt := 18) hx hb dX8_handle_7 rfl (fun hc => ?_) (fun hc => ?_)
  · have h := ms_ifT hc h
    refine lv_bipush (v := -2) hx hb dX8_handle_18 rfl ?_
    exact ms_riw Cx hI h dX8_handle_20
  · have h := ms_ifF hc h
    refine lv_aload_n hx hb dX8_handle_10 rfl (lv_at hl 0 rfl) ?_
    refine lv_iload_n hx hb dX8_handle_11 rfl (lv_at hl 1 rfl) ?_
    obtain ⟨⟨r4, σ5⟩, hc3, h⟩ := ms_bdE h
    refine kX8_handleOf Cx hI hc3 wd_14_16 (Nat.le_of_ble_eq_true rfl) (Nat.le_of_ble_eq_true rfl) hl.1 (Nat.le_of_ble_eq_true rfl) dX8_handle_12 (fun H locs hI => ?_)
    refine lv_goto (tgt := 20) hx hb dX8_handle_15 rfl ?_
    exact ms_riw Cx hI h dX8_handle_20
theorem yvX8_handle : ms_YV yX8_handle RX8 cX8_handle 2 (some .int) 1 := ⟨wd_14_13, wd_14_14, wd_1_5, wd_14_15, rfl, by decide +kernel, by decide +kernel, by decide +kernel⟩
set_option maxHeartbeats 4000000 in
theorem metX8_handle (l : Launch) (hDis : ms_Dis a shM.length) {σ : Mm} {p0 : Int32} {out : Int32 × Mm} (h : fX8_handle p0 σ = some out) : Met l yX8_handle (.code yX8_handle cX8_handle 2 (some .int) :: wsL_law) rmX8_handle (ms_Pc D cA a shM [.ref (a 0), .int p0] σ) (ms_Qi D cA a shM out.1 out.2) 0 0 (ms_A a shM.length) := by
  refine Met.ofW (cc := cX8_handle) (maxL := 2) (ret := (some .int)) (by decide) rfl ?_
  intro p e s m args below meth c s₁ B hml hv
  obtain ⟨rfl, hK, hN, hP⟩ := hv
  have hl := lv_entry ([.ref (a 0), .int p0]) (n := 2) (Nat.le_of_ble_eq_true rfl)
  rw [lg_entry_eq]
  generalize (lg_sl ([.ref (a 0), .int p0]) ++ List.replicate (2 - (lg_sl ([.ref (a 0), .int p0])).length) Slot.unset).toArray = ls at hl ⊢
  exact wX8_handle ⟨B.exec, B.bytes, hml, findClass_of_methodNamed B.named, fun w hw => atoms_spec (ws := .code yX8_handle cX8_handle 2 (some .int) :: wsL_law) B.pre w (List.mem_cons_of_mem _ hw), B.returns, B.notSynchronized, hK, hDis, hN⟩ out p0 σ s.heap [] ls ⟨hP, va_S.rf⟩ hl h
theorem kX8_handle (Cx : ms_C p s m args meth c D cA a shM cc nL own ret) {σ : Mm} {H : Heap} {locs : List Loc} (hI : ms_I D cA a shM s σ H locs) {p0 : Int32} {out : Int32 × Mm} (h : fX8_handle p0 σ = some out) (hl : Cond.methodLink own idx yX8_handle ∈ wsL_law) (hf : 8 + 1 ≤ R.frames) (hlo : 8 + (2 + 11) + 178 ≤ R.locals) (hsz : ls.size = nL) (hW : (rest.map fun v => v.category).sum ≤ 8) (hd : decode cc pc = .ok (.invokevirtual idx, 3)) (kk : ∀ (H1 : Heap) (locs1 : List Loc), ms_I D cA a shM s out.2 H1 locs1 → W p l e R s m args below meth c H1 locs1 0 0 Q (F0 m (pc + 3) ls (.int out.1 :: rest))) : W p l e R s m args below meth c H locs 0 0 Q (F0 m pc ls (.int p0 :: .ref (a 0) :: rest)) :=
  ms_ci hI (ms_runV (av := [.int p0]) Cx hI 0 shM_0 (ci := 8) rfl rfl yvX8_handle (metX8_handle l Cx.2.2.2.2.2.2.2.2.1  h) ⟨rfl, rfl⟩ hl ⟨hf, hlo⟩ rfl hsz rfl hW ⟨Nat.zero_le _, Nat.zero_le _⟩ hd) kk
/-! X8 isGroup (I)Z -/
theorem dX8_isGroup_0 : decode cX8_isGroup 0 = .ok (.aload_n 0, 1) := by decide +kernel
theorem dX8_isGroup_1 : decode cX8_isGroup 1 = .ok (.invokevirtual 140, 3) := by decide +kernel
theorem dX8_isGroup_4 : decode cX8_isGroup 4 = .ok (.istore_n 2, 1) := by decide +kernel
theorem dX8_isGroup_5 : decode cX8_isGroup 5 = .ok (.iload_n 1, 1) := by decide +kernel
theorem dX8_isGroup_6 : decode cX8_isGroup 6 = .ok (.iconst 0, 1) := by decide +kernel
theorem dX8_isGroup_7 : decode cX8_isGroup 7 = .ok (.aload_n 0, 1) := by decide +kernel
theorem dX8_isGroup_8 : decode cX8_isGroup 8 = .ok (.getfield 123, 3) := by decide +kernel
theorem dX8_isGroup_11 : decode cX8_isGroup 11 = .ok (.iconst 1, 1) := by decide +kernel
theorem dX8_isGroup_12 : decode cX8_isGroup 12 = .ok (.isub, 1) := by decide +kernel
theorem dX8_isGroup_13 : decode cX8_isGroup 13 = .ok (.invokestatic 95, 3) := by decide +kernel
theorem dX8_isGroup_16 : decode cX8_isGroup 16 = .ok (.ireturn, 1) := by decide +kernel
abbrev rmX8_isGroup : Room := { frames := 7, cells := 0, slots := 0, locals := 156 }
set_option maxHeartbeats 4000000 in
set_option maxRecDepth 100000 in
theorem wX8_isGroup (Cx : ms_C p s m args meth c D cA a shM cX8_isGroup 3 RX8 (some .boolean)) (out : Int32 × Mm) : ∀ (p0 : Int32) , ∀ (σ : Mm) (H : Heap) (locs : List Loc) (ls : Array Slot), ms_I D cA a shM s σ H locs → lv_has ls 3 [(0, .ref (a 0)), (1, .int p0)] → fX8_isGroup p0 σ = some out → W p l e rmX8_isGroup s m args below meth c H locs 0 0 (MQ below (ms_Qi D cA a shM out.1 out.2) args s 0 0 (ms_A a shM.length)) (F0 m 0 ls []) := by
  have hx := Cx.1
  have hb := Cx.2.1
  intro p0 σ H locs ls hI hl h
  unfold fX8_isGroup at h
  refine lv_aload_n hx hb dX8_isGroup_0 rfl (lv_at hl 0 rfl) ?_
  obtain ⟨⟨r2, σ3⟩, hc1, h⟩ := ms_bdE h
  refine kX8_faultNow Cx hI hc1 wd_11_16 (Nat.le_of_ble_eq_true rfl) (Nat.le_of_ble_eq_true rfl) hl.1 (Nat.le_of_ble_eq_true rfl) dX8_isGroup_1 (fun H locs hI => ?_)
  refine lv_istore_n (lv' := [(2, .int r2), (0, .ref (a 0)), (1, .int p0)]) hx hb dX8_isGroup_4 rfl hl (by decide) rfl (fun ls hl => ?_)
  refine lv_iload_n hx hb dX8_isGroup_5 rfl (lv_at hl 2 rfl) ?_
  refine lv_iconst (v := 0) hx hb dX8_isGroup_6 rfl ?_
  refine lv_aload_n hx hb dX8_isGroup_7 rfl (lv_at hl 1 rfl) ?_
  refine gi_X8_11 Cx hI wd_11_22 dX8_isGroup_8 ?_
  refine lv_iconst (v := 1) hx hb dX8_isGroup_11 rfl ?_
  refine lv_isub hx hb dX8_isGroup_12 ?_
  obtain ⟨r5, hc4, h⟩ := ms_bdE h
  refine kX8_in Cx hI hc4 (Or.inl wd_10_20) (Nat.le_of_ble_eq_true rfl) (Nat.le_of_ble_eq_true rfl) hl.1 (Nat.le_of_ble_eq_true rfl) dX8_isGroup_13 (fun H locs hI => ?_)
  obtain ⟨hg, h⟩ := ms_gE h
  exact ms_rzw Cx hI hg h dX8_isGroup_16
theorem yvX8_isGroup : ms_YV yX8_isGroup RX8 cX8_isGroup 3 (some .boolean) 1 := ⟨wd_15_13, wd_15_14, wd_1_5, wd_15_15, rfl, by decide +kernel, by decide +kernel, by decide +kernel⟩
set_option maxHeartbeats 4000000 in
theorem metX8_isGroup (l : Launch) (hDis : ms_Dis a shM.length) {σ : Mm} {p0 : Int32} {out : Int32 × Mm} (h : fX8_isGroup p0 σ = some out) : Met l yX8_isGroup (.code yX8_isGroup cX8_isGroup 3 (some .boolean) :: wsL_law) rmX8_isGroup (ms_Pc D cA a shM [.ref (a 0), .int p0] σ) (ms_Qi D cA a shM out.1 out.2) 0 0 (ms_A a shM.length) := by
  refine Met.ofW (cc := cX8_isGroup) (maxL := 3) (ret := (some .boolean)) (by decide) rfl ?_
  intro p e s m args below meth c s₁ B hml hv
  obtain ⟨rfl, hK, hN, hP⟩ := hv
  have hl := lv_entry ([.ref (a 0), .int p0]) (n := 3) (Nat.le_of_ble_eq_true rfl)
  rw [lg_entry_eq]
  generalize (lg_sl ([.ref (a 0), .int p0]) ++ List.replicate (3 - (lg_sl ([.ref (a 0), .int p0])).length) Slot.unset).toArray = ls at hl ⊢
  exact wX8_isGroup ⟨B.exec, B.bytes, hml, findClass_of_methodNamed B.named, fun w hw => atoms_spec (ws := .code yX8_isGroup cX8_isGroup 3 (some .boolean) :: wsL_law) B.pre w (List.mem_cons_of_mem _ hw), B.returns, B.notSynchronized, hK, hDis, hN⟩ out p0 σ s.heap [] ls ⟨hP, va_S.rf⟩ hl h
theorem kX8_isGroup (Cx : ms_C p s m args meth c D cA a shM cc nL own ret) {σ : Mm} {H : Heap} {locs : List Loc} (hI : ms_I D cA a shM s σ H locs) {p0 : Int32} {out : Int32 × Mm} (h : fX8_isGroup p0 σ = some out) (hl : Cond.methodLink own idx yX8_isGroup ∈ wsL_law) (hf : 7 + 1 ≤ R.frames) (hlo : 8 + (3 + 11) + 156 ≤ R.locals) (hsz : ls.size = nL) (hW : (rest.map fun v => v.category).sum ≤ 8) (hd : decode cc pc = .ok (.invokevirtual idx, 3)) (kk : ∀ (H1 : Heap) (locs1 : List Loc), ms_I D cA a shM s out.2 H1 locs1 → W p l e R s m args below meth c H1 locs1 0 0 Q (F0 m (pc + 3) ls (.int out.1 :: rest))) : W p l e R s m args below meth c H locs 0 0 Q (F0 m pc ls (.int p0 :: .ref (a 0) :: rest)) :=
  ms_ci hI (ms_runV (av := [.int p0]) Cx hI 0 shM_0 (ci := 8) rfl rfl yvX8_isGroup (metX8_isGroup l Cx.2.2.2.2.2.2.2.2.1  h) ⟨rfl, rfl⟩ hl ⟨hf, hlo⟩ rfl hsz rfl hW ⟨Nat.zero_le _, Nat.zero_le _⟩ hd) kk
/-! X8 group (II)I -/
theorem dX8_group_0 : decode cX8_group 0 = .ok (.aload_n 0, 1) := by decide +kernel
theorem dX8_group_1 : decode cX8_group 1 = .ok (.iload_n 1, 1) := by decide +kernel
theorem dX8_group_2 : decode cX8_group 2 = .ok (.invokevirtual 154, 3) := by decide +kernel
theorem dX8_group_5 : decode cX8_group 5 = .ok (.ifCond .eq 12, 3) := by decide +kernel
theorem dX8_group_8 : decode cX8_group 8 = .ok (.iload_n 2, 1) := by decide +kernel
theorem dX8_group_9 : decode cX8_group 9 = .ok (.iconst 0, 1) := by decide +kernel
theorem dX8_group_10 : decode cX8_group 10 = .ok (.iconst 5, 1) := by decide +kernel
theorem dX8_group_11 : decode cX8_group 11 = .ok (.invokestatic 95, 3) := by decide +kernel
theorem dX8_group_14 : decode cX8_group 14 = .ok (.ifCond .ne 6, 3) := by decide +kernel
theorem dX8_group_17 : decode cX8_group 17 = .ok (.bipush (-2), 2) := by decide +kernel
theorem dX8_group_19 : decode cX8_group 19 = .ok (.ireturn, 1) := by decide +kernel
theorem dX8_group_20 : decode cX8_group 20 = .ok (.iload_n 2, 1) := by decide +kernel
theorem dX8_group_21 : decode cX8_group 21 = .ok (.ifCond .ne 12, 3) := by decide +kernel
theorem dX8_group_24 : decode cX8_group 24 = .ok (.aload_n 0, 1) := by decide +kernel
theorem dX8_group_25 : decode cX8_group 25 = .ok (.getfield 34, 3) := by decide +kernel
theorem dX8_group_28 : decode cX8_group 28 = .ok (.iload_n 1, 1) := by decide +kernel
theorem dX8_group_29 : decode cX8_group 29 = .ok (.iaload, 1) := by decide +kernel
theorem dX8_group_30 : decode cX8_group 30 = .ok (.goto 49, 3) := by decide +kernel
theorem dX8_group_33 : decode cX8_group 33 = .ok (.iload_n 2, 1) := by decide +kernel
theorem dX8_group_34 : decode cX8_group 34 = .ok (.iconst 1, 1) := by decide +kernel
theorem dX8_group_35 : decode cX8_group 35 = .ok (.if_icmp .ne 12, 3) := by decide +kernel
theorem dX8_group_38 : decode cX8_group 38 = .ok (.aload_n 0, 1) := by decide +kernel
theorem dX8_group_39 : decode cX8_group 39 = .ok (.getfield 37, 3) := by decide +kernel
theorem dX8_group_42 : decode cX8_group 42 = .ok (.iload_n 1, 1) := by decide +kernel
theorem dX8_group_43 : decode cX8_group 43 = .ok (.iaload, 1) := by decide +kernel
theorem dX8_group_44 : decode cX8_group 44 = .ok (.goto 35, 3) := by decide +kernel
theorem dX8_group_47 : decode cX8_group 47 = .ok (.iload_n 2, 1) := by decide +kernel
theorem dX8_group_48 : decode cX8_group 48 = .ok (.iconst 4, 1) := by decide +kernel
theorem dX8_group_49 : decode cX8_group 49 = .ok (.if_icmp .ge 18, 3) := by decide +kernel
theorem dX8_group_52 : decode cX8_group 52 = .ok (.aload_n 0, 1) := by decide +kernel
theorem dX8_group_53 : decode cX8_group 53 = .ok (.getfield 40, 3) := by decide +kernel
theorem dX8_group_56 : decode cX8_group 56 = .ok (.iconst 2, 1) := by decide +kernel
theorem dX8_group_57 : decode cX8_group 57 = .ok (.iload_n 1, 1) := by decide +kernel
theorem dX8_group_58 : decode cX8_group 58 = .ok (.imul, 1) := by decide +kernel
theorem dX8_group_59 : decode cX8_group 59 = .ok (.iload_n 2, 1) := by decide +kernel
theorem dX8_group_60 : decode cX8_group 60 = .ok (.iadd, 1) := by decide +kernel
theorem dX8_group_61 : decode cX8_group 61 = .ok (.iconst 2, 1) := by decide +kernel
theorem dX8_group_62 : decode cX8_group 62 = .ok (.isub, 1) := by decide +kernel
theorem dX8_group_63 : decode cX8_group 63 = .ok (.iaload, 1) := by decide +kernel
theorem dX8_group_64 : decode cX8_group 64 = .ok (.goto 15, 3) := by decide +kernel
theorem dX8_group_67 : decode cX8_group 67 = .ok (.aload_n 0, 1) := by decide +kernel
theorem dX8_group_68 : decode cX8_group 68 = .ok (.getfield 43, 3) := by decide +kernel
theorem dX8_group_71 : decode cX8_group 71 = .ok (.iconst 2, 1) := by decide +kernel
theorem dX8_group_72 : decode cX8_group 72 = .ok (.iload_n 1, 1) := by decide +kernel
theorem dX8_group_73 : decode cX8_group 73 = .ok (.imul, 1) := by decide +kernel
theorem dX8_group_74 : decode cX8_group 74 = .ok (.iload_n 2, 1) := by decide +kernel
theorem dX8_group_75 : decode cX8_group 75 = .ok (.iadd, 1) := by decide +kernel
theorem dX8_group_76 : decode cX8_group 76 = .ok (.iconst 4, 1) := by decide +kernel
theorem dX8_group_77 : decode cX8_group 77 = .ok (.isub, 1) := by decide +kernel
theorem dX8_group_78 : decode cX8_group 78 = .ok (.iaload, 1) := by decide +kernel
theorem dX8_group_79 : decode cX8_group 79 = .ok (.ireturn, 1) := by decide +kernel
abbrev rmX8_group : Room := { frames := 8, cells := 0, slots := 0, locals := 178 }
set_option maxHeartbeats 4000000 in
set_option maxRecDepth 100000 in
theorem wX8_group (Cx : ms_C p s m args meth c D cA a shM cX8_group 3 RX8 (some .int)) (out : Int32 × Mm) : ∀ (p0 : Int32) (p1 : Int32) , ∀ (σ : Mm) (H : Heap) (locs : List Loc) (ls : Array Slot), ms_I D cA a shM s σ H locs → lv_has ls 3 [(0, .ref (a 0)), (1, .int p0), (2, .int p1)] → fX8_group p0 p1 σ = some out → W p l e rmX8_group s m args below meth c H locs 0 0 (MQ below (ms_Qi D cA a shM out.1 out.2) args s 0 0 (ms_A a shM.length)) (F0 m 0 ls []) := by
  have hx := Cx.1
  have hb := Cx.2.1
  intro p0 p1 σ H locs ls hI hl h
  unfold fX8_group at h
  refine lv_aload_n hx hb dX8_group_0 rfl (lv_at hl 0 rfl) ?_
  refine lv_iload_n hx hb dX8_group_1 rfl (lv_at hl 1 rfl) ?_
  obtain ⟨⟨r2, σ3⟩, hc1, h⟩ := ms_bdE h
  refine kX8_isGroup Cx hI hc1 wd_15_12 (Nat.le_of_ble_eq_true rfl) (Nat.le_of_ble_eq_true rfl) hl.1 (Nat.le_of_ble_eq_true rfl) dX8_group_2 (fun H locs hI => ?_)
  refine lv_if_eq (tgt := 17) hx hb dX8_group_5 rfl (fun hc => ?_) (fun hc => ?_)
  · have h := ms_ifT hc h
    refine lv_bipush (v := -2) hx hb dX8_group_17 rfl ?_
    exact ms_riw Cx hI h dX8_group_19
  · have h := ms_ifF hc h
    refine lv_iload_n hx hb dX8_group_8 rfl (lv_at hl 2 rfl) ?_
    refine lv_iconst (v := 0) hx hb dX8_group_9 rfl ?_
    refine lv_iconst (v := 5) hx hb dX8_group_10 rfl ?_
    obtain ⟨r5, hc4, h⟩ := ms_bdE h
    refine kX8_in Cx hI hc4 (Or.inl wd_10_20) (Nat.le_of_ble_eq_true rfl) (Nat.le_of_ble_eq_true rfl) hl.1 (Nat.le_of_ble_eq_true rfl) dX8_group_11 (fun H locs hI => ?_)
    refine lv_if_ne (tgt := 20) hx hb dX8_group_14 rfl (fun hc => ?_) (fun hc => ?_)
    · have h := ms_ifF hc h
      refine lv_iload_n hx hb dX8_group_20 rfl (lv_at hl 2 rfl) ?_
      refine lv_if_ne (tgt := 33) hx hb dX8_group_21 rfl (fun hc => ?_) (fun hc => ?_)
      · have h := ms_ifF hc h
        refine lv_iload_n hx hb dX8_group_33 rfl (lv_at hl 2 rfl) ?_
        refine lv_iconst (v := 1) hx hb dX8_group_34 rfl ?_
        refine lv_icmp_ne (tgt := 47) hx hb dX8_group_35 rfl (fun hc => ?_) (fun hc => ?_)
        · have h := ms_ifF hc h
          refine lv_iload_n hx hb dX8_group_47 rfl (lv_at hl 2 rfl) ?_
          refine lv_iconst (v := 4) hx hb dX8_group_48 rfl ?_
          refine lv_icmp_ge (tgt := 67) hx hb dX8_group_49 rfl (fun hc => ?_) (fun hc => ?_)
          · have h := ms_ifT hc h
            refine lv_aload_n hx hb dX8_group_67 rfl (lv_at hl 0 rfl) ?_
            refine gr_X8_15 Cx hI wd_7_0 dX8_group_68 ?_
            refine lv_iconst (v := 2) hx hb dX8_group_71 rfl ?_
            refine lv_iload_n hx hb dX8_group_72 rfl (lv_at hl 1 rfl) ?_
            refine lv_imul hx hb dX8_group_73 ?_
            refine lv_iload_n hx hb dX8_group_74 rfl (lv_at hl 2 rfl) ?_
            refine lv_iadd hx hb dX8_group_75 ?_
            refine lv_iconst (v := 4) hx hb dX8_group_76 rfl ?_
            refine lv_isub hx hb dX8_group_77 ?_
            obtain ⟨hg, h⟩ := ms_gE h
            refine ms_ld Cx hI 12 shM_12 hg dX8_group_78 ?_
            exact ms_riw Cx hI h dX8_group_79
          · have h := ms_ifF hc h
            refine lv_aload_n hx hb dX8_group_52 rfl (lv_at hl 0 rfl) ?_
            refine gr_X8_14 Cx hI wd_6_23 dX8_group_53 ?_
            refine lv_iconst (v := 2) hx hb dX8_group_56 rfl ?_
            refine lv_iload_n hx hb dX8_group_57 rfl (lv_at hl 1 rfl) ?_
            refine lv_imul hx hb dX8_group_58 ?_
            refine lv_iload_n hx hb dX8_group_59 rfl (lv_at hl 2 rfl) ?_
            refine lv_iadd hx hb dX8_group_60 ?_
            refine lv_iconst (v := 2) hx hb dX8_group_61 rfl ?_
            refine lv_isub hx hb dX8_group_62 ?_
            obtain ⟨hg, h⟩ := ms_gE h
            refine ms_ld Cx hI 11 shM_11 hg dX8_group_63 ?_
            refine lv_goto (tgt := 79) hx hb dX8_group_64 rfl ?_
            exact ms_riw Cx hI h dX8_group_79
        · have h := ms_ifT hc h
          refine lv_aload_n hx hb dX8_group_38 rfl (lv_at hl 0 rfl) ?_
          refine gr_X8_13 Cx hI wd_6_22 dX8_group_39 ?_
          refine lv_iload_n hx hb dX8_group_42 rfl (lv_at hl 1 rfl) ?_
          obtain ⟨hg, h⟩ := ms_gE h
          refine ms_ld Cx hI 10 shM_10 hg dX8_group_43 ?_
          refine lv_goto (tgt := 79) hx hb dX8_group_44 rfl ?_
          exact ms_riw Cx hI h dX8_group_79
      · have h := ms_ifT hc h
        refine lv_aload_n hx hb dX8_group_24 rfl (lv_at hl 0 rfl) ?_
        refine gr_X8_12 Cx hI wd_6_21 dX8_group_25 ?_
        refine lv_iload_n hx hb dX8_group_28 rfl (lv_at hl 1 rfl) ?_
        obtain ⟨hg, h⟩ := ms_gE h
        refine ms_ld Cx hI 9 shM_9 hg dX8_group_29 ?_
        refine lv_goto (tgt := 79) hx hb dX8_group_30 rfl ?_
        exact ms_riw Cx hI h dX8_group_79
    · have h := ms_ifT hc h
      refine lv_bipush (v := -2) hx hb dX8_group_17 rfl ?_
      exact ms_riw Cx hI h dX8_group_19
theorem yvX8_group : ms_YV yX8_group RX8 cX8_group 3 (some .int) 2 := ⟨wd_15_9, wd_15_10, wd_1_5, wd_15_11, rfl, by decide +kernel, by decide +kernel, by decide +kernel⟩
set_option maxHeartbeats 4000000 in
theorem metX8_group (l : Launch) (hDis : ms_Dis a shM.length) {σ : Mm} {p0 : Int32} {p1 : Int32} {out : Int32 × Mm} (h : fX8_group p0 p1 σ = some out) : Met l yX8_group (.code yX8_group cX8_group 3 (some .int) :: wsL_law) rmX8_group (ms_Pc D cA a shM [.ref (a 0), .int p0, .int p1] σ) (ms_Qi D cA a shM out.1 out.2) 0 0 (ms_A a shM.length) := by
  refine Met.ofW (cc := cX8_group) (maxL := 3) (ret := (some .int)) (by decide) rfl ?_
  intro p e s m args below meth c s₁ B hml hv
  obtain ⟨rfl, hK, hN, hP⟩ := hv
  have hl := lv_entry ([.ref (a 0), .int p0, .int p1]) (n := 3) (Nat.le_of_ble_eq_true rfl)
  rw [lg_entry_eq]
  generalize (lg_sl ([.ref (a 0), .int p0, .int p1]) ++ List.replicate (3 - (lg_sl ([.ref (a 0), .int p0, .int p1])).length) Slot.unset).toArray = ls at hl ⊢
  exact wX8_group ⟨B.exec, B.bytes, hml, findClass_of_methodNamed B.named, fun w hw => atoms_spec (ws := .code yX8_group cX8_group 3 (some .int) :: wsL_law) B.pre w (List.mem_cons_of_mem _ hw), B.returns, B.notSynchronized, hK, hDis, hN⟩ out p0 p1 σ s.heap [] ls ⟨hP, va_S.rf⟩ hl h
theorem kX8_group (Cx : ms_C p s m args meth c D cA a shM cc nL own ret) {σ : Mm} {H : Heap} {locs : List Loc} (hI : ms_I D cA a shM s σ H locs) {p0 : Int32} {p1 : Int32} {out : Int32 × Mm} (h : fX8_group p0 p1 σ = some out) (hl : Cond.methodLink own idx yX8_group ∈ wsL_law) (hf : 8 + 1 ≤ R.frames) (hlo : 8 + (3 + 11) + 178 ≤ R.locals) (hsz : ls.size = nL) (hW : (rest.map fun v => v.category).sum ≤ 8) (hd : decode cc pc = .ok (.invokevirtual idx, 3)) (kk : ∀ (H1 : Heap) (locs1 : List Loc), ms_I D cA a shM s out.2 H1 locs1 → W p l e R s m args below meth c H1 locs1 0 0 Q (F0 m (pc + 3) ls (.int out.1 :: rest))) : W p l e R s m args below meth c H locs 0 0 Q (F0 m pc ls (.int p1 :: .int p0 :: .ref (a 0) :: rest)) :=
  ms_ci hI (ms_runV (av := [.int p0, .int p1]) Cx hI 0 shM_0 (ci := 8) rfl rfl yvX8_group (metX8_group l Cx.2.2.2.2.2.2.2.2.1  h) ⟨rfl, rfl⟩ hl ⟨hf, hlo⟩ rfl hsz rfl hW ⟨Nat.zero_le _, Nat.zero_le _⟩ hd) kk
/-! X8 mostOf (I)I -/
theorem dX8_mostOf_0 : decode cX8_mostOf 0 = .ok (.iload_n 0, 1) := by decide +kernel
theorem dX8_mostOf_1 : decode cX8_mostOf 1 = .ok (.ifCond .ne 8, 3) := by decide +kernel
theorem dX8_mostOf_4 : decode cX8_mostOf 4 = .ok (.bipush 9, 2) := by decide +kernel
theorem dX8_mostOf_6 : decode cX8_mostOf 6 = .ok (.goto 46, 3) := by decide +kernel
theorem dX8_mostOf_9 : decode cX8_mostOf 9 = .ok (.iload_n 0, 1) := by decide +kernel
theorem dX8_mostOf_10 : decode cX8_mostOf 10 = .ok (.iconst 1, 1) := by decide +kernel
theorem dX8_mostOf_11 : decode cX8_mostOf 11 = .ok (.if_icmp .eq 14, 3) := by decide +kernel
theorem dX8_mostOf_14 : decode cX8_mostOf 14 = .ok (.iload_n 0, 1) := by decide +kernel
theorem dX8_mostOf_15 : decode cX8_mostOf 15 = .ok (.iconst 2, 1) := by decide +kernel
theorem dX8_mostOf_16 : decode cX8_mostOf 16 = .ok (.if_icmp .eq 9, 3) := by decide +kernel
theorem dX8_mostOf_19 : decode cX8_mostOf 19 = .ok (.iload_n 0, 1) := by decide +kernel
theorem dX8_mostOf_20 : decode cX8_mostOf 20 = .ok (.bipush 7, 2) := by decide +kernel
theorem dX8_mostOf_22 : decode cX8_mostOf 22 = .ok (.if_icmp .ne 9, 3) := by decide +kernel
theorem dX8_mostOf_25 : decode cX8_mostOf 25 = .ok (.sipush 999, 3) := by decide +kernel
theorem dX8_mostOf_28 : decode cX8_mostOf 28 = .ok (.goto 24, 3) := by decide +kernel
theorem dX8_mostOf_31 : decode cX8_mostOf 31 = .ok (.iload_n 0, 1) := by decide +kernel
theorem dX8_mostOf_32 : decode cX8_mostOf 32 = .ok (.iconst 4, 1) := by decide +kernel
theorem dX8_mostOf_33 : decode cX8_mostOf 33 = .ok (.if_icmp .ne 8, 3) := by decide +kernel
theorem dX8_mostOf_36 : decode cX8_mostOf 36 = .ok (.bipush 9, 2) := by decide +kernel
theorem dX8_mostOf_38 : decode cX8_mostOf 38 = .ok (.goto 14, 3) := by decide +kernel
theorem dX8_mostOf_41 : decode cX8_mostOf 41 = .ok (.iload_n 0, 1) := by decide +kernel
theorem dX8_mostOf_42 : decode cX8_mostOf 42 = .ok (.iconst 5, 1) := by decide +kernel
theorem dX8_mostOf_43 : decode cX8_mostOf 43 = .ok (.if_icmp .ne 7, 3) := by decide +kernel
theorem dX8_mostOf_46 : decode cX8_mostOf 46 = .ok (.iconst 1, 1) := by decide +kernel
theorem dX8_mostOf_47 : decode cX8_mostOf 47 = .ok (.goto 5, 3) := by decide +kernel
theorem dX8_mostOf_50 : decode cX8_mostOf 50 = .ok (.bipush 99, 2) := by decide +kernel
theorem dX8_mostOf_52 : decode cX8_mostOf 52 = .ok (.ireturn, 1) := by decide +kernel
abbrev rmX8_mostOf : Room := { frames := 0, cells := 0, slots := 0, locals := 0 }
set_option maxHeartbeats 4000000 in
set_option maxRecDepth 100000 in
theorem wX8_mostOf (Cx : ms_C p s m args meth c D cA a shM cX8_mostOf 1 RX8 (some .int)) (out : Int32) {σ : Mm} : ∀ (p0 : Int32) , ∀ (H : Heap) (locs : List Loc) (ls : Array Slot), ms_I D cA a shM s σ H locs → lv_has ls 1 [(0, .int p0)] → fX8_mostOf p0 = some out → W p l e rmX8_mostOf s m args below meth c H locs 0 0 (MQ below (ms_Qi D cA a shM out σ) args s 0 0 (ms_A a shM.length)) (F0 m 0 ls []) := by
  have hx := Cx.1
  have hb := Cx.2.1
  intro p0 H locs ls hI hl h
  unfold fX8_mostOf at h
  refine lv_iload_n hx hb dX8_mostOf_0 rfl (lv_at hl 0 rfl) ?_
  refine lv_if_ne (tgt := 9) hx hb dX8_mostOf_1 rfl (fun hc => ?_) (fun hc => ?_)
  · have h := ms_ifF hc h
    refine lv_iload_n hx hb dX8_mostOf_9 rfl (lv_at hl 0 rfl) ?_
    refine lv_iconst (v := 1) hx hb dX8_mostOf_10 rfl ?_
    refine lv_icmp_eq (tgt := 25) hx hb dX8_mostOf_11 rfl (fun hc => ?_) (fun hc => ?_)
    · have h := ms_ifT hc h
      refine lv_sipush (v := 999) hx hb dX8_mostOf_25 rfl ?_
      refine lv_goto (tgt := 52) hx hb dX8_mostOf_28 rfl ?_
      exact ms_ri Cx hI (Option.some.inj h) rfl dX8_mostOf_52
    · have h := ms_ifF hc h
      refine lv_iload_n hx hb dX8_mostOf_14 rfl (lv_at hl 0 rfl) ?_
      refine lv_iconst (v := 2) hx hb dX8_mostOf_15 rfl ?_
      refine lv_icmp_eq (tgt := 25) hx hb dX8_mostOf_16 rfl (fun hc => ?_) (fun hc => ?_)
      · have h := ms_ifT hc h
        refine lv_sipush (v := 999) hx hb dX8_mostOf_25 rfl ?_
        refine lv_goto (tgt := 52) hx hb dX8_mostOf_28 rfl ?_
        exact ms_ri Cx hI (Option.some.inj h) rfl dX8_mostOf_52
      · have h := ms_ifF hc h
        refine lv_iload_n hx hb dX8_mostOf_19 rfl (lv_at hl 0 rfl) ?_
        refine lv_bipush (v := 7) hx hb dX8_mostOf_20 rfl ?_
        refine lv_icmp_ne (tgt := 31) hx hb dX8_mostOf_22 rfl (fun hc => ?_) (fun hc => ?_)
        · have h := ms_ifF hc h
          refine lv_iload_n hx hb dX8_mostOf_31 rfl (lv_at hl 0 rfl) ?_
          refine lv_iconst (v := 4) hx hb dX8_mostOf_32 rfl ?_
          refine lv_icmp_ne (tgt := 41) hx hb dX8_mostOf_33 rfl (fun hc => ?_) (fun hc => ?_)
          · have h := ms_ifF hc h
            refine lv_iload_n hx hb dX8_mostOf_41 rfl (lv_at hl 0 rfl) ?_
            refine lv_iconst (v := 5) hx hb dX8_mostOf_42 rfl ?_
            refine lv_icmp_ne (tgt := 50) hx hb dX8_mostOf_43 rfl (fun hc => ?_) (fun hc => ?_)
            · have h := ms_ifF hc h
              refine lv_bipush (v := 99) hx hb dX8_mostOf_50 rfl ?_
              exact ms_ri Cx hI (Option.some.inj h) rfl dX8_mostOf_52
            · have h := ms_ifT hc h
              refine lv_iconst (v := 1) hx hb dX8_mostOf_46 rfl ?_
              refine lv_goto (tgt := 52) hx hb dX8_mostOf_47 rfl ?_
              exact ms_ri Cx hI (Option.some.inj h) rfl dX8_mostOf_52
          · have h := ms_ifT hc h
            refine lv_bipush (v := 9) hx hb dX8_mostOf_36 rfl ?_
            refine lv_goto (tgt := 52) hx hb dX8_mostOf_38 rfl ?_
            exact ms_ri Cx hI (Option.some.inj h) rfl dX8_mostOf_52
        · have h := ms_ifT hc h
          refine lv_sipush (v := 999) hx hb dX8_mostOf_25 rfl ?_
          refine lv_goto (tgt := 52) hx hb dX8_mostOf_28 rfl ?_
          exact ms_ri Cx hI (Option.some.inj h) rfl dX8_mostOf_52
  · have h := ms_ifT hc h
    refine lv_bipush (v := 9) hx hb dX8_mostOf_4 rfl ?_
    refine lv_goto (tgt := 52) hx hb dX8_mostOf_6 rfl ?_
    exact ms_ri Cx hI (Option.some.inj h) rfl dX8_mostOf_52
theorem yvX8_mostOf : ms_YS yX8_mostOf cX8_mostOf 1 (some .int) 1 := ⟨wd_16_3, wd_1_5, wd_16_4, by decide +kernel, by decide +kernel, by decide +kernel⟩
set_option maxHeartbeats 4000000 in
theorem metX8_mostOf (l : Launch) (hDis : ms_Dis a shM.length) {σ : Mm} {p0 : Int32} {out : Int32} (h : fX8_mostOf p0 = some out) : Met l yX8_mostOf (.code yX8_mostOf cX8_mostOf 1 (some .int) :: wsL_law) rmX8_mostOf (ms_Pc D cA a shM [.int p0] σ) (ms_Qi D cA a shM out σ) 0 0 (ms_A a shM.length) := by
  refine Met.ofW (cc := cX8_mostOf) (maxL := 1) (ret := (some .int)) (by decide) rfl ?_
  intro p e s m args below meth c s₁ B hml hv
  obtain ⟨rfl, hK, hN, hP⟩ := hv
  have hl := lv_entry ([.int p0]) (n := 1) (Nat.le_of_ble_eq_true rfl)
  rw [lg_entry_eq]
  generalize (lg_sl ([.int p0]) ++ List.replicate (1 - (lg_sl ([.int p0])).length) Slot.unset).toArray = ls at hl ⊢
  exact wX8_mostOf ⟨B.exec, B.bytes, hml, findClass_of_methodNamed B.named, fun w hw => atoms_spec (ws := .code yX8_mostOf cX8_mostOf 1 (some .int) :: wsL_law) B.pre w (List.mem_cons_of_mem _ hw), B.returns, B.notSynchronized, hK, hDis, hN⟩ out p0 s.heap [] ls ⟨hP, va_S.rf⟩ hl h
theorem kX8_mostOf (Cx : ms_C p s m args meth c D cA a shM cc nL own ret) {σ : Mm} {H : Heap} {locs : List Loc} (hI : ms_I D cA a shM s σ H locs) {p0 : Int32} {out : Int32} (h : fX8_mostOf p0 = some out) (hl : Cond.methodLink own idx yX8_mostOf ∈ wsL_law ∨ (own, idx, yX8_mostOf) ∈ ms_nq) (hf : 0 + 1 ≤ R.frames) (hlo : 8 + (1 + 11) + 0 ≤ R.locals) (hsz : ls.size = nL) (hW : (rest.map fun v => v.category).sum ≤ 8) (hd : decode cc pc = .ok (.invokestatic idx, 3)) (kk : ∀ (H1 : Heap) (locs1 : List Loc), ms_I D cA a shM s σ H1 locs1 → W p l e R s m args below meth c H1 locs1 0 0 Q (F0 m (pc + 3) ls (.int out :: rest))) : W p l e R s m args below meth c H locs 0 0 Q (F0 m pc ls (.int p0 :: rest)) :=
  ms_ci hI (ms_runS (av := [.int p0]) Cx hI yvX8_mostOf (metX8_mostOf l Cx.2.2.2.2.2.2.2.2.1  h) ⟨rfl, rfl⟩ hl ⟨hf, hlo⟩ rfl hsz rfl hW ⟨Nat.zero_le _, Nat.zero_le _⟩ hd) kk
/-! X8 set (II)I -/
theorem dX8_set_0 : decode cX8_set 0 = .ok (.iload_n 1, 1) := by decide +kernel
theorem dX8_set_1 : decode cX8_set 1 = .ok (.iconst 0, 1) := by decide +kernel
theorem dX8_set_2 : decode cX8_set 2 = .ok (.bipush 8, 2) := by decide +kernel
theorem dX8_set_4 : decode cX8_set 4 = .ok (.invokestatic 95, 3) := by decide +kernel
theorem dX8_set_7 : decode cX8_set 7 = .ok (.ifCond .eq 24, 3) := by decide +kernel
theorem dX8_set_10 : decode cX8_set 10 = .ok (.iload_n 2, 1) := by decide +kernel
theorem dX8_set_11 : decode cX8_set 11 = .ok (.iload_n 1, 1) := by decide +kernel
theorem dX8_set_12 : decode cX8_set 12 = .ok (.iconst 2, 1) := by decide +kernel
theorem dX8_set_13 : decode cX8_set 13 = .ok (.if_icmp .ge 7, 3) := by decide +kernel
theorem dX8_set_16 : decode cX8_set 16 = .ok (.iconst 1, 1) := by decide +kernel
theorem dX8_set_17 : decode cX8_set 17 = .ok (.goto 4, 3) := by decide +kernel
theorem dX8_set_20 : decode cX8_set 20 = .ok (.iconst 0, 1) := by decide +kernel
theorem dX8_set_21 : decode cX8_set 21 = .ok (.iload_n 1, 1) := by decide +kernel
theorem dX8_set_22 : decode cX8_set 22 = .ok (.invokestatic 157, 3) := by decide +kernel
theorem dX8_set_25 : decode cX8_set 25 = .ok (.invokestatic 95, 3) := by decide +kernel
theorem dX8_set_28 : decode cX8_set 28 = .ok (.ifCond .ne 6, 3) := by decide +kernel
theorem dX8_set_31 : decode cX8_set 31 = .ok (.bipush (-5), 2) := by decide +kernel
theorem dX8_set_33 : decode cX8_set 33 = .ok (.ireturn, 1) := by decide +kernel
theorem dX8_set_34 : decode cX8_set 34 = .ok (.aload_n 0, 1) := by decide +kernel
theorem dX8_set_35 : decode cX8_set 35 = .ok (.getfield 13, 3) := by decide +kernel
theorem dX8_set_38 : decode cX8_set 38 = .ok (.iload_n 1, 1) := by decide +kernel
theorem dX8_set_39 : decode cX8_set 39 = .ok (.iaload, 1) := by decide +kernel
theorem dX8_set_40 : decode cX8_set 40 = .ok (.istore_n 3, 1) := by decide +kernel
theorem dX8_set_41 : decode cX8_set 41 = .ok (.aload_n 0, 1) := by decide +kernel
theorem dX8_set_42 : decode cX8_set 42 = .ok (.getfield 13, 3) := by decide +kernel
theorem dX8_set_45 : decode cX8_set 45 = .ok (.iload_n 1, 1) := by decide +kernel
theorem dX8_set_46 : decode cX8_set 46 = .ok (.iload_n 2, 1) := by decide +kernel
theorem dX8_set_47 : decode cX8_set 47 = .ok (.iastore, 1) := by decide +kernel
theorem dX8_set_48 : decode cX8_set 48 = .ok (.iload_n 3, 1) := by decide +kernel
theorem dX8_set_49 : decode cX8_set 49 = .ok (.ireturn, 1) := by decide +kernel
abbrev rmX8_set : Room := { frames := 1, cells := 0, slots := 0, locals := 22 }
set_option maxHeartbeats 4000000 in
set_option maxRecDepth 100000 in
theorem wX8_set_21 (Cx : ms_C p s m args meth c D cA a shM cX8_set 4 RX8 (some .int)) (out : Int32 × Mm) : ∀ (y1 : Int32) (y2 : Int32) (y3 : Int32) (y4 : Int32) , ∀ (σ : Mm) (H : Heap) (locs : List Loc) (ls : Array Slot), ms_I D cA a shM s σ H locs → lv_has ls 4 [(0, .ref (a 0)), (1, .int y1), (2, .int y2)] → fX8_set_21 y1 y2 y3 y4 σ = some out → W p l e rmX8_set s m args below meth c H locs 0 0 (MQ below (ms_Qi D cA a shM out.1 out.2) args s 0 0 (ms_A a shM.length)) (F0 m 21 ls [.int y3, .int y4]) := by
  have hx := Cx.1
  have hb := Cx.2.1
  intro y1 y2 y3 y4 σ H locs ls hI hl h
  unfold fX8_set_21 at h
  refine lv_iload_n hx hb dX8_set_21 rfl (lv_at hl 1 rfl) ?_
  obtain ⟨r2, hc1, h⟩ := ms_bdE h
  refine kX8_mostOf Cx hI hc1 (Or.inl wd_16_2) (Nat.le_of_ble_eq_true rfl) (Nat.le_of_ble_eq_true rfl) hl.1 (Nat.le_of_ble_eq_true rfl) dX8_set_22 (fun H locs hI => ?_)
  obtain ⟨r4, hc3, h⟩ := ms_bdE h
  refine kX8_in Cx hI hc3 (Or.inl wd_10_20) (Nat.le_of_ble_eq_true rfl) (Nat.le_of_ble_eq_true rfl) hl.1 (Nat.le_of_ble_eq_true rfl) dX8_set_25 (fun H locs hI => ?_)
  refine lv_if_ne (tgt := 34) hx hb dX8_set_28 rfl (fun hc => ?_) (fun hc => ?_)
  · have h := ms_ifF hc h
    refine lv_aload_n hx hb dX8_set_34 rfl (lv_at hl 0 rfl) ?_
    refine gr_X8_2 Cx hI wd_6_14 dX8_set_35 ?_
    refine lv_iload_n hx hb dX8_set_38 rfl (lv_at hl 1 rfl) ?_
    obtain ⟨hg, h⟩ := ms_gE h
    refine ms_ld Cx hI 2 shM_2 hg dX8_set_39 ?_
    refine lv_istore_n (lv' := [(3, .int (σ 2 (ms_ix y1))), (0, .ref (a 0)), (1, .int y1), (2, .int y2)]) hx hb dX8_set_40 rfl hl (by decide) rfl (fun ls hl => ?_)
    refine lv_aload_n hx hb dX8_set_41 rfl (lv_at hl 1 rfl) ?_
    refine gr_X8_2 Cx hI wd_6_14 dX8_set_42 ?_
    refine lv_iload_n hx hb dX8_set_45 rfl (lv_at hl 2 rfl) ?_
    refine lv_iload_n hx hb dX8_set_46 rfl (lv_at hl 3 rfl) ?_
    obtain ⟨hg, h⟩ := ms_gE h
    refine ms_sto Cx hI 2 shM_2 hg dX8_set_47 (fun H locs σ5 eσ5 hI => ?_)
    have h := ms_ltE eσ5 h
    refine lv_iload_n hx hb dX8_set_48 rfl (lv_at hl 0 rfl) ?_
    exact ms_riw Cx hI h dX8_set_49
  · have h := ms_ifT hc h
    refine lv_bipush (v := -5) hx hb dX8_set_31 rfl ?_
    exact ms_riw Cx hI h dX8_set_33
set_option maxHeartbeats 4000000 in
set_option maxRecDepth 100000 in
theorem wX8_set (Cx : ms_C p s m args meth c D cA a shM cX8_set 4 RX8 (some .int)) (out : Int32 × Mm) : ∀ (p0 : Int32) (p1 : Int32) , ∀ (σ : Mm) (H : Heap) (locs : List Loc) (ls : Array Slot), ms_I D cA a shM s σ H locs → lv_has ls 4 [(0, .ref (a 0)), (1, .int p0), (2, .int p1)] → fX8_set p0 p1 σ = some out → W p l e rmX8_set s m args below meth c H locs 0 0 (MQ below (ms_Qi D cA a shM out.1 out.2) args s 0 0 (ms_A a shM.length)) (F0 m 0 ls []) := by
  have hx := Cx.1
  have hb := Cx.2.1
  intro p0 p1 σ H locs ls hI hl h
  unfold fX8_set at h
  refine lv_iload_n hx hb dX8_set_0 rfl (lv_at hl 1 rfl) ?_
  refine lv_iconst (v := 0) hx hb dX8_set_1 rfl ?_
  refine lv_bipush (v := 8) hx hb dX8_set_2 rfl ?_
  obtain ⟨r2, hc1, h⟩ := ms_bdE h
  refine kX8_in Cx hI hc1 (Or.inl wd_10_20) (Nat.le_of_ble_eq_true rfl) (Nat.le_of_ble_eq_true rfl) hl.1 (Nat.le_of_ble_eq_true rfl) dX8_set_4 (fun H locs hI => ?_)
  refine lv_if_eq (tgt := 31) hx hb dX8_set_7 rfl (fun hc => ?_) (fun hc => ?_)
  · have h := ms_ifT hc h
    refine lv_bipush (v := -5) hx hb dX8_set_31 rfl ?_
    exact ms_riw Cx hI h dX8_set_33
  · have h := ms_ifF hc h
    refine lv_iload_n hx hb dX8_set_10 rfl (lv_at hl 2 rfl) ?_
    refine lv_iload_n hx hb dX8_set_11 rfl (lv_at hl 1 rfl) ?_
    refine lv_iconst (v := 2) hx hb dX8_set_12 rfl ?_
    refine lv_icmp_ge (tgt := 20) hx hb dX8_set_13 rfl (fun hc => ?_) (fun hc => ?_)
    · have h := ms_ifT hc h
      refine lv_iconst (v := 0) hx hb dX8_set_20 rfl ?_
      exact wX8_set_21 Cx out  p0 p1 0 p1 σ _ _ _ hI (lv_sub hl [0, 1, 2] rfl) h
    · have h := ms_ifF hc h
      refine lv_iconst (v := 1) hx hb dX8_set_16 rfl ?_
      refine lv_goto (tgt := 21) hx hb dX8_set_17 rfl ?_
      exact wX8_set_21 Cx out  p0 p1 1 p1 σ _ _ _ hI (lv_sub hl [0, 1, 2] rfl) h
theorem yvX8_set : ms_YV yX8_set RX8 cX8_set 4 (some .int) 2 := ⟨wd_15_23, wd_16_0, wd_1_5, wd_16_1, rfl, by decide +kernel, by decide +kernel, by decide +kernel⟩
set_option maxHeartbeats 4000000 in
theorem metX8_set (l : Launch) (hDis : ms_Dis a shM.length) {σ : Mm} {p0 : Int32} {p1 : Int32} {out : Int32 × Mm} (h : fX8_set p0 p1 σ = some out) : Met l yX8_set (.code yX8_set cX8_set 4 (some .int) :: wsL_law) rmX8_set (ms_Pc D cA a shM [.ref (a 0), .int p0, .int p1] σ) (ms_Qi D cA a shM out.1 out.2) 0 0 (ms_A a shM.length) := by
  refine Met.ofW (cc := cX8_set) (maxL := 4) (ret := (some .int)) (by decide) rfl ?_
  intro p e s m args below meth c s₁ B hml hv
  obtain ⟨rfl, hK, hN, hP⟩ := hv
  have hl := lv_entry ([.ref (a 0), .int p0, .int p1]) (n := 4) (Nat.le_of_ble_eq_true rfl)
  rw [lg_entry_eq]
  generalize (lg_sl ([.ref (a 0), .int p0, .int p1]) ++ List.replicate (4 - (lg_sl ([.ref (a 0), .int p0, .int p1])).length) Slot.unset).toArray = ls at hl ⊢
  exact wX8_set ⟨B.exec, B.bytes, hml, findClass_of_methodNamed B.named, fun w hw => atoms_spec (ws := .code yX8_set cX8_set 4 (some .int) :: wsL_law) B.pre w (List.mem_cons_of_mem _ hw), B.returns, B.notSynchronized, hK, hDis, hN⟩ out p0 p1 σ s.heap [] ls ⟨hP, va_S.rf⟩ hl h
theorem kX8_set (Cx : ms_C p s m args meth c D cA a shM cc nL own ret) {σ : Mm} {H : Heap} {locs : List Loc} (hI : ms_I D cA a shM s σ H locs) {p0 : Int32} {p1 : Int32} {out : Int32 × Mm} (h : fX8_set p0 p1 σ = some out) (hl : Cond.methodLink own idx yX8_set ∈ wsL_law) (hf : 1 + 1 ≤ R.frames) (hlo : 8 + (4 + 11) + 22 ≤ R.locals) (hsz : ls.size = nL) (hW : (rest.map fun v => v.category).sum ≤ 8) (hd : decode cc pc = .ok (.invokevirtual idx, 3)) (kk : ∀ (H1 : Heap) (locs1 : List Loc), ms_I D cA a shM s out.2 H1 locs1 → W p l e R s m args below meth c H1 locs1 0 0 Q (F0 m (pc + 3) ls (.int out.1 :: rest))) : W p l e R s m args below meth c H locs 0 0 Q (F0 m pc ls (.int p1 :: .int p0 :: .ref (a 0) :: rest)) :=
  ms_ci hI (ms_runV (av := [.int p0, .int p1]) Cx hI 0 shM_0 (ci := 8) rfl rfl yvX8_set (metX8_set l Cx.2.2.2.2.2.2.2.2.1  h) ⟨rfl, rfl⟩ hl ⟨hf, hlo⟩ rfl hsz rfl hW ⟨Nat.zero_le _, Nat.zero_le _⟩ hd) kk
/-! X8 shut (II)I -/
theorem dX8_shut_0 : decode cX8_shut 0 = .ok (.iload_n 1, 1) := by decide +kernel
theorem dX8_shut_1 : decode cX8_shut 1 = .ok (.iconst 0, 1) := by decide +kernel
theorem dX8_shut_2 : decode cX8_shut 2 = .ok (.iconst 5, 1) := by decide +kernel
theorem dX8_shut_3 : decode cX8_shut 3 = .ok (.invokestatic 95, 3) := by decide +kernel
theorem dX8_shut_6 : decode cX8_shut 6 = .ok (.ifCond .eq 12, 3) := by decide +kernel
theorem dX8_shut_9 : decode cX8_shut 9 = .ok (.iload_n 2, 1) := by decide +kernel
theorem dX8_shut_10 : decode cX8_shut 10 = .ok (.iconst 0, 1) := by decide +kernel
theorem dX8_shut_11 : decode cX8_shut 11 = .ok (.iconst 1, 1) := by decide +kernel
theorem dX8_shut_12 : decode cX8_shut 12 = .ok (.invokestatic 95, 3) := by decide +kernel
theorem dX8_shut_15 : decode cX8_shut 15 = .ok (.ifCond .ne 6, 3) := by decide +kernel
theorem dX8_shut_18 : decode cX8_shut 18 = .ok (.bipush (-2), 2) := by decide +kernel
theorem dX8_shut_20 : decode cX8_shut 20 = .ok (.ireturn, 1) := by decide +kernel
theorem dX8_shut_21 : decode cX8_shut 21 = .ok (.aload_n 0, 1) := by decide +kernel
theorem dX8_shut_22 : decode cX8_shut 22 = .ok (.getfield 28, 3) := by decide +kernel
theorem dX8_shut_25 : decode cX8_shut 25 = .ok (.iload_n 1, 1) := by decide +kernel
theorem dX8_shut_26 : decode cX8_shut 26 = .ok (.iaload, 1) := by decide +kernel
theorem dX8_shut_27 : decode cX8_shut 27 = .ok (.istore_n 3, 1) := by decide +kernel
theorem dX8_shut_28 : decode cX8_shut 28 = .ok (.aload_n 0, 1) := by decide +kernel
theorem dX8_shut_29 : decode cX8_shut 29 = .ok (.getfield 28, 3) := by decide +kernel
theorem dX8_shut_32 : decode cX8_shut 32 = .ok (.iload_n 1, 1) := by decide +kernel
theorem dX8_shut_33 : decode cX8_shut 33 = .ok (.iload_n 2, 1) := by decide +kernel
theorem dX8_shut_34 : decode cX8_shut 34 = .ok (.iastore, 1) := by decide +kernel
theorem dX8_shut_35 : decode cX8_shut 35 = .ok (.iload_n 3, 1) := by decide +kernel
theorem dX8_shut_36 : decode cX8_shut 36 = .ok (.ireturn, 1) := by decide +kernel
abbrev rmX8_shut : Room := { frames := 1, cells := 0, slots := 0, locals := 22 }
set_option maxHeartbeats 4000000 in
set_option maxRecDepth 100000 in
theorem wX8_shut (Cx : ms_C p s m args meth c D cA a shM cX8_shut 4 RX8 (some .int)) (out : Int32 × Mm) : ∀ (p0 : Int32) (p1 : Int32) , ∀ (σ : Mm) (H : Heap) (locs : List Loc) (ls : Array Slot), ms_I D cA a shM s σ H locs → lv_has ls 4 [(0, .ref (a 0)), (1, .int p0), (2, .int p1)] → fX8_shut p0 p1 σ = some out → W p l e rmX8_shut s m args below meth c H locs 0 0 (MQ below (ms_Qi D cA a shM out.1 out.2) args s 0 0 (ms_A a shM.length)) (F0 m 0 ls []) := by
  have hx := Cx.1
  have hb := Cx.2.1
  intro p0 p1 σ H locs ls hI hl h
  unfold fX8_shut at h
  refine lv_iload_n hx hb dX8_shut_0 rfl (lv_at hl 1 rfl) ?_
  refine lv_iconst (v := 0) hx hb dX8_shut_1 rfl ?_
  refine lv_iconst (v := 5) hx hb dX8_shut_2 rfl ?_
  obtain ⟨r2, hc1, h⟩ := ms_bdE h
  refine kX8_in Cx hI hc1 (Or.inl wd_10_20) (Nat.le_of_ble_eq_true rfl) (Nat.le_of_ble_eq_true rfl) hl.1 (Nat.le_of_ble_eq_true rfl) dX8_shut_3 (fun H locs hI => ?_)
  refine lv_if_eq (tgt := 18) hx hb dX8_shut_6 rfl (fun hc => ?_) (fun hc => ?_)
  · have h := ms_ifT hc h
    refine lv_bipush (v := -2) hx hb dX8_shut_18 rfl ?_
    exact ms_riw Cx hI h dX8_shut_20
  · have h := ms_ifF hc h
    refine lv_iload_n hx hb dX8_shut_9 rfl (lv_at hl 2 rfl) ?_
    refine lv_iconst (v := 0) hx hb dX8_shut_10 rfl ?_
    refine lv_iconst (v := 1) hx hb dX8_shut_11 rfl ?_
    obtain ⟨r4, hc3, h⟩ := ms_bdE h
    refine kX8_in Cx hI hc3 (Or.inl wd_10_20) (Nat.le_of_ble_eq_true rfl) (Nat.le_of_ble_eq_true rfl) hl.1 (Nat.le_of_ble_eq_true rfl) dX8_shut_12 (fun H locs hI => ?_)
    refine lv_if_ne (tgt := 21) hx hb dX8_shut_15 rfl (fun hc => ?_) (fun hc => ?_)
    · have h := ms_ifF hc h
      refine lv_aload_n hx hb dX8_shut_21 rfl (lv_at hl 0 rfl) ?_
      refine gr_X8_8 Cx hI wd_6_19 dX8_shut_22 ?_
      refine lv_iload_n hx hb dX8_shut_25 rfl (lv_at hl 1 rfl) ?_
      obtain ⟨hg, h⟩ := ms_gE h
      refine ms_ld Cx hI 7 shM_7 hg dX8_shut_26 ?_
      refine lv_istore_n (lv' := [(3, .int (σ 7 (ms_ix p0))), (0, .ref (a 0)), (1, .int p0), (2, .int p1)]) hx hb dX8_shut_27 rfl hl (by decide) rfl (fun ls hl => ?_)
      refine lv_aload_n hx hb dX8_shut_28 rfl (lv_at hl 1 rfl) ?_
      refine gr_X8_8 Cx hI wd_6_19 dX8_shut_29 ?_
      refine lv_iload_n hx hb dX8_shut_32 rfl (lv_at hl 2 rfl) ?_
      refine lv_iload_n hx hb dX8_shut_33 rfl (lv_at hl 3 rfl) ?_
      obtain ⟨hg, h⟩ := ms_gE h
      refine ms_sto Cx hI 7 shM_7 hg dX8_shut_34 (fun H locs σ5 eσ5 hI => ?_)
      have h := ms_ltE eσ5 h
      refine lv_iload_n hx hb dX8_shut_35 rfl (lv_at hl 0 rfl) ?_
      exact ms_riw Cx hI h dX8_shut_36
    · have h := ms_ifT hc h
      refine lv_bipush (v := -2) hx hb dX8_shut_18 rfl ?_
      exact ms_riw Cx hI h dX8_shut_20
theorem yvX8_shut : ms_YV yX8_shut RX8 cX8_shut 4 (some .int) 2 := ⟨wd_16_10, wd_16_11, wd_1_5, wd_16_12, rfl, by decide +kernel, by decide +kernel, by decide +kernel⟩
set_option maxHeartbeats 4000000 in
theorem metX8_shut (l : Launch) (hDis : ms_Dis a shM.length) {σ : Mm} {p0 : Int32} {p1 : Int32} {out : Int32 × Mm} (h : fX8_shut p0 p1 σ = some out) : Met l yX8_shut (.code yX8_shut cX8_shut 4 (some .int) :: wsL_law) rmX8_shut (ms_Pc D cA a shM [.ref (a 0), .int p0, .int p1] σ) (ms_Qi D cA a shM out.1 out.2) 0 0 (ms_A a shM.length) := by
  refine Met.ofW (cc := cX8_shut) (maxL := 4) (ret := (some .int)) (by decide) rfl ?_
  intro p e s m args below meth c s₁ B hml hv
  obtain ⟨rfl, hK, hN, hP⟩ := hv
  have hl := lv_entry ([.ref (a 0), .int p0, .int p1]) (n := 4) (Nat.le_of_ble_eq_true rfl)
  rw [lg_entry_eq]
  generalize (lg_sl ([.ref (a 0), .int p0, .int p1]) ++ List.replicate (4 - (lg_sl ([.ref (a 0), .int p0, .int p1])).length) Slot.unset).toArray = ls at hl ⊢
  exact wX8_shut ⟨B.exec, B.bytes, hml, findClass_of_methodNamed B.named, fun w hw => atoms_spec (ws := .code yX8_shut cX8_shut 4 (some .int) :: wsL_law) B.pre w (List.mem_cons_of_mem _ hw), B.returns, B.notSynchronized, hK, hDis, hN⟩ out p0 p1 σ s.heap [] ls ⟨hP, va_S.rf⟩ hl h
theorem kX8_shut (Cx : ms_C p s m args meth c D cA a shM cc nL own ret) {σ : Mm} {H : Heap} {locs : List Loc} (hI : ms_I D cA a shM s σ H locs) {p0 : Int32} {p1 : Int32} {out : Int32 × Mm} (h : fX8_shut p0 p1 σ = some out) (hl : Cond.methodLink own idx yX8_shut ∈ wsL_law) (hf : 1 + 1 ≤ R.frames) (hlo : 8 + (4 + 11) + 22 ≤ R.locals) (hsz : ls.size = nL) (hW : (rest.map fun v => v.category).sum ≤ 8) (hd : decode cc pc = .ok (.invokevirtual idx, 3)) (kk : ∀ (H1 : Heap) (locs1 : List Loc), ms_I D cA a shM s out.2 H1 locs1 → W p l e R s m args below meth c H1 locs1 0 0 Q (F0 m (pc + 3) ls (.int out.1 :: rest))) : W p l e R s m args below meth c H locs 0 0 Q (F0 m pc ls (.int p1 :: .int p0 :: .ref (a 0) :: rest)) :=
  ms_ci hI (ms_runV (av := [.int p0, .int p1]) Cx hI 0 shM_0 (ci := 8) rfl rfl yvX8_shut (metX8_shut l Cx.2.2.2.2.2.2.2.2.1  h) ⟨rfl, rfl⟩ hl ⟨hf, hlo⟩ rfl hsz rfl hW ⟨Nat.zero_le _, Nat.zero_le _⟩ hd) kk
/-! X8 shift (II)I -/
theorem dX8_shift_0 : decode cX8_shift 0 = .ok (.iload_n 1, 1) := by decide +kernel
theorem dX8_shift_1 : decode cX8_shift 1 = .ok (.iconst 0, 1) := by decide +kernel
theorem dX8_shift_2 : decode cX8_shift 2 = .ok (.iconst 5, 1) := by decide +kernel
theorem dX8_shift_3 : decode cX8_shift 3 = .ok (.invokestatic 95, 3) := by decide +kernel
theorem dX8_shift_6 : decode cX8_shift 6 = .ok (.ifCond .eq 13, 3) := by decide +kernel
theorem dX8_shift_9 : decode cX8_shift 9 = .ok (.iload_n 2, 1) := by decide +kernel
theorem dX8_shift_10 : decode cX8_shift 10 = .ok (.iconst 0, 1) := by decide +kernel
theorem dX8_shift_11 : decode cX8_shift 11 = .ok (.bipush 23, 2) := by decide +kernel
theorem dX8_shift_13 : decode cX8_shift 13 = .ok (.invokestatic 95, 3) := by decide +kernel
theorem dX8_shift_16 : decode cX8_shift 16 = .ok (.ifCond .ne 6, 3) := by decide +kernel
theorem dX8_shift_19 : decode cX8_shift 19 = .ok (.bipush (-2), 2) := by decide +kernel
theorem dX8_shift_21 : decode cX8_shift 21 = .ok (.ireturn, 1) := by decide +kernel
theorem dX8_shift_22 : decode cX8_shift 22 = .ok (.aload_n 0, 1) := by decide +kernel
theorem dX8_shift_23 : decode cX8_shift 23 = .ok (.getfield 31, 3) := by decide +kernel
theorem dX8_shift_26 : decode cX8_shift 26 = .ok (.iload_n 1, 1) := by decide +kernel
theorem dX8_shift_27 : decode cX8_shift 27 = .ok (.iaload, 1) := by decide +kernel
theorem dX8_shift_28 : decode cX8_shift 28 = .ok (.istore_n 3, 1) := by decide +kernel
theorem dX8_shift_29 : decode cX8_shift 29 = .ok (.aload_n 0, 1) := by decide +kernel
theorem dX8_shift_30 : decode cX8_shift 30 = .ok (.getfield 31, 3) := by decide +kernel
theorem dX8_shift_33 : decode cX8_shift 33 = .ok (.iload_n 1, 1) := by decide +kernel
theorem dX8_shift_34 : decode cX8_shift 34 = .ok (.iload_n 2, 1) := by decide +kernel
theorem dX8_shift_35 : decode cX8_shift 35 = .ok (.iastore, 1) := by decide +kernel
theorem dX8_shift_36 : decode cX8_shift 36 = .ok (.iload_n 3, 1) := by decide +kernel
theorem dX8_shift_37 : decode cX8_shift 37 = .ok (.ireturn, 1) := by decide +kernel
abbrev rmX8_shift : Room := { frames := 1, cells := 0, slots := 0, locals := 22 }
set_option maxHeartbeats 4000000 in
set_option maxRecDepth 100000 in
theorem wX8_shift (Cx : ms_C p s m args meth c D cA a shM cX8_shift 4 RX8 (some .int)) (out : Int32 × Mm) : ∀ (p0 : Int32) (p1 : Int32) , ∀ (σ : Mm) (H : Heap) (locs : List Loc) (ls : Array Slot), ms_I D cA a shM s σ H locs → lv_has ls 4 [(0, .ref (a 0)), (1, .int p0), (2, .int p1)] → fX8_shift p0 p1 σ = some out → W p l e rmX8_shift s m args below meth c H locs 0 0 (MQ below (ms_Qi D cA a shM out.1 out.2) args s 0 0 (ms_A a shM.length)) (F0 m 0 ls []) := by
  have hx := Cx.1
  have hb := Cx.2.1
  intro p0 p1 σ H locs ls hI hl h
  unfold fX8_shift at h
  refine lv_iload_n hx hb dX8_shift_0 rfl (lv_at hl 1 rfl) ?_
  refine lv_iconst (v := 0) hx hb dX8_shift_1 rfl ?_
  refine lv_iconst (v := 5) hx hb dX8_shift_2 rfl ?_
  obtain ⟨r2, hc1, h⟩ := ms_bdE h
  refine kX8_in Cx hI hc1 (Or.inl wd_10_20) (Nat.le_of_ble_eq_true rfl) (Nat.le_of_ble_eq_true rfl) hl.1 (Nat.le_of_ble_eq_true rfl) dX8_shift_3 (fun H locs hI => ?_)
  refine lv_if_eq (tgt := 19) hx hb dX8_shift_6 rfl (fun hc => ?_) (fun hc => ?_)
  · have h := ms_ifT hc h
    refine lv_bipush (v := -2) hx hb dX8_shift_19 rfl ?_
    exact ms_riw Cx hI h dX8_shift_21
  · have h := ms_ifF hc h
    refine lv_iload_n hx hb dX8_shift_9 rfl (lv_at hl 2 rfl) ?_
    refine lv_iconst (v := 0) hx hb dX8_shift_10 rfl ?_
    refine lv_bipush (v := 23) hx hb dX8_shift_11 rfl ?_
    obtain ⟨r4, hc3, h⟩ := ms_bdE h
    refine kX8_in Cx hI hc3 (Or.inl wd_10_20) (Nat.le_of_ble_eq_true rfl) (Nat.le_of_ble_eq_true rfl) hl.1 (Nat.le_of_ble_eq_true rfl) dX8_shift_13 (fun H locs hI => ?_)
    refine lv_if_ne (tgt := 22) hx hb dX8_shift_16 rfl (fun hc => ?_) (fun hc => ?_)
    · have h := ms_ifF hc h
      refine lv_aload_n hx hb dX8_shift_22 rfl (lv_at hl 0 rfl) ?_
      refine gr_X8_9 Cx hI wd_6_20 dX8_shift_23 ?_
      refine lv_iload_n hx hb dX8_shift_26 rfl (lv_at hl 1 rfl) ?_
      obtain ⟨hg, h⟩ := ms_gE h
      refine ms_ld Cx hI 8 shM_8 hg dX8_shift_27 ?_
      refine lv_istore_n (lv' := [(3, .int (σ 8 (ms_ix p0))), (0, .ref (a 0)), (1, .int p0), (2, .int p1)]) hx hb dX8_shift_28 rfl hl (by decide) rfl (fun ls hl => ?_)
      refine lv_aload_n hx hb dX8_shift_29 rfl (lv_at hl 1 rfl) ?_
      refine gr_X8_9 Cx hI wd_6_20 dX8_shift_30 ?_
      refine lv_iload_n hx hb dX8_shift_33 rfl (lv_at hl 2 rfl) ?_
      refine lv_iload_n hx hb dX8_shift_34 rfl (lv_at hl 3 rfl) ?_
      obtain ⟨hg, h⟩ := ms_gE h
      refine ms_sto Cx hI 8 shM_8 hg dX8_shift_35 (fun H locs σ5 eσ5 hI => ?_)
      have h := ms_ltE eσ5 h
      refine lv_iload_n hx hb dX8_shift_36 rfl (lv_at hl 0 rfl) ?_
      exact ms_riw Cx hI h dX8_shift_37
    · have h := ms_ifT hc h
      refine lv_bipush (v := -2) hx hb dX8_shift_19 rfl ?_
      exact ms_riw Cx hI h dX8_shift_21
theorem yvX8_shift : ms_YV yX8_shift RX8 cX8_shift 4 (some .int) 2 := ⟨wd_16_18, wd_16_19, wd_1_5, wd_16_20, rfl, by decide +kernel, by decide +kernel, by decide +kernel⟩
set_option maxHeartbeats 4000000 in
theorem metX8_shift (l : Launch) (hDis : ms_Dis a shM.length) {σ : Mm} {p0 : Int32} {p1 : Int32} {out : Int32 × Mm} (h : fX8_shift p0 p1 σ = some out) : Met l yX8_shift (.code yX8_shift cX8_shift 4 (some .int) :: wsL_law) rmX8_shift (ms_Pc D cA a shM [.ref (a 0), .int p0, .int p1] σ) (ms_Qi D cA a shM out.1 out.2) 0 0 (ms_A a shM.length) := by
  refine Met.ofW (cc := cX8_shift) (maxL := 4) (ret := (some .int)) (by decide) rfl ?_
  intro p e s m args below meth c s₁ B hml hv
  obtain ⟨rfl, hK, hN, hP⟩ := hv
  have hl := lv_entry ([.ref (a 0), .int p0, .int p1]) (n := 4) (Nat.le_of_ble_eq_true rfl)
  rw [lg_entry_eq]
  generalize (lg_sl ([.ref (a 0), .int p0, .int p1]) ++ List.replicate (4 - (lg_sl ([.ref (a 0), .int p0, .int p1])).length) Slot.unset).toArray = ls at hl ⊢
  exact wX8_shift ⟨B.exec, B.bytes, hml, findClass_of_methodNamed B.named, fun w hw => atoms_spec (ws := .code yX8_shift cX8_shift 4 (some .int) :: wsL_law) B.pre w (List.mem_cons_of_mem _ hw), B.returns, B.notSynchronized, hK, hDis, hN⟩ out p0 p1 σ s.heap [] ls ⟨hP, va_S.rf⟩ hl h
theorem kX8_shift (Cx : ms_C p s m args meth c D cA a shM cc nL own ret) {σ : Mm} {H : Heap} {locs : List Loc} (hI : ms_I D cA a shM s σ H locs) {p0 : Int32} {p1 : Int32} {out : Int32 × Mm} (h : fX8_shift p0 p1 σ = some out) (hl : Cond.methodLink own idx yX8_shift ∈ wsL_law) (hf : 1 + 1 ≤ R.frames) (hlo : 8 + (4 + 11) + 22 ≤ R.locals) (hsz : ls.size = nL) (hW : (rest.map fun v => v.category).sum ≤ 8) (hd : decode cc pc = .ok (.invokevirtual idx, 3)) (kk : ∀ (H1 : Heap) (locs1 : List Loc), ms_I D cA a shM s out.2 H1 locs1 → W p l e R s m args below meth c H1 locs1 0 0 Q (F0 m (pc + 3) ls (.int out.1 :: rest))) : W p l e R s m args below meth c H locs 0 0 Q (F0 m pc ls (.int p1 :: .int p0 :: .ref (a 0) :: rest)) :=
  ms_ci hI (ms_runV (av := [.int p0, .int p1]) Cx hI 0 shM_0 (ci := 8) rfl rfl yvX8_shift (metX8_shift l Cx.2.2.2.2.2.2.2.2.1  h) ⟨rfl, rfl⟩ hl ⟨hf, hlo⟩ rfl hsz rfl hW ⟨Nat.zero_le _, Nat.zero_le _⟩ hd) kk
/-! X8 isSheet (I)Z -/
theorem dX8_isSheet_0 : decode cX8_isSheet 0 = .ok (.iload_n 0, 1) := by decide +kernel
theorem dX8_isSheet_1 : decode cX8_isSheet 1 = .ok (.iconst 0, 1) := by decide +kernel
theorem dX8_isSheet_2 : decode cX8_isSheet 2 = .ok (.iconst 3, 1) := by decide +kernel
theorem dX8_isSheet_3 : decode cX8_isSheet 3 = .ok (.invokestatic 95, 3) := by decide +kernel
theorem dX8_isSheet_6 : decode cX8_isSheet 6 = .ok (.ireturn, 1) := by decide +kernel
abbrev rmX8_isSheet : Room := { frames := 1, cells := 0, slots := 0, locals := 22 }
set_option maxHeartbeats 4000000 in
set_option maxRecDepth 100000 in
theorem wX8_isSheet (Cx : ms_C p s m args meth c D cA a shM cX8_isSheet 1 RX8 (some .boolean)) (out : Int32) {σ : Mm} : ∀ (p0 : Int32) , ∀ (H : Heap) (locs : List Loc) (ls : Array Slot), ms_I D cA a shM s σ H locs → lv_has ls 1 [(0, .int p0)] → fX8_isSheet p0 = some out → W p l e rmX8_isSheet s m args below meth c H locs 0 0 (MQ below (ms_Qi D cA a shM out σ) args s 0 0 (ms_A a shM.length)) (F0 m 0 ls []) := by
  have hx := Cx.1
  have hb := Cx.2.1
  intro p0 H locs ls hI hl h
  unfold fX8_isSheet at h
  refine lv_iload_n hx hb dX8_isSheet_0 rfl (lv_at hl 0 rfl) ?_
  refine lv_iconst (v := 0) hx hb dX8_isSheet_1 rfl ?_
  refine lv_iconst (v := 3) hx hb dX8_isSheet_2 rfl ?_
  obtain ⟨r2, hc1, h⟩ := ms_bdE h
  refine kX8_in Cx hI hc1 (Or.inl wd_10_20) (Nat.le_of_ble_eq_true rfl) (Nat.le_of_ble_eq_true rfl) hl.1 (Nat.le_of_ble_eq_true rfl) dX8_isSheet_3 (fun H locs hI => ?_)
  obtain ⟨hg, h⟩ := ms_gE h
  exact ms_rz Cx hI hg (Option.some.inj h) rfl dX8_isSheet_6
theorem yvX8_isSheet : ms_YS yX8_isSheet cX8_isSheet 1 (some .boolean) 1 := ⟨wd_17_20, wd_1_5, wd_17_21, by decide +kernel, by decide +kernel, by decide +kernel⟩
set_option maxHeartbeats 4000000 in
theorem metX8_isSheet (l : Launch) (hDis : ms_Dis a shM.length) {σ : Mm} {p0 : Int32} {out : Int32} (h : fX8_isSheet p0 = some out) : Met l yX8_isSheet (.code yX8_isSheet cX8_isSheet 1 (some .boolean) :: wsL_law) rmX8_isSheet (ms_Pc D cA a shM [.int p0] σ) (ms_Qi D cA a shM out σ) 0 0 (ms_A a shM.length) := by
  refine Met.ofW (cc := cX8_isSheet) (maxL := 1) (ret := (some .boolean)) (by decide) rfl ?_
  intro p e s m args below meth c s₁ B hml hv
  obtain ⟨rfl, hK, hN, hP⟩ := hv
  have hl := lv_entry ([.int p0]) (n := 1) (Nat.le_of_ble_eq_true rfl)
  rw [lg_entry_eq]
  generalize (lg_sl ([.int p0]) ++ List.replicate (1 - (lg_sl ([.int p0])).length) Slot.unset).toArray = ls at hl ⊢
  exact wX8_isSheet ⟨B.exec, B.bytes, hml, findClass_of_methodNamed B.named, fun w hw => atoms_spec (ws := .code yX8_isSheet cX8_isSheet 1 (some .boolean) :: wsL_law) B.pre w (List.mem_cons_of_mem _ hw), B.returns, B.notSynchronized, hK, hDis, hN⟩ out p0 s.heap [] ls ⟨hP, va_S.rf⟩ hl h
theorem kX8_isSheet (Cx : ms_C p s m args meth c D cA a shM cc nL own ret) {σ : Mm} {H : Heap} {locs : List Loc} (hI : ms_I D cA a shM s σ H locs) {p0 : Int32} {out : Int32} (h : fX8_isSheet p0 = some out) (hl : Cond.methodLink own idx yX8_isSheet ∈ wsL_law ∨ (own, idx, yX8_isSheet) ∈ ms_nq) (hf : 1 + 1 ≤ R.frames) (hlo : 8 + (1 + 11) + 22 ≤ R.locals) (hsz : ls.size = nL) (hW : (rest.map fun v => v.category).sum ≤ 8) (hd : decode cc pc = .ok (.invokestatic idx, 3)) (kk : ∀ (H1 : Heap) (locs1 : List Loc), ms_I D cA a shM s σ H1 locs1 → W p l e R s m args below meth c H1 locs1 0 0 Q (F0 m (pc + 3) ls (.int out :: rest))) : W p l e R s m args below meth c H locs 0 0 Q (F0 m pc ls (.int p0 :: rest)) :=
  ms_ci hI (ms_runS (av := [.int p0]) Cx hI yvX8_isSheet (metX8_isSheet l Cx.2.2.2.2.2.2.2.2.1  h) ⟨rfl, rfl⟩ hl ⟨hf, hlo⟩ rfl hsz rfl hW ⟨Nat.zero_le _, Nat.zero_le _⟩ hd) kk
/-! X8 meets (I)I -/
theorem dX8_meets_0 : decode cX8_meets 0 = .ok (.aload_n 0, 1) := by decide +kernel
theorem dX8_meets_1 : decode cX8_meets 1 = .ok (.iload_n 1, 1) := by decide +kernel
theorem dX8_meets_2 : decode cX8_meets 2 = .ok (.putfield 248, 3) := by decide +kernel
theorem dX8_meets_5 : decode cX8_meets 5 = .ok (.bipush (-10), 2) := by decide +kernel
theorem dX8_meets_7 : decode cX8_meets 7 = .ok (.iload_n 1, 1) := by decide +kernel
theorem dX8_meets_8 : decode cX8_meets 8 = .ok (.isub, 1) := by decide +kernel
theorem dX8_meets_9 : decode cX8_meets 9 = .ok (.ireturn, 1) := by decide +kernel
abbrev rmX8_meets : Room := { frames := 0, cells := 0, slots := 0, locals := 0 }
set_option maxHeartbeats 4000000 in
set_option maxRecDepth 100000 in
theorem wX8_meets (Cx : ms_C p s m args meth c D cA a shM cX8_meets 2 RX8 (some .int)) (out : Int32 × Mm) : ∀ (p0 : Int32) , ∀ (σ : Mm) (H : Heap) (locs : List Loc) (ls : Array Slot), ms_I D cA a shM s σ H locs → lv_has ls 2 [(0, .ref (a 0)), (1, .int p0)] → fX8_meets p0 σ = some out → W p l e rmX8_meets s m args below meth c H locs 0 0 (MQ below (ms_Qi D cA a shM out.1 out.2) args s 0 0 (ms_A a shM.length)) (F0 m 0 ls []) := by
  have hx := Cx.1
  have hb := Cx.2.1
  intro p0 σ H locs ls hI hl h
  unfold fX8_meets at h
  refine lv_aload_n hx hb dX8_meets_0 rfl (lv_at hl 0 rfl) ?_
  refine lv_iload_n hx hb dX8_meets_1 rfl (lv_at hl 1 rfl) ?_
  refine pi_X8_33 Cx hI wd_18_2 dX8_meets_2 (fun H locs σ1 eσ1 hI => ?_)
  have h := ms_ltE eσ1 h
  refine lv_bipush (v := -10) hx hb dX8_meets_5 rfl ?_
  refine lv_iload_n hx hb dX8_meets_7 rfl (lv_at hl 1 rfl) ?_
  refine lv_isub hx hb dX8_meets_8 ?_
  exact ms_riw Cx hI h dX8_meets_9
theorem yvX8_meets : ms_YV yX8_meets RX8 cX8_meets 2 (some .int) 1 := ⟨wd_17_23, wd_18_0, wd_1_5, wd_18_1, rfl, by decide +kernel, by decide +kernel, by decide +kernel⟩
set_option maxHeartbeats 4000000 in
theorem metX8_meets (l : Launch) (hDis : ms_Dis a shM.length) {σ : Mm} {p0 : Int32} {out : Int32 × Mm} (h : fX8_meets p0 σ = some out) : Met l yX8_meets (.code yX8_meets cX8_meets 2 (some .int) :: wsL_law) rmX8_meets (ms_Pc D cA a shM [.ref (a 0), .int p0] σ) (ms_Qi D cA a shM out.1 out.2) 0 0 (ms_A a shM.length) := by
  refine Met.ofW (cc := cX8_meets) (maxL := 2) (ret := (some .int)) (by decide) rfl ?_
  intro p e s m args below meth c s₁ B hml hv
  obtain ⟨rfl, hK, hN, hP⟩ := hv
  have hl := lv_entry ([.ref (a 0), .int p0]) (n := 2) (Nat.le_of_ble_eq_true rfl)
  rw [lg_entry_eq]
  generalize (lg_sl ([.ref (a 0), .int p0]) ++ List.replicate (2 - (lg_sl ([.ref (a 0), .int p0])).length) Slot.unset).toArray = ls at hl ⊢
  exact wX8_meets ⟨B.exec, B.bytes, hml, findClass_of_methodNamed B.named, fun w hw => atoms_spec (ws := .code yX8_meets cX8_meets 2 (some .int) :: wsL_law) B.pre w (List.mem_cons_of_mem _ hw), B.returns, B.notSynchronized, hK, hDis, hN⟩ out p0 σ s.heap [] ls ⟨hP, va_S.rf⟩ hl h
theorem kX8_meets (Cx : ms_C p s m args meth c D cA a shM cc nL own ret) {σ : Mm} {H : Heap} {locs : List Loc} (hI : ms_I D cA a shM s σ H locs) {p0 : Int32} {out : Int32 × Mm} (h : fX8_meets p0 σ = some out) (hl : Cond.methodLink own idx yX8_meets ∈ wsL_law) (hf : 0 + 1 ≤ R.frames) (hlo : 8 + (2 + 11) + 0 ≤ R.locals) (hsz : ls.size = nL) (hW : (rest.map fun v => v.category).sum ≤ 8) (hd : decode cc pc = .ok (.invokevirtual idx, 3)) (kk : ∀ (H1 : Heap) (locs1 : List Loc), ms_I D cA a shM s out.2 H1 locs1 → W p l e R s m args below meth c H1 locs1 0 0 Q (F0 m (pc + 3) ls (.int out.1 :: rest))) : W p l e R s m args below meth c H locs 0 0 Q (F0 m pc ls (.int p0 :: .ref (a 0) :: rest)) :=
  ms_ci hI (ms_runV (av := [.int p0]) Cx hI 0 shM_0 (ci := 8) rfl rfl yvX8_meets (metX8_meets l Cx.2.2.2.2.2.2.2.2.1  h) ⟨rfl, rfl⟩ hl ⟨hf, hlo⟩ rfl hsz rfl hW ⟨Nat.zero_le _, Nat.zero_le _⟩ hd) kk
/-! X8 read (I)I -/
theorem dX8_read_0 : decode cX8_read 0 = .ok (.iload_n 1, 1) := by decide +kernel
theorem dX8_read_1 : decode cX8_read 1 = .ok (.invokestatic 160, 3) := by decide +kernel
theorem dX8_read_4 : decode cX8_read 4 = .ok (.ifCond .ne 6, 3) := by decide +kernel
theorem dX8_read_7 : decode cX8_read 7 = .ok (.bipush (-2), 2) := by decide +kernel
theorem dX8_read_9 : decode cX8_read 9 = .ok (.ireturn, 1) := by decide +kernel
theorem dX8_read_10 : decode cX8_read 10 = .ok (.aload_n 0, 1) := by decide +kernel
theorem dX8_read_11 : decode cX8_read 11 = .ok (.getfield 79, 3) := by decide +kernel
theorem dX8_read_14 : decode cX8_read 14 = .ok (.iload_n 1, 1) := by decide +kernel
theorem dX8_read_15 : decode cX8_read 15 = .ok (.baload, 1) := by decide +kernel
theorem dX8_read_16 : decode cX8_read 16 = .ok (.ifCond .ne 9, 3) := by decide +kernel
theorem dX8_read_19 : decode cX8_read 19 = .ok (.aload_n 0, 1) := by decide +kernel
theorem dX8_read_20 : decode cX8_read 20 = .ok (.iconst 1, 1) := by decide +kernel
theorem dX8_read_21 : decode cX8_read 21 = .ok (.invokevirtual 163, 3) := by decide +kernel
theorem dX8_read_24 : decode cX8_read 24 = .ok (.ireturn, 1) := by decide +kernel
theorem dX8_read_25 : decode cX8_read 25 = .ok (.iconst 0, 1) := by decide +kernel
theorem dX8_read_26 : decode cX8_read 26 = .ok (.istore_n 2, 1) := by decide +kernel
theorem dX8_read_27 : decode cX8_read 27 = .ok (.iload_n 2, 1) := by decide +kernel
theorem dX8_read_28 : decode cX8_read 28 = .ok (.aload_n 0, 1) := by decide +kernel
theorem dX8_read_29 : decode cX8_read 29 = .ok (.getfield 86, 3) := by decide +kernel
theorem dX8_read_32 : decode cX8_read 32 = .ok (.iload_n 1, 1) := by decide +kernel
theorem dX8_read_33 : decode cX8_read 33 = .ok (.iaload, 1) := by decide +kernel
theorem dX8_read_34 : decode cX8_read 34 = .ok (.if_icmp .ge 52, 3) := by decide +kernel
theorem dX8_read_37 : decode cX8_read 37 = .ok (.iload_n 2, 1) := by decide +kernel
theorem dX8_read_38 : decode cX8_read 38 = .ok (.bipush 6, 2) := by decide +kernel
theorem dX8_read_40 : decode cX8_read 40 = .ok (.if_icmp .ge 46, 3) := by decide +kernel
theorem dX8_read_43 : decode cX8_read 43 = .ok (.aload_n 0, 1) := by decide +kernel
theorem dX8_read_44 : decode cX8_read 44 = .ok (.getfield 89, 3) := by decide +kernel
theorem dX8_read_47 : decode cX8_read 47 = .ok (.bipush 48, 2) := by decide +kernel
theorem dX8_read_49 : decode cX8_read 49 = .ok (.iload_n 1, 1) := by decide +kernel
theorem dX8_read_50 : decode cX8_read 50 = .ok (.imul, 1) := by decide +kernel
theorem dX8_read_51 : decode cX8_read 51 = .ok (.iload_n 2, 1) := by decide +kernel
theorem dX8_read_52 : decode cX8_read 52 = .ok (.iadd, 1) := by decide +kernel
theorem dX8_read_53 : decode cX8_read 53 = .ok (.iaload, 1) := by decide +kernel
theorem dX8_read_54 : decode cX8_read 54 = .ok (.iconst 0, 1) := by decide +kernel
theorem dX8_read_55 : decode cX8_read 55 = .ok (.bipush 23, 2) := by decide +kernel
theorem dX8_read_57 : decode cX8_read 57 = .ok (.invokestatic 95, 3) := by decide +kernel
theorem dX8_read_60 : decode cX8_read 60 = .ok (.ifCond .eq 26, 3) := by decide +kernel
theorem dX8_read_63 : decode cX8_read 63 = .ok (.aload_n 0, 1) := by decide +kernel
theorem dX8_read_64 : decode cX8_read 64 = .ok (.getfield 31, 3) := by decide +kernel
theorem dX8_read_67 : decode cX8_read 67 = .ok (.iload_n 2, 1) := by decide +kernel
theorem dX8_read_68 : decode cX8_read 68 = .ok (.aload_n 0, 1) := by decide +kernel
theorem dX8_read_69 : decode cX8_read 69 = .ok (.getfield 89, 3) := by decide +kernel
theorem dX8_read_72 : decode cX8_read 72 = .ok (.bipush 48, 2) := by decide +kernel
theorem dX8_read_74 : decode cX8_read 74 = .ok (.iload_n 1, 1) := by decide +kernel
theorem dX8_read_75 : decode cX8_read 75 = .ok (.imul, 1) := by decide +kernel
theorem dX8_read_76 : decode cX8_read 76 = .ok (.iload_n 2, 1) := by decide +kernel
theorem dX8_read_77 : decode cX8_read 77 = .ok (.iadd, 1) := by decide +kernel
theorem dX8_read_78 : decode cX8_read 78 = .ok (.iaload, 1) := by decide +kernel
theorem dX8_read_79 : decode cX8_read 79 = .ok (.iastore, 1) := by decide +kernel
theorem dX8_read_80 : decode cX8_read 80 = .ok (.iinc 2 1, 3) := by decide +kernel
theorem dX8_read_83 : decode cX8_read 83 = .ok (.goto (-56), 3) := by decide +kernel
theorem dX8_read_86 : decode cX8_read 86 = .ok (.iload_n 2, 1) := by decide +kernel
theorem dX8_read_87 : decode cX8_read 87 = .ok (.ireturn, 1) := by decide +kernel
abbrev rmX8_read : Room := { frames := 2, cells := 0, slots := 0, locals := 42 }
set_option maxHeartbeats 4000000 in
set_option maxRecDepth 100000 in
theorem wX8_read_27 (Cx : ms_C p s m args meth c D cA a shM cX8_read 3 RX8 (some .int)) (out : Int32 × Mm) : ∀ (n : Nat), ∀ (y1 : Int32) (y2 : Int32) , ∀ (σ : Mm) (H : Heap) (locs : List Loc) (ls : Array Slot), ms_I D cA a shM s σ H locs → lv_has ls 3 [(0, .ref (a 0)), (1, .int y1), (2, .int y2)] → fX8_read_27 n y1 y2 σ = some out → W p l e rmX8_read s m args below meth c H locs 0 0 (MQ below (ms_Qi D cA a shM out.1 out.2) args s 0 0 (ms_A a shM.length)) (F0 m 27 ls []) := by
  have hx := Cx.1
  have hb := Cx.2.1
  intro n
  induction n with
  | zero =>
    intro y1 y2 σ H locs ls hI hl h
    exact nomatch (show none = some out from h)
  | succ n ih =>
    intro y1 y2 σ H locs ls hI hl h
    rw [fX8_read_27] at h
    refine lv_iload_n hx hb dX8_read_27 rfl (lv_at hl 2 rfl) ?_
    refine lv_aload_n hx hb dX8_read_28 rfl (lv_at hl 0 rfl) ?_
    refine gr_X8_30 Cx hI wd_7_15 dX8_read_29 ?_
    refine lv_iload_n hx hb dX8_read_32 rfl (lv_at hl 1 rfl) ?_
    obtain ⟨hg, h⟩ := ms_gE h
    refine ms_ld Cx hI 26 shM_26 hg dX8_read_33 ?_
    refine lv_icmp_ge (tgt := 86) hx hb dX8_read_34 rfl (fun hc => ?_) (fun hc => ?_)
    · have h := ms_ifT hc h
      refine lv_iload_n hx hb dX8_read_86 rfl (lv_at hl 2 rfl) ?_
      exact ms_riw Cx hI h dX8_read_87
    · have h := ms_ifF hc h
      refine lv_iload_n hx hb dX8_read_37 rfl (lv_at hl 2 rfl) ?_
      refine lv_bipush (v := 6) hx hb dX8_read_38 rfl ?_
      refine lv_icmp_ge (tgt := 86) hx hb dX8_read_40 rfl (fun hc => ?_) (fun hc => ?_)
      · have h := ms_ifT hc h
        refine lv_iload_n hx hb dX8_read_86 rfl (lv_at hl 2 rfl) ?_
        exact ms_riw Cx hI h dX8_read_87
      · have h := ms_ifF hc h
        refine lv_aload_n hx hb dX8_read_43 rfl (lv_at hl 0 rfl) ?_
        refine gr_X8_31 Cx hI wd_7_16 dX8_read_44 ?_
        refine lv_bipush (v := 48) hx hb dX8_read_47 rfl ?_
        refine lv_iload_n hx hb dX8_read_49 rfl (lv_at hl 1 rfl) ?_
        refine lv_imul hx hb dX8_read_50 ?_
        refine lv_iload_n hx hb dX8_read_51 rfl (lv_at hl 2 rfl) ?_
        refine lv_iadd hx hb dX8_read_52 ?_
        obtain ⟨hg, h⟩ := ms_gE h
        refine ms_ld Cx hI 27 shM_27 hg dX8_read_53 ?_
        refine lv_iconst (v := 0) hx hb dX8_read_54 rfl ?_
        refine lv_bipush (v := 23) hx hb dX8_read_55 rfl ?_
        obtain ⟨r2, hc1, h⟩ := ms_bdE h
        refine kX8_in Cx hI hc1 (Or.inl wd_10_20) (Nat.le_of_ble_eq_true rfl) (Nat.le_of_ble_eq_true rfl) hl.1 (Nat.le_of_ble_eq_true rfl) dX8_read_57 (fun H locs hI => ?_)
        refine lv_if_eq (tgt := 86) hx hb dX8_read_60 rfl (fun hc => ?_) (fun hc => ?_)
        · have h := ms_ifT hc h
          refine lv_iload_n hx hb dX8_read_86 rfl (lv_at hl 2 rfl) ?_
          exact ms_riw Cx hI h dX8_read_87
        · have h := ms_ifF hc h
          refine lv_aload_n hx hb dX8_read_63 rfl (lv_at hl 0 rfl) ?_
          refine gr_X8_9 Cx hI wd_6_20 dX8_read_64 ?_
          refine lv_iload_n hx hb dX8_read_67 rfl (lv_at hl 2 rfl) ?_
          refine lv_aload_n hx hb dX8_read_68 rfl (lv_at hl 0 rfl) ?_
          refine gr_X8_31 Cx hI wd_7_16 dX8_read_69 ?_
          refine lv_bipush (v := 48) hx hb dX8_read_72 rfl ?_
          refine lv_iload_n hx hb dX8_read_74 rfl (lv_at hl 1 rfl) ?_
          refine lv_imul hx hb dX8_read_75 ?_
          refine lv_iload_n hx hb dX8_read_76 rfl (lv_at hl 2 rfl) ?_
          refine lv_iadd hx hb dX8_read_77 ?_
          obtain ⟨hg, h⟩ := ms_gE h
          refine ms_ld Cx hI 27 shM_27 hg dX8_read_78 ?_
          obtain ⟨hg, h⟩ := ms_gE h
          refine ms_sto Cx hI 8 shM_8 hg dX8_read_79 (fun H locs σ3 eσ3 hI => ?_)
          have h := ms_ltE eσ3 h
          refine lv_iinc (v := y2 + 1) (lv' := [(2, .int (y2 + 1)), (0, .ref (a 0)), (1, .int y1)]) hx hb dX8_read_80 hl (k := 2) rfl rfl (by decide) rfl (fun ls hl => ?_)
          refine lv_goto (tgt := 27) hx hb dX8_read_83 rfl ?_
          exact ih y1 (y2 + 1) σ3 _ _ _ hI (lv_sub hl [1, 2, 0] rfl) h
set_option maxHeartbeats 4000000 in
set_option maxRecDepth 100000 in
theorem wX8_read (Cx : ms_C p s m args meth c D cA a shM cX8_read 3 RX8 (some .int)) (out : Int32 × Mm) : ∀ (p0 : Int32) , ∀ (σ : Mm) (H : Heap) (locs : List Loc) (ls : Array Slot), ms_I D cA a shM s σ H locs → lv_has ls 3 [(0, .ref (a 0)), (1, .int p0)] → fX8_read p0 σ = some out → W p l e rmX8_read s m args below meth c H locs 0 0 (MQ below (ms_Qi D cA a shM out.1 out.2) args s 0 0 (ms_A a shM.length)) (F0 m 0 ls []) := by
  have hx := Cx.1
  have hb := Cx.2.1
  intro p0 σ H locs ls hI hl h
  unfold fX8_read at h
  refine lv_iload_n hx hb dX8_read_0 rfl (lv_at hl 1 rfl) ?_
  obtain ⟨r2, hc1, h⟩ := ms_bdE h
  refine kX8_isSheet Cx hI hc1 (Or.inl wd_17_19) (Nat.le_of_ble_eq_true rfl) (Nat.le_of_ble_eq_true rfl) hl.1 (Nat.le_of_ble_eq_true rfl) dX8_read_1 (fun H locs hI => ?_)
  refine lv_if_ne (tgt := 10) hx hb dX8_read_4 rfl (fun hc => ?_) (fun hc => ?_)
  · have h := ms_ifF hc h
    refine lv_aload_n hx hb dX8_read_10 rfl (lv_at hl 0 rfl) ?_
    refine gr_X8_28 Cx hI wd_7_13 dX8_read_11 ?_
    refine lv_iload_n hx hb dX8_read_14 rfl (lv_at hl 1 rfl) ?_
    obtain ⟨hg, h⟩ := ms_gE h
    refine ms_ldz Cx hI 24 shM_24 hg dX8_read_15 ?_
    refine lv_if_ne (tgt := 25) hx hb dX8_read_16 rfl (fun hc => ?_) (fun hc => ?_)
    · have h := ms_ifF hc h
      refine lv_iconst (v := 0) hx hb dX8_read_25 rfl ?_
      refine lv_istore_n (lv' := [(2, .int 0), (0, .ref (a 0)), (1, .int p0)]) hx hb dX8_read_26 rfl hl (by decide) rfl (fun ls hl => ?_)
      exact wX8_read_27 Cx out  ms_fu p0 0 σ _ _ _ hI (lv_sub hl [1, 2, 0] rfl) h
    · have h := ms_ifT hc h
      refine lv_aload_n hx hb dX8_read_19 rfl (lv_at hl 0 rfl) ?_
      refine lv_iconst (v := 1) hx hb dX8_read_20 rfl ?_
      obtain ⟨⟨r4, σ5⟩, hc3, h⟩ := ms_bdE h
      refine kX8_meets Cx hI hc3 wd_17_22 (Nat.le_of_ble_eq_true rfl) (Nat.le_of_ble_eq_true rfl) hl.1 (Nat.le_of_ble_eq_true rfl) dX8_read_21 (fun H locs hI => ?_)
      exact ms_riw Cx hI h dX8_read_24
  · have h := ms_ifT hc h
    refine lv_bipush (v := -2) hx hb dX8_read_7 rfl ?_
    exact ms_riw Cx hI h dX8_read_9
theorem yvX8_read : ms_YV yX8_read RX8 cX8_read 3 (some .int) 1 := ⟨wd_17_16, wd_17_17, wd_1_5, wd_17_18, rfl, by decide +kernel, by decide +kernel, by decide +kernel⟩
set_option maxHeartbeats 4000000 in
theorem metX8_read (l : Launch) (hDis : ms_Dis a shM.length) {σ : Mm} {p0 : Int32} {out : Int32 × Mm} (h : fX8_read p0 σ = some out) : Met l yX8_read (.code yX8_read cX8_read 3 (some .int) :: wsL_law) rmX8_read (ms_Pc D cA a shM [.ref (a 0), .int p0] σ) (ms_Qi D cA a shM out.1 out.2) 0 0 (ms_A a shM.length) := by
  refine Met.ofW (cc := cX8_read) (maxL := 3) (ret := (some .int)) (by decide) rfl ?_
  intro p e s m args below meth c s₁ B hml hv
  obtain ⟨rfl, hK, hN, hP⟩ := hv
  have hl := lv_entry ([.ref (a 0), .int p0]) (n := 3) (Nat.le_of_ble_eq_true rfl)
  rw [lg_entry_eq]
  generalize (lg_sl ([.ref (a 0), .int p0]) ++ List.replicate (3 - (lg_sl ([.ref (a 0), .int p0])).length) Slot.unset).toArray = ls at hl ⊢
  exact wX8_read ⟨B.exec, B.bytes, hml, findClass_of_methodNamed B.named, fun w hw => atoms_spec (ws := .code yX8_read cX8_read 3 (some .int) :: wsL_law) B.pre w (List.mem_cons_of_mem _ hw), B.returns, B.notSynchronized, hK, hDis, hN⟩ out p0 σ s.heap [] ls ⟨hP, va_S.rf⟩ hl h
theorem kX8_read (Cx : ms_C p s m args meth c D cA a shM cc nL own ret) {σ : Mm} {H : Heap} {locs : List Loc} (hI : ms_I D cA a shM s σ H locs) {p0 : Int32} {out : Int32 × Mm} (h : fX8_read p0 σ = some out) (hl : Cond.methodLink own idx yX8_read ∈ wsL_law) (hf : 2 + 1 ≤ R.frames) (hlo : 8 + (3 + 11) + 42 ≤ R.locals) (hsz : ls.size = nL) (hW : (rest.map fun v => v.category).sum ≤ 8) (hd : decode cc pc = .ok (.invokevirtual idx, 3)) (kk : ∀ (H1 : Heap) (locs1 : List Loc), ms_I D cA a shM s out.2 H1 locs1 → W p l e R s m args below meth c H1 locs1 0 0 Q (F0 m (pc + 3) ls (.int out.1 :: rest))) : W p l e R s m args below meth c H locs 0 0 Q (F0 m pc ls (.int p0 :: .ref (a 0) :: rest)) :=
  ms_ci hI (ms_runV (av := [.int p0]) Cx hI 0 shM_0 (ci := 8) rfl rfl yvX8_read (metX8_read l Cx.2.2.2.2.2.2.2.2.1  h) ⟨rfl, rfl⟩ hl ⟨hf, hlo⟩ rfl hsz rfl hW ⟨Nat.zero_le _, Nat.zero_le _⟩ hd) kk
/-! X8 costOf (II)I -/
theorem dX8_costOf_0 : decode cX8_costOf 0 = .ok (.aload_n 0, 1) := by decide +kernel
theorem dX8_costOf_1 : decode cX8_costOf 1 = .ok (.getfield 43, 3) := by decide +kernel
theorem dX8_costOf_4 : decode cX8_costOf 4 = .ok (.iconst 2, 1) := by decide +kernel
theorem dX8_costOf_5 : decode cX8_costOf 5 = .ok (.iload_n 1, 1) := by decide +kernel
theorem dX8_costOf_6 : decode cX8_costOf 6 = .ok (.imul, 1) := by decide +kernel
theorem dX8_costOf_7 : decode cX8_costOf 7 = .ok (.iload_n 2, 1) := by decide +kernel
theorem dX8_costOf_8 : decode cX8_costOf 8 = .ok (.iadd, 1) := by decide +kernel
theorem dX8_costOf_9 : decode cX8_costOf 9 = .ok (.iaload, 1) := by decide +kernel
theorem dX8_costOf_10 : decode cX8_costOf 10 = .ok (.aload_n 0, 1) := by decide +kernel
theorem dX8_costOf_11 : decode cX8_costOf 11 = .ok (.getfield 120, 3) := by decide +kernel
theorem dX8_costOf_14 : decode cX8_costOf 14 = .ok (.aload_n 0, 1) := by decide +kernel
theorem dX8_costOf_15 : decode cX8_costOf 15 = .ok (.getfield 40, 3) := by decide +kernel
theorem dX8_costOf_18 : decode cX8_costOf 18 = .ok (.iconst 2, 1) := by decide +kernel
theorem dX8_costOf_19 : decode cX8_costOf 19 = .ok (.iload_n 1, 1) := by decide +kernel
theorem dX8_costOf_20 : decode cX8_costOf 20 = .ok (.imul, 1) := by decide +kernel
theorem dX8_costOf_21 : decode cX8_costOf 21 = .ok (.iload_n 2, 1) := by decide +kernel
theorem dX8_costOf_22 : decode cX8_costOf 22 = .ok (.iadd, 1) := by decide +kernel
theorem dX8_costOf_23 : decode cX8_costOf 23 = .ok (.iaload, 1) := by decide +kernel
theorem dX8_costOf_24 : decode cX8_costOf 24 = .ok (.invokestatic 129, 3) := by decide +kernel
theorem dX8_costOf_27 : decode cX8_costOf 27 = .ok (.ifCond .eq 12, 3) := by decide +kernel
theorem dX8_costOf_30 : decode cX8_costOf 30 = .ok (.aload_n 0, 1) := by decide +kernel
theorem dX8_costOf_31 : decode cX8_costOf 31 = .ok (.getfield 13, 3) := by decide +kernel
theorem dX8_costOf_34 : decode cX8_costOf 34 = .ok (.iconst 4, 1) := by decide +kernel
theorem dX8_costOf_35 : decode cX8_costOf 35 = .ok (.iaload, 1) := by decide +kernel
theorem dX8_costOf_36 : decode cX8_costOf 36 = .ok (.goto 4, 3) := by decide +kernel
theorem dX8_costOf_39 : decode cX8_costOf 39 = .ok (.iconst 0, 1) := by decide +kernel
theorem dX8_costOf_40 : decode cX8_costOf 40 = .ok (.iadd, 1) := by decide +kernel
theorem dX8_costOf_41 : decode cX8_costOf 41 = .ok (.ireturn, 1) := by decide +kernel
abbrev rmX8_costOf : Room := { frames := 1, cells := 0, slots := 0, locals := 21 }
set_option maxHeartbeats 4000000 in
set_option maxRecDepth 100000 in
theorem wX8_costOf (Cx : ms_C p s m args meth c D cA a shM cX8_costOf 3 RX8 (some .int)) (out : Int32) {σ : Mm} : ∀ (p0 : Int32) (p1 : Int32) , ∀ (H : Heap) (locs : List Loc) (ls : Array Slot), ms_I D cA a shM s σ H locs → lv_has ls 3 [(0, .ref (a 0)), (1, .int p0), (2, .int p1)] → fX8_costOf σ p0 p1 = some out → W p l e rmX8_costOf s m args below meth c H locs 0 0 (MQ below (ms_Qi D cA a shM out σ) args s 0 0 (ms_A a shM.length)) (F0 m 0 ls []) := by
  have hx := Cx.1
  have hb := Cx.2.1
  intro p0 p1 H locs ls hI hl h
  unfold fX8_costOf at h
  refine lv_aload_n hx hb dX8_costOf_0 rfl (lv_at hl 0 rfl) ?_
  refine gr_X8_15 Cx hI wd_7_0 dX8_costOf_1 ?_
  refine lv_iconst (v := 2) hx hb dX8_costOf_4 rfl ?_
  refine lv_iload_n hx hb dX8_costOf_5 rfl (lv_at hl 1 rfl) ?_
  refine lv_imul hx hb dX8_costOf_6 ?_
  refine lv_iload_n hx hb dX8_costOf_7 rfl (lv_at hl 2 rfl) ?_
  refine lv_iadd hx hb dX8_costOf_8 ?_
  obtain ⟨hg, h⟩ := ms_gE h
  refine ms_ld Cx hI 12 shM_12 hg dX8_costOf_9 ?_
  refine lv_aload_n hx hb dX8_costOf_10 rfl (lv_at hl 0 rfl) ?_
  refine gi_X8_10 Cx hI wd_11_21 dX8_costOf_11 ?_
  refine lv_aload_n hx hb dX8_costOf_14 rfl (lv_at hl 0 rfl) ?_
  refine gr_X8_14 Cx hI wd_6_23 dX8_costOf_15 ?_
  refine lv_iconst (v := 2) hx hb dX8_costOf_18 rfl ?_
  refine lv_iload_n hx hb dX8_costOf_19 rfl (lv_at hl 1 rfl) ?_
  refine lv_imul hx hb dX8_costOf_20 ?_
  refine lv_iload_n hx hb dX8_costOf_21 rfl (lv_at hl 2 rfl) ?_
  refine lv_iadd hx hb dX8_costOf_22 ?_
  obtain ⟨hg, h⟩ := ms_gE h
  refine ms_ld Cx hI 11 shM_11 hg dX8_costOf_23 ?_
  obtain ⟨r2, hc1, h⟩ := ms_bdE h
  refine kX8_isIn Cx hI hc1 (Or.inl wd_12_23) (Nat.le_of_ble_eq_true rfl) (Nat.le_of_ble_eq_true rfl) hl.1 (Nat.le_of_ble_eq_true rfl) dX8_costOf_24 (fun H locs hI => ?_)
  refine lv_if_eq (tgt := 39) hx hb dX8_costOf_27 rfl (fun hc => ?_) (fun hc => ?_)
  · have h := ms_ifT hc h
    refine lv_iconst (v := 0) hx hb dX8_costOf_39 rfl ?_
    refine lv_iadd hx hb dX8_costOf_40 ?_
    exact ms_ri Cx hI (Option.some.inj h) rfl dX8_costOf_41
  · have h := ms_ifF hc h
    refine lv_aload_n hx hb dX8_costOf_30 rfl (lv_at hl 0 rfl) ?_
    refine gr_X8_2 Cx hI wd_6_14 dX8_costOf_31 ?_
    refine lv_iconst (v := 4) hx hb dX8_costOf_34 rfl ?_
    obtain ⟨hg, h⟩ := ms_gE h
    refine ms_ld Cx hI 2 shM_2 hg dX8_costOf_35 ?_
    refine lv_goto (tgt := 40) hx hb dX8_costOf_36 rfl ?_
    refine lv_iadd hx hb dX8_costOf_40 ?_
    exact ms_ri Cx hI (Option.some.inj h) rfl dX8_costOf_41
theorem yvX8_costOf : ms_YV yX8_costOf RX8 cX8_costOf 3 (some .int) 2 := ⟨wd_19_1, wd_19_2, wd_1_5, wd_19_3, rfl, by decide +kernel, by decide +kernel, by decide +kernel⟩
set_option maxHeartbeats 4000000 in
theorem metX8_costOf (l : Launch) (hDis : ms_Dis a shM.length) {σ : Mm} {p0 : Int32} {p1 : Int32} {out : Int32} (h : fX8_costOf σ p0 p1 = some out) : Met l yX8_costOf (.code yX8_costOf cX8_costOf 3 (some .int) :: wsL_law) rmX8_costOf (ms_Pc D cA a shM [.ref (a 0), .int p0, .int p1] σ) (ms_Qi D cA a shM out σ) 0 0 (ms_A a shM.length) := by
  refine Met.ofW (cc := cX8_costOf) (maxL := 3) (ret := (some .int)) (by decide) rfl ?_
  intro p e s m args below meth c s₁ B hml hv
  obtain ⟨rfl, hK, hN, hP⟩ := hv
  have hl := lv_entry ([.ref (a 0), .int p0, .int p1]) (n := 3) (Nat.le_of_ble_eq_true rfl)
  rw [lg_entry_eq]
  generalize (lg_sl ([.ref (a 0), .int p0, .int p1]) ++ List.replicate (3 - (lg_sl ([.ref (a 0), .int p0, .int p1])).length) Slot.unset).toArray = ls at hl ⊢
  exact wX8_costOf ⟨B.exec, B.bytes, hml, findClass_of_methodNamed B.named, fun w hw => atoms_spec (ws := .code yX8_costOf cX8_costOf 3 (some .int) :: wsL_law) B.pre w (List.mem_cons_of_mem _ hw), B.returns, B.notSynchronized, hK, hDis, hN⟩ out p0 p1 s.heap [] ls ⟨hP, va_S.rf⟩ hl h
theorem kX8_costOf (Cx : ms_C p s m args meth c D cA a shM cc nL own ret) {σ : Mm} {H : Heap} {locs : List Loc} (hI : ms_I D cA a shM s σ H locs) {p0 : Int32} {p1 : Int32} {out : Int32} (h : fX8_costOf σ p0 p1 = some out) (hl : Cond.methodLink own idx yX8_costOf ∈ wsL_law) (hf : 1 + 1 ≤ R.frames) (hlo : 8 + (3 + 11) + 21 ≤ R.locals) (hsz : ls.size = nL) (hW : (rest.map fun v => v.category).sum ≤ 8) (hd : decode cc pc = .ok (.invokevirtual idx, 3)) (kk : ∀ (H1 : Heap) (locs1 : List Loc), ms_I D cA a shM s σ H1 locs1 → W p l e R s m args below meth c H1 locs1 0 0 Q (F0 m (pc + 3) ls (.int out :: rest))) : W p l e R s m args below meth c H locs 0 0 Q (F0 m pc ls (.int p1 :: .int p0 :: .ref (a 0) :: rest)) :=
  ms_ci hI (ms_runV (av := [.int p0, .int p1]) Cx hI 0 shM_0 (ci := 8) rfl rfl yvX8_costOf (metX8_costOf l Cx.2.2.2.2.2.2.2.2.1  h) ⟨rfl, rfl⟩ hl ⟨hf, hlo⟩ rfl hsz rfl hW ⟨Nat.zero_le _, Nat.zero_le _⟩ hd) kk
/-! X8 wayOf (II)I -/
theorem dX8_wayOf_0 : decode cX8_wayOf 0 = .ok (.aload_n 0, 1) := by decide +kernel
theorem dX8_wayOf_1 : decode cX8_wayOf 1 = .ok (.getfield 120, 3) := by decide +kernel
theorem dX8_wayOf_4 : decode cX8_wayOf 4 = .ok (.aload_n 0, 1) := by decide +kernel
theorem dX8_wayOf_5 : decode cX8_wayOf 5 = .ok (.getfield 40, 3) := by decide +kernel
theorem dX8_wayOf_8 : decode cX8_wayOf 8 = .ok (.iconst 2, 1) := by decide +kernel
theorem dX8_wayOf_9 : decode cX8_wayOf 9 = .ok (.iload_n 1, 1) := by decide +kernel
theorem dX8_wayOf_10 : decode cX8_wayOf 10 = .ok (.imul, 1) := by decide +kernel
theorem dX8_wayOf_11 : decode cX8_wayOf 11 = .ok (.iaload, 1) := by decide +kernel
theorem dX8_wayOf_12 : decode cX8_wayOf 12 = .ok (.invokestatic 129, 3) := by decide +kernel
theorem dX8_wayOf_15 : decode cX8_wayOf 15 = .ok (.istore_n 3, 1) := by decide +kernel
theorem dX8_wayOf_16 : decode cX8_wayOf 16 = .ok (.aload_n 0, 1) := by decide +kernel
theorem dX8_wayOf_17 : decode cX8_wayOf 17 = .ok (.getfield 120, 3) := by decide +kernel
theorem dX8_wayOf_20 : decode cX8_wayOf 20 = .ok (.aload_n 0, 1) := by decide +kernel
theorem dX8_wayOf_21 : decode cX8_wayOf 21 = .ok (.getfield 40, 3) := by decide +kernel
theorem dX8_wayOf_24 : decode cX8_wayOf 24 = .ok (.iconst 2, 1) := by decide +kernel
theorem dX8_wayOf_25 : decode cX8_wayOf 25 = .ok (.iload_n 1, 1) := by decide +kernel
theorem dX8_wayOf_26 : decode cX8_wayOf 26 = .ok (.imul, 1) := by decide +kernel
theorem dX8_wayOf_27 : decode cX8_wayOf 27 = .ok (.iconst 1, 1) := by decide +kernel
theorem dX8_wayOf_28 : decode cX8_wayOf 28 = .ok (.iadd, 1) := by decide +kernel
theorem dX8_wayOf_29 : decode cX8_wayOf 29 = .ok (.iaload, 1) := by decide +kernel
theorem dX8_wayOf_30 : decode cX8_wayOf 30 = .ok (.invokestatic 129, 3) := by decide +kernel
theorem dX8_wayOf_33 : decode cX8_wayOf 33 = .ok (.istore 4, 2) := by decide +kernel
theorem dX8_wayOf_35 : decode cX8_wayOf 35 = .ok (.iload_n 2, 1) := by decide +kernel
theorem dX8_wayOf_36 : decode cX8_wayOf 36 = .ok (.iconst 1, 1) := by decide +kernel
theorem dX8_wayOf_37 : decode cX8_wayOf 37 = .ok (.if_icmp .ne 19, 3) := by decide +kernel
theorem dX8_wayOf_40 : decode cX8_wayOf 40 = .ok (.iload_n 3, 1) := by decide +kernel
theorem dX8_wayOf_41 : decode cX8_wayOf 41 = .ok (.iload 4, 2) := by decide +kernel
theorem dX8_wayOf_43 : decode cX8_wayOf 43 = .ok (.if_icmp .eq 13, 3) := by decide +kernel
theorem dX8_wayOf_46 : decode cX8_wayOf 46 = .ok (.iload_n 3, 1) := by decide +kernel
theorem dX8_wayOf_47 : decode cX8_wayOf 47 = .ok (.ifCond .eq 7, 3) := by decide +kernel
theorem dX8_wayOf_50 : decode cX8_wayOf 50 = .ok (.iconst 0, 1) := by decide +kernel
theorem dX8_wayOf_51 : decode cX8_wayOf 51 = .ok (.goto 4, 3) := by decide +kernel
theorem dX8_wayOf_54 : decode cX8_wayOf 54 = .ok (.iconst 1, 1) := by decide +kernel
theorem dX8_wayOf_55 : decode cX8_wayOf 55 = .ok (.ireturn, 1) := by decide +kernel
theorem dX8_wayOf_56 : decode cX8_wayOf 56 = .ok (.aload_n 0, 1) := by decide +kernel
theorem dX8_wayOf_57 : decode cX8_wayOf 57 = .ok (.iload_n 1, 1) := by decide +kernel
theorem dX8_wayOf_58 : decode cX8_wayOf 58 = .ok (.iconst 1, 1) := by decide +kernel
theorem dX8_wayOf_59 : decode cX8_wayOf 59 = .ok (.invokevirtual 166, 3) := by decide +kernel
theorem dX8_wayOf_62 : decode cX8_wayOf 62 = .ok (.aload_n 0, 1) := by decide +kernel
theorem dX8_wayOf_63 : decode cX8_wayOf 63 = .ok (.iload_n 1, 1) := by decide +kernel
theorem dX8_wayOf_64 : decode cX8_wayOf 64 = .ok (.iconst 0, 1) := by decide +kernel
theorem dX8_wayOf_65 : decode cX8_wayOf 65 = .ok (.invokevirtual 166, 3) := by decide +kernel
theorem dX8_wayOf_68 : decode cX8_wayOf 68 = .ok (.if_icmp .ge 7, 3) := by decide +kernel
theorem dX8_wayOf_71 : decode cX8_wayOf 71 = .ok (.iconst 1, 1) := by decide +kernel
theorem dX8_wayOf_72 : decode cX8_wayOf 72 = .ok (.goto 4, 3) := by decide +kernel
theorem dX8_wayOf_75 : decode cX8_wayOf 75 = .ok (.iconst 0, 1) := by decide +kernel
theorem dX8_wayOf_76 : decode cX8_wayOf 76 = .ok (.ireturn, 1) := by decide +kernel
abbrev rmX8_wayOf : Room := { frames := 2, cells := 0, slots := 0, locals := 43 }
set_option maxHeartbeats 4000000 in
set_option maxRecDepth 100000 in
theorem wX8_wayOf_56 (Cx : ms_C p s m args meth c D cA a shM cX8_wayOf 5 RX8 (some .int)) (out : Int32) {σ : Mm} : ∀ (y1 : Int32) , ∀ (H : Heap) (locs : List Loc) (ls : Array Slot), ms_I D cA a shM s σ H locs → lv_has ls 5 [(0, .ref (a 0)), (1, .int y1)] → fX8_wayOf_56 σ y1 = some out → W p l e rmX8_wayOf s m args below meth c H locs 0 0 (MQ below (ms_Qi D cA a shM out σ) args s 0 0 (ms_A a shM.length)) (F0 m 56 ls []) := by
  have hx := Cx.1
  have hb := Cx.2.1
  intro y1 H locs ls hI hl h
  unfold fX8_wayOf_56 at h
  refine lv_aload_n hx hb dX8_wayOf_56 rfl (lv_at hl 0 rfl) ?_
  refine lv_iload_n hx hb dX8_wayOf_57 rfl (lv_at hl 1 rfl) ?_
  refine lv_iconst (v := 1) hx hb dX8_wayOf_58 rfl ?_
  obtain ⟨r2, hc1, h⟩ := ms_bdE h
  refine kX8_costOf Cx hI hc1 wd_19_0 (Nat.le_of_ble_eq_true rfl) (Nat.le_of_ble_eq_true rfl) hl.1 (Nat.le_of_ble_eq_true rfl) dX8_wayOf_59 (fun H locs hI => ?_)
  refine lv_aload_n hx hb dX8_wayOf_62 rfl (lv_at hl 0 rfl) ?_
  refine lv_iload_n hx hb dX8_wayOf_63 rfl (lv_at hl 1 rfl) ?_
  refine lv_iconst (v := 0) hx hb dX8_wayOf_64 rfl ?_
  obtain ⟨r4, hc3, h⟩ := ms_bdE h
  refine kX8_costOf Cx hI hc3 wd_19_0 (Nat.le_of_ble_eq_true rfl) (Nat.le_of_ble_eq_true rfl) hl.1 (Nat.le_of_ble_eq_true rfl) dX8_wayOf_65 (fun H locs hI => ?_)
  refine lv_icmp_ge (tgt := 75) hx hb dX8_wayOf_68 rfl (fun hc => ?_) (fun hc => ?_)
  · have h := ms_ifT hc h
    refine lv_iconst (v := 0) hx hb dX8_wayOf_75 rfl ?_
    exact ms_ri Cx hI (Option.some.inj h) rfl dX8_wayOf_76
  · have h := ms_ifF hc h
    refine lv_iconst (v := 1) hx hb dX8_wayOf_71 rfl ?_
    refine lv_goto (tgt := 76) hx hb dX8_wayOf_72 rfl ?_
    exact ms_ri Cx hI (Option.some.inj h) rfl dX8_wayOf_76
set_option maxHeartbeats 4000000 in
set_option maxRecDepth 100000 in
theorem wX8_wayOf (Cx : ms_C p s m args meth c D cA a shM cX8_wayOf 5 RX8 (some .int)) (out : Int32) {σ : Mm} : ∀ (p0 : Int32) (p1 : Int32) , ∀ (H : Heap) (locs : List Loc) (ls : Array Slot), ms_I D cA a shM s σ H locs → lv_has ls 5 [(0, .ref (a 0)), (1, .int p0), (2, .int p1)] → fX8_wayOf σ p0 p1 = some out → W p l e rmX8_wayOf s m args below meth c H locs 0 0 (MQ below (ms_Qi D cA a shM out σ) args s 0 0 (ms_A a shM.length)) (F0 m 0 ls []) := by
  have hx := Cx.1
  have hb := Cx.2.1
  intro p0 p1 H locs ls hI hl h
  unfold fX8_wayOf at h
  refine lv_aload_n hx hb dX8_wayOf_0 rfl (lv_at hl 0 rfl) ?_
  refine gi_X8_10 Cx hI wd_11_21 dX8_wayOf_1 ?_
  refine lv_aload_n hx hb dX8_wayOf_4 rfl (lv_at hl 0 rfl) ?_
  refine gr_X8_14 Cx hI wd_6_23 dX8_wayOf_5 ?_
  refine lv_iconst (v := 2) hx hb dX8_wayOf_8 rfl ?_
  refine lv_iload_n hx hb dX8_wayOf_9 rfl (lv_at hl 1 rfl) ?_
  refine lv_imul hx hb dX8_wayOf_10 ?_
  obtain ⟨hg, h⟩ := ms_gE h
  refine ms_ld Cx hI 11 shM_11 hg dX8_wayOf_11 ?_
  obtain ⟨r2, hc1, h⟩ := ms_bdE h
  refine kX8_isIn Cx hI hc1 (Or.inl wd_12_23) (Nat.le_of_ble_eq_true rfl) (Nat.le_of_ble_eq_true rfl) hl.1 (Nat.le_of_ble_eq_true rfl) dX8_wayOf_12 (fun H locs hI => ?_)
  refine lv_istore_n (lv' := [(3, .int r2), (0, .ref (a 0)), (1, .int p0), (2, .int p1)]) hx hb dX8_wayOf_15 rfl hl (by decide) rfl (fun ls hl => ?_)
  refine lv_aload_n hx hb dX8_wayOf_16 rfl (lv_at hl 1 rfl) ?_
  refine gi_X8_10 Cx hI wd_11_21 dX8_wayOf_17 ?_
  refine lv_aload_n hx hb dX8_wayOf_20 rfl (lv_at hl 1 rfl) ?_
  refine gr_X8_14 Cx hI wd_6_23 dX8_wayOf_21 ?_
  refine lv_iconst (v := 2) hx hb dX8_wayOf_24 rfl ?_
  refine lv_iload_n hx hb dX8_wayOf_25 rfl (lv_at hl 2 rfl) ?_
  refine lv_imul hx hb dX8_wayOf_26 ?_
  refine lv_iconst (v := 1) hx hb dX8_wayOf_27 rfl ?_
  refine lv_iadd hx hb dX8_wayOf_28 ?_
  obtain ⟨hg, h⟩ := ms_gE h
  refine ms_ld Cx hI 11 shM_11 hg dX8_wayOf_29 ?_
  obtain ⟨r4, hc3, h⟩ := ms_bdE h
  refine kX8_isIn Cx hI hc3 (Or.inl wd_12_23) (Nat.le_of_ble_eq_true rfl) (Nat.le_of_ble_eq_true rfl) hl.1 (Nat.le_of_ble_eq_true rfl) dX8_wayOf_30 (fun H locs hI => ?_)
  refine lv_istore (lv' := [(4, .int r4), (3, .int r2), (0, .ref (a 0)), (1, .int p0), (2, .int p1)]) hx hb dX8_wayOf_33 hl (by decide) rfl (fun ls hl => ?_)
  refine lv_iload_n hx hb dX8_wayOf_35 rfl (lv_at hl 4 rfl) ?_
  refine lv_iconst (v := 1) hx hb dX8_wayOf_36 rfl ?_
  refine lv_icmp_ne (tgt := 56) hx hb dX8_wayOf_37 rfl (fun hc => ?_) (fun hc => ?_)
  · have h := ms_ifF hc h
    exact wX8_wayOf_56 Cx out  p0 _ _ _ hI (lv_sub hl [2, 3] rfl) h
  · have h := ms_ifT hc h
    refine lv_iload_n hx hb dX8_wayOf_40 rfl (lv_at hl 1 rfl) ?_
    refine lv_iload hx hb dX8_wayOf_41 (lv_at hl 0 rfl) ?_
    refine lv_icmp_eq (tgt := 56) hx hb dX8_wayOf_43 rfl (fun hc => ?_) (fun hc => ?_)
    · have h := ms_ifT hc h
      exact wX8_wayOf_56 Cx out  p0 _ _ _ hI (lv_sub hl [2, 3] rfl) h
    · have h := ms_ifF hc h
      refine lv_iload_n hx hb dX8_wayOf_46 rfl (lv_at hl 1 rfl) ?_
      refine lv_if_eq (tgt := 54) hx hb dX8_wayOf_47 rfl (fun hc => ?_) (fun hc => ?_)
      · have h := ms_ifT hc h
        refine lv_iconst (v := 1) hx hb dX8_wayOf_54 rfl ?_
        exact ms_ri Cx hI (Option.some.inj h) rfl dX8_wayOf_55
      · have h := ms_ifF hc h
        refine lv_iconst (v := 0) hx hb dX8_wayOf_50 rfl ?_
        refine lv_goto (tgt := 55) hx hb dX8_wayOf_51 rfl ?_
        exact ms_ri Cx hI (Option.some.inj h) rfl dX8_wayOf_55
theorem yvX8_wayOf : ms_YV yX8_wayOf RX8 cX8_wayOf 5 (some .int) 2 := ⟨wd_18_21, wd_18_22, wd_1_5, wd_18_23, rfl, by decide +kernel, by decide +kernel, by decide +kernel⟩
set_option maxHeartbeats 4000000 in
theorem metX8_wayOf (l : Launch) (hDis : ms_Dis a shM.length) {σ : Mm} {p0 : Int32} {p1 : Int32} {out : Int32} (h : fX8_wayOf σ p0 p1 = some out) : Met l yX8_wayOf (.code yX8_wayOf cX8_wayOf 5 (some .int) :: wsL_law) rmX8_wayOf (ms_Pc D cA a shM [.ref (a 0), .int p0, .int p1] σ) (ms_Qi D cA a shM out σ) 0 0 (ms_A a shM.length) := by
  refine Met.ofW (cc := cX8_wayOf) (maxL := 5) (ret := (some .int)) (by decide) rfl ?_
  intro p e s m args below meth c s₁ B hml hv
  obtain ⟨rfl, hK, hN, hP⟩ := hv
  have hl := lv_entry ([.ref (a 0), .int p0, .int p1]) (n := 5) (Nat.le_of_ble_eq_true rfl)
  rw [lg_entry_eq]
  generalize (lg_sl ([.ref (a 0), .int p0, .int p1]) ++ List.replicate (5 - (lg_sl ([.ref (a 0), .int p0, .int p1])).length) Slot.unset).toArray = ls at hl ⊢
  exact wX8_wayOf ⟨B.exec, B.bytes, hml, findClass_of_methodNamed B.named, fun w hw => atoms_spec (ws := .code yX8_wayOf cX8_wayOf 5 (some .int) :: wsL_law) B.pre w (List.mem_cons_of_mem _ hw), B.returns, B.notSynchronized, hK, hDis, hN⟩ out p0 p1 s.heap [] ls ⟨hP, va_S.rf⟩ hl h
theorem kX8_wayOf (Cx : ms_C p s m args meth c D cA a shM cc nL own ret) {σ : Mm} {H : Heap} {locs : List Loc} (hI : ms_I D cA a shM s σ H locs) {p0 : Int32} {p1 : Int32} {out : Int32} (h : fX8_wayOf σ p0 p1 = some out) (hl : Cond.methodLink own idx yX8_wayOf ∈ wsL_law) (hf : 2 + 1 ≤ R.frames) (hlo : 8 + (5 + 11) + 43 ≤ R.locals) (hsz : ls.size = nL) (hW : (rest.map fun v => v.category).sum ≤ 8) (hd : decode cc pc = .ok (.invokevirtual idx, 3)) (kk : ∀ (H1 : Heap) (locs1 : List Loc), ms_I D cA a shM s σ H1 locs1 → W p l e R s m args below meth c H1 locs1 0 0 Q (F0 m (pc + 3) ls (.int out :: rest))) : W p l e R s m args below meth c H locs 0 0 Q (F0 m pc ls (.int p1 :: .int p0 :: .ref (a 0) :: rest)) :=
  ms_ci hI (ms_runV (av := [.int p0, .int p1]) Cx hI 0 shM_0 (ci := 8) rfl rfl yvX8_wayOf (metX8_wayOf l Cx.2.2.2.2.2.2.2.2.1  h) ⟨rfl, rfl⟩ hl ⟨hf, hlo⟩ rfl hsz rfl hW ⟨Nat.zero_le _, Nat.zero_le _⟩ hd) kk
/-! X8 goesOf (I)I -/
theorem dX8_goesOf_0 : decode cX8_goesOf 0 = .ok (.aload_n 0, 1) := by decide +kernel
theorem dX8_goesOf_1 : decode cX8_goesOf 1 = .ok (.getfield 40, 3) := by decide +kernel
theorem dX8_goesOf_4 : decode cX8_goesOf 4 = .ok (.iconst 2, 1) := by decide +kernel
theorem dX8_goesOf_5 : decode cX8_goesOf 5 = .ok (.iload_n 1, 1) := by decide +kernel
theorem dX8_goesOf_6 : decode cX8_goesOf 6 = .ok (.imul, 1) := by decide +kernel
theorem dX8_goesOf_7 : decode cX8_goesOf 7 = .ok (.aload_n 0, 1) := by decide +kernel
theorem dX8_goesOf_8 : decode cX8_goesOf 8 = .ok (.iload_n 1, 1) := by decide +kernel
theorem dX8_goesOf_9 : decode cX8_goesOf 9 = .ok (.aload_n 0, 1) := by decide +kernel
theorem dX8_goesOf_10 : decode cX8_goesOf 10 = .ok (.getfield 13, 3) := by decide +kernel
theorem dX8_goesOf_13 : decode cX8_goesOf 13 = .ok (.iconst 5, 1) := by decide +kernel
theorem dX8_goesOf_14 : decode cX8_goesOf 14 = .ok (.iaload, 1) := by decide +kernel
theorem dX8_goesOf_15 : decode cX8_goesOf 15 = .ok (.invokevirtual 169, 3) := by decide +kernel
theorem dX8_goesOf_18 : decode cX8_goesOf 18 = .ok (.iadd, 1) := by decide +kernel
theorem dX8_goesOf_19 : decode cX8_goesOf 19 = .ok (.iaload, 1) := by decide +kernel
theorem dX8_goesOf_20 : decode cX8_goesOf 20 = .ok (.ireturn, 1) := by decide +kernel
abbrev rmX8_goesOf : Room := { frames := 3, cells := 0, slots := 0, locals := 67 }
set_option maxHeartbeats 4000000 in
set_option maxRecDepth 100000 in
theorem wX8_goesOf (Cx : ms_C p s m args meth c D cA a shM cX8_goesOf 2 RX8 (some .int)) (out : Int32) {σ : Mm} : ∀ (p0 : Int32) , ∀ (H : Heap) (locs : List Loc) (ls : Array Slot), ms_I D cA a shM s σ H locs → lv_has ls 2 [(0, .ref (a 0)), (1, .int p0)] → fX8_goesOf σ p0 = some out → W p l e rmX8_goesOf s m args below meth c H locs 0 0 (MQ below (ms_Qi D cA a shM out σ) args s 0 0 (ms_A a shM.length)) (F0 m 0 ls []) := by
  have hx := Cx.1
  have hb := Cx.2.1
  intro p0 H locs ls hI hl h
  unfold fX8_goesOf at h
  refine lv_aload_n hx hb dX8_goesOf_0 rfl (lv_at hl 0 rfl) ?_
  refine gr_X8_14 Cx hI wd_6_23 dX8_goesOf_1 ?_
  refine lv_iconst (v := 2) hx hb dX8_goesOf_4 rfl ?_
  refine lv_iload_n hx hb dX8_goesOf_5 rfl (lv_at hl 1 rfl) ?_
  refine lv_imul hx hb dX8_goesOf_6 ?_
  refine lv_aload_n hx hb dX8_goesOf_7 rfl (lv_at hl 0 rfl) ?_
  refine lv_iload_n hx hb dX8_goesOf_8 rfl (lv_at hl 1 rfl) ?_
  refine lv_aload_n hx hb dX8_goesOf_9 rfl (lv_at hl 0 rfl) ?_
  refine gr_X8_2 Cx hI wd_6_14 dX8_goesOf_10 ?_
  refine lv_iconst (v := 5) hx hb dX8_goesOf_13 rfl ?_
  obtain ⟨hg, h⟩ := ms_gE h
  refine ms_ld Cx hI 2 shM_2 hg dX8_goesOf_14 ?_
  obtain ⟨r2, hc1, h⟩ := ms_bdE h
  refine kX8_wayOf Cx hI hc1 wd_18_20 (Nat.le_of_ble_eq_true rfl) (Nat.le_of_ble_eq_true rfl) hl.1 (Nat.le_of_ble_eq_true rfl) dX8_goesOf_15 (fun H locs hI => ?_)
  refine lv_iadd hx hb dX8_goesOf_18 ?_
  obtain ⟨hg, h⟩ := ms_gE h
  refine ms_ld Cx hI 11 shM_11 hg dX8_goesOf_19 ?_
  exact ms_ri Cx hI (Option.some.inj h) rfl dX8_goesOf_20
theorem yvX8_goesOf : ms_YV yX8_goesOf RX8 cX8_goesOf 2 (some .int) 1 := ⟨wd_18_17, wd_18_18, wd_1_5, wd_18_19, rfl, by decide +kernel, by decide +kernel, by decide +kernel⟩
set_option maxHeartbeats 4000000 in
theorem metX8_goesOf (l : Launch) (hDis : ms_Dis a shM.length) {σ : Mm} {p0 : Int32} {out : Int32} (h : fX8_goesOf σ p0 = some out) : Met l yX8_goesOf (.code yX8_goesOf cX8_goesOf 2 (some .int) :: wsL_law) rmX8_goesOf (ms_Pc D cA a shM [.ref (a 0), .int p0] σ) (ms_Qi D cA a shM out σ) 0 0 (ms_A a shM.length) := by
  refine Met.ofW (cc := cX8_goesOf) (maxL := 2) (ret := (some .int)) (by decide) rfl ?_
  intro p e s m args below meth c s₁ B hml hv
  obtain ⟨rfl, hK, hN, hP⟩ := hv
  have hl := lv_entry ([.ref (a 0), .int p0]) (n := 2) (Nat.le_of_ble_eq_true rfl)
  rw [lg_entry_eq]
  generalize (lg_sl ([.ref (a 0), .int p0]) ++ List.replicate (2 - (lg_sl ([.ref (a 0), .int p0])).length) Slot.unset).toArray = ls at hl ⊢
  exact wX8_goesOf ⟨B.exec, B.bytes, hml, findClass_of_methodNamed B.named, fun w hw => atoms_spec (ws := .code yX8_goesOf cX8_goesOf 2 (some .int) :: wsL_law) B.pre w (List.mem_cons_of_mem _ hw), B.returns, B.notSynchronized, hK, hDis, hN⟩ out p0 s.heap [] ls ⟨hP, va_S.rf⟩ hl h
theorem kX8_goesOf (Cx : ms_C p s m args meth c D cA a shM cc nL own ret) {σ : Mm} {H : Heap} {locs : List Loc} (hI : ms_I D cA a shM s σ H locs) {p0 : Int32} {out : Int32} (h : fX8_goesOf σ p0 = some out) (hl : Cond.methodLink own idx yX8_goesOf ∈ wsL_law) (hf : 3 + 1 ≤ R.frames) (hlo : 8 + (2 + 11) + 67 ≤ R.locals) (hsz : ls.size = nL) (hW : (rest.map fun v => v.category).sum ≤ 8) (hd : decode cc pc = .ok (.invokevirtual idx, 3)) (kk : ∀ (H1 : Heap) (locs1 : List Loc), ms_I D cA a shM s σ H1 locs1 → W p l e R s m args below meth c H1 locs1 0 0 Q (F0 m (pc + 3) ls (.int out :: rest))) : W p l e R s m args below meth c H locs 0 0 Q (F0 m pc ls (.int p0 :: .ref (a 0) :: rest)) :=
  ms_ci hI (ms_runV (av := [.int p0]) Cx hI 0 shM_0 (ci := 8) rfl rfl yvX8_goesOf (metX8_goesOf l Cx.2.2.2.2.2.2.2.2.1  h) ⟨rfl, rfl⟩ hl ⟨hf, hlo⟩ rfl hsz rfl hW ⟨Nat.zero_le _, Nat.zero_le _⟩ hd) kk
/-! X8 goes (I)I -/
theorem dX8_goes_0 : decode cX8_goes 0 = .ok (.aload_n 0, 1) := by decide +kernel
theorem dX8_goes_1 : decode cX8_goes 1 = .ok (.iload_n 1, 1) := by decide +kernel
theorem dX8_goes_2 : decode cX8_goes 2 = .ok (.invokevirtual 154, 3) := by decide +kernel
theorem dX8_goes_5 : decode cX8_goes 5 = .ok (.ifCond .eq 11, 3) := by decide +kernel
theorem dX8_goes_8 : decode cX8_goes 8 = .ok (.aload_n 0, 1) := by decide +kernel
theorem dX8_goes_9 : decode cX8_goes 9 = .ok (.iload_n 1, 1) := by decide +kernel
theorem dX8_goes_10 : decode cX8_goes 10 = .ok (.invokevirtual 172, 3) := by decide +kernel
theorem dX8_goes_13 : decode cX8_goes 13 = .ok (.goto 5, 3) := by decide +kernel
theorem dX8_goes_16 : decode cX8_goes 16 = .ok (.bipush (-2), 2) := by decide +kernel
theorem dX8_goes_18 : decode cX8_goes 18 = .ok (.ireturn, 1) := by decide +kernel
abbrev rmX8_goes : Room := { frames := 8, cells := 0, slots := 0, locals := 178 }
set_option maxHeartbeats 4000000 in
set_option maxRecDepth 100000 in
theorem wX8_goes (Cx : ms_C p s m args meth c D cA a shM cX8_goes 2 RX8 (some .int)) (out : Int32 × Mm) : ∀ (p0 : Int32) , ∀ (σ : Mm) (H : Heap) (locs : List Loc) (ls : Array Slot), ms_I D cA a shM s σ H locs → lv_has ls 2 [(0, .ref (a 0)), (1, .int p0)] → fX8_goes p0 σ = some out → W p l e rmX8_goes s m args below meth c H locs 0 0 (MQ below (ms_Qi D cA a shM out.1 out.2) args s 0 0 (ms_A a shM.length)) (F0 m 0 ls []) := by
  have hx := Cx.1
  have hb := Cx.2.1
  intro p0 σ H locs ls hI hl h
  unfold fX8_goes at h
  refine lv_aload_n hx hb dX8_goes_0 rfl (lv_at hl 0 rfl) ?_
  refine lv_iload_n hx hb dX8_goes_1 rfl (lv_at hl 1 rfl) ?_
  obtain ⟨⟨r2, σ3⟩, hc1, h⟩ := ms_bdE h
  refine kX8_isGroup Cx hI hc1 wd_15_12 (Nat.le_of_ble_eq_true rfl) (Nat.le_of_ble_eq_true rfl) hl.1 (Nat.le_of_ble_eq_true rfl) dX8_goes_2 (fun H locs hI => ?_)
  refine lv_if_eq (tgt := 16) hx hb dX8_goes_5 rfl (fun hc => ?_) (fun hc => ?_)
  · have h := ms_ifT hc h
    refine lv_bipush (v := -2) hx hb dX8_goes_16 rfl ?_
    exact ms_riw Cx hI h dX8_goes_18
  · have h := ms_ifF hc h
    refine lv_aload_n hx hb dX8_goes_8 rfl (lv_at hl 0 rfl) ?_
    refine lv_iload_n hx hb dX8_goes_9 rfl (lv_at hl 1 rfl) ?_
    obtain ⟨r5, hc4, h⟩ := ms_bdE h
    refine kX8_goesOf Cx hI hc4 wd_18_16 (Nat.le_of_ble_eq_true rfl) (Nat.le_of_ble_eq_true rfl) hl.1 (Nat.le_of_ble_eq_true rfl) dX8_goes_10 (fun H locs hI => ?_)
    refine lv_goto (tgt := 18) hx hb dX8_goes_13 rfl ?_
    exact ms_riw Cx hI h dX8_goes_18
theorem yvX8_goes : ms_YV yX8_goes RX8 cX8_goes 2 (some .int) 1 := ⟨wd_18_13, wd_18_14, wd_1_5, wd_18_15, rfl, by decide +kernel, by decide +kernel, by decide +kernel⟩
set_option maxHeartbeats 4000000 in
theorem metX8_goes (l : Launch) (hDis : ms_Dis a shM.length) {σ : Mm} {p0 : Int32} {out : Int32 × Mm} (h : fX8_goes p0 σ = some out) : Met l yX8_goes (.code yX8_goes cX8_goes 2 (some .int) :: wsL_law) rmX8_goes (ms_Pc D cA a shM [.ref (a 0), .int p0] σ) (ms_Qi D cA a shM out.1 out.2) 0 0 (ms_A a shM.length) := by
  refine Met.ofW (cc := cX8_goes) (maxL := 2) (ret := (some .int)) (by decide) rfl ?_
  intro p e s m args below meth c s₁ B hml hv
  obtain ⟨rfl, hK, hN, hP⟩ := hv
  have hl := lv_entry ([.ref (a 0), .int p0]) (n := 2) (Nat.le_of_ble_eq_true rfl)
  rw [lg_entry_eq]
  generalize (lg_sl ([.ref (a 0), .int p0]) ++ List.replicate (2 - (lg_sl ([.ref (a 0), .int p0])).length) Slot.unset).toArray = ls at hl ⊢
  exact wX8_goes ⟨B.exec, B.bytes, hml, findClass_of_methodNamed B.named, fun w hw => atoms_spec (ws := .code yX8_goes cX8_goes 2 (some .int) :: wsL_law) B.pre w (List.mem_cons_of_mem _ hw), B.returns, B.notSynchronized, hK, hDis, hN⟩ out p0 σ s.heap [] ls ⟨hP, va_S.rf⟩ hl h
theorem kX8_goes (Cx : ms_C p s m args meth c D cA a shM cc nL own ret) {σ : Mm} {H : Heap} {locs : List Loc} (hI : ms_I D cA a shM s σ H locs) {p0 : Int32} {out : Int32 × Mm} (h : fX8_goes p0 σ = some out) (hl : Cond.methodLink own idx yX8_goes ∈ wsL_law) (hf : 8 + 1 ≤ R.frames) (hlo : 8 + (2 + 11) + 178 ≤ R.locals) (hsz : ls.size = nL) (hW : (rest.map fun v => v.category).sum ≤ 8) (hd : decode cc pc = .ok (.invokevirtual idx, 3)) (kk : ∀ (H1 : Heap) (locs1 : List Loc), ms_I D cA a shM s out.2 H1 locs1 → W p l e R s m args below meth c H1 locs1 0 0 Q (F0 m (pc + 3) ls (.int out.1 :: rest))) : W p l e R s m args below meth c H locs 0 0 Q (F0 m pc ls (.int p0 :: .ref (a 0) :: rest)) :=
  ms_ci hI (ms_runV (av := [.int p0]) Cx hI 0 shM_0 (ci := 8) rfl rfl yvX8_goes (metX8_goes l Cx.2.2.2.2.2.2.2.2.1  h) ⟨rfl, rfl⟩ hl ⟨hf, hlo⟩ rfl hsz rfl hW ⟨Nat.zero_le _, Nat.zero_le _⟩ hd) kk
/-! X8 toilOf (I)I -/
theorem dX8_toilOf_0 : decode cX8_toilOf 0 = .ok (.aload_n 0, 1) := by decide +kernel
theorem dX8_toilOf_1 : decode cX8_toilOf 1 = .ok (.invokevirtual 140, 3) := by decide +kernel
theorem dX8_toilOf_4 : decode cX8_toilOf 4 = .ok (.istore_n 2, 1) := by decide +kernel
theorem dX8_toilOf_5 : decode cX8_toilOf 5 = .ok (.iconst 0, 1) := by decide +kernel
theorem dX8_toilOf_6 : decode cX8_toilOf 6 = .ok (.istore_n 3, 1) := by decide +kernel
theorem dX8_toilOf_7 : decode cX8_toilOf 7 = .ok (.iconst 0, 1) := by decide +kernel
theorem dX8_toilOf_8 : decode cX8_toilOf 8 = .ok (.istore 4, 2) := by decide +kernel
theorem dX8_toilOf_10 : decode cX8_toilOf 10 = .ok (.iload 4, 2) := by decide +kernel
theorem dX8_toilOf_12 : decode cX8_toilOf 12 = .ok (.aload_n 0, 1) := by decide +kernel
theorem dX8_toilOf_13 : decode cX8_toilOf 13 = .ok (.getfield 123, 3) := by decide +kernel
theorem dX8_toilOf_16 : decode cX8_toilOf 16 = .ok (.if_icmp .ge 33, 3) := by decide +kernel
theorem dX8_toilOf_19 : decode cX8_toilOf 19 = .ok (.iload_n 3, 1) := by decide +kernel
theorem dX8_toilOf_20 : decode cX8_toilOf 20 = .ok (.aload_n 0, 1) := by decide +kernel
theorem dX8_toilOf_21 : decode cX8_toilOf 21 = .ok (.getfield 34, 3) := by decide +kernel
theorem dX8_toilOf_24 : decode cX8_toilOf 24 = .ok (.iload 4, 2) := by decide +kernel
theorem dX8_toilOf_26 : decode cX8_toilOf 26 = .ok (.iaload, 1) := by decide +kernel
theorem dX8_toilOf_27 : decode cX8_toilOf 27 = .ok (.aload_n 0, 1) := by decide +kernel
theorem dX8_toilOf_28 : decode cX8_toilOf 28 = .ok (.iload 4, 2) := by decide +kernel
theorem dX8_toilOf_30 : decode cX8_toilOf 30 = .ok (.aload_n 0, 1) := by decide +kernel
theorem dX8_toilOf_31 : decode cX8_toilOf 31 = .ok (.iload 4, 2) := by decide +kernel
theorem dX8_toilOf_33 : decode cX8_toilOf 33 = .ok (.iload_n 1, 1) := by decide +kernel
theorem dX8_toilOf_34 : decode cX8_toilOf 34 = .ok (.invokevirtual 169, 3) := by decide +kernel
theorem dX8_toilOf_37 : decode cX8_toilOf 37 = .ok (.invokevirtual 166, 3) := by decide +kernel
theorem dX8_toilOf_40 : decode cX8_toilOf 40 = .ok (.imul, 1) := by decide +kernel
theorem dX8_toilOf_41 : decode cX8_toilOf 41 = .ok (.iadd, 1) := by decide +kernel
theorem dX8_toilOf_42 : decode cX8_toilOf 42 = .ok (.istore_n 3, 1) := by decide +kernel
theorem dX8_toilOf_43 : decode cX8_toilOf 43 = .ok (.iinc 4 1, 3) := by decide +kernel
theorem dX8_toilOf_46 : decode cX8_toilOf 46 = .ok (.goto (-36), 3) := by decide +kernel
theorem dX8_toilOf_49 : decode cX8_toilOf 49 = .ok (.iload_n 3, 1) := by decide +kernel
theorem dX8_toilOf_50 : decode cX8_toilOf 50 = .ok (.ireturn, 1) := by decide +kernel
abbrev rmX8_toilOf : Room := { frames := 7, cells := 0, slots := 0, locals := 156 }
set_option maxHeartbeats 4000000 in
set_option maxRecDepth 100000 in
theorem wX8_toilOf_10 (Cx : ms_C p s m args meth c D cA a shM cX8_toilOf 5 RX8 (some .int)) (out : Int32 × Mm) : ∀ (n : Nat), ∀ (y1 : Int32) (y2 : Int32) (y3 : Int32) , ∀ (σ : Mm) (H : Heap) (locs : List Loc) (ls : Array Slot), ms_I D cA a shM s σ H locs → lv_has ls 5 [(0, .ref (a 0)), (1, .int y1), (3, .int y2), (4, .int y3)] → fX8_toilOf_10 n y1 y2 y3 σ = some out → W p l e rmX8_toilOf s m args below meth c H locs 0 0 (MQ below (ms_Qi D cA a shM out.1 out.2) args s 0 0 (ms_A a shM.length)) (F0 m 10 ls []) := by
  have hx := Cx.1
  have hb := Cx.2.1
  intro n
  induction n with
  | zero =>
    intro y1 y2 y3 σ H locs ls hI hl h
    exact nomatch (show none = some out from h)
  | succ n ih =>
    intro y1 y2 y3 σ H locs ls hI hl h
    rw [fX8_toilOf_10] at h
    refine lv_iload hx hb dX8_toilOf_10 (lv_at hl 3 rfl) ?_
    refine lv_aload_n hx hb dX8_toilOf_12 rfl (lv_at hl 0 rfl) ?_
    refine gi_X8_11 Cx hI wd_11_22 dX8_toilOf_13 ?_
    refine lv_icmp_ge (tgt := 49) hx hb dX8_toilOf_16 rfl (fun hc => ?_) (fun hc => ?_)
    · have h := ms_ifT hc h
      refine lv_iload_n hx hb dX8_toilOf_49 rfl (lv_at hl 2 rfl) ?_
      exact ms_riw Cx hI h dX8_toilOf_50
    · have h := ms_ifF hc h
      refine lv_iload_n hx hb dX8_toilOf_19 rfl (lv_at hl 2 rfl) ?_
      refine lv_aload_n hx hb dX8_toilOf_20 rfl (lv_at hl 0 rfl) ?_
      refine gr_X8_12 Cx hI wd_6_21 dX8_toilOf_21 ?_
      refine lv_iload hx hb dX8_toilOf_24 (lv_at hl 3 rfl) ?_
      obtain ⟨hg, h⟩ := ms_gE h
      refine ms_ld Cx hI 9 shM_9 hg dX8_toilOf_26 ?_
      refine lv_aload_n hx hb dX8_toilOf_27 rfl (lv_at hl 0 rfl) ?_
      refine lv_iload hx hb dX8_toilOf_28 (lv_at hl 3 rfl) ?_
      refine lv_aload_n hx hb dX8_toilOf_30 rfl (lv_at hl 0 rfl) ?_
      refine lv_iload hx hb dX8_toilOf_31 (lv_at hl 3 rfl) ?_
      refine lv_iload_n hx hb dX8_toilOf_33 rfl (lv_at hl 1 rfl) ?_
      obtain ⟨r2, hc1, h⟩ := ms_bdE h
      refine kX8_wayOf Cx hI hc1 wd_18_20 (Nat.le_of_ble_eq_true rfl) (Nat.le_of_ble_eq_true rfl) hl.1 (Nat.le_of_ble_eq_true rfl) dX8_toilOf_34 (fun H locs hI => ?_)
      obtain ⟨r4, hc3, h⟩ := ms_bdE h
      refine kX8_costOf Cx hI hc3 wd_19_0 (Nat.le_of_ble_eq_true rfl) (Nat.le_of_ble_eq_true rfl) hl.1 (Nat.le_of_ble_eq_true rfl) dX8_toilOf_37 (fun H locs hI => ?_)
      refine lv_imul hx hb dX8_toilOf_40 ?_
      refine lv_iadd hx hb dX8_toilOf_41 ?_
      refine lv_topi (fun x5 ex5 => ?_)
      have h := ms_ltE ex5 h
      refine lv_istore_n (lv' := [(3, .int x5), (0, .ref (a 0)), (1, .int y1), (4, .int y3)]) hx hb dX8_toilOf_42 rfl hl (by decide) rfl (fun ls hl => ?_)
      refine lv_iinc (v := y3 + 1) (lv' := [(4, .int (y3 + 1)), (3, .int x5), (0, .ref (a 0)), (1, .int y1)]) hx hb dX8_toilOf_43 hl (k := 3) rfl rfl (by decide) rfl (fun ls hl => ?_)
      refine lv_goto (tgt := 10) hx hb dX8_toilOf_46 rfl ?_
      exact ih y1 x5 (y3 + 1) σ _ _ _ hI (lv_sub hl [2, 3, 1, 0] rfl) h
set_option maxHeartbeats 4000000 in
set_option maxRecDepth 100000 in
theorem wX8_toilOf (Cx : ms_C p s m args meth c D cA a shM cX8_toilOf 5 RX8 (some .int)) (out : Int32 × Mm) : ∀ (p0 : Int32) , ∀ (σ : Mm) (H : Heap) (locs : List Loc) (ls : Array Slot), ms_I D cA a shM s σ H locs → lv_has ls 5 [(0, .ref (a 0)), (1, .int p0)] → fX8_toilOf p0 σ = some out → W p l e rmX8_toilOf s m args below meth c H locs 0 0 (MQ below (ms_Qi D cA a shM out.1 out.2) args s 0 0 (ms_A a shM.length)) (F0 m 0 ls []) := by
  have hx := Cx.1
  have hb := Cx.2.1
  intro p0 σ H locs ls hI hl h
  unfold fX8_toilOf at h
  refine lv_aload_n hx hb dX8_toilOf_0 rfl (lv_at hl 0 rfl) ?_
  obtain ⟨⟨r2, σ3⟩, hc1, h⟩ := ms_bdE h
  refine kX8_faultNow Cx hI hc1 wd_11_16 (Nat.le_of_ble_eq_true rfl) (Nat.le_of_ble_eq_true rfl) hl.1 (Nat.le_of_ble_eq_true rfl) dX8_toilOf_1 (fun H locs hI => ?_)
  refine lv_istore_n (lv' := [(2, .int r2), (0, .ref (a 0)), (1, .int p0)]) hx hb dX8_toilOf_4 rfl hl (by decide) rfl (fun ls hl => ?_)
  refine lv_iconst (v := 0) hx hb dX8_toilOf_5 rfl ?_
  refine lv_istore_n (lv' := [(3, .int 0), (2, .int r2), (0, .ref (a 0)), (1, .int p0)]) hx hb dX8_toilOf_6 rfl hl (by decide) rfl (fun ls hl => ?_)
  refine lv_iconst (v := 0) hx hb dX8_toilOf_7 rfl ?_
  refine lv_istore (lv' := [(4, .int 0), (3, .int 0), (2, .int r2), (0, .ref (a 0)), (1, .int p0)]) hx hb dX8_toilOf_8 hl (by decide) rfl (fun ls hl => ?_)
  exact wX8_toilOf_10 Cx out  ms_fu p0 0 0 σ3 _ _ _ hI (lv_sub hl [3, 4, 1, 0] rfl) h
theorem yvX8_toilOf : ms_YV yX8_toilOf RX8 cX8_toilOf 5 (some .int) 1 := ⟨wd_19_19, wd_19_20, wd_1_5, wd_19_21, rfl, by decide +kernel, by decide +kernel, by decide +kernel⟩
set_option maxHeartbeats 4000000 in
theorem metX8_toilOf (l : Launch) (hDis : ms_Dis a shM.length) {σ : Mm} {p0 : Int32} {out : Int32 × Mm} (h : fX8_toilOf p0 σ = some out) : Met l yX8_toilOf (.code yX8_toilOf cX8_toilOf 5 (some .int) :: wsL_law) rmX8_toilOf (ms_Pc D cA a shM [.ref (a 0), .int p0] σ) (ms_Qi D cA a shM out.1 out.2) 0 0 (ms_A a shM.length) := by
  refine Met.ofW (cc := cX8_toilOf) (maxL := 5) (ret := (some .int)) (by decide) rfl ?_
  intro p e s m args below meth c s₁ B hml hv
  obtain ⟨rfl, hK, hN, hP⟩ := hv
  have hl := lv_entry ([.ref (a 0), .int p0]) (n := 5) (Nat.le_of_ble_eq_true rfl)
  rw [lg_entry_eq]
  generalize (lg_sl ([.ref (a 0), .int p0]) ++ List.replicate (5 - (lg_sl ([.ref (a 0), .int p0])).length) Slot.unset).toArray = ls at hl ⊢
  exact wX8_toilOf ⟨B.exec, B.bytes, hml, findClass_of_methodNamed B.named, fun w hw => atoms_spec (ws := .code yX8_toilOf cX8_toilOf 5 (some .int) :: wsL_law) B.pre w (List.mem_cons_of_mem _ hw), B.returns, B.notSynchronized, hK, hDis, hN⟩ out p0 σ s.heap [] ls ⟨hP, va_S.rf⟩ hl h
theorem kX8_toilOf (Cx : ms_C p s m args meth c D cA a shM cc nL own ret) {σ : Mm} {H : Heap} {locs : List Loc} (hI : ms_I D cA a shM s σ H locs) {p0 : Int32} {out : Int32 × Mm} (h : fX8_toilOf p0 σ = some out) (hl : Cond.methodLink own idx yX8_toilOf ∈ wsL_law) (hf : 7 + 1 ≤ R.frames) (hlo : 8 + (5 + 11) + 156 ≤ R.locals) (hsz : ls.size = nL) (hW : (rest.map fun v => v.category).sum ≤ 8) (hd : decode cc pc = .ok (.invokevirtual idx, 3)) (kk : ∀ (H1 : Heap) (locs1 : List Loc), ms_I D cA a shM s out.2 H1 locs1 → W p l e R s m args below meth c H1 locs1 0 0 Q (F0 m (pc + 3) ls (.int out.1 :: rest))) : W p l e R s m args below meth c H locs 0 0 Q (F0 m pc ls (.int p0 :: .ref (a 0) :: rest)) :=
  ms_ci hI (ms_runV (av := [.int p0]) Cx hI 0 shM_0 (ci := 8) rfl rfl yvX8_toilOf (metX8_toilOf l Cx.2.2.2.2.2.2.2.2.1  h) ⟨rfl, rfl⟩ hl ⟨hf, hlo⟩ rfl hsz rfl hW ⟨Nat.zero_le _, Nat.zero_le _⟩ hd) kk
end WK
