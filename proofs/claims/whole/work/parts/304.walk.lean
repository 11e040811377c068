section WK
variable {p : Program} {l : Launch} {e : Env} {R : Room} {s : State} {m : MethodId} {args : Array Value} {below : List Frame} {meth : Method} {c : Code} {Q : State → Prop}
variable {D : va_G} {cA : Nat → ClassId} {a : Nat → Nat} {cc : ByteArray} {nL idx : Nat} {own : String} {ret : Option FieldType} {pc : Nat} {ls : Array Slot} {rest : List Value}
/-! X7 goes (I)I -/
theorem dX7_goes_0 : decode cX7_goes 0 = .ok (.aload_n 0, 1) := by decide +kernel
theorem dX7_goes_1 : decode cX7_goes 1 = .ok (.getfield 12, 3) := by decide +kernel
theorem dX7_goes_4 : decode cX7_goes 4 = .ok (.iload_n 1, 1) := by decide +kernel
theorem dX7_goes_5 : decode cX7_goes 5 = .ok (.invokevirtual 116, 3) := by decide +kernel
theorem dX7_goes_8 : decode cX7_goes 8 = .ok (.ifCond .ne 6, 3) := by decide +kernel
theorem dX7_goes_11 : decode cX7_goes 11 = .ok (.bipush (-2), 2) := by decide +kernel
theorem dX7_goes_13 : decode cX7_goes 13 = .ok (.ireturn, 1) := by decide +kernel
theorem dX7_goes_14 : decode cX7_goes 14 = .ok (.aload_n 0, 1) := by decide +kernel
theorem dX7_goes_15 : decode cX7_goes 15 = .ok (.getfield 40, 3) := by decide +kernel
theorem dX7_goes_18 : decode cX7_goes 18 = .ok (.iload_n 1, 1) := by decide +kernel
theorem dX7_goes_19 : decode cX7_goes 19 = .ok (.aload_n 0, 1) := by decide +kernel
theorem dX7_goes_20 : decode cX7_goes 20 = .ok (.getfield 12, 3) := by decide +kernel
theorem dX7_goes_23 : decode cX7_goes 23 = .ok (.getfield 113, 3) := by decide +kernel
theorem dX7_goes_26 : decode cX7_goes 26 = .ok (.aload_n 0, 1) := by decide +kernel
theorem dX7_goes_27 : decode cX7_goes 27 = .ok (.getfield 25, 3) := by decide +kernel
theorem dX7_goes_30 : decode cX7_goes 30 = .ok (.iconst 5, 1) := by decide +kernel
theorem dX7_goes_31 : decode cX7_goes 31 = .ok (.iaload, 1) := by decide +kernel
theorem dX7_goes_32 : decode cX7_goes 32 = .ok (.invokevirtual 150, 3) := by decide +kernel
theorem dX7_goes_35 : decode cX7_goes 35 = .ok (.istore_n 2, 1) := by decide +kernel
theorem dX7_goes_36 : decode cX7_goes 36 = .ok (.aload_n 0, 1) := by decide +kernel
theorem dX7_goes_37 : decode cX7_goes 37 = .ok (.getfield 12, 3) := by decide +kernel
theorem dX7_goes_40 : decode cX7_goes 40 = .ok (.iload_n 1, 1) := by decide +kernel
theorem dX7_goes_41 : decode cX7_goes 41 = .ok (.iconst 2, 1) := by decide +kernel
theorem dX7_goes_42 : decode cX7_goes 42 = .ok (.iload_n 2, 1) := by decide +kernel
theorem dX7_goes_43 : decode cX7_goes 43 = .ok (.iadd, 1) := by decide +kernel
theorem dX7_goes_44 : decode cX7_goes 44 = .ok (.invokevirtual 119, 3) := by decide +kernel
theorem dX7_goes_47 : decode cX7_goes 47 = .ok (.ireturn, 1) := by decide +kernel
abbrev rmX7_goes : Room := { frames := 2, cells := 0, slots := 0, locals := 49 }
set_option maxHeartbeats 4000000 in
set_option maxRecDepth 100000 in
theorem wX7_goes (Cx : ms_C p s m args meth c D cA a shX cX7_goes 3 RX7 (some .int)) (out : Int32) {σ : Mm} : ∀ (p0 : Int32) , ∀ (H : Heap) (locs : List Loc) (ls : Array Slot), ms_I D cA a shX s σ H locs → lv_has ls 3 [(0, .ref (a 0)), (1, .int p0)] → fX7_goes σ p0 = some out → W p l e rmX7_goes s m args below meth c H locs 0 0 (MQ below (ms_Qi D cA a shX out σ) args s 0 0 (ms_A a shX.length)) (F0 m 0 ls []) := by
  have hx := Cx.1
  have hb := Cx.2.1
  intro p0 H locs ls hI hl h
  unfold fX7_goes at h
  refine lv_aload_n hx hb dX7_goes_0 rfl (lv_at hl 0 rfl) ?_
  refine gr_X7_0 Cx hI wd_1_15 dX7_goes_1 ?_
  refine lv_iload_n hx hb dX7_goes_4 rfl (lv_at hl 1 rfl) ?_
  obtain ⟨r2, hc1, h⟩ := ms_bdE h
  refine kX4_hasGroup Cx hI hc1 wd_15_0 (Nat.le_of_ble_eq_true rfl) (Nat.le_of_ble_eq_true rfl) hl.1 (Nat.le_of_ble_eq_true rfl) dX7_goes_5 (fun H locs hI => ?_)
  refine lv_if_ne (tgt := 14) hx hb dX7_goes_8 rfl (fun hc => ?_) (fun hc => ?_)
  · have h := ms_ifF hc h
    refine lv_aload_n hx hb dX7_goes_14 rfl (lv_at hl 0 rfl) ?_
    refine gr_X7_4 Cx hI wd_2_6 dX7_goes_15 ?_
    refine lv_iload_n hx hb dX7_goes_18 rfl (lv_at hl 1 rfl) ?_
    refine lv_aload_n hx hb dX7_goes_19 rfl (lv_at hl 0 rfl) ?_
    refine gr_X7_0 Cx hI wd_1_15 dX7_goes_20 ?_
    refine gi_X4_6 Cx hI wd_14_11 dX7_goes_23 ?_
    refine lv_aload_n hx hb dX7_goes_26 rfl (lv_at hl 0 rfl) ?_
    refine gr_X7_1 Cx hI wd_1_23 dX7_goes_27 ?_
    refine lv_iconst (v := 5) hx hb dX7_goes_30 rfl ?_
    obtain ⟨hg, h⟩ := ms_gE h
    refine ms_ld Cx hI 5 shX_5 hg dX7_goes_31 ?_
    obtain ⟨r4, hc3, h⟩ := ms_bdE h
    refine kX6_sideOf Cx hI hc3 wd_18_7 (Nat.le_of_ble_eq_true rfl) (Nat.le_of_ble_eq_true rfl) hl.1 (Nat.le_of_ble_eq_true rfl) dX7_goes_32 (fun H locs hI => ?_)
    refine lv_istore_n (lv' := [(2, .int r4), (0, .ref (a 0)), (1, .int p0)]) hx hb dX7_goes_35 rfl hl (by decide) rfl (fun ls hl => ?_)
    refine lv_aload_n hx hb dX7_goes_36 rfl (lv_at hl 1 rfl) ?_
    refine gr_X7_0 Cx hI wd_1_15 dX7_goes_37 ?_
    refine lv_iload_n hx hb dX7_goes_40 rfl (lv_at hl 2 rfl) ?_
    refine lv_iconst (v := 2) hx hb dX7_goes_41 rfl ?_
    refine lv_iload_n hx hb dX7_goes_42 rfl (lv_at hl 0 rfl) ?_
    refine lv_iadd hx hb dX7_goes_43 ?_
    obtain ⟨r6, hc5, h⟩ := ms_bdE h
    refine kX4_ofGroup Cx hI hc5 wd_15_4 (Nat.le_of_ble_eq_true rfl) (Nat.le_of_ble_eq_true rfl) hl.1 (Nat.le_of_ble_eq_true rfl) dX7_goes_44 (fun H locs hI => ?_)
    exact ms_ri Cx hI (Option.some.inj h) rfl dX7_goes_47
  · have h := ms_ifT hc h
    refine lv_bipush (v := -2) hx hb dX7_goes_11 rfl ?_
    exact ms_ri Cx hI (Option.some.inj h) rfl dX7_goes_13
theorem yvX7_goes : ms_YV yX7_goes RX7 cX7_goes 3 (some .int) 1 := ⟨wd_18_4, wd_18_5, wd_1_2, wd_18_6, rfl, by decide +kernel, by decide +kernel, by decide +kernel⟩
set_option maxHeartbeats 4000000 in
theorem metX7_goes (l : Launch) (hDis : ms_Dis a shX.length) {σ : Mm} {p0 : Int32} {out : Int32} (h : fX7_goes σ p0 = some out) : Met l yX7_goes (.code yX7_goes cX7_goes 3 (some .int) :: wsL_law) rmX7_goes (ms_Pc D cA a shX [.ref (a 0), .int p0] σ) (ms_Qi D cA a shX out σ) 0 0 (ms_A a shX.length) := by
  refine Met.ofW (cc := cX7_goes) (maxL := 3) (ret := (some .int)) (by decide) rfl ?_
  intro p e s m args below meth c s₁ B hml hv
  obtain ⟨rfl, hK, hN, hP⟩ := hv
  have hl := lv_entry ([.ref (a 0), .int p0]) (n := 3) (Nat.le_of_ble_eq_true rfl)
  rw [lg_entry_eq]
  generalize (lg_sl ([.ref (a 0), .int p0]) ++ List.replicate (3 - (lg_sl ([.ref (a 0), .int p0])).length) Slot.unset).toArray = ls at hl ⊢
  exact wX7_goes ⟨B.exec, B.bytes, hml, findClass_of_methodNamed B.named, fun w hw => atoms_spec (ws := .code yX7_goes cX7_goes 3 (some .int) :: wsL_law) B.pre w (List.mem_cons_of_mem _ hw), B.returns, B.notSynchronized, hK, hDis, hN⟩ out p0 s.heap [] ls ⟨hP, va_S.rf⟩ hl h
theorem kX7_goes (Cx : ms_C p s m args meth c D cA a shX cc nL own ret) {σ : Mm} {H : Heap} {locs : List Loc} (hI : ms_I D cA a shX s σ H locs) {p0 : Int32} {out : Int32} (h : fX7_goes σ p0 = some out) (hl : Cond.methodLink own idx yX7_goes ∈ wsL_law) (hf : 2 + 1 ≤ R.frames) (hlo : 8 + (3 + 11) + 49 ≤ R.locals) (hsz : ls.size = nL) (hW : (rest.map fun v => v.category).sum ≤ 8) (hd : decode cc pc = .ok (.invokevirtual idx, 3)) (kk : ∀ (H1 : Heap) (locs1 : List Loc), ms_I D cA a shX s σ H1 locs1 → W p l e R s m args below meth c H1 locs1 0 0 Q (F0 m (pc + 3) ls (.int out :: rest))) : W p l e R s m args below meth c H locs 0 0 Q (F0 m pc ls (.int p0 :: .ref (a 0) :: rest)) :=
  ms_ci hI (ms_runV (av := [.int p0]) Cx hI 0 shX_0 (ci := 7) rfl rfl yvX7_goes (metX7_goes l Cx.2.2.2.2.2.2.2.2.1  h) ⟨rfl, rfl⟩ hl ⟨hf, hlo⟩ rfl hsz rfl hW ⟨Nat.zero_le _, Nat.zero_le _⟩ hd) kk
/-! X7 toil (I)I -/
theorem dX7_toil_0 : decode cX7_toil 0 = .ok (.iload_n 1, 1) := by decide +kernel
theorem dX7_toil_1 : decode cX7_toil 1 = .ok (.iconst 0, 1) := by decide +kernel
theorem dX7_toil_2 : decode cX7_toil 2 = .ok (.iconst 1, 1) := by decide +kernel
theorem dX7_toil_3 : decode cX7_toil 3 = .ok (.invokestatic 82, 3) := by decide +kernel
theorem dX7_toil_6 : decode cX7_toil 6 = .ok (.ifCond .ne 6, 3) := by decide +kernel
theorem dX7_toil_9 : decode cX7_toil 9 = .ok (.bipush (-2), 2) := by decide +kernel
theorem dX7_toil_11 : decode cX7_toil 11 = .ok (.ireturn, 1) := by decide +kernel
theorem dX7_toil_12 : decode cX7_toil 12 = .ok (.aload_n 0, 1) := by decide +kernel
theorem dX7_toil_13 : decode cX7_toil 13 = .ok (.getfield 40, 3) := by decide +kernel
theorem dX7_toil_16 : decode cX7_toil 16 = .ok (.aload_n 0, 1) := by decide +kernel
theorem dX7_toil_17 : decode cX7_toil 17 = .ok (.getfield 12, 3) := by decide +kernel
theorem dX7_toil_20 : decode cX7_toil 20 = .ok (.getfield 113, 3) := by decide +kernel
theorem dX7_toil_23 : decode cX7_toil 23 = .ok (.iload_n 1, 1) := by decide +kernel
theorem dX7_toil_24 : decode cX7_toil 24 = .ok (.invokevirtual 154, 3) := by decide +kernel
theorem dX7_toil_27 : decode cX7_toil 27 = .ok (.ireturn, 1) := by decide +kernel
abbrev rmX7_toil : Room := { frames := 3, cells := 0, slots := 0, locals := 76 }
set_option maxHeartbeats 4000000 in
set_option maxRecDepth 100000 in
theorem wX7_toil (Cx : ms_C p s m args meth c D cA a shX cX7_toil 2 RX7 (some .int)) (out : Int32) {σ : Mm} : ∀ (p0 : Int32) , ∀ (H : Heap) (locs : List Loc) (ls : Array Slot), ms_I D cA a shX s σ H locs → lv_has ls 2 [(0, .ref (a 0)), (1, .int p0)] → fX7_toil σ p0 = some out → W p l e rmX7_toil s m args below meth c H locs 0 0 (MQ below (ms_Qi D cA a shX out σ) args s 0 0 (ms_A a shX.length)) (F0 m 0 ls []) := by
  have hx := Cx.1
  have hb := Cx.2.1
  intro p0 H locs ls hI hl h
  unfold fX7_toil at h
  refine lv_iload_n hx hb dX7_toil_0 rfl (lv_at hl 1 rfl) ?_
  refine lv_iconst (v := 0) hx hb dX7_toil_1 rfl ?_
  refine lv_iconst (v := 1) hx hb dX7_toil_2 rfl ?_
  obtain ⟨r2, hc1, h⟩ := ms_bdE h
  refine kX7_within Cx hI hc1 (Or.inl wd_7_23) (Nat.le_of_ble_eq_true rfl) (Nat.le_of_ble_eq_true rfl) hl.1 (Nat.le_of_ble_eq_true rfl) dX7_toil_3 (fun H locs hI => ?_)
  refine lv_if_ne (tgt := 12) hx hb dX7_toil_6 rfl (fun hc => ?_) (fun hc => ?_)
  · have h := ms_ifF hc h
    refine lv_aload_n hx hb dX7_toil_12 rfl (lv_at hl 0 rfl) ?_
    refine gr_X7_4 Cx hI wd_2_6 dX7_toil_13 ?_
    refine lv_aload_n hx hb dX7_toil_16 rfl (lv_at hl 0 rfl) ?_
    refine gr_X7_0 Cx hI wd_1_15 dX7_toil_17 ?_
    refine gi_X4_6 Cx hI wd_14_11 dX7_toil_20 ?_
    refine lv_iload_n hx hb dX7_toil_23 rfl (lv_at hl 1 rfl) ?_
    obtain ⟨r4, hc3, h⟩ := ms_bdE h
    refine kX6_costOfAll Cx hI hc3 wd_19_8 (Nat.le_of_ble_eq_true rfl) (Nat.le_of_ble_eq_true rfl) hl.1 (Nat.le_of_ble_eq_true rfl) dX7_toil_24 (fun H locs hI => ?_)
    exact ms_ri Cx hI (Option.some.inj h) rfl dX7_toil_27
  · have h := ms_ifT hc h
    refine lv_bipush (v := -2) hx hb dX7_toil_9 rfl ?_
    exact ms_ri Cx hI (Option.some.inj h) rfl dX7_toil_11
theorem yvX7_toil : ms_YV yX7_toil RX7 cX7_toil 2 (some .int) 1 := ⟨wd_19_5, wd_19_6, wd_1_2, wd_19_7, rfl, by decide +kernel, by decide +kernel, by decide +kernel⟩
set_option maxHeartbeats 4000000 in
theorem metX7_toil (l : Launch) (hDis : ms_Dis a shX.length) {σ : Mm} {p0 : Int32} {out : Int32} (h : fX7_toil σ p0 = some out) : Met l yX7_toil (.code yX7_toil cX7_toil 2 (some .int) :: wsL_law) rmX7_toil (ms_Pc D cA a shX [.ref (a 0), .int p0] σ) (ms_Qi D cA a shX out σ) 0 0 (ms_A a shX.length) := by
  refine Met.ofW (cc := cX7_toil) (maxL := 2) (ret := (some .int)) (by decide) rfl ?_
  intro p e s m args below meth c s₁ B hml hv
  obtain ⟨rfl, hK, hN, hP⟩ := hv
  have hl := lv_entry ([.ref (a 0), .int p0]) (n := 2) (Nat.le_of_ble_eq_true rfl)
  rw [lg_entry_eq]
  generalize (lg_sl ([.ref (a 0), .int p0]) ++ List.replicate (2 - (lg_sl ([.ref (a 0), .int p0])).length) Slot.unset).toArray = ls at hl ⊢
  exact wX7_toil ⟨B.exec, B.bytes, hml, findClass_of_methodNamed B.named, fun w hw => atoms_spec (ws := .code yX7_toil cX7_toil 2 (some .int) :: wsL_law) B.pre w (List.mem_cons_of_mem _ hw), B.returns, B.notSynchronized, hK, hDis, hN⟩ out p0 s.heap [] ls ⟨hP, va_S.rf⟩ hl h
theorem kX7_toil (Cx : ms_C p s m args meth c D cA a shX cc nL own ret) {σ : Mm} {H : Heap} {locs : List Loc} (hI : ms_I D cA a shX s σ H locs) {p0 : Int32} {out : Int32} (h : fX7_toil σ p0 = some out) (hl : Cond.methodLink own idx yX7_toil ∈ wsL_law) (hf : 3 + 1 ≤ R.frames) (hlo : 8 + (2 + 11) + 76 ≤ R.locals) (hsz : ls.size = nL) (hW : (rest.map fun v => v.category).sum ≤ 8) (hd : decode cc pc = .ok (.invokevirtual idx, 3)) (kk : ∀ (H1 : Heap) (locs1 : List Loc), ms_I D cA a shX s σ H1 locs1 → W p l e R s m args below meth c H1 locs1 0 0 Q (F0 m (pc + 3) ls (.int out :: rest))) : W p l e R s m args below meth c H locs 0 0 Q (F0 m pc ls (.int p0 :: .ref (a 0) :: rest)) :=
  ms_ci hI (ms_runV (av := [.int p0]) Cx hI 0 shX_0 (ci := 7) rfl rfl yvX7_toil (metX7_toil l Cx.2.2.2.2.2.2.2.2.1  h) ⟨rfl, rfl⟩ hl ⟨hf, hlo⟩ rfl hsz rfl hW ⟨Nat.zero_le _, Nat.zero_le _⟩ hd) kk
/-! X7 wound (I)I -/
theorem dX7_wound_0 : decode cX7_wound 0 = .ok (.iload_n 1, 1) := by decide +kernel
theorem dX7_wound_1 : decode cX7_wound 1 = .ok (.iconst 0, 1) := by decide +kernel
theorem dX7_wound_2 : decode cX7_wound 2 = .ok (.bipush 23, 2) := by decide +kernel
theorem dX7_wound_4 : decode cX7_wound 4 = .ok (.invokestatic 82, 3) := by decide +kernel
theorem dX7_wound_7 : decode cX7_wound 7 = .ok (.ifCond .ne 6, 3) := by decide +kernel
theorem dX7_wound_10 : decode cX7_wound 10 = .ok (.bipush (-2), 2) := by decide +kernel
theorem dX7_wound_12 : decode cX7_wound 12 = .ok (.ireturn, 1) := by decide +kernel
theorem dX7_wound_13 : decode cX7_wound 13 = .ok (.aload_n 0, 1) := by decide +kernel
theorem dX7_wound_14 : decode cX7_wound 14 = .ok (.getfield 40, 3) := by decide +kernel
theorem dX7_wound_17 : decode cX7_wound 17 = .ok (.iload_n 1, 1) := by decide +kernel
theorem dX7_wound_18 : decode cX7_wound 18 = .ok (.aload_n 0, 1) := by decide +kernel
theorem dX7_wound_19 : decode cX7_wound 19 = .ok (.getfield 12, 3) := by decide +kernel
theorem dX7_wound_22 : decode cX7_wound 22 = .ok (.getfield 113, 3) := by decide +kernel
theorem dX7_wound_25 : decode cX7_wound 25 = .ok (.invokevirtual 157, 3) := by decide +kernel
theorem dX7_wound_28 : decode cX7_wound 28 = .ok (.ireturn, 1) := by decide +kernel
abbrev rmX7_wound : Room := { frames := 4, cells := 0, slots := 0, locals := 97 }
set_option maxHeartbeats 4000000 in
set_option maxRecDepth 100000 in
theorem wX7_wound (Cx : ms_C p s m args meth c D cA a shX cX7_wound 2 RX7 (some .int)) (out : Int32) {σ : Mm} : ∀ (p0 : Int32) , ∀ (H : Heap) (locs : List Loc) (ls : Array Slot), ms_I D cA a shX s σ H locs → lv_has ls 2 [(0, .ref (a 0)), (1, .int p0)] → fX7_wound σ p0 = some out → W p l e rmX7_wound s m args below meth c H locs 0 0 (MQ below (ms_Qi D cA a shX out σ) args s 0 0 (ms_A a shX.length)) (F0 m 0 ls []) := by
  have hx := Cx.1
  have hb := Cx.2.1
  intro p0 H locs ls hI hl h
  unfold fX7_wound at h
  refine lv_iload_n hx hb dX7_wound_0 rfl (lv_at hl 1 rfl) ?_
  refine lv_iconst (v := 0) hx hb dX7_wound_1 rfl ?_
  refine lv_bipush (v := 23) hx hb dX7_wound_2 rfl ?_
  obtain ⟨r2, hc1, h⟩ := ms_bdE h
  refine kX7_within Cx hI hc1 (Or.inl wd_7_23) (Nat.le_of_ble_eq_true rfl) (Nat.le_of_ble_eq_true rfl) hl.1 (Nat.le_of_ble_eq_true rfl) dX7_wound_4 (fun H locs hI => ?_)
  refine lv_if_ne (tgt := 13) hx hb dX7_wound_7 rfl (fun hc => ?_) (fun hc => ?_)
  · have h := ms_ifF hc h
    refine lv_aload_n hx hb dX7_wound_13 rfl (lv_at hl 0 rfl) ?_
    refine gr_X7_4 Cx hI wd_2_6 dX7_wound_14 ?_
    refine lv_iload_n hx hb dX7_wound_17 rfl (lv_at hl 1 rfl) ?_
    refine lv_aload_n hx hb dX7_wound_18 rfl (lv_at hl 0 rfl) ?_
    refine gr_X7_0 Cx hI wd_1_15 dX7_wound_19 ?_
    refine gi_X4_6 Cx hI wd_14_11 dX7_wound_22 ?_
    obtain ⟨r4, hc3, h⟩ := ms_bdE h
    refine kX6_windingOf Cx hI hc3 wd_20_2 (Nat.le_of_ble_eq_true rfl) (Nat.le_of_ble_eq_true rfl) hl.1 (Nat.le_of_ble_eq_true rfl) dX7_wound_25 (fun H locs hI => ?_)
    exact ms_ri Cx hI (Option.some.inj h) rfl dX7_wound_28
  · have h := ms_ifT hc h
    refine lv_bipush (v := -2) hx hb dX7_wound_10 rfl ?_
    exact ms_ri Cx hI (Option.some.inj h) rfl dX7_wound_12
theorem yvX7_wound : ms_YV yX7_wound RX7 cX7_wound 2 (some .int) 1 := ⟨wd_19_23, wd_20_0, wd_1_2, wd_20_1, rfl, by decide +kernel, by decide +kernel, by decide +kernel⟩
set_option maxHeartbeats 4000000 in
theorem metX7_wound (l : Launch) (hDis : ms_Dis a shX.length) {σ : Mm} {p0 : Int32} {out : Int32} (h : fX7_wound σ p0 = some out) : Met l yX7_wound (.code yX7_wound cX7_wound 2 (some .int) :: wsL_law) rmX7_wound (ms_Pc D cA a shX [.ref (a 0), .int p0] σ) (ms_Qi D cA a shX out σ) 0 0 (ms_A a shX.length) := by
  refine Met.ofW (cc := cX7_wound) (maxL := 2) (ret := (some .int)) (by decide) rfl ?_
  intro p e s m args below meth c s₁ B hml hv
  obtain ⟨rfl, hK, hN, hP⟩ := hv
  have hl := lv_entry ([.ref (a 0), .int p0]) (n := 2) (Nat.le_of_ble_eq_true rfl)
  rw [lg_entry_eq]
  generalize (lg_sl ([.ref (a 0), .int p0]) ++ List.replicate (2 - (lg_sl ([.ref (a 0), .int p0])).length) Slot.unset).toArray = ls at hl ⊢
  exact wX7_wound ⟨B.exec, B.bytes, hml, findClass_of_methodNamed B.named, fun w hw => atoms_spec (ws := .code yX7_wound cX7_wound 2 (some .int) :: wsL_law) B.pre w (List.mem_cons_of_mem _ hw), B.returns, B.notSynchronized, hK, hDis, hN⟩ out p0 s.heap [] ls ⟨hP, va_S.rf⟩ hl h
theorem kX7_wound (Cx : ms_C p s m args meth c D cA a shX cc nL own ret) {σ : Mm} {H : Heap} {locs : List Loc} (hI : ms_I D cA a shX s σ H locs) {p0 : Int32} {out : Int32} (h : fX7_wound σ p0 = some out) (hl : Cond.methodLink own idx yX7_wound ∈ wsL_law) (hf : 4 + 1 ≤ R.frames) (hlo : 8 + (2 + 11) + 97 ≤ R.locals) (hsz : ls.size = nL) (hW : (rest.map fun v => v.category).sum ≤ 8) (hd : decode cc pc = .ok (.invokevirtual idx, 3)) (kk : ∀ (H1 : Heap) (locs1 : List Loc), ms_I D cA a shX s σ H1 locs1 → W p l e R s m args below meth c H1 locs1 0 0 Q (F0 m (pc + 3) ls (.int out :: rest))) : W p l e R s m args below meth c H locs 0 0 Q (F0 m pc ls (.int p0 :: .ref (a 0) :: rest)) :=
  ms_ci hI (ms_runV (av := [.int p0]) Cx hI 0 shX_0 (ci := 7) rfl rfl yvX7_wound (metX7_wound l Cx.2.2.2.2.2.2.2.2.1  h) ⟨rfl, rfl⟩ hl ⟨hf, hlo⟩ rfl hsz rfl hW ⟨Nat.zero_le _, Nat.zero_le _⟩ hd) kk
/-! X7 isHour (I)Z -/
theorem dX7_isHour_0 : decode cX7_isHour 0 = .ok (.iload_n 0, 1) := by decide +kernel
theorem dX7_isHour_1 : decode cX7_isHour 1 = .ok (.iconst 0, 1) := by decide +kernel
theorem dX7_isHour_2 : decode cX7_isHour 2 = .ok (.sipush 239, 3) := by decide +kernel
theorem dX7_isHour_5 : decode cX7_isHour 5 = .ok (.invokestatic 82, 3) := by decide +kernel
theorem dX7_isHour_8 : decode cX7_isHour 8 = .ok (.ireturn, 1) := by decide +kernel
abbrev rmX7_isHour : Room := { frames := 1, cells := 0, slots := 0, locals := 22 }
set_option maxHeartbeats 4000000 in
set_option maxRecDepth 100000 in
theorem wX7_isHour (Cx : ms_C p s m args meth c D cA a shX cX7_isHour 1 RX7 (some .boolean)) (out : Int32) {σ : Mm} : ∀ (p0 : Int32) , ∀ (H : Heap) (locs : List Loc) (ls : Array Slot), ms_I D cA a shX s σ H locs → lv_has ls 1 [(0, .int p0)] → fX7_isHour p0 = some out → W p l e rmX7_isHour s m args below meth c H locs 0 0 (MQ below (ms_Qi D cA a shX out σ) args s 0 0 (ms_A a shX.length)) (F0 m 0 ls []) := by
  have hx := Cx.1
  have hb := Cx.2.1
  intro p0 H locs ls hI hl h
  unfold fX7_isHour at h
  refine lv_iload_n hx hb dX7_isHour_0 rfl (lv_at hl 0 rfl) ?_
  refine lv_iconst (v := 0) hx hb dX7_isHour_1 rfl ?_
  refine lv_sipush (v := 239) hx hb dX7_isHour_2 rfl ?_
  obtain ⟨r2, hc1, h⟩ := ms_bdE h
  refine kX7_within Cx hI hc1 (Or.inl wd_7_23) (Nat.le_of_ble_eq_true rfl) (Nat.le_of_ble_eq_true rfl) hl.1 (Nat.le_of_ble_eq_true rfl) dX7_isHour_5 (fun H locs hI => ?_)
  obtain ⟨hg, h⟩ := ms_gE h
  exact ms_rz Cx hI hg (Option.some.inj h) rfl dX7_isHour_8
theorem yvX7_isHour : ms_YS yX7_isHour cX7_isHour 1 (some .boolean) 1 := ⟨wd_21_1, wd_1_2, wd_21_2, by decide +kernel, by decide +kernel, by decide +kernel⟩
set_option maxHeartbeats 4000000 in
theorem metX7_isHour (l : Launch) (hDis : ms_Dis a shX.length) {σ : Mm} {p0 : Int32} {out : Int32} (h : fX7_isHour p0 = some out) : Met l yX7_isHour (.code yX7_isHour cX7_isHour 1 (some .boolean) :: wsL_law) rmX7_isHour (ms_Pc D cA a shX [.int p0] σ) (ms_Qi D cA a shX out σ) 0 0 (ms_A a shX.length) := by
  refine Met.ofW (cc := cX7_isHour) (maxL := 1) (ret := (some .boolean)) (by decide) rfl ?_
  intro p e s m args below meth c s₁ B hml hv
  obtain ⟨rfl, hK, hN, hP⟩ := hv
  have hl := lv_entry ([.int p0]) (n := 1) (Nat.le_of_ble_eq_true rfl)
  rw [lg_entry_eq]
  generalize (lg_sl ([.int p0]) ++ List.replicate (1 - (lg_sl ([.int p0])).length) Slot.unset).toArray = ls at hl ⊢
  exact wX7_isHour ⟨B.exec, B.bytes, hml, findClass_of_methodNamed B.named, fun w hw => atoms_spec (ws := .code yX7_isHour cX7_isHour 1 (some .boolean) :: wsL_law) B.pre w (List.mem_cons_of_mem _ hw), B.returns, B.notSynchronized, hK, hDis, hN⟩ out p0 s.heap [] ls ⟨hP, va_S.rf⟩ hl h
theorem kX7_isHour (Cx : ms_C p s m args meth c D cA a shX cc nL own ret) {σ : Mm} {H : Heap} {locs : List Loc} (hI : ms_I D cA a shX s σ H locs) {p0 : Int32} {out : Int32} (h : fX7_isHour p0 = some out) (hl : Cond.methodLink own idx yX7_isHour ∈ wsL_law ∨ (own, idx, yX7_isHour) ∈ ms_nq) (hf : 1 + 1 ≤ R.frames) (hlo : 8 + (1 + 11) + 22 ≤ R.locals) (hsz : ls.size = nL) (hW : (rest.map fun v => v.category).sum ≤ 8) (hd : decode cc pc = .ok (.invokestatic idx, 3)) (kk : ∀ (H1 : Heap) (locs1 : List Loc), ms_I D cA a shX s σ H1 locs1 → W p l e R s m args below meth c H1 locs1 0 0 Q (F0 m (pc + 3) ls (.int out :: rest))) : W p l e R s m args below meth c H locs 0 0 Q (F0 m pc ls (.int p0 :: rest)) :=
  ms_ci hI (ms_runS (av := [.int p0]) Cx hI yvX7_isHour (metX7_isHour l Cx.2.2.2.2.2.2.2.2.1  h) ⟨rfl, rfl⟩ hl ⟨hf, hlo⟩ rfl hsz rfl hW ⟨Nat.zero_le _, Nat.zero_le _⟩ hd) kk
/-! X7 makeReady (II)V -/
theorem dX7_makeReady_0 : decode cX7_makeReady 0 = .ok (.aload_n 0, 1) := by decide +kernel
theorem dX7_makeReady_1 : decode cX7_makeReady 1 = .ok (.getfield 47, 3) := by decide +kernel
theorem dX7_makeReady_4 : decode cX7_makeReady 4 = .ok (.aload_n 0, 1) := by decide +kernel
theorem dX7_makeReady_5 : decode cX7_makeReady 5 = .ok (.getfield 25, 3) := by decide +kernel
theorem dX7_makeReady_8 : decode cX7_makeReady 8 = .ok (.invokevirtual 358, 3) := by decide +kernel
theorem dX7_makeReady_11 : decode cX7_makeReady 11 = .ok (.aload_n 0, 1) := by decide +kernel
theorem dX7_makeReady_12 : decode cX7_makeReady 12 = .ok (.getfield 47, 3) := by decide +kernel
theorem dX7_makeReady_15 : decode cX7_makeReady 15 = .ok (.aload_n 0, 1) := by decide +kernel
theorem dX7_makeReady_16 : decode cX7_makeReady 16 = .ok (.getfield 12, 3) := by decide +kernel
theorem dX7_makeReady_19 : decode cX7_makeReady 19 = .ok (.getfield 190, 3) := by decide +kernel
theorem dX7_makeReady_22 : decode cX7_makeReady 22 = .ok (.putfield 362, 3) := by decide +kernel
theorem dX7_makeReady_25 : decode cX7_makeReady 25 = .ok (.iconst 0, 1) := by decide +kernel
theorem dX7_makeReady_26 : decode cX7_makeReady 26 = .ok (.istore_n 3, 1) := by decide +kernel
theorem dX7_makeReady_27 : decode cX7_makeReady 27 = .ok (.iload_n 3, 1) := by decide +kernel
theorem dX7_makeReady_28 : decode cX7_makeReady 28 = .ok (.aload_n 0, 1) := by decide +kernel
theorem dX7_makeReady_29 : decode cX7_makeReady 29 = .ok (.getfield 12, 3) := by decide +kernel
theorem dX7_makeReady_32 : decode cX7_makeReady 32 = .ok (.getfield 190, 3) := by decide +kernel
theorem dX7_makeReady_35 : decode cX7_makeReady 35 = .ok (.if_icmp .ge 63, 3) := by decide +kernel
theorem dX7_makeReady_38 : decode cX7_makeReady 38 = .ok (.aload_n 0, 1) := by decide +kernel
theorem dX7_makeReady_39 : decode cX7_makeReady 39 = .ok (.getfield 47, 3) := by decide +kernel
theorem dX7_makeReady_42 : decode cX7_makeReady 42 = .ok (.getfield 363, 3) := by decide +kernel
theorem dX7_makeReady_45 : decode cX7_makeReady 45 = .ok (.iload_n 3, 1) := by decide +kernel
theorem dX7_makeReady_46 : decode cX7_makeReady 46 = .ok (.aload_n 0, 1) := by decide +kernel
theorem dX7_makeReady_47 : decode cX7_makeReady 47 = .ok (.getfield 12, 3) := by decide +kernel
theorem dX7_makeReady_50 : decode cX7_makeReady 50 = .ok (.iload_n 3, 1) := by decide +kernel
theorem dX7_makeReady_51 : decode cX7_makeReady 51 = .ok (.iconst 0, 1) := by decide +kernel
theorem dX7_makeReady_52 : decode cX7_makeReady 52 = .ok (.invokevirtual 110, 3) := by decide +kernel
theorem dX7_makeReady_55 : decode cX7_makeReady 55 = .ok (.iastore, 1) := by decide +kernel
theorem dX7_makeReady_56 : decode cX7_makeReady 56 = .ok (.aload_n 0, 1) := by decide +kernel
theorem dX7_makeReady_57 : decode cX7_makeReady 57 = .ok (.getfield 47, 3) := by decide +kernel
theorem dX7_makeReady_60 : decode cX7_makeReady 60 = .ok (.getfield 366, 3) := by decide +kernel
theorem dX7_makeReady_63 : decode cX7_makeReady 63 = .ok (.iload_n 3, 1) := by decide +kernel
theorem dX7_makeReady_64 : decode cX7_makeReady 64 = .ok (.iload_n 2, 1) := by decide +kernel
theorem dX7_makeReady_65 : decode cX7_makeReady 65 = .ok (.iload_n 3, 1) := by decide +kernel
theorem dX7_makeReady_66 : decode cX7_makeReady 66 = .ok (.invokestatic 106, 3) := by decide +kernel
theorem dX7_makeReady_69 : decode cX7_makeReady 69 = .ok (.iconst 1, 1) := by decide +kernel
theorem dX7_makeReady_70 : decode cX7_makeReady 70 = .ok (.if_icmp .ne 7, 3) := by decide +kernel
theorem dX7_makeReady_73 : decode cX7_makeReady 73 = .ok (.iconst 0, 1) := by decide +kernel
theorem dX7_makeReady_74 : decode cX7_makeReady 74 = .ok (.goto 17, 3) := by decide +kernel
theorem dX7_makeReady_77 : decode cX7_makeReady 77 = .ok (.aload_n 0, 1) := by decide +kernel
theorem dX7_makeReady_78 : decode cX7_makeReady 78 = .ok (.getfield 12, 3) := by decide +kernel
theorem dX7_makeReady_81 : decode cX7_makeReady 81 = .ok (.iload_n 3, 1) := by decide +kernel
theorem dX7_makeReady_82 : decode cX7_makeReady 82 = .ok (.aload_n 0, 1) := by decide +kernel
theorem dX7_makeReady_83 : decode cX7_makeReady 83 = .ok (.getfield 28, 3) := by decide +kernel
theorem dX7_makeReady_86 : decode cX7_makeReady 86 = .ok (.iload_n 3, 1) := by decide +kernel
theorem dX7_makeReady_87 : decode cX7_makeReady 87 = .ok (.iaload, 1) := by decide +kernel
theorem dX7_makeReady_88 : decode cX7_makeReady 88 = .ok (.invokevirtual 369, 3) := by decide +kernel
theorem dX7_makeReady_91 : decode cX7_makeReady 91 = .ok (.iastore, 1) := by decide +kernel
theorem dX7_makeReady_92 : decode cX7_makeReady 92 = .ok (.iinc 3 1, 3) := by decide +kernel
theorem dX7_makeReady_95 : decode cX7_makeReady 95 = .ok (.goto (-68), 3) := by decide +kernel
theorem dX7_makeReady_98 : decode cX7_makeReady 98 = .ok (.aload_n 0, 1) := by decide +kernel
theorem dX7_makeReady_99 : decode cX7_makeReady 99 = .ok (.getfield 40, 3) := by decide +kernel
theorem dX7_makeReady_102 : decode cX7_makeReady 102 = .ok (.iload_n 1, 1) := by decide +kernel
theorem dX7_makeReady_103 : decode cX7_makeReady 103 = .ok (.aload_n 0, 1) := by decide +kernel
theorem dX7_makeReady_104 : decode cX7_makeReady 104 = .ok (.getfield 47, 3) := by decide +kernel
theorem dX7_makeReady_107 : decode cX7_makeReady 107 = .ok (.getfield 371, 3) := by decide +kernel
theorem dX7_makeReady_110 : decode cX7_makeReady 110 = .ok (.invokevirtual 374, 3) := by decide +kernel
theorem dX7_makeReady_113 : decode cX7_makeReady 113 = .ok (.aload_n 0, 1) := by decide +kernel
theorem dX7_makeReady_114 : decode cX7_makeReady 114 = .ok (.getfield 47, 3) := by decide +kernel
theorem dX7_makeReady_117 : decode cX7_makeReady 117 = .ok (.iconst (-1), 1) := by decide +kernel
theorem dX7_makeReady_118 : decode cX7_makeReady 118 = .ok (.iconst 0, 1) := by decide +kernel
theorem dX7_makeReady_119 : decode cX7_makeReady 119 = .ok (.invokevirtual 252, 3) := by decide +kernel
theorem dX7_makeReady_122 : decode cX7_makeReady 122 = .ok (.return_, 1) := by decide +kernel
abbrev rmX7_makeReady : Room := { frames := 4, cells := 0, slots := 0, locals := 96 }
set_option maxHeartbeats 4000000 in
set_option maxRecDepth 100000 in
theorem wX7_makeReady_91 (Cx : ms_C p s m args meth c D cA a shX cX7_makeReady 4 RX7 none) (out : Mm) (K27 : Int32 → Int32 → Int32 → Mm → Option (Mm)) (hK27 : ∀ (y1 : Int32) (y2 : Int32) (y3 : Int32) , ∀ (σ : Mm) (H : Heap) (locs : List Loc) (ls : Array Slot), ms_I D cA a shX s σ H locs → lv_has ls 4 [(0, .ref (a 0)), (1, .int y1), (2, .int y2), (3, .int y3)] → K27 y1 y2 y3 σ = some out → W p l e rmX7_makeReady s m args below meth c H locs 0 0 (MQ below (ms_Qv D cA a shX out) args s 0 0 (ms_A a shX.length)) (F0 m 27 ls [])) : ∀ (y1 : Int32) (y2 : Int32) (y3 : Int32) (y4 : Int32) (y5 : Int32) , ∀ (σ : Mm) (H : Heap) (locs : List Loc) (ls : Array Slot), ms_I D cA a shX s σ H locs → lv_has ls 4 [(0, .ref (a 0)), (1, .int y1), (2, .int y2), (3, .int y3)] → fX7_makeReady_91 K27 y1 y2 y3 y4 y5 σ = some out → W p l e rmX7_makeReady s m args below meth c H locs 0 0 (MQ below (ms_Qv D cA a shX out) args s 0 0 (ms_A a shX.length)) (F0 m 91 ls [.int y4, .int y5, .ref (a 11)]) := by
  have hx := Cx.1
  have hb := Cx.2.1
  intro y1 y2 y3 y4 y5 σ H locs ls hI hl h
  unfold fX7_makeReady_91 at h
  obtain ⟨hg, h⟩ := ms_gE h
  refine ms_sto Cx hI 11 shX_11 hg dX7_makeReady_91 (fun H locs σ1 eσ1 hI => ?_)
  have h := ms_ltE eσ1 h
  refine lv_iinc (v := y3 + 1) (lv' := [(3, .int (y3 + 1)), (0, .ref (a 0)), (1, .int y1), (2, .int y2)]) hx hb dX7_makeReady_92 hl (k := 3) rfl rfl (by decide) rfl (fun ls hl => ?_)
  refine lv_goto (tgt := 27) hx hb dX7_makeReady_95 rfl ?_
  exact hK27 y1 y2 (y3 + 1) σ1 _ _ _ hI (lv_sub hl [1, 2, 3, 0] rfl) h
set_option maxHeartbeats 4000000 in
set_option maxRecDepth 100000 in
theorem wX7_makeReady_27 (Cx : ms_C p s m args meth c D cA a shX cX7_makeReady 4 RX7 none) (out : Mm) : ∀ (n : Nat), ∀ (y1 : Int32) (y2 : Int32) (y3 : Int32) , ∀ (σ : Mm) (H : Heap) (locs : List Loc) (ls : Array Slot), ms_I D cA a shX s σ H locs → lv_has ls 4 [(0, .ref (a 0)), (1, .int y1), (2, .int y2), (3, .int y3)] → fX7_makeReady_27 n y1 y2 y3 σ = some out → W p l e rmX7_makeReady s m args below meth c H locs 0 0 (MQ below (ms_Qv D cA a shX out) args s 0 0 (ms_A a shX.length)) (F0 m 27 ls []) := by
  have hx := Cx.1
  have hb := Cx.2.1
  intro n
  induction n with
  | zero =>
    intro y1 y2 y3 σ H locs ls hI hl h
    exact nomatch (show none = some out from h)
  | succ n ih =>
    intro y1 y2 y3 σ H locs ls hI hl h
    rw [fX7_makeReady_27] at h
    refine lv_iload_n hx hb dX7_makeReady_27 rfl (lv_at hl 3 rfl) ?_
    refine lv_aload_n hx hb dX7_makeReady_28 rfl (lv_at hl 0 rfl) ?_
    refine gr_X7_0 Cx hI wd_1_15 dX7_makeReady_29 ?_
    refine gi_X4_4 Cx hI wd_21_11 dX7_makeReady_32 ?_
    refine lv_icmp_ge (tgt := 98) hx hb dX7_makeReady_35 rfl (fun hc => ?_) (fun hc => ?_)
    · have h := ms_ifT hc h
      refine lv_aload_n hx hb dX7_makeReady_98 rfl (lv_at hl 0 rfl) ?_
      refine gr_X7_4 Cx hI wd_2_6 dX7_makeReady_99 ?_
      refine lv_iload_n hx hb dX7_makeReady_102 rfl (lv_at hl 1 rfl) ?_
      refine lv_aload_n hx hb dX7_makeReady_103 rfl (lv_at hl 0 rfl) ?_
      refine gr_X7_5 Cx hI wd_2_10 dX7_makeReady_104 ?_
      refine gr_X3_0 Cx hI wd_21_15 dX7_makeReady_107 ?_
      obtain ⟨σ2, hc1, h⟩ := ms_bdE h
      refine kX6_windDay Cx hI hc1 wd_22_3 (Nat.le_of_ble_eq_true rfl) (Nat.le_of_ble_eq_true rfl) hl.1 (Nat.le_of_ble_eq_true rfl) dX7_makeReady_110 (fun H locs hI => ?_)
      refine lv_aload_n hx hb dX7_makeReady_113 rfl (lv_at hl 0 rfl) ?_
      refine gr_X7_5 Cx hI wd_2_10 dX7_makeReady_114 ?_
      refine lv_iconst (v := -1) hx hb dX7_makeReady_117 rfl ?_
      refine lv_iconst (v := 0) hx hb dX7_makeReady_118 rfl ?_
      obtain ⟨σ4, hc3, h⟩ := ms_bdE h
      refine kX3_rob Cx hI hc3 wd_22_11 (Nat.le_of_ble_eq_true rfl) (Nat.le_of_ble_eq_true rfl) hl.1 (Nat.le_of_ble_eq_true rfl) dX7_makeReady_119 (fun H locs hI => ?_)
      exact ms_rv Cx hI (Option.some.inj h) dX7_makeReady_122
    · have h := ms_ifF hc h
      refine lv_aload_n hx hb dX7_makeReady_38 rfl (lv_at hl 0 rfl) ?_
      refine gr_X7_5 Cx hI wd_2_10 dX7_makeReady_39 ?_
      refine gr_X3_1 Cx hI wd_21_13 dX7_makeReady_42 ?_
      refine lv_iload_n hx hb dX7_makeReady_45 rfl (lv_at hl 3 rfl) ?_
      refine lv_aload_n hx hb dX7_makeReady_46 rfl (lv_at hl 0 rfl) ?_
      refine gr_X7_0 Cx hI wd_1_15 dX7_makeReady_47 ?_
      refine lv_iload_n hx hb dX7_makeReady_50 rfl (lv_at hl 3 rfl) ?_
      refine lv_iconst (v := 0) hx hb dX7_makeReady_51 rfl ?_
      obtain ⟨r6, hc5, h⟩ := ms_bdE h
      refine kX4_ofThing Cx hI hc5 wd_13_15 (Nat.le_of_ble_eq_true rfl) (Nat.le_of_ble_eq_true rfl) hl.1 (Nat.le_of_ble_eq_true rfl) dX7_makeReady_52 (fun H locs hI => ?_)
      obtain ⟨hg, h⟩ := ms_gE h
      refine ms_sto Cx hI 10 shX_10 hg dX7_makeReady_55 (fun H locs σ7 eσ7 hI => ?_)
      have h := ms_ltE eσ7 h
      refine lv_aload_n hx hb dX7_makeReady_56 rfl (lv_at hl 0 rfl) ?_
      refine gr_X7_5 Cx hI wd_2_10 dX7_makeReady_57 ?_
      refine gr_X3_2 Cx hI wd_21_14 dX7_makeReady_60 ?_
      refine lv_iload_n hx hb dX7_makeReady_63 rfl (lv_at hl 3 rfl) ?_
      refine lv_iload_n hx hb dX7_makeReady_64 rfl (lv_at hl 2 rfl) ?_
      refine lv_iload_n hx hb dX7_makeReady_65 rfl (lv_at hl 3 rfl) ?_
      obtain ⟨r9, hc8, h⟩ := ms_bdE h
      refine kX7_bit Cx hI hc8 (Or.inl wd_13_14) (Nat.le_of_ble_eq_true rfl) (Nat.le_of_ble_eq_true rfl) hl.1 (Nat.le_of_ble_eq_true rfl) dX7_makeReady_66 (fun H locs hI => ?_)
      refine lv_iconst (v := 1) hx hb dX7_makeReady_69 rfl ?_
      refine lv_icmp_ne (tgt := 77) hx hb dX7_makeReady_70 rfl (fun hc => ?_) (fun hc => ?_)
      · have h := ms_ifF hc h
        refine lv_aload_n hx hb dX7_makeReady_77 rfl (lv_at hl 0 rfl) ?_
        refine gr_X7_0 Cx hI wd_1_15 dX7_makeReady_78 ?_
        refine lv_iload_n hx hb dX7_makeReady_81 rfl (lv_at hl 3 rfl) ?_
        refine lv_aload_n hx hb dX7_makeReady_82 rfl (lv_at hl 0 rfl) ?_
        refine gr_X7_2 Cx hI wd_2_1 dX7_makeReady_83 ?_
        refine lv_iload_n hx hb dX7_makeReady_86 rfl (lv_at hl 3 rfl) ?_
        obtain ⟨hg, h⟩ := ms_gE h
        refine ms_ld Cx hI 6 shX_6 hg dX7_makeReady_87 ?_
        obtain ⟨r11, hc10, h⟩ := ms_bdE h
        refine kX4_hoursOf Cx hI hc10 wd_21_21 (Nat.le_of_ble_eq_true rfl) (Nat.le_of_ble_eq_true rfl) hl.1 (Nat.le_of_ble_eq_true rfl) dX7_makeReady_88 (fun H locs hI => ?_)
        exact wX7_makeReady_91 Cx out (fX7_makeReady_27 n) ih y1 y2 y3 r11 y3 σ7 _ _ _ hI (lv_sub hl [0, 1, 2, 3] rfl) h
      · have h := ms_ifT hc h
        refine lv_iconst (v := 0) hx hb dX7_makeReady_73 rfl ?_
        refine lv_goto (tgt := 91) hx hb dX7_makeReady_74 rfl ?_
        exact wX7_makeReady_91 Cx out (fX7_makeReady_27 n) ih y1 y2 y3 0 y3 σ7 _ _ _ hI (lv_sub hl [0, 1, 2, 3] rfl) h
set_option maxHeartbeats 4000000 in
set_option maxRecDepth 100000 in
theorem wX7_makeReady (Cx : ms_C p s m args meth c D cA a shX cX7_makeReady 4 RX7 none) (out : Mm) : ∀ (p0 : Int32) (p1 : Int32) , ∀ (σ : Mm) (H : Heap) (locs : List Loc) (ls : Array Slot), ms_I D cA a shX s σ H locs → lv_has ls 4 [(0, .ref (a 0)), (1, .int p0), (2, .int p1)] → fX7_makeReady p0 p1 σ = some out → W p l e rmX7_makeReady s m args below meth c H locs 0 0 (MQ below (ms_Qv D cA a shX out) args s 0 0 (ms_A a shX.length)) (F0 m 0 ls []) := by
  have hx := Cx.1
  have hb := Cx.2.1
  intro p0 p1 σ H locs ls hI hl h
  unfold fX7_makeReady at h
  refine lv_aload_n hx hb dX7_makeReady_0 rfl (lv_at hl 0 rfl) ?_
  refine gr_X7_5 Cx hI wd_2_10 dX7_makeReady_1 ?_
  refine lv_aload_n hx hb dX7_makeReady_4 rfl (lv_at hl 0 rfl) ?_
  refine gr_X7_1 Cx hI wd_1_23 dX7_makeReady_5 ?_
  obtain ⟨σ2, hc1, h⟩ := ms_bdE h
  refine kX3_take Cx hI hc1 wd_21_16 (Nat.le_of_ble_eq_true rfl) (Nat.le_of_ble_eq_true rfl) hl.1 (Nat.le_of_ble_eq_true rfl) dX7_makeReady_8 (fun H locs hI => ?_)
  refine lv_aload_n hx hb dX7_makeReady_11 rfl (lv_at hl 0 rfl) ?_
  refine gr_X7_5 Cx hI wd_2_10 dX7_makeReady_12 ?_
  refine lv_aload_n hx hb dX7_makeReady_15 rfl (lv_at hl 0 rfl) ?_
  refine gr_X7_0 Cx hI wd_1_15 dX7_makeReady_16 ?_
  refine gi_X4_4 Cx hI wd_21_11 dX7_makeReady_19 ?_
  refine pi_X3_3 Cx hI wd_21_12 dX7_makeReady_22 (fun H locs σ3 eσ3 hI => ?_)
  have h := ms_ltE eσ3 h
  refine lv_iconst (v := 0) hx hb dX7_makeReady_25 rfl ?_
  refine lv_istore_n (lv' := [(3, .int 0), (0, .ref (a 0)), (1, .int p0), (2, .int p1)]) hx hb dX7_makeReady_26 rfl hl (by decide) rfl (fun ls hl => ?_)
  exact wX7_makeReady_27 Cx out  ms_fu p0 p1 0 σ3 _ _ _ hI (lv_sub hl [1, 2, 3, 0] rfl) h
theorem yvX7_makeReady : ms_YV yX7_makeReady RX7 cX7_makeReady 4 none 2 := ⟨wd_21_8, wd_21_9, wd_1_2, wd_21_10, rfl, by decide +kernel, by decide +kernel, by decide +kernel⟩
set_option maxHeartbeats 4000000 in
theorem metX7_makeReady (l : Launch) (hDis : ms_Dis a shX.length) {σ : Mm} {p0 : Int32} {p1 : Int32} {out : Mm} (h : fX7_makeReady p0 p1 σ = some out) : Met l yX7_makeReady (.code yX7_makeReady cX7_makeReady 4 none :: wsL_law) rmX7_makeReady (ms_Pc D cA a shX [.ref (a 0), .int p0, .int p1] σ) (ms_Qv D cA a shX out) 0 0 (ms_A a shX.length) := by
  refine Met.ofW (cc := cX7_makeReady) (maxL := 4) (ret := none) (by decide) rfl ?_
  intro p e s m args below meth c s₁ B hml hv
  obtain ⟨rfl, hK, hN, hP⟩ := hv
  have hl := lv_entry ([.ref (a 0), .int p0, .int p1]) (n := 4) (Nat.le_of_ble_eq_true rfl)
  rw [lg_entry_eq]
  generalize (lg_sl ([.ref (a 0), .int p0, .int p1]) ++ List.replicate (4 - (lg_sl ([.ref (a 0), .int p0, .int p1])).length) Slot.unset).toArray = ls at hl ⊢
  exact wX7_makeReady ⟨B.exec, B.bytes, hml, findClass_of_methodNamed B.named, fun w hw => atoms_spec (ws := .code yX7_makeReady cX7_makeReady 4 none :: wsL_law) B.pre w (List.mem_cons_of_mem _ hw), B.returns, B.notSynchronized, hK, hDis, hN⟩ out p0 p1 σ s.heap [] ls ⟨hP, va_S.rf⟩ hl h
theorem kX7_makeReady (Cx : ms_C p s m args meth c D cA a shX cc nL own ret) {σ : Mm} {H : Heap} {locs : List Loc} (hI : ms_I D cA a shX s σ H locs) {p0 : Int32} {p1 : Int32} {out : Mm} (h : fX7_makeReady p0 p1 σ = some out) (hl : Cond.methodLink own idx yX7_makeReady ∈ wsL_law) (hf : 4 + 1 ≤ R.frames) (hlo : 8 + (4 + 11) + 96 ≤ R.locals) (hsz : ls.size = nL) (hW : (rest.map fun v => v.category).sum ≤ 8) (hd : decode cc pc = .ok (.invokevirtual idx, 3)) (kk : ∀ (H1 : Heap) (locs1 : List Loc), ms_I D cA a shX s out H1 locs1 → W p l e R s m args below meth c H1 locs1 0 0 Q (F0 m (pc + 3) ls (rest))) : W p l e R s m args below meth c H locs 0 0 Q (F0 m pc ls (.int p1 :: .int p0 :: .ref (a 0) :: rest)) :=
  ms_cv hI (ms_runV (av := [.int p0, .int p1]) Cx hI 0 shX_0 (ci := 7) rfl rfl yvX7_makeReady (metX7_makeReady l Cx.2.2.2.2.2.2.2.2.1  h) ⟨rfl, rfl⟩ hl ⟨hf, hlo⟩ rfl hsz rfl hW ⟨Nat.zero_le _, Nat.zero_le _⟩ hd) kk
/-! X7 recordDays ()V -/
theorem dX7_recordDays_0 : decode cX7_recordDays 0 = .ok (.aload_n 0, 1) := by decide +kernel
theorem dX7_recordDays_1 : decode cX7_recordDays 1 = .ok (.getfield 54, 3) := by decide +kernel
theorem dX7_recordDays_4 : decode cX7_recordDays 4 = .ok (.getfield 354, 3) := by decide +kernel
theorem dX7_recordDays_7 : decode cX7_recordDays 7 = .ok (.ifCond .ne 29, 3) := by decide +kernel
theorem dX7_recordDays_10 : decode cX7_recordDays 10 = .ok (.aload_n 0, 1) := by decide +kernel
theorem dX7_recordDays_11 : decode cX7_recordDays 11 = .ok (.aload_n 0, 1) := by decide +kernel
theorem dX7_recordDays_12 : decode cX7_recordDays 12 = .ok (.getfield 12, 3) := by decide +kernel
theorem dX7_recordDays_15 : decode cX7_recordDays 15 = .ok (.getfield 113, 3) := by decide +kernel
theorem dX7_recordDays_18 : decode cX7_recordDays 18 = .ok (.aload_n 0, 1) := by decide +kernel
theorem dX7_recordDays_19 : decode cX7_recordDays 19 = .ok (.getfield 31, 3) := by decide +kernel
theorem dX7_recordDays_22 : decode cX7_recordDays 22 = .ok (.invokevirtual 198, 3) := by decide +kernel
theorem dX7_recordDays_25 : decode cX7_recordDays 25 = .ok (.aload_n 0, 1) := by decide +kernel
theorem dX7_recordDays_26 : decode cX7_recordDays 26 = .ok (.getfield 54, 3) := by decide +kernel
theorem dX7_recordDays_29 : decode cX7_recordDays 29 = .ok (.aload_n 0, 1) := by decide +kernel
theorem dX7_recordDays_30 : decode cX7_recordDays 30 = .ok (.getfield 47, 3) := by decide +kernel
theorem dX7_recordDays_33 : decode cX7_recordDays 33 = .ok (.invokevirtual 355, 3) := by decide +kernel
theorem dX7_recordDays_36 : decode cX7_recordDays 36 = .ok (.return_, 1) := by decide +kernel
abbrev rmX7_recordDays : Room := { frames := 5, cells := 0, slots := 0, locals := 119 }
set_option maxHeartbeats 4000000 in
set_option maxRecDepth 100000 in
theorem wX7_recordDays (Cx : ms_C p s m args meth c D cA a shX cX7_recordDays 1 RX7 none) (out : Mm) : ∀ (σ : Mm) (H : Heap) (locs : List Loc) (ls : Array Slot), ms_I D cA a shX s σ H locs → lv_has ls 1 [(0, .ref (a 0))] → fX7_recordDays σ = some out → W p l e rmX7_recordDays s m args below meth c H locs 0 0 (MQ below (ms_Qv D cA a shX out) args s 0 0 (ms_A a shX.length)) (F0 m 0 ls []) := by
  have hx := Cx.1
  have hb := Cx.2.1
  intro σ H locs ls hI hl h
  unfold fX7_recordDays at h
  refine lv_aload_n hx hb dX7_recordDays_0 rfl (lv_at hl 0 rfl) ?_
  refine gr_X7_6 Cx hI wd_2_14 dX7_recordDays_1 ?_
  refine gi_X0_5 Cx hI wd_10_12 dX7_recordDays_4 ?_
  refine lv_if_ne (tgt := 36) hx hb dX7_recordDays_7 rfl (fun hc => ?_) (fun hc => ?_)
  · have h := ms_ifF hc h
    exact ms_rv Cx hI (Option.some.inj h) dX7_recordDays_36
  · have h := ms_ifT hc h
    refine lv_aload_n hx hb dX7_recordDays_10 rfl (lv_at hl 0 rfl) ?_
    refine lv_aload_n hx hb dX7_recordDays_11 rfl (lv_at hl 0 rfl) ?_
    refine gr_X7_0 Cx hI wd_1_15 dX7_recordDays_12 ?_
    refine gi_X4_6 Cx hI wd_14_11 dX7_recordDays_15 ?_
    refine lv_aload_n hx hb dX7_recordDays_18 rfl (lv_at hl 0 rfl) ?_
    refine gi_X7_3 Cx hI wd_2_2 dX7_recordDays_19 ?_
    obtain ⟨σ2, hc1, h⟩ := ms_bdE h
    refine kX7_makeReady Cx hI hc1 wd_21_7 (Nat.le_of_ble_eq_true rfl) (Nat.le_of_ble_eq_true rfl) hl.1 (Nat.le_of_ble_eq_true rfl) dX7_recordDays_22 (fun H locs hI => ?_)
    refine lv_aload_n hx hb dX7_recordDays_25 rfl (lv_at hl 0 rfl) ?_
    refine gr_X7_6 Cx hI wd_2_14 dX7_recordDays_26 ?_
    refine lv_aload_n hx hb dX7_recordDays_29 rfl (lv_at hl 0 rfl) ?_
    refine gr_X7_5 Cx hI wd_2_10 dX7_recordDays_30 ?_
    obtain ⟨σ4, hc3, h⟩ := ms_bdE h
    refine kX0_record Cx hI hc3 wd_22_15 (Nat.le_of_ble_eq_true rfl) (Nat.le_of_ble_eq_true rfl) hl.1 (Nat.le_of_ble_eq_true rfl) dX7_recordDays_33 (fun H locs hI => ?_)
    exact ms_rv Cx hI (Option.some.inj h) dX7_recordDays_36
theorem yvX7_recordDays : ms_YV yX7_recordDays RX7 cX7_recordDays 1 none 0 := ⟨wd_21_4, wd_21_5, wd_1_2, wd_21_6, rfl, by decide +kernel, by decide +kernel, by decide +kernel⟩
set_option maxHeartbeats 4000000 in
theorem metX7_recordDays (l : Launch) (hDis : ms_Dis a shX.length) {σ : Mm} {out : Mm} (h : fX7_recordDays σ = some out) : Met l yX7_recordDays (.code yX7_recordDays cX7_recordDays 1 none :: wsL_law) rmX7_recordDays (ms_Pc D cA a shX [.ref (a 0)] σ) (ms_Qv D cA a shX out) 0 0 (ms_A a shX.length) := by
  refine Met.ofW (cc := cX7_recordDays) (maxL := 1) (ret := none) (by decide) rfl ?_
  intro p e s m args below meth c s₁ B hml hv
  obtain ⟨rfl, hK, hN, hP⟩ := hv
  have hl := lv_entry ([.ref (a 0)]) (n := 1) (Nat.le_of_ble_eq_true rfl)
  rw [lg_entry_eq]
  generalize (lg_sl ([.ref (a 0)]) ++ List.replicate (1 - (lg_sl ([.ref (a 0)])).length) Slot.unset).toArray = ls at hl ⊢
  exact wX7_recordDays ⟨B.exec, B.bytes, hml, findClass_of_methodNamed B.named, fun w hw => atoms_spec (ws := .code yX7_recordDays cX7_recordDays 1 none :: wsL_law) B.pre w (List.mem_cons_of_mem _ hw), B.returns, B.notSynchronized, hK, hDis, hN⟩ out σ s.heap [] ls ⟨hP, va_S.rf⟩ hl h
theorem kX7_recordDays (Cx : ms_C p s m args meth c D cA a shX cc nL own ret) {σ : Mm} {H : Heap} {locs : List Loc} (hI : ms_I D cA a shX s σ H locs) {out : Mm} (h : fX7_recordDays σ = some out) (hl : Cond.methodLink own idx yX7_recordDays ∈ wsL_law) (hf : 5 + 1 ≤ R.frames) (hlo : 8 + (1 + 11) + 119 ≤ R.locals) (hsz : ls.size = nL) (hW : (rest.map fun v => v.category).sum ≤ 8) (hd : decode cc pc = .ok (.invokevirtual idx, 3)) (kk : ∀ (H1 : Heap) (locs1 : List Loc), ms_I D cA a shX s out H1 locs1 → W p l e R s m args below meth c H1 locs1 0 0 Q (F0 m (pc + 3) ls (rest))) : W p l e R s m args below meth c H locs 0 0 Q (F0 m pc ls (.ref (a 0) :: rest)) :=
  ms_cv hI (ms_runV (av := []) Cx hI 0 shX_0 (ci := 7) rfl rfl yvX7_recordDays (metX7_recordDays l Cx.2.2.2.2.2.2.2.2.1  h) ⟨rfl, rfl⟩ hl ⟨hf, hlo⟩ rfl hsz rfl hW ⟨Nat.zero_le _, Nat.zero_le _⟩ hd) kk
/-! X7 level (II)I -/
theorem dX7_level_0 : decode cX7_level 0 = .ok (.iload_n 1, 1) := by decide +kernel
theorem dX7_level_1 : decode cX7_level 1 = .ok (.invokestatic 160, 3) := by decide +kernel
theorem dX7_level_4 : decode cX7_level 4 = .ok (.ifCond .eq 12, 3) := by decide +kernel
theorem dX7_level_7 : decode cX7_level 7 = .ok (.iload_n 2, 1) := by decide +kernel
theorem dX7_level_8 : decode cX7_level 8 = .ok (.iconst 0, 1) := by decide +kernel
theorem dX7_level_9 : decode cX7_level 9 = .ok (.iconst 1, 1) := by decide +kernel
theorem dX7_level_10 : decode cX7_level 10 = .ok (.invokestatic 82, 3) := by decide +kernel
theorem dX7_level_13 : decode cX7_level 13 = .ok (.ifCond .ne 6, 3) := by decide +kernel
theorem dX7_level_16 : decode cX7_level 16 = .ok (.bipush (-2), 2) := by decide +kernel
theorem dX7_level_18 : decode cX7_level 18 = .ok (.ireturn, 1) := by decide +kernel
theorem dX7_level_19 : decode cX7_level 19 = .ok (.aload_n 0, 1) := by decide +kernel
theorem dX7_level_20 : decode cX7_level 20 = .ok (.invokevirtual 163, 3) := by decide +kernel
theorem dX7_level_23 : decode cX7_level 23 = .ok (.iload_n 2, 1) := by decide +kernel
theorem dX7_level_24 : decode cX7_level 24 = .ok (.ifCond .ne 15, 3) := by decide +kernel
theorem dX7_level_27 : decode cX7_level 27 = .ok (.aload_n 0, 1) := by decide +kernel
theorem dX7_level_28 : decode cX7_level 28 = .ok (.getfield 54, 3) := by decide +kernel
theorem dX7_level_31 : decode cX7_level 31 = .ok (.getfield 166, 3) := by decide +kernel
theorem dX7_level_34 : decode cX7_level 34 = .ok (.iload_n 1, 1) := by decide +kernel
theorem dX7_level_35 : decode cX7_level 35 = .ok (.iaload, 1) := by decide +kernel
theorem dX7_level_36 : decode cX7_level 36 = .ok (.goto 12, 3) := by decide +kernel
theorem dX7_level_39 : decode cX7_level 39 = .ok (.aload_n 0, 1) := by decide +kernel
theorem dX7_level_40 : decode cX7_level 40 = .ok (.getfield 54, 3) := by decide +kernel
theorem dX7_level_43 : decode cX7_level 43 = .ok (.getfield 169, 3) := by decide +kernel
theorem dX7_level_46 : decode cX7_level 46 = .ok (.iload_n 1, 1) := by decide +kernel
theorem dX7_level_47 : decode cX7_level 47 = .ok (.iaload, 1) := by decide +kernel
theorem dX7_level_48 : decode cX7_level 48 = .ok (.ireturn, 1) := by decide +kernel
abbrev rmX7_level : Room := { frames := 6, cells := 0, slots := 0, locals := 139 }
set_option maxHeartbeats 4000000 in
set_option maxRecDepth 100000 in
theorem wX7_level (Cx : ms_C p s m args meth c D cA a shX cX7_level 3 RX7 (some .int)) (out : Int32 × Mm) : ∀ (p0 : Int32) (p1 : Int32) , ∀ (σ : Mm) (H : Heap) (locs : List Loc) (ls : Array Slot), ms_I D cA a shX s σ H locs → lv_has ls 3 [(0, .ref (a 0)), (1, .int p0), (2, .int p1)] → fX7_level p0 p1 σ = some out → W p l e rmX7_level s m args below meth c H locs 0 0 (MQ below (ms_Qi D cA a shX out.1 out.2) args s 0 0 (ms_A a shX.length)) (F0 m 0 ls []) := by
  have hx := Cx.1
  have hb := Cx.2.1
  intro p0 p1 σ H locs ls hI hl h
  unfold fX7_level at h
  refine lv_iload_n hx hb dX7_level_0 rfl (lv_at hl 1 rfl) ?_
  obtain ⟨r2, hc1, h⟩ := ms_bdE h
  refine kX7_isHour Cx hI hc1 (Or.inl wd_21_0) (Nat.le_of_ble_eq_true rfl) (Nat.le_of_ble_eq_true rfl) hl.1 (Nat.le_of_ble_eq_true rfl) dX7_level_1 (fun H locs hI => ?_)
  refine lv_if_eq (tgt := 16) hx hb dX7_level_4 rfl (fun hc => ?_) (fun hc => ?_)
  · have h := ms_ifT hc h
    refine lv_bipush (v := -2) hx hb dX7_level_16 rfl ?_
    exact ms_riw Cx hI h dX7_level_18
  · have h := ms_ifF hc h
    refine lv_iload_n hx hb dX7_level_7 rfl (lv_at hl 2 rfl) ?_
    refine lv_iconst (v := 0) hx hb dX7_level_8 rfl ?_
    refine lv_iconst (v := 1) hx hb dX7_level_9 rfl ?_
    obtain ⟨r4, hc3, h⟩ := ms_bdE h
    refine kX7_within Cx hI hc3 (Or.inl wd_7_23) (Nat.le_of_ble_eq_true rfl) (Nat.le_of_ble_eq_true rfl) hl.1 (Nat.le_of_ble_eq_true rfl) dX7_level_10 (fun H locs hI => ?_)
    refine lv_if_ne (tgt := 19) hx hb dX7_level_13 rfl (fun hc => ?_) (fun hc => ?_)
    · have h := ms_ifF hc h
      refine lv_aload_n hx hb dX7_level_19 rfl (lv_at hl 0 rfl) ?_
      obtain ⟨σ6, hc5, h⟩ := ms_bdE h
      refine kX7_recordDays Cx hI hc5 wd_21_3 (Nat.le_of_ble_eq_true rfl) (Nat.le_of_ble_eq_true rfl) hl.1 (Nat.le_of_ble_eq_true rfl) dX7_level_20 (fun H locs hI => ?_)
      refine lv_iload_n hx hb dX7_level_23 rfl (lv_at hl 2 rfl) ?_
      refine lv_if_ne (tgt := 39) hx hb dX7_level_24 rfl (fun hc => ?_) (fun hc => ?_)
      · have h := ms_ifF hc h
        refine lv_aload_n hx hb dX7_level_39 rfl (lv_at hl 0 rfl) ?_
        refine gr_X7_6 Cx hI wd_2_14 dX7_level_40 ?_
        refine gr_X0_1 Cx hI wd_20_23 dX7_level_43 ?_
        refine lv_iload_n hx hb dX7_level_46 rfl (lv_at hl 1 rfl) ?_
        obtain ⟨hg, h⟩ := ms_gE h
        refine ms_ld Cx hI 14 shX_14 hg dX7_level_47 ?_
        exact ms_riw Cx hI h dX7_level_48
      · have h := ms_ifT hc h
        refine lv_aload_n hx hb dX7_level_27 rfl (lv_at hl 0 rfl) ?_
        refine gr_X7_6 Cx hI wd_2_14 dX7_level_28 ?_
        refine gr_X0_0 Cx hI wd_20_22 dX7_level_31 ?_
        refine lv_iload_n hx hb dX7_level_34 rfl (lv_at hl 1 rfl) ?_
        obtain ⟨hg, h⟩ := ms_gE h
        refine ms_ld Cx hI 13 shX_13 hg dX7_level_35 ?_
        refine lv_goto (tgt := 48) hx hb dX7_level_36 rfl ?_
        exact ms_riw Cx hI h dX7_level_48
    · have h := ms_ifT hc h
      refine lv_bipush (v := -2) hx hb dX7_level_16 rfl ?_
      exact ms_riw Cx hI h dX7_level_18
theorem yvX7_level : ms_YV yX7_level RX7 cX7_level 3 (some .int) 2 := ⟨wd_20_19, wd_20_20, wd_1_2, wd_20_21, rfl, by decide +kernel, by decide +kernel, by decide +kernel⟩
set_option maxHeartbeats 4000000 in
theorem metX7_level (l : Launch) (hDis : ms_Dis a shX.length) {σ : Mm} {p0 : Int32} {p1 : Int32} {out : Int32 × Mm} (h : fX7_level p0 p1 σ = some out) : Met l yX7_level (.code yX7_level cX7_level 3 (some .int) :: wsL_law) rmX7_level (ms_Pc D cA a shX [.ref (a 0), .int p0, .int p1] σ) (ms_Qi D cA a shX out.1 out.2) 0 0 (ms_A a shX.length) := by
  refine Met.ofW (cc := cX7_level) (maxL := 3) (ret := (some .int)) (by decide) rfl ?_
  intro p e s m args below meth c s₁ B hml hv
  obtain ⟨rfl, hK, hN, hP⟩ := hv
  have hl := lv_entry ([.ref (a 0), .int p0, .int p1]) (n := 3) (Nat.le_of_ble_eq_true rfl)
  rw [lg_entry_eq]
  generalize (lg_sl ([.ref (a 0), .int p0, .int p1]) ++ List.replicate (3 - (lg_sl ([.ref (a 0), .int p0, .int p1])).length) Slot.unset).toArray = ls at hl ⊢
  exact wX7_level ⟨B.exec, B.bytes, hml, findClass_of_methodNamed B.named, fun w hw => atoms_spec (ws := .code yX7_level cX7_level 3 (some .int) :: wsL_law) B.pre w (List.mem_cons_of_mem _ hw), B.returns, B.notSynchronized, hK, hDis, hN⟩ out p0 p1 σ s.heap [] ls ⟨hP, va_S.rf⟩ hl h
theorem kX7_level (Cx : ms_C p s m args meth c D cA a shX cc nL own ret) {σ : Mm} {H : Heap} {locs : List Loc} (hI : ms_I D cA a shX s σ H locs) {p0 : Int32} {p1 : Int32} {out : Int32 × Mm} (h : fX7_level p0 p1 σ = some out) (hl : Cond.methodLink own idx yX7_level ∈ wsL_law) (hf : 6 + 1 ≤ R.frames) (hlo : 8 + (3 + 11) + 139 ≤ R.locals) (hsz : ls.size = nL) (hW : (rest.map fun v => v.category).sum ≤ 8) (hd : decode cc pc = .ok (.invokevirtual idx, 3)) (kk : ∀ (H1 : Heap) (locs1 : List Loc), ms_I D cA a shX s out.2 H1 locs1 → W p l e R s m args below meth c H1 locs1 0 0 Q (F0 m (pc + 3) ls (.int out.1 :: rest))) : W p l e R s m args below meth c H locs 0 0 Q (F0 m pc ls (.int p1 :: .int p0 :: .ref (a 0) :: rest)) :=
  ms_ci hI (ms_runV (av := [.int p0, .int p1]) Cx hI 0 shX_0 (ci := 7) rfl rfl yvX7_level (metX7_level l Cx.2.2.2.2.2.2.2.2.1  h) ⟨rfl, rfl⟩ hl ⟨hf, hlo⟩ rfl hsz rfl hW ⟨Nat.zero_le _, Nat.zero_le _⟩ hd) kk
/-! X7 stands (II)I -/
theorem dX7_stands_0 : decode cX7_stands 0 = .ok (.aload_n 0, 1) := by decide +kernel
theorem dX7_stands_1 : decode cX7_stands 1 = .ok (.getfield 12, 3) := by decide +kernel
theorem dX7_stands_4 : decode cX7_stands 4 = .ok (.iload_n 1, 1) := by decide +kernel
theorem dX7_stands_5 : decode cX7_stands 5 = .ok (.invokevirtual 102, 3) := by decide +kernel
theorem dX7_stands_8 : decode cX7_stands 8 = .ok (.ifCond .eq 10, 3) := by decide +kernel
theorem dX7_stands_11 : decode cX7_stands 11 = .ok (.iload_n 2, 1) := by decide +kernel
theorem dX7_stands_12 : decode cX7_stands 12 = .ok (.invokestatic 160, 3) := by decide +kernel
theorem dX7_stands_15 : decode cX7_stands 15 = .ok (.ifCond .ne 6, 3) := by decide +kernel
theorem dX7_stands_18 : decode cX7_stands 18 = .ok (.bipush (-2), 2) := by decide +kernel
theorem dX7_stands_20 : decode cX7_stands 20 = .ok (.ireturn, 1) := by decide +kernel
theorem dX7_stands_21 : decode cX7_stands 21 = .ok (.aload_n 0, 1) := by decide +kernel
theorem dX7_stands_22 : decode cX7_stands 22 = .ok (.invokevirtual 163, 3) := by decide +kernel
theorem dX7_stands_25 : decode cX7_stands 25 = .ok (.aload_n 0, 1) := by decide +kernel
theorem dX7_stands_26 : decode cX7_stands 26 = .ok (.getfield 54, 3) := by decide +kernel
theorem dX7_stands_29 : decode cX7_stands 29 = .ok (.getfield 172, 3) := by decide +kernel
theorem dX7_stands_32 : decode cX7_stands 32 = .ok (.iload_n 2, 1) := by decide +kernel
theorem dX7_stands_33 : decode cX7_stands 33 = .ok (.iaload, 1) := by decide +kernel
theorem dX7_stands_34 : decode cX7_stands 34 = .ok (.iload_n 1, 1) := by decide +kernel
theorem dX7_stands_35 : decode cX7_stands 35 = .ok (.invokestatic 106, 3) := by decide +kernel
theorem dX7_stands_38 : decode cX7_stands 38 = .ok (.ireturn, 1) := by decide +kernel
abbrev rmX7_stands : Room := { frames := 6, cells := 0, slots := 0, locals := 139 }
set_option maxHeartbeats 4000000 in
set_option maxRecDepth 100000 in
theorem wX7_stands (Cx : ms_C p s m args meth c D cA a shX cX7_stands 3 RX7 (some .int)) (out : Int32 × Mm) : ∀ (p0 : Int32) (p1 : Int32) , ∀ (σ : Mm) (H : Heap) (locs : List Loc) (ls : Array Slot), ms_I D cA a shX s σ H locs → lv_has ls 3 [(0, .ref (a 0)), (1, .int p0), (2, .int p1)] → fX7_stands p0 p1 σ = some out → W p l e rmX7_stands s m args below meth c H locs 0 0 (MQ below (ms_Qi D cA a shX out.1 out.2) args s 0 0 (ms_A a shX.length)) (F0 m 0 ls []) := by
  have hx := Cx.1
  have hb := Cx.2.1
  intro p0 p1 σ H locs ls hI hl h
  unfold fX7_stands at h
  refine lv_aload_n hx hb dX7_stands_0 rfl (lv_at hl 0 rfl) ?_
  refine gr_X7_0 Cx hI wd_1_15 dX7_stands_1 ?_
  refine lv_iload_n hx hb dX7_stands_4 rfl (lv_at hl 1 rfl) ?_
  obtain ⟨r2, hc1, h⟩ := ms_bdE h
  refine kX4_hasThing Cx hI hc1 wd_13_10 (Nat.le_of_ble_eq_true rfl) (Nat.le_of_ble_eq_true rfl) hl.1 (Nat.le_of_ble_eq_true rfl) dX7_stands_5 (fun H locs hI => ?_)
  refine lv_if_eq (tgt := 18) hx hb dX7_stands_8 rfl (fun hc => ?_) (fun hc => ?_)
  · have h := ms_ifT hc h
    refine lv_bipush (v := -2) hx hb dX7_stands_18 rfl ?_
    exact ms_riw Cx hI h dX7_stands_20
  · have h := ms_ifF hc h
    refine lv_iload_n hx hb dX7_stands_11 rfl (lv_at hl 2 rfl) ?_
    obtain ⟨r4, hc3, h⟩ := ms_bdE h
    refine kX7_isHour Cx hI hc3 (Or.inl wd_21_0) (Nat.le_of_ble_eq_true rfl) (Nat.le_of_ble_eq_true rfl) hl.1 (Nat.le_of_ble_eq_true rfl) dX7_stands_12 (fun H locs hI => ?_)
    refine lv_if_ne (tgt := 21) hx hb dX7_stands_15 rfl (fun hc => ?_) (fun hc => ?_)
    · have h := ms_ifF hc h
      refine lv_aload_n hx hb dX7_stands_21 rfl (lv_at hl 0 rfl) ?_
      obtain ⟨σ6, hc5, h⟩ := ms_bdE h
      refine kX7_recordDays Cx hI hc5 wd_21_3 (Nat.le_of_ble_eq_true rfl) (Nat.le_of_ble_eq_true rfl) hl.1 (Nat.le_of_ble_eq_true rfl) dX7_stands_22 (fun H locs hI => ?_)
      refine lv_aload_n hx hb dX7_stands_25 rfl (lv_at hl 0 rfl) ?_
      refine gr_X7_6 Cx hI wd_2_14 dX7_stands_26 ?_
      refine gr_X0_4 Cx hI wd_24_23 dX7_stands_29 ?_
      refine lv_iload_n hx hb dX7_stands_32 rfl (lv_at hl 2 rfl) ?_
      obtain ⟨hg, h⟩ := ms_gE h
      refine ms_ld Cx hI 17 shX_17 hg dX7_stands_33 ?_
      refine lv_iload_n hx hb dX7_stands_34 rfl (lv_at hl 1 rfl) ?_
      obtain ⟨r8, hc7, h⟩ := ms_bdE h
      refine kX7_bit Cx hI hc7 (Or.inl wd_13_14) (Nat.le_of_ble_eq_true rfl) (Nat.le_of_ble_eq_true rfl) hl.1 (Nat.le_of_ble_eq_true rfl) dX7_stands_35 (fun H locs hI => ?_)
      exact ms_riw Cx hI h dX7_stands_38
    · have h := ms_ifT hc h
      refine lv_bipush (v := -2) hx hb dX7_stands_18 rfl ?_
      exact ms_riw Cx hI h dX7_stands_20
theorem yvX7_stands : ms_YV yX7_stands RX7 cX7_stands 3 (some .int) 2 := ⟨wd_24_20, wd_24_21, wd_1_2, wd_24_22, rfl, by decide +kernel, by decide +kernel, by decide +kernel⟩
set_option maxHeartbeats 4000000 in
theorem metX7_stands (l : Launch) (hDis : ms_Dis a shX.length) {σ : Mm} {p0 : Int32} {p1 : Int32} {out : Int32 × Mm} (h : fX7_stands p0 p1 σ = some out) : Met l yX7_stands (.code yX7_stands cX7_stands 3 (some .int) :: wsL_law) rmX7_stands (ms_Pc D cA a shX [.ref (a 0), .int p0, .int p1] σ) (ms_Qi D cA a shX out.1 out.2) 0 0 (ms_A a shX.length) := by
  refine Met.ofW (cc := cX7_stands) (maxL := 3) (ret := (some .int)) (by decide) rfl ?_
  intro p e s m args below meth c s₁ B hml hv
  obtain ⟨rfl, hK, hN, hP⟩ := hv
  have hl := lv_entry ([.ref (a 0), .int p0, .int p1]) (n := 3) (Nat.le_of_ble_eq_true rfl)
  rw [lg_entry_eq]
  generalize (lg_sl ([.ref (a 0), .int p0, .int p1]) ++ List.replicate (3 - (lg_sl ([.ref (a 0), .int p0, .int p1])).length) Slot.unset).toArray = ls at hl ⊢
  exact wX7_stands ⟨B.exec, B.bytes, hml, findClass_of_methodNamed B.named, fun w hw => atoms_spec (ws := .code yX7_stands cX7_stands 3 (some .int) :: wsL_law) B.pre w (List.mem_cons_of_mem _ hw), B.returns, B.notSynchronized, hK, hDis, hN⟩ out p0 p1 σ s.heap [] ls ⟨hP, va_S.rf⟩ hl h
theorem kX7_stands (Cx : ms_C p s m args meth c D cA a shX cc nL own ret) {σ : Mm} {H : Heap} {locs : List Loc} (hI : ms_I D cA a shX s σ H locs) {p0 : Int32} {p1 : Int32} {out : Int32 × Mm} (h : fX7_stands p0 p1 σ = some out) (hl : Cond.methodLink own idx yX7_stands ∈ wsL_law) (hf : 6 + 1 ≤ R.frames) (hlo : 8 + (3 + 11) + 139 ≤ R.locals) (hsz : ls.size = nL) (hW : (rest.map fun v => v.category).sum ≤ 8) (hd : decode cc pc = .ok (.invokevirtual idx, 3)) (kk : ∀ (H1 : Heap) (locs1 : List Loc), ms_I D cA a shX s out.2 H1 locs1 → W p l e R s m args below meth c H1 locs1 0 0 Q (F0 m (pc + 3) ls (.int out.1 :: rest))) : W p l e R s m args below meth c H locs 0 0 Q (F0 m pc ls (.int p1 :: .int p0 :: .ref (a 0) :: rest)) :=
  ms_ci hI (ms_runV (av := [.int p0, .int p1]) Cx hI 0 shX_0 (ci := 7) rfl rfl yvX7_stands (metX7_stands l Cx.2.2.2.2.2.2.2.2.1  h) ⟨rfl, rfl⟩ hl ⟨hf, hlo⟩ rfl hsz rfl hW ⟨Nat.zero_le _, Nat.zero_le _⟩ hd) kk
/-! X7 areDays (I)Z -/
theorem dX7_areDays_0 : decode cX7_areDays 0 = .ok (.iload_n 0, 1) := by decide +kernel
theorem dX7_areDays_1 : decode cX7_areDays 1 = .ok (.iconst 1, 1) := by decide +kernel
theorem dX7_areDays_2 : decode cX7_areDays 2 = .ok (.bipush 9, 2) := by decide +kernel
theorem dX7_areDays_4 : decode cX7_areDays 4 = .ok (.invokestatic 82, 3) := by decide +kernel
theorem dX7_areDays_7 : decode cX7_areDays 7 = .ok (.ireturn, 1) := by decide +kernel
abbrev rmX7_areDays : Room := { frames := 1, cells := 0, slots := 0, locals := 22 }
set_option maxHeartbeats 4000000 in
set_option maxRecDepth 100000 in
theorem wX7_areDays (Cx : ms_C p s m args meth c D cA a shX cX7_areDays 1 RX7 (some .boolean)) (out : Int32) {σ : Mm} : ∀ (p0 : Int32) , ∀ (H : Heap) (locs : List Loc) (ls : Array Slot), ms_I D cA a shX s σ H locs → lv_has ls 1 [(0, .int p0)] → fX7_areDays p0 = some out → W p l e rmX7_areDays s m args below meth c H locs 0 0 (MQ below (ms_Qi D cA a shX out σ) args s 0 0 (ms_A a shX.length)) (F0 m 0 ls []) := by
  have hx := Cx.1
  have hb := Cx.2.1
  intro p0 H locs ls hI hl h
  unfold fX7_areDays at h
  refine lv_iload_n hx hb dX7_areDays_0 rfl (lv_at hl 0 rfl) ?_
  refine lv_iconst (v := 1) hx hb dX7_areDays_1 rfl ?_
  refine lv_bipush (v := 9) hx hb dX7_areDays_2 rfl ?_
  obtain ⟨r2, hc1, h⟩ := ms_bdE h
  refine kX7_within Cx hI hc1 (Or.inl wd_7_23) (Nat.le_of_ble_eq_true rfl) (Nat.le_of_ble_eq_true rfl) hl.1 (Nat.le_of_ble_eq_true rfl) dX7_areDays_4 (fun H locs hI => ?_)
  obtain ⟨hg, h⟩ := ms_gE h
  exact ms_rz Cx hI hg (Option.some.inj h) rfl dX7_areDays_7
theorem yvX7_areDays : ms_YS yX7_areDays cX7_areDays 1 (some .boolean) 1 := ⟨wd_25_9, wd_1_2, wd_25_10, by decide +kernel, by decide +kernel, by decide +kernel⟩
set_option maxHeartbeats 4000000 in
theorem metX7_areDays (l : Launch) (hDis : ms_Dis a shX.length) {σ : Mm} {p0 : Int32} {out : Int32} (h : fX7_areDays p0 = some out) : Met l yX7_areDays (.code yX7_areDays cX7_areDays 1 (some .boolean) :: wsL_law) rmX7_areDays (ms_Pc D cA a shX [.int p0] σ) (ms_Qi D cA a shX out σ) 0 0 (ms_A a shX.length) := by
  refine Met.ofW (cc := cX7_areDays) (maxL := 1) (ret := (some .boolean)) (by decide) rfl ?_
  intro p e s m args below meth c s₁ B hml hv
  obtain ⟨rfl, hK, hN, hP⟩ := hv
  have hl := lv_entry ([.int p0]) (n := 1) (Nat.le_of_ble_eq_true rfl)
  rw [lg_entry_eq]
  generalize (lg_sl ([.int p0]) ++ List.replicate (1 - (lg_sl ([.int p0])).length) Slot.unset).toArray = ls at hl ⊢
  exact wX7_areDays ⟨B.exec, B.bytes, hml, findClass_of_methodNamed B.named, fun w hw => atoms_spec (ws := .code yX7_areDays cX7_areDays 1 (some .boolean) :: wsL_law) B.pre w (List.mem_cons_of_mem _ hw), B.returns, B.notSynchronized, hK, hDis, hN⟩ out p0 s.heap [] ls ⟨hP, va_S.rf⟩ hl h
theorem kX7_areDays (Cx : ms_C p s m args meth c D cA a shX cc nL own ret) {σ : Mm} {H : Heap} {locs : List Loc} (hI : ms_I D cA a shX s σ H locs) {p0 : Int32} {out : Int32} (h : fX7_areDays p0 = some out) (hl : Cond.methodLink own idx yX7_areDays ∈ wsL_law ∨ (own, idx, yX7_areDays) ∈ ms_nq) (hf : 1 + 1 ≤ R.frames) (hlo : 8 + (1 + 11) + 22 ≤ R.locals) (hsz : ls.size = nL) (hW : (rest.map fun v => v.category).sum ≤ 8) (hd : decode cc pc = .ok (.invokestatic idx, 3)) (kk : ∀ (H1 : Heap) (locs1 : List Loc), ms_I D cA a shX s σ H1 locs1 → W p l e R s m args below meth c H1 locs1 0 0 Q (F0 m (pc + 3) ls (.int out :: rest))) : W p l e R s m args below meth c H locs 0 0 Q (F0 m pc ls (.int p0 :: rest)) :=
  ms_ci hI (ms_runS (av := [.int p0]) Cx hI yvX7_areDays (metX7_areDays l Cx.2.2.2.2.2.2.2.2.1  h) ⟨rfl, rfl⟩ hl ⟨hf, hlo⟩ rfl hsz rfl hW ⟨Nat.zero_le _, Nat.zero_le _⟩ hd) kk
/-! X7 stood (II)I -/
theorem dX7_stood_0 : decode cX7_stood 0 = .ok (.aload_n 0, 1) := by decide +kernel
theorem dX7_stood_1 : decode cX7_stood 1 = .ok (.getfield 12, 3) := by decide +kernel
theorem dX7_stood_4 : decode cX7_stood 4 = .ok (.iload_n 1, 1) := by decide +kernel
theorem dX7_stood_5 : decode cX7_stood 5 = .ok (.invokevirtual 102, 3) := by decide +kernel
theorem dX7_stood_8 : decode cX7_stood 8 = .ok (.ifCond .eq 10, 3) := by decide +kernel
theorem dX7_stood_11 : decode cX7_stood 11 = .ok (.iload_n 2, 1) := by decide +kernel
theorem dX7_stood_12 : decode cX7_stood 12 = .ok (.invokestatic 175, 3) := by decide +kernel
theorem dX7_stood_15 : decode cX7_stood 15 = .ok (.ifCond .ne 6, 3) := by decide +kernel
theorem dX7_stood_18 : decode cX7_stood 18 = .ok (.bipush (-2), 2) := by decide +kernel
theorem dX7_stood_20 : decode cX7_stood 20 = .ok (.ireturn, 1) := by decide +kernel
theorem dX7_stood_21 : decode cX7_stood 21 = .ok (.aload_n 0, 1) := by decide +kernel
theorem dX7_stood_22 : decode cX7_stood 22 = .ok (.invokevirtual 163, 3) := by decide +kernel
theorem dX7_stood_25 : decode cX7_stood 25 = .ok (.aload_n 0, 1) := by decide +kernel
theorem dX7_stood_26 : decode cX7_stood 26 = .ok (.getfield 54, 3) := by decide +kernel
theorem dX7_stood_29 : decode cX7_stood 29 = .ok (.iload_n 1, 1) := by decide +kernel
theorem dX7_stood_30 : decode cX7_stood 30 = .ok (.iload_n 2, 1) := by decide +kernel
theorem dX7_stood_31 : decode cX7_stood 31 = .ok (.bipush 24, 2) := by decide +kernel
theorem dX7_stood_33 : decode cX7_stood 33 = .ok (.imul, 1) := by decide +kernel
theorem dX7_stood_34 : decode cX7_stood 34 = .ok (.invokevirtual 178, 3) := by decide +kernel
theorem dX7_stood_37 : decode cX7_stood 37 = .ok (.ireturn, 1) := by decide +kernel
abbrev rmX7_stood : Room := { frames := 6, cells := 0, slots := 0, locals := 139 }
set_option maxHeartbeats 4000000 in
set_option maxRecDepth 100000 in
theorem wX7_stood (Cx : ms_C p s m args meth c D cA a shX cX7_stood 3 RX7 (some .int)) (out : Int32 × Mm) : ∀ (p0 : Int32) (p1 : Int32) , ∀ (σ : Mm) (H : Heap) (locs : List Loc) (ls : Array Slot), ms_I D cA a shX s σ H locs → lv_has ls 3 [(0, .ref (a 0)), (1, .int p0), (2, .int p1)] → fX7_stood p0 p1 σ = some out → W p l e rmX7_stood s m args below meth c H locs 0 0 (MQ below (ms_Qi D cA a shX out.1 out.2) args s 0 0 (ms_A a shX.length)) (F0 m 0 ls []) := by
  have hx := Cx.1
  have hb := Cx.2.1
  intro p0 p1 σ H locs ls hI hl h
  unfold fX7_stood at h
  refine lv_aload_n hx hb dX7_stood_0 rfl (lv_at hl 0 rfl) ?_
  refine gr_X7_0 Cx hI wd_1_15 dX7_stood_1 ?_
  refine lv_iload_n hx hb dX7_stood_4 rfl (lv_at hl 1 rfl) ?_
  obtain ⟨r2, hc1, h⟩ := ms_bdE h
  refine kX4_hasThing Cx hI hc1 wd_13_10 (Nat.le_of_ble_eq_true rfl) (Nat.le_of_ble_eq_true rfl) hl.1 (Nat.le_of_ble_eq_true rfl) dX7_stood_5 (fun H locs hI => ?_)
  refine lv_if_eq (tgt := 18) hx hb dX7_stood_8 rfl (fun hc => ?_) (fun hc => ?_)
  · have h := ms_ifT hc h
    refine lv_bipush (v := -2) hx hb dX7_stood_18 rfl ?_
    exact ms_riw Cx hI h dX7_stood_20
  · have h := ms_ifF hc h
    refine lv_iload_n hx hb dX7_stood_11 rfl (lv_at hl 2 rfl) ?_
    obtain ⟨r4, hc3, h⟩ := ms_bdE h
    refine kX7_areDays Cx hI hc3 (Or.inl wd_25_8) (Nat.le_of_ble_eq_true rfl) (Nat.le_of_ble_eq_true rfl) hl.1 (Nat.le_of_ble_eq_true rfl) dX7_stood_12 (fun H locs hI => ?_)
    refine lv_if_ne (tgt := 21) hx hb dX7_stood_15 rfl (fun hc => ?_) (fun hc => ?_)
    · have h := ms_ifF hc h
      refine lv_aload_n hx hb dX7_stood_21 rfl (lv_at hl 0 rfl) ?_
      obtain ⟨σ6, hc5, h⟩ := ms_bdE h
      refine kX7_recordDays Cx hI hc5 wd_21_3 (Nat.le_of_ble_eq_true rfl) (Nat.le_of_ble_eq_true rfl) hl.1 (Nat.le_of_ble_eq_true rfl) dX7_stood_22 (fun H locs hI => ?_)
      refine lv_aload_n hx hb dX7_stood_25 rfl (lv_at hl 0 rfl) ?_
      refine gr_X7_6 Cx hI wd_2_14 dX7_stood_26 ?_
      refine lv_iload_n hx hb dX7_stood_29 rfl (lv_at hl 1 rfl) ?_
      refine lv_iload_n hx hb dX7_stood_30 rfl (lv_at hl 2 rfl) ?_
      refine lv_bipush (v := 24) hx hb dX7_stood_31 rfl ?_
      refine lv_imul hx hb dX7_stood_33 ?_
      obtain ⟨r8, hc7, h⟩ := ms_bdE h
      refine kX0_hoursStood Cx hI hc7 wd_25_11 (Nat.le_of_ble_eq_true rfl) (Nat.le_of_ble_eq_true rfl) hl.1 (Nat.le_of_ble_eq_true rfl) dX7_stood_34 (fun H locs hI => ?_)
      exact ms_riw Cx hI h dX7_stood_37
    · have h := ms_ifT hc h
      refine lv_bipush (v := -2) hx hb dX7_stood_18 rfl ?_
      exact ms_riw Cx hI h dX7_stood_20
theorem yvX7_stood : ms_YV yX7_stood RX7 cX7_stood 3 (some .int) 2 := ⟨wd_25_5, wd_25_6, wd_1_2, wd_25_7, rfl, by decide +kernel, by decide +kernel, by decide +kernel⟩
set_option maxHeartbeats 4000000 in
theorem metX7_stood (l : Launch) (hDis : ms_Dis a shX.length) {σ : Mm} {p0 : Int32} {p1 : Int32} {out : Int32 × Mm} (h : fX7_stood p0 p1 σ = some out) : Met l yX7_stood (.code yX7_stood cX7_stood 3 (some .int) :: wsL_law) rmX7_stood (ms_Pc D cA a shX [.ref (a 0), .int p0, .int p1] σ) (ms_Qi D cA a shX out.1 out.2) 0 0 (ms_A a shX.length) := by
  refine Met.ofW (cc := cX7_stood) (maxL := 3) (ret := (some .int)) (by decide) rfl ?_
  intro p e s m args below meth c s₁ B hml hv
  obtain ⟨rfl, hK, hN, hP⟩ := hv
  have hl := lv_entry ([.ref (a 0), .int p0, .int p1]) (n := 3) (Nat.le_of_ble_eq_true rfl)
  rw [lg_entry_eq]
  generalize (lg_sl ([.ref (a 0), .int p0, .int p1]) ++ List.replicate (3 - (lg_sl ([.ref (a 0), .int p0, .int p1])).length) Slot.unset).toArray = ls at hl ⊢
  exact wX7_stood ⟨B.exec, B.bytes, hml, findClass_of_methodNamed B.named, fun w hw => atoms_spec (ws := .code yX7_stood cX7_stood 3 (some .int) :: wsL_law) B.pre w (List.mem_cons_of_mem _ hw), B.returns, B.notSynchronized, hK, hDis, hN⟩ out p0 p1 σ s.heap [] ls ⟨hP, va_S.rf⟩ hl h
theorem kX7_stood (Cx : ms_C p s m args meth c D cA a shX cc nL own ret) {σ : Mm} {H : Heap} {locs : List Loc} (hI : ms_I D cA a shX s σ H locs) {p0 : Int32} {p1 : Int32} {out : Int32 × Mm} (h : fX7_stood p0 p1 σ = some out) (hl : Cond.methodLink own idx yX7_stood ∈ wsL_law) (hf : 6 + 1 ≤ R.frames) (hlo : 8 + (3 + 11) + 139 ≤ R.locals) (hsz : ls.size = nL) (hW : (rest.map fun v => v.category).sum ≤ 8) (hd : decode cc pc = .ok (.invokevirtual idx, 3)) (kk : ∀ (H1 : Heap) (locs1 : List Loc), ms_I D cA a shX s out.2 H1 locs1 → W p l e R s m args below meth c H1 locs1 0 0 Q (F0 m (pc + 3) ls (.int out.1 :: rest))) : W p l e R s m args below meth c H locs 0 0 Q (F0 m pc ls (.int p1 :: .int p0 :: .ref (a 0) :: rest)) :=
  ms_ci hI (ms_runV (av := [.int p0, .int p1]) Cx hI 0 shX_0 (ci := 7) rfl rfl yvX7_stood (metX7_stood l Cx.2.2.2.2.2.2.2.2.1  h) ⟨rfl, rfl⟩ hl ⟨hf, hlo⟩ rfl hsz rfl hW ⟨Nat.zero_le _, Nat.zero_le _⟩ hd) kk
/-! X7 lost (I)I -/
theorem dX7_lost_0 : decode cX7_lost 0 = .ok (.iload_n 1, 1) := by decide +kernel
theorem dX7_lost_1 : decode cX7_lost 1 = .ok (.invokestatic 175, 3) := by decide +kernel
theorem dX7_lost_4 : decode cX7_lost 4 = .ok (.ifCond .ne 6, 3) := by decide +kernel
theorem dX7_lost_7 : decode cX7_lost 7 = .ok (.bipush (-2), 2) := by decide +kernel
theorem dX7_lost_9 : decode cX7_lost 9 = .ok (.ireturn, 1) := by decide +kernel
theorem dX7_lost_10 : decode cX7_lost 10 = .ok (.aload_n 0, 1) := by decide +kernel
theorem dX7_lost_11 : decode cX7_lost 11 = .ok (.invokevirtual 163, 3) := by decide +kernel
theorem dX7_lost_14 : decode cX7_lost 14 = .ok (.aload_n 0, 1) := by decide +kernel
theorem dX7_lost_15 : decode cX7_lost 15 = .ok (.getfield 54, 3) := by decide +kernel
theorem dX7_lost_18 : decode cX7_lost 18 = .ok (.iload_n 1, 1) := by decide +kernel
theorem dX7_lost_19 : decode cX7_lost 19 = .ok (.bipush 24, 2) := by decide +kernel
theorem dX7_lost_21 : decode cX7_lost 21 = .ok (.imul, 1) := by decide +kernel
theorem dX7_lost_22 : decode cX7_lost 22 = .ok (.invokevirtual 181, 3) := by decide +kernel
theorem dX7_lost_25 : decode cX7_lost 25 = .ok (.ireturn, 1) := by decide +kernel
abbrev rmX7_lost : Room := { frames := 6, cells := 0, slots := 0, locals := 139 }
set_option maxHeartbeats 4000000 in
set_option maxRecDepth 100000 in
theorem wX7_lost (Cx : ms_C p s m args meth c D cA a shX cX7_lost 2 RX7 (some .int)) (out : Int32 × Mm) : ∀ (p0 : Int32) , ∀ (σ : Mm) (H : Heap) (locs : List Loc) (ls : Array Slot), ms_I D cA a shX s σ H locs → lv_has ls 2 [(0, .ref (a 0)), (1, .int p0)] → fX7_lost p0 σ = some out → W p l e rmX7_lost s m args below meth c H locs 0 0 (MQ below (ms_Qi D cA a shX out.1 out.2) args s 0 0 (ms_A a shX.length)) (F0 m 0 ls []) := by
  have hx := Cx.1
  have hb := Cx.2.1
  intro p0 σ H locs ls hI hl h
  unfold fX7_lost at h
  refine lv_iload_n hx hb dX7_lost_0 rfl (lv_at hl 1 rfl) ?_
  obtain ⟨r2, hc1, h⟩ := ms_bdE h
  refine kX7_areDays Cx hI hc1 (Or.inl wd_25_8) (Nat.le_of_ble_eq_true rfl) (Nat.le_of_ble_eq_true rfl) hl.1 (Nat.le_of_ble_eq_true rfl) dX7_lost_1 (fun H locs hI => ?_)
  refine lv_if_ne (tgt := 10) hx hb dX7_lost_4 rfl (fun hc => ?_) (fun hc => ?_)
  · have h := ms_ifF hc h
    refine lv_aload_n hx hb dX7_lost_10 rfl (lv_at hl 0 rfl) ?_
    obtain ⟨σ4, hc3, h⟩ := ms_bdE h
    refine kX7_recordDays Cx hI hc3 wd_21_3 (Nat.le_of_ble_eq_true rfl) (Nat.le_of_ble_eq_true rfl) hl.1 (Nat.le_of_ble_eq_true rfl) dX7_lost_11 (fun H locs hI => ?_)
    refine lv_aload_n hx hb dX7_lost_14 rfl (lv_at hl 0 rfl) ?_
    refine gr_X7_6 Cx hI wd_2_14 dX7_lost_15 ?_
    refine lv_iload_n hx hb dX7_lost_18 rfl (lv_at hl 1 rfl) ?_
    refine lv_bipush (v := 24) hx hb dX7_lost_19 rfl ?_
    refine lv_imul hx hb dX7_lost_21 ?_
    obtain ⟨r6, hc5, h⟩ := ms_bdE h
    refine kX0_spiltWithin Cx hI hc5 wd_26_10 (Nat.le_of_ble_eq_true rfl) (Nat.le_of_ble_eq_true rfl) hl.1 (Nat.le_of_ble_eq_true rfl) dX7_lost_22 (fun H locs hI => ?_)
    exact ms_riw Cx hI h dX7_lost_25
  · have h := ms_ifT hc h
    refine lv_bipush (v := -2) hx hb dX7_lost_7 rfl ?_
    exact ms_riw Cx hI h dX7_lost_9
theorem yvX7_lost : ms_YV yX7_lost RX7 cX7_lost 2 (some .int) 1 := ⟨wd_26_7, wd_26_8, wd_1_2, wd_26_9, rfl, by decide +kernel, by decide +kernel, by decide +kernel⟩
set_option maxHeartbeats 4000000 in
theorem metX7_lost (l : Launch) (hDis : ms_Dis a shX.length) {σ : Mm} {p0 : Int32} {out : Int32 × Mm} (h : fX7_lost p0 σ = some out) : Met l yX7_lost (.code yX7_lost cX7_lost 2 (some .int) :: wsL_law) rmX7_lost (ms_Pc D cA a shX [.ref (a 0), .int p0] σ) (ms_Qi D cA a shX out.1 out.2) 0 0 (ms_A a shX.length) := by
  refine Met.ofW (cc := cX7_lost) (maxL := 2) (ret := (some .int)) (by decide) rfl ?_
  intro p e s m args below meth c s₁ B hml hv
  obtain ⟨rfl, hK, hN, hP⟩ := hv
  have hl := lv_entry ([.ref (a 0), .int p0]) (n := 2) (Nat.le_of_ble_eq_true rfl)
  rw [lg_entry_eq]
  generalize (lg_sl ([.ref (a 0), .int p0]) ++ List.replicate (2 - (lg_sl ([.ref (a 0), .int p0])).length) Slot.unset).toArray = ls at hl ⊢
  exact wX7_lost ⟨B.exec, B.bytes, hml, findClass_of_methodNamed B.named, fun w hw => atoms_spec (ws := .code yX7_lost cX7_lost 2 (some .int) :: wsL_law) B.pre w (List.mem_cons_of_mem _ hw), B.returns, B.notSynchronized, hK, hDis, hN⟩ out p0 σ s.heap [] ls ⟨hP, va_S.rf⟩ hl h
theorem kX7_lost (Cx : ms_C p s m args meth c D cA a shX cc nL own ret) {σ : Mm} {H : Heap} {locs : List Loc} (hI : ms_I D cA a shX s σ H locs) {p0 : Int32} {out : Int32 × Mm} (h : fX7_lost p0 σ = some out) (hl : Cond.methodLink own idx yX7_lost ∈ wsL_law) (hf : 6 + 1 ≤ R.frames) (hlo : 8 + (2 + 11) + 139 ≤ R.locals) (hsz : ls.size = nL) (hW : (rest.map fun v => v.category).sum ≤ 8) (hd : decode cc pc = .ok (.invokevirtual idx, 3)) (kk : ∀ (H1 : Heap) (locs1 : List Loc), ms_I D cA a shX s out.2 H1 locs1 → W p l e R s m args below meth c H1 locs1 0 0 Q (F0 m (pc + 3) ls (.int out.1 :: rest))) : W p l e R s m args below meth c H locs 0 0 Q (F0 m pc ls (.int p0 :: .ref (a 0) :: rest)) :=
  ms_ci hI (ms_runV (av := [.int p0]) Cx hI 0 shX_0 (ci := 7) rfl rfl yvX7_lost (metX7_lost l Cx.2.2.2.2.2.2.2.2.1  h) ⟨rfl, rfl⟩ hl ⟨hf, hlo⟩ rfl hsz rfl hW ⟨Nat.zero_le _, Nat.zero_le _⟩ hd) kk
/-! X7 flow (I)I -/
theorem dX7_flow_0 : decode cX7_flow 0 = .ok (.iload_n 1, 1) := by decide +kernel
theorem dX7_flow_1 : decode cX7_flow 1 = .ok (.invokestatic 160, 3) := by decide +kernel
theorem dX7_flow_4 : decode cX7_flow 4 = .ok (.ifCond .ne 7, 3) := by decide +kernel
theorem dX7_flow_7 : decode cX7_flow 7 = .ok (.sipush (-10002), 3) := by decide +kernel
theorem dX7_flow_10 : decode cX7_flow 10 = .ok (.ireturn, 1) := by decide +kernel
theorem dX7_flow_11 : decode cX7_flow 11 = .ok (.aload_n 0, 1) := by decide +kernel
theorem dX7_flow_12 : decode cX7_flow 12 = .ok (.invokevirtual 163, 3) := by decide +kernel
theorem dX7_flow_15 : decode cX7_flow 15 = .ok (.aload_n 0, 1) := by decide +kernel
theorem dX7_flow_16 : decode cX7_flow 16 = .ok (.getfield 54, 3) := by decide +kernel
theorem dX7_flow_19 : decode cX7_flow 19 = .ok (.getfield 184, 3) := by decide +kernel
theorem dX7_flow_22 : decode cX7_flow 22 = .ok (.iload_n 1, 1) := by decide +kernel
theorem dX7_flow_23 : decode cX7_flow 23 = .ok (.iaload, 1) := by decide +kernel
theorem dX7_flow_24 : decode cX7_flow 24 = .ok (.ireturn, 1) := by decide +kernel
abbrev rmX7_flow : Room := { frames := 6, cells := 0, slots := 0, locals := 139 }
set_option maxHeartbeats 4000000 in
set_option maxRecDepth 100000 in
theorem wX7_flow (Cx : ms_C p s m args meth c D cA a shX cX7_flow 2 RX7 (some .int)) (out : Int32 × Mm) : ∀ (p0 : Int32) , ∀ (σ : Mm) (H : Heap) (locs : List Loc) (ls : Array Slot), ms_I D cA a shX s σ H locs → lv_has ls 2 [(0, .ref (a 0)), (1, .int p0)] → fX7_flow p0 σ = some out → W p l e rmX7_flow s m args below meth c H locs 0 0 (MQ below (ms_Qi D cA a shX out.1 out.2) args s 0 0 (ms_A a shX.length)) (F0 m 0 ls []) := by
  have hx := Cx.1
  have hb := Cx.2.1
  intro p0 σ H locs ls hI hl h
  unfold fX7_flow at h
  refine lv_iload_n hx hb dX7_flow_0 rfl (lv_at hl 1 rfl) ?_
  obtain ⟨r2, hc1, h⟩ := ms_bdE h
  refine kX7_isHour Cx hI hc1 (Or.inl wd_21_0) (Nat.le_of_ble_eq_true rfl) (Nat.le_of_ble_eq_true rfl) hl.1 (Nat.le_of_ble_eq_true rfl) dX7_flow_1 (fun H locs hI => ?_)
  refine lv_if_ne (tgt := 11) hx hb dX7_flow_4 rfl (fun hc => ?_) (fun hc => ?_)
  · have h := ms_ifF hc h
    refine lv_aload_n hx hb dX7_flow_11 rfl (lv_at hl 0 rfl) ?_
    obtain ⟨σ4, hc3, h⟩ := ms_bdE h
    refine kX7_recordDays Cx hI hc3 wd_21_3 (Nat.le_of_ble_eq_true rfl) (Nat.le_of_ble_eq_true rfl) hl.1 (Nat.le_of_ble_eq_true rfl) dX7_flow_12 (fun H locs hI => ?_)
    refine lv_aload_n hx hb dX7_flow_15 rfl (lv_at hl 0 rfl) ?_
    refine gr_X7_6 Cx hI wd_2_14 dX7_flow_16 ?_
    refine gr_X0_2 Cx hI wd_27_2 dX7_flow_19 ?_
    refine lv_iload_n hx hb dX7_flow_22 rfl (lv_at hl 1 rfl) ?_
    obtain ⟨hg, h⟩ := ms_gE h
    refine ms_ld Cx hI 15 shX_15 hg dX7_flow_23 ?_
    exact ms_riw Cx hI h dX7_flow_24
  · have h := ms_ifT hc h
    refine lv_sipush (v := -10002) hx hb dX7_flow_7 rfl ?_
    exact ms_riw Cx hI h dX7_flow_10
theorem yvX7_flow : ms_YV yX7_flow RX7 cX7_flow 2 (some .int) 1 := ⟨wd_26_23, wd_27_0, wd_1_2, wd_27_1, rfl, by decide +kernel, by decide +kernel, by decide +kernel⟩
set_option maxHeartbeats 4000000 in
theorem metX7_flow (l : Launch) (hDis : ms_Dis a shX.length) {σ : Mm} {p0 : Int32} {out : Int32 × Mm} (h : fX7_flow p0 σ = some out) : Met l yX7_flow (.code yX7_flow cX7_flow 2 (some .int) :: wsL_law) rmX7_flow (ms_Pc D cA a shX [.ref (a 0), .int p0] σ) (ms_Qi D cA a shX out.1 out.2) 0 0 (ms_A a shX.length) := by
  refine Met.ofW (cc := cX7_flow) (maxL := 2) (ret := (some .int)) (by decide) rfl ?_
  intro p e s m args below meth c s₁ B hml hv
  obtain ⟨rfl, hK, hN, hP⟩ := hv
  have hl := lv_entry ([.ref (a 0), .int p0]) (n := 2) (Nat.le_of_ble_eq_true rfl)
  rw [lg_entry_eq]
  generalize (lg_sl ([.ref (a 0), .int p0]) ++ List.replicate (2 - (lg_sl ([.ref (a 0), .int p0])).length) Slot.unset).toArray = ls at hl ⊢
  exact wX7_flow ⟨B.exec, B.bytes, hml, findClass_of_methodNamed B.named, fun w hw => atoms_spec (ws := .code yX7_flow cX7_flow 2 (some .int) :: wsL_law) B.pre w (List.mem_cons_of_mem _ hw), B.returns, B.notSynchronized, hK, hDis, hN⟩ out p0 σ s.heap [] ls ⟨hP, va_S.rf⟩ hl h
theorem kX7_flow (Cx : ms_C p s m args meth c D cA a shX cc nL own ret) {σ : Mm} {H : Heap} {locs : List Loc} (hI : ms_I D cA a shX s σ H locs) {p0 : Int32} {out : Int32 × Mm} (h : fX7_flow p0 σ = some out) (hl : Cond.methodLink own idx yX7_flow ∈ wsL_law) (hf : 6 + 1 ≤ R.frames) (hlo : 8 + (2 + 11) + 139 ≤ R.locals) (hsz : ls.size = nL) (hW : (rest.map fun v => v.category).sum ≤ 8) (hd : decode cc pc = .ok (.invokevirtual idx, 3)) (kk : ∀ (H1 : Heap) (locs1 : List Loc), ms_I D cA a shX s out.2 H1 locs1 → W p l e R s m args below meth c H1 locs1 0 0 Q (F0 m (pc + 3) ls (.int out.1 :: rest))) : W p l e R s m args below meth c H locs 0 0 Q (F0 m pc ls (.int p0 :: .ref (a 0) :: rest)) :=
  ms_ci hI (ms_runV (av := [.int p0]) Cx hI 0 shX_0 (ci := 7) rfl rfl yvX7_flow (metX7_flow l Cx.2.2.2.2.2.2.2.2.1  h) ⟨rfl, rfl⟩ hl ⟨hf, hlo⟩ rfl hsz rfl hW ⟨Nat.zero_le _, Nat.zero_le _⟩ hd) kk
/-! X7 worst (II)I -/
theorem dX7_worst_0 : decode cX7_worst 0 = .ok (.iload_n 1, 1) := by decide +kernel
theorem dX7_worst_1 : decode cX7_worst 1 = .ok (.invokestatic 175, 3) := by decide +kernel
theorem dX7_worst_4 : decode cX7_worst 4 = .ok (.ifCond .eq 12, 3) := by decide +kernel
theorem dX7_worst_7 : decode cX7_worst 7 = .ok (.iload_n 2, 1) := by decide +kernel
theorem dX7_worst_8 : decode cX7_worst 8 = .ok (.iconst 0, 1) := by decide +kernel
theorem dX7_worst_9 : decode cX7_worst 9 = .ok (.iconst 1, 1) := by decide +kernel
theorem dX7_worst_10 : decode cX7_worst 10 = .ok (.invokestatic 82, 3) := by decide +kernel
theorem dX7_worst_13 : decode cX7_worst 13 = .ok (.ifCond .ne 6, 3) := by decide +kernel
theorem dX7_worst_16 : decode cX7_worst 16 = .ok (.bipush (-2), 2) := by decide +kernel
theorem dX7_worst_18 : decode cX7_worst 18 = .ok (.ireturn, 1) := by decide +kernel
theorem dX7_worst_19 : decode cX7_worst 19 = .ok (.aload_n 0, 1) := by decide +kernel
theorem dX7_worst_20 : decode cX7_worst 20 = .ok (.invokevirtual 163, 3) := by decide +kernel
theorem dX7_worst_23 : decode cX7_worst 23 = .ok (.aload_n 0, 1) := by decide +kernel
theorem dX7_worst_24 : decode cX7_worst 24 = .ok (.getfield 54, 3) := by decide +kernel
theorem dX7_worst_27 : decode cX7_worst 27 = .ok (.iload_n 1, 1) := by decide +kernel
theorem dX7_worst_28 : decode cX7_worst 28 = .ok (.bipush 24, 2) := by decide +kernel
theorem dX7_worst_30 : decode cX7_worst 30 = .ok (.imul, 1) := by decide +kernel
theorem dX7_worst_31 : decode cX7_worst 31 = .ok (.invokevirtual 187, 3) := by decide +kernel
theorem dX7_worst_34 : decode cX7_worst 34 = .ok (.istore_n 3, 1) := by decide +kernel
theorem dX7_worst_35 : decode cX7_worst 35 = .ok (.iload_n 2, 1) := by decide +kernel
theorem dX7_worst_36 : decode cX7_worst 36 = .ok (.ifCond .ne 15, 3) := by decide +kernel
theorem dX7_worst_39 : decode cX7_worst 39 = .ok (.aload_n 0, 1) := by decide +kernel
theorem dX7_worst_40 : decode cX7_worst 40 = .ok (.getfield 54, 3) := by decide +kernel
theorem dX7_worst_43 : decode cX7_worst 43 = .ok (.getfield 166, 3) := by decide +kernel
theorem dX7_worst_46 : decode cX7_worst 46 = .ok (.iload_n 3, 1) := by decide +kernel
theorem dX7_worst_47 : decode cX7_worst 47 = .ok (.iaload, 1) := by decide +kernel
theorem dX7_worst_48 : decode cX7_worst 48 = .ok (.goto 4, 3) := by decide +kernel
theorem dX7_worst_51 : decode cX7_worst 51 = .ok (.iload_n 3, 1) := by decide +kernel
theorem dX7_worst_52 : decode cX7_worst 52 = .ok (.ireturn, 1) := by decide +kernel
abbrev rmX7_worst : Room := { frames := 6, cells := 0, slots := 0, locals := 139 }
set_option maxHeartbeats 4000000 in
set_option maxRecDepth 100000 in
theorem wX7_worst (Cx : ms_C p s m args meth c D cA a shX cX7_worst 4 RX7 (some .int)) (out : Int32 × Mm) : ∀ (p0 : Int32) (p1 : Int32) , ∀ (σ : Mm) (H : Heap) (locs : List Loc) (ls : Array Slot), ms_I D cA a shX s σ H locs → lv_has ls 4 [(0, .ref (a 0)), (1, .int p0), (2, .int p1)] → fX7_worst p0 p1 σ = some out → W p l e rmX7_worst s m args below meth c H locs 0 0 (MQ below (ms_Qi D cA a shX out.1 out.2) args s 0 0 (ms_A a shX.length)) (F0 m 0 ls []) := by
  have hx := Cx.1
  have hb := Cx.2.1
  intro p0 p1 σ H locs ls hI hl h
  unfold fX7_worst at h
  refine lv_iload_n hx hb dX7_worst_0 rfl (lv_at hl 1 rfl) ?_
  obtain ⟨r2, hc1, h⟩ := ms_bdE h
  refine kX7_areDays Cx hI hc1 (Or.inl wd_25_8) (Nat.le_of_ble_eq_true rfl) (Nat.le_of_ble_eq_true rfl) hl.1 (Nat.le_of_ble_eq_true rfl) dX7_worst_1 (fun H locs hI => ?_)
  refine lv_if_eq (tgt := 16) hx hb dX7_worst_4 rfl (fun hc => ?_) (fun hc => ?_)
  · have h := ms_ifT hc h
    refine lv_bipush (v := -2) hx hb dX7_worst_16 rfl ?_
    exact ms_riw Cx hI h dX7_worst_18
  · have h := ms_ifF hc h
    refine lv_iload_n hx hb dX7_worst_7 rfl (lv_at hl 2 rfl) ?_
    refine lv_iconst (v := 0) hx hb dX7_worst_8 rfl ?_
    refine lv_iconst (v := 1) hx hb dX7_worst_9 rfl ?_
    obtain ⟨r4, hc3, h⟩ := ms_bdE h
    refine kX7_within Cx hI hc3 (Or.inl wd_7_23) (Nat.le_of_ble_eq_true rfl) (Nat.le_of_ble_eq_true rfl) hl.1 (Nat.le_of_ble_eq_true rfl) dX7_worst_10 (fun H locs hI => ?_)
    refine lv_if_ne (tgt := 19) hx hb dX7_worst_13 rfl (fun hc => ?_) (fun hc => ?_)
    · have h := ms_ifF hc h
      refine lv_aload_n hx hb dX7_worst_19 rfl (lv_at hl 0 rfl) ?_
      obtain ⟨σ6, hc5, h⟩ := ms_bdE h
      refine kX7_recordDays Cx hI hc5 wd_21_3 (Nat.le_of_ble_eq_true rfl) (Nat.le_of_ble_eq_true rfl) hl.1 (Nat.le_of_ble_eq_true rfl) dX7_worst_20 (fun H locs hI => ?_)
      refine lv_aload_n hx hb dX7_worst_23 rfl (lv_at hl 0 rfl) ?_
      refine gr_X7_6 Cx hI wd_2_14 dX7_worst_24 ?_
      refine lv_iload_n hx hb dX7_worst_27 rfl (lv_at hl 1 rfl) ?_
      refine lv_bipush (v := 24) hx hb dX7_worst_28 rfl ?_
      refine lv_imul hx hb dX7_worst_30 ?_
      obtain ⟨r8, hc7, h⟩ := ms_bdE h
      refine kX0_worstHour Cx hI hc7 wd_27_15 (Nat.le_of_ble_eq_true rfl) (Nat.le_of_ble_eq_true rfl) hl.1 (Nat.le_of_ble_eq_true rfl) dX7_worst_31 (fun H locs hI => ?_)
      refine lv_istore_n (lv' := [(3, .int r8), (0, .ref (a 0)), (1, .int p0), (2, .int p1)]) hx hb dX7_worst_34 rfl hl (by decide) rfl (fun ls hl => ?_)
      refine lv_iload_n hx hb dX7_worst_35 rfl (lv_at hl 3 rfl) ?_
      refine lv_if_ne (tgt := 51) hx hb dX7_worst_36 rfl (fun hc => ?_) (fun hc => ?_)
      · have h := ms_ifF hc h
        refine lv_iload_n hx hb dX7_worst_51 rfl (lv_at hl 0 rfl) ?_
        exact ms_riw Cx hI h dX7_worst_52
      · have h := ms_ifT hc h
        refine lv_aload_n hx hb dX7_worst_39 rfl (lv_at hl 1 rfl) ?_
        refine gr_X7_6 Cx hI wd_2_14 dX7_worst_40 ?_
        refine gr_X0_0 Cx hI wd_20_22 dX7_worst_43 ?_
        refine lv_iload_n hx hb dX7_worst_46 rfl (lv_at hl 0 rfl) ?_
        obtain ⟨hg, h⟩ := ms_gE h
        refine ms_ld Cx hI 13 shX_13 hg dX7_worst_47 ?_
        refine lv_goto (tgt := 52) hx hb dX7_worst_48 rfl ?_
        exact ms_riw Cx hI h dX7_worst_52
    · have h := ms_ifT hc h
      refine lv_bipush (v := -2) hx hb dX7_worst_16 rfl ?_
      exact ms_riw Cx hI h dX7_worst_18
theorem yvX7_worst : ms_YV yX7_worst RX7 cX7_worst 4 (some .int) 2 := ⟨wd_27_12, wd_27_13, wd_1_2, wd_27_14, rfl, by decide +kernel, by decide +kernel, by decide +kernel⟩
set_option maxHeartbeats 4000000 in
theorem metX7_worst (l : Launch) (hDis : ms_Dis a shX.length) {σ : Mm} {p0 : Int32} {p1 : Int32} {out : Int32 × Mm} (h : fX7_worst p0 p1 σ = some out) : Met l yX7_worst (.code yX7_worst cX7_worst 4 (some .int) :: wsL_law) rmX7_worst (ms_Pc D cA a shX [.ref (a 0), .int p0, .int p1] σ) (ms_Qi D cA a shX out.1 out.2) 0 0 (ms_A a shX.length) := by
  refine Met.ofW (cc := cX7_worst) (maxL := 4) (ret := (some .int)) (by decide) rfl ?_
  intro p e s m args below meth c s₁ B hml hv
  obtain ⟨rfl, hK, hN, hP⟩ := hv
  have hl := lv_entry ([.ref (a 0), .int p0, .int p1]) (n := 4) (Nat.le_of_ble_eq_true rfl)
  rw [lg_entry_eq]
  generalize (lg_sl ([.ref (a 0), .int p0, .int p1]) ++ List.replicate (4 - (lg_sl ([.ref (a 0), .int p0, .int p1])).length) Slot.unset).toArray = ls at hl ⊢
  exact wX7_worst ⟨B.exec, B.bytes, hml, findClass_of_methodNamed B.named, fun w hw => atoms_spec (ws := .code yX7_worst cX7_worst 4 (some .int) :: wsL_law) B.pre w (List.mem_cons_of_mem _ hw), B.returns, B.notSynchronized, hK, hDis, hN⟩ out p0 p1 σ s.heap [] ls ⟨hP, va_S.rf⟩ hl h
theorem kX7_worst (Cx : ms_C p s m args meth c D cA a shX cc nL own ret) {σ : Mm} {H : Heap} {locs : List Loc} (hI : ms_I D cA a shX s σ H locs) {p0 : Int32} {p1 : Int32} {out : Int32 × Mm} (h : fX7_worst p0 p1 σ = some out) (hl : Cond.methodLink own idx yX7_worst ∈ wsL_law) (hf : 6 + 1 ≤ R.frames) (hlo : 8 + (4 + 11) + 139 ≤ R.locals) (hsz : ls.size = nL) (hW : (rest.map fun v => v.category).sum ≤ 8) (hd : decode cc pc = .ok (.invokevirtual idx, 3)) (kk : ∀ (H1 : Heap) (locs1 : List Loc), ms_I D cA a shX s out.2 H1 locs1 → W p l e R s m args below meth c H1 locs1 0 0 Q (F0 m (pc + 3) ls (.int out.1 :: rest))) : W p l e R s m args below meth c H locs 0 0 Q (F0 m pc ls (.int p1 :: .int p0 :: .ref (a 0) :: rest)) :=
  ms_ci hI (ms_runV (av := [.int p0, .int p1]) Cx hI 0 shX_0 (ci := 7) rfl rfl yvX7_worst (metX7_worst l Cx.2.2.2.2.2.2.2.2.1  h) ⟨rfl, rfl⟩ hl ⟨hf, hlo⟩ rfl hsz rfl hW ⟨Nat.zero_le _, Nat.zero_le _⟩ hd) kk
/-! X7 fewest (I)I -/
theorem dX7_fewest_0 : decode cX7_fewest 0 = .ok (.iload_n 1, 1) := by decide +kernel
theorem dX7_fewest_1 : decode cX7_fewest 1 = .ok (.invokestatic 175, 3) := by decide +kernel
theorem dX7_fewest_4 : decode cX7_fewest 4 = .ok (.ifCond .ne 6, 3) := by decide +kernel
theorem dX7_fewest_7 : decode cX7_fewest 7 = .ok (.bipush (-2), 2) := by decide +kernel
theorem dX7_fewest_9 : decode cX7_fewest 9 = .ok (.ireturn, 1) := by decide +kernel
theorem dX7_fewest_10 : decode cX7_fewest 10 = .ok (.iconst 1, 1) := by decide +kernel
theorem dX7_fewest_11 : decode cX7_fewest 11 = .ok (.aload_n 0, 1) := by decide +kernel
theorem dX7_fewest_12 : decode cX7_fewest 12 = .ok (.getfield 12, 3) := by decide +kernel
theorem dX7_fewest_15 : decode cX7_fewest 15 = .ok (.getfield 190, 3) := by decide +kernel
theorem dX7_fewest_18 : decode cX7_fewest 18 = .ok (.ishl, 1) := by decide +kernel
theorem dX7_fewest_19 : decode cX7_fewest 19 = .ok (.istore_n 2, 1) := by decide +kernel
theorem dX7_fewest_20 : decode cX7_fewest 20 = .ok (.iconst 0, 1) := by decide +kernel
theorem dX7_fewest_21 : decode cX7_fewest 21 = .ok (.istore_n 3, 1) := by decide +kernel
theorem dX7_fewest_22 : decode cX7_fewest 22 = .ok (.iload_n 3, 1) := by decide +kernel
theorem dX7_fewest_23 : decode cX7_fewest 23 = .ok (.aload_n 0, 1) := by decide +kernel
theorem dX7_fewest_24 : decode cX7_fewest 24 = .ok (.getfield 12, 3) := by decide +kernel
theorem dX7_fewest_27 : decode cX7_fewest 27 = .ok (.getfield 190, 3) := by decide +kernel
theorem dX7_fewest_30 : decode cX7_fewest 30 = .ok (.if_icmp .gt 78, 3) := by decide +kernel
theorem dX7_fewest_33 : decode cX7_fewest 33 = .ok (.iconst 0, 1) := by decide +kernel
theorem dX7_fewest_34 : decode cX7_fewest 34 = .ok (.istore 4, 2) := by decide +kernel
theorem dX7_fewest_36 : decode cX7_fewest 36 = .ok (.iload 4, 2) := by decide +kernel
theorem dX7_fewest_38 : decode cX7_fewest 38 = .ok (.iload_n 2, 1) := by decide +kernel
theorem dX7_fewest_39 : decode cX7_fewest 39 = .ok (.if_icmp .ge 63, 3) := by decide +kernel
theorem dX7_fewest_42 : decode cX7_fewest 42 = .ok (.iload 4, 2) := by decide +kernel
theorem dX7_fewest_44 : decode cX7_fewest 44 = .ok (.invokestatic 193, 3) := by decide +kernel
theorem dX7_fewest_47 : decode cX7_fewest 47 = .ok (.iload_n 3, 1) := by decide +kernel
theorem dX7_fewest_48 : decode cX7_fewest 48 = .ok (.if_icmp .ne 48, 3) := by decide +kernel
theorem dX7_fewest_51 : decode cX7_fewest 51 = .ok (.iload 4, 2) := by decide +kernel
theorem dX7_fewest_53 : decode cX7_fewest 53 = .ok (.aload_n 0, 1) := by decide +kernel
theorem dX7_fewest_54 : decode cX7_fewest 54 = .ok (.getfield 31, 3) := by decide +kernel
theorem dX7_fewest_57 : decode cX7_fewest 57 = .ok (.iand, 1) := by decide +kernel
theorem dX7_fewest_58 : decode cX7_fewest 58 = .ok (.ifCond .ne 38, 3) := by decide +kernel
theorem dX7_fewest_61 : decode cX7_fewest 61 = .ok (.aload_n 0, 1) := by decide +kernel
theorem dX7_fewest_62 : decode cX7_fewest 62 = .ok (.aload_n 0, 1) := by decide +kernel
theorem dX7_fewest_63 : decode cX7_fewest 63 = .ok (.getfield 12, 3) := by decide +kernel
theorem dX7_fewest_66 : decode cX7_fewest 66 = .ok (.getfield 113, 3) := by decide +kernel
theorem dX7_fewest_69 : decode cX7_fewest 69 = .ok (.aload_n 0, 1) := by decide +kernel
theorem dX7_fewest_70 : decode cX7_fewest 70 = .ok (.getfield 31, 3) := by decide +kernel
theorem dX7_fewest_73 : decode cX7_fewest 73 = .ok (.iload 4, 2) := by decide +kernel
theorem dX7_fewest_75 : decode cX7_fewest 75 = .ok (.ior, 1) := by decide +kernel
theorem dX7_fewest_76 : decode cX7_fewest 76 = .ok (.invokevirtual 198, 3) := by decide +kernel
theorem dX7_fewest_79 : decode cX7_fewest 79 = .ok (.aload_n 0, 1) := by decide +kernel
theorem dX7_fewest_80 : decode cX7_fewest 80 = .ok (.getfield 47, 3) := by decide +kernel
theorem dX7_fewest_83 : decode cX7_fewest 83 = .ok (.iload_n 1, 1) := by decide +kernel
theorem dX7_fewest_84 : decode cX7_fewest 84 = .ok (.bipush 24, 2) := by decide +kernel
theorem dX7_fewest_86 : decode cX7_fewest 86 = .ok (.imul, 1) := by decide +kernel
theorem dX7_fewest_87 : decode cX7_fewest 87 = .ok (.invokevirtual 202, 3) := by decide +kernel
theorem dX7_fewest_90 : decode cX7_fewest 90 = .ok (.ifCond .eq 6, 3) := by decide +kernel
theorem dX7_fewest_93 : decode cX7_fewest 93 = .ok (.iload 4, 2) := by decide +kernel
theorem dX7_fewest_95 : decode cX7_fewest 95 = .ok (.ireturn, 1) := by decide +kernel
theorem dX7_fewest_96 : decode cX7_fewest 96 = .ok (.iinc 4 1, 3) := by decide +kernel
theorem dX7_fewest_99 : decode cX7_fewest 99 = .ok (.goto (-63), 3) := by decide +kernel
theorem dX7_fewest_102 : decode cX7_fewest 102 = .ok (.iinc 3 1, 3) := by decide +kernel
theorem dX7_fewest_105 : decode cX7_fewest 105 = .ok (.goto (-83), 3) := by decide +kernel
theorem dX7_fewest_108 : decode cX7_fewest 108 = .ok (.iconst (-1), 1) := by decide +kernel
theorem dX7_fewest_109 : decode cX7_fewest 109 = .ok (.ireturn, 1) := by decide +kernel
abbrev rmX7_fewest : Room := { frames := 5, cells := 0, slots := 0, locals := 119 }
set_option maxHeartbeats 4000000 in
set_option maxRecDepth 100000 in
theorem wX7_fewest_96 (Cx : ms_C p s m args meth c D cA a shX cX7_fewest 5 RX7 (some .int)) (out : Int32 × Mm) (K36 : Int32 → Int32 → Int32 → Int32 → Mm → Option (Int32 × Mm)) (hK36 : ∀ (y1 : Int32) (y2 : Int32) (y3 : Int32) (y4 : Int32) , ∀ (σ : Mm) (H : Heap) (locs : List Loc) (ls : Array Slot), ms_I D cA a shX s σ H locs → lv_has ls 5 [(0, .ref (a 0)), (1, .int y1), (2, .int y2), (3, .int y3), (4, .int y4)] → K36 y1 y2 y3 y4 σ = some out → W p l e rmX7_fewest s m args below meth c H locs 0 0 (MQ below (ms_Qi D cA a shX out.1 out.2) args s 0 0 (ms_A a shX.length)) (F0 m 36 ls [])) : ∀ (y1 : Int32) (y2 : Int32) (y3 : Int32) (y4 : Int32) , ∀ (σ : Mm) (H : Heap) (locs : List Loc) (ls : Array Slot), ms_I D cA a shX s σ H locs → lv_has ls 5 [(0, .ref (a 0)), (1, .int y1), (2, .int y2), (3, .int y3), (4, .int y4)] → fX7_fewest_96 K36 y1 y2 y3 y4 σ = some out → W p l e rmX7_fewest s m args below meth c H locs 0 0 (MQ below (ms_Qi D cA a shX out.1 out.2) args s 0 0 (ms_A a shX.length)) (F0 m 96 ls []) := by
  have hx := Cx.1
  have hb := Cx.2.1
  intro y1 y2 y3 y4 σ H locs ls hI hl h
  unfold fX7_fewest_96 at h
  refine lv_iinc (v := y4 + 1) (lv' := [(4, .int (y4 + 1)), (0, .ref (a 0)), (1, .int y1), (2, .int y2), (3, .int y3)]) hx hb dX7_fewest_96 hl (k := 4) rfl rfl (by decide) rfl (fun ls hl => ?_)
  refine lv_goto (tgt := 36) hx hb dX7_fewest_99 rfl ?_
  exact hK36 y1 y2 y3 (y4 + 1) σ _ _ _ hI (lv_sub hl [1, 2, 3, 4, 0] rfl) h
set_option maxHeartbeats 4000000 in
set_option maxRecDepth 100000 in
theorem wX7_fewest_36 (Cx : ms_C p s m args meth c D cA a shX cX7_fewest 5 RX7 (some .int)) (out : Int32 × Mm) (K22 : Int32 → Int32 → Int32 → Mm → Option (Int32 × Mm)) (hK22 : ∀ (y1 : Int32) (y2 : Int32) (y3 : Int32) , ∀ (σ : Mm) (H : Heap) (locs : List Loc) (ls : Array Slot), ms_I D cA a shX s σ H locs → lv_has ls 5 [(0, .ref (a 0)), (1, .int y1), (2, .int y2), (3, .int y3)] → K22 y1 y2 y3 σ = some out → W p l e rmX7_fewest s m args below meth c H locs 0 0 (MQ below (ms_Qi D cA a shX out.1 out.2) args s 0 0 (ms_A a shX.length)) (F0 m 22 ls [])) : ∀ (n : Nat), ∀ (y1 : Int32) (y2 : Int32) (y3 : Int32) (y4 : Int32) , ∀ (σ : Mm) (H : Heap) (locs : List Loc) (ls : Array Slot), ms_I D cA a shX s σ H locs → lv_has ls 5 [(0, .ref (a 0)), (1, .int y1), (2, .int y2), (3, .int y3), (4, .int y4)] → fX7_fewest_36 K22 n y1 y2 y3 y4 σ = some out → W p l e rmX7_fewest s m args below meth c H locs 0 0 (MQ below (ms_Qi D cA a shX out.1 out.2) args s 0 0 (ms_A a shX.length)) (F0 m 36 ls []) := by
  have hx := Cx.1
  have hb := Cx.2.1
  intro n
  induction n with
  | zero =>
    intro y1 y2 y3 y4 σ H locs ls hI hl h
    exact nomatch (show none = some out from h)
  | succ n ih =>
    intro y1 y2 y3 y4 σ H locs ls hI hl h
    rw [fX7_fewest_36] at h
    refine lv_iload hx hb dX7_fewest_36 (lv_at hl 4 rfl) ?_
    refine lv_iload_n hx hb dX7_fewest_38 rfl (lv_at hl 2 rfl) ?_
    refine lv_icmp_ge (tgt := 102) hx hb dX7_fewest_39 rfl (fun hc => ?_) (fun hc => ?_)
    · have h := ms_ifT hc h
      refine lv_iinc (v := y3 + 1) (lv' := [(3, .int (y3 + 1)), (0, .ref (a 0)), (1, .int y1), (2, .int y2), (4, .int y4)]) hx hb dX7_fewest_102 hl (k := 3) rfl rfl (by decide) rfl (fun ls hl => ?_)
      refine lv_goto (tgt := 22) hx hb dX7_fewest_105 rfl ?_
      exact hK22 y1 y2 (y3 + 1) σ _ _ _ hI (lv_sub hl [1, 2, 3, 0] rfl) h
    · have h := ms_ifF hc h
      refine lv_iload hx hb dX7_fewest_42 (lv_at hl 4 rfl) ?_
      obtain ⟨r2, hc1, h⟩ := ms_bdE h
      refine kJ6_bitCount_0f7a4 Cx hI hc1 (Or.inl wd_28_11) (Nat.le_of_ble_eq_true rfl) (Nat.le_of_ble_eq_true rfl) hl.1 (Nat.le_of_ble_eq_true rfl) dX7_fewest_44 (fun H locs hI => ?_)
      refine lv_iload_n hx hb dX7_fewest_47 rfl (lv_at hl 3 rfl) ?_
      refine lv_icmp_ne (tgt := 96) hx hb dX7_fewest_48 rfl (fun hc => ?_) (fun hc => ?_)
      · have h := ms_ifF hc h
        exact wX7_fewest_96 Cx out (fX7_fewest_36 K22 n) ih y1 y2 y3 y4 σ _ _ _ hI (lv_sub hl [0, 1, 2, 3, 4] rfl) h
      · have h := ms_ifT hc h
        refine lv_iload hx hb dX7_fewest_51 (lv_at hl 4 rfl) ?_
        refine lv_aload_n hx hb dX7_fewest_53 rfl (lv_at hl 0 rfl) ?_
        refine gi_X7_3 Cx hI wd_2_2 dX7_fewest_54 ?_
        refine lv_iand hx hb dX7_fewest_57 ?_
        refine lv_if_ne (tgt := 96) hx hb dX7_fewest_58 rfl (fun hc => ?_) (fun hc => ?_)
        · have h := ms_ifF hc h
          exact wX7_fewest_96 Cx out (fX7_fewest_36 K22 n) ih y1 y2 y3 y4 σ _ _ _ hI (lv_sub hl [0, 1, 2, 3, 4] rfl) h
        · have h := ms_ifT hc h
          refine lv_aload_n hx hb dX7_fewest_61 rfl (lv_at hl 0 rfl) ?_
          refine lv_aload_n hx hb dX7_fewest_62 rfl (lv_at hl 0 rfl) ?_
          refine gr_X7_0 Cx hI wd_1_15 dX7_fewest_63 ?_
          refine gi_X4_6 Cx hI wd_14_11 dX7_fewest_66 ?_
          refine lv_aload_n hx hb dX7_fewest_69 rfl (lv_at hl 0 rfl) ?_
          refine gi_X7_3 Cx hI wd_2_2 dX7_fewest_70 ?_
          refine lv_iload hx hb dX7_fewest_73 (lv_at hl 4 rfl) ?_
          refine lv_ior hx hb dX7_fewest_75 ?_
          obtain ⟨σ4, hc3, h⟩ := ms_bdE h
          refine kX7_makeReady Cx hI hc3 wd_21_7 (Nat.le_of_ble_eq_true rfl) (Nat.le_of_ble_eq_true rfl) hl.1 (Nat.le_of_ble_eq_true rfl) dX7_fewest_76 (fun H locs hI => ?_)
          refine lv_aload_n hx hb dX7_fewest_79 rfl (lv_at hl 0 rfl) ?_
          refine gr_X7_5 Cx hI wd_2_10 dX7_fewest_80 ?_
          refine lv_iload_n hx hb dX7_fewest_83 rfl (lv_at hl 1 rfl) ?_
          refine lv_bipush (v := 24) hx hb dX7_fewest_84 rfl ?_
          refine lv_imul hx hb dX7_fewest_86 ?_
          obtain ⟨⟨r6, σ7⟩, hc5, h⟩ := ms_bdE h
          refine kX3_allGoWithin Cx hI hc5 wd_28_18 (Nat.le_of_ble_eq_true rfl) (Nat.le_of_ble_eq_true rfl) hl.1 (Nat.le_of_ble_eq_true rfl) dX7_fewest_87 (fun H locs hI => ?_)
          refine lv_if_eq (tgt := 96) hx hb dX7_fewest_90 rfl (fun hc => ?_) (fun hc => ?_)
          · have h := ms_ifT hc h
            exact wX7_fewest_96 Cx out (fX7_fewest_36 K22 n) ih y1 y2 y3 y4 σ7 _ _ _ hI (lv_sub hl [0, 1, 2, 3, 4] rfl) h
          · have h := ms_ifF hc h
            refine lv_iload hx hb dX7_fewest_93 (lv_at hl 4 rfl) ?_
            exact ms_riw Cx hI h dX7_fewest_95
set_option maxHeartbeats 4000000 in
set_option maxRecDepth 100000 in
theorem wX7_fewest_22 (Cx : ms_C p s m args meth c D cA a shX cX7_fewest 5 RX7 (some .int)) (out : Int32 × Mm) : ∀ (n : Nat), ∀ (y1 : Int32) (y2 : Int32) (y3 : Int32) , ∀ (σ : Mm) (H : Heap) (locs : List Loc) (ls : Array Slot), ms_I D cA a shX s σ H locs → lv_has ls 5 [(0, .ref (a 0)), (1, .int y1), (2, .int y2), (3, .int y3)] → fX7_fewest_22 n y1 y2 y3 σ = some out → W p l e rmX7_fewest s m args below meth c H locs 0 0 (MQ below (ms_Qi D cA a shX out.1 out.2) args s 0 0 (ms_A a shX.length)) (F0 m 22 ls []) := by
  have hx := Cx.1
  have hb := Cx.2.1
  intro n
  induction n with
  | zero =>
    intro y1 y2 y3 σ H locs ls hI hl h
    exact nomatch (show none = some out from h)
  | succ n ih =>
    intro y1 y2 y3 σ H locs ls hI hl h
    rw [fX7_fewest_22] at h
    refine lv_iload_n hx hb dX7_fewest_22 rfl (lv_at hl 3 rfl) ?_
    refine lv_aload_n hx hb dX7_fewest_23 rfl (lv_at hl 0 rfl) ?_
    refine gr_X7_0 Cx hI wd_1_15 dX7_fewest_24 ?_
    refine gi_X4_4 Cx hI wd_21_11 dX7_fewest_27 ?_
    refine lv_icmp_gt (tgt := 108) hx hb dX7_fewest_30 rfl (fun hc => ?_) (fun hc => ?_)
    · have h := ms_ifT hc h
      refine lv_iconst (v := -1) hx hb dX7_fewest_108 rfl ?_
      exact ms_riw Cx hI h dX7_fewest_109
    · have h := ms_ifF hc h
      refine lv_iconst (v := 0) hx hb dX7_fewest_33 rfl ?_
      refine lv_istore (lv' := [(4, .int 0), (0, .ref (a 0)), (1, .int y1), (2, .int y2), (3, .int y3)]) hx hb dX7_fewest_34 hl (by decide) rfl (fun ls hl => ?_)
      exact wX7_fewest_36 Cx out (fX7_fewest_22 n) ih ms_fu y1 y2 y3 0 σ _ _ _ hI (lv_sub hl [1, 2, 3, 4, 0] rfl) h
set_option maxHeartbeats 4000000 in
set_option maxRecDepth 100000 in
theorem wX7_fewest (Cx : ms_C p s m args meth c D cA a shX cX7_fewest 5 RX7 (some .int)) (out : Int32 × Mm) : ∀ (p0 : Int32) , ∀ (σ : Mm) (H : Heap) (locs : List Loc) (ls : Array Slot), ms_I D cA a shX s σ H locs → lv_has ls 5 [(0, .ref (a 0)), (1, .int p0)] → fX7_fewest p0 σ = some out → W p l e rmX7_fewest s m args below meth c H locs 0 0 (MQ below (ms_Qi D cA a shX out.1 out.2) args s 0 0 (ms_A a shX.length)) (F0 m 0 ls []) := by
  have hx := Cx.1
  have hb := Cx.2.1
  intro p0 σ H locs ls hI hl h
  unfold fX7_fewest at h
  refine lv_iload_n hx hb dX7_fewest_0 rfl (lv_at hl 1 rfl) ?_
  obtain ⟨r2, hc1, h⟩ := ms_bdE h
  refine kX7_areDays Cx hI hc1 (Or.inl wd_25_8) (Nat.le_of_ble_eq_true rfl) (Nat.le_of_ble_eq_true rfl) hl.1 (Nat.le_of_ble_eq_true rfl) dX7_fewest_1 (fun H locs hI => ?_)
  refine lv_if_ne (tgt := 10) hx hb dX7_fewest_4 rfl (fun hc => ?_) (fun hc => ?_)
  · have h := ms_ifF hc h
    refine lv_iconst (v := 1) hx hb dX7_fewest_10 rfl ?_
    refine lv_aload_n hx hb dX7_fewest_11 rfl (lv_at hl 0 rfl) ?_
    refine gr_X7_0 Cx hI wd_1_15 dX7_fewest_12 ?_
    refine gi_X4_4 Cx hI wd_21_11 dX7_fewest_15 ?_
    refine lv_ishl hx hb dX7_fewest_18 ?_
    refine lv_istore_n (lv' := [(2, .int (ms_shl 1 (σ 1 4))), (0, .ref (a 0)), (1, .int p0)]) hx hb dX7_fewest_19 rfl hl (by decide) rfl (fun ls hl => ?_)
    refine lv_iconst (v := 0) hx hb dX7_fewest_20 rfl ?_
    refine lv_istore_n (lv' := [(3, .int 0), (2, .int (ms_shl 1 (σ 1 4))), (0, .ref (a 0)), (1, .int p0)]) hx hb dX7_fewest_21 rfl hl (by decide) rfl (fun ls hl => ?_)
    exact wX7_fewest_22 Cx out  ms_fu p0 (ms_shl 1 (σ 1 4)) 0 σ _ _ _ hI (lv_sub hl [2, 3, 1, 0] rfl) h
  · have h := ms_ifT hc h
    refine lv_bipush (v := -2) hx hb dX7_fewest_7 rfl ?_
    exact ms_riw Cx hI h dX7_fewest_9
theorem yvX7_fewest : ms_YV yX7_fewest RX7 cX7_fewest 5 (some .int) 1 := ⟨wd_28_8, wd_28_9, wd_1_2, wd_28_10, rfl, by decide +kernel, by decide +kernel, by decide +kernel⟩
set_option maxHeartbeats 4000000 in
theorem metX7_fewest (l : Launch) (hDis : ms_Dis a shX.length) {σ : Mm} {p0 : Int32} {out : Int32 × Mm} (h : fX7_fewest p0 σ = some out) : Met l yX7_fewest (.code yX7_fewest cX7_fewest 5 (some .int) :: wsL_law) rmX7_fewest (ms_Pc D cA a shX [.ref (a 0), .int p0] σ) (ms_Qi D cA a shX out.1 out.2) 0 0 (ms_A a shX.length) := by
  refine Met.ofW (cc := cX7_fewest) (maxL := 5) (ret := (some .int)) (by decide) rfl ?_
  intro p e s m args below meth c s₁ B hml hv
  obtain ⟨rfl, hK, hN, hP⟩ := hv
  have hl := lv_entry ([.ref (a 0), .int p0]) (n := 5) (Nat.le_of_ble_eq_true rfl)
  rw [lg_entry_eq]
  generalize (lg_sl ([.ref (a 0), .int p0]) ++ List.replicate (5 - (lg_sl ([.ref (a 0), .int p0])).length) Slot.unset).toArray = ls at hl ⊢
  exact wX7_fewest ⟨B.exec, B.bytes, hml, findClass_of_methodNamed B.named, fun w hw => atoms_spec (ws := .code yX7_fewest cX7_fewest 5 (some .int) :: wsL_law) B.pre w (List.mem_cons_of_mem _ hw), B.returns, B.notSynchronized, hK, hDis, hN⟩ out p0 σ s.heap [] ls ⟨hP, va_S.rf⟩ hl h
theorem kX7_fewest (Cx : ms_C p s m args meth c D cA a shX cc nL own ret) {σ : Mm} {H : Heap} {locs : List Loc} (hI : ms_I D cA a shX s σ H locs) {p0 : Int32} {out : Int32 × Mm} (h : fX7_fewest p0 σ = some out) (hl : Cond.methodLink own idx yX7_fewest ∈ wsL_law) (hf : 5 + 1 ≤ R.frames) (hlo : 8 + (5 + 11) + 119 ≤ R.locals) (hsz : ls.size = nL) (hW : (rest.map fun v => v.category).sum ≤ 8) (hd : decode cc pc = .ok (.invokevirtual idx, 3)) (kk : ∀ (H1 : Heap) (locs1 : List Loc), ms_I D cA a shX s out.2 H1 locs1 → W p l e R s m args below meth c H1 locs1 0 0 Q (F0 m (pc + 3) ls (.int out.1 :: rest))) : W p l e R s m args below meth c H locs 0 0 Q (F0 m pc ls (.int p0 :: .ref (a 0) :: rest)) :=
  ms_ci hI (ms_runV (av := [.int p0]) Cx hI 0 shX_0 (ci := 7) rfl rfl yvX7_fewest (metX7_fewest l Cx.2.2.2.2.2.2.2.2.1  h) ⟨rfl, rfl⟩ hl ⟨hf, hlo⟩ rfl hsz rfl hW ⟨Nat.zero_le _, Nat.zero_le _⟩ hd) kk
/-! X7 place (II)I -/
theorem dX7_place_0 : decode cX7_place 0 = .ok (.iload_n 1, 1) := by decide +kernel
theorem dX7_place_1 : decode cX7_place 1 = .ok (.invokestatic 175, 3) := by decide +kernel
theorem dX7_place_4 : decode cX7_place 4 = .ok (.ifCond .eq 12, 3) := by decide +kernel
theorem dX7_place_7 : decode cX7_place 7 = .ok (.iload_n 2, 1) := by decide +kernel
theorem dX7_place_8 : decode cX7_place 8 = .ok (.iconst 0, 1) := by decide +kernel
theorem dX7_place_9 : decode cX7_place 9 = .ok (.iconst 1, 1) := by decide +kernel
theorem dX7_place_10 : decode cX7_place 10 = .ok (.invokestatic 82, 3) := by decide +kernel
theorem dX7_place_13 : decode cX7_place 13 = .ok (.ifCond .ne 6, 3) := by decide +kernel
theorem dX7_place_16 : decode cX7_place 16 = .ok (.bipush (-2), 2) := by decide +kernel
theorem dX7_place_18 : decode cX7_place 18 = .ok (.ireturn, 1) := by decide +kernel
theorem dX7_place_19 : decode cX7_place 19 = .ok (.iconst (-1), 1) := by decide +kernel
theorem dX7_place_20 : decode cX7_place 20 = .ok (.istore_n 3, 1) := by decide +kernel
theorem dX7_place_21 : decode cX7_place 21 = .ok (.iconst (-1), 1) := by decide +kernel
theorem dX7_place_22 : decode cX7_place 22 = .ok (.istore 4, 2) := by decide +kernel
theorem dX7_place_24 : decode cX7_place 24 = .ok (.iconst 0, 1) := by decide +kernel
theorem dX7_place_25 : decode cX7_place 25 = .ok (.istore 5, 2) := by decide +kernel
theorem dX7_place_27 : decode cX7_place 27 = .ok (.iload 5, 2) := by decide +kernel
theorem dX7_place_29 : decode cX7_place 29 = .ok (.bipush 9, 2) := by decide +kernel
theorem dX7_place_31 : decode cX7_place 31 = .ok (.if_icmp .ge 71, 3) := by decide +kernel
theorem dX7_place_34 : decode cX7_place 34 = .ok (.aload_n 0, 1) := by decide +kernel
theorem dX7_place_35 : decode cX7_place 35 = .ok (.getfield 12, 3) := by decide +kernel
theorem dX7_place_38 : decode cX7_place 38 = .ok (.getfield 113, 3) := by decide +kernel
theorem dX7_place_41 : decode cX7_place 41 = .ok (.iload 5, 2) := by decide +kernel
theorem dX7_place_43 : decode cX7_place 43 = .ok (.invokestatic 106, 3) := by decide +kernel
theorem dX7_place_46 : decode cX7_place 46 = .ok (.ifCond .ne 50, 3) := by decide +kernel
theorem dX7_place_49 : decode cX7_place 49 = .ok (.aload_n 0, 1) := by decide +kernel
theorem dX7_place_50 : decode cX7_place 50 = .ok (.aload_n 0, 1) := by decide +kernel
theorem dX7_place_51 : decode cX7_place 51 = .ok (.getfield 12, 3) := by decide +kernel
theorem dX7_place_54 : decode cX7_place 54 = .ok (.getfield 113, 3) := by decide +kernel
theorem dX7_place_57 : decode cX7_place 57 = .ok (.iconst 1, 1) := by decide +kernel
theorem dX7_place_58 : decode cX7_place 58 = .ok (.iload 5, 2) := by decide +kernel
theorem dX7_place_60 : decode cX7_place 60 = .ok (.ishl, 1) := by decide +kernel
theorem dX7_place_61 : decode cX7_place 61 = .ok (.ior, 1) := by decide +kernel
theorem dX7_place_62 : decode cX7_place 62 = .ok (.aload_n 0, 1) := by decide +kernel
theorem dX7_place_63 : decode cX7_place 63 = .ok (.getfield 31, 3) := by decide +kernel
theorem dX7_place_66 : decode cX7_place 66 = .ok (.invokevirtual 198, 3) := by decide +kernel
theorem dX7_place_69 : decode cX7_place 69 = .ok (.aload_n 0, 1) := by decide +kernel
theorem dX7_place_70 : decode cX7_place 70 = .ok (.getfield 47, 3) := by decide +kernel
theorem dX7_place_73 : decode cX7_place 73 = .ok (.iload_n 1, 1) := by decide +kernel
theorem dX7_place_74 : decode cX7_place 74 = .ok (.bipush 24, 2) := by decide +kernel
theorem dX7_place_76 : decode cX7_place 76 = .ok (.imul, 1) := by decide +kernel
theorem dX7_place_77 : decode cX7_place 77 = .ok (.invokevirtual 205, 3) := by decide +kernel
theorem dX7_place_80 : decode cX7_place 80 = .ok (.istore 6, 2) := by decide +kernel
theorem dX7_place_82 : decode cX7_place 82 = .ok (.iload 6, 2) := by decide +kernel
theorem dX7_place_84 : decode cX7_place 84 = .ok (.iload 4, 2) := by decide +kernel
theorem dX7_place_86 : decode cX7_place 86 = .ok (.if_icmp .le 10, 3) := by decide +kernel
theorem dX7_place_89 : decode cX7_place 89 = .ok (.iload 5, 2) := by decide +kernel
theorem dX7_place_91 : decode cX7_place 91 = .ok (.istore_n 3, 1) := by decide +kernel
theorem dX7_place_92 : decode cX7_place 92 = .ok (.iload 6, 2) := by decide +kernel
theorem dX7_place_94 : decode cX7_place 94 = .ok (.istore 4, 2) := by decide +kernel
theorem dX7_place_96 : decode cX7_place 96 = .ok (.iinc 5 1, 3) := by decide +kernel
theorem dX7_place_99 : decode cX7_place 99 = .ok (.goto (-72), 3) := by decide +kernel
theorem dX7_place_102 : decode cX7_place 102 = .ok (.iload_n 2, 1) := by decide +kernel
theorem dX7_place_103 : decode cX7_place 103 = .ok (.ifCond .ne 7, 3) := by decide +kernel
theorem dX7_place_106 : decode cX7_place 106 = .ok (.iload_n 3, 1) := by decide +kernel
theorem dX7_place_107 : decode cX7_place 107 = .ok (.goto 5, 3) := by decide +kernel
theorem dX7_place_110 : decode cX7_place 110 = .ok (.iload 4, 2) := by decide +kernel
theorem dX7_place_112 : decode cX7_place 112 = .ok (.ireturn, 1) := by decide +kernel
abbrev rmX7_place : Room := { frames := 5, cells := 0, slots := 0, locals := 119 }
set_option maxHeartbeats 4000000 in
set_option maxRecDepth 100000 in
theorem wX7_place_96 (Cx : ms_C p s m args meth c D cA a shX cX7_place 7 RX7 (some .int)) (out : Int32 × Mm) (K27 : Int32 → Int32 → Int32 → Int32 → Int32 → Mm → Option (Int32 × Mm)) (hK27 : ∀ (y1 : Int32) (y2 : Int32) (y3 : Int32) (y4 : Int32) (y5 : Int32) , ∀ (σ : Mm) (H : Heap) (locs : List Loc) (ls : Array Slot), ms_I D cA a shX s σ H locs → lv_has ls 7 [(0, .ref (a 0)), (1, .int y1), (2, .int y2), (3, .int y3), (4, .int y4), (5, .int y5)] → K27 y1 y2 y3 y4 y5 σ = some out → W p l e rmX7_place s m args below meth c H locs 0 0 (MQ below (ms_Qi D cA a shX out.1 out.2) args s 0 0 (ms_A a shX.length)) (F0 m 27 ls [])) : ∀ (y1 : Int32) (y2 : Int32) (y3 : Int32) (y4 : Int32) (y5 : Int32) , ∀ (σ : Mm) (H : Heap) (locs : List Loc) (ls : Array Slot), ms_I D cA a shX s σ H locs → lv_has ls 7 [(0, .ref (a 0)), (1, .int y1), (2, .int y2), (3, .int y3), (4, .int y4), (5, .int y5)] → fX7_place_96 K27 y1 y2 y3 y4 y5 σ = some out → W p l e rmX7_place s m args below meth c H locs 0 0 (MQ below (ms_Qi D cA a shX out.1 out.2) args s 0 0 (ms_A a shX.length)) (F0 m 96 ls []) := by
  have hx := Cx.1
  have hb := Cx.2.1
  intro y1 y2 y3 y4 y5 σ H locs ls hI hl h
  unfold fX7_place_96 at h
  refine lv_iinc (v := y5 + 1) (lv' := [(5, .int (y5 + 1)), (0, .ref (a 0)), (1, .int y1), (2, .int y2), (3, .int y3), (4, .int y4)]) hx hb dX7_place_96 hl (k := 5) rfl rfl (by decide) rfl (fun ls hl => ?_)
  refine lv_goto (tgt := 27) hx hb dX7_place_99 rfl ?_
  exact hK27 y1 y2 y3 y4 (y5 + 1) σ _ _ _ hI (lv_sub hl [1, 2, 3, 4, 5, 0] rfl) h
set_option maxHeartbeats 4000000 in
set_option maxRecDepth 100000 in
theorem wX7_place_27 (Cx : ms_C p s m args meth c D cA a shX cX7_place 7 RX7 (some .int)) (out : Int32 × Mm) : ∀ (n : Nat), ∀ (y1 : Int32) (y2 : Int32) (y3 : Int32) (y4 : Int32) (y5 : Int32) , ∀ (σ : Mm) (H : Heap) (locs : List Loc) (ls : Array Slot), ms_I D cA a shX s σ H locs → lv_has ls 7 [(0, .ref (a 0)), (1, .int y1), (2, .int y2), (3, .int y3), (4, .int y4), (5, .int y5)] → fX7_place_27 n y1 y2 y3 y4 y5 σ = some out → W p l e rmX7_place s m args below meth c H locs 0 0 (MQ below (ms_Qi D cA a shX out.1 out.2) args s 0 0 (ms_A a shX.length)) (F0 m 27 ls []) := by
  have hx := Cx.1
  have hb := Cx.2.1
  intro n
  induction n with
  | zero =>
    intro y1 y2 y3 y4 y5 σ H locs ls hI hl h
    exact nomatch (show none = some out from h)
  | succ n ih =>
    intro y1 y2 y3 y4 y5 σ H locs ls hI hl h
    rw [fX7_place_27] at h
    refine lv_iload hx hb dX7_place_27 (lv_at hl 5 rfl) ?_
    refine lv_bipush (v := 9) hx hb dX7_place_29 rfl ?_
    refine lv_icmp_ge (tgt := 102) hx hb dX7_place_31 rfl (fun hc => ?_) (fun hc => ?_)
    · have h := ms_ifT hc h
      refine lv_iload_n hx hb dX7_place_102 rfl (lv_at hl 2 rfl) ?_
      refine lv_if_ne (tgt := 110) hx hb dX7_place_103 rfl (fun hc => ?_) (fun hc => ?_)
      · have h := ms_ifF hc h
        refine lv_iload hx hb dX7_place_110 (lv_at hl 4 rfl) ?_
        exact ms_riw Cx hI h dX7_place_112
      · have h := ms_ifT hc h
        refine lv_iload_n hx hb dX7_place_106 rfl (lv_at hl 3 rfl) ?_
        refine lv_goto (tgt := 112) hx hb dX7_place_107 rfl ?_
        exact ms_riw Cx hI h dX7_place_112
    · have h := ms_ifF hc h
      refine lv_aload_n hx hb dX7_place_34 rfl (lv_at hl 0 rfl) ?_
      refine gr_X7_0 Cx hI wd_1_15 dX7_place_35 ?_
      refine gi_X4_6 Cx hI wd_14_11 dX7_place_38 ?_
      refine lv_iload hx hb dX7_place_41 (lv_at hl 5 rfl) ?_
      obtain ⟨r2, hc1, h⟩ := ms_bdE h
      refine kX7_bit Cx hI hc1 (Or.inl wd_13_14) (Nat.le_of_ble_eq_true rfl) (Nat.le_of_ble_eq_true rfl) hl.1 (Nat.le_of_ble_eq_true rfl) dX7_place_43 (fun H locs hI => ?_)
      refine lv_if_ne (tgt := 96) hx hb dX7_place_46 rfl (fun hc => ?_) (fun hc => ?_)
      · have h := ms_ifF hc h
        exact wX7_place_96 Cx out (fX7_place_27 n) ih y1 y2 y3 y4 y5 σ _ _ _ hI (lv_sub hl [0, 1, 2, 3, 4, 5] rfl) h
      · have h := ms_ifT hc h
        refine lv_aload_n hx hb dX7_place_49 rfl (lv_at hl 0 rfl) ?_
        refine lv_aload_n hx hb dX7_place_50 rfl (lv_at hl 0 rfl) ?_
        refine gr_X7_0 Cx hI wd_1_15 dX7_place_51 ?_
        refine gi_X4_6 Cx hI wd_14_11 dX7_place_54 ?_
        refine lv_iconst (v := 1) hx hb dX7_place_57 rfl ?_
        refine lv_iload hx hb dX7_place_58 (lv_at hl 5 rfl) ?_
        refine lv_ishl hx hb dX7_place_60 ?_
        refine lv_ior hx hb dX7_place_61 ?_
        refine lv_aload_n hx hb dX7_place_62 rfl (lv_at hl 0 rfl) ?_
        refine gi_X7_3 Cx hI wd_2_2 dX7_place_63 ?_
        obtain ⟨σ4, hc3, h⟩ := ms_bdE h
        refine kX7_makeReady Cx hI hc3 wd_21_7 (Nat.le_of_ble_eq_true rfl) (Nat.le_of_ble_eq_true rfl) hl.1 (Nat.le_of_ble_eq_true rfl) dX7_place_66 (fun H locs hI => ?_)
        refine lv_aload_n hx hb dX7_place_69 rfl (lv_at hl 0 rfl) ?_
        refine gr_X7_5 Cx hI wd_2_10 dX7_place_70 ?_
        refine lv_iload_n hx hb dX7_place_73 rfl (lv_at hl 1 rfl) ?_
        refine lv_bipush (v := 24) hx hb dX7_place_74 rfl ?_
        refine lv_imul hx hb dX7_place_76 ?_
        obtain ⟨⟨r6, σ7⟩, hc5, h⟩ := ms_bdE h
        refine kX3_leastLevel Cx hI hc5 wd_29_15 (Nat.le_of_ble_eq_true rfl) (Nat.le_of_ble_eq_true rfl) hl.1 (Nat.le_of_ble_eq_true rfl) dX7_place_77 (fun H locs hI => ?_)
        refine lv_istore (lv' := [(6, .int r6), (0, .ref (a 0)), (1, .int y1), (2, .int y2), (3, .int y3), (4, .int y4), (5, .int y5)]) hx hb dX7_place_80 hl (by decide) rfl (fun ls hl => ?_)
        refine lv_iload hx hb dX7_place_82 (lv_at hl 0 rfl) ?_
        refine lv_iload hx hb dX7_place_84 (lv_at hl 5 rfl) ?_
        refine lv_icmp_le (tgt := 96) hx hb dX7_place_86 rfl (fun hc => ?_) (fun hc => ?_)
        · have h := ms_ifT hc h
          exact wX7_place_96 Cx out (fX7_place_27 n) ih y1 y2 y3 y4 y5 σ7 _ _ _ hI (lv_sub hl [1, 2, 3, 4, 5, 6] rfl) h
        · have h := ms_ifF hc h
          refine lv_iload hx hb dX7_place_89 (lv_at hl 6 rfl) ?_
          refine lv_istore_n (lv' := [(3, .int y5), (6, .int r6), (0, .ref (a 0)), (1, .int y1), (2, .int y2), (4, .int y4), (5, .int y5)]) hx hb dX7_place_91 rfl hl (by decide) rfl (fun ls hl => ?_)
          refine lv_iload hx hb dX7_place_92 (lv_at hl 1 rfl) ?_
          refine lv_istore (lv' := [(4, .int r6), (3, .int y5), (6, .int r6), (0, .ref (a 0)), (1, .int y1), (2, .int y2), (5, .int y5)]) hx hb dX7_place_94 hl (by decide) rfl (fun ls hl => ?_)
          exact wX7_place_96 Cx out (fX7_place_27 n) ih y1 y2 y5 r6 y5 σ7 _ _ _ hI (lv_sub hl [3, 4, 5, 1, 0, 6] rfl) h
set_option maxHeartbeats 4000000 in
set_option maxRecDepth 100000 in
theorem wX7_place (Cx : ms_C p s m args meth c D cA a shX cX7_place 7 RX7 (some .int)) (out : Int32 × Mm) : ∀ (p0 : Int32) (p1 : Int32) , ∀ (σ : Mm) (H : Heap) (locs : List Loc) (ls : Array Slot), ms_I D cA a shX s σ H locs → lv_has ls 7 [(0, .ref (a 0)), (1, .int p0), (2, .int p1)] → fX7_place p0 p1 σ = some out → W p l e rmX7_place s m args below meth c H locs 0 0 (MQ below (ms_Qi D cA a shX out.1 out.2) args s 0 0 (ms_A a shX.length)) (F0 m 0 ls []) := by
  have hx := Cx.1
  have hb := Cx.2.1
  intro p0 p1 σ H locs ls hI hl h
  unfold fX7_place at h
  refine lv_iload_n hx hb dX7_place_0 rfl (lv_at hl 1 rfl) ?_
  obtain ⟨r2, hc1, h⟩ := ms_bdE h
  refine kX7_areDays Cx hI hc1 (Or.inl wd_25_8) (Nat.le_of_ble_eq_true rfl) (Nat.le_of_ble_eq_true rfl) hl.1 (Nat.le_of_ble_eq_true rfl) dX7_place_1 (fun H locs hI => ?_)
  refine lv_if_eq (tgt := 16) hx hb dX7_place_4 rfl (fun hc => ?_) (fun hc => ?_)
  · have h := ms_ifT hc h
    refine lv_bipush (v := -2) hx hb dX7_place_16 rfl ?_
    exact ms_riw Cx hI h dX7_place_18
  · have h := ms_ifF hc h
    refine lv_iload_n hx hb dX7_place_7 rfl (lv_at hl 2 rfl) ?_
    refine lv_iconst (v := 0) hx hb dX7_place_8 rfl ?_
    refine lv_iconst (v := 1) hx hb dX7_place_9 rfl ?_
    obtain ⟨r4, hc3, h⟩ := ms_bdE h
    refine kX7_within Cx hI hc3 (Or.inl wd_7_23) (Nat.le_of_ble_eq_true rfl) (Nat.le_of_ble_eq_true rfl) hl.1 (Nat.le_of_ble_eq_true rfl) dX7_place_10 (fun H locs hI => ?_)
    refine lv_if_ne (tgt := 19) hx hb dX7_place_13 rfl (fun hc => ?_) (fun hc => ?_)
    · have h := ms_ifF hc h
      refine lv_iconst (v := -1) hx hb dX7_place_19 rfl ?_
      refine lv_istore_n (lv' := [(3, .int (-1)), (0, .ref (a 0)), (1, .int p0), (2, .int p1)]) hx hb dX7_place_20 rfl hl (by decide) rfl (fun ls hl => ?_)
      refine lv_iconst (v := -1) hx hb dX7_place_21 rfl ?_
      refine lv_istore (lv' := [(4, .int (-1)), (3, .int (-1)), (0, .ref (a 0)), (1, .int p0), (2, .int p1)]) hx hb dX7_place_22 hl (by decide) rfl (fun ls hl => ?_)
      refine lv_iconst (v := 0) hx hb dX7_place_24 rfl ?_
      refine lv_istore (lv' := [(5, .int 0), (4, .int (-1)), (3, .int (-1)), (0, .ref (a 0)), (1, .int p0), (2, .int p1)]) hx hb dX7_place_25 hl (by decide) rfl (fun ls hl => ?_)
      exact wX7_place_27 Cx out  ms_fu p0 p1 (-1) (-1) 0 σ _ _ _ hI (lv_sub hl [3, 4, 5, 2, 1, 0] rfl) h
    · have h := ms_ifT hc h
      refine lv_bipush (v := -2) hx hb dX7_place_16 rfl ?_
      exact ms_riw Cx hI h dX7_place_18
theorem yvX7_place : ms_YV yX7_place RX7 cX7_place 7 (some .int) 2 := ⟨wd_29_12, wd_29_13, wd_1_2, wd_29_14, rfl, by decide +kernel, by decide +kernel, by decide +kernel⟩
set_option maxHeartbeats 4000000 in
theorem metX7_place (l : Launch) (hDis : ms_Dis a shX.length) {σ : Mm} {p0 : Int32} {p1 : Int32} {out : Int32 × Mm} (h : fX7_place p0 p1 σ = some out) : Met l yX7_place (.code yX7_place cX7_place 7 (some .int) :: wsL_law) rmX7_place (ms_Pc D cA a shX [.ref (a 0), .int p0, .int p1] σ) (ms_Qi D cA a shX out.1 out.2) 0 0 (ms_A a shX.length) := by
  refine Met.ofW (cc := cX7_place) (maxL := 7) (ret := (some .int)) (by decide) rfl ?_
  intro p e s m args below meth c s₁ B hml hv
  obtain ⟨rfl, hK, hN, hP⟩ := hv
  have hl := lv_entry ([.ref (a 0), .int p0, .int p1]) (n := 7) (Nat.le_of_ble_eq_true rfl)
  rw [lg_entry_eq]
  generalize (lg_sl ([.ref (a 0), .int p0, .int p1]) ++ List.replicate (7 - (lg_sl ([.ref (a 0), .int p0, .int p1])).length) Slot.unset).toArray = ls at hl ⊢
  exact wX7_place ⟨B.exec, B.bytes, hml, findClass_of_methodNamed B.named, fun w hw => atoms_spec (ws := .code yX7_place cX7_place 7 (some .int) :: wsL_law) B.pre w (List.mem_cons_of_mem _ hw), B.returns, B.notSynchronized, hK, hDis, hN⟩ out p0 p1 σ s.heap [] ls ⟨hP, va_S.rf⟩ hl h
theorem kX7_place (Cx : ms_C p s m args meth c D cA a shX cc nL own ret) {σ : Mm} {H : Heap} {locs : List Loc} (hI : ms_I D cA a shX s σ H locs) {p0 : Int32} {p1 : Int32} {out : Int32 × Mm} (h : fX7_place p0 p1 σ = some out) (hl : Cond.methodLink own idx yX7_place ∈ wsL_law) (hf : 5 + 1 ≤ R.frames) (hlo : 8 + (7 + 11) + 119 ≤ R.locals) (hsz : ls.size = nL) (hW : (rest.map fun v => v.category).sum ≤ 8) (hd : decode cc pc = .ok (.invokevirtual idx, 3)) (kk : ∀ (H1 : Heap) (locs1 : List Loc), ms_I D cA a shX s out.2 H1 locs1 → W p l e R s m args below meth c H1 locs1 0 0 Q (F0 m (pc + 3) ls (.int out.1 :: rest))) : W p l e R s m args below meth c H locs 0 0 Q (F0 m pc ls (.int p1 :: .int p0 :: .ref (a 0) :: rest)) :=
  ms_ci hI (ms_runV (av := [.int p0, .int p1]) Cx hI 0 shX_0 (ci := 7) rfl rfl yvX7_place (metX7_place l Cx.2.2.2.2.2.2.2.2.1  h) ⟨rfl, rfl⟩ hl ⟨hf, hlo⟩ rfl hsz rfl hW ⟨Nat.zero_le _, Nat.zero_le _⟩ hd) kk
/-! X7 waitingBits ()I -/
theorem dX7_waitingBits_0 : decode cX7_waitingBits 0 = .ok (.iconst 1, 1) := by decide +kernel
theorem dX7_waitingBits_1 : decode cX7_waitingBits 1 = .ok (.aload_n 0, 1) := by decide +kernel
theorem dX7_waitingBits_2 : decode cX7_waitingBits 2 = .ok (.getfield 12, 3) := by decide +kernel
theorem dX7_waitingBits_5 : decode cX7_waitingBits 5 = .ok (.getfield 190, 3) := by decide +kernel
theorem dX7_waitingBits_8 : decode cX7_waitingBits 8 = .ok (.ishl, 1) := by decide +kernel
theorem dX7_waitingBits_9 : decode cX7_waitingBits 9 = .ok (.iconst 1, 1) := by decide +kernel
theorem dX7_waitingBits_10 : decode cX7_waitingBits 10 = .ok (.isub, 1) := by decide +kernel
theorem dX7_waitingBits_11 : decode cX7_waitingBits 11 = .ok (.aload_n 0, 1) := by decide +kernel
theorem dX7_waitingBits_12 : decode cX7_waitingBits 12 = .ok (.getfield 12, 3) := by decide +kernel
theorem dX7_waitingBits_15 : decode cX7_waitingBits 15 = .ok (.invokevirtual 297, 3) := by decide +kernel
theorem dX7_waitingBits_18 : decode cX7_waitingBits 18 = .ok (.iconst (-1), 1) := by decide +kernel
theorem dX7_waitingBits_19 : decode cX7_waitingBits 19 = .ok (.ixor, 1) := by decide +kernel
theorem dX7_waitingBits_20 : decode cX7_waitingBits 20 = .ok (.iand, 1) := by decide +kernel
theorem dX7_waitingBits_21 : decode cX7_waitingBits 21 = .ok (.aload_n 0, 1) := by decide +kernel
theorem dX7_waitingBits_22 : decode cX7_waitingBits 22 = .ok (.getfield 31, 3) := by decide +kernel
theorem dX7_waitingBits_25 : decode cX7_waitingBits 25 = .ok (.iconst (-1), 1) := by decide +kernel
theorem dX7_waitingBits_26 : decode cX7_waitingBits 26 = .ok (.ixor, 1) := by decide +kernel
theorem dX7_waitingBits_27 : decode cX7_waitingBits 27 = .ok (.iand, 1) := by decide +kernel
theorem dX7_waitingBits_28 : decode cX7_waitingBits 28 = .ok (.ireturn, 1) := by decide +kernel
abbrev rmX7_waitingBits : Room := { frames := 2, cells := 0, slots := 0, locals := 44 }
set_option maxHeartbeats 4000000 in
set_option maxRecDepth 100000 in
theorem wX7_waitingBits (Cx : ms_C p s m args meth c D cA a shX cX7_waitingBits 1 RX7 (some .int)) (out : Int32) {σ : Mm} : ∀ (H : Heap) (locs : List Loc) (ls : Array Slot), ms_I D cA a shX s σ H locs → lv_has ls 1 [(0, .ref (a 0))] → fX7_waitingBits σ = some out → W p l e rmX7_waitingBits s m args below meth c H locs 0 0 (MQ below (ms_Qi D cA a shX out σ) args s 0 0 (ms_A a shX.length)) (F0 m 0 ls []) := by
  have hx := Cx.1
  have hb := Cx.2.1
  intro H locs ls hI hl h
  unfold fX7_waitingBits at h
  refine lv_iconst (v := 1) hx hb dX7_waitingBits_0 rfl ?_
  refine lv_aload_n hx hb dX7_waitingBits_1 rfl (lv_at hl 0 rfl) ?_
  refine gr_X7_0 Cx hI wd_1_15 dX7_waitingBits_2 ?_
  refine gi_X4_4 Cx hI wd_21_11 dX7_waitingBits_5 ?_
  refine lv_ishl hx hb dX7_waitingBits_8 ?_
  refine lv_iconst (v := 1) hx hb dX7_waitingBits_9 rfl ?_
  refine lv_isub hx hb dX7_waitingBits_10 ?_
  refine lv_aload_n hx hb dX7_waitingBits_11 rfl (lv_at hl 0 rfl) ?_
  refine gr_X7_0 Cx hI wd_1_15 dX7_waitingBits_12 ?_
  obtain ⟨r2, hc1, h⟩ := ms_bdE h
  refine kX4_mustBits Cx hI hc1 wd_30_13 (Nat.le_of_ble_eq_true rfl) (Nat.le_of_ble_eq_true rfl) hl.1 (Nat.le_of_ble_eq_true rfl) dX7_waitingBits_15 (fun H locs hI => ?_)
  refine lv_iconst (v := -1) hx hb dX7_waitingBits_18 rfl ?_
  refine lv_ixor hx hb dX7_waitingBits_19 ?_
  refine lv_iand hx hb dX7_waitingBits_20 ?_
  refine lv_aload_n hx hb dX7_waitingBits_21 rfl (lv_at hl 0 rfl) ?_
  refine gi_X7_3 Cx hI wd_2_2 dX7_waitingBits_22 ?_
  refine lv_iconst (v := -1) hx hb dX7_waitingBits_25 rfl ?_
  refine lv_ixor hx hb dX7_waitingBits_26 ?_
  refine lv_iand hx hb dX7_waitingBits_27 ?_
  exact ms_ri Cx hI (Option.some.inj h) rfl dX7_waitingBits_28
theorem yvX7_waitingBits : ms_YV yX7_waitingBits RX7 cX7_waitingBits 1 (some .int) 0 := ⟨wd_30_10, wd_30_11, wd_1_2, wd_30_12, rfl, by decide +kernel, by decide +kernel, by decide +kernel⟩
set_option maxHeartbeats 4000000 in
theorem metX7_waitingBits (l : Launch) (hDis : ms_Dis a shX.length) {σ : Mm} {out : Int32} (h : fX7_waitingBits σ = some out) : Met l yX7_waitingBits (.code yX7_waitingBits cX7_waitingBits 1 (some .int) :: wsL_law) rmX7_waitingBits (ms_Pc D cA a shX [.ref (a 0)] σ) (ms_Qi D cA a shX out σ) 0 0 (ms_A a shX.length) := by
  refine Met.ofW (cc := cX7_waitingBits) (maxL := 1) (ret := (some .int)) (by decide) rfl ?_
  intro p e s m args below meth c s₁ B hml hv
  obtain ⟨rfl, hK, hN, hP⟩ := hv
  have hl := lv_entry ([.ref (a 0)]) (n := 1) (Nat.le_of_ble_eq_true rfl)
  rw [lg_entry_eq]
  generalize (lg_sl ([.ref (a 0)]) ++ List.replicate (1 - (lg_sl ([.ref (a 0)])).length) Slot.unset).toArray = ls at hl ⊢
  exact wX7_waitingBits ⟨B.exec, B.bytes, hml, findClass_of_methodNamed B.named, fun w hw => atoms_spec (ws := .code yX7_waitingBits cX7_waitingBits 1 (some .int) :: wsL_law) B.pre w (List.mem_cons_of_mem _ hw), B.returns, B.notSynchronized, hK, hDis, hN⟩ out  s.heap [] ls ⟨hP, va_S.rf⟩ hl h
theorem kX7_waitingBits (Cx : ms_C p s m args meth c D cA a shX cc nL own ret) {σ : Mm} {H : Heap} {locs : List Loc} (hI : ms_I D cA a shX s σ H locs) {out : Int32} (h : fX7_waitingBits σ = some out) (hl : Cond.methodLink own idx yX7_waitingBits ∈ wsL_law) (hf : 2 + 1 ≤ R.frames) (hlo : 8 + (1 + 11) + 44 ≤ R.locals) (hsz : ls.size = nL) (hW : (rest.map fun v => v.category).sum ≤ 8) (hd : decode cc pc = .ok (.invokevirtual idx, 3)) (kk : ∀ (H1 : Heap) (locs1 : List Loc), ms_I D cA a shX s σ H1 locs1 → W p l e R s m args below meth c H1 locs1 0 0 Q (F0 m (pc + 3) ls (.int out :: rest))) : W p l e R s m args below meth c H locs 0 0 Q (F0 m pc ls (.ref (a 0) :: rest)) :=
  ms_ci hI (ms_runV (av := []) Cx hI 0 shX_0 (ci := 7) rfl rfl yvX7_waitingBits (metX7_waitingBits l Cx.2.2.2.2.2.2.2.2.1  h) ⟨rfl, rfl⟩ hl ⟨hf, hlo⟩ rfl hsz rfl hW ⟨Nat.zero_le _, Nat.zero_le _⟩ hd) kk
/-! X7 best (I)I -/
theorem dX7_best_0 : decode cX7_best 0 = .ok (.iload_n 1, 1) := by decide +kernel
theorem dX7_best_1 : decode cX7_best 1 = .ok (.iconst (-1), 1) := by decide +kernel
theorem dX7_best_2 : decode cX7_best 2 = .ok (.if_icmp .eq 23, 3) := by decide +kernel
theorem dX7_best_5 : decode cX7_best 5 = .ok (.iload_n 1, 1) := by decide +kernel
theorem dX7_best_6 : decode cX7_best 6 = .ok (.bipush (-2), 2) := by decide +kernel
theorem dX7_best_8 : decode cX7_best 8 = .ok (.if_icmp .eq 17, 3) := by decide +kernel
theorem dX7_best_11 : decode cX7_best 11 = .ok (.aload_n 0, 1) := by decide +kernel
theorem dX7_best_12 : decode cX7_best 12 = .ok (.getfield 12, 3) := by decide +kernel
theorem dX7_best_15 : decode cX7_best 15 = .ok (.iload_n 1, 1) := by decide +kernel
theorem dX7_best_16 : decode cX7_best 16 = .ok (.invokevirtual 102, 3) := by decide +kernel
theorem dX7_best_19 : decode cX7_best 19 = .ok (.ifCond .ne 6, 3) := by decide +kernel
theorem dX7_best_22 : decode cX7_best 22 = .ok (.bipush (-2), 2) := by decide +kernel
theorem dX7_best_24 : decode cX7_best 24 = .ok (.ireturn, 1) := by decide +kernel
theorem dX7_best_25 : decode cX7_best 25 = .ok (.aload_n 0, 1) := by decide +kernel
theorem dX7_best_26 : decode cX7_best 26 = .ok (.invokevirtual 208, 3) := by decide +kernel
theorem dX7_best_29 : decode cX7_best 29 = .ok (.istore_n 2, 1) := by decide +kernel
theorem dX7_best_30 : decode cX7_best 30 = .ok (.iload_n 2, 1) := by decide +kernel
theorem dX7_best_31 : decode cX7_best 31 = .ok (.invokestatic 193, 3) := by decide +kernel
theorem dX7_best_34 : decode cX7_best 34 = .ok (.iconst 3, 1) := by decide +kernel
theorem dX7_best_35 : decode cX7_best 35 = .ok (.if_icmp .le 6, 3) := by decide +kernel
theorem dX7_best_38 : decode cX7_best 38 = .ok (.bipush (-4), 2) := by decide +kernel
theorem dX7_best_40 : decode cX7_best 40 = .ok (.ireturn, 1) := by decide +kernel
theorem dX7_best_41 : decode cX7_best 41 = .ok (.iload_n 1, 1) := by decide +kernel
theorem dX7_best_42 : decode cX7_best 42 = .ok (.ifCond .lt 14, 3) := by decide +kernel
theorem dX7_best_45 : decode cX7_best 45 = .ok (.iload_n 2, 1) := by decide +kernel
theorem dX7_best_46 : decode cX7_best 46 = .ok (.iload_n 1, 1) := by decide +kernel
theorem dX7_best_47 : decode cX7_best 47 = .ok (.invokestatic 106, 3) := by decide +kernel
theorem dX7_best_50 : decode cX7_best 50 = .ok (.ifCond .ne 6, 3) := by decide +kernel
theorem dX7_best_53 : decode cX7_best 53 = .ok (.bipush (-3), 2) := by decide +kernel
theorem dX7_best_55 : decode cX7_best 55 = .ok (.ireturn, 1) := by decide +kernel
theorem dX7_best_56 : decode cX7_best 56 = .ok (.aload_n 0, 1) := by decide +kernel
theorem dX7_best_57 : decode cX7_best 57 = .ok (.getfield 61, 3) := by decide +kernel
theorem dX7_best_60 : decode cX7_best 60 = .ok (.getfield 212, 3) := by decide +kernel
theorem dX7_best_63 : decode cX7_best 63 = .ok (.ifCond .ne 34, 3) := by decide +kernel
theorem dX7_best_66 : decode cX7_best 66 = .ok (.aload_n 0, 1) := by decide +kernel
theorem dX7_best_67 : decode cX7_best 67 = .ok (.aload_n 0, 1) := by decide +kernel
theorem dX7_best_68 : decode cX7_best 68 = .ok (.getfield 12, 3) := by decide +kernel
theorem dX7_best_71 : decode cX7_best 71 = .ok (.getfield 113, 3) := by decide +kernel
theorem dX7_best_74 : decode cX7_best 74 = .ok (.aload_n 0, 1) := by decide +kernel
theorem dX7_best_75 : decode cX7_best 75 = .ok (.getfield 31, 3) := by decide +kernel
theorem dX7_best_78 : decode cX7_best 78 = .ok (.invokevirtual 198, 3) := by decide +kernel
theorem dX7_best_81 : decode cX7_best 81 = .ok (.aload_n 0, 1) := by decide +kernel
theorem dX7_best_82 : decode cX7_best 82 = .ok (.getfield 61, 3) := by decide +kernel
theorem dX7_best_85 : decode cX7_best 85 = .ok (.aload_n 0, 1) := by decide +kernel
theorem dX7_best_86 : decode cX7_best 86 = .ok (.getfield 47, 3) := by decide +kernel
theorem dX7_best_89 : decode cX7_best 89 = .ok (.aload_n 0, 1) := by decide +kernel
theorem dX7_best_90 : decode cX7_best 90 = .ok (.getfield 12, 3) := by decide +kernel
theorem dX7_best_93 : decode cX7_best 93 = .ok (.iload_n 2, 1) := by decide +kernel
theorem dX7_best_94 : decode cX7_best 94 = .ok (.invokevirtual 215, 3) := by decide +kernel
theorem dX7_best_97 : decode cX7_best 97 = .ok (.iload_n 1, 1) := by decide +kernel
theorem dX7_best_98 : decode cX7_best 98 = .ok (.iconst (-1), 1) := by decide +kernel
theorem dX7_best_99 : decode cX7_best 99 = .ok (.if_icmp .ne 11, 3) := by decide +kernel
theorem dX7_best_102 : decode cX7_best 102 = .ok (.aload_n 0, 1) := by decide +kernel
theorem dX7_best_103 : decode cX7_best 103 = .ok (.getfield 61, 3) := by decide +kernel
theorem dX7_best_106 : decode cX7_best 106 = .ok (.getfield 219, 3) := by decide +kernel
theorem dX7_best_109 : decode cX7_best 109 = .ok (.ireturn, 1) := by decide +kernel
theorem dX7_best_110 : decode cX7_best 110 = .ok (.iload_n 1, 1) := by decide +kernel
theorem dX7_best_111 : decode cX7_best 111 = .ok (.bipush (-2), 2) := by decide +kernel
theorem dX7_best_113 : decode cX7_best 113 = .ok (.if_icmp .ne 13, 3) := by decide +kernel
theorem dX7_best_116 : decode cX7_best 116 = .ok (.aload_n 0, 1) := by decide +kernel
theorem dX7_best_117 : decode cX7_best 117 = .ok (.getfield 61, 3) := by decide +kernel
theorem dX7_best_120 : decode cX7_best 120 = .ok (.getfield 222, 3) := by decide +kernel
theorem dX7_best_123 : decode cX7_best 123 = .ok (.goto 11, 3) := by decide +kernel
theorem dX7_best_126 : decode cX7_best 126 = .ok (.aload_n 0, 1) := by decide +kernel
theorem dX7_best_127 : decode cX7_best 127 = .ok (.getfield 61, 3) := by decide +kernel
theorem dX7_best_130 : decode cX7_best 130 = .ok (.iload_n 1, 1) := by decide +kernel
theorem dX7_best_131 : decode cX7_best 131 = .ok (.invokevirtual 225, 3) := by decide +kernel
theorem dX7_best_134 : decode cX7_best 134 = .ok (.ireturn, 1) := by decide +kernel
abbrev rmX7_best : Room := { frames := 5, cells := 0, slots := 0, locals := 119 }
set_option maxHeartbeats 4000000 in
set_option maxRecDepth 100000 in
theorem wX7_best_97 (Cx : ms_C p s m args meth c D cA a shX cX7_best 3 RX7 (some .int)) (out : Int32 × Mm) : ∀ (y1 : Int32) , ∀ (σ : Mm) (H : Heap) (locs : List Loc) (ls : Array Slot), ms_I D cA a shX s σ H locs → lv_has ls 3 [(0, .ref (a 0)), (1, .int y1)] → fX7_best_97 y1 σ = some out → W p l e rmX7_best s m args below meth c H locs 0 0 (MQ below (ms_Qi D cA a shX out.1 out.2) args s 0 0 (ms_A a shX.length)) (F0 m 97 ls []) := by
  have hx := Cx.1
  have hb := Cx.2.1
  intro y1 σ H locs ls hI hl h
  unfold fX7_best_97 at h
  refine lv_iload_n hx hb dX7_best_97 rfl (lv_at hl 1 rfl) ?_
  refine lv_iconst (v := -1) hx hb dX7_best_98 rfl ?_
  refine lv_icmp_ne (tgt := 110) hx hb dX7_best_99 rfl (fun hc => ?_) (fun hc => ?_)
  · have h := ms_ifF hc h
    refine lv_iload_n hx hb dX7_best_110 rfl (lv_at hl 1 rfl) ?_
    refine lv_bipush (v := -2) hx hb dX7_best_111 rfl ?_
    refine lv_icmp_ne (tgt := 126) hx hb dX7_best_113 rfl (fun hc => ?_) (fun hc => ?_)
    · have h := ms_ifF hc h
      refine lv_aload_n hx hb dX7_best_126 rfl (lv_at hl 0 rfl) ?_
      refine gr_X7_7 Cx hI wd_2_18 dX7_best_127 ?_
      refine lv_iload_n hx hb dX7_best_130 rfl (lv_at hl 1 rfl) ?_
      obtain ⟨r2, hc1, h⟩ := ms_bdE h
      refine kX1_shiftOf Cx hI hc1 wd_31_20 (Nat.le_of_ble_eq_true rfl) (Nat.le_of_ble_eq_true rfl) hl.1 (Nat.le_of_ble_eq_true rfl) dX7_best_131 (fun H locs hI => ?_)
      exact ms_riw Cx hI h dX7_best_134
    · have h := ms_ifT hc h
      refine lv_aload_n hx hb dX7_best_116 rfl (lv_at hl 0 rfl) ?_
      refine gr_X7_7 Cx hI wd_2_18 dX7_best_117 ?_
      refine gi_X1_6 Cx hI wd_30_8 dX7_best_120 ?_
      refine lv_goto (tgt := 134) hx hb dX7_best_123 rfl ?_
      exact ms_riw Cx hI h dX7_best_134
  · have h := ms_ifT hc h
    refine lv_aload_n hx hb dX7_best_102 rfl (lv_at hl 0 rfl) ?_
    refine gr_X7_7 Cx hI wd_2_18 dX7_best_103 ?_
    refine gi_X1_5 Cx hI wd_30_7 dX7_best_106 ?_
    exact ms_riw Cx hI h dX7_best_109
set_option maxHeartbeats 4000000 in
set_option maxRecDepth 100000 in
theorem wX7_best_56 (Cx : ms_C p s m args meth c D cA a shX cX7_best 3 RX7 (some .int)) (out : Int32 × Mm) : ∀ (y1 : Int32) (y2 : Int32) , ∀ (σ : Mm) (H : Heap) (locs : List Loc) (ls : Array Slot), ms_I D cA a shX s σ H locs → lv_has ls 3 [(0, .ref (a 0)), (1, .int y1), (2, .int y2)] → fX7_best_56 y1 y2 σ = some out → W p l e rmX7_best s m args below meth c H locs 0 0 (MQ below (ms_Qi D cA a shX out.1 out.2) args s 0 0 (ms_A a shX.length)) (F0 m 56 ls []) := by
  have hx := Cx.1
  have hb := Cx.2.1
  intro y1 y2 σ H locs ls hI hl h
  unfold fX7_best_56 at h
  refine lv_aload_n hx hb dX7_best_56 rfl (lv_at hl 0 rfl) ?_
  refine gr_X7_7 Cx hI wd_2_18 dX7_best_57 ?_
  refine gi_X1_7 Cx hI wd_10_13 dX7_best_60 ?_
  refine lv_if_ne (tgt := 97) hx hb dX7_best_63 rfl (fun hc => ?_) (fun hc => ?_)
  · have h := ms_ifF hc h
    exact wX7_best_97 Cx out  y1 σ _ _ _ hI (lv_sub hl [0, 1] rfl) h
  · have h := ms_ifT hc h
    refine lv_aload_n hx hb dX7_best_66 rfl (lv_at hl 0 rfl) ?_
    refine lv_aload_n hx hb dX7_best_67 rfl (lv_at hl 0 rfl) ?_
    refine gr_X7_0 Cx hI wd_1_15 dX7_best_68 ?_
    refine gi_X4_6 Cx hI wd_14_11 dX7_best_71 ?_
    refine lv_aload_n hx hb dX7_best_74 rfl (lv_at hl 0 rfl) ?_
    refine gi_X7_3 Cx hI wd_2_2 dX7_best_75 ?_
    obtain ⟨σ2, hc1, h⟩ := ms_bdE h
    refine kX7_makeReady Cx hI hc1 wd_21_7 (Nat.le_of_ble_eq_true rfl) (Nat.le_of_ble_eq_true rfl) hl.1 (Nat.le_of_ble_eq_true rfl) dX7_best_78 (fun H locs hI => ?_)
    refine lv_aload_n hx hb dX7_best_81 rfl (lv_at hl 0 rfl) ?_
    refine gr_X7_7 Cx hI wd_2_18 dX7_best_82 ?_
    refine lv_aload_n hx hb dX7_best_85 rfl (lv_at hl 0 rfl) ?_
    refine gr_X7_5 Cx hI wd_2_10 dX7_best_86 ?_
    refine lv_aload_n hx hb dX7_best_89 rfl (lv_at hl 0 rfl) ?_
    refine gr_X7_0 Cx hI wd_1_15 dX7_best_90 ?_
    refine lv_iload_n hx hb dX7_best_93 rfl (lv_at hl 2 rfl) ?_
    obtain ⟨σ4, hc3, h⟩ := ms_bdE h
    refine kX1_search Cx hI hc3 wd_30_17 (Nat.le_of_ble_eq_true rfl) (Nat.le_of_ble_eq_true rfl) hl.1 (Nat.le_of_ble_eq_true rfl) dX7_best_94 (fun H locs hI => ?_)
    exact wX7_best_97 Cx out  y1 σ4 _ _ _ hI (lv_sub hl [0, 1] rfl) h
set_option maxHeartbeats 4000000 in
set_option maxRecDepth 100000 in
theorem wX7_best_25 (Cx : ms_C p s m args meth c D cA a shX cX7_best 3 RX7 (some .int)) (out : Int32 × Mm) : ∀ (y1 : Int32) , ∀ (σ : Mm) (H : Heap) (locs : List Loc) (ls : Array Slot), ms_I D cA a shX s σ H locs → lv_has ls 3 [(0, .ref (a 0)), (1, .int y1)] → fX7_best_25 y1 σ = some out → W p l e rmX7_best s m args below meth c H locs 0 0 (MQ below (ms_Qi D cA a shX out.1 out.2) args s 0 0 (ms_A a shX.length)) (F0 m 25 ls []) := by
  have hx := Cx.1
  have hb := Cx.2.1
  intro y1 σ H locs ls hI hl h
  unfold fX7_best_25 at h
  refine lv_aload_n hx hb dX7_best_25 rfl (lv_at hl 0 rfl) ?_
  obtain ⟨r2, hc1, h⟩ := ms_bdE h
  refine kX7_waitingBits Cx hI hc1 wd_30_9 (Nat.le_of_ble_eq_true rfl) (Nat.le_of_ble_eq_true rfl) hl.1 (Nat.le_of_ble_eq_true rfl) dX7_best_26 (fun H locs hI => ?_)
  refine lv_istore_n (lv' := [(2, .int r2), (0, .ref (a 0)), (1, .int y1)]) hx hb dX7_best_29 rfl hl (by decide) rfl (fun ls hl => ?_)
  refine lv_iload_n hx hb dX7_best_30 rfl (lv_at hl 0 rfl) ?_
  obtain ⟨r4, hc3, h⟩ := ms_bdE h
  refine kJ6_bitCount_0f7a4 Cx hI hc3 (Or.inl wd_28_11) (Nat.le_of_ble_eq_true rfl) (Nat.le_of_ble_eq_true rfl) hl.1 (Nat.le_of_ble_eq_true rfl) dX7_best_31 (fun H locs hI => ?_)
  refine lv_iconst (v := 3) hx hb dX7_best_34 rfl ?_
  refine lv_icmp_le (tgt := 41) hx hb dX7_best_35 rfl (fun hc => ?_) (fun hc => ?_)
  · have h := ms_ifT hc h
    refine lv_iload_n hx hb dX7_best_41 rfl (lv_at hl 2 rfl) ?_
    refine lv_if_lt (tgt := 56) hx hb dX7_best_42 rfl (fun hc => ?_) (fun hc => ?_)
    · have h := ms_ifT hc h
      exact wX7_best_56 Cx out  y1 r2 σ _ _ _ hI (lv_sub hl [1, 2, 0] rfl) h
    · have h := ms_ifF hc h
      refine lv_iload_n hx hb dX7_best_45 rfl (lv_at hl 0 rfl) ?_
      refine lv_iload_n hx hb dX7_best_46 rfl (lv_at hl 2 rfl) ?_
      obtain ⟨r6, hc5, h⟩ := ms_bdE h
      refine kX7_bit Cx hI hc5 (Or.inl wd_13_14) (Nat.le_of_ble_eq_true rfl) (Nat.le_of_ble_eq_true rfl) hl.1 (Nat.le_of_ble_eq_true rfl) dX7_best_47 (fun H locs hI => ?_)
      refine lv_if_ne (tgt := 56) hx hb dX7_best_50 rfl (fun hc => ?_) (fun hc => ?_)
      · have h := ms_ifF hc h
        exact wX7_best_56 Cx out  y1 r2 σ _ _ _ hI (lv_sub hl [1, 2, 0] rfl) h
      · have h := ms_ifT hc h
        refine lv_bipush (v := -3) hx hb dX7_best_53 rfl ?_
        exact ms_riw Cx hI h dX7_best_55
  · have h := ms_ifF hc h
    refine lv_bipush (v := -4) hx hb dX7_best_38 rfl ?_
    exact ms_riw Cx hI h dX7_best_40
set_option maxHeartbeats 4000000 in
set_option maxRecDepth 100000 in
theorem wX7_best (Cx : ms_C p s m args meth c D cA a shX cX7_best 3 RX7 (some .int)) (out : Int32 × Mm) : ∀ (p0 : Int32) , ∀ (σ : Mm) (H : Heap) (locs : List Loc) (ls : Array Slot), ms_I D cA a shX s σ H locs → lv_has ls 3 [(0, .ref (a 0)), (1, .int p0)] → fX7_best p0 σ = some out → W p l e rmX7_best s m args below meth c H locs 0 0 (MQ below (ms_Qi D cA a shX out.1 out.2) args s 0 0 (ms_A a shX.length)) (F0 m 0 ls []) := by
  have hx := Cx.1
  have hb := Cx.2.1
  intro p0 σ H locs ls hI hl h
  unfold fX7_best at h
  refine lv_iload_n hx hb dX7_best_0 rfl (lv_at hl 1 rfl) ?_
  refine lv_iconst (v := -1) hx hb dX7_best_1 rfl ?_
  refine lv_icmp_eq (tgt := 25) hx hb dX7_best_2 rfl (fun hc => ?_) (fun hc => ?_)
  · have h := ms_ifT hc h
    exact wX7_best_25 Cx out  p0 σ _ _ _ hI (lv_sub hl [0, 1] rfl) h
  · have h := ms_ifF hc h
    refine lv_iload_n hx hb dX7_best_5 rfl (lv_at hl 1 rfl) ?_
    refine lv_bipush (v := -2) hx hb dX7_best_6 rfl ?_
    refine lv_icmp_eq (tgt := 25) hx hb dX7_best_8 rfl (fun hc => ?_) (fun hc => ?_)
    · have h := ms_ifT hc h
      exact wX7_best_25 Cx out  p0 σ _ _ _ hI (lv_sub hl [0, 1] rfl) h
    · have h := ms_ifF hc h
      refine lv_aload_n hx hb dX7_best_11 rfl (lv_at hl 0 rfl) ?_
      refine gr_X7_0 Cx hI wd_1_15 dX7_best_12 ?_
      refine lv_iload_n hx hb dX7_best_15 rfl (lv_at hl 1 rfl) ?_
      obtain ⟨r2, hc1, h⟩ := ms_bdE h
      refine kX4_hasThing Cx hI hc1 wd_13_10 (Nat.le_of_ble_eq_true rfl) (Nat.le_of_ble_eq_true rfl) hl.1 (Nat.le_of_ble_eq_true rfl) dX7_best_16 (fun H locs hI => ?_)
      refine lv_if_ne (tgt := 25) hx hb dX7_best_19 rfl (fun hc => ?_) (fun hc => ?_)
      · have h := ms_ifF hc h
        exact wX7_best_25 Cx out  p0 σ _ _ _ hI (lv_sub hl [0, 1] rfl) h
      · have h := ms_ifT hc h
        refine lv_bipush (v := -2) hx hb dX7_best_22 rfl ?_
        exact ms_riw Cx hI h dX7_best_24
theorem yvX7_best : ms_YV yX7_best RX7 cX7_best 3 (some .int) 1 := ⟨wd_30_4, wd_30_5, wd_1_2, wd_30_6, rfl, by decide +kernel, by decide +kernel, by decide +kernel⟩
set_option maxHeartbeats 4000000 in
theorem metX7_best (l : Launch) (hDis : ms_Dis a shX.length) {σ : Mm} {p0 : Int32} {out : Int32 × Mm} (h : fX7_best p0 σ = some out) : Met l yX7_best (.code yX7_best cX7_best 3 (some .int) :: wsL_law) rmX7_best (ms_Pc D cA a shX [.ref (a 0), .int p0] σ) (ms_Qi D cA a shX out.1 out.2) 0 0 (ms_A a shX.length) := by
  refine Met.ofW (cc := cX7_best) (maxL := 3) (ret := (some .int)) (by decide) rfl ?_
  intro p e s m args below meth c s₁ B hml hv
  obtain ⟨rfl, hK, hN, hP⟩ := hv
  have hl := lv_entry ([.ref (a 0), .int p0]) (n := 3) (Nat.le_of_ble_eq_true rfl)
  rw [lg_entry_eq]
  generalize (lg_sl ([.ref (a 0), .int p0]) ++ List.replicate (3 - (lg_sl ([.ref (a 0), .int p0])).length) Slot.unset).toArray = ls at hl ⊢
  exact wX7_best ⟨B.exec, B.bytes, hml, findClass_of_methodNamed B.named, fun w hw => atoms_spec (ws := .code yX7_best cX7_best 3 (some .int) :: wsL_law) B.pre w (List.mem_cons_of_mem _ hw), B.returns, B.notSynchronized, hK, hDis, hN⟩ out p0 σ s.heap [] ls ⟨hP, va_S.rf⟩ hl h
theorem kX7_best (Cx : ms_C p s m args meth c D cA a shX cc nL own ret) {σ : Mm} {H : Heap} {locs : List Loc} (hI : ms_I D cA a shX s σ H locs) {p0 : Int32} {out : Int32 × Mm} (h : fX7_best p0 σ = some out) (hl : Cond.methodLink own idx yX7_best ∈ wsL_law) (hf : 5 + 1 ≤ R.frames) (hlo : 8 + (3 + 11) + 119 ≤ R.locals) (hsz : ls.size = nL) (hW : (rest.map fun v => v.category).sum ≤ 8) (hd : decode cc pc = .ok (.invokevirtual idx, 3)) (kk : ∀ (H1 : Heap) (locs1 : List Loc), ms_I D cA a shX s out.2 H1 locs1 → W p l e R s m args below meth c H1 locs1 0 0 Q (F0 m (pc + 3) ls (.int out.1 :: rest))) : W p l e R s m args below meth c H locs 0 0 Q (F0 m pc ls (.int p0 :: .ref (a 0) :: rest)) :=
  ms_ci hI (ms_runV (av := [.int p0]) Cx hI 0 shX_0 (ci := 7) rfl rfl yvX7_best (metX7_best l Cx.2.2.2.2.2.2.2.2.1  h) ⟨rfl, rfl⟩ hl ⟨hf, hlo⟩ rfl hsz rfl hW ⟨Nat.zero_le _, Nat.zero_le _⟩ hd) kk
end WK
