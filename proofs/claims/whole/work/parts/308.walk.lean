section WK
variable {p : Program} {l : Launch} {e : Env} {R : Room} {s : State} {m : MethodId} {args : Array Value} {below : List Frame} {meth : Method} {c : Code} {Q : State → Prop}
variable {D : va_G} {cA : Nat → ClassId} {a : Nat → Nat} {cc : ByteArray} {nL idx : Nat} {own : String} {ret : Option FieldType} {pc : Nat} {ls : Array Slot} {rest : List Value}
/-! X8 toil (I)I -/
theorem dX8_toil_0 : decode cX8_toil 0 = .ok (.iload_n 1, 1) := by decide +kernel
theorem dX8_toil_1 : decode cX8_toil 1 = .ok (.iconst 0, 1) := by decide +kernel
theorem dX8_toil_2 : decode cX8_toil 2 = .ok (.iconst 1, 1) := by decide +kernel
theorem dX8_toil_3 : decode cX8_toil 3 = .ok (.invokestatic 95, 3) := by decide +kernel
theorem dX8_toil_6 : decode cX8_toil 6 = .ok (.ifCond .eq 11, 3) := by decide +kernel
theorem dX8_toil_9 : decode cX8_toil 9 = .ok (.aload_n 0, 1) := by decide +kernel
theorem dX8_toil_10 : decode cX8_toil 10 = .ok (.iload_n 1, 1) := by decide +kernel
theorem dX8_toil_11 : decode cX8_toil 11 = .ok (.invokevirtual 175, 3) := by decide +kernel
theorem dX8_toil_14 : decode cX8_toil 14 = .ok (.goto 5, 3) := by decide +kernel
theorem dX8_toil_17 : decode cX8_toil 17 = .ok (.bipush (-2), 2) := by decide +kernel
theorem dX8_toil_19 : decode cX8_toil 19 = .ok (.ireturn, 1) := by decide +kernel
abbrev rmX8_toil : Room := { frames := 8, cells := 0, slots := 0, locals := 180 }
set_option maxHeartbeats 4000000 in
set_option maxRecDepth 100000 in
theorem wX8_toil (Cx : ms_C p s m args meth c D cA a shM cX8_toil 2 RX8 (some .int)) (out : Int32 × Mm) : ∀ (p0 : Int32) , ∀ (σ : Mm) (H : Heap) (locs : List Loc) (ls : Array Slot), ms_I D cA a shM s σ H locs → lv_has ls 2 [(0, .ref (a 0)), (1, .int p0)] → fX8_toil p0 σ = some out → W p l e rmX8_toil s m args below meth c H locs 0 0 (MQ below (ms_Qi D cA a shM out.1 out.2) args s 0 0 (ms_A a shM.length)) (F0 m 0 ls []) := by
  have hx := Cx.1
  have hb := Cx.2.1
  intro p0 σ H locs ls hI hl h
  unfold fX8_toil at h
  refine lv_iload_n hx hb dX8_toil_0 rfl (lv_at hl 1 rfl) ?_
  refine lv_iconst (v := 0) hx hb dX8_toil_1 rfl ?_
  refine lv_iconst (v := 1) hx hb dX8_toil_2 rfl ?_
  obtain ⟨r2, hc1, h⟩ := ms_bdE h
  refine kX8_in Cx hI hc1 (Or.inl wd_10_20) (Nat.le_of_ble_eq_true rfl) (Nat.le_of_ble_eq_true rfl) hl.1 (Nat.le_of_ble_eq_true rfl) dX8_toil_3 (fun H locs hI => ?_)
  refine lv_if_eq (tgt := 17) hx hb dX8_toil_6 rfl (fun hc => ?_) (fun hc => ?_)
  · have h := ms_ifT hc h
    refine lv_bipush (v := -2) hx hb dX8_toil_17 rfl ?_
    exact ms_riw Cx hI h dX8_toil_19
  · have h := ms_ifF hc h
    refine lv_aload_n hx hb dX8_toil_9 rfl (lv_at hl 0 rfl) ?_
    refine lv_iload_n hx hb dX8_toil_10 rfl (lv_at hl 1 rfl) ?_
    obtain ⟨⟨r4, σ5⟩, hc3, h⟩ := ms_bdE h
    refine kX8_toilOf Cx hI hc3 wd_19_18 (Nat.le_of_ble_eq_true rfl) (Nat.le_of_ble_eq_true rfl) hl.1 (Nat.le_of_ble_eq_true rfl) dX8_toil_11 (fun H locs hI => ?_)
    refine lv_goto (tgt := 19) hx hb dX8_toil_14 rfl ?_
    exact ms_riw Cx hI h dX8_toil_19
theorem yvX8_toil : ms_YV yX8_toil RX8 cX8_toil 2 (some .int) 1 := ⟨wd_19_15, wd_19_16, wd_1_5, wd_19_17, rfl, by decide +kernel, by decide +kernel, by decide +kernel⟩
set_option maxHeartbeats 4000000 in
theorem metX8_toil (l : Launch) (hDis : ms_Dis a shM.length) {σ : Mm} {p0 : Int32} {out : Int32 × Mm} (h : fX8_toil p0 σ = some out) : Met l yX8_toil (.code yX8_toil cX8_toil 2 (some .int) :: wsL_law) rmX8_toil (ms_Pc D cA a shM [.ref (a 0), .int p0] σ) (ms_Qi D cA a shM out.1 out.2) 0 0 (ms_A a shM.length) := by
  refine Met.ofW (cc := cX8_toil) (maxL := 2) (ret := (some .int)) (by decide) rfl ?_
  intro p e s m args below meth c s₁ B hml hv
  obtain ⟨rfl, hK, hN, hP⟩ := hv
  have hl := lv_entry ([.ref (a 0), .int p0]) (n := 2) (Nat.le_of_ble_eq_true rfl)
  rw [lg_entry_eq]
  generalize (lg_sl ([.ref (a 0), .int p0]) ++ List.replicate (2 - (lg_sl ([.ref (a 0), .int p0])).length) Slot.unset).toArray = ls at hl ⊢
  exact wX8_toil ⟨B.exec, B.bytes, hml, findClass_of_methodNamed B.named, fun w hw => atoms_spec (ws := .code yX8_toil cX8_toil 2 (some .int) :: wsL_law) B.pre w (List.mem_cons_of_mem _ hw), B.returns, B.notSynchronized, hK, hDis, hN⟩ out p0 σ s.heap [] ls ⟨hP, va_S.rf⟩ hl h
theorem kX8_toil (Cx : ms_C p s m args meth c D cA a shM cc nL own ret) {σ : Mm} {H : Heap} {locs : List Loc} (hI : ms_I D cA a shM s σ H locs) {p0 : Int32} {out : Int32 × Mm} (h : fX8_toil p0 σ = some out) (hl : Cond.methodLink own idx yX8_toil ∈ wsL_law) (hf : 8 + 1 ≤ R.frames) (hlo : 8 + (2 + 11) + 180 ≤ R.locals) (hsz : ls.size = nL) (hW : (rest.map fun v => v.category).sum ≤ 8) (hd : decode cc pc = .ok (.invokevirtual idx, 3)) (kk : ∀ (H1 : Heap) (locs1 : List Loc), ms_I D cA a shM s out.2 H1 locs1 → W p l e R s m args below meth c H1 locs1 0 0 Q (F0 m (pc + 3) ls (.int out.1 :: rest))) : W p l e R s m args below meth c H locs 0 0 Q (F0 m pc ls (.int p0 :: .ref (a 0) :: rest)) :=
  ms_ci hI (ms_runV (av := [.int p0]) Cx hI 0 shM_0 (ci := 8) rfl rfl yvX8_toil (metX8_toil l Cx.2.2.2.2.2.2.2.2.1  h) ⟨rfl, rfl⟩ hl ⟨hf, hlo⟩ rfl hsz rfl hW ⟨Nat.zero_le _, Nat.zero_le _⟩ hd) kk
/-! X8 woundAt (I)I -/
theorem dX8_woundAt_0 : decode cX8_woundAt 0 = .ok (.iconst 0, 1) := by decide +kernel
theorem dX8_woundAt_1 : decode cX8_woundAt 1 = .ok (.istore_n 2, 1) := by decide +kernel
theorem dX8_woundAt_2 : decode cX8_woundAt 2 = .ok (.iconst 0, 1) := by decide +kernel
theorem dX8_woundAt_3 : decode cX8_woundAt 3 = .ok (.istore_n 3, 1) := by decide +kernel
theorem dX8_woundAt_4 : decode cX8_woundAt 4 = .ok (.iload_n 3, 1) := by decide +kernel
theorem dX8_woundAt_5 : decode cX8_woundAt 5 = .ok (.aload_n 0, 1) := by decide +kernel
theorem dX8_woundAt_6 : decode cX8_woundAt 6 = .ok (.getfield 123, 3) := by decide +kernel
theorem dX8_woundAt_9 : decode cX8_woundAt 9 = .ok (.if_icmp .ge 54, 3) := by decide +kernel
theorem dX8_woundAt_12 : decode cX8_woundAt 12 = .ok (.iload_n 2, 1) := by decide +kernel
theorem dX8_woundAt_13 : decode cX8_woundAt 13 = .ok (.aload_n 0, 1) := by decide +kernel
theorem dX8_woundAt_14 : decode cX8_woundAt 14 = .ok (.getfield 37, 3) := by decide +kernel
theorem dX8_woundAt_17 : decode cX8_woundAt 17 = .ok (.iload_n 3, 1) := by decide +kernel
theorem dX8_woundAt_18 : decode cX8_woundAt 18 = .ok (.iaload, 1) := by decide +kernel
theorem dX8_woundAt_19 : decode cX8_woundAt 19 = .ok (.iload_n 1, 1) := by decide +kernel
theorem dX8_woundAt_20 : decode cX8_woundAt 20 = .ok (.if_icmp .ne 34, 3) := by decide +kernel
theorem dX8_woundAt_23 : decode cX8_woundAt 23 = .ok (.aload_n 0, 1) := by decide +kernel
theorem dX8_woundAt_24 : decode cX8_woundAt 24 = .ok (.getfield 120, 3) := by decide +kernel
theorem dX8_woundAt_27 : decode cX8_woundAt 27 = .ok (.aload_n 0, 1) := by decide +kernel
theorem dX8_woundAt_28 : decode cX8_woundAt 28 = .ok (.iload_n 3, 1) := by decide +kernel
theorem dX8_woundAt_29 : decode cX8_woundAt 29 = .ok (.invokevirtual 172, 3) := by decide +kernel
theorem dX8_woundAt_32 : decode cX8_woundAt 32 = .ok (.invokestatic 129, 3) := by decide +kernel
theorem dX8_woundAt_35 : decode cX8_woundAt 35 = .ok (.ifCond .eq 19, 3) := by decide +kernel
theorem dX8_woundAt_38 : decode cX8_woundAt 38 = .ok (.aload_n 0, 1) := by decide +kernel
theorem dX8_woundAt_39 : decode cX8_woundAt 39 = .ok (.getfield 13, 3) := by decide +kernel
theorem dX8_woundAt_42 : decode cX8_woundAt 42 = .ok (.iconst 0, 1) := by decide +kernel
theorem dX8_woundAt_43 : decode cX8_woundAt 43 = .ok (.iaload, 1) := by decide +kernel
theorem dX8_woundAt_44 : decode cX8_woundAt 44 = .ok (.aload_n 0, 1) := by decide +kernel
theorem dX8_woundAt_45 : decode cX8_woundAt 45 = .ok (.getfield 34, 3) := by decide +kernel
theorem dX8_woundAt_48 : decode cX8_woundAt 48 = .ok (.iload_n 3, 1) := by decide +kernel
theorem dX8_woundAt_49 : decode cX8_woundAt 49 = .ok (.iaload, 1) := by decide +kernel
theorem dX8_woundAt_50 : decode cX8_woundAt 50 = .ok (.imul, 1) := by decide +kernel
theorem dX8_woundAt_51 : decode cX8_woundAt 51 = .ok (.goto 4, 3) := by decide +kernel
theorem dX8_woundAt_54 : decode cX8_woundAt 54 = .ok (.iconst 0, 1) := by decide +kernel
theorem dX8_woundAt_55 : decode cX8_woundAt 55 = .ok (.iadd, 1) := by decide +kernel
theorem dX8_woundAt_56 : decode cX8_woundAt 56 = .ok (.istore_n 2, 1) := by decide +kernel
theorem dX8_woundAt_57 : decode cX8_woundAt 57 = .ok (.iinc 3 1, 3) := by decide +kernel
theorem dX8_woundAt_60 : decode cX8_woundAt 60 = .ok (.goto (-56), 3) := by decide +kernel
theorem dX8_woundAt_63 : decode cX8_woundAt 63 = .ok (.iload_n 2, 1) := by decide +kernel
theorem dX8_woundAt_64 : decode cX8_woundAt 64 = .ok (.ireturn, 1) := by decide +kernel
abbrev rmX8_woundAt : Room := { frames := 4, cells := 0, slots := 0, locals := 88 }
set_option maxHeartbeats 4000000 in
set_option maxRecDepth 100000 in
theorem wX8_woundAt_55 (Cx : ms_C p s m args meth c D cA a shM cX8_woundAt 4 RX8 (some .int)) (out : Int32) {σ : Mm} (K4 : Int32 → Int32 → Int32 → Option (Int32)) (hK4 : ∀ (y1 : Int32) (y2 : Int32) (y3 : Int32) , ∀ (H : Heap) (locs : List Loc) (ls : Array Slot), ms_I D cA a shM s σ H locs → lv_has ls 4 [(0, .ref (a 0)), (1, .int y1), (2, .int y2), (3, .int y3)] → K4 y1 y2 y3 = some out → W p l e rmX8_woundAt s m args below meth c H locs 0 0 (MQ below (ms_Qi D cA a shM out σ) args s 0 0 (ms_A a shM.length)) (F0 m 4 ls [])) : ∀ (y1 : Int32) (y2 : Int32) (y3 : Int32) (y4 : Int32) , ∀ (H : Heap) (locs : List Loc) (ls : Array Slot), ms_I D cA a shM s σ H locs → lv_has ls 4 [(0, .ref (a 0)), (1, .int y1), (3, .int y2)] → fX8_woundAt_55 σ K4 y1 y2 y3 y4 = some out → W p l e rmX8_woundAt s m args below meth c H locs 0 0 (MQ below (ms_Qi D cA a shM out σ) args s 0 0 (ms_A a shM.length)) (F0 m 55 ls [.int y3, .int y4]) := by
  have hx := Cx.1
  have hb := Cx.2.1
  intro y1 y2 y3 y4 H locs ls hI hl h
  unfold fX8_woundAt_55 at h
  refine lv_iadd hx hb dX8_woundAt_55 ?_
  refine lv_istore_n (lv' := [(2, .int (y4 + y3)), (0, .ref (a 0)), (1, .int y1), (3, .int y2)]) hx hb dX8_woundAt_56 rfl hl (by decide) rfl (fun ls hl => ?_)
  refine lv_iinc (v := y2 + 1) (lv' := [(3, .int (y2 + 1)), (2, .int (y4 + y3)), (0, .ref (a 0)), (1, .int y1)]) hx hb dX8_woundAt_57 hl (k := 3) rfl rfl (by decide) rfl (fun ls hl => ?_)
  refine lv_goto (tgt := 4) hx hb dX8_woundAt_60 rfl ?_
  exact hK4 y1 (y4 + y3) (y2 + 1) _ _ _ hI (lv_sub hl [2, 3, 1, 0] rfl) h
set_option maxHeartbeats 4000000 in
set_option maxRecDepth 100000 in
theorem wX8_woundAt_54 (Cx : ms_C p s m args meth c D cA a shM cX8_woundAt 4 RX8 (some .int)) (out : Int32) {σ : Mm} (K4 : Int32 → Int32 → Int32 → Option (Int32)) (hK4 : ∀ (y1 : Int32) (y2 : Int32) (y3 : Int32) , ∀ (H : Heap) (locs : List Loc) (ls : Array Slot), ms_I D cA a shM s σ H locs → lv_has ls 4 [(0, .ref (a 0)), (1, .int y1), (2, .int y2), (3, .int y3)] → K4 y1 y2 y3 = some out → W p l e rmX8_woundAt s m args below meth c H locs 0 0 (MQ below (ms_Qi D cA a shM out σ) args s 0 0 (ms_A a shM.length)) (F0 m 4 ls [])) : ∀ (y1 : Int32) (y2 : Int32) (y3 : Int32) , ∀ (H : Heap) (locs : List Loc) (ls : Array Slot), ms_I D cA a shM s σ H locs → lv_has ls 4 [(0, .ref (a 0)), (1, .int y1), (3, .int y2)] → fX8_woundAt_54 σ K4 y1 y2 y3 = some out → W p l e rmX8_woundAt s m args below meth c H locs 0 0 (MQ below (ms_Qi D cA a shM out σ) args s 0 0 (ms_A a shM.length)) (F0 m 54 ls [.int y3]) := by
  have hx := Cx.1
  have hb := Cx.2.1
  intro y1 y2 y3 H locs ls hI hl h
  unfold fX8_woundAt_54 at h
  refine lv_iconst (v := 0) hx hb dX8_woundAt_54 rfl ?_
  exact wX8_woundAt_55 Cx out K4 hK4 y1 y2 0 y3 _ _ _ hI (lv_sub hl [0, 1, 2] rfl) h
set_option maxHeartbeats 4000000 in
set_option maxRecDepth 100000 in
theorem wX8_woundAt_4 (Cx : ms_C p s m args meth c D cA a shM cX8_woundAt 4 RX8 (some .int)) (out : Int32) {σ : Mm} : ∀ (n : Nat), ∀ (y1 : Int32) (y2 : Int32) (y3 : Int32) , ∀ (H : Heap) (locs : List Loc) (ls : Array Slot), ms_I D cA a shM s σ H locs → lv_has ls 4 [(0, .ref (a 0)), (1, .int y1), (2, .int y2), (3, .int y3)] → fX8_woundAt_4 σ n y1 y2 y3 = some out → W p l e rmX8_woundAt s m args below meth c H locs 0 0 (MQ below (ms_Qi D cA a shM out σ) args s 0 0 (ms_A a shM.length)) (F0 m 4 ls []) := by
  have hx := Cx.1
  have hb := Cx.2.1
  intro n
  induction n with
  | zero =>
    intro y1 y2 y3 H locs ls hI hl h
    exact nomatch (show none = some out from h)
  | succ n ih =>
    intro y1 y2 y3 H locs ls hI hl h
    rw [fX8_woundAt_4] at h
    refine lv_iload_n hx hb dX8_woundAt_4 rfl (lv_at hl 3 rfl) ?_
    refine lv_aload_n hx hb dX8_woundAt_5 rfl (lv_at hl 0 rfl) ?_
    refine gi_X8_11 Cx hI wd_11_22 dX8_woundAt_6 ?_
    refine lv_icmp_ge (tgt := 63) hx hb dX8_woundAt_9 rfl (fun hc => ?_) (fun hc => ?_)
    · have h := ms_ifT hc h
      refine lv_iload_n hx hb dX8_woundAt_63 rfl (lv_at hl 2 rfl) ?_
      exact ms_ri Cx hI (Option.some.inj h) rfl dX8_woundAt_64
    · have h := ms_ifF hc h
      refine lv_iload_n hx hb dX8_woundAt_12 rfl (lv_at hl 2 rfl) ?_
      refine lv_aload_n hx hb dX8_woundAt_13 rfl (lv_at hl 0 rfl) ?_
      refine gr_X8_13 Cx hI wd_6_22 dX8_woundAt_14 ?_
      refine lv_iload_n hx hb dX8_woundAt_17 rfl (lv_at hl 3 rfl) ?_
      obtain ⟨hg, h⟩ := ms_gE h
      refine ms_ld Cx hI 10 shM_10 hg dX8_woundAt_18 ?_
      refine lv_iload_n hx hb dX8_woundAt_19 rfl (lv_at hl 1 rfl) ?_
      refine lv_icmp_ne (tgt := 54) hx hb dX8_woundAt_20 rfl (fun hc => ?_) (fun hc => ?_)
      · have h := ms_ifF hc h
        exact wX8_woundAt_54 Cx out (fX8_woundAt_4 σ n) ih y1 y3 y2 _ _ _ hI (lv_sub hl [0, 1, 3] rfl) h
      · have h := ms_ifT hc h
        refine lv_aload_n hx hb dX8_woundAt_23 rfl (lv_at hl 0 rfl) ?_
        refine gi_X8_10 Cx hI wd_11_21 dX8_woundAt_24 ?_
        refine lv_aload_n hx hb dX8_woundAt_27 rfl (lv_at hl 0 rfl) ?_
        refine lv_iload_n hx hb dX8_woundAt_28 rfl (lv_at hl 3 rfl) ?_
        obtain ⟨r2, hc1, h⟩ := ms_bdE h
        refine kX8_goesOf Cx hI hc1 wd_18_16 (Nat.le_of_ble_eq_true rfl) (Nat.le_of_ble_eq_true rfl) hl.1 (Nat.le_of_ble_eq_true rfl) dX8_woundAt_29 (fun H locs hI => ?_)
        obtain ⟨r4, hc3, h⟩ := ms_bdE h
        refine kX8_isIn Cx hI hc3 (Or.inl wd_12_23) (Nat.le_of_ble_eq_true rfl) (Nat.le_of_ble_eq_true rfl) hl.1 (Nat.le_of_ble_eq_true rfl) dX8_woundAt_32 (fun H locs hI => ?_)
        refine lv_if_eq (tgt := 54) hx hb dX8_woundAt_35 rfl (fun hc => ?_) (fun hc => ?_)
        · have h := ms_ifT hc h
          exact wX8_woundAt_54 Cx out (fX8_woundAt_4 σ n) ih y1 y3 y2 _ _ _ hI (lv_sub hl [0, 1, 3] rfl) h
        · have h := ms_ifF hc h
          refine lv_aload_n hx hb dX8_woundAt_38 rfl (lv_at hl 0 rfl) ?_
          refine gr_X8_2 Cx hI wd_6_14 dX8_woundAt_39 ?_
          refine lv_iconst (v := 0) hx hb dX8_woundAt_42 rfl ?_
          obtain ⟨hg, h⟩ := ms_gE h
          refine ms_ld Cx hI 2 shM_2 hg dX8_woundAt_43 ?_
          refine lv_aload_n hx hb dX8_woundAt_44 rfl (lv_at hl 0 rfl) ?_
          refine gr_X8_12 Cx hI wd_6_21 dX8_woundAt_45 ?_
          refine lv_iload_n hx hb dX8_woundAt_48 rfl (lv_at hl 3 rfl) ?_
          obtain ⟨hg, h⟩ := ms_gE h
          refine ms_ld Cx hI 9 shM_9 hg dX8_woundAt_49 ?_
          refine lv_imul hx hb dX8_woundAt_50 ?_
          refine lv_goto (tgt := 55) hx hb dX8_woundAt_51 rfl ?_
          exact wX8_woundAt_55 Cx out (fX8_woundAt_4 σ n) ih y1 y3 ((σ 2 (ms_ix 0)) * (σ 9 (ms_ix y3))) y2 _ _ _ hI (lv_sub hl [0, 1, 3] rfl) h
set_option maxHeartbeats 4000000 in
set_option maxRecDepth 100000 in
theorem wX8_woundAt (Cx : ms_C p s m args meth c D cA a shM cX8_woundAt 4 RX8 (some .int)) (out : Int32) {σ : Mm} : ∀ (p0 : Int32) , ∀ (H : Heap) (locs : List Loc) (ls : Array Slot), ms_I D cA a shM s σ H locs → lv_has ls 4 [(0, .ref (a 0)), (1, .int p0)] → fX8_woundAt σ p0 = some out → W p l e rmX8_woundAt s m args below meth c H locs 0 0 (MQ below (ms_Qi D cA a shM out σ) args s 0 0 (ms_A a shM.length)) (F0 m 0 ls []) := by
  have hx := Cx.1
  have hb := Cx.2.1
  intro p0 H locs ls hI hl h
  unfold fX8_woundAt at h
  refine lv_iconst (v := 0) hx hb dX8_woundAt_0 rfl ?_
  refine lv_istore_n (lv' := [(2, .int 0), (0, .ref (a 0)), (1, .int p0)]) hx hb dX8_woundAt_1 rfl hl (by decide) rfl (fun ls hl => ?_)
  refine lv_iconst (v := 0) hx hb dX8_woundAt_2 rfl ?_
  refine lv_istore_n (lv' := [(3, .int 0), (2, .int 0), (0, .ref (a 0)), (1, .int p0)]) hx hb dX8_woundAt_3 rfl hl (by decide) rfl (fun ls hl => ?_)
  exact wX8_woundAt_4 Cx out  ms_fu p0 0 0 _ _ _ hI (lv_sub hl [2, 3, 1, 0] rfl) h
theorem yvX8_woundAt : ms_YV yX8_woundAt RX8 cX8_woundAt 4 (some .int) 1 := ⟨wd_20_15, wd_20_16, wd_1_5, wd_20_17, rfl, by decide +kernel, by decide +kernel, by decide +kernel⟩
set_option maxHeartbeats 4000000 in
theorem metX8_woundAt (l : Launch) (hDis : ms_Dis a shM.length) {σ : Mm} {p0 : Int32} {out : Int32} (h : fX8_woundAt σ p0 = some out) : Met l yX8_woundAt (.code yX8_woundAt cX8_woundAt 4 (some .int) :: wsL_law) rmX8_woundAt (ms_Pc D cA a shM [.ref (a 0), .int p0] σ) (ms_Qi D cA a shM out σ) 0 0 (ms_A a shM.length) := by
  refine Met.ofW (cc := cX8_woundAt) (maxL := 4) (ret := (some .int)) (by decide) rfl ?_
  intro p e s m args below meth c s₁ B hml hv
  obtain ⟨rfl, hK, hN, hP⟩ := hv
  have hl := lv_entry ([.ref (a 0), .int p0]) (n := 4) (Nat.le_of_ble_eq_true rfl)
  rw [lg_entry_eq]
  generalize (lg_sl ([.ref (a 0), .int p0]) ++ List.replicate (4 - (lg_sl ([.ref (a 0), .int p0])).length) Slot.unset).toArray = ls at hl ⊢
  exact wX8_woundAt ⟨B.exec, B.bytes, hml, findClass_of_methodNamed B.named, fun w hw => atoms_spec (ws := .code yX8_woundAt cX8_woundAt 4 (some .int) :: wsL_law) B.pre w (List.mem_cons_of_mem _ hw), B.returns, B.notSynchronized, hK, hDis, hN⟩ out p0 s.heap [] ls ⟨hP, va_S.rf⟩ hl h
theorem kX8_woundAt (Cx : ms_C p s m args meth c D cA a shM cc nL own ret) {σ : Mm} {H : Heap} {locs : List Loc} (hI : ms_I D cA a shM s σ H locs) {p0 : Int32} {out : Int32} (h : fX8_woundAt σ p0 = some out) (hl : Cond.methodLink own idx yX8_woundAt ∈ wsL_law) (hf : 4 + 1 ≤ R.frames) (hlo : 8 + (4 + 11) + 88 ≤ R.locals) (hsz : ls.size = nL) (hW : (rest.map fun v => v.category).sum ≤ 8) (hd : decode cc pc = .ok (.invokevirtual idx, 3)) (kk : ∀ (H1 : Heap) (locs1 : List Loc), ms_I D cA a shM s σ H1 locs1 → W p l e R s m args below meth c H1 locs1 0 0 Q (F0 m (pc + 3) ls (.int out :: rest))) : W p l e R s m args below meth c H locs 0 0 Q (F0 m pc ls (.int p0 :: .ref (a 0) :: rest)) :=
  ms_ci hI (ms_runV (av := [.int p0]) Cx hI 0 shM_0 (ci := 8) rfl rfl yvX8_woundAt (metX8_woundAt l Cx.2.2.2.2.2.2.2.2.1  h) ⟨rfl, rfl⟩ hl ⟨hf, hlo⟩ rfl hsz rfl hW ⟨Nat.zero_le _, Nat.zero_le _⟩ hd) kk
/-! X8 wound (I)I -/
theorem dX8_wound_0 : decode cX8_wound 0 = .ok (.iload_n 1, 1) := by decide +kernel
theorem dX8_wound_1 : decode cX8_wound 1 = .ok (.iconst 0, 1) := by decide +kernel
theorem dX8_wound_2 : decode cX8_wound 2 = .ok (.bipush 23, 2) := by decide +kernel
theorem dX8_wound_4 : decode cX8_wound 4 = .ok (.invokestatic 95, 3) := by decide +kernel
theorem dX8_wound_7 : decode cX8_wound 7 = .ok (.ifCond .ne 6, 3) := by decide +kernel
theorem dX8_wound_10 : decode cX8_wound 10 = .ok (.bipush (-2), 2) := by decide +kernel
theorem dX8_wound_12 : decode cX8_wound 12 = .ok (.ireturn, 1) := by decide +kernel
theorem dX8_wound_13 : decode cX8_wound 13 = .ok (.aload_n 0, 1) := by decide +kernel
theorem dX8_wound_14 : decode cX8_wound 14 = .ok (.invokevirtual 140, 3) := by decide +kernel
theorem dX8_wound_17 : decode cX8_wound 17 = .ok (.istore_n 2, 1) := by decide +kernel
theorem dX8_wound_18 : decode cX8_wound 18 = .ok (.aload_n 0, 1) := by decide +kernel
theorem dX8_wound_19 : decode cX8_wound 19 = .ok (.iload_n 1, 1) := by decide +kernel
theorem dX8_wound_20 : decode cX8_wound 20 = .ok (.invokevirtual 178, 3) := by decide +kernel
theorem dX8_wound_23 : decode cX8_wound 23 = .ok (.ireturn, 1) := by decide +kernel
abbrev rmX8_wound : Room := { frames := 7, cells := 0, slots := 0, locals := 156 }
set_option maxHeartbeats 4000000 in
set_option maxRecDepth 100000 in
theorem wX8_wound (Cx : ms_C p s m args meth c D cA a shM cX8_wound 3 RX8 (some .int)) (out : Int32 × Mm) : ∀ (p0 : Int32) , ∀ (σ : Mm) (H : Heap) (locs : List Loc) (ls : Array Slot), ms_I D cA a shM s σ H locs → lv_has ls 3 [(0, .ref (a 0)), (1, .int p0)] → fX8_wound p0 σ = some out → W p l e rmX8_wound s m args below meth c H locs 0 0 (MQ below (ms_Qi D cA a shM out.1 out.2) args s 0 0 (ms_A a shM.length)) (F0 m 0 ls []) := by
  have hx := Cx.1
  have hb := Cx.2.1
  intro p0 σ H locs ls hI hl h
  unfold fX8_wound at h
  refine lv_iload_n hx hb dX8_wound_0 rfl (lv_at hl 1 rfl) ?_
  refine lv_iconst (v := 0) hx hb dX8_wound_1 rfl ?_
  refine lv_bipush (v := 23) hx hb dX8_wound_2 rfl ?_
  obtain ⟨r2, hc1, h⟩ := ms_bdE h
  refine kX8_in Cx hI hc1 (Or.inl wd_10_20) (Nat.le_of_ble_eq_true rfl) (Nat.le_of_ble_eq_true rfl) hl.1 (Nat.le_of_ble_eq_true rfl) dX8_wound_4 (fun H locs hI => ?_)
  refine lv_if_ne (tgt := 13) hx hb dX8_wound_7 rfl (fun hc => ?_) (fun hc => ?_)
  · have h := ms_ifF hc h
    refine lv_aload_n hx hb dX8_wound_13 rfl (lv_at hl 0 rfl) ?_
    obtain ⟨⟨r4, σ5⟩, hc3, h⟩ := ms_bdE h
    refine kX8_faultNow Cx hI hc3 wd_11_16 (Nat.le_of_ble_eq_true rfl) (Nat.le_of_ble_eq_true rfl) hl.1 (Nat.le_of_ble_eq_true rfl) dX8_wound_14 (fun H locs hI => ?_)
    refine lv_istore_n (lv' := [(2, .int r4), (0, .ref (a 0)), (1, .int p0)]) hx hb dX8_wound_17 rfl hl (by decide) rfl (fun ls hl => ?_)
    refine lv_aload_n hx hb dX8_wound_18 rfl (lv_at hl 1 rfl) ?_
    refine lv_iload_n hx hb dX8_wound_19 rfl (lv_at hl 2 rfl) ?_
    obtain ⟨r7, hc6, h⟩ := ms_bdE h
    refine kX8_woundAt Cx hI hc6 wd_20_14 (Nat.le_of_ble_eq_true rfl) (Nat.le_of_ble_eq_true rfl) hl.1 (Nat.le_of_ble_eq_true rfl) dX8_wound_20 (fun H locs hI => ?_)
    exact ms_riw Cx hI h dX8_wound_23
  · have h := ms_ifT hc h
    refine lv_bipush (v := -2) hx hb dX8_wound_10 rfl ?_
    exact ms_riw Cx hI h dX8_wound_12
theorem yvX8_wound : ms_YV yX8_wound RX8 cX8_wound 3 (some .int) 1 := ⟨wd_20_11, wd_20_12, wd_1_5, wd_20_13, rfl, by decide +kernel, by decide +kernel, by decide +kernel⟩
set_option maxHeartbeats 4000000 in
theorem metX8_wound (l : Launch) (hDis : ms_Dis a shM.length) {σ : Mm} {p0 : Int32} {out : Int32 × Mm} (h : fX8_wound p0 σ = some out) : Met l yX8_wound (.code yX8_wound cX8_wound 3 (some .int) :: wsL_law) rmX8_wound (ms_Pc D cA a shM [.ref (a 0), .int p0] σ) (ms_Qi D cA a shM out.1 out.2) 0 0 (ms_A a shM.length) := by
  refine Met.ofW (cc := cX8_wound) (maxL := 3) (ret := (some .int)) (by decide) rfl ?_
  intro p e s m args below meth c s₁ B hml hv
  obtain ⟨rfl, hK, hN, hP⟩ := hv
  have hl := lv_entry ([.ref (a 0), .int p0]) (n := 3) (Nat.le_of_ble_eq_true rfl)
  rw [lg_entry_eq]
  generalize (lg_sl ([.ref (a 0), .int p0]) ++ List.replicate (3 - (lg_sl ([.ref (a 0), .int p0])).length) Slot.unset).toArray = ls at hl ⊢
  exact wX8_wound ⟨B.exec, B.bytes, hml, findClass_of_methodNamed B.named, fun w hw => atoms_spec (ws := .code yX8_wound cX8_wound 3 (some .int) :: wsL_law) B.pre w (List.mem_cons_of_mem _ hw), B.returns, B.notSynchronized, hK, hDis, hN⟩ out p0 σ s.heap [] ls ⟨hP, va_S.rf⟩ hl h
theorem kX8_wound (Cx : ms_C p s m args meth c D cA a shM cc nL own ret) {σ : Mm} {H : Heap} {locs : List Loc} (hI : ms_I D cA a shM s σ H locs) {p0 : Int32} {out : Int32 × Mm} (h : fX8_wound p0 σ = some out) (hl : Cond.methodLink own idx yX8_wound ∈ wsL_law) (hf : 7 + 1 ≤ R.frames) (hlo : 8 + (3 + 11) + 156 ≤ R.locals) (hsz : ls.size = nL) (hW : (rest.map fun v => v.category).sum ≤ 8) (hd : decode cc pc = .ok (.invokevirtual idx, 3)) (kk : ∀ (H1 : Heap) (locs1 : List Loc), ms_I D cA a shM s out.2 H1 locs1 → W p l e R s m args below meth c H1 locs1 0 0 Q (F0 m (pc + 3) ls (.int out.1 :: rest))) : W p l e R s m args below meth c H locs 0 0 Q (F0 m pc ls (.int p0 :: .ref (a 0) :: rest)) :=
  ms_ci hI (ms_runV (av := [.int p0]) Cx hI 0 shM_0 (ci := 8) rfl rfl yvX8_wound (metX8_wound l Cx.2.2.2.2.2.2.2.2.1  h) ⟨rfl, rfl⟩ hl ⟨hf, hlo⟩ rfl hsz rfl hW ⟨Nat.zero_le _, Nat.zero_le _⟩ hd) kk
/-! X8 laysWinds ()V -/
theorem dX8_laysWinds_0 : decode cX8_laysWinds 0 = .ok (.iconst 0, 1) := by decide +kernel
theorem dX8_laysWinds_1 : decode cX8_laysWinds 1 = .ok (.istore_n 1, 1) := by decide +kernel
theorem dX8_laysWinds_2 : decode cX8_laysWinds 2 = .ok (.iload_n 1, 1) := by decide +kernel
theorem dX8_laysWinds_3 : decode cX8_laysWinds 3 = .ok (.bipush 24, 2) := by decide +kernel
theorem dX8_laysWinds_5 : decode cX8_laysWinds 5 = .ok (.if_icmp .ge 20, 3) := by decide +kernel
theorem dX8_laysWinds_8 : decode cX8_laysWinds 8 = .ok (.aload_n 0, 1) := by decide +kernel
theorem dX8_laysWinds_9 : decode cX8_laysWinds 9 = .ok (.getfield 46, 3) := by decide +kernel
theorem dX8_laysWinds_12 : decode cX8_laysWinds 12 = .ok (.iload_n 1, 1) := by decide +kernel
theorem dX8_laysWinds_13 : decode cX8_laysWinds 13 = .ok (.aload_n 0, 1) := by decide +kernel
theorem dX8_laysWinds_14 : decode cX8_laysWinds 14 = .ok (.iload_n 1, 1) := by decide +kernel
theorem dX8_laysWinds_15 : decode cX8_laysWinds 15 = .ok (.invokevirtual 178, 3) := by decide +kernel
theorem dX8_laysWinds_18 : decode cX8_laysWinds 18 = .ok (.iastore, 1) := by decide +kernel
theorem dX8_laysWinds_19 : decode cX8_laysWinds 19 = .ok (.iinc 1 1, 3) := by decide +kernel
theorem dX8_laysWinds_22 : decode cX8_laysWinds 22 = .ok (.goto (-20), 3) := by decide +kernel
theorem dX8_laysWinds_25 : decode cX8_laysWinds 25 = .ok (.return_, 1) := by decide +kernel
abbrev rmX8_laysWinds : Room := { frames := 5, cells := 0, slots := 0, locals := 111 }
set_option maxHeartbeats 4000000 in
set_option maxRecDepth 100000 in
theorem wX8_laysWinds_2 (Cx : ms_C p s m args meth c D cA a shM cX8_laysWinds 2 RX8 none) (out : Mm) : ∀ (n : Nat), ∀ (y1 : Int32) , ∀ (σ : Mm) (H : Heap) (locs : List Loc) (ls : Array Slot), ms_I D cA a shM s σ H locs → lv_has ls 2 [(0, .ref (a 0)), (1, .int y1)] → fX8_laysWinds_2 n y1 σ = some out → W p l e rmX8_laysWinds s m args below meth c H locs 0 0 (MQ below (ms_Qv D cA a shM out) args s 0 0 (ms_A a shM.length)) (F0 m 2 ls []) := by
  have hx := Cx.1
  have hb := Cx.2.1
  intro n
  induction n with
  | zero =>
    intro y1 σ H locs ls hI hl h
    exact nomatch (show none = some out from h)
  | succ n ih =>
    intro y1 σ H locs ls hI hl h
    rw [fX8_laysWinds_2] at h
    refine lv_iload_n hx hb dX8_laysWinds_2 rfl (lv_at hl 1 rfl) ?_
    refine lv_bipush (v := 24) hx hb dX8_laysWinds_3 rfl ?_
    refine lv_icmp_ge (tgt := 25) hx hb dX8_laysWinds_5 rfl (fun hc => ?_) (fun hc => ?_)
    · have h := ms_ifT hc h
      exact ms_rv Cx hI (Option.some.inj h) dX8_laysWinds_25
    · have h := ms_ifF hc h
      refine lv_aload_n hx hb dX8_laysWinds_8 rfl (lv_at hl 0 rfl) ?_
      refine gr_X8_16 Cx hI wd_7_1 dX8_laysWinds_9 ?_
      refine lv_iload_n hx hb dX8_laysWinds_12 rfl (lv_at hl 1 rfl) ?_
      refine lv_aload_n hx hb dX8_laysWinds_13 rfl (lv_at hl 0 rfl) ?_
      refine lv_iload_n hx hb dX8_laysWinds_14 rfl (lv_at hl 1 rfl) ?_
      obtain ⟨r2, hc1, h⟩ := ms_bdE h
      refine kX8_woundAt Cx hI hc1 wd_20_14 (Nat.le_of_ble_eq_true rfl) (Nat.le_of_ble_eq_true rfl) hl.1 (Nat.le_of_ble_eq_true rfl) dX8_laysWinds_15 (fun H locs hI => ?_)
      obtain ⟨hg, h⟩ := ms_gE h
      refine ms_sto Cx hI 13 shM_13 hg dX8_laysWinds_18 (fun H locs σ3 eσ3 hI => ?_)
      have h := ms_ltE eσ3 h
      refine lv_iinc (v := y1 + 1) (lv' := [(1, .int (y1 + 1)), (0, .ref (a 0))]) hx hb dX8_laysWinds_19 hl (k := 1) rfl rfl (by decide) rfl (fun ls hl => ?_)
      refine lv_goto (tgt := 2) hx hb dX8_laysWinds_22 rfl ?_
      exact ih (y1 + 1) σ3 _ _ _ hI (lv_sub hl [1, 0] rfl) h
set_option maxHeartbeats 4000000 in
set_option maxRecDepth 100000 in
theorem wX8_laysWinds (Cx : ms_C p s m args meth c D cA a shM cX8_laysWinds 2 RX8 none) (out : Mm) : ∀ (σ : Mm) (H : Heap) (locs : List Loc) (ls : Array Slot), ms_I D cA a shM s σ H locs → lv_has ls 2 [(0, .ref (a 0))] → fX8_laysWinds σ = some out → W p l e rmX8_laysWinds s m args below meth c H locs 0 0 (MQ below (ms_Qv D cA a shM out) args s 0 0 (ms_A a shM.length)) (F0 m 0 ls []) := by
  have hx := Cx.1
  have hb := Cx.2.1
  intro σ H locs ls hI hl h
  unfold fX8_laysWinds at h
  refine lv_iconst (v := 0) hx hb dX8_laysWinds_0 rfl ?_
  refine lv_istore_n (lv' := [(1, .int 0), (0, .ref (a 0))]) hx hb dX8_laysWinds_1 rfl hl (by decide) rfl (fun ls hl => ?_)
  exact wX8_laysWinds_2 Cx out  ms_fu 0 σ _ _ _ hI (lv_sub hl [1, 0] rfl) h
theorem yvX8_laysWinds : ms_YV yX8_laysWinds RX8 cX8_laysWinds 2 none 0 := ⟨wd_24_8, wd_24_9, wd_1_5, wd_24_10, rfl, by decide +kernel, by decide +kernel, by decide +kernel⟩
set_option maxHeartbeats 4000000 in
theorem metX8_laysWinds (l : Launch) (hDis : ms_Dis a shM.length) {σ : Mm} {out : Mm} (h : fX8_laysWinds σ = some out) : Met l yX8_laysWinds (.code yX8_laysWinds cX8_laysWinds 2 none :: wsL_law) rmX8_laysWinds (ms_Pc D cA a shM [.ref (a 0)] σ) (ms_Qv D cA a shM out) 0 0 (ms_A a shM.length) := by
  refine Met.ofW (cc := cX8_laysWinds) (maxL := 2) (ret := none) (by decide) rfl ?_
  intro p e s m args below meth c s₁ B hml hv
  obtain ⟨rfl, hK, hN, hP⟩ := hv
  have hl := lv_entry ([.ref (a 0)]) (n := 2) (Nat.le_of_ble_eq_true rfl)
  rw [lg_entry_eq]
  generalize (lg_sl ([.ref (a 0)]) ++ List.replicate (2 - (lg_sl ([.ref (a 0)])).length) Slot.unset).toArray = ls at hl ⊢
  exact wX8_laysWinds ⟨B.exec, B.bytes, hml, findClass_of_methodNamed B.named, fun w hw => atoms_spec (ws := .code yX8_laysWinds cX8_laysWinds 2 none :: wsL_law) B.pre w (List.mem_cons_of_mem _ hw), B.returns, B.notSynchronized, hK, hDis, hN⟩ out σ s.heap [] ls ⟨hP, va_S.rf⟩ hl h
theorem kX8_laysWinds (Cx : ms_C p s m args meth c D cA a shM cc nL own ret) {σ : Mm} {H : Heap} {locs : List Loc} (hI : ms_I D cA a shM s σ H locs) {out : Mm} (h : fX8_laysWinds σ = some out) (hl : Cond.methodLink own idx yX8_laysWinds ∈ wsL_law) (hf : 5 + 1 ≤ R.frames) (hlo : 8 + (2 + 11) + 111 ≤ R.locals) (hsz : ls.size = nL) (hW : (rest.map fun v => v.category).sum ≤ 8) (hd : decode cc pc = .ok (.invokevirtual idx, 3)) (kk : ∀ (H1 : Heap) (locs1 : List Loc), ms_I D cA a shM s out H1 locs1 → W p l e R s m args below meth c H1 locs1 0 0 Q (F0 m (pc + 3) ls (rest))) : W p l e R s m args below meth c H locs 0 0 Q (F0 m pc ls (.ref (a 0) :: rest)) :=
  ms_cv hI (ms_runV (av := []) Cx hI 0 shM_0 (ci := 8) rfl rfl yvX8_laysWinds (metX8_laysWinds l Cx.2.2.2.2.2.2.2.2.1  h) ⟨rfl, rfl⟩ hl ⟨hf, hlo⟩ rfl hsz rfl hW ⟨Nat.zero_le _, Nat.zero_le _⟩ hd) kk
/-! X8 isGoing (III)Z -/
theorem dX8_isGoing_0 : decode cX8_isGoing 0 = .ok (.aload_n 0, 1) := by decide +kernel
theorem dX8_isGoing_1 : decode cX8_isGoing 1 = .ok (.getfield 19, 3) := by decide +kernel
theorem dX8_isGoing_4 : decode cX8_isGoing 4 = .ok (.iload_n 1, 1) := by decide +kernel
theorem dX8_isGoing_5 : decode cX8_isGoing 5 = .ok (.iaload, 1) := by decide +kernel
theorem dX8_isGoing_6 : decode cX8_isGoing 6 = .ok (.aload_n 0, 1) := by decide +kernel
theorem dX8_isGoing_7 : decode cX8_isGoing 7 = .ok (.getfield 31, 3) := by decide +kernel
theorem dX8_isGoing_10 : decode cX8_isGoing 10 = .ok (.iload_n 1, 1) := by decide +kernel
theorem dX8_isGoing_11 : decode cX8_isGoing 11 = .ok (.iaload, 1) := by decide +kernel
theorem dX8_isGoing_12 : decode cX8_isGoing 12 = .ok (.iadd, 1) := by decide +kernel
theorem dX8_isGoing_13 : decode cX8_isGoing 13 = .ok (.bipush 24, 2) := by decide +kernel
theorem dX8_isGoing_15 : decode cX8_isGoing 15 = .ok (.irem, 1) := by decide +kernel
theorem dX8_isGoing_16 : decode cX8_isGoing 16 = .ok (.istore 4, 2) := by decide +kernel
theorem dX8_isGoing_18 : decode cX8_isGoing 18 = .ok (.iload_n 2, 1) := by decide +kernel
theorem dX8_isGoing_19 : decode cX8_isGoing 19 = .ok (.bipush 24, 2) := by decide +kernel
theorem dX8_isGoing_21 : decode cX8_isGoing 21 = .ok (.irem, 1) := by decide +kernel
theorem dX8_isGoing_22 : decode cX8_isGoing 22 = .ok (.iload 4, 2) := by decide +kernel
theorem dX8_isGoing_24 : decode cX8_isGoing 24 = .ok (.isub, 1) := by decide +kernel
theorem dX8_isGoing_25 : decode cX8_isGoing 25 = .ok (.bipush 24, 2) := by decide +kernel
theorem dX8_isGoing_27 : decode cX8_isGoing 27 = .ok (.iadd, 1) := by decide +kernel
theorem dX8_isGoing_28 : decode cX8_isGoing 28 = .ok (.bipush 24, 2) := by decide +kernel
theorem dX8_isGoing_30 : decode cX8_isGoing 30 = .ok (.irem, 1) := by decide +kernel
theorem dX8_isGoing_31 : decode cX8_isGoing 31 = .ok (.istore 5, 2) := by decide +kernel
theorem dX8_isGoing_33 : decode cX8_isGoing 33 = .ok (.iload 5, 2) := by decide +kernel
theorem dX8_isGoing_35 : decode cX8_isGoing 35 = .ok (.aload_n 0, 1) := by decide +kernel
theorem dX8_isGoing_36 : decode cX8_isGoing 36 = .ok (.getfield 22, 3) := by decide +kernel
theorem dX8_isGoing_39 : decode cX8_isGoing 39 = .ok (.iload_n 1, 1) := by decide +kernel
theorem dX8_isGoing_40 : decode cX8_isGoing 40 = .ok (.iaload, 1) := by decide +kernel
theorem dX8_isGoing_41 : decode cX8_isGoing 41 = .ok (.if_icmp .ge 24, 3) := by decide +kernel
theorem dX8_isGoing_44 : decode cX8_isGoing 44 = .ok (.aload_n 0, 1) := by decide +kernel
theorem dX8_isGoing_45 : decode cX8_isGoing 45 = .ok (.getfield 28, 3) := by decide +kernel
theorem dX8_isGoing_48 : decode cX8_isGoing 48 = .ok (.iload_n 1, 1) := by decide +kernel
theorem dX8_isGoing_49 : decode cX8_isGoing 49 = .ok (.iaload, 1) := by decide +kernel
theorem dX8_isGoing_50 : decode cX8_isGoing 50 = .ok (.ifCond .ne 15, 3) := by decide +kernel
theorem dX8_isGoing_53 : decode cX8_isGoing 53 = .ok (.iload_n 3, 1) := by decide +kernel
theorem dX8_isGoing_54 : decode cX8_isGoing 54 = .ok (.iload_n 1, 1) := by decide +kernel
theorem dX8_isGoing_55 : decode cX8_isGoing 55 = .ok (.invokestatic 129, 3) := by decide +kernel
theorem dX8_isGoing_58 : decode cX8_isGoing 58 = .ok (.ifCond .ne 7, 3) := by decide +kernel
theorem dX8_isGoing_61 : decode cX8_isGoing 61 = .ok (.iconst 1, 1) := by decide +kernel
theorem dX8_isGoing_62 : decode cX8_isGoing 62 = .ok (.goto 4, 3) := by decide +kernel
theorem dX8_isGoing_65 : decode cX8_isGoing 65 = .ok (.iconst 0, 1) := by decide +kernel
theorem dX8_isGoing_66 : decode cX8_isGoing 66 = .ok (.ireturn, 1) := by decide +kernel
abbrev rmX8_isGoing : Room := { frames := 1, cells := 0, slots := 0, locals := 21 }
set_option maxHeartbeats 4000000 in
set_option maxRecDepth 100000 in
theorem wX8_isGoing (Cx : ms_C p s m args meth c D cA a shM cX8_isGoing 6 RX8 (some .boolean)) (out : Int32) {σ : Mm} : ∀ (p0 : Int32) (p1 : Int32) (p2 : Int32) , ∀ (H : Heap) (locs : List Loc) (ls : Array Slot), ms_I D cA a shM s σ H locs → lv_has ls 6 [(0, .ref (a 0)), (1, .int p0), (2, .int p1), (3, .int p2)] → fX8_isGoing σ p0 p1 p2 = some out → W p l e rmX8_isGoing s m args below meth c H locs 0 0 (MQ below (ms_Qi D cA a shM out σ) args s 0 0 (ms_A a shM.length)) (F0 m 0 ls []) := by
  have hx := Cx.1
  have hb := Cx.2.1
  intro p0 p1 p2 H locs ls hI hl h
  unfold fX8_isGoing at h
  refine lv_aload_n hx hb dX8_isGoing_0 rfl (lv_at hl 0 rfl) ?_
  refine gr_X8_5 Cx hI wd_6_16 dX8_isGoing_1 ?_
  refine lv_iload_n hx hb dX8_isGoing_4 rfl (lv_at hl 1 rfl) ?_
  obtain ⟨hg, h⟩ := ms_gE h
  refine ms_ld Cx hI 4 shM_4 hg dX8_isGoing_5 ?_
  refine lv_aload_n hx hb dX8_isGoing_6 rfl (lv_at hl 0 rfl) ?_
  refine gr_X8_9 Cx hI wd_6_20 dX8_isGoing_7 ?_
  refine lv_iload_n hx hb dX8_isGoing_10 rfl (lv_at hl 1 rfl) ?_
  obtain ⟨hg, h⟩ := ms_gE h
  refine ms_ld Cx hI 8 shM_8 hg dX8_isGoing_11 ?_
  refine lv_iadd hx hb dX8_isGoing_12 ?_
  refine lv_bipush (v := 24) hx hb dX8_isGoing_13 rfl ?_
  refine ms_lrem hx hb dX8_isGoing_15 (by decide) ?_
  refine lv_topi (fun x1 ex1 => ?_)
  have h := ms_ltE ex1 h
  refine lv_istore (lv' := [(4, .int x1), (0, .ref (a 0)), (1, .int p0), (2, .int p1), (3, .int p2)]) hx hb dX8_isGoing_16 hl (by decide) rfl (fun ls hl => ?_)
  refine lv_iload_n hx hb dX8_isGoing_18 rfl (lv_at hl 3 rfl) ?_
  refine lv_bipush (v := 24) hx hb dX8_isGoing_19 rfl ?_
  refine ms_lrem hx hb dX8_isGoing_21 (by decide) ?_
  refine lv_iload hx hb dX8_isGoing_22 (lv_at hl 0 rfl) ?_
  refine lv_isub hx hb dX8_isGoing_24 ?_
  refine lv_bipush (v := 24) hx hb dX8_isGoing_25 rfl ?_
  refine lv_iadd hx hb dX8_isGoing_27 ?_
  refine lv_bipush (v := 24) hx hb dX8_isGoing_28 rfl ?_
  refine ms_lrem hx hb dX8_isGoing_30 (by decide) ?_
  refine lv_topi (fun x2 ex2 => ?_)
  have h := ms_ltE ex2 h
  refine lv_istore (lv' := [(5, .int x2), (4, .int x1), (0, .ref (a 0)), (1, .int p0), (2, .int p1), (3, .int p2)]) hx hb dX8_isGoing_31 hl (by decide) rfl (fun ls hl => ?_)
  refine lv_iload hx hb dX8_isGoing_33 (lv_at hl 0 rfl) ?_
  refine lv_aload_n hx hb dX8_isGoing_35 rfl (lv_at hl 2 rfl) ?_
  refine gr_X8_6 Cx hI wd_6_17 dX8_isGoing_36 ?_
  refine lv_iload_n hx hb dX8_isGoing_39 rfl (lv_at hl 3 rfl) ?_
  obtain ⟨hg, h⟩ := ms_gE h
  refine ms_ld Cx hI 5 shM_5 hg dX8_isGoing_40 ?_
  refine lv_icmp_ge (tgt := 65) hx hb dX8_isGoing_41 rfl (fun hc => ?_) (fun hc => ?_)
  · have h := ms_ifT hc h
    refine lv_iconst (v := 0) hx hb dX8_isGoing_65 rfl ?_
    exact ms_rz Cx hI (Or.inl rfl) (Option.some.inj h) rfl dX8_isGoing_66
  · have h := ms_ifF hc h
    refine lv_aload_n hx hb dX8_isGoing_44 rfl (lv_at hl 2 rfl) ?_
    refine gr_X8_8 Cx hI wd_6_19 dX8_isGoing_45 ?_
    refine lv_iload_n hx hb dX8_isGoing_48 rfl (lv_at hl 3 rfl) ?_
    obtain ⟨hg, h⟩ := ms_gE h
    refine ms_ld Cx hI 7 shM_7 hg dX8_isGoing_49 ?_
    refine lv_if_ne (tgt := 65) hx hb dX8_isGoing_50 rfl (fun hc => ?_) (fun hc => ?_)
    · have h := ms_ifF hc h
      refine lv_iconst (v := 0) hx hb dX8_isGoing_65 rfl ?_
      exact ms_rz Cx hI (Or.inl rfl) (Option.some.inj h) rfl dX8_isGoing_66
    · have h := ms_ifT hc h
      refine lv_iload_n hx hb dX8_isGoing_53 rfl (lv_at hl 5 rfl) ?_
      refine lv_iload_n hx hb dX8_isGoing_54 rfl (lv_at hl 3 rfl) ?_
      obtain ⟨r4, hc3, h⟩ := ms_bdE h
      refine kX8_isIn Cx hI hc3 (Or.inl wd_12_23) (Nat.le_of_ble_eq_true rfl) (Nat.le_of_ble_eq_true rfl) hl.1 (Nat.le_of_ble_eq_true rfl) dX8_isGoing_55 (fun H locs hI => ?_)
      refine lv_if_ne (tgt := 65) hx hb dX8_isGoing_58 rfl (fun hc => ?_) (fun hc => ?_)
      · have h := ms_ifF hc h
        refine lv_iconst (v := 0) hx hb dX8_isGoing_65 rfl ?_
        exact ms_rz Cx hI (Or.inl rfl) (Option.some.inj h) rfl dX8_isGoing_66
      · have h := ms_ifT hc h
        refine lv_iconst (v := 1) hx hb dX8_isGoing_61 rfl ?_
        refine lv_goto (tgt := 66) hx hb dX8_isGoing_62 rfl ?_
        exact ms_rz Cx hI (Or.inr rfl) (Option.some.inj h) rfl dX8_isGoing_66
theorem yvX8_isGoing : ms_YV yX8_isGoing RX8 cX8_isGoing 6 (some .boolean) 3 := ⟨wd_24_16, wd_24_17, wd_1_5, wd_24_18, rfl, by decide +kernel, by decide +kernel, by decide +kernel⟩
set_option maxHeartbeats 4000000 in
theorem metX8_isGoing (l : Launch) (hDis : ms_Dis a shM.length) {σ : Mm} {p0 : Int32} {p1 : Int32} {p2 : Int32} {out : Int32} (h : fX8_isGoing σ p0 p1 p2 = some out) : Met l yX8_isGoing (.code yX8_isGoing cX8_isGoing 6 (some .boolean) :: wsL_law) rmX8_isGoing (ms_Pc D cA a shM [.ref (a 0), .int p0, .int p1, .int p2] σ) (ms_Qi D cA a shM out σ) 0 0 (ms_A a shM.length) := by
  refine Met.ofW (cc := cX8_isGoing) (maxL := 6) (ret := (some .boolean)) (by decide) rfl ?_
  intro p e s m args below meth c s₁ B hml hv
  obtain ⟨rfl, hK, hN, hP⟩ := hv
  have hl := lv_entry ([.ref (a 0), .int p0, .int p1, .int p2]) (n := 6) (Nat.le_of_ble_eq_true rfl)
  rw [lg_entry_eq]
  generalize (lg_sl ([.ref (a 0), .int p0, .int p1, .int p2]) ++ List.replicate (6 - (lg_sl ([.ref (a 0), .int p0, .int p1, .int p2])).length) Slot.unset).toArray = ls at hl ⊢
  exact wX8_isGoing ⟨B.exec, B.bytes, hml, findClass_of_methodNamed B.named, fun w hw => atoms_spec (ws := .code yX8_isGoing cX8_isGoing 6 (some .boolean) :: wsL_law) B.pre w (List.mem_cons_of_mem _ hw), B.returns, B.notSynchronized, hK, hDis, hN⟩ out p0 p1 p2 s.heap [] ls ⟨hP, va_S.rf⟩ hl h
theorem kX8_isGoing (Cx : ms_C p s m args meth c D cA a shM cc nL own ret) {σ : Mm} {H : Heap} {locs : List Loc} (hI : ms_I D cA a shM s σ H locs) {p0 : Int32} {p1 : Int32} {p2 : Int32} {out : Int32} (h : fX8_isGoing σ p0 p1 p2 = some out) (hl : Cond.methodLink own idx yX8_isGoing ∈ wsL_law) (hf : 1 + 1 ≤ R.frames) (hlo : 8 + (6 + 11) + 21 ≤ R.locals) (hsz : ls.size = nL) (hW : (rest.map fun v => v.category).sum ≤ 8) (hd : decode cc pc = .ok (.invokevirtual idx, 3)) (kk : ∀ (H1 : Heap) (locs1 : List Loc), ms_I D cA a shM s σ H1 locs1 → W p l e R s m args below meth c H1 locs1 0 0 Q (F0 m (pc + 3) ls (.int out :: rest))) : W p l e R s m args below meth c H locs 0 0 Q (F0 m pc ls (.int p2 :: .int p1 :: .int p0 :: .ref (a 0) :: rest)) :=
  ms_ci hI (ms_runV (av := [.int p0, .int p1, .int p2]) Cx hI 0 shM_0 (ci := 8) rfl rfl yvX8_isGoing (metX8_isGoing l Cx.2.2.2.2.2.2.2.2.1  h) ⟨rfl, rfl⟩ hl ⟨hf, hlo⟩ rfl hsz rfl hW ⟨Nat.zero_le _, Nat.zero_le _⟩ hd) kk
/-! X8 runs (IIII)V -/
theorem dX8_runs_0 : decode cX8_runs 0 = .ok (.aload_n 0, 1) := by decide +kernel
theorem dX8_runs_1 : decode cX8_runs 1 = .ok (.getfield 13, 3) := by decide +kernel
theorem dX8_runs_4 : decode cX8_runs 4 = .ok (.iconst 2, 1) := by decide +kernel
theorem dX8_runs_5 : decode cX8_runs 5 = .ok (.iaload, 1) := by decide +kernel
theorem dX8_runs_6 : decode cX8_runs 6 = .ok (.aload_n 0, 1) := by decide +kernel
theorem dX8_runs_7 : decode cX8_runs 7 = .ok (.getfield 13, 3) := by decide +kernel
theorem dX8_runs_10 : decode cX8_runs 10 = .ok (.iconst 1, 1) := by decide +kernel
theorem dX8_runs_11 : decode cX8_runs 11 = .ok (.iaload, 1) := by decide +kernel
theorem dX8_runs_12 : decode cX8_runs 12 = .ok (.if_icmp .ge 12, 3) := by decide +kernel
theorem dX8_runs_15 : decode cX8_runs 15 = .ok (.aload_n 0, 1) := by decide +kernel
theorem dX8_runs_16 : decode cX8_runs 16 = .ok (.getfield 13, 3) := by decide +kernel
theorem dX8_runs_19 : decode cX8_runs 19 = .ok (.iconst 2, 1) := by decide +kernel
theorem dX8_runs_20 : decode cX8_runs 20 = .ok (.iaload, 1) := by decide +kernel
theorem dX8_runs_21 : decode cX8_runs 21 = .ok (.goto 9, 3) := by decide +kernel
theorem dX8_runs_24 : decode cX8_runs 24 = .ok (.aload_n 0, 1) := by decide +kernel
theorem dX8_runs_25 : decode cX8_runs 25 = .ok (.getfield 13, 3) := by decide +kernel
theorem dX8_runs_28 : decode cX8_runs 28 = .ok (.iconst 1, 1) := by decide +kernel
theorem dX8_runs_29 : decode cX8_runs 29 = .ok (.iaload, 1) := by decide +kernel
theorem dX8_runs_30 : decode cX8_runs 30 = .ok (.istore 5, 2) := by decide +kernel
theorem dX8_runs_32 : decode cX8_runs 32 = .ok (.aload_n 0, 1) := by decide +kernel
theorem dX8_runs_33 : decode cX8_runs 33 = .ok (.getfield 13, 3) := by decide +kernel
theorem dX8_runs_36 : decode cX8_runs 36 = .ok (.bipush 7, 2) := by decide +kernel
theorem dX8_runs_38 : decode cX8_runs 38 = .ok (.iaload, 1) := by decide +kernel
theorem dX8_runs_39 : decode cX8_runs 39 = .ok (.istore 6, 2) := by decide +kernel
theorem dX8_runs_41 : decode cX8_runs 41 = .ok (.iconst 0, 1) := by decide +kernel
theorem dX8_runs_42 : decode cX8_runs 42 = .ok (.istore 7, 2) := by decide +kernel
theorem dX8_runs_44 : decode cX8_runs 44 = .ok (.iload 7, 2) := by decide +kernel
theorem dX8_runs_46 : decode cX8_runs 46 = .ok (.iload_n 1, 1) := by decide +kernel
theorem dX8_runs_47 : decode cX8_runs 47 = .ok (.if_icmp .ge 386, 3) := by decide +kernel
theorem dX8_runs_50 : decode cX8_runs 50 = .ok (.iload 7, 2) := by decide +kernel
theorem dX8_runs_52 : decode cX8_runs 52 = .ok (.bipush 24, 2) := by decide +kernel
theorem dX8_runs_54 : decode cX8_runs 54 = .ok (.irem, 1) := by decide +kernel
theorem dX8_runs_55 : decode cX8_runs 55 = .ok (.iload_n 3, 1) := by decide +kernel
theorem dX8_runs_56 : decode cX8_runs 56 = .ok (.if_icmp .ne 8, 3) := by decide +kernel
theorem dX8_runs_59 : decode cX8_runs 59 = .ok (.iload 4, 2) := by decide +kernel
theorem dX8_runs_61 : decode cX8_runs 61 = .ok (.goto 4, 3) := by decide +kernel
theorem dX8_runs_64 : decode cX8_runs 64 = .ok (.iconst 0, 1) := by decide +kernel
theorem dX8_runs_65 : decode cX8_runs 65 = .ok (.istore 8, 2) := by decide +kernel
theorem dX8_runs_67 : decode cX8_runs 67 = .ok (.iload 5, 2) := by decide +kernel
theorem dX8_runs_69 : decode cX8_runs 69 = .ok (.iload 8, 2) := by decide +kernel
theorem dX8_runs_71 : decode cX8_runs 71 = .ok (.iload 5, 2) := by decide +kernel
theorem dX8_runs_73 : decode cX8_runs 73 = .ok (.if_icmp .ge 8, 3) := by decide +kernel
theorem dX8_runs_76 : decode cX8_runs 76 = .ok (.iload 8, 2) := by decide +kernel
theorem dX8_runs_78 : decode cX8_runs 78 = .ok (.goto 5, 3) := by decide +kernel
theorem dX8_runs_81 : decode cX8_runs 81 = .ok (.iload 5, 2) := by decide +kernel
theorem dX8_runs_83 : decode cX8_runs 83 = .ok (.isub, 1) := by decide +kernel
theorem dX8_runs_84 : decode cX8_runs 84 = .ok (.istore 5, 2) := by decide +kernel
theorem dX8_runs_86 : decode cX8_runs 86 = .ok (.iload 5, 2) := by decide +kernel
theorem dX8_runs_88 : decode cX8_runs 88 = .ok (.aload_n 0, 1) := by decide +kernel
theorem dX8_runs_89 : decode cX8_runs 89 = .ok (.getfield 46, 3) := by decide +kernel
theorem dX8_runs_92 : decode cX8_runs 92 = .ok (.iload 7, 2) := by decide +kernel
theorem dX8_runs_94 : decode cX8_runs 94 = .ok (.bipush 24, 2) := by decide +kernel
theorem dX8_runs_96 : decode cX8_runs 96 = .ok (.irem, 1) := by decide +kernel
theorem dX8_runs_97 : decode cX8_runs 97 = .ok (.iaload, 1) := by decide +kernel
theorem dX8_runs_98 : decode cX8_runs 98 = .ok (.iadd, 1) := by decide +kernel
theorem dX8_runs_99 : decode cX8_runs 99 = .ok (.istore 9, 2) := by decide +kernel
theorem dX8_runs_101 : decode cX8_runs 101 = .ok (.aload_n 0, 1) := by decide +kernel
theorem dX8_runs_102 : decode cX8_runs 102 = .ok (.getfield 55, 3) := by decide +kernel
theorem dX8_runs_105 : decode cX8_runs 105 = .ok (.iload 7, 2) := by decide +kernel
theorem dX8_runs_107 : decode cX8_runs 107 = .ok (.iload 9, 2) := by decide +kernel
theorem dX8_runs_109 : decode cX8_runs 109 = .ok (.aload_n 0, 1) := by decide +kernel
theorem dX8_runs_110 : decode cX8_runs 110 = .ok (.getfield 13, 3) := by decide +kernel
theorem dX8_runs_113 : decode cX8_runs 113 = .ok (.iconst 1, 1) := by decide +kernel
theorem dX8_runs_114 : decode cX8_runs 114 = .ok (.iaload, 1) := by decide +kernel
theorem dX8_runs_115 : decode cX8_runs 115 = .ok (.if_icmp .le 15, 3) := by decide +kernel
theorem dX8_runs_118 : decode cX8_runs 118 = .ok (.iload 9, 2) := by decide +kernel
theorem dX8_runs_120 : decode cX8_runs 120 = .ok (.aload_n 0, 1) := by decide +kernel
theorem dX8_runs_121 : decode cX8_runs 121 = .ok (.getfield 13, 3) := by decide +kernel
theorem dX8_runs_124 : decode cX8_runs 124 = .ok (.iconst 1, 1) := by decide +kernel
theorem dX8_runs_125 : decode cX8_runs 125 = .ok (.iaload, 1) := by decide +kernel
theorem dX8_runs_126 : decode cX8_runs 126 = .ok (.isub, 1) := by decide +kernel
theorem dX8_runs_127 : decode cX8_runs 127 = .ok (.goto 4, 3) := by decide +kernel
theorem dX8_runs_130 : decode cX8_runs 130 = .ok (.iconst 0, 1) := by decide +kernel
theorem dX8_runs_131 : decode cX8_runs 131 = .ok (.iastore, 1) := by decide +kernel
theorem dX8_runs_132 : decode cX8_runs 132 = .ok (.iload 9, 2) := by decide +kernel
theorem dX8_runs_134 : decode cX8_runs 134 = .ok (.aload_n 0, 1) := by decide +kernel
theorem dX8_runs_135 : decode cX8_runs 135 = .ok (.getfield 55, 3) := by decide +kernel
theorem dX8_runs_138 : decode cX8_runs 138 = .ok (.iload 7, 2) := by decide +kernel
theorem dX8_runs_140 : decode cX8_runs 140 = .ok (.iaload, 1) := by decide +kernel
theorem dX8_runs_141 : decode cX8_runs 141 = .ok (.isub, 1) := by decide +kernel
theorem dX8_runs_142 : decode cX8_runs 142 = .ok (.istore 5, 2) := by decide +kernel
theorem dX8_runs_144 : decode cX8_runs 144 = .ok (.aload_n 0, 1) := by decide +kernel
theorem dX8_runs_145 : decode cX8_runs 145 = .ok (.getfield 61, 3) := by decide +kernel
theorem dX8_runs_148 : decode cX8_runs 148 = .ok (.iload 7, 2) := by decide +kernel
theorem dX8_runs_150 : decode cX8_runs 150 = .ok (.iconst 0, 1) := by decide +kernel
theorem dX8_runs_151 : decode cX8_runs 151 = .ok (.iastore, 1) := by decide +kernel
theorem dX8_runs_152 : decode cX8_runs 152 = .ok (.iconst 0, 1) := by decide +kernel
theorem dX8_runs_153 : decode cX8_runs 153 = .ok (.istore 10, 2) := by decide +kernel
theorem dX8_runs_155 : decode cX8_runs 155 = .ok (.iload 10, 2) := by decide +kernel
theorem dX8_runs_157 : decode cX8_runs 157 = .ok (.aload_n 0, 1) := by decide +kernel
theorem dX8_runs_158 : decode cX8_runs 158 = .ok (.getfield 117, 3) := by decide +kernel
theorem dX8_runs_161 : decode cX8_runs 161 = .ok (.if_icmp .ge 84, 3) := by decide +kernel
theorem dX8_runs_164 : decode cX8_runs 164 = .ok (.aload_n 0, 1) := by decide +kernel
theorem dX8_runs_165 : decode cX8_runs 165 = .ok (.iload 10, 2) := by decide +kernel
theorem dX8_runs_167 : decode cX8_runs 167 = .ok (.iload 7, 2) := by decide +kernel
theorem dX8_runs_169 : decode cX8_runs 169 = .ok (.iload_n 2, 1) := by decide +kernel
theorem dX8_runs_170 : decode cX8_runs 170 = .ok (.invokevirtual 181, 3) := by decide +kernel
theorem dX8_runs_173 : decode cX8_runs 173 = .ok (.ifCond .eq 66, 3) := by decide +kernel
theorem dX8_runs_176 : decode cX8_runs 176 = .ok (.iload 5, 2) := by decide +kernel
theorem dX8_runs_178 : decode cX8_runs 178 = .ok (.aload_n 0, 1) := by decide +kernel
theorem dX8_runs_179 : decode cX8_runs 179 = .ok (.getfield 16, 3) := by decide +kernel
theorem dX8_runs_182 : decode cX8_runs 182 = .ok (.iload 10, 2) := by decide +kernel
theorem dX8_runs_184 : decode cX8_runs 184 = .ok (.iaload, 1) := by decide +kernel
theorem dX8_runs_185 : decode cX8_runs 185 = .ok (.if_icmp .lt 7, 3) := by decide +kernel
theorem dX8_runs_188 : decode cX8_runs 188 = .ok (.iconst 1, 1) := by decide +kernel
theorem dX8_runs_189 : decode cX8_runs 189 = .ok (.goto 4, 3) := by decide +kernel
theorem dX8_runs_192 : decode cX8_runs 192 = .ok (.iconst 0, 1) := by decide +kernel
theorem dX8_runs_193 : decode cX8_runs 193 = .ok (.istore 11, 2) := by decide +kernel
theorem dX8_runs_195 : decode cX8_runs 195 = .ok (.iload 5, 2) := by decide +kernel
theorem dX8_runs_197 : decode cX8_runs 197 = .ok (.iload 11, 2) := by decide +kernel
theorem dX8_runs_199 : decode cX8_runs 199 = .ok (.ifCond .eq 13, 3) := by decide +kernel
theorem dX8_runs_202 : decode cX8_runs 202 = .ok (.aload_n 0, 1) := by decide +kernel
theorem dX8_runs_203 : decode cX8_runs 203 = .ok (.getfield 16, 3) := by decide +kernel
theorem dX8_runs_206 : decode cX8_runs 206 = .ok (.iload 10, 2) := by decide +kernel
theorem dX8_runs_208 : decode cX8_runs 208 = .ok (.iaload, 1) := by decide +kernel
theorem dX8_runs_209 : decode cX8_runs 209 = .ok (.goto 4, 3) := by decide +kernel
theorem dX8_runs_212 : decode cX8_runs 212 = .ok (.iconst 0, 1) := by decide +kernel
theorem dX8_runs_213 : decode cX8_runs 213 = .ok (.isub, 1) := by decide +kernel
theorem dX8_runs_214 : decode cX8_runs 214 = .ok (.istore 5, 2) := by decide +kernel
theorem dX8_runs_216 : decode cX8_runs 216 = .ok (.aload_n 0, 1) := by decide +kernel
theorem dX8_runs_217 : decode cX8_runs 217 = .ok (.getfield 61, 3) := by decide +kernel
theorem dX8_runs_220 : decode cX8_runs 220 = .ok (.iload 7, 2) := by decide +kernel
theorem dX8_runs_222 : decode cX8_runs 222 = .ok (.dup2, 1) := by decide +kernel
theorem dX8_runs_223 : decode cX8_runs 223 = .ok (.iaload, 1) := by decide +kernel
theorem dX8_runs_224 : decode cX8_runs 224 = .ok (.iload 11, 2) := by decide +kernel
theorem dX8_runs_226 : decode cX8_runs 226 = .ok (.ifCond .eq 7, 3) := by decide +kernel
theorem dX8_runs_229 : decode cX8_runs 229 = .ok (.iconst 0, 1) := by decide +kernel
theorem dX8_runs_230 : decode cX8_runs 230 = .ok (.goto 7, 3) := by decide +kernel
theorem dX8_runs_233 : decode cX8_runs 233 = .ok (.iconst 1, 1) := by decide +kernel
theorem dX8_runs_234 : decode cX8_runs 234 = .ok (.iload 10, 2) := by decide +kernel
theorem dX8_runs_236 : decode cX8_runs 236 = .ok (.ishl, 1) := by decide +kernel
theorem dX8_runs_237 : decode cX8_runs 237 = .ok (.ior, 1) := by decide +kernel
theorem dX8_runs_238 : decode cX8_runs 238 = .ok (.iastore, 1) := by decide +kernel
theorem dX8_runs_239 : decode cX8_runs 239 = .ok (.iinc 10 1, 3) := by decide +kernel
theorem dX8_runs_242 : decode cX8_runs 242 = .ok (.goto (-87), 3) := by decide +kernel
theorem dX8_runs_245 : decode cX8_runs 245 = .ok (.iload 5, 2) := by decide +kernel
theorem dX8_runs_247 : decode cX8_runs 247 = .ok (.iload 5, 2) := by decide +kernel
theorem dX8_runs_249 : decode cX8_runs 249 = .ok (.aload_n 0, 1) := by decide +kernel
theorem dX8_runs_250 : decode cX8_runs 250 = .ok (.getfield 13, 3) := by decide +kernel
theorem dX8_runs_253 : decode cX8_runs 253 = .ok (.iconst 3, 1) := by decide +kernel
theorem dX8_runs_254 : decode cX8_runs 254 = .ok (.iaload, 1) := by decide +kernel
theorem dX8_runs_255 : decode cX8_runs 255 = .ok (.imul, 1) := by decide +kernel
theorem dX8_runs_256 : decode cX8_runs 256 = .ok (.bipush 100, 2) := by decide +kernel
theorem dX8_runs_258 : decode cX8_runs 258 = .ok (.idiv, 1) := by decide +kernel
theorem dX8_runs_259 : decode cX8_runs 259 = .ok (.isub, 1) := by decide +kernel
theorem dX8_runs_260 : decode cX8_runs 260 = .ok (.istore 5, 2) := by decide +kernel
theorem dX8_runs_262 : decode cX8_runs 262 = .ok (.iload 6, 2) := by decide +kernel
theorem dX8_runs_264 : decode cX8_runs 264 = .ok (.iload 6, 2) := by decide +kernel
theorem dX8_runs_266 : decode cX8_runs 266 = .ok (.aload_n 0, 1) := by decide +kernel
theorem dX8_runs_267 : decode cX8_runs 267 = .ok (.getfield 13, 3) := by decide +kernel
theorem dX8_runs_270 : decode cX8_runs 270 = .ok (.bipush 8, 2) := by decide +kernel
theorem dX8_runs_272 : decode cX8_runs 272 = .ok (.iaload, 1) := by decide +kernel
theorem dX8_runs_273 : decode cX8_runs 273 = .ok (.if_icmp .ge 8, 3) := by decide +kernel
theorem dX8_runs_276 : decode cX8_runs 276 = .ok (.iload 6, 2) := by decide +kernel
theorem dX8_runs_278 : decode cX8_runs 278 = .ok (.goto 10, 3) := by decide +kernel
theorem dX8_runs_281 : decode cX8_runs 281 = .ok (.aload_n 0, 1) := by decide +kernel
theorem dX8_runs_282 : decode cX8_runs 282 = .ok (.getfield 13, 3) := by decide +kernel
theorem dX8_runs_285 : decode cX8_runs 285 = .ok (.bipush 8, 2) := by decide +kernel
theorem dX8_runs_287 : decode cX8_runs 287 = .ok (.iaload, 1) := by decide +kernel
theorem dX8_runs_288 : decode cX8_runs 288 = .ok (.isub, 1) := by decide +kernel
theorem dX8_runs_289 : decode cX8_runs 289 = .ok (.istore 6, 2) := by decide +kernel
theorem dX8_runs_291 : decode cX8_runs 291 = .ok (.iload 6, 2) := by decide +kernel
theorem dX8_runs_293 : decode cX8_runs 293 = .ok (.iload 5, 2) := by decide +kernel
theorem dX8_runs_295 : decode cX8_runs 295 = .ok (.if_icmp .le 11, 3) := by decide +kernel
theorem dX8_runs_298 : decode cX8_runs 298 = .ok (.iload 6, 2) := by decide +kernel
theorem dX8_runs_300 : decode cX8_runs 300 = .ok (.iload 5, 2) := by decide +kernel
theorem dX8_runs_302 : decode cX8_runs 302 = .ok (.isub, 1) := by decide +kernel
theorem dX8_runs_303 : decode cX8_runs 303 = .ok (.goto 8, 3) := by decide +kernel
theorem dX8_runs_306 : decode cX8_runs 306 = .ok (.iload 5, 2) := by decide +kernel
theorem dX8_runs_308 : decode cX8_runs 308 = .ok (.iload 6, 2) := by decide +kernel
theorem dX8_runs_310 : decode cX8_runs 310 = .ok (.isub, 1) := by decide +kernel
theorem dX8_runs_311 : decode cX8_runs 311 = .ok (.iconst 2, 1) := by decide +kernel
theorem dX8_runs_312 : decode cX8_runs 312 = .ok (.idiv, 1) := by decide +kernel
theorem dX8_runs_313 : decode cX8_runs 313 = .ok (.istore 10, 2) := by decide +kernel
theorem dX8_runs_315 : decode cX8_runs 315 = .ok (.iload 10, 2) := by decide +kernel
theorem dX8_runs_317 : decode cX8_runs 317 = .ok (.aload_n 0, 1) := by decide +kernel
theorem dX8_runs_318 : decode cX8_runs 318 = .ok (.getfield 13, 3) := by decide +kernel
theorem dX8_runs_321 : decode cX8_runs 321 = .ok (.bipush 6, 2) := by decide +kernel
theorem dX8_runs_323 : decode cX8_runs 323 = .ok (.iaload, 1) := by decide +kernel
theorem dX8_runs_324 : decode cX8_runs 324 = .ok (.if_icmp .ge 8, 3) := by decide +kernel
theorem dX8_runs_327 : decode cX8_runs 327 = .ok (.iload 10, 2) := by decide +kernel
theorem dX8_runs_329 : decode cX8_runs 329 = .ok (.goto 10, 3) := by decide +kernel
theorem dX8_runs_332 : decode cX8_runs 332 = .ok (.aload_n 0, 1) := by decide +kernel
theorem dX8_runs_333 : decode cX8_runs 333 = .ok (.getfield 13, 3) := by decide +kernel
theorem dX8_runs_336 : decode cX8_runs 336 = .ok (.bipush 6, 2) := by decide +kernel
theorem dX8_runs_338 : decode cX8_runs 338 = .ok (.iaload, 1) := by decide +kernel
theorem dX8_runs_339 : decode cX8_runs 339 = .ok (.istore 11, 2) := by decide +kernel
theorem dX8_runs_341 : decode cX8_runs 341 = .ok (.iload 6, 2) := by decide +kernel
theorem dX8_runs_343 : decode cX8_runs 343 = .ok (.iload 5, 2) := by decide +kernel
theorem dX8_runs_345 : decode cX8_runs 345 = .ok (.if_icmp .le 36, 3) := by decide +kernel
theorem dX8_runs_348 : decode cX8_runs 348 = .ok (.iload 11, 2) := by decide +kernel
theorem dX8_runs_350 : decode cX8_runs 350 = .ok (.aload_n 0, 1) := by decide +kernel
theorem dX8_runs_351 : decode cX8_runs 351 = .ok (.getfield 13, 3) := by decide +kernel
theorem dX8_runs_354 : decode cX8_runs 354 = .ok (.iconst 1, 1) := by decide +kernel
theorem dX8_runs_355 : decode cX8_runs 355 = .ok (.iaload, 1) := by decide +kernel
theorem dX8_runs_356 : decode cX8_runs 356 = .ok (.iload 5, 2) := by decide +kernel
theorem dX8_runs_358 : decode cX8_runs 358 = .ok (.isub, 1) := by decide +kernel
theorem dX8_runs_359 : decode cX8_runs 359 = .ok (.if_icmp .ge 8, 3) := by decide +kernel
theorem dX8_runs_362 : decode cX8_runs 362 = .ok (.iload 11, 2) := by decide +kernel
theorem dX8_runs_364 : decode cX8_runs 364 = .ok (.goto 12, 3) := by decide +kernel
theorem dX8_runs_367 : decode cX8_runs 367 = .ok (.aload_n 0, 1) := by decide +kernel
theorem dX8_runs_368 : decode cX8_runs 368 = .ok (.getfield 13, 3) := by decide +kernel
theorem dX8_runs_371 : decode cX8_runs 371 = .ok (.iconst 1, 1) := by decide +kernel
theorem dX8_runs_372 : decode cX8_runs 372 = .ok (.iaload, 1) := by decide +kernel
theorem dX8_runs_373 : decode cX8_runs 373 = .ok (.iload 5, 2) := by decide +kernel
theorem dX8_runs_375 : decode cX8_runs 375 = .ok (.isub, 1) := by decide +kernel
theorem dX8_runs_376 : decode cX8_runs 376 = .ok (.istore 11, 2) := by decide +kernel
theorem dX8_runs_378 : decode cX8_runs 378 = .ok (.goto 8, 3) := by decide +kernel
theorem dX8_runs_381 : decode cX8_runs 381 = .ok (.iload 11, 2) := by decide +kernel
theorem dX8_runs_383 : decode cX8_runs 383 = .ok (.ineg, 1) := by decide +kernel
theorem dX8_runs_384 : decode cX8_runs 384 = .ok (.istore 11, 2) := by decide +kernel
theorem dX8_runs_386 : decode cX8_runs 386 = .ok (.iload 5, 2) := by decide +kernel
theorem dX8_runs_388 : decode cX8_runs 388 = .ok (.iload 11, 2) := by decide +kernel
theorem dX8_runs_390 : decode cX8_runs 390 = .ok (.iadd, 1) := by decide +kernel
theorem dX8_runs_391 : decode cX8_runs 391 = .ok (.istore 5, 2) := by decide +kernel
theorem dX8_runs_393 : decode cX8_runs 393 = .ok (.iload 6, 2) := by decide +kernel
theorem dX8_runs_395 : decode cX8_runs 395 = .ok (.iload 11, 2) := by decide +kernel
theorem dX8_runs_397 : decode cX8_runs 397 = .ok (.isub, 1) := by decide +kernel
theorem dX8_runs_398 : decode cX8_runs 398 = .ok (.istore 6, 2) := by decide +kernel
theorem dX8_runs_400 : decode cX8_runs 400 = .ok (.aload_n 0, 1) := by decide +kernel
theorem dX8_runs_401 : decode cX8_runs 401 = .ok (.getfield 49, 3) := by decide +kernel
theorem dX8_runs_404 : decode cX8_runs 404 = .ok (.iload 7, 2) := by decide +kernel
theorem dX8_runs_406 : decode cX8_runs 406 = .ok (.iload 5, 2) := by decide +kernel
theorem dX8_runs_408 : decode cX8_runs 408 = .ok (.iastore, 1) := by decide +kernel
theorem dX8_runs_409 : decode cX8_runs 409 = .ok (.aload_n 0, 1) := by decide +kernel
theorem dX8_runs_410 : decode cX8_runs 410 = .ok (.getfield 52, 3) := by decide +kernel
theorem dX8_runs_413 : decode cX8_runs 413 = .ok (.iload 7, 2) := by decide +kernel
theorem dX8_runs_415 : decode cX8_runs 415 = .ok (.iload 6, 2) := by decide +kernel
theorem dX8_runs_417 : decode cX8_runs 417 = .ok (.iastore, 1) := by decide +kernel
theorem dX8_runs_418 : decode cX8_runs 418 = .ok (.aload_n 0, 1) := by decide +kernel
theorem dX8_runs_419 : decode cX8_runs 419 = .ok (.getfield 58, 3) := by decide +kernel
theorem dX8_runs_422 : decode cX8_runs 422 = .ok (.iload 7, 2) := by decide +kernel
theorem dX8_runs_424 : decode cX8_runs 424 = .ok (.iload 11, 2) := by decide +kernel
theorem dX8_runs_426 : decode cX8_runs 426 = .ok (.iastore, 1) := by decide +kernel
theorem dX8_runs_427 : decode cX8_runs 427 = .ok (.iinc 7 1, 3) := by decide +kernel
theorem dX8_runs_430 : decode cX8_runs 430 = .ok (.goto (-386), 3) := by decide +kernel
theorem dX8_runs_433 : decode cX8_runs 433 = .ok (.return_, 1) := by decide +kernel
abbrev rmX8_runs : Room := { frames := 2, cells := 0, slots := 0, locals := 46 }
set_option maxHeartbeats 4000000 in
set_option maxRecDepth 100000 in
theorem wX8_runs_239 (Cx : ms_C p s m args meth c D cA a shM cX8_runs 12 RX8 none) (out : Mm) (K155 : Int32 → Int32 → Int32 → Int32 → Int32 → Int32 → Int32 → Int32 → Mm → Option (Mm)) (hK155 : ∀ (y1 : Int32) (y2 : Int32) (y3 : Int32) (y4 : Int32) (y5 : Int32) (y6 : Int32) (y7 : Int32) (y8 : Int32) , ∀ (σ : Mm) (H : Heap) (locs : List Loc) (ls : Array Slot), ms_I D cA a shM s σ H locs → lv_has ls 12 [(0, .ref (a 0)), (1, .int y1), (2, .int y2), (3, .int y3), (4, .int y4), (5, .int y5), (6, .int y6), (7, .int y7), (10, .int y8)] → K155 y1 y2 y3 y4 y5 y6 y7 y8 σ = some out → W p l e rmX8_runs s m args below meth c H locs 0 0 (MQ below (ms_Qv D cA a shM out) args s 0 0 (ms_A a shM.length)) (F0 m 155 ls [])) : ∀ (y1 : Int32) (y2 : Int32) (y3 : Int32) (y4 : Int32) (y5 : Int32) (y6 : Int32) (y7 : Int32) (y8 : Int32) , ∀ (σ : Mm) (H : Heap) (locs : List Loc) (ls : Array Slot), ms_I D cA a shM s σ H locs → lv_has ls 12 [(0, .ref (a 0)), (1, .int y1), (2, .int y2), (3, .int y3), (4, .int y4), (5, .int y5), (6, .int y6), (7, .int y7), (10, .int y8)] → fX8_runs_239 K155 y1 y2 y3 y4 y5 y6 y7 y8 σ = some out → W p l e rmX8_runs s m args below meth c H locs 0 0 (MQ below (ms_Qv D cA a shM out) args s 0 0 (ms_A a shM.length)) (F0 m 239 ls []) := by
  have hx := Cx.1
  have hb := Cx.2.1
  intro y1 y2 y3 y4 y5 y6 y7 y8 σ H locs ls hI hl h
  unfold fX8_runs_239 at h
  refine lv_iinc (v := y8 + 1) (lv' := [(10, .int (y8 + 1)), (0, .ref (a 0)), (1, .int y1), (2, .int y2), (3, .int y3), (4, .int y4), (5, .int y5), (6, .int y6), (7, .int y7)]) hx hb dX8_runs_239 hl (k := 8) rfl rfl (by decide) rfl (fun ls hl => ?_)
  refine lv_goto (tgt := 155) hx hb dX8_runs_242 rfl ?_
  exact hK155 y1 y2 y3 y4 y5 y6 y7 (y8 + 1) σ _ _ _ hI (lv_sub hl [1, 2, 3, 4, 5, 6, 7, 8, 0] rfl) h
set_option maxHeartbeats 4000000 in
set_option maxRecDepth 100000 in
theorem wX8_runs_237 (Cx : ms_C p s m args meth c D cA a shM cX8_runs 12 RX8 none) (out : Mm) (K155 : Int32 → Int32 → Int32 → Int32 → Int32 → Int32 → Int32 → Int32 → Mm → Option (Mm)) (hK155 : ∀ (y1 : Int32) (y2 : Int32) (y3 : Int32) (y4 : Int32) (y5 : Int32) (y6 : Int32) (y7 : Int32) (y8 : Int32) , ∀ (σ : Mm) (H : Heap) (locs : List Loc) (ls : Array Slot), ms_I D cA a shM s σ H locs → lv_has ls 12 [(0, .ref (a 0)), (1, .int y1), (2, .int y2), (3, .int y3), (4, .int y4), (5, .int y5), (6, .int y6), (7, .int y7), (10, .int y8)] → K155 y1 y2 y3 y4 y5 y6 y7 y8 σ = some out → W p l e rmX8_runs s m args below meth c H locs 0 0 (MQ below (ms_Qv D cA a shM out) args s 0 0 (ms_A a shM.length)) (F0 m 155 ls [])) : ∀ (y1 : Int32) (y2 : Int32) (y3 : Int32) (y4 : Int32) (y5 : Int32) (y6 : Int32) (y7 : Int32) (y8 : Int32) (y9 : Int32) (y10 : Int32) (y11 : Int32) , ∀ (σ : Mm) (H : Heap) (locs : List Loc) (ls : Array Slot), ms_I D cA a shM s σ H locs → lv_has ls 12 [(0, .ref (a 0)), (1, .int y1), (2, .int y2), (3, .int y3), (4, .int y4), (5, .int y5), (6, .int y6), (7, .int y7), (10, .int y8)] → fX8_runs_237 K155 y1 y2 y3 y4 y5 y6 y7 y8 y9 y10 y11 σ = some out → W p l e rmX8_runs s m args below meth c H locs 0 0 (MQ below (ms_Qv D cA a shM out) args s 0 0 (ms_A a shM.length)) (F0 m 237 ls [.int y9, .int y10, .int y11, .ref (a 18)]) := by
  have hx := Cx.1
  have hb := Cx.2.1
  intro y1 y2 y3 y4 y5 y6 y7 y8 y9 y10 y11 σ H locs ls hI hl h
  unfold fX8_runs_237 at h
  refine lv_ior hx hb dX8_runs_237 ?_
  obtain ⟨hg, h⟩ := ms_gE h
  refine ms_sto Cx hI 18 shM_18 hg dX8_runs_238 (fun H locs σ1 eσ1 hI => ?_)
  have h := ms_ltE eσ1 h
  exact wX8_runs_239 Cx out K155 hK155 y1 y2 y3 y4 y5 y6 y7 y8 σ1 _ _ _ hI (lv_sub hl [0, 1, 2, 3, 4, 5, 6, 7, 8] rfl) h
set_option maxHeartbeats 4000000 in
set_option maxRecDepth 100000 in
theorem wX8_runs_213 (Cx : ms_C p s m args meth c D cA a shM cX8_runs 12 RX8 none) (out : Mm) (K155 : Int32 → Int32 → Int32 → Int32 → Int32 → Int32 → Int32 → Int32 → Mm → Option (Mm)) (hK155 : ∀ (y1 : Int32) (y2 : Int32) (y3 : Int32) (y4 : Int32) (y5 : Int32) (y6 : Int32) (y7 : Int32) (y8 : Int32) , ∀ (σ : Mm) (H : Heap) (locs : List Loc) (ls : Array Slot), ms_I D cA a shM s σ H locs → lv_has ls 12 [(0, .ref (a 0)), (1, .int y1), (2, .int y2), (3, .int y3), (4, .int y4), (5, .int y5), (6, .int y6), (7, .int y7), (10, .int y8)] → K155 y1 y2 y3 y4 y5 y6 y7 y8 σ = some out → W p l e rmX8_runs s m args below meth c H locs 0 0 (MQ below (ms_Qv D cA a shM out) args s 0 0 (ms_A a shM.length)) (F0 m 155 ls [])) : ∀ (y1 : Int32) (y2 : Int32) (y3 : Int32) (y4 : Int32) (y5 : Int32) (y6 : Int32) (y7 : Int32) (y8 : Int32) (y9 : Int32) (y10 : Int32) , ∀ (σ : Mm) (H : Heap) (locs : List Loc) (ls : Array Slot), ms_I D cA a shM s σ H locs → lv_has ls 12 [(0, .ref (a 0)), (1, .int y1), (2, .int y2), (3, .int y3), (4, .int y4), (6, .int y5), (7, .int y6), (10, .int y7), (11, .int y8)] → fX8_runs_213 K155 y1 y2 y3 y4 y5 y6 y7 y8 y9 y10 σ = some out → W p l e rmX8_runs s m args below meth c H locs 0 0 (MQ below (ms_Qv D cA a shM out) args s 0 0 (ms_A a shM.length)) (F0 m 213 ls [.int y9, .int y10]) := by
  have hx := Cx.1
  have hb := Cx.2.1
  intro y1 y2 y3 y4 y5 y6 y7 y8 y9 y10 σ H locs ls hI hl h
  unfold fX8_runs_213 at h
  refine lv_isub hx hb dX8_runs_213 ?_
  refine lv_istore (lv' := [(5, .int (y10 - y9)), (0, .ref (a 0)), (1, .int y1), (2, .int y2), (3, .int y3), (4, .int y4), (6, .int y5), (7, .int y6), (10, .int y7), (11, .int y8)]) hx hb dX8_runs_214 hl (by decide) rfl (fun ls hl => ?_)
  refine lv_aload_n hx hb dX8_runs_216 rfl (lv_at hl 1 rfl) ?_
  refine gr_X8_21 Cx hI wd_7_6 dX8_runs_217 ?_
  refine lv_iload hx hb dX8_runs_220 (lv_at hl 7 rfl) ?_
  refine lv_dup2_11 hx hb dX8_runs_222 rfl rfl ?_
  obtain ⟨hg, h⟩ := ms_gE h
  refine ms_ld Cx hI 18 shM_18 hg dX8_runs_223 ?_
  refine lv_iload hx hb dX8_runs_224 (lv_at hl 9 rfl) ?_
  refine lv_if_eq (tgt := 233) hx hb dX8_runs_226 rfl (fun hc => ?_) (fun hc => ?_)
  · have h := ms_ifT hc h
    refine lv_iconst (v := 1) hx hb dX8_runs_233 rfl ?_
    refine lv_iload hx hb dX8_runs_234 (lv_at hl 8 rfl) ?_
    refine lv_ishl hx hb dX8_runs_236 ?_
    exact wX8_runs_237 Cx out K155 hK155 y1 y2 y3 y4 (y10 - y9) y5 y6 y7 (ms_shl 1 y7) (σ 18 (ms_ix y6)) y6 σ _ _ _ hI (lv_sub hl [1, 2, 3, 4, 5, 0, 6, 7, 8] rfl) h
  · have h := ms_ifF hc h
    refine lv_iconst (v := 0) hx hb dX8_runs_229 rfl ?_
    refine lv_goto (tgt := 237) hx hb dX8_runs_230 rfl ?_
    exact wX8_runs_237 Cx out K155 hK155 y1 y2 y3 y4 (y10 - y9) y5 y6 y7 0 (σ 18 (ms_ix y6)) y6 σ _ _ _ hI (lv_sub hl [1, 2, 3, 4, 5, 0, 6, 7, 8] rfl) h
set_option maxHeartbeats 4000000 in
set_option maxRecDepth 100000 in
theorem wX8_runs_193 (Cx : ms_C p s m args meth c D cA a shM cX8_runs 12 RX8 none) (out : Mm) (K155 : Int32 → Int32 → Int32 → Int32 → Int32 → Int32 → Int32 → Int32 → Mm → Option (Mm)) (hK155 : ∀ (y1 : Int32) (y2 : Int32) (y3 : Int32) (y4 : Int32) (y5 : Int32) (y6 : Int32) (y7 : Int32) (y8 : Int32) , ∀ (σ : Mm) (H : Heap) (locs : List Loc) (ls : Array Slot), ms_I D cA a shM s σ H locs → lv_has ls 12 [(0, .ref (a 0)), (1, .int y1), (2, .int y2), (3, .int y3), (4, .int y4), (5, .int y5), (6, .int y6), (7, .int y7), (10, .int y8)] → K155 y1 y2 y3 y4 y5 y6 y7 y8 σ = some out → W p l e rmX8_runs s m args below meth c H locs 0 0 (MQ below (ms_Qv D cA a shM out) args s 0 0 (ms_A a shM.length)) (F0 m 155 ls [])) : ∀ (y1 : Int32) (y2 : Int32) (y3 : Int32) (y4 : Int32) (y5 : Int32) (y6 : Int32) (y7 : Int32) (y8 : Int32) (y9 : Int32) , ∀ (σ : Mm) (H : Heap) (locs : List Loc) (ls : Array Slot), ms_I D cA a shM s σ H locs → lv_has ls 12 [(0, .ref (a 0)), (1, .int y1), (2, .int y2), (3, .int y3), (4, .int y4), (5, .int y5), (6, .int y6), (7, .int y7), (10, .int y8)] → fX8_runs_193 K155 y1 y2 y3 y4 y5 y6 y7 y8 y9 σ = some out → W p l e rmX8_runs s m args below meth c H locs 0 0 (MQ below (ms_Qv D cA a shM out) args s 0 0 (ms_A a shM.length)) (F0 m 193 ls [.int y9]) := by
  have hx := Cx.1
  have hb := Cx.2.1
  intro y1 y2 y3 y4 y5 y6 y7 y8 y9 σ H locs ls hI hl h
  unfold fX8_runs_193 at h
  refine lv_istore (lv' := [(11, .int y9), (0, .ref (a 0)), (1, .int y1), (2, .int y2), (3, .int y3), (4, .int y4), (5, .int y5), (6, .int y6), (7, .int y7), (10, .int y8)]) hx hb dX8_runs_193 hl (by decide) rfl (fun ls hl => ?_)
  refine lv_iload hx hb dX8_runs_195 (lv_at hl 6 rfl) ?_
  refine lv_iload hx hb dX8_runs_197 (lv_at hl 0 rfl) ?_
  refine lv_if_eq (tgt := 212) hx hb dX8_runs_199 rfl (fun hc => ?_) (fun hc => ?_)
  · have h := ms_ifT hc h
    refine lv_iconst (v := 0) hx hb dX8_runs_212 rfl ?_
    exact wX8_runs_213 Cx out K155 hK155 y1 y2 y3 y4 y6 y7 y8 y9 0 y5 σ _ _ _ hI (lv_sub hl [1, 2, 3, 4, 5, 7, 8, 9, 0] rfl) h
  · have h := ms_ifF hc h
    refine lv_aload_n hx hb dX8_runs_202 rfl (lv_at hl 1 rfl) ?_
    refine gr_X8_4 Cx hI wd_6_15 dX8_runs_203 ?_
    refine lv_iload hx hb dX8_runs_206 (lv_at hl 9 rfl) ?_
    obtain ⟨hg, h⟩ := ms_gE h
    refine ms_ld Cx hI 3 shM_3 hg dX8_runs_208 ?_
    refine lv_goto (tgt := 213) hx hb dX8_runs_209 rfl ?_
    exact wX8_runs_213 Cx out K155 hK155 y1 y2 y3 y4 y6 y7 y8 y9 (σ 3 (ms_ix y8)) y5 σ _ _ _ hI (lv_sub hl [1, 2, 3, 4, 5, 7, 8, 9, 0] rfl) h
set_option maxHeartbeats 4000000 in
set_option maxRecDepth 100000 in
theorem wX8_runs_386 (Cx : ms_C p s m args meth c D cA a shM cX8_runs 12 RX8 none) (out : Mm) (K44 : Int32 → Int32 → Int32 → Int32 → Int32 → Int32 → Int32 → Mm → Option (Mm)) (hK44 : ∀ (y1 : Int32) (y2 : Int32) (y3 : Int32) (y4 : Int32) (y5 : Int32) (y6 : Int32) (y7 : Int32) , ∀ (σ : Mm) (H : Heap) (locs : List Loc) (ls : Array Slot), ms_I D cA a shM s σ H locs → lv_has ls 12 [(0, .ref (a 0)), (1, .int y1), (2, .int y2), (3, .int y3), (4, .int y4), (5, .int y5), (6, .int y6), (7, .int y7)] → K44 y1 y2 y3 y4 y5 y6 y7 σ = some out → W p l e rmX8_runs s m args below meth c H locs 0 0 (MQ below (ms_Qv D cA a shM out) args s 0 0 (ms_A a shM.length)) (F0 m 44 ls [])) : ∀ (y1 : Int32) (y2 : Int32) (y3 : Int32) (y4 : Int32) (y5 : Int32) (y6 : Int32) (y7 : Int32) (y8 : Int32) , ∀ (σ : Mm) (H : Heap) (locs : List Loc) (ls : Array Slot), ms_I D cA a shM s σ H locs → lv_has ls 12 [(0, .ref (a 0)), (1, .int y1), (2, .int y2), (3, .int y3), (4, .int y4), (5, .int y5), (6, .int y6), (7, .int y7), (11, .int y8)] → fX8_runs_386 K44 y1 y2 y3 y4 y5 y6 y7 y8 σ = some out → W p l e rmX8_runs s m args below meth c H locs 0 0 (MQ below (ms_Qv D cA a shM out) args s 0 0 (ms_A a shM.length)) (F0 m 386 ls []) := by
  have hx := Cx.1
  have hb := Cx.2.1
  intro y1 y2 y3 y4 y5 y6 y7 y8 σ H locs ls hI hl h
  unfold fX8_runs_386 at h
  refine lv_iload hx hb dX8_runs_386 (lv_at hl 5 rfl) ?_
  refine lv_iload hx hb dX8_runs_388 (lv_at hl 8 rfl) ?_
  refine lv_iadd hx hb dX8_runs_390 ?_
  refine lv_istore (lv' := [(5, .int (y5 + y8)), (0, .ref (a 0)), (1, .int y1), (2, .int y2), (3, .int y3), (4, .int y4), (6, .int y6), (7, .int y7), (11, .int y8)]) hx hb dX8_runs_391 hl (by decide) rfl (fun ls hl => ?_)
  refine lv_iload hx hb dX8_runs_393 (lv_at hl 6 rfl) ?_
  refine lv_iload hx hb dX8_runs_395 (lv_at hl 8 rfl) ?_
  refine lv_isub hx hb dX8_runs_397 ?_
  refine lv_istore (lv' := [(6, .int (y6 - y8)), (5, .int (y5 + y8)), (0, .ref (a 0)), (1, .int y1), (2, .int y2), (3, .int y3), (4, .int y4), (7, .int y7), (11, .int y8)]) hx hb dX8_runs_398 hl (by decide) rfl (fun ls hl => ?_)
  refine lv_aload_n hx hb dX8_runs_400 rfl (lv_at hl 2 rfl) ?_
  refine gr_X8_17 Cx hI wd_7_2 dX8_runs_401 ?_
  refine lv_iload hx hb dX8_runs_404 (lv_at hl 7 rfl) ?_
  refine lv_iload hx hb dX8_runs_406 (lv_at hl 1 rfl) ?_
  obtain ⟨hg, h⟩ := ms_gE h
  refine ms_sto Cx hI 14 shM_14 hg dX8_runs_408 (fun H locs σ1 eσ1 hI => ?_)
  have h := ms_ltE eσ1 h
  refine lv_aload_n hx hb dX8_runs_409 rfl (lv_at hl 2 rfl) ?_
  refine gr_X8_18 Cx hI wd_7_3 dX8_runs_410 ?_
  refine lv_iload hx hb dX8_runs_413 (lv_at hl 7 rfl) ?_
  refine lv_iload hx hb dX8_runs_415 (lv_at hl 0 rfl) ?_
  obtain ⟨hg, h⟩ := ms_gE h
  refine ms_sto Cx hI 15 shM_15 hg dX8_runs_417 (fun H locs σ2 eσ2 hI => ?_)
  have h := ms_ltE eσ2 h
  refine lv_aload_n hx hb dX8_runs_418 rfl (lv_at hl 2 rfl) ?_
  refine gr_X8_20 Cx hI wd_7_5 dX8_runs_419 ?_
  refine lv_iload hx hb dX8_runs_422 (lv_at hl 7 rfl) ?_
  refine lv_iload hx hb dX8_runs_424 (lv_at hl 8 rfl) ?_
  obtain ⟨hg, h⟩ := ms_gE h
  refine ms_sto Cx hI 17 shM_17 hg dX8_runs_426 (fun H locs σ3 eσ3 hI => ?_)
  have h := ms_ltE eσ3 h
  refine lv_iinc (v := y7 + 1) (lv' := [(7, .int (y7 + 1)), (6, .int (y6 - y8)), (5, .int (y5 + y8)), (0, .ref (a 0)), (1, .int y1), (2, .int y2), (3, .int y3), (4, .int y4), (11, .int y8)]) hx hb dX8_runs_427 hl (k := 7) rfl rfl (by decide) rfl (fun ls hl => ?_)
  refine lv_goto (tgt := 44) hx hb dX8_runs_430 rfl ?_
  exact hK44 y1 y2 y3 y4 (y5 + y8) (y6 - y8) (y7 + 1) σ3 _ _ _ hI (lv_sub hl [3, 4, 5, 6, 7, 2, 1, 0] rfl) h
set_option maxHeartbeats 4000000 in
set_option maxRecDepth 100000 in
theorem wX8_runs_376 (Cx : ms_C p s m args meth c D cA a shM cX8_runs 12 RX8 none) (out : Mm) (K44 : Int32 → Int32 → Int32 → Int32 → Int32 → Int32 → Int32 → Mm → Option (Mm)) (hK44 : ∀ (y1 : Int32) (y2 : Int32) (y3 : Int32) (y4 : Int32) (y5 : Int32) (y6 : Int32) (y7 : Int32) , ∀ (σ : Mm) (H : Heap) (locs : List Loc) (ls : Array Slot), ms_I D cA a shM s σ H locs → lv_has ls 12 [(0, .ref (a 0)), (1, .int y1), (2, .int y2), (3, .int y3), (4, .int y4), (5, .int y5), (6, .int y6), (7, .int y7)] → K44 y1 y2 y3 y4 y5 y6 y7 σ = some out → W p l e rmX8_runs s m args below meth c H locs 0 0 (MQ below (ms_Qv D cA a shM out) args s 0 0 (ms_A a shM.length)) (F0 m 44 ls [])) : ∀ (y1 : Int32) (y2 : Int32) (y3 : Int32) (y4 : Int32) (y5 : Int32) (y6 : Int32) (y7 : Int32) (y8 : Int32) , ∀ (σ : Mm) (H : Heap) (locs : List Loc) (ls : Array Slot), ms_I D cA a shM s σ H locs → lv_has ls 12 [(0, .ref (a 0)), (1, .int y1), (2, .int y2), (3, .int y3), (4, .int y4), (5, .int y5), (6, .int y6), (7, .int y7)] → fX8_runs_376 K44 y1 y2 y3 y4 y5 y6 y7 y8 σ = some out → W p l e rmX8_runs s m args below meth c H locs 0 0 (MQ below (ms_Qv D cA a shM out) args s 0 0 (ms_A a shM.length)) (F0 m 376 ls [.int y8]) := by
  have hx := Cx.1
  have hb := Cx.2.1
  intro y1 y2 y3 y4 y5 y6 y7 y8 σ H locs ls hI hl h
  unfold fX8_runs_376 at h
  refine lv_istore (lv' := [(11, .int y8), (0, .ref (a 0)), (1, .int y1), (2, .int y2), (3, .int y3), (4, .int y4), (5, .int y5), (6, .int y6), (7, .int y7)]) hx hb dX8_runs_376 hl (by decide) rfl (fun ls hl => ?_)
  refine lv_goto (tgt := 386) hx hb dX8_runs_378 rfl ?_
  exact wX8_runs_386 Cx out K44 hK44 y1 y2 y3 y4 y5 y6 y7 y8 σ _ _ _ hI (lv_sub hl [1, 2, 3, 4, 5, 6, 7, 8, 0] rfl) h
set_option maxHeartbeats 4000000 in
set_option maxRecDepth 100000 in
theorem wX8_runs_339 (Cx : ms_C p s m args meth c D cA a shM cX8_runs 12 RX8 none) (out : Mm) (K44 : Int32 → Int32 → Int32 → Int32 → Int32 → Int32 → Int32 → Mm → Option (Mm)) (hK44 : ∀ (y1 : Int32) (y2 : Int32) (y3 : Int32) (y4 : Int32) (y5 : Int32) (y6 : Int32) (y7 : Int32) , ∀ (σ : Mm) (H : Heap) (locs : List Loc) (ls : Array Slot), ms_I D cA a shM s σ H locs → lv_has ls 12 [(0, .ref (a 0)), (1, .int y1), (2, .int y2), (3, .int y3), (4, .int y4), (5, .int y5), (6, .int y6), (7, .int y7)] → K44 y1 y2 y3 y4 y5 y6 y7 σ = some out → W p l e rmX8_runs s m args below meth c H locs 0 0 (MQ below (ms_Qv D cA a shM out) args s 0 0 (ms_A a shM.length)) (F0 m 44 ls [])) : ∀ (y1 : Int32) (y2 : Int32) (y3 : Int32) (y4 : Int32) (y5 : Int32) (y6 : Int32) (y7 : Int32) (y8 : Int32) , ∀ (σ : Mm) (H : Heap) (locs : List Loc) (ls : Array Slot), ms_I D cA a shM s σ H locs → lv_has ls 12 [(0, .ref (a 0)), (1, .int y1), (2, .int y2), (3, .int y3), (4, .int y4), (5, .int y5), (6, .int y6), (7, .int y7)] → fX8_runs_339 K44 y1 y2 y3 y4 y5 y6 y7 y8 σ = some out → W p l e rmX8_runs s m args below meth c H locs 0 0 (MQ below (ms_Qv D cA a shM out) args s 0 0 (ms_A a shM.length)) (F0 m 339 ls [.int y8]) := by
  have hx := Cx.1
  have hb := Cx.2.1
  intro y1 y2 y3 y4 y5 y6 y7 y8 σ H locs ls hI hl h
  unfold fX8_runs_339 at h
  refine lv_istore (lv' := [(11, .int y8), (0, .ref (a 0)), (1, .int y1), (2, .int y2), (3, .int y3), (4, .int y4), (5, .int y5), (6, .int y6), (7, .int y7)]) hx hb dX8_runs_339 hl (by decide) rfl (fun ls hl => ?_)
  refine lv_iload hx hb dX8_runs_341 (lv_at hl 7 rfl) ?_
  refine lv_iload hx hb dX8_runs_343 (lv_at hl 6 rfl) ?_
  refine lv_icmp_le (tgt := 381) hx hb dX8_runs_345 rfl (fun hc => ?_) (fun hc => ?_)
  · have h := ms_ifT hc h
    refine lv_iload hx hb dX8_runs_381 (lv_at hl 0 rfl) ?_
    refine lv_ineg hx hb dX8_runs_383 ?_
    refine lv_istore (lv' := [(11, .int (-y8)), (0, .ref (a 0)), (1, .int y1), (2, .int y2), (3, .int y3), (4, .int y4), (5, .int y5), (6, .int y6), (7, .int y7)]) hx hb dX8_runs_384 hl (by decide) rfl (fun ls hl => ?_)
    exact wX8_runs_386 Cx out K44 hK44 y1 y2 y3 y4 y5 y6 y7 (-y8) σ _ _ _ hI (lv_sub hl [1, 2, 3, 4, 5, 6, 7, 8, 0] rfl) h
  · have h := ms_ifF hc h
    refine lv_iload hx hb dX8_runs_348 (lv_at hl 0 rfl) ?_
    refine lv_aload_n hx hb dX8_runs_350 rfl (lv_at hl 1 rfl) ?_
    refine gr_X8_2 Cx hI wd_6_14 dX8_runs_351 ?_
    refine lv_iconst (v := 1) hx hb dX8_runs_354 rfl ?_
    obtain ⟨hg, h⟩ := ms_gE h
    refine ms_ld Cx hI 2 shM_2 hg dX8_runs_355 ?_
    refine lv_iload hx hb dX8_runs_356 (lv_at hl 6 rfl) ?_
    refine lv_isub hx hb dX8_runs_358 ?_
    refine lv_icmp_ge (tgt := 367) hx hb dX8_runs_359 rfl (fun hc => ?_) (fun hc => ?_)
    · have h := ms_ifT hc h
      refine lv_aload_n hx hb dX8_runs_367 rfl (lv_at hl 1 rfl) ?_
      refine gr_X8_2 Cx hI wd_6_14 dX8_runs_368 ?_
      refine lv_iconst (v := 1) hx hb dX8_runs_371 rfl ?_
      obtain ⟨hg, h⟩ := ms_gE h
      refine ms_ld Cx hI 2 shM_2 hg dX8_runs_372 ?_
      refine lv_iload hx hb dX8_runs_373 (lv_at hl 6 rfl) ?_
      refine lv_isub hx hb dX8_runs_375 ?_
      exact wX8_runs_376 Cx out K44 hK44 y1 y2 y3 y4 y5 y6 y7 ((σ 2 (ms_ix 1)) - y5) σ _ _ _ hI (lv_sub hl [1, 2, 3, 4, 5, 6, 7, 8] rfl) h
    · have h := ms_ifF hc h
      refine lv_iload hx hb dX8_runs_362 (lv_at hl 0 rfl) ?_
      refine lv_goto (tgt := 376) hx hb dX8_runs_364 rfl ?_
      exact wX8_runs_376 Cx out K44 hK44 y1 y2 y3 y4 y5 y6 y7 y8 σ _ _ _ hI (lv_sub hl [1, 2, 3, 4, 5, 6, 7, 8] rfl) h
set_option maxHeartbeats 4000000 in
set_option maxRecDepth 100000 in
theorem wX8_runs_311 (Cx : ms_C p s m args meth c D cA a shM cX8_runs 12 RX8 none) (out : Mm) (K44 : Int32 → Int32 → Int32 → Int32 → Int32 → Int32 → Int32 → Mm → Option (Mm)) (hK44 : ∀ (y1 : Int32) (y2 : Int32) (y3 : Int32) (y4 : Int32) (y5 : Int32) (y6 : Int32) (y7 : Int32) , ∀ (σ : Mm) (H : Heap) (locs : List Loc) (ls : Array Slot), ms_I D cA a shM s σ H locs → lv_has ls 12 [(0, .ref (a 0)), (1, .int y1), (2, .int y2), (3, .int y3), (4, .int y4), (5, .int y5), (6, .int y6), (7, .int y7)] → K44 y1 y2 y3 y4 y5 y6 y7 σ = some out → W p l e rmX8_runs s m args below meth c H locs 0 0 (MQ below (ms_Qv D cA a shM out) args s 0 0 (ms_A a shM.length)) (F0 m 44 ls [])) : ∀ (y1 : Int32) (y2 : Int32) (y3 : Int32) (y4 : Int32) (y5 : Int32) (y6 : Int32) (y7 : Int32) (y8 : Int32) , ∀ (σ : Mm) (H : Heap) (locs : List Loc) (ls : Array Slot), ms_I D cA a shM s σ H locs → lv_has ls 12 [(0, .ref (a 0)), (1, .int y1), (2, .int y2), (3, .int y3), (4, .int y4), (5, .int y5), (6, .int y6), (7, .int y7)] → fX8_runs_311 K44 y1 y2 y3 y4 y5 y6 y7 y8 σ = some out → W p l e rmX8_runs s m args below meth c H locs 0 0 (MQ below (ms_Qv D cA a shM out) args s 0 0 (ms_A a shM.length)) (F0 m 311 ls [.int y8]) := by
  have hx := Cx.1
  have hb := Cx.2.1
  intro y1 y2 y3 y4 y5 y6 y7 y8 σ H locs ls hI hl h
  unfold fX8_runs_311 at h
  refine lv_iconst (v := 2) hx hb dX8_runs_311 rfl ?_
  refine lv_idiv hx hb dX8_runs_312 (by decide) ?_
  refine lv_istore (lv' := [(10, .int (y8 / 2)), (0, .ref (a 0)), (1, .int y1), (2, .int y2), (3, .int y3), (4, .int y4), (5, .int y5), (6, .int y6), (7, .int y7)]) hx hb dX8_runs_313 hl (by decide) rfl (fun ls hl => ?_)
  refine lv_iload hx hb dX8_runs_315 (lv_at hl 0 rfl) ?_
  refine lv_aload_n hx hb dX8_runs_317 rfl (lv_at hl 1 rfl) ?_
  refine gr_X8_2 Cx hI wd_6_14 dX8_runs_318 ?_
  refine lv_bipush (v := 6) hx hb dX8_runs_321 rfl ?_
  obtain ⟨hg, h⟩ := ms_gE h
  refine ms_ld Cx hI 2 shM_2 hg dX8_runs_323 ?_
  refine lv_icmp_ge (tgt := 332) hx hb dX8_runs_324 rfl (fun hc => ?_) (fun hc => ?_)
  · have h := ms_ifT hc h
    refine lv_aload_n hx hb dX8_runs_332 rfl (lv_at hl 1 rfl) ?_
    refine gr_X8_2 Cx hI wd_6_14 dX8_runs_333 ?_
    refine lv_bipush (v := 6) hx hb dX8_runs_336 rfl ?_
    obtain ⟨hg, h⟩ := ms_gE h
    refine ms_ld Cx hI 2 shM_2 hg dX8_runs_338 ?_
    exact wX8_runs_339 Cx out K44 hK44 y1 y2 y3 y4 y5 y6 y7 (σ 2 (ms_ix 6)) σ _ _ _ hI (lv_sub hl [1, 2, 3, 4, 5, 6, 7, 8] rfl) h
  · have h := ms_ifF hc h
    refine lv_iload hx hb dX8_runs_327 (lv_at hl 0 rfl) ?_
    refine lv_goto (tgt := 339) hx hb dX8_runs_329 rfl ?_
    exact wX8_runs_339 Cx out K44 hK44 y1 y2 y3 y4 y5 y6 y7 (y8 / 2) σ _ _ _ hI (lv_sub hl [1, 2, 3, 4, 5, 6, 7, 8] rfl) h
set_option maxHeartbeats 4000000 in
set_option maxRecDepth 100000 in
theorem wX8_runs_288 (Cx : ms_C p s m args meth c D cA a shM cX8_runs 12 RX8 none) (out : Mm) (K44 : Int32 → Int32 → Int32 → Int32 → Int32 → Int32 → Int32 → Mm → Option (Mm)) (hK44 : ∀ (y1 : Int32) (y2 : Int32) (y3 : Int32) (y4 : Int32) (y5 : Int32) (y6 : Int32) (y7 : Int32) , ∀ (σ : Mm) (H : Heap) (locs : List Loc) (ls : Array Slot), ms_I D cA a shM s σ H locs → lv_has ls 12 [(0, .ref (a 0)), (1, .int y1), (2, .int y2), (3, .int y3), (4, .int y4), (5, .int y5), (6, .int y6), (7, .int y7)] → K44 y1 y2 y3 y4 y5 y6 y7 σ = some out → W p l e rmX8_runs s m args below meth c H locs 0 0 (MQ below (ms_Qv D cA a shM out) args s 0 0 (ms_A a shM.length)) (F0 m 44 ls [])) : ∀ (y1 : Int32) (y2 : Int32) (y3 : Int32) (y4 : Int32) (y5 : Int32) (y6 : Int32) (y7 : Int32) (y8 : Int32) , ∀ (σ : Mm) (H : Heap) (locs : List Loc) (ls : Array Slot), ms_I D cA a shM s σ H locs → lv_has ls 12 [(0, .ref (a 0)), (1, .int y1), (2, .int y2), (3, .int y3), (4, .int y4), (5, .int y5), (7, .int y6)] → fX8_runs_288 K44 y1 y2 y3 y4 y5 y6 y7 y8 σ = some out → W p l e rmX8_runs s m args below meth c H locs 0 0 (MQ below (ms_Qv D cA a shM out) args s 0 0 (ms_A a shM.length)) (F0 m 288 ls [.int y7, .int y8]) := by
  have hx := Cx.1
  have hb := Cx.2.1
  intro y1 y2 y3 y4 y5 y6 y7 y8 σ H locs ls hI hl h
  unfold fX8_runs_288 at h
  refine lv_isub hx hb dX8_runs_288 ?_
  refine lv_istore (lv' := [(6, .int (y8 - y7)), (0, .ref (a 0)), (1, .int y1), (2, .int y2), (3, .int y3), (4, .int y4), (5, .int y5), (7, .int y6)]) hx hb dX8_runs_289 hl (by decide) rfl (fun ls hl => ?_)
  refine lv_iload hx hb dX8_runs_291 (lv_at hl 0 rfl) ?_
  refine lv_iload hx hb dX8_runs_293 (lv_at hl 6 rfl) ?_
  refine lv_icmp_le (tgt := 306) hx hb dX8_runs_295 rfl (fun hc => ?_) (fun hc => ?_)
  · have h := ms_ifT hc h
    refine lv_iload hx hb dX8_runs_306 (lv_at hl 6 rfl) ?_
    refine lv_iload hx hb dX8_runs_308 (lv_at hl 0 rfl) ?_
    refine lv_isub hx hb dX8_runs_310 ?_
    exact wX8_runs_311 Cx out K44 hK44 y1 y2 y3 y4 y5 (y8 - y7) y6 (y5 - (y8 - y7)) σ _ _ _ hI (lv_sub hl [1, 2, 3, 4, 5, 6, 0, 7] rfl) h
  · have h := ms_ifF hc h
    refine lv_iload hx hb dX8_runs_298 (lv_at hl 0 rfl) ?_
    refine lv_iload hx hb dX8_runs_300 (lv_at hl 6 rfl) ?_
    refine lv_isub hx hb dX8_runs_302 ?_
    refine lv_goto (tgt := 311) hx hb dX8_runs_303 rfl ?_
    exact wX8_runs_311 Cx out K44 hK44 y1 y2 y3 y4 y5 (y8 - y7) y6 ((y8 - y7) - y5) σ _ _ _ hI (lv_sub hl [1, 2, 3, 4, 5, 6, 0, 7] rfl) h
set_option maxHeartbeats 4000000 in
set_option maxRecDepth 100000 in
theorem wX8_runs_155 (Cx : ms_C p s m args meth c D cA a shM cX8_runs 12 RX8 none) (out : Mm) (K44 : Int32 → Int32 → Int32 → Int32 → Int32 → Int32 → Int32 → Mm → Option (Mm)) (hK44 : ∀ (y1 : Int32) (y2 : Int32) (y3 : Int32) (y4 : Int32) (y5 : Int32) (y6 : Int32) (y7 : Int32) , ∀ (σ : Mm) (H : Heap) (locs : List Loc) (ls : Array Slot), ms_I D cA a shM s σ H locs → lv_has ls 12 [(0, .ref (a 0)), (1, .int y1), (2, .int y2), (3, .int y3), (4, .int y4), (5, .int y5), (6, .int y6), (7, .int y7)] → K44 y1 y2 y3 y4 y5 y6 y7 σ = some out → W p l e rmX8_runs s m args below meth c H locs 0 0 (MQ below (ms_Qv D cA a shM out) args s 0 0 (ms_A a shM.length)) (F0 m 44 ls [])) : ∀ (n : Nat), ∀ (y1 : Int32) (y2 : Int32) (y3 : Int32) (y4 : Int32) (y5 : Int32) (y6 : Int32) (y7 : Int32) (y8 : Int32) , ∀ (σ : Mm) (H : Heap) (locs : List Loc) (ls : Array Slot), ms_I D cA a shM s σ H locs → lv_has ls 12 [(0, .ref (a 0)), (1, .int y1), (2, .int y2), (3, .int y3), (4, .int y4), (5, .int y5), (6, .int y6), (7, .int y7), (10, .int y8)] → fX8_runs_155 K44 n y1 y2 y3 y4 y5 y6 y7 y8 σ = some out → W p l e rmX8_runs s m args below meth c H locs 0 0 (MQ below (ms_Qv D cA a shM out) args s 0 0 (ms_A a shM.length)) (F0 m 155 ls []) := by
  have hx := Cx.1
  have hb := Cx.2.1
  intro n
  induction n with
  | zero =>
    intro y1 y2 y3 y4 y5 y6 y7 y8 σ H locs ls hI hl h
    exact nomatch (show none = some out from h)
  | succ n ih =>
    intro y1 y2 y3 y4 y5 y6 y7 y8 σ H locs ls hI hl h
    rw [fX8_runs_155] at h
    refine lv_iload hx hb dX8_runs_155 (lv_at hl 8 rfl) ?_
    refine lv_aload_n hx hb dX8_runs_157 rfl (lv_at hl 0 rfl) ?_
    refine gi_X8_3 Cx hI wd_11_20 dX8_runs_158 ?_
    refine lv_icmp_ge (tgt := 245) hx hb dX8_runs_161 rfl (fun hc => ?_) (fun hc => ?_)
    · have h := ms_ifT hc h
      refine lv_iload hx hb dX8_runs_245 (lv_at hl 5 rfl) ?_
      refine lv_iload hx hb dX8_runs_247 (lv_at hl 5 rfl) ?_
      refine lv_aload_n hx hb dX8_runs_249 rfl (lv_at hl 0 rfl) ?_
      refine gr_X8_2 Cx hI wd_6_14 dX8_runs_250 ?_
      refine lv_iconst (v := 3) hx hb dX8_runs_253 rfl ?_
      obtain ⟨hg, h⟩ := ms_gE h
      refine ms_ld Cx hI 2 shM_2 hg dX8_runs_254 ?_
      refine lv_imul hx hb dX8_runs_255 ?_
      refine lv_bipush (v := 100) hx hb dX8_runs_256 rfl ?_
      refine lv_idiv hx hb dX8_runs_258 (by decide) ?_
      refine lv_isub hx hb dX8_runs_259 ?_
      refine lv_topi (fun x1 ex1 => ?_)
      have h := ms_ltE ex1 h
      refine lv_istore (lv' := [(5, .int x1), (0, .ref (a 0)), (1, .int y1), (2, .int y2), (3, .int y3), (4, .int y4), (6, .int y6), (7, .int y7), (10, .int y8)]) hx hb dX8_runs_260 hl (by decide) rfl (fun ls hl => ?_)
      refine lv_iload hx hb dX8_runs_262 (lv_at hl 6 rfl) ?_
      refine lv_iload hx hb dX8_runs_264 (lv_at hl 6 rfl) ?_
      refine lv_aload_n hx hb dX8_runs_266 rfl (lv_at hl 1 rfl) ?_
      refine gr_X8_2 Cx hI wd_6_14 dX8_runs_267 ?_
      refine lv_bipush (v := 8) hx hb dX8_runs_270 rfl ?_
      obtain ⟨hg, h⟩ := ms_gE h
      refine ms_ld Cx hI 2 shM_2 hg dX8_runs_272 ?_
      refine lv_icmp_ge (tgt := 281) hx hb dX8_runs_273 rfl (fun hc => ?_) (fun hc => ?_)
      · have h := ms_ifT hc h
        refine lv_aload_n hx hb dX8_runs_281 rfl (lv_at hl 1 rfl) ?_
        refine gr_X8_2 Cx hI wd_6_14 dX8_runs_282 ?_
        refine lv_bipush (v := 8) hx hb dX8_runs_285 rfl ?_
        obtain ⟨hg, h⟩ := ms_gE h
        refine ms_ld Cx hI 2 shM_2 hg dX8_runs_287 ?_
        exact wX8_runs_288 Cx out K44 hK44 y1 y2 y3 y4 x1 y7 (σ 2 (ms_ix 8)) y6 σ _ _ _ hI (lv_sub hl [1, 2, 3, 4, 5, 0, 7] rfl) h
      · have h := ms_ifF hc h
        refine lv_iload hx hb dX8_runs_276 (lv_at hl 6 rfl) ?_
        refine lv_goto (tgt := 288) hx hb dX8_runs_278 rfl ?_
        exact wX8_runs_288 Cx out K44 hK44 y1 y2 y3 y4 x1 y7 y6 y6 σ _ _ _ hI (lv_sub hl [1, 2, 3, 4, 5, 0, 7] rfl) h
    · have h := ms_ifF hc h
      refine lv_aload_n hx hb dX8_runs_164 rfl (lv_at hl 0 rfl) ?_
      refine lv_iload hx hb dX8_runs_165 (lv_at hl 8 rfl) ?_
      refine lv_iload hx hb dX8_runs_167 (lv_at hl 7 rfl) ?_
      refine lv_iload_n hx hb dX8_runs_169 rfl (lv_at hl 2 rfl) ?_
      obtain ⟨r3, hc2, h⟩ := ms_bdE h
      refine kX8_isGoing Cx hI hc2 wd_24_15 (Nat.le_of_ble_eq_true rfl) (Nat.le_of_ble_eq_true rfl) hl.1 (Nat.le_of_ble_eq_true rfl) dX8_runs_170 (fun H locs hI => ?_)
      refine lv_if_eq (tgt := 239) hx hb dX8_runs_173 rfl (fun hc => ?_) (fun hc => ?_)
      · have h := ms_ifT hc h
        exact wX8_runs_239 Cx out (fX8_runs_155 K44 n) ih y1 y2 y3 y4 y5 y6 y7 y8 σ _ _ _ hI (lv_sub hl [0, 1, 2, 3, 4, 5, 6, 7, 8] rfl) h
      · have h := ms_ifF hc h
        refine lv_iload hx hb dX8_runs_176 (lv_at hl 5 rfl) ?_
        refine lv_aload_n hx hb dX8_runs_178 rfl (lv_at hl 0 rfl) ?_
        refine gr_X8_4 Cx hI wd_6_15 dX8_runs_179 ?_
        refine lv_iload hx hb dX8_runs_182 (lv_at hl 8 rfl) ?_
        obtain ⟨hg, h⟩ := ms_gE h
        refine ms_ld Cx hI 3 shM_3 hg dX8_runs_184 ?_
        refine lv_icmp_lt (tgt := 192) hx hb dX8_runs_185 rfl (fun hc => ?_) (fun hc => ?_)
        · have h := ms_ifT hc h
          refine lv_iconst (v := 0) hx hb dX8_runs_192 rfl ?_
          exact wX8_runs_193 Cx out (fX8_runs_155 K44 n) ih y1 y2 y3 y4 y5 y6 y7 y8 0 σ _ _ _ hI (lv_sub hl [0, 1, 2, 3, 4, 5, 6, 7, 8] rfl) h
        · have h := ms_ifF hc h
          refine lv_iconst (v := 1) hx hb dX8_runs_188 rfl ?_
          refine lv_goto (tgt := 193) hx hb dX8_runs_189 rfl ?_
          exact wX8_runs_193 Cx out (fX8_runs_155 K44 n) ih y1 y2 y3 y4 y5 y6 y7 y8 1 σ _ _ _ hI (lv_sub hl [0, 1, 2, 3, 4, 5, 6, 7, 8] rfl) h
set_option maxHeartbeats 4000000 in
set_option maxRecDepth 100000 in
theorem wX8_runs_131 (Cx : ms_C p s m args meth c D cA a shM cX8_runs 12 RX8 none) (out : Mm) (K44 : Int32 → Int32 → Int32 → Int32 → Int32 → Int32 → Int32 → Mm → Option (Mm)) (hK44 : ∀ (y1 : Int32) (y2 : Int32) (y3 : Int32) (y4 : Int32) (y5 : Int32) (y6 : Int32) (y7 : Int32) , ∀ (σ : Mm) (H : Heap) (locs : List Loc) (ls : Array Slot), ms_I D cA a shM s σ H locs → lv_has ls 12 [(0, .ref (a 0)), (1, .int y1), (2, .int y2), (3, .int y3), (4, .int y4), (5, .int y5), (6, .int y6), (7, .int y7)] → K44 y1 y2 y3 y4 y5 y6 y7 σ = some out → W p l e rmX8_runs s m args below meth c H locs 0 0 (MQ below (ms_Qv D cA a shM out) args s 0 0 (ms_A a shM.length)) (F0 m 44 ls [])) : ∀ (y1 : Int32) (y2 : Int32) (y3 : Int32) (y4 : Int32) (y5 : Int32) (y6 : Int32) (y7 : Int32) (y8 : Int32) (y9 : Int32) , ∀ (σ : Mm) (H : Heap) (locs : List Loc) (ls : Array Slot), ms_I D cA a shM s σ H locs → lv_has ls 12 [(0, .ref (a 0)), (1, .int y1), (2, .int y2), (3, .int y3), (4, .int y4), (6, .int y5), (7, .int y6), (9, .int y7)] → fX8_runs_131 K44 y1 y2 y3 y4 y5 y6 y7 y8 y9 σ = some out → W p l e rmX8_runs s m args below meth c H locs 0 0 (MQ below (ms_Qv D cA a shM out) args s 0 0 (ms_A a shM.length)) (F0 m 131 ls [.int y8, .int y9, .ref (a 16)]) := by
  have hx := Cx.1
  have hb := Cx.2.1
  intro y1 y2 y3 y4 y5 y6 y7 y8 y9 σ H locs ls hI hl h
  unfold fX8_runs_131 at h
  obtain ⟨hg, h⟩ := ms_gE h
  refine ms_sto Cx hI 16 shM_16 hg dX8_runs_131 (fun H locs σ1 eσ1 hI => ?_)
  have h := ms_ltE eσ1 h
  refine lv_iload hx hb dX8_runs_132 (lv_at hl 7 rfl) ?_
  refine lv_aload_n hx hb dX8_runs_134 rfl (lv_at hl 0 rfl) ?_
  refine gr_X8_19 Cx hI wd_7_4 dX8_runs_135 ?_
  refine lv_iload hx hb dX8_runs_138 (lv_at hl 6 rfl) ?_
  obtain ⟨hg, h⟩ := ms_gE h
  refine ms_ld Cx hI 16 shM_16 hg dX8_runs_140 ?_
  refine lv_isub hx hb dX8_runs_141 ?_
  refine lv_istore (lv' := [(5, .int (y7 - (σ1 16 (ms_ix y6)))), (0, .ref (a 0)), (1, .int y1), (2, .int y2), (3, .int y3), (4, .int y4), (6, .int y5), (7, .int y6), (9, .int y7)]) hx hb dX8_runs_142 hl (by decide) rfl (fun ls hl => ?_)
  refine lv_aload_n hx hb dX8_runs_144 rfl (lv_at hl 1 rfl) ?_
  refine gr_X8_21 Cx hI wd_7_6 dX8_runs_145 ?_
  refine lv_iload hx hb dX8_runs_148 (lv_at hl 7 rfl) ?_
  refine lv_iconst (v := 0) hx hb dX8_runs_150 rfl ?_
  obtain ⟨hg, h⟩ := ms_gE h
  refine ms_sto Cx hI 18 shM_18 hg dX8_runs_151 (fun H locs σ2 eσ2 hI => ?_)
  have h := ms_ltE eσ2 h
  refine lv_iconst (v := 0) hx hb dX8_runs_152 rfl ?_
  refine lv_istore (lv' := [(10, .int 0), (5, .int (y7 - (σ1 16 (ms_ix y6)))), (0, .ref (a 0)), (1, .int y1), (2, .int y2), (3, .int y3), (4, .int y4), (6, .int y5), (7, .int y6), (9, .int y7)]) hx hb dX8_runs_153 hl (by decide) rfl (fun ls hl => ?_)
  exact wX8_runs_155 Cx out K44 hK44 ms_fu y1 y2 y3 y4 (y7 - (σ1 16 (ms_ix y6))) y5 y6 0 σ2 _ _ _ hI (lv_sub hl [2, 3, 4, 5, 6, 1, 7, 8, 0] rfl) h
set_option maxHeartbeats 4000000 in
set_option maxRecDepth 100000 in
theorem wX8_runs_83 (Cx : ms_C p s m args meth c D cA a shM cX8_runs 12 RX8 none) (out : Mm) (K44 : Int32 → Int32 → Int32 → Int32 → Int32 → Int32 → Int32 → Mm → Option (Mm)) (hK44 : ∀ (y1 : Int32) (y2 : Int32) (y3 : Int32) (y4 : Int32) (y5 : Int32) (y6 : Int32) (y7 : Int32) , ∀ (σ : Mm) (H : Heap) (locs : List Loc) (ls : Array Slot), ms_I D cA a shM s σ H locs → lv_has ls 12 [(0, .ref (a 0)), (1, .int y1), (2, .int y2), (3, .int y3), (4, .int y4), (5, .int y5), (6, .int y6), (7, .int y7)] → K44 y1 y2 y3 y4 y5 y6 y7 σ = some out → W p l e rmX8_runs s m args below meth c H locs 0 0 (MQ below (ms_Qv D cA a shM out) args s 0 0 (ms_A a shM.length)) (F0 m 44 ls [])) : ∀ (y1 : Int32) (y2 : Int32) (y3 : Int32) (y4 : Int32) (y5 : Int32) (y6 : Int32) (y7 : Int32) (y8 : Int32) , ∀ (σ : Mm) (H : Heap) (locs : List Loc) (ls : Array Slot), ms_I D cA a shM s σ H locs → lv_has ls 12 [(0, .ref (a 0)), (1, .int y1), (2, .int y2), (3, .int y3), (4, .int y4), (6, .int y5), (7, .int y6)] → fX8_runs_83 K44 y1 y2 y3 y4 y5 y6 y7 y8 σ = some out → W p l e rmX8_runs s m args below meth c H locs 0 0 (MQ below (ms_Qv D cA a shM out) args s 0 0 (ms_A a shM.length)) (F0 m 83 ls [.int y7, .int y8]) := by
  have hx := Cx.1
  have hb := Cx.2.1
  intro y1 y2 y3 y4 y5 y6 y7 y8 σ H locs ls hI hl h
  unfold fX8_runs_83 at h
  refine lv_isub hx hb dX8_runs_83 ?_
  refine lv_istore (lv' := [(5, .int (y8 - y7)), (0, .ref (a 0)), (1, .int y1), (2, .int y2), (3, .int y3), (4, .int y4), (6, .int y5), (7, .int y6)]) hx hb dX8_runs_84 hl (by decide) rfl (fun ls hl => ?_)
  refine lv_iload hx hb dX8_runs_86 (lv_at hl 0 rfl) ?_
  refine lv_aload_n hx hb dX8_runs_88 rfl (lv_at hl 1 rfl) ?_
  refine gr_X8_16 Cx hI wd_7_1 dX8_runs_89 ?_
  refine lv_iload hx hb dX8_runs_92 (lv_at hl 7 rfl) ?_
  refine lv_bipush (v := 24) hx hb dX8_runs_94 rfl ?_
  refine ms_lrem hx hb dX8_runs_96 (by decide) ?_
  obtain ⟨hg, h⟩ := ms_gE h
  refine ms_ld Cx hI 13 shM_13 hg dX8_runs_97 ?_
  refine lv_iadd hx hb dX8_runs_98 ?_
  refine lv_topi (fun x1 ex1 => ?_)
  have h := ms_ltE ex1 h
  refine lv_istore (lv' := [(9, .int x1), (5, .int (y8 - y7)), (0, .ref (a 0)), (1, .int y1), (2, .int y2), (3, .int y3), (4, .int y4), (6, .int y5), (7, .int y6)]) hx hb dX8_runs_99 hl (by decide) rfl (fun ls hl => ?_)
  refine lv_aload_n hx hb dX8_runs_101 rfl (lv_at hl 2 rfl) ?_
  refine gr_X8_19 Cx hI wd_7_4 dX8_runs_102 ?_
  refine lv_iload hx hb dX8_runs_105 (lv_at hl 8 rfl) ?_
  refine lv_iload hx hb dX8_runs_107 (lv_at hl 0 rfl) ?_
  refine lv_aload_n hx hb dX8_runs_109 rfl (lv_at hl 2 rfl) ?_
  refine gr_X8_2 Cx hI wd_6_14 dX8_runs_110 ?_
  refine lv_iconst (v := 1) hx hb dX8_runs_113 rfl ?_
  obtain ⟨hg, h⟩ := ms_gE h
  refine ms_ld Cx hI 2 shM_2 hg dX8_runs_114 ?_
  refine lv_icmp_le (tgt := 130) hx hb dX8_runs_115 rfl (fun hc => ?_) (fun hc => ?_)
  · have h := ms_ifT hc h
    refine lv_iconst (v := 0) hx hb dX8_runs_130 rfl ?_
    exact wX8_runs_131 Cx out K44 hK44 y1 y2 y3 y4 y5 y6 x1 0 y6 σ _ _ _ hI (lv_sub hl [2, 3, 4, 5, 6, 7, 8, 0] rfl) h
  · have h := ms_ifF hc h
    refine lv_iload hx hb dX8_runs_118 (lv_at hl 0 rfl) ?_
    refine lv_aload_n hx hb dX8_runs_120 rfl (lv_at hl 2 rfl) ?_
    refine gr_X8_2 Cx hI wd_6_14 dX8_runs_121 ?_
    refine lv_iconst (v := 1) hx hb dX8_runs_124 rfl ?_
    obtain ⟨hg, h⟩ := ms_gE h
    refine ms_ld Cx hI 2 shM_2 hg dX8_runs_125 ?_
    refine lv_isub hx hb dX8_runs_126 ?_
    refine lv_goto (tgt := 131) hx hb dX8_runs_127 rfl ?_
    exact wX8_runs_131 Cx out K44 hK44 y1 y2 y3 y4 y5 y6 x1 (x1 - (σ 2 (ms_ix 1))) y6 σ _ _ _ hI (lv_sub hl [2, 3, 4, 5, 6, 7, 8, 0] rfl) h
set_option maxHeartbeats 4000000 in
set_option maxRecDepth 100000 in
theorem wX8_runs_65 (Cx : ms_C p s m args meth c D cA a shM cX8_runs 12 RX8 none) (out : Mm) (K44 : Int32 → Int32 → Int32 → Int32 → Int32 → Int32 → Int32 → Mm → Option (Mm)) (hK44 : ∀ (y1 : Int32) (y2 : Int32) (y3 : Int32) (y4 : Int32) (y5 : Int32) (y6 : Int32) (y7 : Int32) , ∀ (σ : Mm) (H : Heap) (locs : List Loc) (ls : Array Slot), ms_I D cA a shM s σ H locs → lv_has ls 12 [(0, .ref (a 0)), (1, .int y1), (2, .int y2), (3, .int y3), (4, .int y4), (5, .int y5), (6, .int y6), (7, .int y7)] → K44 y1 y2 y3 y4 y5 y6 y7 σ = some out → W p l e rmX8_runs s m args below meth c H locs 0 0 (MQ below (ms_Qv D cA a shM out) args s 0 0 (ms_A a shM.length)) (F0 m 44 ls [])) : ∀ (y1 : Int32) (y2 : Int32) (y3 : Int32) (y4 : Int32) (y5 : Int32) (y6 : Int32) (y7 : Int32) (y8 : Int32) , ∀ (σ : Mm) (H : Heap) (locs : List Loc) (ls : Array Slot), ms_I D cA a shM s σ H locs → lv_has ls 12 [(0, .ref (a 0)), (1, .int y1), (2, .int y2), (3, .int y3), (4, .int y4), (5, .int y5), (6, .int y6), (7, .int y7)] → fX8_runs_65 K44 y1 y2 y3 y4 y5 y6 y7 y8 σ = some out → W p l e rmX8_runs s m args below meth c H locs 0 0 (MQ below (ms_Qv D cA a shM out) args s 0 0 (ms_A a shM.length)) (F0 m 65 ls [.int y8]) := by
  have hx := Cx.1
  have hb := Cx.2.1
  intro y1 y2 y3 y4 y5 y6 y7 y8 σ H locs ls hI hl h
  unfold fX8_runs_65 at h
  refine lv_istore (lv' := [(8, .int y8), (0, .ref (a 0)), (1, .int y1), (2, .int y2), (3, .int y3), (4, .int y4), (5, .int y5), (6, .int y6), (7, .int y7)]) hx hb dX8_runs_65 hl (by decide) rfl (fun ls hl => ?_)
  refine lv_iload hx hb dX8_runs_67 (lv_at hl 6 rfl) ?_
  refine lv_iload hx hb dX8_runs_69 (lv_at hl 0 rfl) ?_
  refine lv_iload hx hb dX8_runs_71 (lv_at hl 6 rfl) ?_
  refine lv_icmp_ge (tgt := 81) hx hb dX8_runs_73 rfl (fun hc => ?_) (fun hc => ?_)
  · have h := ms_ifT hc h
    refine lv_iload hx hb dX8_runs_81 (lv_at hl 6 rfl) ?_
    exact wX8_runs_83 Cx out K44 hK44 y1 y2 y3 y4 y6 y7 y5 y5 σ _ _ _ hI (lv_sub hl [1, 2, 3, 4, 5, 7, 8] rfl) h
  · have h := ms_ifF hc h
    refine lv_iload hx hb dX8_runs_76 (lv_at hl 0 rfl) ?_
    refine lv_goto (tgt := 83) hx hb dX8_runs_78 rfl ?_
    exact wX8_runs_83 Cx out K44 hK44 y1 y2 y3 y4 y6 y7 y8 y5 σ _ _ _ hI (lv_sub hl [1, 2, 3, 4, 5, 7, 8] rfl) h
set_option maxHeartbeats 4000000 in
set_option maxRecDepth 100000 in
theorem wX8_runs_44 (Cx : ms_C p s m args meth c D cA a shM cX8_runs 12 RX8 none) (out : Mm) : ∀ (n : Nat), ∀ (y1 : Int32) (y2 : Int32) (y3 : Int32) (y4 : Int32) (y5 : Int32) (y6 : Int32) (y7 : Int32) , ∀ (σ : Mm) (H : Heap) (locs : List Loc) (ls : Array Slot), ms_I D cA a shM s σ H locs → lv_has ls 12 [(0, .ref (a 0)), (1, .int y1), (2, .int y2), (3, .int y3), (4, .int y4), (5, .int y5), (6, .int y6), (7, .int y7)] → fX8_runs_44 n y1 y2 y3 y4 y5 y6 y7 σ = some out → W p l e rmX8_runs s m args below meth c H locs 0 0 (MQ below (ms_Qv D cA a shM out) args s 0 0 (ms_A a shM.length)) (F0 m 44 ls []) := by
  have hx := Cx.1
  have hb := Cx.2.1
  intro n
  induction n with
  | zero =>
    intro y1 y2 y3 y4 y5 y6 y7 σ H locs ls hI hl h
    exact nomatch (show none = some out from h)
  | succ n ih =>
    intro y1 y2 y3 y4 y5 y6 y7 σ H locs ls hI hl h
    rw [fX8_runs_44] at h
    refine lv_iload hx hb dX8_runs_44 (lv_at hl 7 rfl) ?_
    refine lv_iload_n hx hb dX8_runs_46 rfl (lv_at hl 1 rfl) ?_
    refine lv_icmp_ge (tgt := 433) hx hb dX8_runs_47 rfl (fun hc => ?_) (fun hc => ?_)
    · have h := ms_ifT hc h
      exact ms_rv Cx hI (Option.some.inj h) dX8_runs_433
    · have h := ms_ifF hc h
      refine lv_iload hx hb dX8_runs_50 (lv_at hl 7 rfl) ?_
      refine lv_bipush (v := 24) hx hb dX8_runs_52 rfl ?_
      refine ms_lrem hx hb dX8_runs_54 (by decide) ?_
      refine lv_iload_n hx hb dX8_runs_55 rfl (lv_at hl 3 rfl) ?_
      refine lv_icmp_ne (tgt := 64) hx hb dX8_runs_56 rfl (fun hc => ?_) (fun hc => ?_)
      · have h := ms_ifF hc h
        refine lv_iconst (v := 0) hx hb dX8_runs_64 rfl ?_
        exact wX8_runs_65 Cx out (fX8_runs_44 n) ih y1 y2 y3 y4 y5 y6 y7 0 σ _ _ _ hI (lv_sub hl [0, 1, 2, 3, 4, 5, 6, 7] rfl) h
      · have h := ms_ifT hc h
        refine lv_iload hx hb dX8_runs_59 (lv_at hl 4 rfl) ?_
        refine lv_goto (tgt := 65) hx hb dX8_runs_61 rfl ?_
        exact wX8_runs_65 Cx out (fX8_runs_44 n) ih y1 y2 y3 y4 y5 y6 y7 y4 σ _ _ _ hI (lv_sub hl [0, 1, 2, 3, 4, 5, 6, 7] rfl) h
set_option maxHeartbeats 4000000 in
set_option maxRecDepth 100000 in
theorem wX8_runs_30 (Cx : ms_C p s m args meth c D cA a shM cX8_runs 12 RX8 none) (out : Mm) : ∀ (y1 : Int32) (y2 : Int32) (y3 : Int32) (y4 : Int32) (y5 : Int32) , ∀ (σ : Mm) (H : Heap) (locs : List Loc) (ls : Array Slot), ms_I D cA a shM s σ H locs → lv_has ls 12 [(0, .ref (a 0)), (1, .int y1), (2, .int y2), (3, .int y3), (4, .int y4)] → fX8_runs_30 y1 y2 y3 y4 y5 σ = some out → W p l e rmX8_runs s m args below meth c H locs 0 0 (MQ below (ms_Qv D cA a shM out) args s 0 0 (ms_A a shM.length)) (F0 m 30 ls [.int y5]) := by
  have hx := Cx.1
  have hb := Cx.2.1
  intro y1 y2 y3 y4 y5 σ H locs ls hI hl h
  unfold fX8_runs_30 at h
  refine lv_istore (lv' := [(5, .int y5), (0, .ref (a 0)), (1, .int y1), (2, .int y2), (3, .int y3), (4, .int y4)]) hx hb dX8_runs_30 hl (by decide) rfl (fun ls hl => ?_)
  refine lv_aload_n hx hb dX8_runs_32 rfl (lv_at hl 1 rfl) ?_
  refine gr_X8_2 Cx hI wd_6_14 dX8_runs_33 ?_
  refine lv_bipush (v := 7) hx hb dX8_runs_36 rfl ?_
  obtain ⟨hg, h⟩ := ms_gE h
  refine ms_ld Cx hI 2 shM_2 hg dX8_runs_38 ?_
  refine lv_istore (lv' := [(6, .int (σ 2 (ms_ix 7))), (5, .int y5), (0, .ref (a 0)), (1, .int y1), (2, .int y2), (3, .int y3), (4, .int y4)]) hx hb dX8_runs_39 hl (by decide) rfl (fun ls hl => ?_)
  refine lv_iconst (v := 0) hx hb dX8_runs_41 rfl ?_
  refine lv_istore (lv' := [(7, .int 0), (6, .int (σ 2 (ms_ix 7))), (5, .int y5), (0, .ref (a 0)), (1, .int y1), (2, .int y2), (3, .int y3), (4, .int y4)]) hx hb dX8_runs_42 hl (by decide) rfl (fun ls hl => ?_)
  exact wX8_runs_44 Cx out  ms_fu y1 y2 y3 y4 y5 (σ 2 (ms_ix 7)) 0 σ _ _ _ hI (lv_sub hl [3, 4, 5, 6, 7, 2, 1, 0] rfl) h
set_option maxHeartbeats 4000000 in
set_option maxRecDepth 100000 in
theorem wX8_runs (Cx : ms_C p s m args meth c D cA a shM cX8_runs 12 RX8 none) (out : Mm) : ∀ (p0 : Int32) (p1 : Int32) (p2 : Int32) (p3 : Int32) , ∀ (σ : Mm) (H : Heap) (locs : List Loc) (ls : Array Slot), ms_I D cA a shM s σ H locs → lv_has ls 12 [(0, .ref (a 0)), (1, .int p0), (2, .int p1), (3, .int p2), (4, .int p3)] → fX8_runs p0 p1 p2 p3 σ = some out → W p l e rmX8_runs s m args below meth c H locs 0 0 (MQ below (ms_Qv D cA a shM out) args s 0 0 (ms_A a shM.length)) (F0 m 0 ls []) := by
  have hx := Cx.1
  have hb := Cx.2.1
  intro p0 p1 p2 p3 σ H locs ls hI hl h
  unfold fX8_runs at h
  refine lv_aload_n hx hb dX8_runs_0 rfl (lv_at hl 0 rfl) ?_
  refine gr_X8_2 Cx hI wd_6_14 dX8_runs_1 ?_
  refine lv_iconst (v := 2) hx hb dX8_runs_4 rfl ?_
  obtain ⟨hg, h⟩ := ms_gE h
  refine ms_ld Cx hI 2 shM_2 hg dX8_runs_5 ?_
  refine lv_aload_n hx hb dX8_runs_6 rfl (lv_at hl 0 rfl) ?_
  refine gr_X8_2 Cx hI wd_6_14 dX8_runs_7 ?_
  refine lv_iconst (v := 1) hx hb dX8_runs_10 rfl ?_
  obtain ⟨hg, h⟩ := ms_gE h
  refine ms_ld Cx hI 2 shM_2 hg dX8_runs_11 ?_
  refine lv_icmp_ge (tgt := 24) hx hb dX8_runs_12 rfl (fun hc => ?_) (fun hc => ?_)
  · have h := ms_ifT hc h
    refine lv_aload_n hx hb dX8_runs_24 rfl (lv_at hl 0 rfl) ?_
    refine gr_X8_2 Cx hI wd_6_14 dX8_runs_25 ?_
    refine lv_iconst (v := 1) hx hb dX8_runs_28 rfl ?_
    obtain ⟨hg, h⟩ := ms_gE h
    refine ms_ld Cx hI 2 shM_2 hg dX8_runs_29 ?_
    exact wX8_runs_30 Cx out  p0 p1 p2 p3 (σ 2 (ms_ix 1)) σ _ _ _ hI (lv_sub hl [0, 1, 2, 3, 4] rfl) h
  · have h := ms_ifF hc h
    refine lv_aload_n hx hb dX8_runs_15 rfl (lv_at hl 0 rfl) ?_
    refine gr_X8_2 Cx hI wd_6_14 dX8_runs_16 ?_
    refine lv_iconst (v := 2) hx hb dX8_runs_19 rfl ?_
    obtain ⟨hg, h⟩ := ms_gE h
    refine ms_ld Cx hI 2 shM_2 hg dX8_runs_20 ?_
    refine lv_goto (tgt := 30) hx hb dX8_runs_21 rfl ?_
    exact wX8_runs_30 Cx out  p0 p1 p2 p3 (σ 2 (ms_ix 2)) σ _ _ _ hI (lv_sub hl [0, 1, 2, 3, 4] rfl) h
theorem yvX8_runs : ms_YV yX8_runs RX8 cX8_runs 12 none 4 := ⟨wd_24_12, wd_24_13, wd_1_5, wd_24_14, rfl, by decide +kernel, by decide +kernel, by decide +kernel⟩
set_option maxHeartbeats 4000000 in
theorem metX8_runs (l : Launch) (hDis : ms_Dis a shM.length) {σ : Mm} {p0 : Int32} {p1 : Int32} {p2 : Int32} {p3 : Int32} {out : Mm} (h : fX8_runs p0 p1 p2 p3 σ = some out) : Met l yX8_runs (.code yX8_runs cX8_runs 12 none :: wsL_law) rmX8_runs (ms_Pc D cA a shM [.ref (a 0), .int p0, .int p1, .int p2, .int p3] σ) (ms_Qv D cA a shM out) 0 0 (ms_A a shM.length) := by
  refine Met.ofW (cc := cX8_runs) (maxL := 12) (ret := none) (by decide) rfl ?_
  intro p e s m args below meth c s₁ B hml hv
  obtain ⟨rfl, hK, hN, hP⟩ := hv
  have hl := lv_entry ([.ref (a 0), .int p0, .int p1, .int p2, .int p3]) (n := 12) (Nat.le_of_ble_eq_true rfl)
  rw [lg_entry_eq]
  generalize (lg_sl ([.ref (a 0), .int p0, .int p1, .int p2, .int p3]) ++ List.replicate (12 - (lg_sl ([.ref (a 0), .int p0, .int p1, .int p2, .int p3])).length) Slot.unset).toArray = ls at hl ⊢
  exact wX8_runs ⟨B.exec, B.bytes, hml, findClass_of_methodNamed B.named, fun w hw => atoms_spec (ws := .code yX8_runs cX8_runs 12 none :: wsL_law) B.pre w (List.mem_cons_of_mem _ hw), B.returns, B.notSynchronized, hK, hDis, hN⟩ out p0 p1 p2 p3 σ s.heap [] ls ⟨hP, va_S.rf⟩ hl h
theorem kX8_runs (Cx : ms_C p s m args meth c D cA a shM cc nL own ret) {σ : Mm} {H : Heap} {locs : List Loc} (hI : ms_I D cA a shM s σ H locs) {p0 : Int32} {p1 : Int32} {p2 : Int32} {p3 : Int32} {out : Mm} (h : fX8_runs p0 p1 p2 p3 σ = some out) (hl : Cond.methodLink own idx yX8_runs ∈ wsL_law) (hf : 2 + 1 ≤ R.frames) (hlo : 8 + (12 + 11) + 46 ≤ R.locals) (hsz : ls.size = nL) (hW : (rest.map fun v => v.category).sum ≤ 8) (hd : decode cc pc = .ok (.invokevirtual idx, 3)) (kk : ∀ (H1 : Heap) (locs1 : List Loc), ms_I D cA a shM s out H1 locs1 → W p l e R s m args below meth c H1 locs1 0 0 Q (F0 m (pc + 3) ls (rest))) : W p l e R s m args below meth c H locs 0 0 Q (F0 m pc ls (.int p3 :: .int p2 :: .int p1 :: .int p0 :: .ref (a 0) :: rest)) :=
  ms_cv hI (ms_runV (av := [.int p0, .int p1, .int p2, .int p3]) Cx hI 0 shM_0 (ci := 8) rfl rfl yvX8_runs (metX8_runs l Cx.2.2.2.2.2.2.2.2.1  h) ⟨rfl, rfl⟩ hl ⟨hf, hlo⟩ rfl hsz rfl hW ⟨Nat.zero_le _, Nat.zero_le _⟩ hd) kk
/-! X8 lays ()V -/
theorem dX8_lays_0 : decode cX8_lays 0 = .ok (.aload_n 0, 1) := by decide +kernel
theorem dX8_lays_1 : decode cX8_lays 1 = .ok (.invokevirtual 140, 3) := by decide +kernel
theorem dX8_lays_4 : decode cX8_lays 4 = .ok (.istore_n 1, 1) := by decide +kernel
theorem dX8_lays_5 : decode cX8_lays 5 = .ok (.aload_n 0, 1) := by decide +kernel
theorem dX8_lays_6 : decode cX8_lays 6 = .ok (.invokevirtual 184, 3) := by decide +kernel
theorem dX8_lays_9 : decode cX8_lays 9 = .ok (.aload_n 0, 1) := by decide +kernel
theorem dX8_lays_10 : decode cX8_lays 10 = .ok (.sipush 240, 3) := by decide +kernel
theorem dX8_lays_13 : decode cX8_lays 13 = .ok (.iconst 0, 1) := by decide +kernel
theorem dX8_lays_14 : decode cX8_lays 14 = .ok (.iconst (-1), 1) := by decide +kernel
theorem dX8_lays_15 : decode cX8_lays 15 = .ok (.iconst 0, 1) := by decide +kernel
theorem dX8_lays_16 : decode cX8_lays 16 = .ok (.invokevirtual 187, 3) := by decide +kernel
theorem dX8_lays_19 : decode cX8_lays 19 = .ok (.return_, 1) := by decide +kernel
abbrev rmX8_lays : Room := { frames := 7, cells := 0, slots := 0, locals := 156 }
set_option maxHeartbeats 4000000 in
set_option maxRecDepth 100000 in
theorem wX8_lays (Cx : ms_C p s m args meth c D cA a shM cX8_lays 2 RX8 none) (out : Mm) : ∀ (σ : Mm) (H : Heap) (locs : List Loc) (ls : Array Slot), ms_I D cA a shM s σ H locs → lv_has ls 2 [(0, .ref (a 0))] → fX8_lays σ = some out → W p l e rmX8_lays s m args below meth c H locs 0 0 (MQ below (ms_Qv D cA a shM out) args s 0 0 (ms_A a shM.length)) (F0 m 0 ls []) := by
  have hx := Cx.1
  have hb := Cx.2.1
  intro σ H locs ls hI hl h
  unfold fX8_lays at h
  refine lv_aload_n hx hb dX8_lays_0 rfl (lv_at hl 0 rfl) ?_
  obtain ⟨⟨r2, σ3⟩, hc1, h⟩ := ms_bdE h
  refine kX8_faultNow Cx hI hc1 wd_11_16 (Nat.le_of_ble_eq_true rfl) (Nat.le_of_ble_eq_true rfl) hl.1 (Nat.le_of_ble_eq_true rfl) dX8_lays_1 (fun H locs hI => ?_)
  refine lv_istore_n (lv' := [(1, .int r2), (0, .ref (a 0))]) hx hb dX8_lays_4 rfl hl (by decide) rfl (fun ls hl => ?_)
  refine lv_aload_n hx hb dX8_lays_5 rfl (lv_at hl 1 rfl) ?_
  obtain ⟨σ5, hc4, h⟩ := ms_bdE h
  refine kX8_laysWinds Cx hI hc4 wd_24_7 (Nat.le_of_ble_eq_true rfl) (Nat.le_of_ble_eq_true rfl) hl.1 (Nat.le_of_ble_eq_true rfl) dX8_lays_6 (fun H locs hI => ?_)
  refine lv_aload_n hx hb dX8_lays_9 rfl (lv_at hl 1 rfl) ?_
  refine lv_sipush (v := 240) hx hb dX8_lays_10 rfl ?_
  refine lv_iconst (v := 0) hx hb dX8_lays_13 rfl ?_
  refine lv_iconst (v := -1) hx hb dX8_lays_14 rfl ?_
  refine lv_iconst (v := 0) hx hb dX8_lays_15 rfl ?_
  obtain ⟨σ7, hc6, h⟩ := ms_bdE h
  refine kX8_runs Cx hI hc6 wd_24_11 (Nat.le_of_ble_eq_true rfl) (Nat.le_of_ble_eq_true rfl) hl.1 (Nat.le_of_ble_eq_true rfl) dX8_lays_16 (fun H locs hI => ?_)
  exact ms_rv Cx hI (Option.some.inj h) dX8_lays_19
theorem yvX8_lays : ms_YV yX8_lays RX8 cX8_lays 2 none 0 := ⟨wd_24_4, wd_24_5, wd_1_5, wd_24_6, rfl, by decide +kernel, by decide +kernel, by decide +kernel⟩
set_option maxHeartbeats 4000000 in
theorem metX8_lays (l : Launch) (hDis : ms_Dis a shM.length) {σ : Mm} {out : Mm} (h : fX8_lays σ = some out) : Met l yX8_lays (.code yX8_lays cX8_lays 2 none :: wsL_law) rmX8_lays (ms_Pc D cA a shM [.ref (a 0)] σ) (ms_Qv D cA a shM out) 0 0 (ms_A a shM.length) := by
  refine Met.ofW (cc := cX8_lays) (maxL := 2) (ret := none) (by decide) rfl ?_
  intro p e s m args below meth c s₁ B hml hv
  obtain ⟨rfl, hK, hN, hP⟩ := hv
  have hl := lv_entry ([.ref (a 0)]) (n := 2) (Nat.le_of_ble_eq_true rfl)
  rw [lg_entry_eq]
  generalize (lg_sl ([.ref (a 0)]) ++ List.replicate (2 - (lg_sl ([.ref (a 0)])).length) Slot.unset).toArray = ls at hl ⊢
  exact wX8_lays ⟨B.exec, B.bytes, hml, findClass_of_methodNamed B.named, fun w hw => atoms_spec (ws := .code yX8_lays cX8_lays 2 none :: wsL_law) B.pre w (List.mem_cons_of_mem _ hw), B.returns, B.notSynchronized, hK, hDis, hN⟩ out σ s.heap [] ls ⟨hP, va_S.rf⟩ hl h
theorem kX8_lays (Cx : ms_C p s m args meth c D cA a shM cc nL own ret) {σ : Mm} {H : Heap} {locs : List Loc} (hI : ms_I D cA a shM s σ H locs) {out : Mm} (h : fX8_lays σ = some out) (hl : Cond.methodLink own idx yX8_lays ∈ wsL_law) (hf : 7 + 1 ≤ R.frames) (hlo : 8 + (2 + 11) + 156 ≤ R.locals) (hsz : ls.size = nL) (hW : (rest.map fun v => v.category).sum ≤ 8) (hd : decode cc pc = .ok (.invokevirtual idx, 3)) (kk : ∀ (H1 : Heap) (locs1 : List Loc), ms_I D cA a shM s out H1 locs1 → W p l e R s m args below meth c H1 locs1 0 0 Q (F0 m (pc + 3) ls (rest))) : W p l e R s m args below meth c H locs 0 0 Q (F0 m pc ls (.ref (a 0) :: rest)) :=
  ms_cv hI (ms_runV (av := []) Cx hI 0 shM_0 (ci := 8) rfl rfl yvX8_lays (metX8_lays l Cx.2.2.2.2.2.2.2.2.1  h) ⟨rfl, rfl⟩ hl ⟨hf, hlo⟩ rfl hsz rfl hW ⟨Nat.zero_le _, Nat.zero_le _⟩ hd) kk
/-! X8 isHour (I)Z -/
theorem dX8_isHour_0 : decode cX8_isHour 0 = .ok (.iload_n 0, 1) := by decide +kernel
theorem dX8_isHour_1 : decode cX8_isHour 1 = .ok (.iconst 0, 1) := by decide +kernel
theorem dX8_isHour_2 : decode cX8_isHour 2 = .ok (.sipush 239, 3) := by decide +kernel
theorem dX8_isHour_5 : decode cX8_isHour 5 = .ok (.invokestatic 95, 3) := by decide +kernel
theorem dX8_isHour_8 : decode cX8_isHour 8 = .ok (.ireturn, 1) := by decide +kernel
abbrev rmX8_isHour : Room := { frames := 1, cells := 0, slots := 0, locals := 22 }
set_option maxHeartbeats 4000000 in
set_option maxRecDepth 100000 in
theorem wX8_isHour (Cx : ms_C p s m args meth c D cA a shM cX8_isHour 1 RX8 (some .boolean)) (out : Int32) {σ : Mm} : ∀ (p0 : Int32) , ∀ (H : Heap) (locs : List Loc) (ls : Array Slot), ms_I D cA a shM s σ H locs → lv_has ls 1 [(0, .int p0)] → fX8_isHour p0 = some out → W p l e rmX8_isHour s m args below meth c H locs 0 0 (MQ below (ms_Qi D cA a shM out σ) args s 0 0 (ms_A a shM.length)) (F0 m 0 ls []) := by
  have hx := Cx.1
  have hb := Cx.2.1
  intro p0 H locs ls hI hl h
  unfold fX8_isHour at h
  refine lv_iload_n hx hb dX8_isHour_0 rfl (lv_at hl 0 rfl) ?_
  refine lv_iconst (v := 0) hx hb dX8_isHour_1 rfl ?_
  refine lv_sipush (v := 239) hx hb dX8_isHour_2 rfl ?_
  obtain ⟨r2, hc1, h⟩ := ms_bdE h
  refine kX8_in Cx hI hc1 (Or.inl wd_10_20) (Nat.le_of_ble_eq_true rfl) (Nat.le_of_ble_eq_true rfl) hl.1 (Nat.le_of_ble_eq_true rfl) dX8_isHour_5 (fun H locs hI => ?_)
  obtain ⟨hg, h⟩ := ms_gE h
  exact ms_rz Cx hI hg (Option.some.inj h) rfl dX8_isHour_8
theorem yvX8_isHour : ms_YS yX8_isHour cX8_isHour 1 (some .boolean) 1 := ⟨wd_23_21, wd_1_5, wd_23_22, by decide +kernel, by decide +kernel, by decide +kernel⟩
set_option maxHeartbeats 4000000 in
theorem metX8_isHour (l : Launch) (hDis : ms_Dis a shM.length) {σ : Mm} {p0 : Int32} {out : Int32} (h : fX8_isHour p0 = some out) : Met l yX8_isHour (.code yX8_isHour cX8_isHour 1 (some .boolean) :: wsL_law) rmX8_isHour (ms_Pc D cA a shM [.int p0] σ) (ms_Qi D cA a shM out σ) 0 0 (ms_A a shM.length) := by
  refine Met.ofW (cc := cX8_isHour) (maxL := 1) (ret := (some .boolean)) (by decide) rfl ?_
  intro p e s m args below meth c s₁ B hml hv
  obtain ⟨rfl, hK, hN, hP⟩ := hv
  have hl := lv_entry ([.int p0]) (n := 1) (Nat.le_of_ble_eq_true rfl)
  rw [lg_entry_eq]
  generalize (lg_sl ([.int p0]) ++ List.replicate (1 - (lg_sl ([.int p0])).length) Slot.unset).toArray = ls at hl ⊢
  exact wX8_isHour ⟨B.exec, B.bytes, hml, findClass_of_methodNamed B.named, fun w hw => atoms_spec (ws := .code yX8_isHour cX8_isHour 1 (some .boolean) :: wsL_law) B.pre w (List.mem_cons_of_mem _ hw), B.returns, B.notSynchronized, hK, hDis, hN⟩ out p0 s.heap [] ls ⟨hP, va_S.rf⟩ hl h
theorem kX8_isHour (Cx : ms_C p s m args meth c D cA a shM cc nL own ret) {σ : Mm} {H : Heap} {locs : List Loc} (hI : ms_I D cA a shM s σ H locs) {p0 : Int32} {out : Int32} (h : fX8_isHour p0 = some out) (hl : Cond.methodLink own idx yX8_isHour ∈ wsL_law ∨ (own, idx, yX8_isHour) ∈ ms_nq) (hf : 1 + 1 ≤ R.frames) (hlo : 8 + (1 + 11) + 22 ≤ R.locals) (hsz : ls.size = nL) (hW : (rest.map fun v => v.category).sum ≤ 8) (hd : decode cc pc = .ok (.invokestatic idx, 3)) (kk : ∀ (H1 : Heap) (locs1 : List Loc), ms_I D cA a shM s σ H1 locs1 → W p l e R s m args below meth c H1 locs1 0 0 Q (F0 m (pc + 3) ls (.int out :: rest))) : W p l e R s m args below meth c H locs 0 0 Q (F0 m pc ls (.int p0 :: rest)) :=
  ms_ci hI (ms_runS (av := [.int p0]) Cx hI yvX8_isHour (metX8_isHour l Cx.2.2.2.2.2.2.2.2.1  h) ⟨rfl, rfl⟩ hl ⟨hf, hlo⟩ rfl hsz rfl hW ⟨Nat.zero_le _, Nat.zero_le _⟩ hd) kk
/-! X8 levelOf (II)I -/
theorem dX8_levelOf_0 : decode cX8_levelOf 0 = .ok (.aload_n 0, 1) := by decide +kernel
theorem dX8_levelOf_1 : decode cX8_levelOf 1 = .ok (.invokevirtual 191, 3) := by decide +kernel
theorem dX8_levelOf_4 : decode cX8_levelOf 4 = .ok (.iload_n 2, 1) := by decide +kernel
theorem dX8_levelOf_5 : decode cX8_levelOf 5 = .ok (.ifCond .ne 12, 3) := by decide +kernel
theorem dX8_levelOf_8 : decode cX8_levelOf 8 = .ok (.aload_n 0, 1) := by decide +kernel
theorem dX8_levelOf_9 : decode cX8_levelOf 9 = .ok (.getfield 49, 3) := by decide +kernel
theorem dX8_levelOf_12 : decode cX8_levelOf 12 = .ok (.iload_n 1, 1) := by decide +kernel
theorem dX8_levelOf_13 : decode cX8_levelOf 13 = .ok (.iaload, 1) := by decide +kernel
theorem dX8_levelOf_14 : decode cX8_levelOf 14 = .ok (.goto 9, 3) := by decide +kernel
theorem dX8_levelOf_17 : decode cX8_levelOf 17 = .ok (.aload_n 0, 1) := by decide +kernel
theorem dX8_levelOf_18 : decode cX8_levelOf 18 = .ok (.getfield 52, 3) := by decide +kernel
theorem dX8_levelOf_21 : decode cX8_levelOf 21 = .ok (.iload_n 1, 1) := by decide +kernel
theorem dX8_levelOf_22 : decode cX8_levelOf 22 = .ok (.iaload, 1) := by decide +kernel
theorem dX8_levelOf_23 : decode cX8_levelOf 23 = .ok (.ireturn, 1) := by decide +kernel
abbrev rmX8_levelOf : Room := { frames := 8, cells := 0, slots := 0, locals := 177 }
set_option maxHeartbeats 4000000 in
set_option maxRecDepth 100000 in
theorem wX8_levelOf (Cx : ms_C p s m args meth c D cA a shM cX8_levelOf 3 RX8 (some .int)) (out : Int32 × Mm) : ∀ (p0 : Int32) (p1 : Int32) , ∀ (σ : Mm) (H : Heap) (locs : List Loc) (ls : Array Slot), ms_I D cA a shM s σ H locs → lv_has ls 3 [(0, .ref (a 0)), (1, .int p0), (2, .int p1)] → fX8_levelOf p0 p1 σ = some out → W p l e rmX8_levelOf s m args below meth c H locs 0 0 (MQ below (ms_Qi D cA a shM out.1 out.2) args s 0 0 (ms_A a shM.length)) (F0 m 0 ls []) := by
  have hx := Cx.1
  have hb := Cx.2.1
  intro p0 p1 σ H locs ls hI hl h
  unfold fX8_levelOf at h
  refine lv_aload_n hx hb dX8_levelOf_0 rfl (lv_at hl 0 rfl) ?_
  obtain ⟨σ2, hc1, h⟩ := ms_bdE h
  refine kX8_lays Cx hI hc1 wd_24_3 (Nat.le_of_ble_eq_true rfl) (Nat.le_of_ble_eq_true rfl) hl.1 (Nat.le_of_ble_eq_true rfl) dX8_levelOf_1 (fun H locs hI => ?_)
  refine lv_iload_n hx hb dX8_levelOf_4 rfl (lv_at hl 2 rfl) ?_
  refine lv_if_ne (tgt := 17) hx hb dX8_levelOf_5 rfl (fun hc => ?_) (fun hc => ?_)
  · have h := ms_ifF hc h
    refine lv_aload_n hx hb dX8_levelOf_17 rfl (lv_at hl 0 rfl) ?_
    refine gr_X8_18 Cx hI wd_7_3 dX8_levelOf_18 ?_
    refine lv_iload_n hx hb dX8_levelOf_21 rfl (lv_at hl 1 rfl) ?_
    obtain ⟨hg, h⟩ := ms_gE h
    refine ms_ld Cx hI 15 shM_15 hg dX8_levelOf_22 ?_
    exact ms_riw Cx hI h dX8_levelOf_23
  · have h := ms_ifT hc h
    refine lv_aload_n hx hb dX8_levelOf_8 rfl (lv_at hl 0 rfl) ?_
    refine gr_X8_17 Cx hI wd_7_2 dX8_levelOf_9 ?_
    refine lv_iload_n hx hb dX8_levelOf_12 rfl (lv_at hl 1 rfl) ?_
    obtain ⟨hg, h⟩ := ms_gE h
    refine ms_ld Cx hI 14 shM_14 hg dX8_levelOf_13 ?_
    refine lv_goto (tgt := 23) hx hb dX8_levelOf_14 rfl ?_
    exact ms_riw Cx hI h dX8_levelOf_23
theorem yvX8_levelOf : ms_YV yX8_levelOf RX8 cX8_levelOf 3 (some .int) 2 := ⟨wd_24_0, wd_24_1, wd_1_5, wd_24_2, rfl, by decide +kernel, by decide +kernel, by decide +kernel⟩
set_option maxHeartbeats 4000000 in
theorem metX8_levelOf (l : Launch) (hDis : ms_Dis a shM.length) {σ : Mm} {p0 : Int32} {p1 : Int32} {out : Int32 × Mm} (h : fX8_levelOf p0 p1 σ = some out) : Met l yX8_levelOf (.code yX8_levelOf cX8_levelOf 3 (some .int) :: wsL_law) rmX8_levelOf (ms_Pc D cA a shM [.ref (a 0), .int p0, .int p1] σ) (ms_Qi D cA a shM out.1 out.2) 0 0 (ms_A a shM.length) := by
  refine Met.ofW (cc := cX8_levelOf) (maxL := 3) (ret := (some .int)) (by decide) rfl ?_
  intro p e s m args below meth c s₁ B hml hv
  obtain ⟨rfl, hK, hN, hP⟩ := hv
  have hl := lv_entry ([.ref (a 0), .int p0, .int p1]) (n := 3) (Nat.le_of_ble_eq_true rfl)
  rw [lg_entry_eq]
  generalize (lg_sl ([.ref (a 0), .int p0, .int p1]) ++ List.replicate (3 - (lg_sl ([.ref (a 0), .int p0, .int p1])).length) Slot.unset).toArray = ls at hl ⊢
  exact wX8_levelOf ⟨B.exec, B.bytes, hml, findClass_of_methodNamed B.named, fun w hw => atoms_spec (ws := .code yX8_levelOf cX8_levelOf 3 (some .int) :: wsL_law) B.pre w (List.mem_cons_of_mem _ hw), B.returns, B.notSynchronized, hK, hDis, hN⟩ out p0 p1 σ s.heap [] ls ⟨hP, va_S.rf⟩ hl h
theorem kX8_levelOf (Cx : ms_C p s m args meth c D cA a shM cc nL own ret) {σ : Mm} {H : Heap} {locs : List Loc} (hI : ms_I D cA a shM s σ H locs) {p0 : Int32} {p1 : Int32} {out : Int32 × Mm} (h : fX8_levelOf p0 p1 σ = some out) (hl : Cond.methodLink own idx yX8_levelOf ∈ wsL_law) (hf : 8 + 1 ≤ R.frames) (hlo : 8 + (3 + 11) + 177 ≤ R.locals) (hsz : ls.size = nL) (hW : (rest.map fun v => v.category).sum ≤ 8) (hd : decode cc pc = .ok (.invokevirtual idx, 3)) (kk : ∀ (H1 : Heap) (locs1 : List Loc), ms_I D cA a shM s out.2 H1 locs1 → W p l e R s m args below meth c H1 locs1 0 0 Q (F0 m (pc + 3) ls (.int out.1 :: rest))) : W p l e R s m args below meth c H locs 0 0 Q (F0 m pc ls (.int p1 :: .int p0 :: .ref (a 0) :: rest)) :=
  ms_ci hI (ms_runV (av := [.int p0, .int p1]) Cx hI 0 shM_0 (ci := 8) rfl rfl yvX8_levelOf (metX8_levelOf l Cx.2.2.2.2.2.2.2.2.1  h) ⟨rfl, rfl⟩ hl ⟨hf, hlo⟩ rfl hsz rfl hW ⟨Nat.zero_le _, Nat.zero_le _⟩ hd) kk
/-! X8 level (II)I -/
theorem dX8_level_0 : decode cX8_level 0 = .ok (.iload_n 1, 1) := by decide +kernel
theorem dX8_level_1 : decode cX8_level 1 = .ok (.invokestatic 194, 3) := by decide +kernel
theorem dX8_level_4 : decode cX8_level 4 = .ok (.ifCond .eq 21, 3) := by decide +kernel
theorem dX8_level_7 : decode cX8_level 7 = .ok (.iload_n 2, 1) := by decide +kernel
theorem dX8_level_8 : decode cX8_level 8 = .ok (.iconst 0, 1) := by decide +kernel
theorem dX8_level_9 : decode cX8_level 9 = .ok (.iconst 1, 1) := by decide +kernel
theorem dX8_level_10 : decode cX8_level 10 = .ok (.invokestatic 95, 3) := by decide +kernel
theorem dX8_level_13 : decode cX8_level 13 = .ok (.ifCond .eq 12, 3) := by decide +kernel
theorem dX8_level_16 : decode cX8_level 16 = .ok (.aload_n 0, 1) := by decide +kernel
theorem dX8_level_17 : decode cX8_level 17 = .ok (.iload_n 1, 1) := by decide +kernel
theorem dX8_level_18 : decode cX8_level 18 = .ok (.iload_n 2, 1) := by decide +kernel
theorem dX8_level_19 : decode cX8_level 19 = .ok (.invokevirtual 197, 3) := by decide +kernel
theorem dX8_level_22 : decode cX8_level 22 = .ok (.goto 5, 3) := by decide +kernel
theorem dX8_level_25 : decode cX8_level 25 = .ok (.bipush (-2), 2) := by decide +kernel
theorem dX8_level_27 : decode cX8_level 27 = .ok (.ireturn, 1) := by decide +kernel
abbrev rmX8_level : Room := { frames := 9, cells := 0, slots := 0, locals := 199 }
set_option maxHeartbeats 4000000 in
set_option maxRecDepth 100000 in
theorem wX8_level (Cx : ms_C p s m args meth c D cA a shM cX8_level 3 RX8 (some .int)) (out : Int32 × Mm) : ∀ (p0 : Int32) (p1 : Int32) , ∀ (σ : Mm) (H : Heap) (locs : List Loc) (ls : Array Slot), ms_I D cA a shM s σ H locs → lv_has ls 3 [(0, .ref (a 0)), (1, .int p0), (2, .int p1)] → fX8_level p0 p1 σ = some out → W p l e rmX8_level s m args below meth c H locs 0 0 (MQ below (ms_Qi D cA a shM out.1 out.2) args s 0 0 (ms_A a shM.length)) (F0 m 0 ls []) := by
  have hx := Cx.1
  have hb := Cx.2.1
  intro p0 p1 σ H locs ls hI hl h
  unfold fX8_level at h
  refine lv_iload_n hx hb dX8_level_0 rfl (lv_at hl 1 rfl) ?_
  obtain ⟨r2, hc1, h⟩ := ms_bdE h
  refine kX8_isHour Cx hI hc1 (Or.inl wd_23_20) (Nat.le_of_ble_eq_true rfl) (Nat.le_of_ble_eq_true rfl) hl.1 (Nat.le_of_ble_eq_true rfl) dX8_level_1 (fun H locs hI => ?_)
  refine lv_if_eq (tgt := 25) hx hb dX8_level_4 rfl (fun hc => ?_) (fun hc => ?_)
  · have h := ms_ifT hc h
    refine lv_bipush (v := -2) hx hb dX8_level_25 rfl ?_
    exact ms_riw Cx hI h dX8_level_27
  · have h := ms_ifF hc h
    refine lv_iload_n hx hb dX8_level_7 rfl (lv_at hl 2 rfl) ?_
    refine lv_iconst (v := 0) hx hb dX8_level_8 rfl ?_
    refine lv_iconst (v := 1) hx hb dX8_level_9 rfl ?_
    obtain ⟨r4, hc3, h⟩ := ms_bdE h
    refine kX8_in Cx hI hc3 (Or.inl wd_10_20) (Nat.le_of_ble_eq_true rfl) (Nat.le_of_ble_eq_true rfl) hl.1 (Nat.le_of_ble_eq_true rfl) dX8_level_10 (fun H locs hI => ?_)
    refine lv_if_eq (tgt := 25) hx hb dX8_level_13 rfl (fun hc => ?_) (fun hc => ?_)
    · have h := ms_ifT hc h
      refine lv_bipush (v := -2) hx hb dX8_level_25 rfl ?_
      exact ms_riw Cx hI h dX8_level_27
    · have h := ms_ifF hc h
      refine lv_aload_n hx hb dX8_level_16 rfl (lv_at hl 0 rfl) ?_
      refine lv_iload_n hx hb dX8_level_17 rfl (lv_at hl 1 rfl) ?_
      refine lv_iload_n hx hb dX8_level_18 rfl (lv_at hl 2 rfl) ?_
      obtain ⟨⟨r6, σ7⟩, hc5, h⟩ := ms_bdE h
      refine kX8_levelOf Cx hI hc5 wd_23_23 (Nat.le_of_ble_eq_true rfl) (Nat.le_of_ble_eq_true rfl) hl.1 (Nat.le_of_ble_eq_true rfl) dX8_level_19 (fun H locs hI => ?_)
      refine lv_goto (tgt := 27) hx hb dX8_level_22 rfl ?_
      exact ms_riw Cx hI h dX8_level_27
theorem yvX8_level : ms_YV yX8_level RX8 cX8_level 3 (some .int) 2 := ⟨wd_23_17, wd_23_18, wd_1_5, wd_23_19, rfl, by decide +kernel, by decide +kernel, by decide +kernel⟩
set_option maxHeartbeats 4000000 in
theorem metX8_level (l : Launch) (hDis : ms_Dis a shM.length) {σ : Mm} {p0 : Int32} {p1 : Int32} {out : Int32 × Mm} (h : fX8_level p0 p1 σ = some out) : Met l yX8_level (.code yX8_level cX8_level 3 (some .int) :: wsL_law) rmX8_level (ms_Pc D cA a shM [.ref (a 0), .int p0, .int p1] σ) (ms_Qi D cA a shM out.1 out.2) 0 0 (ms_A a shM.length) := by
  refine Met.ofW (cc := cX8_level) (maxL := 3) (ret := (some .int)) (by decide) rfl ?_
  intro p e s m args below meth c s₁ B hml hv
  obtain ⟨rfl, hK, hN, hP⟩ := hv
  have hl := lv_entry ([.ref (a 0), .int p0, .int p1]) (n := 3) (Nat.le_of_ble_eq_true rfl)
  rw [lg_entry_eq]
  generalize (lg_sl ([.ref (a 0), .int p0, .int p1]) ++ List.replicate (3 - (lg_sl ([.ref (a 0), .int p0, .int p1])).length) Slot.unset).toArray = ls at hl ⊢
  exact wX8_level ⟨B.exec, B.bytes, hml, findClass_of_methodNamed B.named, fun w hw => atoms_spec (ws := .code yX8_level cX8_level 3 (some .int) :: wsL_law) B.pre w (List.mem_cons_of_mem _ hw), B.returns, B.notSynchronized, hK, hDis, hN⟩ out p0 p1 σ s.heap [] ls ⟨hP, va_S.rf⟩ hl h
theorem kX8_level (Cx : ms_C p s m args meth c D cA a shM cc nL own ret) {σ : Mm} {H : Heap} {locs : List Loc} (hI : ms_I D cA a shM s σ H locs) {p0 : Int32} {p1 : Int32} {out : Int32 × Mm} (h : fX8_level p0 p1 σ = some out) (hl : Cond.methodLink own idx yX8_level ∈ wsL_law) (hf : 9 + 1 ≤ R.frames) (hlo : 8 + (3 + 11) + 199 ≤ R.locals) (hsz : ls.size = nL) (hW : (rest.map fun v => v.category).sum ≤ 8) (hd : decode cc pc = .ok (.invokevirtual idx, 3)) (kk : ∀ (H1 : Heap) (locs1 : List Loc), ms_I D cA a shM s out.2 H1 locs1 → W p l e R s m args below meth c H1 locs1 0 0 Q (F0 m (pc + 3) ls (.int out.1 :: rest))) : W p l e R s m args below meth c H locs 0 0 Q (F0 m pc ls (.int p1 :: .int p0 :: .ref (a 0) :: rest)) :=
  ms_ci hI (ms_runV (av := [.int p0, .int p1]) Cx hI 0 shM_0 (ci := 8) rfl rfl yvX8_level (metX8_level l Cx.2.2.2.2.2.2.2.2.1  h) ⟨rfl, rfl⟩ hl ⟨hf, hlo⟩ rfl hsz rfl hW ⟨Nat.zero_le _, Nat.zero_le _⟩ hd) kk
/-! X8 stands (II)I -/
theorem dX8_stands_0 : decode cX8_stands 0 = .ok (.aload_n 0, 1) := by decide +kernel
theorem dX8_stands_1 : decode cX8_stands 1 = .ok (.iload_n 1, 1) := by decide +kernel
theorem dX8_stands_2 : decode cX8_stands 2 = .ok (.invokevirtual 143, 3) := by decide +kernel
theorem dX8_stands_5 : decode cX8_stands 5 = .ok (.ifCond .eq 10, 3) := by decide +kernel
theorem dX8_stands_8 : decode cX8_stands 8 = .ok (.iload_n 2, 1) := by decide +kernel
theorem dX8_stands_9 : decode cX8_stands 9 = .ok (.invokestatic 194, 3) := by decide +kernel
theorem dX8_stands_12 : decode cX8_stands 12 = .ok (.ifCond .ne 6, 3) := by decide +kernel
theorem dX8_stands_15 : decode cX8_stands 15 = .ok (.bipush (-2), 2) := by decide +kernel
theorem dX8_stands_17 : decode cX8_stands 17 = .ok (.ireturn, 1) := by decide +kernel
theorem dX8_stands_18 : decode cX8_stands 18 = .ok (.aload_n 0, 1) := by decide +kernel
theorem dX8_stands_19 : decode cX8_stands 19 = .ok (.invokevirtual 191, 3) := by decide +kernel
theorem dX8_stands_22 : decode cX8_stands 22 = .ok (.aload_n 0, 1) := by decide +kernel
theorem dX8_stands_23 : decode cX8_stands 23 = .ok (.getfield 61, 3) := by decide +kernel
theorem dX8_stands_26 : decode cX8_stands 26 = .ok (.iload_n 2, 1) := by decide +kernel
theorem dX8_stands_27 : decode cX8_stands 27 = .ok (.iaload, 1) := by decide +kernel
theorem dX8_stands_28 : decode cX8_stands 28 = .ok (.iload_n 1, 1) := by decide +kernel
theorem dX8_stands_29 : decode cX8_stands 29 = .ok (.ishr, 1) := by decide +kernel
theorem dX8_stands_30 : decode cX8_stands 30 = .ok (.iconst 1, 1) := by decide +kernel
theorem dX8_stands_31 : decode cX8_stands 31 = .ok (.iand, 1) := by decide +kernel
theorem dX8_stands_32 : decode cX8_stands 32 = .ok (.ireturn, 1) := by decide +kernel
abbrev rmX8_stands : Room := { frames := 8, cells := 0, slots := 0, locals := 178 }
set_option maxHeartbeats 4000000 in
set_option maxRecDepth 100000 in
theorem wX8_stands (Cx : ms_C p s m args meth c D cA a shM cX8_stands 3 RX8 (some .int)) (out : Int32 × Mm) : ∀ (p0 : Int32) (p1 : Int32) , ∀ (σ : Mm) (H : Heap) (locs : List Loc) (ls : Array Slot), ms_I D cA a shM s σ H locs → lv_has ls 3 [(0, .ref (a 0)), (1, .int p0), (2, .int p1)] → fX8_stands p0 p1 σ = some out → W p l e rmX8_stands s m args below meth c H locs 0 0 (MQ below (ms_Qi D cA a shM out.1 out.2) args s 0 0 (ms_A a shM.length)) (F0 m 0 ls []) := by
  have hx := Cx.1
  have hb := Cx.2.1
  intro p0 p1 σ H locs ls hI hl h
  unfold fX8_stands at h
  refine lv_aload_n hx hb dX8_stands_0 rfl (lv_at hl 0 rfl) ?_
  refine lv_iload_n hx hb dX8_stands_1 rfl (lv_at hl 1 rfl) ?_
  obtain ⟨⟨r2, σ3⟩, hc1, h⟩ := ms_bdE h
  refine kX8_isThing Cx hI hc1 wd_13_23 (Nat.le_of_ble_eq_true rfl) (Nat.le_of_ble_eq_true rfl) hl.1 (Nat.le_of_ble_eq_true rfl) dX8_stands_2 (fun H locs hI => ?_)
  refine lv_if_eq (tgt := 15) hx hb dX8_stands_5 rfl (fun hc => ?_) (fun hc => ?_)
  · have h := ms_ifT hc h
    refine lv_bipush (v := -2) hx hb dX8_stands_15 rfl ?_
    exact ms_riw Cx hI h dX8_stands_17
  · have h := ms_ifF hc h
    refine lv_iload_n hx hb dX8_stands_8 rfl (lv_at hl 2 rfl) ?_
    obtain ⟨r5, hc4, h⟩ := ms_bdE h
    refine kX8_isHour Cx hI hc4 (Or.inl wd_23_20) (Nat.le_of_ble_eq_true rfl) (Nat.le_of_ble_eq_true rfl) hl.1 (Nat.le_of_ble_eq_true rfl) dX8_stands_9 (fun H locs hI => ?_)
    refine lv_if_ne (tgt := 18) hx hb dX8_stands_12 rfl (fun hc => ?_) (fun hc => ?_)
    · have h := ms_ifF hc h
      refine lv_aload_n hx hb dX8_stands_18 rfl (lv_at hl 0 rfl) ?_
      obtain ⟨σ7, hc6, h⟩ := ms_bdE h
      refine kX8_lays Cx hI hc6 wd_24_3 (Nat.le_of_ble_eq_true rfl) (Nat.le_of_ble_eq_true rfl) hl.1 (Nat.le_of_ble_eq_true rfl) dX8_stands_19 (fun H locs hI => ?_)
      refine lv_aload_n hx hb dX8_stands_22 rfl (lv_at hl 0 rfl) ?_
      refine gr_X8_21 Cx hI wd_7_6 dX8_stands_23 ?_
      refine lv_iload_n hx hb dX8_stands_26 rfl (lv_at hl 2 rfl) ?_
      obtain ⟨hg, h⟩ := ms_gE h
      refine ms_ld Cx hI 18 shM_18 hg dX8_stands_27 ?_
      refine lv_iload_n hx hb dX8_stands_28 rfl (lv_at hl 1 rfl) ?_
      refine lv_ishr hx hb dX8_stands_29 ?_
      refine lv_iconst (v := 1) hx hb dX8_stands_30 rfl ?_
      refine lv_iand hx hb dX8_stands_31 ?_
      exact ms_riw Cx hI h dX8_stands_32
    · have h := ms_ifT hc h
      refine lv_bipush (v := -2) hx hb dX8_stands_15 rfl ?_
      exact ms_riw Cx hI h dX8_stands_17
theorem yvX8_stands : ms_YV yX8_stands RX8 cX8_stands 3 (some .int) 2 := ⟨wd_25_1, wd_25_2, wd_1_5, wd_25_3, rfl, by decide +kernel, by decide +kernel, by decide +kernel⟩
set_option maxHeartbeats 4000000 in
theorem metX8_stands (l : Launch) (hDis : ms_Dis a shM.length) {σ : Mm} {p0 : Int32} {p1 : Int32} {out : Int32 × Mm} (h : fX8_stands p0 p1 σ = some out) : Met l yX8_stands (.code yX8_stands cX8_stands 3 (some .int) :: wsL_law) rmX8_stands (ms_Pc D cA a shM [.ref (a 0), .int p0, .int p1] σ) (ms_Qi D cA a shM out.1 out.2) 0 0 (ms_A a shM.length) := by
  refine Met.ofW (cc := cX8_stands) (maxL := 3) (ret := (some .int)) (by decide) rfl ?_
  intro p e s m args below meth c s₁ B hml hv
  obtain ⟨rfl, hK, hN, hP⟩ := hv
  have hl := lv_entry ([.ref (a 0), .int p0, .int p1]) (n := 3) (Nat.le_of_ble_eq_true rfl)
  rw [lg_entry_eq]
  generalize (lg_sl ([.ref (a 0), .int p0, .int p1]) ++ List.replicate (3 - (lg_sl ([.ref (a 0), .int p0, .int p1])).length) Slot.unset).toArray = ls at hl ⊢
  exact wX8_stands ⟨B.exec, B.bytes, hml, findClass_of_methodNamed B.named, fun w hw => atoms_spec (ws := .code yX8_stands cX8_stands 3 (some .int) :: wsL_law) B.pre w (List.mem_cons_of_mem _ hw), B.returns, B.notSynchronized, hK, hDis, hN⟩ out p0 p1 σ s.heap [] ls ⟨hP, va_S.rf⟩ hl h
theorem kX8_stands (Cx : ms_C p s m args meth c D cA a shM cc nL own ret) {σ : Mm} {H : Heap} {locs : List Loc} (hI : ms_I D cA a shM s σ H locs) {p0 : Int32} {p1 : Int32} {out : Int32 × Mm} (h : fX8_stands p0 p1 σ = some out) (hl : Cond.methodLink own idx yX8_stands ∈ wsL_law) (hf : 8 + 1 ≤ R.frames) (hlo : 8 + (3 + 11) + 178 ≤ R.locals) (hsz : ls.size = nL) (hW : (rest.map fun v => v.category).sum ≤ 8) (hd : decode cc pc = .ok (.invokevirtual idx, 3)) (kk : ∀ (H1 : Heap) (locs1 : List Loc), ms_I D cA a shM s out.2 H1 locs1 → W p l e R s m args below meth c H1 locs1 0 0 Q (F0 m (pc + 3) ls (.int out.1 :: rest))) : W p l e R s m args below meth c H locs 0 0 Q (F0 m pc ls (.int p1 :: .int p0 :: .ref (a 0) :: rest)) :=
  ms_ci hI (ms_runV (av := [.int p0, .int p1]) Cx hI 0 shM_0 (ci := 8) rfl rfl yvX8_stands (metX8_stands l Cx.2.2.2.2.2.2.2.2.1  h) ⟨rfl, rfl⟩ hl ⟨hf, hlo⟩ rfl hsz rfl hW ⟨Nat.zero_le _, Nat.zero_le _⟩ hd) kk
/-! X8 stoodBy (II)I -/
theorem dX8_stoodBy_0 : decode cX8_stoodBy 0 = .ok (.iconst 0, 1) := by decide +kernel
theorem dX8_stoodBy_1 : decode cX8_stoodBy 1 = .ok (.istore_n 3, 1) := by decide +kernel
theorem dX8_stoodBy_2 : decode cX8_stoodBy 2 = .ok (.iconst 0, 1) := by decide +kernel
theorem dX8_stoodBy_3 : decode cX8_stoodBy 3 = .ok (.istore 4, 2) := by decide +kernel
theorem dX8_stoodBy_5 : decode cX8_stoodBy 5 = .ok (.iload 4, 2) := by decide +kernel
theorem dX8_stoodBy_7 : decode cX8_stoodBy 7 = .ok (.bipush 24, 2) := by decide +kernel
theorem dX8_stoodBy_9 : decode cX8_stoodBy 9 = .ok (.iload_n 2, 1) := by decide +kernel
theorem dX8_stoodBy_10 : decode cX8_stoodBy 10 = .ok (.imul, 1) := by decide +kernel
theorem dX8_stoodBy_11 : decode cX8_stoodBy 11 = .ok (.if_icmp .ge 23, 3) := by decide +kernel
theorem dX8_stoodBy_14 : decode cX8_stoodBy 14 = .ok (.iload_n 3, 1) := by decide +kernel
theorem dX8_stoodBy_15 : decode cX8_stoodBy 15 = .ok (.aload_n 0, 1) := by decide +kernel
theorem dX8_stoodBy_16 : decode cX8_stoodBy 16 = .ok (.getfield 61, 3) := by decide +kernel
theorem dX8_stoodBy_19 : decode cX8_stoodBy 19 = .ok (.iload 4, 2) := by decide +kernel
theorem dX8_stoodBy_21 : decode cX8_stoodBy 21 = .ok (.iaload, 1) := by decide +kernel
theorem dX8_stoodBy_22 : decode cX8_stoodBy 22 = .ok (.iload_n 1, 1) := by decide +kernel
theorem dX8_stoodBy_23 : decode cX8_stoodBy 23 = .ok (.ishr, 1) := by decide +kernel
theorem dX8_stoodBy_24 : decode cX8_stoodBy 24 = .ok (.iconst 1, 1) := by decide +kernel
theorem dX8_stoodBy_25 : decode cX8_stoodBy 25 = .ok (.iand, 1) := by decide +kernel
theorem dX8_stoodBy_26 : decode cX8_stoodBy 26 = .ok (.iadd, 1) := by decide +kernel
theorem dX8_stoodBy_27 : decode cX8_stoodBy 27 = .ok (.istore_n 3, 1) := by decide +kernel
theorem dX8_stoodBy_28 : decode cX8_stoodBy 28 = .ok (.iinc 4 1, 3) := by decide +kernel
theorem dX8_stoodBy_31 : decode cX8_stoodBy 31 = .ok (.goto (-26), 3) := by decide +kernel
theorem dX8_stoodBy_34 : decode cX8_stoodBy 34 = .ok (.iload_n 3, 1) := by decide +kernel
theorem dX8_stoodBy_35 : decode cX8_stoodBy 35 = .ok (.ireturn, 1) := by decide +kernel
abbrev rmX8_stoodBy : Room := { frames := 0, cells := 0, slots := 0, locals := 0 }
set_option maxHeartbeats 4000000 in
set_option maxRecDepth 100000 in
theorem wX8_stoodBy_5 (Cx : ms_C p s m args meth c D cA a shM cX8_stoodBy 5 RX8 (some .int)) (out : Int32) {σ : Mm} : ∀ (n : Nat), ∀ (y1 : Int32) (y2 : Int32) (y3 : Int32) (y4 : Int32) , ∀ (H : Heap) (locs : List Loc) (ls : Array Slot), ms_I D cA a shM s σ H locs → lv_has ls 5 [(0, .ref (a 0)), (1, .int y1), (2, .int y2), (3, .int y3), (4, .int y4)] → fX8_stoodBy_5 σ n y1 y2 y3 y4 = some out → W p l e rmX8_stoodBy s m args below meth c H locs 0 0 (MQ below (ms_Qi D cA a shM out σ) args s 0 0 (ms_A a shM.length)) (F0 m 5 ls []) := by
  have hx := Cx.1
  have hb := Cx.2.1
  intro n
  induction n with
  | zero =>
    intro y1 y2 y3 y4 H locs ls hI hl h
    exact nomatch (show none = some out from h)
  | succ n ih =>
    intro y1 y2 y3 y4 H locs ls hI hl h
    rw [fX8_stoodBy_5] at h
    refine lv_iload hx hb dX8_stoodBy_5 (lv_at hl 4 rfl) ?_
    refine lv_bipush (v := 24) hx hb dX8_stoodBy_7 rfl ?_
    refine lv_iload_n hx hb dX8_stoodBy_9 rfl (lv_at hl 2 rfl) ?_
    refine lv_imul hx hb dX8_stoodBy_10 ?_
    refine lv_icmp_ge (tgt := 34) hx hb dX8_stoodBy_11 rfl (fun hc => ?_) (fun hc => ?_)
    · have h := ms_ifT hc h
      refine lv_iload_n hx hb dX8_stoodBy_34 rfl (lv_at hl 3 rfl) ?_
      exact ms_ri Cx hI (Option.some.inj h) rfl dX8_stoodBy_35
    · have h := ms_ifF hc h
      refine lv_iload_n hx hb dX8_stoodBy_14 rfl (lv_at hl 3 rfl) ?_
      refine lv_aload_n hx hb dX8_stoodBy_15 rfl (lv_at hl 0 rfl) ?_
      refine gr_X8_21 Cx hI wd_7_6 dX8_stoodBy_16 ?_
      refine lv_iload hx hb dX8_stoodBy_19 (lv_at hl 4 rfl) ?_
      obtain ⟨hg, h⟩ := ms_gE h
      refine ms_ld Cx hI 18 shM_18 hg dX8_stoodBy_21 ?_
      refine lv_iload_n hx hb dX8_stoodBy_22 rfl (lv_at hl 1 rfl) ?_
      refine lv_ishr hx hb dX8_stoodBy_23 ?_
      refine lv_iconst (v := 1) hx hb dX8_stoodBy_24 rfl ?_
      refine lv_iand hx hb dX8_stoodBy_25 ?_
      refine lv_iadd hx hb dX8_stoodBy_26 ?_
      refine lv_topi (fun x1 ex1 => ?_)
      have h := ms_ltE ex1 h
      refine lv_istore_n (lv' := [(3, .int x1), (0, .ref (a 0)), (1, .int y1), (2, .int y2), (4, .int y4)]) hx hb dX8_stoodBy_27 rfl hl (by decide) rfl (fun ls hl => ?_)
      refine lv_iinc (v := y4 + 1) (lv' := [(4, .int (y4 + 1)), (3, .int x1), (0, .ref (a 0)), (1, .int y1), (2, .int y2)]) hx hb dX8_stoodBy_28 hl (k := 4) rfl rfl (by decide) rfl (fun ls hl => ?_)
      refine lv_goto (tgt := 5) hx hb dX8_stoodBy_31 rfl ?_
      exact ih y1 y2 x1 (y4 + 1) _ _ _ hI (lv_sub hl [2, 3, 4, 1, 0] rfl) h
set_option maxHeartbeats 4000000 in
set_option maxRecDepth 100000 in
theorem wX8_stoodBy (Cx : ms_C p s m args meth c D cA a shM cX8_stoodBy 5 RX8 (some .int)) (out : Int32) {σ : Mm} : ∀ (p0 : Int32) (p1 : Int32) , ∀ (H : Heap) (locs : List Loc) (ls : Array Slot), ms_I D cA a shM s σ H locs → lv_has ls 5 [(0, .ref (a 0)), (1, .int p0), (2, .int p1)] → fX8_stoodBy σ p0 p1 = some out → W p l e rmX8_stoodBy s m args below meth c H locs 0 0 (MQ below (ms_Qi D cA a shM out σ) args s 0 0 (ms_A a shM.length)) (F0 m 0 ls []) := by
  have hx := Cx.1
  have hb := Cx.2.1
  intro p0 p1 H locs ls hI hl h
  unfold fX8_stoodBy at h
  refine lv_iconst (v := 0) hx hb dX8_stoodBy_0 rfl ?_
  refine lv_istore_n (lv' := [(3, .int 0), (0, .ref (a 0)), (1, .int p0), (2, .int p1)]) hx hb dX8_stoodBy_1 rfl hl (by decide) rfl (fun ls hl => ?_)
  refine lv_iconst (v := 0) hx hb dX8_stoodBy_2 rfl ?_
  refine lv_istore (lv' := [(4, .int 0), (3, .int 0), (0, .ref (a 0)), (1, .int p0), (2, .int p1)]) hx hb dX8_stoodBy_3 hl (by decide) rfl (fun ls hl => ?_)
  exact wX8_stoodBy_5 Cx out  ms_fu p0 p1 0 0 _ _ _ hI (lv_sub hl [2, 3, 4, 1, 0] rfl) h
theorem yvX8_stoodBy : ms_YV yX8_stoodBy RX8 cX8_stoodBy 5 (some .int) 2 := ⟨wd_26_3, wd_26_4, wd_1_5, wd_26_5, rfl, by decide +kernel, by decide +kernel, by decide +kernel⟩
set_option maxHeartbeats 4000000 in
theorem metX8_stoodBy (l : Launch) (hDis : ms_Dis a shM.length) {σ : Mm} {p0 : Int32} {p1 : Int32} {out : Int32} (h : fX8_stoodBy σ p0 p1 = some out) : Met l yX8_stoodBy (.code yX8_stoodBy cX8_stoodBy 5 (some .int) :: wsL_law) rmX8_stoodBy (ms_Pc D cA a shM [.ref (a 0), .int p0, .int p1] σ) (ms_Qi D cA a shM out σ) 0 0 (ms_A a shM.length) := by
  refine Met.ofW (cc := cX8_stoodBy) (maxL := 5) (ret := (some .int)) (by decide) rfl ?_
  intro p e s m args below meth c s₁ B hml hv
  obtain ⟨rfl, hK, hN, hP⟩ := hv
  have hl := lv_entry ([.ref (a 0), .int p0, .int p1]) (n := 5) (Nat.le_of_ble_eq_true rfl)
  rw [lg_entry_eq]
  generalize (lg_sl ([.ref (a 0), .int p0, .int p1]) ++ List.replicate (5 - (lg_sl ([.ref (a 0), .int p0, .int p1])).length) Slot.unset).toArray = ls at hl ⊢
  exact wX8_stoodBy ⟨B.exec, B.bytes, hml, findClass_of_methodNamed B.named, fun w hw => atoms_spec (ws := .code yX8_stoodBy cX8_stoodBy 5 (some .int) :: wsL_law) B.pre w (List.mem_cons_of_mem _ hw), B.returns, B.notSynchronized, hK, hDis, hN⟩ out p0 p1 s.heap [] ls ⟨hP, va_S.rf⟩ hl h
theorem kX8_stoodBy (Cx : ms_C p s m args meth c D cA a shM cc nL own ret) {σ : Mm} {H : Heap} {locs : List Loc} (hI : ms_I D cA a shM s σ H locs) {p0 : Int32} {p1 : Int32} {out : Int32} (h : fX8_stoodBy σ p0 p1 = some out) (hl : Cond.methodLink own idx yX8_stoodBy ∈ wsL_law) (hf : 0 + 1 ≤ R.frames) (hlo : 8 + (5 + 11) + 0 ≤ R.locals) (hsz : ls.size = nL) (hW : (rest.map fun v => v.category).sum ≤ 8) (hd : decode cc pc = .ok (.invokevirtual idx, 3)) (kk : ∀ (H1 : Heap) (locs1 : List Loc), ms_I D cA a shM s σ H1 locs1 → W p l e R s m args below meth c H1 locs1 0 0 Q (F0 m (pc + 3) ls (.int out :: rest))) : W p l e R s m args below meth c H locs 0 0 Q (F0 m pc ls (.int p1 :: .int p0 :: .ref (a 0) :: rest)) :=
  ms_ci hI (ms_runV (av := [.int p0, .int p1]) Cx hI 0 shM_0 (ci := 8) rfl rfl yvX8_stoodBy (metX8_stoodBy l Cx.2.2.2.2.2.2.2.2.1  h) ⟨rfl, rfl⟩ hl ⟨hf, hlo⟩ rfl hsz rfl hW ⟨Nat.zero_le _, Nat.zero_le _⟩ hd) kk
/-! X8 stoodOf (II)I -/
theorem dX8_stoodOf_0 : decode cX8_stoodOf 0 = .ok (.aload_n 0, 1) := by decide +kernel
theorem dX8_stoodOf_1 : decode cX8_stoodOf 1 = .ok (.invokevirtual 191, 3) := by decide +kernel
theorem dX8_stoodOf_4 : decode cX8_stoodOf 4 = .ok (.aload_n 0, 1) := by decide +kernel
theorem dX8_stoodOf_5 : decode cX8_stoodOf 5 = .ok (.iload_n 1, 1) := by decide +kernel
theorem dX8_stoodOf_6 : decode cX8_stoodOf 6 = .ok (.iload_n 2, 1) := by decide +kernel
theorem dX8_stoodOf_7 : decode cX8_stoodOf 7 = .ok (.invokevirtual 200, 3) := by decide +kernel
theorem dX8_stoodOf_10 : decode cX8_stoodOf 10 = .ok (.ireturn, 1) := by decide +kernel
abbrev rmX8_stoodOf : Room := { frames := 8, cells := 0, slots := 0, locals := 177 }
set_option maxHeartbeats 4000000 in
set_option maxRecDepth 100000 in
theorem wX8_stoodOf (Cx : ms_C p s m args meth c D cA a shM cX8_stoodOf 3 RX8 (some .int)) (out : Int32 × Mm) : ∀ (p0 : Int32) (p1 : Int32) , ∀ (σ : Mm) (H : Heap) (locs : List Loc) (ls : Array Slot), ms_I D cA a shM s σ H locs → lv_has ls 3 [(0, .ref (a 0)), (1, .int p0), (2, .int p1)] → fX8_stoodOf p0 p1 σ = some out → W p l e rmX8_stoodOf s m args below meth c H locs 0 0 (MQ below (ms_Qi D cA a shM out.1 out.2) args s 0 0 (ms_A a shM.length)) (F0 m 0 ls []) := by
  have hx := Cx.1
  have hb := Cx.2.1
  intro p0 p1 σ H locs ls hI hl h
  unfold fX8_stoodOf at h
  refine lv_aload_n hx hb dX8_stoodOf_0 rfl (lv_at hl 0 rfl) ?_
  obtain ⟨σ2, hc1, h⟩ := ms_bdE h
  refine kX8_lays Cx hI hc1 wd_24_3 (Nat.le_of_ble_eq_true rfl) (Nat.le_of_ble_eq_true rfl) hl.1 (Nat.le_of_ble_eq_true rfl) dX8_stoodOf_1 (fun H locs hI => ?_)
  refine lv_aload_n hx hb dX8_stoodOf_4 rfl (lv_at hl 0 rfl) ?_
  refine lv_iload_n hx hb dX8_stoodOf_5 rfl (lv_at hl 1 rfl) ?_
  refine lv_iload_n hx hb dX8_stoodOf_6 rfl (lv_at hl 2 rfl) ?_
  obtain ⟨r4, hc3, h⟩ := ms_bdE h
  refine kX8_stoodBy Cx hI hc3 wd_26_2 (Nat.le_of_ble_eq_true rfl) (Nat.le_of_ble_eq_true rfl) hl.1 (Nat.le_of_ble_eq_true rfl) dX8_stoodOf_7 (fun H locs hI => ?_)
  exact ms_riw Cx hI h dX8_stoodOf_10
theorem yvX8_stoodOf : ms_YV yX8_stoodOf RX8 cX8_stoodOf 3 (some .int) 2 := ⟨wd_25_23, wd_26_0, wd_1_5, wd_26_1, rfl, by decide +kernel, by decide +kernel, by decide +kernel⟩
set_option maxHeartbeats 4000000 in
theorem metX8_stoodOf (l : Launch) (hDis : ms_Dis a shM.length) {σ : Mm} {p0 : Int32} {p1 : Int32} {out : Int32 × Mm} (h : fX8_stoodOf p0 p1 σ = some out) : Met l yX8_stoodOf (.code yX8_stoodOf cX8_stoodOf 3 (some .int) :: wsL_law) rmX8_stoodOf (ms_Pc D cA a shM [.ref (a 0), .int p0, .int p1] σ) (ms_Qi D cA a shM out.1 out.2) 0 0 (ms_A a shM.length) := by
  refine Met.ofW (cc := cX8_stoodOf) (maxL := 3) (ret := (some .int)) (by decide) rfl ?_
  intro p e s m args below meth c s₁ B hml hv
  obtain ⟨rfl, hK, hN, hP⟩ := hv
  have hl := lv_entry ([.ref (a 0), .int p0, .int p1]) (n := 3) (Nat.le_of_ble_eq_true rfl)
  rw [lg_entry_eq]
  generalize (lg_sl ([.ref (a 0), .int p0, .int p1]) ++ List.replicate (3 - (lg_sl ([.ref (a 0), .int p0, .int p1])).length) Slot.unset).toArray = ls at hl ⊢
  exact wX8_stoodOf ⟨B.exec, B.bytes, hml, findClass_of_methodNamed B.named, fun w hw => atoms_spec (ws := .code yX8_stoodOf cX8_stoodOf 3 (some .int) :: wsL_law) B.pre w (List.mem_cons_of_mem _ hw), B.returns, B.notSynchronized, hK, hDis, hN⟩ out p0 p1 σ s.heap [] ls ⟨hP, va_S.rf⟩ hl h
theorem kX8_stoodOf (Cx : ms_C p s m args meth c D cA a shM cc nL own ret) {σ : Mm} {H : Heap} {locs : List Loc} (hI : ms_I D cA a shM s σ H locs) {p0 : Int32} {p1 : Int32} {out : Int32 × Mm} (h : fX8_stoodOf p0 p1 σ = some out) (hl : Cond.methodLink own idx yX8_stoodOf ∈ wsL_law) (hf : 8 + 1 ≤ R.frames) (hlo : 8 + (3 + 11) + 177 ≤ R.locals) (hsz : ls.size = nL) (hW : (rest.map fun v => v.category).sum ≤ 8) (hd : decode cc pc = .ok (.invokevirtual idx, 3)) (kk : ∀ (H1 : Heap) (locs1 : List Loc), ms_I D cA a shM s out.2 H1 locs1 → W p l e R s m args below meth c H1 locs1 0 0 Q (F0 m (pc + 3) ls (.int out.1 :: rest))) : W p l e R s m args below meth c H locs 0 0 Q (F0 m pc ls (.int p1 :: .int p0 :: .ref (a 0) :: rest)) :=
  ms_ci hI (ms_runV (av := [.int p0, .int p1]) Cx hI 0 shM_0 (ci := 8) rfl rfl yvX8_stoodOf (metX8_stoodOf l Cx.2.2.2.2.2.2.2.2.1  h) ⟨rfl, rfl⟩ hl ⟨hf, hlo⟩ rfl hsz rfl hW ⟨Nat.zero_le _, Nat.zero_le _⟩ hd) kk
end WK
