section WK
variable {p : Program} {l : Launch} {e : Env} {R : Room} {s : State} {m : MethodId} {args : Array Value} {below : List Frame} {meth : Method} {c : Code} {Q : State → Prop}
variable {D : va_G} {cA : Nat → ClassId} {a : Nat → Nat} {cc : ByteArray} {nL idx : Nat} {own : String} {ret : Option FieldType} {pc : Nat} {ls : Array Slot} {rest : List Value}
/-! X8 write (II)I -/
theorem dX8_write_0 : decode cX8_write 0 = .ok (.iload_n 1, 1) := by decide +kernel
theorem dX8_write_1 : decode cX8_write 1 = .ok (.invokestatic 194, 3) := by decide +kernel
theorem dX8_write_4 : decode cX8_write 4 = .ok (.ifCond .eq 10, 3) := by decide +kernel
theorem dX8_write_7 : decode cX8_write 7 = .ok (.iload_n 2, 1) := by decide +kernel
theorem dX8_write_8 : decode cX8_write 8 = .ok (.invokestatic 160, 3) := by decide +kernel
theorem dX8_write_11 : decode cX8_write 11 = .ok (.ifCond .ne 6, 3) := by decide +kernel
theorem dX8_write_14 : decode cX8_write 14 = .ok (.bipush (-2), 2) := by decide +kernel
theorem dX8_write_16 : decode cX8_write 16 = .ok (.ireturn, 1) := by decide +kernel
theorem dX8_write_17 : decode cX8_write 17 = .ok (.aload_n 0, 1) := by decide +kernel
theorem dX8_write_18 : decode cX8_write 18 = .ok (.getfield 79, 3) := by decide +kernel
theorem dX8_write_21 : decode cX8_write 21 = .ok (.iload_n 2, 1) := by decide +kernel
theorem dX8_write_22 : decode cX8_write 22 = .ok (.baload, 1) := by decide +kernel
theorem dX8_write_23 : decode cX8_write 23 = .ok (.ifCond .ne 9, 3) := by decide +kernel
theorem dX8_write_26 : decode cX8_write 26 = .ok (.aload_n 0, 1) := by decide +kernel
theorem dX8_write_27 : decode cX8_write 27 = .ok (.iconst 1, 1) := by decide +kernel
theorem dX8_write_28 : decode cX8_write 28 = .ok (.invokevirtual 163, 3) := by decide +kernel
theorem dX8_write_31 : decode cX8_write 31 = .ok (.ireturn, 1) := by decide +kernel
theorem dX8_write_32 : decode cX8_write 32 = .ok (.aload_n 0, 1) := by decide +kernel
theorem dX8_write_33 : decode cX8_write 33 = .ok (.invokevirtual 191, 3) := by decide +kernel
theorem dX8_write_36 : decode cX8_write 36 = .ok (.iconst 0, 1) := by decide +kernel
theorem dX8_write_37 : decode cX8_write 37 = .ok (.istore_n 3, 1) := by decide +kernel
theorem dX8_write_38 : decode cX8_write 38 = .ok (.iload_n 3, 1) := by decide +kernel
theorem dX8_write_39 : decode cX8_write 39 = .ok (.aload_n 0, 1) := by decide +kernel
theorem dX8_write_40 : decode cX8_write 40 = .ok (.getfield 86, 3) := by decide +kernel
theorem dX8_write_43 : decode cX8_write 43 = .ok (.iload_n 2, 1) := by decide +kernel
theorem dX8_write_44 : decode cX8_write 44 = .ok (.iaload, 1) := by decide +kernel
theorem dX8_write_45 : decode cX8_write 45 = .ok (.if_icmp .ge 32, 3) := by decide +kernel
theorem dX8_write_48 : decode cX8_write 48 = .ok (.iload_n 1, 1) := by decide +kernel
theorem dX8_write_49 : decode cX8_write 49 = .ok (.iload_n 3, 1) := by decide +kernel
theorem dX8_write_50 : decode cX8_write 50 = .ok (.iadd, 1) := by decide +kernel
theorem dX8_write_51 : decode cX8_write 51 = .ok (.sipush 240, 3) := by decide +kernel
theorem dX8_write_54 : decode cX8_write 54 = .ok (.if_icmp .ge 23, 3) := by decide +kernel
theorem dX8_write_57 : decode cX8_write 57 = .ok (.aload_n 0, 1) := by decide +kernel
theorem dX8_write_58 : decode cX8_write 58 = .ok (.iload_n 2, 1) := by decide +kernel
theorem dX8_write_59 : decode cX8_write 59 = .ok (.iload_n 3, 1) := by decide +kernel
theorem dX8_write_60 : decode cX8_write 60 = .ok (.aload_n 0, 1) := by decide +kernel
theorem dX8_write_61 : decode cX8_write 61 = .ok (.getfield 49, 3) := by decide +kernel
theorem dX8_write_64 : decode cX8_write 64 = .ok (.iload_n 1, 1) := by decide +kernel
theorem dX8_write_65 : decode cX8_write 65 = .ok (.iload_n 3, 1) := by decide +kernel
theorem dX8_write_66 : decode cX8_write 66 = .ok (.iadd, 1) := by decide +kernel
theorem dX8_write_67 : decode cX8_write 67 = .ok (.iaload, 1) := by decide +kernel
theorem dX8_write_68 : decode cX8_write 68 = .ok (.invokevirtual 254, 3) := by decide +kernel
theorem dX8_write_71 : decode cX8_write 71 = .ok (.iinc 3 1, 3) := by decide +kernel
theorem dX8_write_74 : decode cX8_write 74 = .ok (.goto (-36), 3) := by decide +kernel
theorem dX8_write_77 : decode cX8_write 77 = .ok (.iload_n 3, 1) := by decide +kernel
theorem dX8_write_78 : decode cX8_write 78 = .ok (.ireturn, 1) := by decide +kernel
abbrev rmX8_write : Room := { frames := 8, cells := 0, slots := 0, locals := 177 }
set_option maxHeartbeats 4000000 in
set_option maxRecDepth 100000 in
theorem wX8_write_38 (Cx : ms_C p s m args meth c D cA a shM cX8_write 4 RX8 (some .int)) (out : Int32 × Mm) : ∀ (n : Nat), ∀ (y1 : Int32) (y2 : Int32) (y3 : Int32) , ∀ (σ : Mm) (H : Heap) (locs : List Loc) (ls : Array Slot), ms_I D cA a shM s σ H locs → lv_has ls 4 [(0, .ref (a 0)), (1, .int y1), (2, .int y2), (3, .int y3)] → fX8_write_38 n y1 y2 y3 σ = some out → W p l e rmX8_write s m args below meth c H locs 0 0 (MQ below (ms_Qi D cA a shM out.1 out.2) args s 0 0 (ms_A a shM.length)) (F0 m 38 ls []) := by
  have hx := Cx.1
  have hb := Cx.2.1
  intro n
  induction n with
  | zero =>
    intro y1 y2 y3 σ H locs ls hI hl h
    exact nomatch (show none = some out from h)
  | succ n ih =>
    intro y1 y2 y3 σ H locs ls hI hl h
    rw [fX8_write_38] at h
    refine lv_iload_n hx hb dX8_write_38 rfl (lv_at hl 3 rfl) ?_
    refine lv_aload_n hx hb dX8_write_39 rfl (lv_at hl 0 rfl) ?_
    refine gr_X8_30 Cx hI wd_7_15 dX8_write_40 ?_
    refine lv_iload_n hx hb dX8_write_43 rfl (lv_at hl 2 rfl) ?_
    obtain ⟨hg, h⟩ := ms_gE h
    refine ms_ld Cx hI 26 shM_26 hg dX8_write_44 ?_
    refine lv_icmp_ge (tgt := 77) hx hb dX8_write_45 rfl (fun hc => ?_) (fun hc => ?_)
    · have h := ms_ifT hc h
      refine lv_iload_n hx hb dX8_write_77 rfl (lv_at hl 3 rfl) ?_
      exact ms_riw Cx hI h dX8_write_78
    · have h := ms_ifF hc h
      refine lv_iload_n hx hb dX8_write_48 rfl (lv_at hl 1 rfl) ?_
      refine lv_iload_n hx hb dX8_write_49 rfl (lv_at hl 3 rfl) ?_
      refine lv_iadd hx hb dX8_write_50 ?_
      refine lv_sipush (v := 240) hx hb dX8_write_51 rfl ?_
      refine lv_icmp_ge (tgt := 77) hx hb dX8_write_54 rfl (fun hc => ?_) (fun hc => ?_)
      · have h := ms_ifT hc h
        refine lv_iload_n hx hb dX8_write_77 rfl (lv_at hl 3 rfl) ?_
        exact ms_riw Cx hI h dX8_write_78
      · have h := ms_ifF hc h
        refine lv_aload_n hx hb dX8_write_57 rfl (lv_at hl 0 rfl) ?_
        refine lv_iload_n hx hb dX8_write_58 rfl (lv_at hl 2 rfl) ?_
        refine lv_iload_n hx hb dX8_write_59 rfl (lv_at hl 3 rfl) ?_
        refine lv_aload_n hx hb dX8_write_60 rfl (lv_at hl 0 rfl) ?_
        refine gr_X8_17 Cx hI wd_7_2 dX8_write_61 ?_
        refine lv_iload_n hx hb dX8_write_64 rfl (lv_at hl 1 rfl) ?_
        refine lv_iload_n hx hb dX8_write_65 rfl (lv_at hl 3 rfl) ?_
        refine lv_iadd hx hb dX8_write_66 ?_
        obtain ⟨hg, h⟩ := ms_gE h
        refine ms_ld Cx hI 14 shM_14 hg dX8_write_67 ?_
        obtain ⟨σ2, hc1, h⟩ := ms_bdE h
        refine kX8_keep Cx hI hc1 wd_38_15 (Nat.le_of_ble_eq_true rfl) (Nat.le_of_ble_eq_true rfl) hl.1 (Nat.le_of_ble_eq_true rfl) dX8_write_68 (fun H locs hI => ?_)
        refine lv_iinc (v := y3 + 1) (lv' := [(3, .int (y3 + 1)), (0, .ref (a 0)), (1, .int y1), (2, .int y2)]) hx hb dX8_write_71 hl (k := 3) rfl rfl (by decide) rfl (fun ls hl => ?_)
        refine lv_goto (tgt := 38) hx hb dX8_write_74 rfl ?_
        exact ih y1 y2 (y3 + 1) σ2 _ _ _ hI (lv_sub hl [1, 2, 3, 0] rfl) h
set_option maxHeartbeats 4000000 in
set_option maxRecDepth 100000 in
theorem wX8_write (Cx : ms_C p s m args meth c D cA a shM cX8_write 4 RX8 (some .int)) (out : Int32 × Mm) : ∀ (p0 : Int32) (p1 : Int32) , ∀ (σ : Mm) (H : Heap) (locs : List Loc) (ls : Array Slot), ms_I D cA a shM s σ H locs → lv_has ls 4 [(0, .ref (a 0)), (1, .int p0), (2, .int p1)] → fX8_write p0 p1 σ = some out → W p l e rmX8_write s m args below meth c H locs 0 0 (MQ below (ms_Qi D cA a shM out.1 out.2) args s 0 0 (ms_A a shM.length)) (F0 m 0 ls []) := by
  have hx := Cx.1
  have hb := Cx.2.1
  intro p0 p1 σ H locs ls hI hl h
  unfold fX8_write at h
  refine lv_iload_n hx hb dX8_write_0 rfl (lv_at hl 1 rfl) ?_
  obtain ⟨r2, hc1, h⟩ := ms_bdE h
  refine kX8_isHour Cx hI hc1 (Or.inl wd_23_20) (Nat.le_of_ble_eq_true rfl) (Nat.le_of_ble_eq_true rfl) hl.1 (Nat.le_of_ble_eq_true rfl) dX8_write_1 (fun H locs hI => ?_)
  refine lv_if_eq (tgt := 14) hx hb dX8_write_4 rfl (fun hc => ?_) (fun hc => ?_)
  · have h := ms_ifT hc h
    refine lv_bipush (v := -2) hx hb dX8_write_14 rfl ?_
    exact ms_riw Cx hI h dX8_write_16
  · have h := ms_ifF hc h
    refine lv_iload_n hx hb dX8_write_7 rfl (lv_at hl 2 rfl) ?_
    obtain ⟨r4, hc3, h⟩ := ms_bdE h
    refine kX8_isSheet Cx hI hc3 (Or.inl wd_17_19) (Nat.le_of_ble_eq_true rfl) (Nat.le_of_ble_eq_true rfl) hl.1 (Nat.le_of_ble_eq_true rfl) dX8_write_8 (fun H locs hI => ?_)
    refine lv_if_ne (tgt := 17) hx hb dX8_write_11 rfl (fun hc => ?_) (fun hc => ?_)
    · have h := ms_ifF hc h
      refine lv_aload_n hx hb dX8_write_17 rfl (lv_at hl 0 rfl) ?_
      refine gr_X8_28 Cx hI wd_7_13 dX8_write_18 ?_
      refine lv_iload_n hx hb dX8_write_21 rfl (lv_at hl 2 rfl) ?_
      obtain ⟨hg, h⟩ := ms_gE h
      refine ms_ldz Cx hI 24 shM_24 hg dX8_write_22 ?_
      refine lv_if_ne (tgt := 32) hx hb dX8_write_23 rfl (fun hc => ?_) (fun hc => ?_)
      · have h := ms_ifF hc h
        refine lv_aload_n hx hb dX8_write_32 rfl (lv_at hl 0 rfl) ?_
        obtain ⟨σ6, hc5, h⟩ := ms_bdE h
        refine kX8_lays Cx hI hc5 wd_24_3 (Nat.le_of_ble_eq_true rfl) (Nat.le_of_ble_eq_true rfl) hl.1 (Nat.le_of_ble_eq_true rfl) dX8_write_33 (fun H locs hI => ?_)
        refine lv_iconst (v := 0) hx hb dX8_write_36 rfl ?_
        refine lv_istore_n (lv' := [(3, .int 0), (0, .ref (a 0)), (1, .int p0), (2, .int p1)]) hx hb dX8_write_37 rfl hl (by decide) rfl (fun ls hl => ?_)
        exact wX8_write_38 Cx out  ms_fu p0 p1 0 σ6 _ _ _ hI (lv_sub hl [1, 2, 3, 0] rfl) h
      · have h := ms_ifT hc h
        refine lv_aload_n hx hb dX8_write_26 rfl (lv_at hl 0 rfl) ?_
        refine lv_iconst (v := 1) hx hb dX8_write_27 rfl ?_
        obtain ⟨⟨r8, σ9⟩, hc7, h⟩ := ms_bdE h
        refine kX8_meets Cx hI hc7 wd_17_22 (Nat.le_of_ble_eq_true rfl) (Nat.le_of_ble_eq_true rfl) hl.1 (Nat.le_of_ble_eq_true rfl) dX8_write_28 (fun H locs hI => ?_)
        exact ms_riw Cx hI h dX8_write_31
    · have h := ms_ifT hc h
      refine lv_bipush (v := -2) hx hb dX8_write_14 rfl ?_
      exact ms_riw Cx hI h dX8_write_16
theorem yvX8_write : ms_YV yX8_write RX8 cX8_write 4 (some .int) 2 := ⟨wd_40_2, wd_40_3, wd_1_5, wd_40_4, rfl, by decide +kernel, by decide +kernel, by decide +kernel⟩
set_option maxHeartbeats 4000000 in
theorem metX8_write (l : Launch) (hDis : ms_Dis a shM.length) {σ : Mm} {p0 : Int32} {p1 : Int32} {out : Int32 × Mm} (h : fX8_write p0 p1 σ = some out) : Met l yX8_write (.code yX8_write cX8_write 4 (some .int) :: wsL_law) rmX8_write (ms_Pc D cA a shM [.ref (a 0), .int p0, .int p1] σ) (ms_Qi D cA a shM out.1 out.2) 0 0 (ms_A a shM.length) := by
  refine Met.ofW (cc := cX8_write) (maxL := 4) (ret := (some .int)) (by decide) rfl ?_
  intro p e s m args below meth c s₁ B hml hv
  obtain ⟨rfl, hK, hN, hP⟩ := hv
  have hl := lv_entry ([.ref (a 0), .int p0, .int p1]) (n := 4) (Nat.le_of_ble_eq_true rfl)
  rw [lg_entry_eq]
  generalize (lg_sl ([.ref (a 0), .int p0, .int p1]) ++ List.replicate (4 - (lg_sl ([.ref (a 0), .int p0, .int p1])).length) Slot.unset).toArray = ls at hl ⊢
  exact wX8_write ⟨B.exec, B.bytes, hml, findClass_of_methodNamed B.named, fun w hw => atoms_spec (ws := .code yX8_write cX8_write 4 (some .int) :: wsL_law) B.pre w (List.mem_cons_of_mem _ hw), B.returns, B.notSynchronized, hK, hDis, hN⟩ out p0 p1 σ s.heap [] ls ⟨hP, va_S.rf⟩ hl h
theorem kX8_write (Cx : ms_C p s m args meth c D cA a shM cc nL own ret) {σ : Mm} {H : Heap} {locs : List Loc} (hI : ms_I D cA a shM s σ H locs) {p0 : Int32} {p1 : Int32} {out : Int32 × Mm} (h : fX8_write p0 p1 σ = some out) (hl : Cond.methodLink own idx yX8_write ∈ wsL_law) (hf : 8 + 1 ≤ R.frames) (hlo : 8 + (4 + 11) + 177 ≤ R.locals) (hsz : ls.size = nL) (hW : (rest.map fun v => v.category).sum ≤ 8) (hd : decode cc pc = .ok (.invokevirtual idx, 3)) (kk : ∀ (H1 : Heap) (locs1 : List Loc), ms_I D cA a shM s out.2 H1 locs1 → W p l e R s m args below meth c H1 locs1 0 0 Q (F0 m (pc + 3) ls (.int out.1 :: rest))) : W p l e R s m args below meth c H locs 0 0 Q (F0 m pc ls (.int p1 :: .int p0 :: .ref (a 0) :: rest)) :=
  ms_ci hI (ms_runV (av := [.int p0, .int p1]) Cx hI 0 shM_0 (ci := 8) rfl rfl yvX8_write (metX8_write l Cx.2.2.2.2.2.2.2.2.1  h) ⟨rfl, rfl⟩ hl ⟨hf, hlo⟩ rfl hsz rfl hW ⟨Nat.zero_le _, Nat.zero_le _⟩ hd) kk
/-! X8 sumOf (I)I -/
theorem dX8_sumOf_0 : decode cX8_sumOf 0 = .ok (.aload_n 0, 1) := by decide +kernel
theorem dX8_sumOf_1 : decode cX8_sumOf 1 = .ok (.invokevirtual 140, 3) := by decide +kernel
theorem dX8_sumOf_4 : decode cX8_sumOf 4 = .ok (.istore_n 2, 1) := by decide +kernel
theorem dX8_sumOf_5 : decode cX8_sumOf 5 = .ok (.iconst 0, 1) := by decide +kernel
theorem dX8_sumOf_6 : decode cX8_sumOf 6 = .ok (.istore_n 3, 1) := by decide +kernel
theorem dX8_sumOf_7 : decode cX8_sumOf 7 = .ok (.iconst 0, 1) := by decide +kernel
theorem dX8_sumOf_8 : decode cX8_sumOf 8 = .ok (.istore 4, 2) := by decide +kernel
theorem dX8_sumOf_10 : decode cX8_sumOf 10 = .ok (.iload 4, 2) := by decide +kernel
theorem dX8_sumOf_12 : decode cX8_sumOf 12 = .ok (.aload_n 0, 1) := by decide +kernel
theorem dX8_sumOf_13 : decode cX8_sumOf 13 = .ok (.getfield 123, 3) := by decide +kernel
theorem dX8_sumOf_16 : decode cX8_sumOf 16 = .ok (.if_icmp .ge 24, 3) := by decide +kernel
theorem dX8_sumOf_19 : decode cX8_sumOf 19 = .ok (.iload_n 1, 1) := by decide +kernel
theorem dX8_sumOf_20 : decode cX8_sumOf 20 = .ok (.iconst 5, 1) := by decide +kernel
theorem dX8_sumOf_21 : decode cX8_sumOf 21 = .ok (.if_icmp .ne 19, 3) := by decide +kernel
theorem dX8_sumOf_24 : decode cX8_sumOf 24 = .ok (.iload_n 3, 1) := by decide +kernel
theorem dX8_sumOf_25 : decode cX8_sumOf 25 = .ok (.aload_n 0, 1) := by decide +kernel
theorem dX8_sumOf_26 : decode cX8_sumOf 26 = .ok (.getfield 34, 3) := by decide +kernel
theorem dX8_sumOf_29 : decode cX8_sumOf 29 = .ok (.iload 4, 2) := by decide +kernel
theorem dX8_sumOf_31 : decode cX8_sumOf 31 = .ok (.iaload, 1) := by decide +kernel
theorem dX8_sumOf_32 : decode cX8_sumOf 32 = .ok (.iadd, 1) := by decide +kernel
theorem dX8_sumOf_33 : decode cX8_sumOf 33 = .ok (.istore_n 3, 1) := by decide +kernel
theorem dX8_sumOf_34 : decode cX8_sumOf 34 = .ok (.iinc 4 1, 3) := by decide +kernel
theorem dX8_sumOf_37 : decode cX8_sumOf 37 = .ok (.goto (-27), 3) := by decide +kernel
theorem dX8_sumOf_40 : decode cX8_sumOf 40 = .ok (.iconst 0, 1) := by decide +kernel
theorem dX8_sumOf_41 : decode cX8_sumOf 41 = .ok (.istore 4, 2) := by decide +kernel
theorem dX8_sumOf_43 : decode cX8_sumOf 43 = .ok (.iload 4, 2) := by decide +kernel
theorem dX8_sumOf_45 : decode cX8_sumOf 45 = .ok (.aload_n 0, 1) := by decide +kernel
theorem dX8_sumOf_46 : decode cX8_sumOf 46 = .ok (.getfield 117, 3) := by decide +kernel
theorem dX8_sumOf_49 : decode cX8_sumOf 49 = .ok (.if_icmp .ge 25, 3) := by decide +kernel
theorem dX8_sumOf_52 : decode cX8_sumOf 52 = .ok (.iload_n 1, 1) := by decide +kernel
theorem dX8_sumOf_53 : decode cX8_sumOf 53 = .ok (.bipush 6, 2) := by decide +kernel
theorem dX8_sumOf_55 : decode cX8_sumOf 55 = .ok (.if_icmp .ne 19, 3) := by decide +kernel
theorem dX8_sumOf_58 : decode cX8_sumOf 58 = .ok (.iload_n 3, 1) := by decide +kernel
theorem dX8_sumOf_59 : decode cX8_sumOf 59 = .ok (.aload_n 0, 1) := by decide +kernel
theorem dX8_sumOf_60 : decode cX8_sumOf 60 = .ok (.getfield 25, 3) := by decide +kernel
theorem dX8_sumOf_63 : decode cX8_sumOf 63 = .ok (.iload 4, 2) := by decide +kernel
theorem dX8_sumOf_65 : decode cX8_sumOf 65 = .ok (.iaload, 1) := by decide +kernel
theorem dX8_sumOf_66 : decode cX8_sumOf 66 = .ok (.iadd, 1) := by decide +kernel
theorem dX8_sumOf_67 : decode cX8_sumOf 67 = .ok (.istore_n 3, 1) := by decide +kernel
theorem dX8_sumOf_68 : decode cX8_sumOf 68 = .ok (.iinc 4 1, 3) := by decide +kernel
theorem dX8_sumOf_71 : decode cX8_sumOf 71 = .ok (.goto (-28), 3) := by decide +kernel
theorem dX8_sumOf_74 : decode cX8_sumOf 74 = .ok (.iconst 0, 1) := by decide +kernel
theorem dX8_sumOf_75 : decode cX8_sumOf 75 = .ok (.istore 4, 2) := by decide +kernel
theorem dX8_sumOf_77 : decode cX8_sumOf 77 = .ok (.iload 4, 2) := by decide +kernel
theorem dX8_sumOf_79 : decode cX8_sumOf 79 = .ok (.bipush 24, 2) := by decide +kernel
theorem dX8_sumOf_81 : decode cX8_sumOf 81 = .ok (.if_icmp .ge 24, 3) := by decide +kernel
theorem dX8_sumOf_84 : decode cX8_sumOf 84 = .ok (.iload_n 1, 1) := by decide +kernel
theorem dX8_sumOf_85 : decode cX8_sumOf 85 = .ok (.bipush 7, 2) := by decide +kernel
theorem dX8_sumOf_87 : decode cX8_sumOf 87 = .ok (.if_icmp .ne 18, 3) := by decide +kernel
theorem dX8_sumOf_90 : decode cX8_sumOf 90 = .ok (.iload_n 3, 1) := by decide +kernel
theorem dX8_sumOf_91 : decode cX8_sumOf 91 = .ok (.aload_n 0, 1) := by decide +kernel
theorem dX8_sumOf_92 : decode cX8_sumOf 92 = .ok (.iload 4, 2) := by decide +kernel
theorem dX8_sumOf_94 : decode cX8_sumOf 94 = .ok (.invokevirtual 178, 3) := by decide +kernel
theorem dX8_sumOf_97 : decode cX8_sumOf 97 = .ok (.iadd, 1) := by decide +kernel
theorem dX8_sumOf_98 : decode cX8_sumOf 98 = .ok (.istore_n 3, 1) := by decide +kernel
theorem dX8_sumOf_99 : decode cX8_sumOf 99 = .ok (.iinc 4 1, 3) := by decide +kernel
theorem dX8_sumOf_102 : decode cX8_sumOf 102 = .ok (.goto (-25), 3) := by decide +kernel
theorem dX8_sumOf_105 : decode cX8_sumOf 105 = .ok (.iload_n 1, 1) := by decide +kernel
theorem dX8_sumOf_106 : decode cX8_sumOf 106 = .ok (.ifCond .ne 10, 3) := by decide +kernel
theorem dX8_sumOf_109 : decode cX8_sumOf 109 = .ok (.aload_n 0, 1) := by decide +kernel
theorem dX8_sumOf_110 : decode cX8_sumOf 110 = .ok (.getfield 117, 3) := by decide +kernel
theorem dX8_sumOf_113 : decode cX8_sumOf 113 = .ok (.goto 31, 3) := by decide +kernel
theorem dX8_sumOf_116 : decode cX8_sumOf 116 = .ok (.iload_n 1, 1) := by decide +kernel
theorem dX8_sumOf_117 : decode cX8_sumOf 117 = .ok (.iconst 1, 1) := by decide +kernel
theorem dX8_sumOf_118 : decode cX8_sumOf 118 = .ok (.if_icmp .ne 13, 3) := by decide +kernel
theorem dX8_sumOf_121 : decode cX8_sumOf 121 = .ok (.aload_n 0, 1) := by decide +kernel
theorem dX8_sumOf_122 : decode cX8_sumOf 122 = .ok (.getfield 120, 3) := by decide +kernel
theorem dX8_sumOf_125 : decode cX8_sumOf 125 = .ok (.invokestatic 221, 3) := by decide +kernel
theorem dX8_sumOf_128 : decode cX8_sumOf 128 = .ok (.goto 16, 3) := by decide +kernel
theorem dX8_sumOf_131 : decode cX8_sumOf 131 = .ok (.iload_n 1, 1) := by decide +kernel
theorem dX8_sumOf_132 : decode cX8_sumOf 132 = .ok (.iconst 2, 1) := by decide +kernel
theorem dX8_sumOf_133 : decode cX8_sumOf 133 = .ok (.if_icmp .ne 10, 3) := by decide +kernel
theorem dX8_sumOf_136 : decode cX8_sumOf 136 = .ok (.aload_n 0, 1) := by decide +kernel
theorem dX8_sumOf_137 : decode cX8_sumOf 137 = .ok (.getfield 123, 3) := by decide +kernel
theorem dX8_sumOf_140 : decode cX8_sumOf 140 = .ok (.goto 4, 3) := by decide +kernel
theorem dX8_sumOf_143 : decode cX8_sumOf 143 = .ok (.iload_n 3, 1) := by decide +kernel
theorem dX8_sumOf_144 : decode cX8_sumOf 144 = .ok (.ireturn, 1) := by decide +kernel
abbrev rmX8_sumOf : Room := { frames := 7, cells := 0, slots := 0, locals := 156 }
set_option maxHeartbeats 4000000 in
set_option maxRecDepth 100000 in
theorem wX8_sumOf_105 (Cx : ms_C p s m args meth c D cA a shM cX8_sumOf 5 RX8 (some .int)) (out : Int32 × Mm) : ∀ (y1 : Int32) (y2 : Int32) , ∀ (σ : Mm) (H : Heap) (locs : List Loc) (ls : Array Slot), ms_I D cA a shM s σ H locs → lv_has ls 5 [(0, .ref (a 0)), (1, .int y1), (3, .int y2)] → fX8_sumOf_105 y1 y2 σ = some out → W p l e rmX8_sumOf s m args below meth c H locs 0 0 (MQ below (ms_Qi D cA a shM out.1 out.2) args s 0 0 (ms_A a shM.length)) (F0 m 105 ls []) := by
  have hx := Cx.1
  have hb := Cx.2.1
  intro y1 y2 σ H locs ls hI hl h
  unfold fX8_sumOf_105 at h
  refine lv_iload_n hx hb dX8_sumOf_105 rfl (lv_at hl 1 rfl) ?_
  refine lv_if_ne (tgt := 116) hx hb dX8_sumOf_106 rfl (fun hc => ?_) (fun hc => ?_)
  · have h := ms_ifF hc h
    refine lv_iload_n hx hb dX8_sumOf_116 rfl (lv_at hl 1 rfl) ?_
    refine lv_iconst (v := 1) hx hb dX8_sumOf_117 rfl ?_
    refine lv_icmp_ne (tgt := 131) hx hb dX8_sumOf_118 rfl (fun hc => ?_) (fun hc => ?_)
    · have h := ms_ifF hc h
      refine lv_iload_n hx hb dX8_sumOf_131 rfl (lv_at hl 1 rfl) ?_
      refine lv_iconst (v := 2) hx hb dX8_sumOf_132 rfl ?_
      refine lv_icmp_ne (tgt := 143) hx hb dX8_sumOf_133 rfl (fun hc => ?_) (fun hc => ?_)
      · have h := ms_ifF hc h
        refine lv_iload_n hx hb dX8_sumOf_143 rfl (lv_at hl 2 rfl) ?_
        exact ms_riw Cx hI h dX8_sumOf_144
      · have h := ms_ifT hc h
        refine lv_aload_n hx hb dX8_sumOf_136 rfl (lv_at hl 0 rfl) ?_
        refine gi_X8_11 Cx hI wd_11_22 dX8_sumOf_137 ?_
        refine lv_goto (tgt := 144) hx hb dX8_sumOf_140 rfl ?_
        exact ms_riw Cx hI h dX8_sumOf_144
    · have h := ms_ifT hc h
      refine lv_aload_n hx hb dX8_sumOf_121 rfl (lv_at hl 0 rfl) ?_
      refine gi_X8_10 Cx hI wd_11_21 dX8_sumOf_122 ?_
      obtain ⟨r2, hc1, h⟩ := ms_bdE h
      refine kX8_ones Cx hI hc1 (Or.inl wd_29_8) (Nat.le_of_ble_eq_true rfl) (Nat.le_of_ble_eq_true rfl) hl.1 (Nat.le_of_ble_eq_true rfl) dX8_sumOf_125 (fun H locs hI => ?_)
      refine lv_goto (tgt := 144) hx hb dX8_sumOf_128 rfl ?_
      exact ms_riw Cx hI h dX8_sumOf_144
  · have h := ms_ifT hc h
    refine lv_aload_n hx hb dX8_sumOf_109 rfl (lv_at hl 0 rfl) ?_
    refine gi_X8_3 Cx hI wd_11_20 dX8_sumOf_110 ?_
    refine lv_goto (tgt := 144) hx hb dX8_sumOf_113 rfl ?_
    exact ms_riw Cx hI h dX8_sumOf_144
set_option maxHeartbeats 4000000 in
set_option maxRecDepth 100000 in
theorem wX8_sumOf_77 (Cx : ms_C p s m args meth c D cA a shM cX8_sumOf 5 RX8 (some .int)) (out : Int32 × Mm) : ∀ (n : Nat), ∀ (y1 : Int32) (y2 : Int32) (y3 : Int32) , ∀ (σ : Mm) (H : Heap) (locs : List Loc) (ls : Array Slot), ms_I D cA a shM s σ H locs → lv_has ls 5 [(0, .ref (a 0)), (1, .int y1), (3, .int y2), (4, .int y3)] → fX8_sumOf_77 n y1 y2 y3 σ = some out → W p l e rmX8_sumOf s m args below meth c H locs 0 0 (MQ below (ms_Qi D cA a shM out.1 out.2) args s 0 0 (ms_A a shM.length)) (F0 m 77 ls []) := by
  have hx := Cx.1
  have hb := Cx.2.1
  intro n
  induction n with
  | zero =>
    intro y1 y2 y3 σ H locs ls hI hl h
    exact nomatch (show none = some out from h)
  | succ n ih =>
    intro y1 y2 y3 σ H locs ls hI hl h
    rw [fX8_sumOf_77] at h
    refine lv_iload hx hb dX8_sumOf_77 (lv_at hl 3 rfl) ?_
    refine lv_bipush (v := 24) hx hb dX8_sumOf_79 rfl ?_
    refine lv_icmp_ge (tgt := 105) hx hb dX8_sumOf_81 rfl (fun hc => ?_) (fun hc => ?_)
    · have h := ms_ifT hc h
      exact wX8_sumOf_105 Cx out  y1 y2 σ _ _ _ hI (lv_sub hl [0, 1, 2] rfl) h
    · have h := ms_ifF hc h
      refine lv_iload_n hx hb dX8_sumOf_84 rfl (lv_at hl 1 rfl) ?_
      refine lv_bipush (v := 7) hx hb dX8_sumOf_85 rfl ?_
      refine lv_icmp_ne (tgt := 105) hx hb dX8_sumOf_87 rfl (fun hc => ?_) (fun hc => ?_)
      · have h := ms_ifF hc h
        exact wX8_sumOf_105 Cx out  y1 y2 σ _ _ _ hI (lv_sub hl [0, 1, 2] rfl) h
      · have h := ms_ifT hc h
        refine lv_iload_n hx hb dX8_sumOf_90 rfl (lv_at hl 2 rfl) ?_
        refine lv_aload_n hx hb dX8_sumOf_91 rfl (lv_at hl 0 rfl) ?_
        refine lv_iload hx hb dX8_sumOf_92 (lv_at hl 3 rfl) ?_
        obtain ⟨r2, hc1, h⟩ := ms_bdE h
        refine kX8_woundAt Cx hI hc1 wd_20_14 (Nat.le_of_ble_eq_true rfl) (Nat.le_of_ble_eq_true rfl) hl.1 (Nat.le_of_ble_eq_true rfl) dX8_sumOf_94 (fun H locs hI => ?_)
        refine lv_iadd hx hb dX8_sumOf_97 ?_
        refine lv_istore_n (lv' := [(3, .int (y2 + r2)), (0, .ref (a 0)), (1, .int y1), (4, .int y3)]) hx hb dX8_sumOf_98 rfl hl (by decide) rfl (fun ls hl => ?_)
        refine lv_iinc (v := y3 + 1) (lv' := [(4, .int (y3 + 1)), (3, .int (y2 + r2)), (0, .ref (a 0)), (1, .int y1)]) hx hb dX8_sumOf_99 hl (k := 3) rfl rfl (by decide) rfl (fun ls hl => ?_)
        refine lv_goto (tgt := 77) hx hb dX8_sumOf_102 rfl ?_
        exact ih y1 (y2 + r2) (y3 + 1) σ _ _ _ hI (lv_sub hl [2, 3, 1, 0] rfl) h
set_option maxHeartbeats 4000000 in
set_option maxRecDepth 100000 in
theorem wX8_sumOf_74 (Cx : ms_C p s m args meth c D cA a shM cX8_sumOf 5 RX8 (some .int)) (out : Int32 × Mm) : ∀ (y1 : Int32) (y2 : Int32) , ∀ (σ : Mm) (H : Heap) (locs : List Loc) (ls : Array Slot), ms_I D cA a shM s σ H locs → lv_has ls 5 [(0, .ref (a 0)), (1, .int y1), (3, .int y2)] → fX8_sumOf_74 y1 y2 σ = some out → W p l e rmX8_sumOf s m args below meth c H locs 0 0 (MQ below (ms_Qi D cA a shM out.1 out.2) args s 0 0 (ms_A a shM.length)) (F0 m 74 ls []) := by
  have hx := Cx.1
  have hb := Cx.2.1
  intro y1 y2 σ H locs ls hI hl h
  unfold fX8_sumOf_74 at h
  refine lv_iconst (v := 0) hx hb dX8_sumOf_74 rfl ?_
  refine lv_istore (lv' := [(4, .int 0), (0, .ref (a 0)), (1, .int y1), (3, .int y2)]) hx hb dX8_sumOf_75 hl (by decide) rfl (fun ls hl => ?_)
  exact wX8_sumOf_77 Cx out  ms_fu y1 y2 0 σ _ _ _ hI (lv_sub hl [1, 2, 3, 0] rfl) h
set_option maxHeartbeats 4000000 in
set_option maxRecDepth 100000 in
theorem wX8_sumOf_43 (Cx : ms_C p s m args meth c D cA a shM cX8_sumOf 5 RX8 (some .int)) (out : Int32 × Mm) : ∀ (n : Nat), ∀ (y1 : Int32) (y2 : Int32) (y3 : Int32) , ∀ (σ : Mm) (H : Heap) (locs : List Loc) (ls : Array Slot), ms_I D cA a shM s σ H locs → lv_has ls 5 [(0, .ref (a 0)), (1, .int y1), (3, .int y2), (4, .int y3)] → fX8_sumOf_43 n y1 y2 y3 σ = some out → W p l e rmX8_sumOf s m args below meth c H locs 0 0 (MQ below (ms_Qi D cA a shM out.1 out.2) args s 0 0 (ms_A a shM.length)) (F0 m 43 ls []) := by
  have hx := Cx.1
  have hb := Cx.2.1
  intro n
  induction n with
  | zero =>
    intro y1 y2 y3 σ H locs ls hI hl h
    exact nomatch (show none = some out from h)
  | succ n ih =>
    intro y1 y2 y3 σ H locs ls hI hl h
    rw [fX8_sumOf_43] at h
    refine lv_iload hx hb dX8_sumOf_43 (lv_at hl 3 rfl) ?_
    refine lv_aload_n hx hb dX8_sumOf_45 rfl (lv_at hl 0 rfl) ?_
    refine gi_X8_3 Cx hI wd_11_20 dX8_sumOf_46 ?_
    refine lv_icmp_ge (tgt := 74) hx hb dX8_sumOf_49 rfl (fun hc => ?_) (fun hc => ?_)
    · have h := ms_ifT hc h
      exact wX8_sumOf_74 Cx out  y1 y2 σ _ _ _ hI (lv_sub hl [0, 1, 2] rfl) h
    · have h := ms_ifF hc h
      refine lv_iload_n hx hb dX8_sumOf_52 rfl (lv_at hl 1 rfl) ?_
      refine lv_bipush (v := 6) hx hb dX8_sumOf_53 rfl ?_
      refine lv_icmp_ne (tgt := 74) hx hb dX8_sumOf_55 rfl (fun hc => ?_) (fun hc => ?_)
      · have h := ms_ifF hc h
        exact wX8_sumOf_74 Cx out  y1 y2 σ _ _ _ hI (lv_sub hl [0, 1, 2] rfl) h
      · have h := ms_ifT hc h
        refine lv_iload_n hx hb dX8_sumOf_58 rfl (lv_at hl 2 rfl) ?_
        refine lv_aload_n hx hb dX8_sumOf_59 rfl (lv_at hl 0 rfl) ?_
        refine gr_X8_7 Cx hI wd_6_18 dX8_sumOf_60 ?_
        refine lv_iload hx hb dX8_sumOf_63 (lv_at hl 3 rfl) ?_
        obtain ⟨hg, h⟩ := ms_gE h
        refine ms_ld Cx hI 6 shM_6 hg dX8_sumOf_65 ?_
        refine lv_iadd hx hb dX8_sumOf_66 ?_
        refine lv_istore_n (lv' := [(3, .int (y2 + (σ 6 (ms_ix y3)))), (0, .ref (a 0)), (1, .int y1), (4, .int y3)]) hx hb dX8_sumOf_67 rfl hl (by decide) rfl (fun ls hl => ?_)
        refine lv_iinc (v := y3 + 1) (lv' := [(4, .int (y3 + 1)), (3, .int (y2 + (σ 6 (ms_ix y3)))), (0, .ref (a 0)), (1, .int y1)]) hx hb dX8_sumOf_68 hl (k := 3) rfl rfl (by decide) rfl (fun ls hl => ?_)
        refine lv_goto (tgt := 43) hx hb dX8_sumOf_71 rfl ?_
        exact ih y1 (y2 + (σ 6 (ms_ix y3))) (y3 + 1) σ _ _ _ hI (lv_sub hl [2, 3, 1, 0] rfl) h
set_option maxHeartbeats 4000000 in
set_option maxRecDepth 100000 in
theorem wX8_sumOf_40 (Cx : ms_C p s m args meth c D cA a shM cX8_sumOf 5 RX8 (some .int)) (out : Int32 × Mm) : ∀ (y1 : Int32) (y2 : Int32) , ∀ (σ : Mm) (H : Heap) (locs : List Loc) (ls : Array Slot), ms_I D cA a shM s σ H locs → lv_has ls 5 [(0, .ref (a 0)), (1, .int y1), (3, .int y2)] → fX8_sumOf_40 y1 y2 σ = some out → W p l e rmX8_sumOf s m args below meth c H locs 0 0 (MQ below (ms_Qi D cA a shM out.1 out.2) args s 0 0 (ms_A a shM.length)) (F0 m 40 ls []) := by
  have hx := Cx.1
  have hb := Cx.2.1
  intro y1 y2 σ H locs ls hI hl h
  unfold fX8_sumOf_40 at h
  refine lv_iconst (v := 0) hx hb dX8_sumOf_40 rfl ?_
  refine lv_istore (lv' := [(4, .int 0), (0, .ref (a 0)), (1, .int y1), (3, .int y2)]) hx hb dX8_sumOf_41 hl (by decide) rfl (fun ls hl => ?_)
  exact wX8_sumOf_43 Cx out  ms_fu y1 y2 0 σ _ _ _ hI (lv_sub hl [1, 2, 3, 0] rfl) h
set_option maxHeartbeats 4000000 in
set_option maxRecDepth 100000 in
theorem wX8_sumOf_10 (Cx : ms_C p s m args meth c D cA a shM cX8_sumOf 5 RX8 (some .int)) (out : Int32 × Mm) : ∀ (n : Nat), ∀ (y1 : Int32) (y2 : Int32) (y3 : Int32) , ∀ (σ : Mm) (H : Heap) (locs : List Loc) (ls : Array Slot), ms_I D cA a shM s σ H locs → lv_has ls 5 [(0, .ref (a 0)), (1, .int y1), (3, .int y2), (4, .int y3)] → fX8_sumOf_10 n y1 y2 y3 σ = some out → W p l e rmX8_sumOf s m args below meth c H locs 0 0 (MQ below (ms_Qi D cA a shM out.1 out.2) args s 0 0 (ms_A a shM.length)) (F0 m 10 ls []) := by
  have hx := Cx.1
  have hb := Cx.2.1
  intro n
  induction n with
  | zero =>
    intro y1 y2 y3 σ H locs ls hI hl h
    exact nomatch (show none = some out from h)
  | succ n ih =>
    intro y1 y2 y3 σ H locs ls hI hl h
    rw [fX8_sumOf_10] at h
    refine lv_iload hx hb dX8_sumOf_10 (lv_at hl 3 rfl) ?_
    refine lv_aload_n hx hb dX8_sumOf_12 rfl (lv_at hl 0 rfl) ?_
    refine gi_X8_11 Cx hI wd_11_22 dX8_sumOf_13 ?_
    refine lv_icmp_ge (tgt := 40) hx hb dX8_sumOf_16 rfl (fun hc => ?_) (fun hc => ?_)
    · have h := ms_ifT hc h
      exact wX8_sumOf_40 Cx out  y1 y2 σ _ _ _ hI (lv_sub hl [0, 1, 2] rfl) h
    · have h := ms_ifF hc h
      refine lv_iload_n hx hb dX8_sumOf_19 rfl (lv_at hl 1 rfl) ?_
      refine lv_iconst (v := 5) hx hb dX8_sumOf_20 rfl ?_
      refine lv_icmp_ne (tgt := 40) hx hb dX8_sumOf_21 rfl (fun hc => ?_) (fun hc => ?_)
      · have h := ms_ifF hc h
        exact wX8_sumOf_40 Cx out  y1 y2 σ _ _ _ hI (lv_sub hl [0, 1, 2] rfl) h
      · have h := ms_ifT hc h
        refine lv_iload_n hx hb dX8_sumOf_24 rfl (lv_at hl 2 rfl) ?_
        refine lv_aload_n hx hb dX8_sumOf_25 rfl (lv_at hl 0 rfl) ?_
        refine gr_X8_12 Cx hI wd_6_21 dX8_sumOf_26 ?_
        refine lv_iload hx hb dX8_sumOf_29 (lv_at hl 3 rfl) ?_
        obtain ⟨hg, h⟩ := ms_gE h
        refine ms_ld Cx hI 9 shM_9 hg dX8_sumOf_31 ?_
        refine lv_iadd hx hb dX8_sumOf_32 ?_
        refine lv_istore_n (lv' := [(3, .int (y2 + (σ 9 (ms_ix y3)))), (0, .ref (a 0)), (1, .int y1), (4, .int y3)]) hx hb dX8_sumOf_33 rfl hl (by decide) rfl (fun ls hl => ?_)
        refine lv_iinc (v := y3 + 1) (lv' := [(4, .int (y3 + 1)), (3, .int (y2 + (σ 9 (ms_ix y3)))), (0, .ref (a 0)), (1, .int y1)]) hx hb dX8_sumOf_34 hl (k := 3) rfl rfl (by decide) rfl (fun ls hl => ?_)
        refine lv_goto (tgt := 10) hx hb dX8_sumOf_37 rfl ?_
        exact ih y1 (y2 + (σ 9 (ms_ix y3))) (y3 + 1) σ _ _ _ hI (lv_sub hl [2, 3, 1, 0] rfl) h
set_option maxHeartbeats 4000000 in
set_option maxRecDepth 100000 in
theorem wX8_sumOf (Cx : ms_C p s m args meth c D cA a shM cX8_sumOf 5 RX8 (some .int)) (out : Int32 × Mm) : ∀ (p0 : Int32) , ∀ (σ : Mm) (H : Heap) (locs : List Loc) (ls : Array Slot), ms_I D cA a shM s σ H locs → lv_has ls 5 [(0, .ref (a 0)), (1, .int p0)] → fX8_sumOf p0 σ = some out → W p l e rmX8_sumOf s m args below meth c H locs 0 0 (MQ below (ms_Qi D cA a shM out.1 out.2) args s 0 0 (ms_A a shM.length)) (F0 m 0 ls []) := by
  have hx := Cx.1
  have hb := Cx.2.1
  intro p0 σ H locs ls hI hl h
  unfold fX8_sumOf at h
  refine lv_aload_n hx hb dX8_sumOf_0 rfl (lv_at hl 0 rfl) ?_
  obtain ⟨⟨r2, σ3⟩, hc1, h⟩ := ms_bdE h
  refine kX8_faultNow Cx hI hc1 wd_11_16 (Nat.le_of_ble_eq_true rfl) (Nat.le_of_ble_eq_true rfl) hl.1 (Nat.le_of_ble_eq_true rfl) dX8_sumOf_1 (fun H locs hI => ?_)
  refine lv_istore_n (lv' := [(2, .int r2), (0, .ref (a 0)), (1, .int p0)]) hx hb dX8_sumOf_4 rfl hl (by decide) rfl (fun ls hl => ?_)
  refine lv_iconst (v := 0) hx hb dX8_sumOf_5 rfl ?_
  refine lv_istore_n (lv' := [(3, .int 0), (2, .int r2), (0, .ref (a 0)), (1, .int p0)]) hx hb dX8_sumOf_6 rfl hl (by decide) rfl (fun ls hl => ?_)
  refine lv_iconst (v := 0) hx hb dX8_sumOf_7 rfl ?_
  refine lv_istore (lv' := [(4, .int 0), (3, .int 0), (2, .int r2), (0, .ref (a 0)), (1, .int p0)]) hx hb dX8_sumOf_8 hl (by decide) rfl (fun ls hl => ?_)
  exact wX8_sumOf_10 Cx out  ms_fu p0 0 0 σ3 _ _ _ hI (lv_sub hl [3, 4, 1, 0] rfl) h
theorem yvX8_sumOf : ms_YV yX8_sumOf RX8 cX8_sumOf 5 (some .int) 1 := ⟨wd_41_0, wd_41_1, wd_1_5, wd_41_2, rfl, by decide +kernel, by decide +kernel, by decide +kernel⟩
set_option maxHeartbeats 4000000 in
theorem metX8_sumOf (l : Launch) (hDis : ms_Dis a shM.length) {σ : Mm} {p0 : Int32} {out : Int32 × Mm} (h : fX8_sumOf p0 σ = some out) : Met l yX8_sumOf (.code yX8_sumOf cX8_sumOf 5 (some .int) :: wsL_law) rmX8_sumOf (ms_Pc D cA a shM [.ref (a 0), .int p0] σ) (ms_Qi D cA a shM out.1 out.2) 0 0 (ms_A a shM.length) := by
  refine Met.ofW (cc := cX8_sumOf) (maxL := 5) (ret := (some .int)) (by decide) rfl ?_
  intro p e s m args below meth c s₁ B hml hv
  obtain ⟨rfl, hK, hN, hP⟩ := hv
  have hl := lv_entry ([.ref (a 0), .int p0]) (n := 5) (Nat.le_of_ble_eq_true rfl)
  rw [lg_entry_eq]
  generalize (lg_sl ([.ref (a 0), .int p0]) ++ List.replicate (5 - (lg_sl ([.ref (a 0), .int p0])).length) Slot.unset).toArray = ls at hl ⊢
  exact wX8_sumOf ⟨B.exec, B.bytes, hml, findClass_of_methodNamed B.named, fun w hw => atoms_spec (ws := .code yX8_sumOf cX8_sumOf 5 (some .int) :: wsL_law) B.pre w (List.mem_cons_of_mem _ hw), B.returns, B.notSynchronized, hK, hDis, hN⟩ out p0 σ s.heap [] ls ⟨hP, va_S.rf⟩ hl h
theorem kX8_sumOf (Cx : ms_C p s m args meth c D cA a shM cc nL own ret) {σ : Mm} {H : Heap} {locs : List Loc} (hI : ms_I D cA a shM s σ H locs) {p0 : Int32} {out : Int32 × Mm} (h : fX8_sumOf p0 σ = some out) (hl : Cond.methodLink own idx yX8_sumOf ∈ wsL_law) (hf : 7 + 1 ≤ R.frames) (hlo : 8 + (5 + 11) + 156 ≤ R.locals) (hsz : ls.size = nL) (hW : (rest.map fun v => v.category).sum ≤ 8) (hd : decode cc pc = .ok (.invokevirtual idx, 3)) (kk : ∀ (H1 : Heap) (locs1 : List Loc), ms_I D cA a shM s out.2 H1 locs1 → W p l e R s m args below meth c H1 locs1 0 0 Q (F0 m (pc + 3) ls (.int out.1 :: rest))) : W p l e R s m args below meth c H locs 0 0 Q (F0 m pc ls (.int p0 :: .ref (a 0) :: rest)) :=
  ms_ci hI (ms_runV (av := [.int p0]) Cx hI 0 shM_0 (ci := 8) rfl rfl yvX8_sumOf (metX8_sumOf l Cx.2.2.2.2.2.2.2.2.1  h) ⟨rfl, rfl⟩ hl ⟨hf, hlo⟩ rfl hsz rfl hW ⟨Nat.zero_le _, Nat.zero_le _⟩ hd) kk
/-! X8 count (I)I -/
theorem dX8_count_0 : decode cX8_count 0 = .ok (.iload_n 1, 1) := by decide +kernel
theorem dX8_count_1 : decode cX8_count 1 = .ok (.tableswitch 72 0 8 #[51, 51, 51, 57, 62, 51, 51, 51, 67], 51) := by decide +kernel
theorem dX8_count_52 : decode cX8_count 52 = .ok (.aload_n 0, 1) := by decide +kernel
theorem dX8_count_53 : decode cX8_count 53 = .ok (.iload_n 1, 1) := by decide +kernel
theorem dX8_count_54 : decode cX8_count 54 = .ok (.invokevirtual 259, 3) := by decide +kernel
theorem dX8_count_57 : decode cX8_count 57 = .ok (.ireturn, 1) := by decide +kernel
theorem dX8_count_58 : decode cX8_count 58 = .ok (.aload_n 0, 1) := by decide +kernel
theorem dX8_count_59 : decode cX8_count 59 = .ok (.getfield 99, 3) := by decide +kernel
theorem dX8_count_62 : decode cX8_count 62 = .ok (.ireturn, 1) := by decide +kernel
theorem dX8_count_63 : decode cX8_count 63 = .ok (.aload_n 0, 1) := by decide +kernel
theorem dX8_count_64 : decode cX8_count 64 = .ok (.getfield 236, 3) := by decide +kernel
theorem dX8_count_67 : decode cX8_count 67 = .ok (.ireturn, 1) := by decide +kernel
theorem dX8_count_68 : decode cX8_count 68 = .ok (.aload_n 0, 1) := by decide +kernel
theorem dX8_count_69 : decode cX8_count 69 = .ok (.getfield 248, 3) := by decide +kernel
theorem dX8_count_72 : decode cX8_count 72 = .ok (.ireturn, 1) := by decide +kernel
theorem dX8_count_73 : decode cX8_count 73 = .ok (.bipush (-2), 2) := by decide +kernel
theorem dX8_count_75 : decode cX8_count 75 = .ok (.ireturn, 1) := by decide +kernel
abbrev rmX8_count : Room := { frames := 8, cells := 0, slots := 0, locals := 180 }
set_option maxHeartbeats 4000000 in
set_option maxRecDepth 100000 in
theorem wX8_count (Cx : ms_C p s m args meth c D cA a shM cX8_count 2 RX8 (some .int)) (out : Int32 × Mm) : ∀ (p0 : Int32) , ∀ (σ : Mm) (H : Heap) (locs : List Loc) (ls : Array Slot), ms_I D cA a shM s σ H locs → lv_has ls 2 [(0, .ref (a 0)), (1, .int p0)] → fX8_count p0 σ = some out → W p l e rmX8_count s m args below meth c H locs 0 0 (MQ below (ms_Qi D cA a shM out.1 out.2) args s 0 0 (ms_A a shM.length)) (F0 m 0 ls []) := by
  have hx := Cx.1
  have hb := Cx.2.1
  intro p0 σ H locs ls hI hl h
  unfold fX8_count at h
  refine lv_iload_n hx hb dX8_count_0 rfl (lv_at hl 1 rfl) ?_
  by_cases hc0 : p0 = 0
  · have h := ms_ifT hc0 h
    refine lv_tableIn (off := 51) (tgt := 52) hx hb dX8_count_1 (by rw [hc0]; decide) (by rw [hc0]; decide) (by rw [hc0]; rfl) rfl ?_
    refine lv_aload_n hx hb dX8_count_52 rfl (lv_at hl 0 rfl) ?_
    refine lv_iload_n hx hb dX8_count_53 rfl (lv_at hl 1 rfl) ?_
    obtain ⟨⟨r2, σ3⟩, hc1, h⟩ := ms_bdE h
    refine kX8_sumOf Cx hI hc1 wd_40_23 (Nat.le_of_ble_eq_true rfl) (Nat.le_of_ble_eq_true rfl) hl.1 (Nat.le_of_ble_eq_true rfl) dX8_count_54 (fun H locs hI => ?_)
    exact ms_riw Cx hI h dX8_count_57
  have h := ms_ifF hc0 h
  by_cases hc1 : p0 = 1
  · have h := ms_ifT hc1 h
    refine lv_tableIn (off := 51) (tgt := 52) hx hb dX8_count_1 (by rw [hc1]; decide) (by rw [hc1]; decide) (by rw [hc1]; rfl) rfl ?_
    refine lv_aload_n hx hb dX8_count_52 rfl (lv_at hl 0 rfl) ?_
    refine lv_iload_n hx hb dX8_count_53 rfl (lv_at hl 1 rfl) ?_
    obtain ⟨⟨r5, σ6⟩, hc4, h⟩ := ms_bdE h
    refine kX8_sumOf Cx hI hc4 wd_40_23 (Nat.le_of_ble_eq_true rfl) (Nat.le_of_ble_eq_true rfl) hl.1 (Nat.le_of_ble_eq_true rfl) dX8_count_54 (fun H locs hI => ?_)
    exact ms_riw Cx hI h dX8_count_57
  have h := ms_ifF hc1 h
  by_cases hc2 : p0 = 2
  · have h := ms_ifT hc2 h
    refine lv_tableIn (off := 51) (tgt := 52) hx hb dX8_count_1 (by rw [hc2]; decide) (by rw [hc2]; decide) (by rw [hc2]; rfl) rfl ?_
    refine lv_aload_n hx hb dX8_count_52 rfl (lv_at hl 0 rfl) ?_
    refine lv_iload_n hx hb dX8_count_53 rfl (lv_at hl 1 rfl) ?_
    obtain ⟨⟨r8, σ9⟩, hc7, h⟩ := ms_bdE h
    refine kX8_sumOf Cx hI hc7 wd_40_23 (Nat.le_of_ble_eq_true rfl) (Nat.le_of_ble_eq_true rfl) hl.1 (Nat.le_of_ble_eq_true rfl) dX8_count_54 (fun H locs hI => ?_)
    exact ms_riw Cx hI h dX8_count_57
  have h := ms_ifF hc2 h
  by_cases hc3 : p0 = 3
  · have h := ms_ifT hc3 h
    refine lv_tableIn (off := 57) (tgt := 58) hx hb dX8_count_1 (by rw [hc3]; decide) (by rw [hc3]; decide) (by rw [hc3]; rfl) rfl ?_
    refine lv_aload_n hx hb dX8_count_58 rfl (lv_at hl 0 rfl) ?_
    refine gi_X8_0 Cx hI wd_10_19 dX8_count_59 ?_
    exact ms_riw Cx hI h dX8_count_62
  have h := ms_ifF hc3 h
  by_cases hc4 : p0 = 4
  · have h := ms_ifT hc4 h
    refine lv_tableIn (off := 62) (tgt := 63) hx hb dX8_count_1 (by rw [hc4]; decide) (by rw [hc4]; decide) (by rw [hc4]; rfl) rfl ?_
    refine lv_aload_n hx hb dX8_count_63 rfl (lv_at hl 0 rfl) ?_
    refine gi_X8_25 Cx hI wd_33_13 dX8_count_64 ?_
    exact ms_riw Cx hI h dX8_count_67
  have h := ms_ifF hc4 h
  by_cases hc5 : p0 = 5
  · have h := ms_ifT hc5 h
    refine lv_tableIn (off := 51) (tgt := 52) hx hb dX8_count_1 (by rw [hc5]; decide) (by rw [hc5]; decide) (by rw [hc5]; rfl) rfl ?_
    refine lv_aload_n hx hb dX8_count_52 rfl (lv_at hl 0 rfl) ?_
    refine lv_iload_n hx hb dX8_count_53 rfl (lv_at hl 1 rfl) ?_
    obtain ⟨⟨r11, σ12⟩, hc10, h⟩ := ms_bdE h
    refine kX8_sumOf Cx hI hc10 wd_40_23 (Nat.le_of_ble_eq_true rfl) (Nat.le_of_ble_eq_true rfl) hl.1 (Nat.le_of_ble_eq_true rfl) dX8_count_54 (fun H locs hI => ?_)
    exact ms_riw Cx hI h dX8_count_57
  have h := ms_ifF hc5 h
  by_cases hc6 : p0 = 6
  · have h := ms_ifT hc6 h
    refine lv_tableIn (off := 51) (tgt := 52) hx hb dX8_count_1 (by rw [hc6]; decide) (by rw [hc6]; decide) (by rw [hc6]; rfl) rfl ?_
    refine lv_aload_n hx hb dX8_count_52 rfl (lv_at hl 0 rfl) ?_
    refine lv_iload_n hx hb dX8_count_53 rfl (lv_at hl 1 rfl) ?_
    obtain ⟨⟨r14, σ15⟩, hc13, h⟩ := ms_bdE h
    refine kX8_sumOf Cx hI hc13 wd_40_23 (Nat.le_of_ble_eq_true rfl) (Nat.le_of_ble_eq_true rfl) hl.1 (Nat.le_of_ble_eq_true rfl) dX8_count_54 (fun H locs hI => ?_)
    exact ms_riw Cx hI h dX8_count_57
  have h := ms_ifF hc6 h
  by_cases hc7 : p0 = 7
  · have h := ms_ifT hc7 h
    refine lv_tableIn (off := 51) (tgt := 52) hx hb dX8_count_1 (by rw [hc7]; decide) (by rw [hc7]; decide) (by rw [hc7]; rfl) rfl ?_
    refine lv_aload_n hx hb dX8_count_52 rfl (lv_at hl 0 rfl) ?_
    refine lv_iload_n hx hb dX8_count_53 rfl (lv_at hl 1 rfl) ?_
    obtain ⟨⟨r17, σ18⟩, hc16, h⟩ := ms_bdE h
    refine kX8_sumOf Cx hI hc16 wd_40_23 (Nat.le_of_ble_eq_true rfl) (Nat.le_of_ble_eq_true rfl) hl.1 (Nat.le_of_ble_eq_true rfl) dX8_count_54 (fun H locs hI => ?_)
    exact ms_riw Cx hI h dX8_count_57
  have h := ms_ifF hc7 h
  by_cases hc8 : p0 = 8
  · have h := ms_ifT hc8 h
    refine lv_tableIn (off := 67) (tgt := 68) hx hb dX8_count_1 (by rw [hc8]; decide) (by rw [hc8]; decide) (by rw [hc8]; rfl) rfl ?_
    refine lv_aload_n hx hb dX8_count_68 rfl (lv_at hl 0 rfl) ?_
    refine gi_X8_33 Cx hI wd_18_2 dX8_count_69 ?_
    exact ms_riw Cx hI h dX8_count_72
  have h := ms_ifF hc8 h
  refine lv_tableOut (tgt := 73) hx hb dX8_count_1 (ms_tout9 hc0 hc1 hc2 hc3 hc4 hc5 hc6 hc7 hc8) rfl ?_
  refine lv_bipush (v := -2) hx hb dX8_count_73 rfl ?_
  exact ms_riw Cx hI h dX8_count_75
theorem yvX8_count : ms_YV yX8_count RX8 cX8_count 2 (some .int) 1 := ⟨wd_40_20, wd_40_21, wd_1_5, wd_40_22, rfl, by decide +kernel, by decide +kernel, by decide +kernel⟩
set_option maxHeartbeats 4000000 in
theorem metX8_count (l : Launch) (hDis : ms_Dis a shM.length) {σ : Mm} {p0 : Int32} {out : Int32 × Mm} (h : fX8_count p0 σ = some out) : Met l yX8_count (.code yX8_count cX8_count 2 (some .int) :: wsL_law) rmX8_count (ms_Pc D cA a shM [.ref (a 0), .int p0] σ) (ms_Qi D cA a shM out.1 out.2) 0 0 (ms_A a shM.length) := by
  refine Met.ofW (cc := cX8_count) (maxL := 2) (ret := (some .int)) (by decide) rfl ?_
  intro p e s m args below meth c s₁ B hml hv
  obtain ⟨rfl, hK, hN, hP⟩ := hv
  have hl := lv_entry ([.ref (a 0), .int p0]) (n := 2) (Nat.le_of_ble_eq_true rfl)
  rw [lg_entry_eq]
  generalize (lg_sl ([.ref (a 0), .int p0]) ++ List.replicate (2 - (lg_sl ([.ref (a 0), .int p0])).length) Slot.unset).toArray = ls at hl ⊢
  exact wX8_count ⟨B.exec, B.bytes, hml, findClass_of_methodNamed B.named, fun w hw => atoms_spec (ws := .code yX8_count cX8_count 2 (some .int) :: wsL_law) B.pre w (List.mem_cons_of_mem _ hw), B.returns, B.notSynchronized, hK, hDis, hN⟩ out p0 σ s.heap [] ls ⟨hP, va_S.rf⟩ hl h
theorem kX8_count (Cx : ms_C p s m args meth c D cA a shM cc nL own ret) {σ : Mm} {H : Heap} {locs : List Loc} (hI : ms_I D cA a shM s σ H locs) {p0 : Int32} {out : Int32 × Mm} (h : fX8_count p0 σ = some out) (hl : Cond.methodLink own idx yX8_count ∈ wsL_law) (hf : 8 + 1 ≤ R.frames) (hlo : 8 + (2 + 11) + 180 ≤ R.locals) (hsz : ls.size = nL) (hW : (rest.map fun v => v.category).sum ≤ 8) (hd : decode cc pc = .ok (.invokevirtual idx, 3)) (kk : ∀ (H1 : Heap) (locs1 : List Loc), ms_I D cA a shM s out.2 H1 locs1 → W p l e R s m args below meth c H1 locs1 0 0 Q (F0 m (pc + 3) ls (.int out.1 :: rest))) : W p l e R s m args below meth c H locs 0 0 Q (F0 m pc ls (.int p0 :: .ref (a 0) :: rest)) :=
  ms_ci hI (ms_runV (av := [.int p0]) Cx hI 0 shM_0 (ci := 8) rfl rfl yvX8_count (metX8_count l Cx.2.2.2.2.2.2.2.2.1  h) ⟨rfl, rfl⟩ hl ⟨hf, hlo⟩ rfl hsz rfl hW ⟨Nat.zero_le _, Nat.zero_le _⟩ hd) kk
/-! X8 digest ()J -/
theorem dX8_digest_0 : decode cX8_digest 0 = .ok (.ldc2_w 262, 3) := by decide +kernel
theorem dX8_digest_3 : decode cX8_digest 3 = .ok (.lstore_n 1, 1) := by decide +kernel
theorem dX8_digest_4 : decode cX8_digest 4 = .ok (.iconst 0, 1) := by decide +kernel
theorem dX8_digest_5 : decode cX8_digest 5 = .ok (.istore_n 3, 1) := by decide +kernel
theorem dX8_digest_6 : decode cX8_digest 6 = .ok (.iload_n 3, 1) := by decide +kernel
theorem dX8_digest_7 : decode cX8_digest 7 = .ok (.bipush 8, 2) := by decide +kernel
theorem dX8_digest_9 : decode cX8_digest 9 = .ok (.if_icmp .ge 22, 3) := by decide +kernel
theorem dX8_digest_12 : decode cX8_digest 12 = .ok (.ldc2_w 264, 3) := by decide +kernel
theorem dX8_digest_15 : decode cX8_digest 15 = .ok (.lload_n 1, 1) := by decide +kernel
theorem dX8_digest_16 : decode cX8_digest 16 = .ok (.lmul, 1) := by decide +kernel
theorem dX8_digest_17 : decode cX8_digest 17 = .ok (.aload_n 0, 1) := by decide +kernel
theorem dX8_digest_18 : decode cX8_digest 18 = .ok (.iload_n 3, 1) := by decide +kernel
theorem dX8_digest_19 : decode cX8_digest 19 = .ok (.invokevirtual 266, 3) := by decide +kernel
theorem dX8_digest_22 : decode cX8_digest 22 = .ok (.i2l, 1) := by decide +kernel
theorem dX8_digest_23 : decode cX8_digest 23 = .ok (.ladd, 1) := by decide +kernel
theorem dX8_digest_24 : decode cX8_digest 24 = .ok (.lstore_n 1, 1) := by decide +kernel
theorem dX8_digest_25 : decode cX8_digest 25 = .ok (.iinc 3 1, 3) := by decide +kernel
theorem dX8_digest_28 : decode cX8_digest 28 = .ok (.goto (-22), 3) := by decide +kernel
theorem dX8_digest_31 : decode cX8_digest 31 = .ok (.ldc2_w 264, 3) := by decide +kernel
theorem dX8_digest_34 : decode cX8_digest 34 = .ok (.lload_n 1, 1) := by decide +kernel
theorem dX8_digest_35 : decode cX8_digest 35 = .ok (.lmul, 1) := by decide +kernel
theorem dX8_digest_36 : decode cX8_digest 36 = .ok (.aload_n 0, 1) := by decide +kernel
theorem dX8_digest_37 : decode cX8_digest 37 = .ok (.invokevirtual 140, 3) := by decide +kernel
theorem dX8_digest_40 : decode cX8_digest 40 = .ok (.i2l, 1) := by decide +kernel
theorem dX8_digest_41 : decode cX8_digest 41 = .ok (.ladd, 1) := by decide +kernel
theorem dX8_digest_42 : decode cX8_digest 42 = .ok (.lstore_n 1, 1) := by decide +kernel
theorem dX8_digest_43 : decode cX8_digest 43 = .ok (.iconst 0, 1) := by decide +kernel
theorem dX8_digest_44 : decode cX8_digest 44 = .ok (.istore_n 3, 1) := by decide +kernel
theorem dX8_digest_45 : decode cX8_digest 45 = .ok (.iload_n 3, 1) := by decide +kernel
theorem dX8_digest_46 : decode cX8_digest 46 = .ok (.aload_n 0, 1) := by decide +kernel
theorem dX8_digest_47 : decode cX8_digest 47 = .ok (.getfield 117, 3) := by decide +kernel
theorem dX8_digest_50 : decode cX8_digest 50 = .ok (.if_icmp .ge 54, 3) := by decide +kernel
theorem dX8_digest_53 : decode cX8_digest 53 = .ok (.iconst 0, 1) := by decide +kernel
theorem dX8_digest_54 : decode cX8_digest 54 = .ok (.istore 4, 2) := by decide +kernel
theorem dX8_digest_56 : decode cX8_digest 56 = .ok (.iload 4, 2) := by decide +kernel
theorem dX8_digest_58 : decode cX8_digest 58 = .ok (.bipush 6, 2) := by decide +kernel
theorem dX8_digest_60 : decode cX8_digest 60 = .ok (.if_icmp .ge 24, 3) := by decide +kernel
theorem dX8_digest_63 : decode cX8_digest 63 = .ok (.ldc2_w 264, 3) := by decide +kernel
theorem dX8_digest_66 : decode cX8_digest 66 = .ok (.lload_n 1, 1) := by decide +kernel
theorem dX8_digest_67 : decode cX8_digest 67 = .ok (.lmul, 1) := by decide +kernel
theorem dX8_digest_68 : decode cX8_digest 68 = .ok (.aload_n 0, 1) := by decide +kernel
theorem dX8_digest_69 : decode cX8_digest 69 = .ok (.iload_n 3, 1) := by decide +kernel
theorem dX8_digest_70 : decode cX8_digest 70 = .ok (.iload 4, 2) := by decide +kernel
theorem dX8_digest_72 : decode cX8_digest 72 = .ok (.invokevirtual 147, 3) := by decide +kernel
theorem dX8_digest_75 : decode cX8_digest 75 = .ok (.i2l, 1) := by decide +kernel
theorem dX8_digest_76 : decode cX8_digest 76 = .ok (.ladd, 1) := by decide +kernel
theorem dX8_digest_77 : decode cX8_digest 77 = .ok (.lstore_n 1, 1) := by decide +kernel
theorem dX8_digest_78 : decode cX8_digest 78 = .ok (.iinc 4 1, 3) := by decide +kernel
theorem dX8_digest_81 : decode cX8_digest 81 = .ok (.goto (-25), 3) := by decide +kernel
theorem dX8_digest_84 : decode cX8_digest 84 = .ok (.ldc2_w 264, 3) := by decide +kernel
theorem dX8_digest_87 : decode cX8_digest 87 = .ok (.lload_n 1, 1) := by decide +kernel
theorem dX8_digest_88 : decode cX8_digest 88 = .ok (.lmul, 1) := by decide +kernel
theorem dX8_digest_89 : decode cX8_digest 89 = .ok (.aload_n 0, 1) := by decide +kernel
theorem dX8_digest_90 : decode cX8_digest 90 = .ok (.iload_n 3, 1) := by decide +kernel
theorem dX8_digest_91 : decode cX8_digest 91 = .ok (.iconst 2, 1) := by decide +kernel
theorem dX8_digest_92 : decode cX8_digest 92 = .ok (.invokevirtual 206, 3) := by decide +kernel
theorem dX8_digest_95 : decode cX8_digest 95 = .ok (.i2l, 1) := by decide +kernel
theorem dX8_digest_96 : decode cX8_digest 96 = .ok (.ladd, 1) := by decide +kernel
theorem dX8_digest_97 : decode cX8_digest 97 = .ok (.lstore_n 1, 1) := by decide +kernel
theorem dX8_digest_98 : decode cX8_digest 98 = .ok (.iinc 3 1, 3) := by decide +kernel
theorem dX8_digest_101 : decode cX8_digest 101 = .ok (.goto (-56), 3) := by decide +kernel
theorem dX8_digest_104 : decode cX8_digest 104 = .ok (.iconst 0, 1) := by decide +kernel
theorem dX8_digest_105 : decode cX8_digest 105 = .ok (.istore_n 3, 1) := by decide +kernel
theorem dX8_digest_106 : decode cX8_digest 106 = .ok (.iload_n 3, 1) := by decide +kernel
theorem dX8_digest_107 : decode cX8_digest 107 = .ok (.aload_n 0, 1) := by decide +kernel
theorem dX8_digest_108 : decode cX8_digest 108 = .ok (.getfield 123, 3) := by decide +kernel
theorem dX8_digest_111 : decode cX8_digest 111 = .ok (.if_icmp .ge 22, 3) := by decide +kernel
theorem dX8_digest_114 : decode cX8_digest 114 = .ok (.ldc2_w 264, 3) := by decide +kernel
theorem dX8_digest_117 : decode cX8_digest 117 = .ok (.lload_n 1, 1) := by decide +kernel
theorem dX8_digest_118 : decode cX8_digest 118 = .ok (.lmul, 1) := by decide +kernel
theorem dX8_digest_119 : decode cX8_digest 119 = .ok (.aload_n 0, 1) := by decide +kernel
theorem dX8_digest_120 : decode cX8_digest 120 = .ok (.iload_n 3, 1) := by decide +kernel
theorem dX8_digest_121 : decode cX8_digest 121 = .ok (.invokevirtual 172, 3) := by decide +kernel
theorem dX8_digest_124 : decode cX8_digest 124 = .ok (.i2l, 1) := by decide +kernel
theorem dX8_digest_125 : decode cX8_digest 125 = .ok (.ladd, 1) := by decide +kernel
theorem dX8_digest_126 : decode cX8_digest 126 = .ok (.lstore_n 1, 1) := by decide +kernel
theorem dX8_digest_127 : decode cX8_digest 127 = .ok (.iinc 3 1, 3) := by decide +kernel
theorem dX8_digest_130 : decode cX8_digest 130 = .ok (.goto (-24), 3) := by decide +kernel
theorem dX8_digest_133 : decode cX8_digest 133 = .ok (.ldc2_w 264, 3) := by decide +kernel
theorem dX8_digest_136 : decode cX8_digest 136 = .ok (.lload_n 1, 1) := by decide +kernel
theorem dX8_digest_137 : decode cX8_digest 137 = .ok (.lmul, 1) := by decide +kernel
theorem dX8_digest_138 : decode cX8_digest 138 = .ok (.aload_n 0, 1) := by decide +kernel
theorem dX8_digest_139 : decode cX8_digest 139 = .ok (.iconst 0, 1) := by decide +kernel
theorem dX8_digest_140 : decode cX8_digest 140 = .ok (.invokevirtual 175, 3) := by decide +kernel
theorem dX8_digest_143 : decode cX8_digest 143 = .ok (.i2l, 1) := by decide +kernel
theorem dX8_digest_144 : decode cX8_digest 144 = .ok (.ladd, 1) := by decide +kernel
theorem dX8_digest_145 : decode cX8_digest 145 = .ok (.lstore_n 1, 1) := by decide +kernel
theorem dX8_digest_146 : decode cX8_digest 146 = .ok (.ldc2_w 264, 3) := by decide +kernel
theorem dX8_digest_149 : decode cX8_digest 149 = .ok (.lload_n 1, 1) := by decide +kernel
theorem dX8_digest_150 : decode cX8_digest 150 = .ok (.lmul, 1) := by decide +kernel
theorem dX8_digest_151 : decode cX8_digest 151 = .ok (.aload_n 0, 1) := by decide +kernel
theorem dX8_digest_152 : decode cX8_digest 152 = .ok (.iconst 1, 1) := by decide +kernel
theorem dX8_digest_153 : decode cX8_digest 153 = .ok (.invokevirtual 175, 3) := by decide +kernel
theorem dX8_digest_156 : decode cX8_digest 156 = .ok (.i2l, 1) := by decide +kernel
theorem dX8_digest_157 : decode cX8_digest 157 = .ok (.ladd, 1) := by decide +kernel
theorem dX8_digest_158 : decode cX8_digest 158 = .ok (.lstore_n 1, 1) := by decide +kernel
theorem dX8_digest_159 : decode cX8_digest 159 = .ok (.iconst 0, 1) := by decide +kernel
theorem dX8_digest_160 : decode cX8_digest 160 = .ok (.istore_n 3, 1) := by decide +kernel
theorem dX8_digest_161 : decode cX8_digest 161 = .ok (.iload_n 3, 1) := by decide +kernel
theorem dX8_digest_162 : decode cX8_digest 162 = .ok (.iconst 5, 1) := by decide +kernel
theorem dX8_digest_163 : decode cX8_digest 163 = .ok (.if_icmp .ge 96, 3) := by decide +kernel
theorem dX8_digest_166 : decode cX8_digest 166 = .ok (.iload_n 3, 1) := by decide +kernel
theorem dX8_digest_167 : decode cX8_digest 167 = .ok (.ifCond .ne 7, 3) := by decide +kernel
theorem dX8_digest_170 : decode cX8_digest 170 = .ok (.iconst 0, 1) := by decide +kernel
theorem dX8_digest_171 : decode cX8_digest 171 = .ok (.goto 36, 3) := by decide +kernel
theorem dX8_digest_174 : decode cX8_digest 174 = .ok (.iload_n 3, 1) := by decide +kernel
theorem dX8_digest_175 : decode cX8_digest 175 = .ok (.iconst 1, 1) := by decide +kernel
theorem dX8_digest_176 : decode cX8_digest 176 = .ok (.if_icmp .ne 8, 3) := by decide +kernel
theorem dX8_digest_179 : decode cX8_digest 179 = .ok (.bipush 7, 2) := by decide +kernel
theorem dX8_digest_181 : decode cX8_digest 181 = .ok (.goto 26, 3) := by decide +kernel
theorem dX8_digest_184 : decode cX8_digest 184 = .ok (.iload_n 3, 1) := by decide +kernel
theorem dX8_digest_185 : decode cX8_digest 185 = .ok (.iconst 2, 1) := by decide +kernel
theorem dX8_digest_186 : decode cX8_digest 186 = .ok (.if_icmp .ne 8, 3) := by decide +kernel
theorem dX8_digest_189 : decode cX8_digest 189 = .ok (.bipush 23, 2) := by decide +kernel
theorem dX8_digest_191 : decode cX8_digest 191 = .ok (.goto 16, 3) := by decide +kernel
theorem dX8_digest_194 : decode cX8_digest 194 = .ok (.iload_n 3, 1) := by decide +kernel
theorem dX8_digest_195 : decode cX8_digest 195 = .ok (.iconst 3, 1) := by decide +kernel
theorem dX8_digest_196 : decode cX8_digest 196 = .ok (.if_icmp .ne 8, 3) := by decide +kernel
theorem dX8_digest_199 : decode cX8_digest 199 = .ok (.bipush 100, 2) := by decide +kernel
theorem dX8_digest_201 : decode cX8_digest 201 = .ok (.goto 6, 3) := by decide +kernel
theorem dX8_digest_204 : decode cX8_digest 204 = .ok (.sipush 239, 3) := by decide +kernel
theorem dX8_digest_207 : decode cX8_digest 207 = .ok (.istore 4, 2) := by decide +kernel
theorem dX8_digest_209 : decode cX8_digest 209 = .ok (.ldc2_w 264, 3) := by decide +kernel
theorem dX8_digest_212 : decode cX8_digest 212 = .ok (.lload_n 1, 1) := by decide +kernel
theorem dX8_digest_213 : decode cX8_digest 213 = .ok (.lmul, 1) := by decide +kernel
theorem dX8_digest_214 : decode cX8_digest 214 = .ok (.aload_n 0, 1) := by decide +kernel
theorem dX8_digest_215 : decode cX8_digest 215 = .ok (.iload 4, 2) := by decide +kernel
theorem dX8_digest_217 : decode cX8_digest 217 = .ok (.iconst 0, 1) := by decide +kernel
theorem dX8_digest_218 : decode cX8_digest 218 = .ok (.invokevirtual 197, 3) := by decide +kernel
theorem dX8_digest_221 : decode cX8_digest 221 = .ok (.i2l, 1) := by decide +kernel
theorem dX8_digest_222 : decode cX8_digest 222 = .ok (.ladd, 1) := by decide +kernel
theorem dX8_digest_223 : decode cX8_digest 223 = .ok (.lstore_n 1, 1) := by decide +kernel
theorem dX8_digest_224 : decode cX8_digest 224 = .ok (.ldc2_w 264, 3) := by decide +kernel
theorem dX8_digest_227 : decode cX8_digest 227 = .ok (.lload_n 1, 1) := by decide +kernel
theorem dX8_digest_228 : decode cX8_digest 228 = .ok (.lmul, 1) := by decide +kernel
theorem dX8_digest_229 : decode cX8_digest 229 = .ok (.aload_n 0, 1) := by decide +kernel
theorem dX8_digest_230 : decode cX8_digest 230 = .ok (.iload 4, 2) := by decide +kernel
theorem dX8_digest_232 : decode cX8_digest 232 = .ok (.iconst 1, 1) := by decide +kernel
theorem dX8_digest_233 : decode cX8_digest 233 = .ok (.invokevirtual 197, 3) := by decide +kernel
theorem dX8_digest_236 : decode cX8_digest 236 = .ok (.i2l, 1) := by decide +kernel
theorem dX8_digest_237 : decode cX8_digest 237 = .ok (.ladd, 1) := by decide +kernel
theorem dX8_digest_238 : decode cX8_digest 238 = .ok (.lstore_n 1, 1) := by decide +kernel
theorem dX8_digest_239 : decode cX8_digest 239 = .ok (.ldc2_w 264, 3) := by decide +kernel
theorem dX8_digest_242 : decode cX8_digest 242 = .ok (.lload_n 1, 1) := by decide +kernel
theorem dX8_digest_243 : decode cX8_digest 243 = .ok (.lmul, 1) := by decide +kernel
theorem dX8_digest_244 : decode cX8_digest 244 = .ok (.aload_n 0, 1) := by decide +kernel
theorem dX8_digest_245 : decode cX8_digest 245 = .ok (.iload 4, 2) := by decide +kernel
theorem dX8_digest_247 : decode cX8_digest 247 = .ok (.invokevirtual 212, 3) := by decide +kernel
theorem dX8_digest_250 : decode cX8_digest 250 = .ok (.i2l, 1) := by decide +kernel
theorem dX8_digest_251 : decode cX8_digest 251 = .ok (.ladd, 1) := by decide +kernel
theorem dX8_digest_252 : decode cX8_digest 252 = .ok (.lstore_n 1, 1) := by decide +kernel
theorem dX8_digest_253 : decode cX8_digest 253 = .ok (.iinc 3 1, 3) := by decide +kernel
theorem dX8_digest_256 : decode cX8_digest 256 = .ok (.goto (-95), 3) := by decide +kernel
theorem dX8_digest_259 : decode cX8_digest 259 = .ok (.ldc2_w 264, 3) := by decide +kernel
theorem dX8_digest_262 : decode cX8_digest 262 = .ok (.lload_n 1, 1) := by decide +kernel
theorem dX8_digest_263 : decode cX8_digest 263 = .ok (.lmul, 1) := by decide +kernel
theorem dX8_digest_264 : decode cX8_digest 264 = .ok (.aload_n 0, 1) := by decide +kernel
theorem dX8_digest_265 : decode cX8_digest 265 = .ok (.iconst 2, 1) := by decide +kernel
theorem dX8_digest_266 : decode cX8_digest 266 = .ok (.invokevirtual 209, 3) := by decide +kernel
theorem dX8_digest_269 : decode cX8_digest 269 = .ok (.i2l, 1) := by decide +kernel
theorem dX8_digest_270 : decode cX8_digest 270 = .ok (.ladd, 1) := by decide +kernel
theorem dX8_digest_271 : decode cX8_digest 271 = .ok (.lstore_n 1, 1) := by decide +kernel
theorem dX8_digest_272 : decode cX8_digest 272 = .ok (.ldc2_w 264, 3) := by decide +kernel
theorem dX8_digest_275 : decode cX8_digest 275 = .ok (.lload_n 1, 1) := by decide +kernel
theorem dX8_digest_276 : decode cX8_digest 276 = .ok (.lmul, 1) := by decide +kernel
theorem dX8_digest_277 : decode cX8_digest 277 = .ok (.aload_n 0, 1) := by decide +kernel
theorem dX8_digest_278 : decode cX8_digest 278 = .ok (.iconst 3, 1) := by decide +kernel
theorem dX8_digest_279 : decode cX8_digest 279 = .ok (.iconst 0, 1) := by decide +kernel
theorem dX8_digest_280 : decode cX8_digest 280 = .ok (.invokevirtual 218, 3) := by decide +kernel
theorem dX8_digest_283 : decode cX8_digest 283 = .ok (.i2l, 1) := by decide +kernel
theorem dX8_digest_284 : decode cX8_digest 284 = .ok (.ladd, 1) := by decide +kernel
theorem dX8_digest_285 : decode cX8_digest 285 = .ok (.lstore_n 1, 1) := by decide +kernel
theorem dX8_digest_286 : decode cX8_digest 286 = .ok (.ldc2_w 264, 3) := by decide +kernel
theorem dX8_digest_289 : decode cX8_digest 289 = .ok (.lload_n 1, 1) := by decide +kernel
theorem dX8_digest_290 : decode cX8_digest 290 = .ok (.lmul, 1) := by decide +kernel
theorem dX8_digest_291 : decode cX8_digest 291 = .ok (.aload_n 0, 1) := by decide +kernel
theorem dX8_digest_292 : decode cX8_digest 292 = .ok (.iconst 3, 1) := by decide +kernel
theorem dX8_digest_293 : decode cX8_digest 293 = .ok (.iconst 1, 1) := by decide +kernel
theorem dX8_digest_294 : decode cX8_digest 294 = .ok (.invokevirtual 218, 3) := by decide +kernel
theorem dX8_digest_297 : decode cX8_digest 297 = .ok (.i2l, 1) := by decide +kernel
theorem dX8_digest_298 : decode cX8_digest 298 = .ok (.ladd, 1) := by decide +kernel
theorem dX8_digest_299 : decode cX8_digest 299 = .ok (.lstore_n 1, 1) := by decide +kernel
theorem dX8_digest_300 : decode cX8_digest 300 = .ok (.ldc2_w 264, 3) := by decide +kernel
theorem dX8_digest_303 : decode cX8_digest 303 = .ok (.lload_n 1, 1) := by decide +kernel
theorem dX8_digest_304 : decode cX8_digest 304 = .ok (.lmul, 1) := by decide +kernel
theorem dX8_digest_305 : decode cX8_digest 305 = .ok (.aload_n 0, 1) := by decide +kernel
theorem dX8_digest_306 : decode cX8_digest 306 = .ok (.iconst 2, 1) := by decide +kernel
theorem dX8_digest_307 : decode cX8_digest 307 = .ok (.invokevirtual 224, 3) := by decide +kernel
theorem dX8_digest_310 : decode cX8_digest 310 = .ok (.i2l, 1) := by decide +kernel
theorem dX8_digest_311 : decode cX8_digest 311 = .ok (.ladd, 1) := by decide +kernel
theorem dX8_digest_312 : decode cX8_digest 312 = .ok (.lstore_n 1, 1) := by decide +kernel
theorem dX8_digest_313 : decode cX8_digest 313 = .ok (.ldc2_w 264, 3) := by decide +kernel
theorem dX8_digest_316 : decode cX8_digest 316 = .ok (.lload_n 1, 1) := by decide +kernel
theorem dX8_digest_317 : decode cX8_digest 317 = .ok (.lmul, 1) := by decide +kernel
theorem dX8_digest_318 : decode cX8_digest 318 = .ok (.aload_n 0, 1) := by decide +kernel
theorem dX8_digest_319 : decode cX8_digest 319 = .ok (.iconst 2, 1) := by decide +kernel
theorem dX8_digest_320 : decode cX8_digest 320 = .ok (.iconst 0, 1) := by decide +kernel
theorem dX8_digest_321 : decode cX8_digest 321 = .ok (.invokevirtual 227, 3) := by decide +kernel
theorem dX8_digest_324 : decode cX8_digest 324 = .ok (.i2l, 1) := by decide +kernel
theorem dX8_digest_325 : decode cX8_digest 325 = .ok (.ladd, 1) := by decide +kernel
theorem dX8_digest_326 : decode cX8_digest 326 = .ok (.lstore_n 1, 1) := by decide +kernel
theorem dX8_digest_327 : decode cX8_digest 327 = .ok (.ldc2_w 264, 3) := by decide +kernel
theorem dX8_digest_330 : decode cX8_digest 330 = .ok (.lload_n 1, 1) := by decide +kernel
theorem dX8_digest_331 : decode cX8_digest 331 = .ok (.lmul, 1) := by decide +kernel
theorem dX8_digest_332 : decode cX8_digest 332 = .ok (.aload_n 0, 1) := by decide +kernel
theorem dX8_digest_333 : decode cX8_digest 333 = .ok (.iconst 2, 1) := by decide +kernel
theorem dX8_digest_334 : decode cX8_digest 334 = .ok (.iconst 1, 1) := by decide +kernel
theorem dX8_digest_335 : decode cX8_digest 335 = .ok (.invokevirtual 227, 3) := by decide +kernel
theorem dX8_digest_338 : decode cX8_digest 338 = .ok (.i2l, 1) := by decide +kernel
theorem dX8_digest_339 : decode cX8_digest 339 = .ok (.ladd, 1) := by decide +kernel
theorem dX8_digest_340 : decode cX8_digest 340 = .ok (.lstore_n 1, 1) := by decide +kernel
theorem dX8_digest_341 : decode cX8_digest 341 = .ok (.ldc2_w 264, 3) := by decide +kernel
theorem dX8_digest_344 : decode cX8_digest 344 = .ok (.lload_n 1, 1) := by decide +kernel
theorem dX8_digest_345 : decode cX8_digest 345 = .ok (.lmul, 1) := by decide +kernel
theorem dX8_digest_346 : decode cX8_digest 346 = .ok (.aload_n 0, 1) := by decide +kernel
theorem dX8_digest_347 : decode cX8_digest 347 = .ok (.invokevirtual 233, 3) := by decide +kernel
theorem dX8_digest_350 : decode cX8_digest 350 = .ok (.i2l, 1) := by decide +kernel
theorem dX8_digest_351 : decode cX8_digest 351 = .ok (.ladd, 1) := by decide +kernel
theorem dX8_digest_352 : decode cX8_digest 352 = .ok (.lstore_n 1, 1) := by decide +kernel
theorem dX8_digest_353 : decode cX8_digest 353 = .ok (.ldc2_w 264, 3) := by decide +kernel
theorem dX8_digest_356 : decode cX8_digest 356 = .ok (.lload_n 1, 1) := by decide +kernel
theorem dX8_digest_357 : decode cX8_digest 357 = .ok (.lmul, 1) := by decide +kernel
theorem dX8_digest_358 : decode cX8_digest 358 = .ok (.aload_n 0, 1) := by decide +kernel
theorem dX8_digest_359 : decode cX8_digest 359 = .ok (.invokevirtual 242, 3) := by decide +kernel
theorem dX8_digest_362 : decode cX8_digest 362 = .ok (.i2l, 1) := by decide +kernel
theorem dX8_digest_363 : decode cX8_digest 363 = .ok (.ladd, 1) := by decide +kernel
theorem dX8_digest_364 : decode cX8_digest 364 = .ok (.lstore_n 1, 1) := by decide +kernel
theorem dX8_digest_365 : decode cX8_digest 365 = .ok (.ldc2_w 264, 3) := by decide +kernel
theorem dX8_digest_368 : decode cX8_digest 368 = .ok (.lload_n 1, 1) := by decide +kernel
theorem dX8_digest_369 : decode cX8_digest 369 = .ok (.lmul, 1) := by decide +kernel
theorem dX8_digest_370 : decode cX8_digest 370 = .ok (.aload_n 0, 1) := by decide +kernel
theorem dX8_digest_371 : decode cX8_digest 371 = .ok (.bipush 9, 2) := by decide +kernel
theorem dX8_digest_373 : decode cX8_digest 373 = .ok (.iconst 5, 1) := by decide +kernel
theorem dX8_digest_374 : decode cX8_digest 374 = .ok (.bipush 47, 2) := by decide +kernel
theorem dX8_digest_376 : decode cX8_digest 376 = .ok (.invokevirtual 245, 3) := by decide +kernel
theorem dX8_digest_379 : decode cX8_digest 379 = .ok (.i2l, 1) := by decide +kernel
theorem dX8_digest_380 : decode cX8_digest 380 = .ok (.ladd, 1) := by decide +kernel
theorem dX8_digest_381 : decode cX8_digest 381 = .ok (.lreturn, 1) := by decide +kernel
abbrev rmX8_digest : Room := { frames := 9, cells := 0, slots := 0, locals := 201 }
set_option maxHeartbeats 4000000 in
set_option maxRecDepth 100000 in
theorem wX8_digest_56 (Cx : ms_C p s m args meth c D cA a shM cX8_digest 5 RX8 (some .long)) (out : Int64 × Mm) (K45 : Int64 → Int32 → Mm → Option (Int64 × Mm)) (hK45 : ∀ (y1 : Int64) (y2 : Int32) , ∀ (σ : Mm) (H : Heap) (locs : List Loc) (ls : Array Slot), ms_I D cA a shM s σ H locs → lv_has ls 5 [(0, .ref (a 0)), (1, .long y1), (3, .int y2)] → K45 y1 y2 σ = some out → W p l e rmX8_digest s m args below meth c H locs 0 0 (MQ below (ms_Ql D cA a shM out.1 out.2) args s 0 0 (ms_A a shM.length)) (F0 m 45 ls [])) : ∀ (n : Nat), ∀ (y1 : Int64) (y2 : Int32) (y3 : Int32) , ∀ (σ : Mm) (H : Heap) (locs : List Loc) (ls : Array Slot), ms_I D cA a shM s σ H locs → lv_has ls 5 [(0, .ref (a 0)), (1, .long y1), (3, .int y2), (4, .int y3)] → fX8_digest_56 K45 n y1 y2 y3 σ = some out → W p l e rmX8_digest s m args below meth c H locs 0 0 (MQ below (ms_Ql D cA a shM out.1 out.2) args s 0 0 (ms_A a shM.length)) (F0 m 56 ls []) := by
  have hx := Cx.1
  have hb := Cx.2.1
  intro n
  induction n with
  | zero =>
    intro y1 y2 y3 σ H locs ls hI hl h
    exact nomatch (show none = some out from h)
  | succ n ih =>
    intro y1 y2 y3 σ H locs ls hI hl h
    rw [fX8_digest_56] at h
    refine lv_iload hx hb dX8_digest_56 (lv_at hl 3 rfl) ?_
    refine lv_bipush (v := 6) hx hb dX8_digest_58 rfl ?_
    refine lv_icmp_ge (tgt := 84) hx hb dX8_digest_60 rfl (fun hc => ?_) (fun hc => ?_)
    · have h := ms_ifT hc h
      refine lv_ldc2 hx hb Cx.2.2.2.1 (Cx.2.2.2.2.1 _ wd_42_6) dX8_digest_84 ?_
      refine lv_lload_n hx hb dX8_digest_87 rfl (lv_at hl 1 rfl) ?_
      refine lv_lmul hx hb dX8_digest_88 ?_
      refine lv_aload_n hx hb dX8_digest_89 rfl (lv_at hl 0 rfl) ?_
      refine lv_iload_n hx hb dX8_digest_90 rfl (lv_at hl 2 rfl) ?_
      refine lv_iconst (v := 2) hx hb dX8_digest_91 rfl ?_
      obtain ⟨⟨r2, σ3⟩, hc1, h⟩ := ms_bdE h
      refine kX8_stoodOf Cx hI hc1 wd_25_22 (Nat.le_of_ble_eq_true rfl) (Nat.le_of_ble_eq_true rfl) hl.1 (Nat.le_of_ble_eq_true rfl) dX8_digest_92 (fun H locs hI => ?_)
      refine lv_i2l hx hb dX8_digest_95 rfl ?_
      refine lv_ladd hx hb dX8_digest_96 ?_
      refine lv_topl (fun x4 ex4 => ?_)
      have h := ms_ltE ex4 h
      refine lv_lstore_n (lv' := [(1, .long x4), (0, .ref (a 0)), (3, .int y2), (4, .int y3)]) hx hb dX8_digest_97 rfl hl (by decide) rfl (fun ls hl => ?_)
      refine lv_iinc (v := y2 + 1) (lv' := [(3, .int (y2 + 1)), (1, .long x4), (0, .ref (a 0)), (4, .int y3)]) hx hb dX8_digest_98 hl (k := 2) rfl rfl (by decide) rfl (fun ls hl => ?_)
      refine lv_goto (tgt := 45) hx hb dX8_digest_101 rfl ?_
      exact hK45 x4 (y2 + 1) σ3 _ _ _ hI (lv_sub hl [2, 1, 0] rfl) h
    · have h := ms_ifF hc h
      refine lv_ldc2 hx hb Cx.2.2.2.1 (Cx.2.2.2.2.1 _ wd_42_6) dX8_digest_63 ?_
      refine lv_lload_n hx hb dX8_digest_66 rfl (lv_at hl 1 rfl) ?_
      refine lv_lmul hx hb dX8_digest_67 ?_
      refine lv_aload_n hx hb dX8_digest_68 rfl (lv_at hl 0 rfl) ?_
      refine lv_iload_n hx hb dX8_digest_69 rfl (lv_at hl 2 rfl) ?_
      refine lv_iload hx hb dX8_digest_70 (lv_at hl 3 rfl) ?_
      obtain ⟨r6, hc5, h⟩ := ms_bdE h
      refine kX8_thingOf Cx hI hc5 wd_14_3 (Nat.le_of_ble_eq_true rfl) (Nat.le_of_ble_eq_true rfl) hl.1 (Nat.le_of_ble_eq_true rfl) dX8_digest_72 (fun H locs hI => ?_)
      refine lv_i2l hx hb dX8_digest_75 rfl ?_
      refine lv_ladd hx hb dX8_digest_76 ?_
      refine lv_topl (fun x7 ex7 => ?_)
      have h := ms_ltE ex7 h
      refine lv_lstore_n (lv' := [(1, .long x7), (0, .ref (a 0)), (3, .int y2), (4, .int y3)]) hx hb dX8_digest_77 rfl hl (by decide) rfl (fun ls hl => ?_)
      refine lv_iinc (v := y3 + 1) (lv' := [(4, .int (y3 + 1)), (1, .long x7), (0, .ref (a 0)), (3, .int y2)]) hx hb dX8_digest_78 hl (k := 3) rfl rfl (by decide) rfl (fun ls hl => ?_)
      refine lv_goto (tgt := 56) hx hb dX8_digest_81 rfl ?_
      exact ih x7 y2 (y3 + 1) σ _ _ _ hI (lv_sub hl [2, 1, 3, 0] rfl) h
set_option maxHeartbeats 4000000 in
set_option maxRecDepth 100000 in
theorem wX8_digest_207 (Cx : ms_C p s m args meth c D cA a shM cX8_digest 5 RX8 (some .long)) (out : Int64 × Mm) (K161 : Int64 → Int32 → Mm → Option (Int64 × Mm)) (hK161 : ∀ (y1 : Int64) (y2 : Int32) , ∀ (σ : Mm) (H : Heap) (locs : List Loc) (ls : Array Slot), ms_I D cA a shM s σ H locs → lv_has ls 5 [(0, .ref (a 0)), (1, .long y1), (3, .int y2)] → K161 y1 y2 σ = some out → W p l e rmX8_digest s m args below meth c H locs 0 0 (MQ below (ms_Ql D cA a shM out.1 out.2) args s 0 0 (ms_A a shM.length)) (F0 m 161 ls [])) : ∀ (y1 : Int64) (y2 : Int32) (y3 : Int32) , ∀ (σ : Mm) (H : Heap) (locs : List Loc) (ls : Array Slot), ms_I D cA a shM s σ H locs → lv_has ls 5 [(0, .ref (a 0)), (1, .long y1), (3, .int y2)] → fX8_digest_207 K161 y1 y2 y3 σ = some out → W p l e rmX8_digest s m args below meth c H locs 0 0 (MQ below (ms_Ql D cA a shM out.1 out.2) args s 0 0 (ms_A a shM.length)) (F0 m 207 ls [.int y3]) := by
  have hx := Cx.1
  have hb := Cx.2.1
  intro y1 y2 y3 σ H locs ls hI hl h
  unfold fX8_digest_207 at h
  refine lv_istore (lv' := [(4, .int y3), (0, .ref (a 0)), (1, .long y1), (3, .int y2)]) hx hb dX8_digest_207 hl (by decide) rfl (fun ls hl => ?_)
  refine lv_ldc2 hx hb Cx.2.2.2.1 (Cx.2.2.2.2.1 _ wd_42_6) dX8_digest_209 ?_
  refine lv_lload_n hx hb dX8_digest_212 rfl (lv_at hl 2 rfl) ?_
  refine lv_lmul hx hb dX8_digest_213 ?_
  refine lv_aload_n hx hb dX8_digest_214 rfl (lv_at hl 1 rfl) ?_
  refine lv_iload hx hb dX8_digest_215 (lv_at hl 0 rfl) ?_
  refine lv_iconst (v := 0) hx hb dX8_digest_217 rfl ?_
  obtain ⟨⟨r2, σ3⟩, hc1, h⟩ := ms_bdE h
  refine kX8_levelOf Cx hI hc1 wd_23_23 (Nat.le_of_ble_eq_true rfl) (Nat.le_of_ble_eq_true rfl) hl.1 (Nat.le_of_ble_eq_true rfl) dX8_digest_218 (fun H locs hI => ?_)
  refine lv_i2l hx hb dX8_digest_221 rfl ?_
  refine lv_ladd hx hb dX8_digest_222 ?_
  refine lv_topl (fun x4 ex4 => ?_)
  have h := ms_ltE ex4 h
  refine lv_lstore_n (lv' := [(1, .long x4), (4, .int y3), (0, .ref (a 0)), (3, .int y2)]) hx hb dX8_digest_223 rfl hl (by decide) rfl (fun ls hl => ?_)
  refine lv_ldc2 hx hb Cx.2.2.2.1 (Cx.2.2.2.2.1 _ wd_42_6) dX8_digest_224 ?_
  refine lv_lload_n hx hb dX8_digest_227 rfl (lv_at hl 0 rfl) ?_
  refine lv_lmul hx hb dX8_digest_228 ?_
  refine lv_aload_n hx hb dX8_digest_229 rfl (lv_at hl 2 rfl) ?_
  refine lv_iload hx hb dX8_digest_230 (lv_at hl 1 rfl) ?_
  refine lv_iconst (v := 1) hx hb dX8_digest_232 rfl ?_
  obtain ⟨⟨r6, σ7⟩, hc5, h⟩ := ms_bdE h
  refine kX8_levelOf Cx hI hc5 wd_23_23 (Nat.le_of_ble_eq_true rfl) (Nat.le_of_ble_eq_true rfl) hl.1 (Nat.le_of_ble_eq_true rfl) dX8_digest_233 (fun H locs hI => ?_)
  refine lv_i2l hx hb dX8_digest_236 rfl ?_
  refine lv_ladd hx hb dX8_digest_237 ?_
  refine lv_topl (fun x8 ex8 => ?_)
  have h := ms_ltE ex8 h
  refine lv_lstore_n (lv' := [(1, .long x8), (4, .int y3), (0, .ref (a 0)), (3, .int y2)]) hx hb dX8_digest_238 rfl hl (by decide) rfl (fun ls hl => ?_)
  refine lv_ldc2 hx hb Cx.2.2.2.1 (Cx.2.2.2.2.1 _ wd_42_6) dX8_digest_239 ?_
  refine lv_lload_n hx hb dX8_digest_242 rfl (lv_at hl 0 rfl) ?_
  refine lv_lmul hx hb dX8_digest_243 ?_
  refine lv_aload_n hx hb dX8_digest_244 rfl (lv_at hl 2 rfl) ?_
  refine lv_iload hx hb dX8_digest_245 (lv_at hl 1 rfl) ?_
  obtain ⟨⟨r10, σ11⟩, hc9, h⟩ := ms_bdE h
  refine kX8_flowOf Cx hI hc9 wd_27_7 (Nat.le_of_ble_eq_true rfl) (Nat.le_of_ble_eq_true rfl) hl.1 (Nat.le_of_ble_eq_true rfl) dX8_digest_247 (fun H locs hI => ?_)
  refine lv_i2l hx hb dX8_digest_250 rfl ?_
  refine lv_ladd hx hb dX8_digest_251 ?_
  refine lv_topl (fun x12 ex12 => ?_)
  have h := ms_ltE ex12 h
  refine lv_lstore_n (lv' := [(1, .long x12), (4, .int y3), (0, .ref (a 0)), (3, .int y2)]) hx hb dX8_digest_252 rfl hl (by decide) rfl (fun ls hl => ?_)
  refine lv_iinc (v := y2 + 1) (lv' := [(3, .int (y2 + 1)), (1, .long x12), (4, .int y3), (0, .ref (a 0))]) hx hb dX8_digest_253 hl (k := 3) rfl rfl (by decide) rfl (fun ls hl => ?_)
  refine lv_goto (tgt := 161) hx hb dX8_digest_256 rfl ?_
  exact hK161 x12 (y2 + 1) σ11 _ _ _ hI (lv_sub hl [3, 1, 0] rfl) h
set_option maxHeartbeats 4000000 in
set_option maxRecDepth 100000 in
theorem wX8_digest_161 (Cx : ms_C p s m args meth c D cA a shM cX8_digest 5 RX8 (some .long)) (out : Int64 × Mm) : ∀ (n : Nat), ∀ (y1 : Int64) (y2 : Int32) , ∀ (σ : Mm) (H : Heap) (locs : List Loc) (ls : Array Slot), ms_I D cA a shM s σ H locs → lv_has ls 5 [(0, .ref (a 0)), (1, .long y1), (3, .int y2)] → fX8_digest_161 n y1 y2 σ = some out → W p l e rmX8_digest s m args below meth c H locs 0 0 (MQ below (ms_Ql D cA a shM out.1 out.2) args s 0 0 (ms_A a shM.length)) (F0 m 161 ls []) := by
  have hx := Cx.1
  have hb := Cx.2.1
  intro n
  induction n with
  | zero =>
    intro y1 y2 σ H locs ls hI hl h
    exact nomatch (show none = some out from h)
  | succ n ih =>
    intro y1 y2 σ H locs ls hI hl h
    rw [fX8_digest_161] at h
    refine lv_iload_n hx hb dX8_digest_161 rfl (lv_at hl 2 rfl) ?_
    refine lv_iconst (v := 5) hx hb dX8_digest_162 rfl ?_
    refine lv_icmp_ge (tgt := 259) hx hb dX8_digest_163 rfl (fun hc => ?_) (fun hc => ?_)
    · have h := ms_ifT hc h
      refine lv_ldc2 hx hb Cx.2.2.2.1 (Cx.2.2.2.2.1 _ wd_42_6) dX8_digest_259 ?_
      refine lv_lload_n hx hb dX8_digest_262 rfl (lv_at hl 1 rfl) ?_
      refine lv_lmul hx hb dX8_digest_263 ?_
      refine lv_aload_n hx hb dX8_digest_264 rfl (lv_at hl 0 rfl) ?_
      refine lv_iconst (v := 2) hx hb dX8_digest_265 rfl ?_
      obtain ⟨⟨r2, σ3⟩, hc1, h⟩ := ms_bdE h
      refine kX8_lostOf Cx hI hc1 wd_26_18 (Nat.le_of_ble_eq_true rfl) (Nat.le_of_ble_eq_true rfl) hl.1 (Nat.le_of_ble_eq_true rfl) dX8_digest_266 (fun H locs hI => ?_)
      refine lv_i2l hx hb dX8_digest_269 rfl ?_
      refine lv_ladd hx hb dX8_digest_270 ?_
      refine lv_topl (fun x4 ex4 => ?_)
      have h := ms_ltE ex4 h
      refine lv_lstore_n (lv' := [(1, .long x4), (0, .ref (a 0)), (3, .int y2)]) hx hb dX8_digest_271 rfl hl (by decide) rfl (fun ls hl => ?_)
      refine lv_ldc2 hx hb Cx.2.2.2.1 (Cx.2.2.2.2.1 _ wd_42_6) dX8_digest_272 ?_
      refine lv_lload_n hx hb dX8_digest_275 rfl (lv_at hl 0 rfl) ?_
      refine lv_lmul hx hb dX8_digest_276 ?_
      refine lv_aload_n hx hb dX8_digest_277 rfl (lv_at hl 1 rfl) ?_
      refine lv_iconst (v := 3) hx hb dX8_digest_278 rfl ?_
      refine lv_iconst (v := 0) hx hb dX8_digest_279 rfl ?_
      obtain ⟨⟨r6, σ7⟩, hc5, h⟩ := ms_bdE h
      refine kX8_worstOf Cx hI hc5 wd_27_23 (Nat.le_of_ble_eq_true rfl) (Nat.le_of_ble_eq_true rfl) hl.1 (Nat.le_of_ble_eq_true rfl) dX8_digest_280 (fun H locs hI => ?_)
      refine lv_i2l hx hb dX8_digest_283 rfl ?_
      refine lv_ladd hx hb dX8_digest_284 ?_
      refine lv_topl (fun x8 ex8 => ?_)
      have h := ms_ltE ex8 h
      refine lv_lstore_n (lv' := [(1, .long x8), (0, .ref (a 0)), (3, .int y2)]) hx hb dX8_digest_285 rfl hl (by decide) rfl (fun ls hl => ?_)
      refine lv_ldc2 hx hb Cx.2.2.2.1 (Cx.2.2.2.2.1 _ wd_42_6) dX8_digest_286 ?_
      refine lv_lload_n hx hb dX8_digest_289 rfl (lv_at hl 0 rfl) ?_
      refine lv_lmul hx hb dX8_digest_290 ?_
      refine lv_aload_n hx hb dX8_digest_291 rfl (lv_at hl 1 rfl) ?_
      refine lv_iconst (v := 3) hx hb dX8_digest_292 rfl ?_
      refine lv_iconst (v := 1) hx hb dX8_digest_293 rfl ?_
      obtain ⟨⟨r10, σ11⟩, hc9, h⟩ := ms_bdE h
      refine kX8_worstOf Cx hI hc9 wd_27_23 (Nat.le_of_ble_eq_true rfl) (Nat.le_of_ble_eq_true rfl) hl.1 (Nat.le_of_ble_eq_true rfl) dX8_digest_294 (fun H locs hI => ?_)
      refine lv_i2l hx hb dX8_digest_297 rfl ?_
      refine lv_ladd hx hb dX8_digest_298 ?_
      refine lv_topl (fun x12 ex12 => ?_)
      have h := ms_ltE ex12 h
      refine lv_lstore_n (lv' := [(1, .long x12), (0, .ref (a 0)), (3, .int y2)]) hx hb dX8_digest_299 rfl hl (by decide) rfl (fun ls hl => ?_)
      refine lv_ldc2 hx hb Cx.2.2.2.1 (Cx.2.2.2.2.1 _ wd_42_6) dX8_digest_300 ?_
      refine lv_lload_n hx hb dX8_digest_303 rfl (lv_at hl 0 rfl) ?_
      refine lv_lmul hx hb dX8_digest_304 ?_
      refine lv_aload_n hx hb dX8_digest_305 rfl (lv_at hl 1 rfl) ?_
      refine lv_iconst (v := 2) hx hb dX8_digest_306 rfl ?_
      obtain ⟨⟨r14, σ15⟩, hc13, h⟩ := ms_bdE h
      refine kX8_fewestOf Cx hI hc13 wd_29_4 (Nat.le_of_ble_eq_true rfl) (Nat.le_of_ble_eq_true rfl) hl.1 (Nat.le_of_ble_eq_true rfl) dX8_digest_307 (fun H locs hI => ?_)
      refine lv_i2l hx hb dX8_digest_310 rfl ?_
      refine lv_ladd hx hb dX8_digest_311 ?_
      refine lv_topl (fun x16 ex16 => ?_)
      have h := ms_ltE ex16 h
      refine lv_lstore_n (lv' := [(1, .long x16), (0, .ref (a 0)), (3, .int y2)]) hx hb dX8_digest_312 rfl hl (by decide) rfl (fun ls hl => ?_)
      refine lv_ldc2 hx hb Cx.2.2.2.1 (Cx.2.2.2.2.1 _ wd_42_6) dX8_digest_313 ?_
      refine lv_lload_n hx hb dX8_digest_316 rfl (lv_at hl 0 rfl) ?_
      refine lv_lmul hx hb dX8_digest_317 ?_
      refine lv_aload_n hx hb dX8_digest_318 rfl (lv_at hl 1 rfl) ?_
      refine lv_iconst (v := 2) hx hb dX8_digest_319 rfl ?_
      refine lv_iconst (v := 0) hx hb dX8_digest_320 rfl ?_
      obtain ⟨⟨r18, σ19⟩, hc17, h⟩ := ms_bdE h
      refine kX8_placeOf Cx hI hc17 wd_29_23 (Nat.le_of_ble_eq_true rfl) (Nat.le_of_ble_eq_true rfl) hl.1 (Nat.le_of_ble_eq_true rfl) dX8_digest_321 (fun H locs hI => ?_)
      refine lv_i2l hx hb dX8_digest_324 rfl ?_
      refine lv_ladd hx hb dX8_digest_325 ?_
      refine lv_topl (fun x20 ex20 => ?_)
      have h := ms_ltE ex20 h
      refine lv_lstore_n (lv' := [(1, .long x20), (0, .ref (a 0)), (3, .int y2)]) hx hb dX8_digest_326 rfl hl (by decide) rfl (fun ls hl => ?_)
      refine lv_ldc2 hx hb Cx.2.2.2.1 (Cx.2.2.2.2.1 _ wd_42_6) dX8_digest_327 ?_
      refine lv_lload_n hx hb dX8_digest_330 rfl (lv_at hl 0 rfl) ?_
      refine lv_lmul hx hb dX8_digest_331 ?_
      refine lv_aload_n hx hb dX8_digest_332 rfl (lv_at hl 1 rfl) ?_
      refine lv_iconst (v := 2) hx hb dX8_digest_333 rfl ?_
      refine lv_iconst (v := 1) hx hb dX8_digest_334 rfl ?_
      obtain ⟨⟨r22, σ23⟩, hc21, h⟩ := ms_bdE h
      refine kX8_placeOf Cx hI hc21 wd_29_23 (Nat.le_of_ble_eq_true rfl) (Nat.le_of_ble_eq_true rfl) hl.1 (Nat.le_of_ble_eq_true rfl) dX8_digest_335 (fun H locs hI => ?_)
      refine lv_i2l hx hb dX8_digest_338 rfl ?_
      refine lv_ladd hx hb dX8_digest_339 ?_
      refine lv_topl (fun x24 ex24 => ?_)
      have h := ms_ltE ex24 h
      refine lv_lstore_n (lv' := [(1, .long x24), (0, .ref (a 0)), (3, .int y2)]) hx hb dX8_digest_340 rfl hl (by decide) rfl (fun ls hl => ?_)
      refine lv_ldc2 hx hb Cx.2.2.2.1 (Cx.2.2.2.2.1 _ wd_42_6) dX8_digest_341 ?_
      refine lv_lload_n hx hb dX8_digest_344 rfl (lv_at hl 0 rfl) ?_
      refine lv_lmul hx hb dX8_digest_345 ?_
      refine lv_aload_n hx hb dX8_digest_346 rfl (lv_at hl 1 rfl) ?_
      obtain ⟨⟨r26, σ27⟩, hc25, h⟩ := ms_bdE h
      refine kX8_lastsNow Cx hI hc25 wd_32_20 (Nat.le_of_ble_eq_true rfl) (Nat.le_of_ble_eq_true rfl) hl.1 (Nat.le_of_ble_eq_true rfl) dX8_digest_347 (fun H locs hI => ?_)
      refine lv_i2l hx hb dX8_digest_350 rfl ?_
      refine lv_ladd hx hb dX8_digest_351 ?_
      refine lv_topl (fun x28 ex28 => ?_)
      have h := ms_ltE ex28 h
      refine lv_lstore_n (lv' := [(1, .long x28), (0, .ref (a 0)), (3, .int y2)]) hx hb dX8_digest_352 rfl hl (by decide) rfl (fun ls hl => ?_)
      refine lv_ldc2 hx hb Cx.2.2.2.1 (Cx.2.2.2.2.1 _ wd_42_6) dX8_digest_353 ?_
      refine lv_lload_n hx hb dX8_digest_356 rfl (lv_at hl 0 rfl) ?_
      refine lv_lmul hx hb dX8_digest_357 ?_
      refine lv_aload_n hx hb dX8_digest_358 rfl (lv_at hl 1 rfl) ?_
      obtain ⟨⟨r30, σ31⟩, hc29, h⟩ := ms_bdE h
      refine kX8_unlikeNow Cx hI hc29 wd_34_14 (Nat.le_of_ble_eq_true rfl) (Nat.le_of_ble_eq_true rfl) hl.1 (Nat.le_of_ble_eq_true rfl) dX8_digest_359 (fun H locs hI => ?_)
      refine lv_i2l hx hb dX8_digest_362 rfl ?_
      refine lv_ladd hx hb dX8_digest_363 ?_
      refine lv_topl (fun x32 ex32 => ?_)
      have h := ms_ltE ex32 h
      refine lv_lstore_n (lv' := [(1, .long x32), (0, .ref (a 0)), (3, .int y2)]) hx hb dX8_digest_364 rfl hl (by decide) rfl (fun ls hl => ?_)
      refine lv_ldc2 hx hb Cx.2.2.2.1 (Cx.2.2.2.2.1 _ wd_42_6) dX8_digest_365 ?_
      refine lv_lload_n hx hb dX8_digest_368 rfl (lv_at hl 0 rfl) ?_
      refine lv_lmul hx hb dX8_digest_369 ?_
      refine lv_aload_n hx hb dX8_digest_370 rfl (lv_at hl 1 rfl) ?_
      refine lv_bipush (v := 9) hx hb dX8_digest_371 rfl ?_
      refine lv_iconst (v := 5) hx hb dX8_digest_373 rfl ?_
      refine lv_bipush (v := 47) hx hb dX8_digest_374 rfl ?_
      obtain ⟨⟨r34, σ35⟩, hc33, h⟩ := ms_bdE h
      refine kX8_robbedOf Cx hI hc33 wd_36_15 (Nat.le_of_ble_eq_true rfl) (Nat.le_of_ble_eq_true rfl) hl.1 (Nat.le_of_ble_eq_true rfl) dX8_digest_376 (fun H locs hI => ?_)
      refine lv_i2l hx hb dX8_digest_379 rfl ?_
      refine lv_ladd hx hb dX8_digest_380 ?_
      exact ms_rlw Cx hI h dX8_digest_381
    · have h := ms_ifF hc h
      refine lv_iload_n hx hb dX8_digest_166 rfl (lv_at hl 2 rfl) ?_
      refine lv_if_ne (tgt := 174) hx hb dX8_digest_167 rfl (fun hc => ?_) (fun hc => ?_)
      · have h := ms_ifF hc h
        refine lv_iload_n hx hb dX8_digest_174 rfl (lv_at hl 2 rfl) ?_
        refine lv_iconst (v := 1) hx hb dX8_digest_175 rfl ?_
        refine lv_icmp_ne (tgt := 184) hx hb dX8_digest_176 rfl (fun hc => ?_) (fun hc => ?_)
        · have h := ms_ifF hc h
          refine lv_iload_n hx hb dX8_digest_184 rfl (lv_at hl 2 rfl) ?_
          refine lv_iconst (v := 2) hx hb dX8_digest_185 rfl ?_
          refine lv_icmp_ne (tgt := 194) hx hb dX8_digest_186 rfl (fun hc => ?_) (fun hc => ?_)
          · have h := ms_ifF hc h
            refine lv_iload_n hx hb dX8_digest_194 rfl (lv_at hl 2 rfl) ?_
            refine lv_iconst (v := 3) hx hb dX8_digest_195 rfl ?_
            refine lv_icmp_ne (tgt := 204) hx hb dX8_digest_196 rfl (fun hc => ?_) (fun hc => ?_)
            · have h := ms_ifF hc h
              refine lv_sipush (v := 239) hx hb dX8_digest_204 rfl ?_
              exact wX8_digest_207 Cx out (fX8_digest_161 n) ih y1 y2 239 σ _ _ _ hI (lv_sub hl [0, 1, 2] rfl) h
            · have h := ms_ifT hc h
              refine lv_bipush (v := 100) hx hb dX8_digest_199 rfl ?_
              refine lv_goto (tgt := 207) hx hb dX8_digest_201 rfl ?_
              exact wX8_digest_207 Cx out (fX8_digest_161 n) ih y1 y2 100 σ _ _ _ hI (lv_sub hl [0, 1, 2] rfl) h
          · have h := ms_ifT hc h
            refine lv_bipush (v := 23) hx hb dX8_digest_189 rfl ?_
            refine lv_goto (tgt := 207) hx hb dX8_digest_191 rfl ?_
            exact wX8_digest_207 Cx out (fX8_digest_161 n) ih y1 y2 23 σ _ _ _ hI (lv_sub hl [0, 1, 2] rfl) h
        · have h := ms_ifT hc h
          refine lv_bipush (v := 7) hx hb dX8_digest_179 rfl ?_
          refine lv_goto (tgt := 207) hx hb dX8_digest_181 rfl ?_
          exact wX8_digest_207 Cx out (fX8_digest_161 n) ih y1 y2 7 σ _ _ _ hI (lv_sub hl [0, 1, 2] rfl) h
      · have h := ms_ifT hc h
        refine lv_iconst (v := 0) hx hb dX8_digest_170 rfl ?_
        refine lv_goto (tgt := 207) hx hb dX8_digest_171 rfl ?_
        exact wX8_digest_207 Cx out (fX8_digest_161 n) ih y1 y2 0 σ _ _ _ hI (lv_sub hl [0, 1, 2] rfl) h
set_option maxHeartbeats 4000000 in
set_option maxRecDepth 100000 in
theorem wX8_digest_106 (Cx : ms_C p s m args meth c D cA a shM cX8_digest 5 RX8 (some .long)) (out : Int64 × Mm) : ∀ (n : Nat), ∀ (y1 : Int64) (y2 : Int32) , ∀ (σ : Mm) (H : Heap) (locs : List Loc) (ls : Array Slot), ms_I D cA a shM s σ H locs → lv_has ls 5 [(0, .ref (a 0)), (1, .long y1), (3, .int y2)] → fX8_digest_106 n y1 y2 σ = some out → W p l e rmX8_digest s m args below meth c H locs 0 0 (MQ below (ms_Ql D cA a shM out.1 out.2) args s 0 0 (ms_A a shM.length)) (F0 m 106 ls []) := by
  have hx := Cx.1
  have hb := Cx.2.1
  intro n
  induction n with
  | zero =>
    intro y1 y2 σ H locs ls hI hl h
    exact nomatch (show none = some out from h)
  | succ n ih =>
    intro y1 y2 σ H locs ls hI hl h
    rw [fX8_digest_106] at h
    refine lv_iload_n hx hb dX8_digest_106 rfl (lv_at hl 2 rfl) ?_
    refine lv_aload_n hx hb dX8_digest_107 rfl (lv_at hl 0 rfl) ?_
    refine gi_X8_11 Cx hI wd_11_22 dX8_digest_108 ?_
    refine lv_icmp_ge (tgt := 133) hx hb dX8_digest_111 rfl (fun hc => ?_) (fun hc => ?_)
    · have h := ms_ifT hc h
      refine lv_ldc2 hx hb Cx.2.2.2.1 (Cx.2.2.2.2.1 _ wd_42_6) dX8_digest_133 ?_
      refine lv_lload_n hx hb dX8_digest_136 rfl (lv_at hl 1 rfl) ?_
      refine lv_lmul hx hb dX8_digest_137 ?_
      refine lv_aload_n hx hb dX8_digest_138 rfl (lv_at hl 0 rfl) ?_
      refine lv_iconst (v := 0) hx hb dX8_digest_139 rfl ?_
      obtain ⟨⟨r2, σ3⟩, hc1, h⟩ := ms_bdE h
      refine kX8_toilOf Cx hI hc1 wd_19_18 (Nat.le_of_ble_eq_true rfl) (Nat.le_of_ble_eq_true rfl) hl.1 (Nat.le_of_ble_eq_true rfl) dX8_digest_140 (fun H locs hI => ?_)
      refine lv_i2l hx hb dX8_digest_143 rfl ?_
      refine lv_ladd hx hb dX8_digest_144 ?_
      refine lv_topl (fun x4 ex4 => ?_)
      have h := ms_ltE ex4 h
      refine lv_lstore_n (lv' := [(1, .long x4), (0, .ref (a 0)), (3, .int y2)]) hx hb dX8_digest_145 rfl hl (by decide) rfl (fun ls hl => ?_)
      refine lv_ldc2 hx hb Cx.2.2.2.1 (Cx.2.2.2.2.1 _ wd_42_6) dX8_digest_146 ?_
      refine lv_lload_n hx hb dX8_digest_149 rfl (lv_at hl 0 rfl) ?_
      refine lv_lmul hx hb dX8_digest_150 ?_
      refine lv_aload_n hx hb dX8_digest_151 rfl (lv_at hl 1 rfl) ?_
      refine lv_iconst (v := 1) hx hb dX8_digest_152 rfl ?_
      obtain ⟨⟨r6, σ7⟩, hc5, h⟩ := ms_bdE h
      refine kX8_toilOf Cx hI hc5 wd_19_18 (Nat.le_of_ble_eq_true rfl) (Nat.le_of_ble_eq_true rfl) hl.1 (Nat.le_of_ble_eq_true rfl) dX8_digest_153 (fun H locs hI => ?_)
      refine lv_i2l hx hb dX8_digest_156 rfl ?_
      refine lv_ladd hx hb dX8_digest_157 ?_
      refine lv_topl (fun x8 ex8 => ?_)
      have h := ms_ltE ex8 h
      refine lv_lstore_n (lv' := [(1, .long x8), (0, .ref (a 0)), (3, .int y2)]) hx hb dX8_digest_158 rfl hl (by decide) rfl (fun ls hl => ?_)
      refine lv_iconst (v := 0) hx hb dX8_digest_159 rfl ?_
      refine lv_istore_n (lv' := [(3, .int 0), (1, .long x8), (0, .ref (a 0))]) hx hb dX8_digest_160 rfl hl (by decide) rfl (fun ls hl => ?_)
      exact wX8_digest_161 Cx out  ms_fu x8 0 σ7 _ _ _ hI (lv_sub hl [2, 1, 0] rfl) h
    · have h := ms_ifF hc h
      refine lv_ldc2 hx hb Cx.2.2.2.1 (Cx.2.2.2.2.1 _ wd_42_6) dX8_digest_114 ?_
      refine lv_lload_n hx hb dX8_digest_117 rfl (lv_at hl 1 rfl) ?_
      refine lv_lmul hx hb dX8_digest_118 ?_
      refine lv_aload_n hx hb dX8_digest_119 rfl (lv_at hl 0 rfl) ?_
      refine lv_iload_n hx hb dX8_digest_120 rfl (lv_at hl 2 rfl) ?_
      obtain ⟨r10, hc9, h⟩ := ms_bdE h
      refine kX8_goesOf Cx hI hc9 wd_18_16 (Nat.le_of_ble_eq_true rfl) (Nat.le_of_ble_eq_true rfl) hl.1 (Nat.le_of_ble_eq_true rfl) dX8_digest_121 (fun H locs hI => ?_)
      refine lv_i2l hx hb dX8_digest_124 rfl ?_
      refine lv_ladd hx hb dX8_digest_125 ?_
      refine lv_topl (fun x11 ex11 => ?_)
      have h := ms_ltE ex11 h
      refine lv_lstore_n (lv' := [(1, .long x11), (0, .ref (a 0)), (3, .int y2)]) hx hb dX8_digest_126 rfl hl (by decide) rfl (fun ls hl => ?_)
      refine lv_iinc (v := y2 + 1) (lv' := [(3, .int (y2 + 1)), (1, .long x11), (0, .ref (a 0))]) hx hb dX8_digest_127 hl (k := 2) rfl rfl (by decide) rfl (fun ls hl => ?_)
      refine lv_goto (tgt := 106) hx hb dX8_digest_130 rfl ?_
      exact ih x11 (y2 + 1) σ _ _ _ hI (lv_sub hl [2, 1, 0] rfl) h
set_option maxHeartbeats 4000000 in
set_option maxRecDepth 100000 in
theorem wX8_digest_45 (Cx : ms_C p s m args meth c D cA a shM cX8_digest 5 RX8 (some .long)) (out : Int64 × Mm) : ∀ (n : Nat), ∀ (y1 : Int64) (y2 : Int32) , ∀ (σ : Mm) (H : Heap) (locs : List Loc) (ls : Array Slot), ms_I D cA a shM s σ H locs → lv_has ls 5 [(0, .ref (a 0)), (1, .long y1), (3, .int y2)] → fX8_digest_45 n y1 y2 σ = some out → W p l e rmX8_digest s m args below meth c H locs 0 0 (MQ below (ms_Ql D cA a shM out.1 out.2) args s 0 0 (ms_A a shM.length)) (F0 m 45 ls []) := by
  have hx := Cx.1
  have hb := Cx.2.1
  intro n
  induction n with
  | zero =>
    intro y1 y2 σ H locs ls hI hl h
    exact nomatch (show none = some out from h)
  | succ n ih =>
    intro y1 y2 σ H locs ls hI hl h
    rw [fX8_digest_45] at h
    refine lv_iload_n hx hb dX8_digest_45 rfl (lv_at hl 2 rfl) ?_
    refine lv_aload_n hx hb dX8_digest_46 rfl (lv_at hl 0 rfl) ?_
    refine gi_X8_3 Cx hI wd_11_20 dX8_digest_47 ?_
    refine lv_icmp_ge (tgt := 104) hx hb dX8_digest_50 rfl (fun hc => ?_) (fun hc => ?_)
    · have h := ms_ifT hc h
      refine lv_iconst (v := 0) hx hb dX8_digest_104 rfl ?_
      refine lv_istore_n (lv' := [(3, .int 0), (0, .ref (a 0)), (1, .long y1)]) hx hb dX8_digest_105 rfl hl (by decide) rfl (fun ls hl => ?_)
      exact wX8_digest_106 Cx out  ms_fu y1 0 σ _ _ _ hI (lv_sub hl [1, 2, 0] rfl) h
    · have h := ms_ifF hc h
      refine lv_iconst (v := 0) hx hb dX8_digest_53 rfl ?_
      refine lv_istore (lv' := [(4, .int 0), (0, .ref (a 0)), (1, .long y1), (3, .int y2)]) hx hb dX8_digest_54 hl (by decide) rfl (fun ls hl => ?_)
      exact wX8_digest_56 Cx out (fX8_digest_45 n) ih ms_fu y1 y2 0 σ _ _ _ hI (lv_sub hl [1, 2, 3, 0] rfl) h
set_option maxHeartbeats 4000000 in
set_option maxRecDepth 100000 in
theorem wX8_digest_6 (Cx : ms_C p s m args meth c D cA a shM cX8_digest 5 RX8 (some .long)) (out : Int64 × Mm) : ∀ (n : Nat), ∀ (y1 : Int64) (y2 : Int32) , ∀ (σ : Mm) (H : Heap) (locs : List Loc) (ls : Array Slot), ms_I D cA a shM s σ H locs → lv_has ls 5 [(0, .ref (a 0)), (1, .long y1), (3, .int y2)] → fX8_digest_6 n y1 y2 σ = some out → W p l e rmX8_digest s m args below meth c H locs 0 0 (MQ below (ms_Ql D cA a shM out.1 out.2) args s 0 0 (ms_A a shM.length)) (F0 m 6 ls []) := by
  have hx := Cx.1
  have hb := Cx.2.1
  intro n
  induction n with
  | zero =>
    intro y1 y2 σ H locs ls hI hl h
    exact nomatch (show none = some out from h)
  | succ n ih =>
    intro y1 y2 σ H locs ls hI hl h
    rw [fX8_digest_6] at h
    refine lv_iload_n hx hb dX8_digest_6 rfl (lv_at hl 2 rfl) ?_
    refine lv_bipush (v := 8) hx hb dX8_digest_7 rfl ?_
    refine lv_icmp_ge (tgt := 31) hx hb dX8_digest_9 rfl (fun hc => ?_) (fun hc => ?_)
    · have h := ms_ifT hc h
      refine lv_ldc2 hx hb Cx.2.2.2.1 (Cx.2.2.2.2.1 _ wd_42_6) dX8_digest_31 ?_
      refine lv_lload_n hx hb dX8_digest_34 rfl (lv_at hl 1 rfl) ?_
      refine lv_lmul hx hb dX8_digest_35 ?_
      refine lv_aload_n hx hb dX8_digest_36 rfl (lv_at hl 0 rfl) ?_
      obtain ⟨⟨r2, σ3⟩, hc1, h⟩ := ms_bdE h
      refine kX8_faultNow Cx hI hc1 wd_11_16 (Nat.le_of_ble_eq_true rfl) (Nat.le_of_ble_eq_true rfl) hl.1 (Nat.le_of_ble_eq_true rfl) dX8_digest_37 (fun H locs hI => ?_)
      refine lv_i2l hx hb dX8_digest_40 rfl ?_
      refine lv_ladd hx hb dX8_digest_41 ?_
      refine lv_topl (fun x4 ex4 => ?_)
      have h := ms_ltE ex4 h
      refine lv_lstore_n (lv' := [(1, .long x4), (0, .ref (a 0)), (3, .int y2)]) hx hb dX8_digest_42 rfl hl (by decide) rfl (fun ls hl => ?_)
      refine lv_iconst (v := 0) hx hb dX8_digest_43 rfl ?_
      refine lv_istore_n (lv' := [(3, .int 0), (1, .long x4), (0, .ref (a 0))]) hx hb dX8_digest_44 rfl hl (by decide) rfl (fun ls hl => ?_)
      exact wX8_digest_45 Cx out  ms_fu x4 0 σ3 _ _ _ hI (lv_sub hl [2, 1, 0] rfl) h
    · have h := ms_ifF hc h
      refine lv_ldc2 hx hb Cx.2.2.2.1 (Cx.2.2.2.2.1 _ wd_42_6) dX8_digest_12 ?_
      refine lv_lload_n hx hb dX8_digest_15 rfl (lv_at hl 1 rfl) ?_
      refine lv_lmul hx hb dX8_digest_16 ?_
      refine lv_aload_n hx hb dX8_digest_17 rfl (lv_at hl 0 rfl) ?_
      refine lv_iload_n hx hb dX8_digest_18 rfl (lv_at hl 2 rfl) ?_
      obtain ⟨⟨r6, σ7⟩, hc5, h⟩ := ms_bdE h
      refine kX8_count Cx hI hc5 wd_42_7 (Nat.le_of_ble_eq_true rfl) (Nat.le_of_ble_eq_true rfl) hl.1 (Nat.le_of_ble_eq_true rfl) dX8_digest_19 (fun H locs hI => ?_)
      refine lv_i2l hx hb dX8_digest_22 rfl ?_
      refine lv_ladd hx hb dX8_digest_23 ?_
      refine lv_topl (fun x8 ex8 => ?_)
      have h := ms_ltE ex8 h
      refine lv_lstore_n (lv' := [(1, .long x8), (0, .ref (a 0)), (3, .int y2)]) hx hb dX8_digest_24 rfl hl (by decide) rfl (fun ls hl => ?_)
      refine lv_iinc (v := y2 + 1) (lv' := [(3, .int (y2 + 1)), (1, .long x8), (0, .ref (a 0))]) hx hb dX8_digest_25 hl (k := 2) rfl rfl (by decide) rfl (fun ls hl => ?_)
      refine lv_goto (tgt := 6) hx hb dX8_digest_28 rfl ?_
      exact ih x8 (y2 + 1) σ7 _ _ _ hI (lv_sub hl [2, 1, 0] rfl) h
set_option maxHeartbeats 4000000 in
set_option maxRecDepth 100000 in
theorem wX8_digest (Cx : ms_C p s m args meth c D cA a shM cX8_digest 5 RX8 (some .long)) (out : Int64 × Mm) : ∀ (σ : Mm) (H : Heap) (locs : List Loc) (ls : Array Slot), ms_I D cA a shM s σ H locs → lv_has ls 5 [(0, .ref (a 0))] → fX8_digest σ = some out → W p l e rmX8_digest s m args below meth c H locs 0 0 (MQ below (ms_Ql D cA a shM out.1 out.2) args s 0 0 (ms_A a shM.length)) (F0 m 0 ls []) := by
  have hx := Cx.1
  have hb := Cx.2.1
  intro σ H locs ls hI hl h
  unfold fX8_digest at h
  refine lv_ldc2 hx hb Cx.2.2.2.1 (Cx.2.2.2.2.1 _ wd_42_5) dX8_digest_0 ?_
  refine lv_lstore_n (lv' := [(1, .long 17), (0, .ref (a 0))]) hx hb dX8_digest_3 rfl hl (by decide) rfl (fun ls hl => ?_)
  refine lv_iconst (v := 0) hx hb dX8_digest_4 rfl ?_
  refine lv_istore_n (lv' := [(3, .int 0), (1, .long 17), (0, .ref (a 0))]) hx hb dX8_digest_5 rfl hl (by decide) rfl (fun ls hl => ?_)
  exact wX8_digest_6 Cx out  ms_fu 17 0 σ _ _ _ hI (lv_sub hl [2, 1, 0] rfl) h
theorem yvX8_digest : ms_YV yX8_digest RX8 cX8_digest 5 (some .long) 0 := ⟨wd_42_2, wd_42_3, wd_1_5, wd_42_4, rfl, by decide +kernel, by decide +kernel, by decide +kernel⟩
set_option maxHeartbeats 4000000 in
theorem metX8_digest (l : Launch) (hDis : ms_Dis a shM.length) {σ : Mm} {out : Int64 × Mm} (h : fX8_digest σ = some out) : Met l yX8_digest (.code yX8_digest cX8_digest 5 (some .long) :: wsL_law) rmX8_digest (ms_Pc D cA a shM [.ref (a 0)] σ) (ms_Ql D cA a shM out.1 out.2) 0 0 (ms_A a shM.length) := by
  refine Met.ofW (cc := cX8_digest) (maxL := 5) (ret := (some .long)) (by decide) rfl ?_
  intro p e s m args below meth c s₁ B hml hv
  obtain ⟨rfl, hK, hN, hP⟩ := hv
  have hl := lv_entry ([.ref (a 0)]) (n := 5) (Nat.le_of_ble_eq_true rfl)
  rw [lg_entry_eq]
  generalize (lg_sl ([.ref (a 0)]) ++ List.replicate (5 - (lg_sl ([.ref (a 0)])).length) Slot.unset).toArray = ls at hl ⊢
  exact wX8_digest ⟨B.exec, B.bytes, hml, findClass_of_methodNamed B.named, fun w hw => atoms_spec (ws := .code yX8_digest cX8_digest 5 (some .long) :: wsL_law) B.pre w (List.mem_cons_of_mem _ hw), B.returns, B.notSynchronized, hK, hDis, hN⟩ out σ s.heap [] ls ⟨hP, va_S.rf⟩ hl h
theorem kX8_digest (Cx : ms_C p s m args meth c D cA a shM cc nL own ret) {σ : Mm} {H : Heap} {locs : List Loc} (hI : ms_I D cA a shM s σ H locs) {out : Int64 × Mm} (h : fX8_digest σ = some out) (hl : Cond.methodLink own idx yX8_digest ∈ wsL_law) (hf : 9 + 1 ≤ R.frames) (hlo : 8 + (5 + 11) + 201 ≤ R.locals) (hsz : ls.size = nL) (hW : (rest.map fun v => v.category).sum ≤ 8) (hd : decode cc pc = .ok (.invokevirtual idx, 3)) (kk : ∀ (H1 : Heap) (locs1 : List Loc), ms_I D cA a shM s out.2 H1 locs1 → W p l e R s m args below meth c H1 locs1 0 0 Q (F0 m (pc + 3) ls (.long out.1 :: rest))) : W p l e R s m args below meth c H locs 0 0 Q (F0 m pc ls (.ref (a 0) :: rest)) :=
  ms_cl hI (ms_runV (av := []) Cx hI 0 shM_0 (ci := 8) rfl rfl yvX8_digest (metX8_digest l Cx.2.2.2.2.2.2.2.2.1  h) ⟨rfl, rfl⟩ hl ⟨hf, hlo⟩ rfl hsz rfl hW ⟨Nat.zero_le _, Nat.zero_le _⟩ hd) kk
end WK
