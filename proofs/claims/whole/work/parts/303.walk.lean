section WK
variable {p : Program} {l : Launch} {e : Env} {R : Room} {s : State} {m : MethodId} {args : Array Value} {below : List Frame} {meth : Method} {c : Code} {Q : State → Prop}
variable {D : va_G} {cA : Nat → ClassId} {a : Nat → Nat} {cc : ByteArray} {nL idx : Nat} {own : String} {ret : Option FieldType} {pc : Nat} {ls : Array Slot} {rest : List Value}
/-! X6 sideOf (III)I -/
theorem dX6_sideOf_0 : decode cX6_sideOf 0 = .ok (.iload_n 2, 1) := by decide +kernel
theorem dX6_sideOf_1 : decode cX6_sideOf 1 = .ok (.aload_n 0, 1) := by decide +kernel
theorem dX6_sideOf_2 : decode cX6_sideOf 2 = .ok (.getfield 9, 3) := by decide +kernel
theorem dX6_sideOf_5 : decode cX6_sideOf 5 = .ok (.iload_n 1, 1) := by decide +kernel
theorem dX6_sideOf_6 : decode cX6_sideOf 6 = .ok (.iconst 2, 1) := by decide +kernel
theorem dX6_sideOf_7 : decode cX6_sideOf 7 = .ok (.invokevirtual 19, 3) := by decide +kernel
theorem dX6_sideOf_10 : decode cX6_sideOf 10 = .ok (.invokestatic 25, 3) := by decide +kernel
theorem dX6_sideOf_13 : decode cX6_sideOf 13 = .ok (.istore 4, 2) := by decide +kernel
theorem dX6_sideOf_15 : decode cX6_sideOf 15 = .ok (.iload_n 2, 1) := by decide +kernel
theorem dX6_sideOf_16 : decode cX6_sideOf 16 = .ok (.aload_n 0, 1) := by decide +kernel
theorem dX6_sideOf_17 : decode cX6_sideOf 17 = .ok (.getfield 9, 3) := by decide +kernel
theorem dX6_sideOf_20 : decode cX6_sideOf 20 = .ok (.iload_n 1, 1) := by decide +kernel
theorem dX6_sideOf_21 : decode cX6_sideOf 21 = .ok (.iconst 3, 1) := by decide +kernel
theorem dX6_sideOf_22 : decode cX6_sideOf 22 = .ok (.invokevirtual 19, 3) := by decide +kernel
theorem dX6_sideOf_25 : decode cX6_sideOf 25 = .ok (.invokestatic 25, 3) := by decide +kernel
theorem dX6_sideOf_28 : decode cX6_sideOf 28 = .ok (.istore 5, 2) := by decide +kernel
theorem dX6_sideOf_30 : decode cX6_sideOf 30 = .ok (.iload_n 3, 1) := by decide +kernel
theorem dX6_sideOf_31 : decode cX6_sideOf 31 = .ok (.iconst 1, 1) := by decide +kernel
theorem dX6_sideOf_32 : decode cX6_sideOf 32 = .ok (.if_icmp .ne 13, 3) := by decide +kernel
theorem dX6_sideOf_35 : decode cX6_sideOf 35 = .ok (.iload 4, 2) := by decide +kernel
theorem dX6_sideOf_37 : decode cX6_sideOf 37 = .ok (.iload 5, 2) := by decide +kernel
theorem dX6_sideOf_39 : decode cX6_sideOf 39 = .ok (.if_icmp .eq 6, 3) := by decide +kernel
theorem dX6_sideOf_42 : decode cX6_sideOf 42 = .ok (.iload 5, 2) := by decide +kernel
theorem dX6_sideOf_44 : decode cX6_sideOf 44 = .ok (.ireturn, 1) := by decide +kernel
theorem dX6_sideOf_45 : decode cX6_sideOf 45 = .ok (.aload_n 0, 1) := by decide +kernel
theorem dX6_sideOf_46 : decode cX6_sideOf 46 = .ok (.getfield 9, 3) := by decide +kernel
theorem dX6_sideOf_49 : decode cX6_sideOf 49 = .ok (.iload_n 1, 1) := by decide +kernel
theorem dX6_sideOf_50 : decode cX6_sideOf 50 = .ok (.iconst 4, 1) := by decide +kernel
theorem dX6_sideOf_51 : decode cX6_sideOf 51 = .ok (.invokevirtual 19, 3) := by decide +kernel
theorem dX6_sideOf_54 : decode cX6_sideOf 54 = .ok (.iload 4, 2) := by decide +kernel
theorem dX6_sideOf_56 : decode cX6_sideOf 56 = .ok (.aload_n 0, 1) := by decide +kernel
theorem dX6_sideOf_57 : decode cX6_sideOf 57 = .ok (.getfield 15, 3) := by decide +kernel
theorem dX6_sideOf_60 : decode cX6_sideOf 60 = .ok (.iconst 4, 1) := by decide +kernel
theorem dX6_sideOf_61 : decode cX6_sideOf 61 = .ok (.iaload, 1) := by decide +kernel
theorem dX6_sideOf_62 : decode cX6_sideOf 62 = .ok (.imul, 1) := by decide +kernel
theorem dX6_sideOf_63 : decode cX6_sideOf 63 = .ok (.iadd, 1) := by decide +kernel
theorem dX6_sideOf_64 : decode cX6_sideOf 64 = .ok (.istore 6, 2) := by decide +kernel
theorem dX6_sideOf_66 : decode cX6_sideOf 66 = .ok (.aload_n 0, 1) := by decide +kernel
theorem dX6_sideOf_67 : decode cX6_sideOf 67 = .ok (.getfield 9, 3) := by decide +kernel
theorem dX6_sideOf_70 : decode cX6_sideOf 70 = .ok (.iload_n 1, 1) := by decide +kernel
theorem dX6_sideOf_71 : decode cX6_sideOf 71 = .ok (.iconst 5, 1) := by decide +kernel
theorem dX6_sideOf_72 : decode cX6_sideOf 72 = .ok (.invokevirtual 19, 3) := by decide +kernel
theorem dX6_sideOf_75 : decode cX6_sideOf 75 = .ok (.iload 5, 2) := by decide +kernel
theorem dX6_sideOf_77 : decode cX6_sideOf 77 = .ok (.aload_n 0, 1) := by decide +kernel
theorem dX6_sideOf_78 : decode cX6_sideOf 78 = .ok (.getfield 15, 3) := by decide +kernel
theorem dX6_sideOf_81 : decode cX6_sideOf 81 = .ok (.iconst 4, 1) := by decide +kernel
theorem dX6_sideOf_82 : decode cX6_sideOf 82 = .ok (.iaload, 1) := by decide +kernel
theorem dX6_sideOf_83 : decode cX6_sideOf 83 = .ok (.imul, 1) := by decide +kernel
theorem dX6_sideOf_84 : decode cX6_sideOf 84 = .ok (.iadd, 1) := by decide +kernel
theorem dX6_sideOf_85 : decode cX6_sideOf 85 = .ok (.istore 7, 2) := by decide +kernel
theorem dX6_sideOf_87 : decode cX6_sideOf 87 = .ok (.iload 7, 2) := by decide +kernel
theorem dX6_sideOf_89 : decode cX6_sideOf 89 = .ok (.iload 6, 2) := by decide +kernel
theorem dX6_sideOf_91 : decode cX6_sideOf 91 = .ok (.if_icmp .ge 7, 3) := by decide +kernel
theorem dX6_sideOf_94 : decode cX6_sideOf 94 = .ok (.iconst 1, 1) := by decide +kernel
theorem dX6_sideOf_95 : decode cX6_sideOf 95 = .ok (.goto 4, 3) := by decide +kernel
theorem dX6_sideOf_98 : decode cX6_sideOf 98 = .ok (.iconst 0, 1) := by decide +kernel
theorem dX6_sideOf_99 : decode cX6_sideOf 99 = .ok (.ireturn, 1) := by decide +kernel
abbrev rmX6_sideOf : Room := { frames := 1, cells := 0, slots := 0, locals := 22 }
set_option maxHeartbeats 4000000 in
set_option maxRecDepth 100000 in
theorem wX6_sideOf_45 (Cx : ms_C p s m args meth c D cA a shX cX6_sideOf 8 RX6 (some .int)) (out : Int32) {σ : Mm} : ∀ (y1 : Int32) (y2 : Int32) (y3 : Int32) , ∀ (H : Heap) (locs : List Loc) (ls : Array Slot), ms_I D cA a shX s σ H locs → lv_has ls 8 [(0, .ref (a 7)), (1, .int y1), (4, .int y2), (5, .int y3)] → fX6_sideOf_45 σ y1 y2 y3 = some out → W p l e rmX6_sideOf s m args below meth c H locs 0 0 (MQ below (ms_Qi D cA a shX out σ) args s 0 0 (ms_A a shX.length)) (F0 m 45 ls []) := by
  have hx := Cx.1
  have hb := Cx.2.1
  intro y1 y2 y3 H locs ls hI hl h
  unfold fX6_sideOf_45 at h
  refine lv_aload_n hx hb dX6_sideOf_45 rfl (lv_at hl 0 rfl) ?_
  refine gr_X6_0 Cx hI wd_3_20 dX6_sideOf_46 ?_
  refine lv_iload_n hx hb dX6_sideOf_49 rfl (lv_at hl 1 rfl) ?_
  refine lv_iconst (v := 4) hx hb dX6_sideOf_50 rfl ?_
  obtain ⟨r2, hc1, h⟩ := ms_bdE h
  refine kX4_ofGroup Cx hI hc1 wd_18_11 (Nat.le_of_ble_eq_true rfl) (Nat.le_of_ble_eq_true rfl) hl.1 (Nat.le_of_ble_eq_true rfl) dX6_sideOf_51 (fun H locs hI => ?_)
  refine lv_iload hx hb dX6_sideOf_54 (lv_at hl 2 rfl) ?_
  refine lv_aload_n hx hb dX6_sideOf_56 rfl (lv_at hl 0 rfl) ?_
  refine gr_X6_1 Cx hI wd_3_21 dX6_sideOf_57 ?_
  refine lv_iconst (v := 4) hx hb dX6_sideOf_60 rfl ?_
  obtain ⟨hg, h⟩ := ms_gE h
  refine ms_ld Cx hI 5 shX_5 hg dX6_sideOf_61 ?_
  refine lv_imul hx hb dX6_sideOf_62 ?_
  refine lv_iadd hx hb dX6_sideOf_63 ?_
  refine lv_topi (fun x3 ex3 => ?_)
  have h := ms_ltE ex3 h
  refine lv_istore (lv' := [(6, .int x3), (0, .ref (a 7)), (1, .int y1), (4, .int y2), (5, .int y3)]) hx hb dX6_sideOf_64 hl (by decide) rfl (fun ls hl => ?_)
  refine lv_aload_n hx hb dX6_sideOf_66 rfl (lv_at hl 1 rfl) ?_
  refine gr_X6_0 Cx hI wd_3_20 dX6_sideOf_67 ?_
  refine lv_iload_n hx hb dX6_sideOf_70 rfl (lv_at hl 2 rfl) ?_
  refine lv_iconst (v := 5) hx hb dX6_sideOf_71 rfl ?_
  obtain ⟨r5, hc4, h⟩ := ms_bdE h
  refine kX4_ofGroup Cx hI hc4 wd_18_11 (Nat.le_of_ble_eq_true rfl) (Nat.le_of_ble_eq_true rfl) hl.1 (Nat.le_of_ble_eq_true rfl) dX6_sideOf_72 (fun H locs hI => ?_)
  refine lv_iload hx hb dX6_sideOf_75 (lv_at hl 4 rfl) ?_
  refine lv_aload_n hx hb dX6_sideOf_77 rfl (lv_at hl 1 rfl) ?_
  refine gr_X6_1 Cx hI wd_3_21 dX6_sideOf_78 ?_
  refine lv_iconst (v := 4) hx hb dX6_sideOf_81 rfl ?_
  obtain ⟨hg, h⟩ := ms_gE h
  refine ms_ld Cx hI 5 shX_5 hg dX6_sideOf_82 ?_
  refine lv_imul hx hb dX6_sideOf_83 ?_
  refine lv_iadd hx hb dX6_sideOf_84 ?_
  refine lv_topi (fun x6 ex6 => ?_)
  have h := ms_ltE ex6 h
  refine lv_istore (lv' := [(7, .int x6), (6, .int x3), (0, .ref (a 7)), (1, .int y1), (4, .int y2), (5, .int y3)]) hx hb dX6_sideOf_85 hl (by decide) rfl (fun ls hl => ?_)
  refine lv_iload hx hb dX6_sideOf_87 (lv_at hl 0 rfl) ?_
  refine lv_iload hx hb dX6_sideOf_89 (lv_at hl 1 rfl) ?_
  refine lv_icmp_ge (tgt := 98) hx hb dX6_sideOf_91 rfl (fun hc => ?_) (fun hc => ?_)
  · have h := ms_ifT hc h
    refine lv_iconst (v := 0) hx hb dX6_sideOf_98 rfl ?_
    exact ms_ri Cx hI (Option.some.inj h) rfl dX6_sideOf_99
  · have h := ms_ifF hc h
    refine lv_iconst (v := 1) hx hb dX6_sideOf_94 rfl ?_
    refine lv_goto (tgt := 99) hx hb dX6_sideOf_95 rfl ?_
    exact ms_ri Cx hI (Option.some.inj h) rfl dX6_sideOf_99
set_option maxHeartbeats 4000000 in
set_option maxRecDepth 100000 in
theorem wX6_sideOf (Cx : ms_C p s m args meth c D cA a shX cX6_sideOf 8 RX6 (some .int)) (out : Int32) {σ : Mm} : ∀ (p0 : Int32) (p1 : Int32) (p2 : Int32) , ∀ (H : Heap) (locs : List Loc) (ls : Array Slot), ms_I D cA a shX s σ H locs → lv_has ls 8 [(0, .ref (a 7)), (1, .int p0), (2, .int p1), (3, .int p2)] → fX6_sideOf σ p0 p1 p2 = some out → W p l e rmX6_sideOf s m args below meth c H locs 0 0 (MQ below (ms_Qi D cA a shX out σ) args s 0 0 (ms_A a shX.length)) (F0 m 0 ls []) := by
  have hx := Cx.1
  have hb := Cx.2.1
  intro p0 p1 p2 H locs ls hI hl h
  unfold fX6_sideOf at h
  refine lv_iload_n hx hb dX6_sideOf_0 rfl (lv_at hl 2 rfl) ?_
  refine lv_aload_n hx hb dX6_sideOf_1 rfl (lv_at hl 0 rfl) ?_
  refine gr_X6_0 Cx hI wd_3_20 dX6_sideOf_2 ?_
  refine lv_iload_n hx hb dX6_sideOf_5 rfl (lv_at hl 1 rfl) ?_
  refine lv_iconst (v := 2) hx hb dX6_sideOf_6 rfl ?_
  obtain ⟨r2, hc1, h⟩ := ms_bdE h
  refine kX4_ofGroup Cx hI hc1 wd_18_11 (Nat.le_of_ble_eq_true rfl) (Nat.le_of_ble_eq_true rfl) hl.1 (Nat.le_of_ble_eq_true rfl) dX6_sideOf_7 (fun H locs hI => ?_)
  obtain ⟨r4, hc3, h⟩ := ms_bdE h
  refine kX7_bit Cx hI hc3 (Or.inr nq_8) (Nat.le_of_ble_eq_true rfl) (Nat.le_of_ble_eq_true rfl) hl.1 (Nat.le_of_ble_eq_true rfl) dX6_sideOf_10 (fun H locs hI => ?_)
  refine lv_istore (lv' := [(4, .int r4), (0, .ref (a 7)), (1, .int p0), (2, .int p1), (3, .int p2)]) hx hb dX6_sideOf_13 hl (by decide) rfl (fun ls hl => ?_)
  refine lv_iload_n hx hb dX6_sideOf_15 rfl (lv_at hl 3 rfl) ?_
  refine lv_aload_n hx hb dX6_sideOf_16 rfl (lv_at hl 1 rfl) ?_
  refine gr_X6_0 Cx hI wd_3_20 dX6_sideOf_17 ?_
  refine lv_iload_n hx hb dX6_sideOf_20 rfl (lv_at hl 2 rfl) ?_
  refine lv_iconst (v := 3) hx hb dX6_sideOf_21 rfl ?_
  obtain ⟨r6, hc5, h⟩ := ms_bdE h
  refine kX4_ofGroup Cx hI hc5 wd_18_11 (Nat.le_of_ble_eq_true rfl) (Nat.le_of_ble_eq_true rfl) hl.1 (Nat.le_of_ble_eq_true rfl) dX6_sideOf_22 (fun H locs hI => ?_)
  obtain ⟨r8, hc7, h⟩ := ms_bdE h
  refine kX7_bit Cx hI hc7 (Or.inr nq_8) (Nat.le_of_ble_eq_true rfl) (Nat.le_of_ble_eq_true rfl) hl.1 (Nat.le_of_ble_eq_true rfl) dX6_sideOf_25 (fun H locs hI => ?_)
  refine lv_istore (lv' := [(5, .int r8), (4, .int r4), (0, .ref (a 7)), (1, .int p0), (2, .int p1), (3, .int p2)]) hx hb dX6_sideOf_28 hl (by decide) rfl (fun ls hl => ?_)
  refine lv_iload_n hx hb dX6_sideOf_30 rfl (lv_at hl 5 rfl) ?_
  refine lv_iconst (v := 1) hx hb dX6_sideOf_31 rfl ?_
  refine lv_icmp_ne (tgt := 45) hx hb dX6_sideOf_32 rfl (fun hc => ?_) (fun hc => ?_)
  · have h := ms_ifF hc h
    exact wX6_sideOf_45 Cx out  p0 r4 r8 _ _ _ hI (lv_sub hl [2, 3, 1, 0] rfl) h
  · have h := ms_ifT hc h
    refine lv_iload hx hb dX6_sideOf_35 (lv_at hl 1 rfl) ?_
    refine lv_iload hx hb dX6_sideOf_37 (lv_at hl 0 rfl) ?_
    refine lv_icmp_eq (tgt := 45) hx hb dX6_sideOf_39 rfl (fun hc => ?_) (fun hc => ?_)
    · have h := ms_ifT hc h
      exact wX6_sideOf_45 Cx out  p0 r4 r8 _ _ _ hI (lv_sub hl [2, 3, 1, 0] rfl) h
    · have h := ms_ifF hc h
      refine lv_iload hx hb dX6_sideOf_42 (lv_at hl 0 rfl) ?_
      exact ms_ri Cx hI (Option.some.inj h) rfl dX6_sideOf_44
theorem yvX6_sideOf : ms_YV yX6_sideOf RX6 cX6_sideOf 8 (some .int) 3 := ⟨wd_18_8, wd_18_9, wd_2_5, wd_18_10, rfl, by decide +kernel, by decide +kernel, by decide +kernel⟩
set_option maxHeartbeats 4000000 in
theorem metX6_sideOf (l : Launch) (hDis : ms_Dis a shX.length) {σ : Mm} {p0 : Int32} {p1 : Int32} {p2 : Int32} {out : Int32} (h : fX6_sideOf σ p0 p1 p2 = some out) : Met l yX6_sideOf (.code yX6_sideOf cX6_sideOf 8 (some .int) :: wsL_law) rmX6_sideOf (ms_Pc D cA a shX [.ref (a 7), .int p0, .int p1, .int p2] σ) (ms_Qi D cA a shX out σ) 0 0 (ms_A a shX.length) := by
  refine Met.ofW (cc := cX6_sideOf) (maxL := 8) (ret := (some .int)) (by decide) rfl ?_
  intro p e s m args below meth c s₁ B hml hv
  obtain ⟨rfl, hK, hN, hP⟩ := hv
  have hl := lv_entry ([.ref (a 7), .int p0, .int p1, .int p2]) (n := 8) (Nat.le_of_ble_eq_true rfl)
  rw [lg_entry_eq]
  generalize (lg_sl ([.ref (a 7), .int p0, .int p1, .int p2]) ++ List.replicate (8 - (lg_sl ([.ref (a 7), .int p0, .int p1, .int p2])).length) Slot.unset).toArray = ls at hl ⊢
  exact wX6_sideOf ⟨B.exec, B.bytes, hml, findClass_of_methodNamed B.named, fun w hw => atoms_spec (ws := .code yX6_sideOf cX6_sideOf 8 (some .int) :: wsL_law) B.pre w (List.mem_cons_of_mem _ hw), B.returns, B.notSynchronized, hK, hDis, hN⟩ out p0 p1 p2 s.heap [] ls ⟨hP, va_S.rf⟩ hl h
theorem kX6_sideOf (Cx : ms_C p s m args meth c D cA a shX cc nL own ret) {σ : Mm} {H : Heap} {locs : List Loc} (hI : ms_I D cA a shX s σ H locs) {p0 : Int32} {p1 : Int32} {p2 : Int32} {out : Int32} (h : fX6_sideOf σ p0 p1 p2 = some out) (hl : Cond.methodLink own idx yX6_sideOf ∈ wsL_law) (hf : 1 + 1 ≤ R.frames) (hlo : 8 + (8 + 11) + 22 ≤ R.locals) (hsz : ls.size = nL) (hW : (rest.map fun v => v.category).sum ≤ 8) (hd : decode cc pc = .ok (.invokevirtual idx, 3)) (kk : ∀ (H1 : Heap) (locs1 : List Loc), ms_I D cA a shX s σ H1 locs1 → W p l e R s m args below meth c H1 locs1 0 0 Q (F0 m (pc + 3) ls (.int out :: rest))) : W p l e R s m args below meth c H locs 0 0 Q (F0 m pc ls (.int p2 :: .int p1 :: .int p0 :: .ref (a 7) :: rest)) :=
  ms_ci hI (ms_runV (av := [.int p0, .int p1, .int p2]) Cx hI 7 shX_7 (ci := 6) rfl rfl yvX6_sideOf (metX6_sideOf l Cx.2.2.2.2.2.2.2.2.1  h) ⟨rfl, rfl⟩ hl ⟨hf, hlo⟩ rfl hsz rfl hW ⟨Nat.zero_le _, Nat.zero_le _⟩ hd) kk
/-! X6 costOfAll (II)I -/
theorem dX6_costOfAll_0 : decode cX6_costOfAll 0 = .ok (.iconst 0, 1) := by decide +kernel
theorem dX6_costOfAll_1 : decode cX6_costOfAll 1 = .ok (.istore_n 3, 1) := by decide +kernel
theorem dX6_costOfAll_2 : decode cX6_costOfAll 2 = .ok (.iconst 0, 1) := by decide +kernel
theorem dX6_costOfAll_3 : decode cX6_costOfAll 3 = .ok (.istore 4, 2) := by decide +kernel
theorem dX6_costOfAll_5 : decode cX6_costOfAll 5 = .ok (.iload 4, 2) := by decide +kernel
theorem dX6_costOfAll_7 : decode cX6_costOfAll 7 = .ok (.aload_n 0, 1) := by decide +kernel
theorem dX6_costOfAll_8 : decode cX6_costOfAll 8 = .ok (.getfield 9, 3) := by decide +kernel
theorem dX6_costOfAll_11 : decode cX6_costOfAll 11 = .ok (.getfield 28, 3) := by decide +kernel
theorem dX6_costOfAll_14 : decode cX6_costOfAll 14 = .ok (.if_icmp .ge 79, 3) := by decide +kernel
theorem dX6_costOfAll_17 : decode cX6_costOfAll 17 = .ok (.aload_n 0, 1) := by decide +kernel
theorem dX6_costOfAll_18 : decode cX6_costOfAll 18 = .ok (.iload 4, 2) := by decide +kernel
theorem dX6_costOfAll_20 : decode cX6_costOfAll 20 = .ok (.iload_n 1, 1) := by decide +kernel
theorem dX6_costOfAll_21 : decode cX6_costOfAll 21 = .ok (.iload_n 2, 1) := by decide +kernel
theorem dX6_costOfAll_22 : decode cX6_costOfAll 22 = .ok (.invokevirtual 32, 3) := by decide +kernel
theorem dX6_costOfAll_25 : decode cX6_costOfAll 25 = .ok (.istore 5, 2) := by decide +kernel
theorem dX6_costOfAll_27 : decode cX6_costOfAll 27 = .ok (.iload_n 1, 1) := by decide +kernel
theorem dX6_costOfAll_28 : decode cX6_costOfAll 28 = .ok (.aload_n 0, 1) := by decide +kernel
theorem dX6_costOfAll_29 : decode cX6_costOfAll 29 = .ok (.getfield 9, 3) := by decide +kernel
theorem dX6_costOfAll_32 : decode cX6_costOfAll 32 = .ok (.iload 4, 2) := by decide +kernel
theorem dX6_costOfAll_34 : decode cX6_costOfAll 34 = .ok (.iconst 2, 1) := by decide +kernel
theorem dX6_costOfAll_35 : decode cX6_costOfAll 35 = .ok (.iload 5, 2) := by decide +kernel
theorem dX6_costOfAll_37 : decode cX6_costOfAll 37 = .ok (.iadd, 1) := by decide +kernel
theorem dX6_costOfAll_38 : decode cX6_costOfAll 38 = .ok (.invokevirtual 19, 3) := by decide +kernel
theorem dX6_costOfAll_41 : decode cX6_costOfAll 41 = .ok (.invokestatic 25, 3) := by decide +kernel
theorem dX6_costOfAll_44 : decode cX6_costOfAll 44 = .ok (.istore 6, 2) := by decide +kernel
theorem dX6_costOfAll_46 : decode cX6_costOfAll 46 = .ok (.aload_n 0, 1) := by decide +kernel
theorem dX6_costOfAll_47 : decode cX6_costOfAll 47 = .ok (.getfield 9, 3) := by decide +kernel
theorem dX6_costOfAll_50 : decode cX6_costOfAll 50 = .ok (.iload 4, 2) := by decide +kernel
theorem dX6_costOfAll_52 : decode cX6_costOfAll 52 = .ok (.iconst 4, 1) := by decide +kernel
theorem dX6_costOfAll_53 : decode cX6_costOfAll 53 = .ok (.iload 5, 2) := by decide +kernel
theorem dX6_costOfAll_55 : decode cX6_costOfAll 55 = .ok (.iadd, 1) := by decide +kernel
theorem dX6_costOfAll_56 : decode cX6_costOfAll 56 = .ok (.invokevirtual 19, 3) := by decide +kernel
theorem dX6_costOfAll_59 : decode cX6_costOfAll 59 = .ok (.iload 6, 2) := by decide +kernel
theorem dX6_costOfAll_61 : decode cX6_costOfAll 61 = .ok (.aload_n 0, 1) := by decide +kernel
theorem dX6_costOfAll_62 : decode cX6_costOfAll 62 = .ok (.getfield 15, 3) := by decide +kernel
theorem dX6_costOfAll_65 : decode cX6_costOfAll 65 = .ok (.iconst 4, 1) := by decide +kernel
theorem dX6_costOfAll_66 : decode cX6_costOfAll 66 = .ok (.iaload, 1) := by decide +kernel
theorem dX6_costOfAll_67 : decode cX6_costOfAll 67 = .ok (.imul, 1) := by decide +kernel
theorem dX6_costOfAll_68 : decode cX6_costOfAll 68 = .ok (.iadd, 1) := by decide +kernel
theorem dX6_costOfAll_69 : decode cX6_costOfAll 69 = .ok (.istore 7, 2) := by decide +kernel
theorem dX6_costOfAll_71 : decode cX6_costOfAll 71 = .ok (.iload_n 3, 1) := by decide +kernel
theorem dX6_costOfAll_72 : decode cX6_costOfAll 72 = .ok (.aload_n 0, 1) := by decide +kernel
theorem dX6_costOfAll_73 : decode cX6_costOfAll 73 = .ok (.getfield 9, 3) := by decide +kernel
theorem dX6_costOfAll_76 : decode cX6_costOfAll 76 = .ok (.iload 4, 2) := by decide +kernel
theorem dX6_costOfAll_78 : decode cX6_costOfAll 78 = .ok (.iconst 0, 1) := by decide +kernel
theorem dX6_costOfAll_79 : decode cX6_costOfAll 79 = .ok (.invokevirtual 19, 3) := by decide +kernel
theorem dX6_costOfAll_82 : decode cX6_costOfAll 82 = .ok (.iload 7, 2) := by decide +kernel
theorem dX6_costOfAll_84 : decode cX6_costOfAll 84 = .ok (.imul, 1) := by decide +kernel
theorem dX6_costOfAll_85 : decode cX6_costOfAll 85 = .ok (.iadd, 1) := by decide +kernel
theorem dX6_costOfAll_86 : decode cX6_costOfAll 86 = .ok (.istore_n 3, 1) := by decide +kernel
theorem dX6_costOfAll_87 : decode cX6_costOfAll 87 = .ok (.iinc 4 1, 3) := by decide +kernel
theorem dX6_costOfAll_90 : decode cX6_costOfAll 90 = .ok (.goto (-85), 3) := by decide +kernel
theorem dX6_costOfAll_93 : decode cX6_costOfAll 93 = .ok (.iload_n 3, 1) := by decide +kernel
theorem dX6_costOfAll_94 : decode cX6_costOfAll 94 = .ok (.ireturn, 1) := by decide +kernel
abbrev rmX6_costOfAll : Room := { frames := 2, cells := 0, slots := 0, locals := 49 }
set_option maxHeartbeats 4000000 in
set_option maxRecDepth 100000 in
theorem wX6_costOfAll_5 (Cx : ms_C p s m args meth c D cA a shX cX6_costOfAll 8 RX6 (some .int)) (out : Int32) {σ : Mm} : ∀ (n : Nat), ∀ (y1 : Int32) (y2 : Int32) (y3 : Int32) (y4 : Int32) , ∀ (H : Heap) (locs : List Loc) (ls : Array Slot), ms_I D cA a shX s σ H locs → lv_has ls 8 [(0, .ref (a 7)), (1, .int y1), (2, .int y2), (3, .int y3), (4, .int y4)] → fX6_costOfAll_5 σ n y1 y2 y3 y4 = some out → W p l e rmX6_costOfAll s m args below meth c H locs 0 0 (MQ below (ms_Qi D cA a shX out σ) args s 0 0 (ms_A a shX.length)) (F0 m 5 ls []) := by
  have hx := Cx.1
  have hb := Cx.2.1
  intro n
  induction n with
  | zero =>
    intro y1 y2 y3 y4 H locs ls hI hl h
    exact nomatch (show none = some out from h)
  | succ n ih =>
    intro y1 y2 y3 y4 H locs ls hI hl h
    rw [fX6_costOfAll_5] at h
    refine lv_iload hx hb dX6_costOfAll_5 (lv_at hl 4 rfl) ?_
    refine lv_aload_n hx hb dX6_costOfAll_7 rfl (lv_at hl 0 rfl) ?_
    refine gr_X6_0 Cx hI wd_3_20 dX6_costOfAll_8 ?_
    refine gi_X4_5 Cx hI wd_19_12 dX6_costOfAll_11 ?_
    refine lv_icmp_ge (tgt := 93) hx hb dX6_costOfAll_14 rfl (fun hc => ?_) (fun hc => ?_)
    · have h := ms_ifT hc h
      refine lv_iload_n hx hb dX6_costOfAll_93 rfl (lv_at hl 3 rfl) ?_
      exact ms_ri Cx hI (Option.some.inj h) rfl dX6_costOfAll_94
    · have h := ms_ifF hc h
      refine lv_aload_n hx hb dX6_costOfAll_17 rfl (lv_at hl 0 rfl) ?_
      refine lv_iload hx hb dX6_costOfAll_18 (lv_at hl 4 rfl) ?_
      refine lv_iload_n hx hb dX6_costOfAll_20 rfl (lv_at hl 1 rfl) ?_
      refine lv_iload_n hx hb dX6_costOfAll_21 rfl (lv_at hl 2 rfl) ?_
      obtain ⟨r2, hc1, h⟩ := ms_bdE h
      refine kX6_sideOf Cx hI hc1 wd_19_13 (Nat.le_of_ble_eq_true rfl) (Nat.le_of_ble_eq_true rfl) hl.1 (Nat.le_of_ble_eq_true rfl) dX6_costOfAll_22 (fun H locs hI => ?_)
      refine lv_istore (lv' := [(5, .int r2), (0, .ref (a 7)), (1, .int y1), (2, .int y2), (3, .int y3), (4, .int y4)]) hx hb dX6_costOfAll_25 hl (by decide) rfl (fun ls hl => ?_)
      refine lv_iload_n hx hb dX6_costOfAll_27 rfl (lv_at hl 2 rfl) ?_
      refine lv_aload_n hx hb dX6_costOfAll_28 rfl (lv_at hl 1 rfl) ?_
      refine gr_X6_0 Cx hI wd_3_20 dX6_costOfAll_29 ?_
      refine lv_iload hx hb dX6_costOfAll_32 (lv_at hl 5 rfl) ?_
      refine lv_iconst (v := 2) hx hb dX6_costOfAll_34 rfl ?_
      refine lv_iload hx hb dX6_costOfAll_35 (lv_at hl 0 rfl) ?_
      refine lv_iadd hx hb dX6_costOfAll_37 ?_
      obtain ⟨r4, hc3, h⟩ := ms_bdE h
      refine kX4_ofGroup Cx hI hc3 wd_18_11 (Nat.le_of_ble_eq_true rfl) (Nat.le_of_ble_eq_true rfl) hl.1 (Nat.le_of_ble_eq_true rfl) dX6_costOfAll_38 (fun H locs hI => ?_)
      obtain ⟨r6, hc5, h⟩ := ms_bdE h
      refine kX7_bit Cx hI hc5 (Or.inr nq_8) (Nat.le_of_ble_eq_true rfl) (Nat.le_of_ble_eq_true rfl) hl.1 (Nat.le_of_ble_eq_true rfl) dX6_costOfAll_41 (fun H locs hI => ?_)
      refine lv_istore (lv' := [(6, .int r6), (5, .int r2), (0, .ref (a 7)), (1, .int y1), (2, .int y2), (3, .int y3), (4, .int y4)]) hx hb dX6_costOfAll_44 hl (by decide) rfl (fun ls hl => ?_)
      refine lv_aload_n hx hb dX6_costOfAll_46 rfl (lv_at hl 2 rfl) ?_
      refine gr_X6_0 Cx hI wd_3_20 dX6_costOfAll_47 ?_
      refine lv_iload hx hb dX6_costOfAll_50 (lv_at hl 6 rfl) ?_
      refine lv_iconst (v := 4) hx hb dX6_costOfAll_52 rfl ?_
      refine lv_iload hx hb dX6_costOfAll_53 (lv_at hl 1 rfl) ?_
      refine lv_iadd hx hb dX6_costOfAll_55 ?_
      obtain ⟨r8, hc7, h⟩ := ms_bdE h
      refine kX4_ofGroup Cx hI hc7 wd_18_11 (Nat.le_of_ble_eq_true rfl) (Nat.le_of_ble_eq_true rfl) hl.1 (Nat.le_of_ble_eq_true rfl) dX6_costOfAll_56 (fun H locs hI => ?_)
      refine lv_iload hx hb dX6_costOfAll_59 (lv_at hl 0 rfl) ?_
      refine lv_aload_n hx hb dX6_costOfAll_61 rfl (lv_at hl 2 rfl) ?_
      refine gr_X6_1 Cx hI wd_3_21 dX6_costOfAll_62 ?_
      refine lv_iconst (v := 4) hx hb dX6_costOfAll_65 rfl ?_
      obtain ⟨hg, h⟩ := ms_gE h
      refine ms_ld Cx hI 5 shX_5 hg dX6_costOfAll_66 ?_
      refine lv_imul hx hb dX6_costOfAll_67 ?_
      refine lv_iadd hx hb dX6_costOfAll_68 ?_
      refine lv_topi (fun x9 ex9 => ?_)
      have h := ms_ltE ex9 h
      refine lv_istore (lv' := [(7, .int x9), (6, .int r6), (5, .int r2), (0, .ref (a 7)), (1, .int y1), (2, .int y2), (3, .int y3), (4, .int y4)]) hx hb dX6_costOfAll_69 hl (by decide) rfl (fun ls hl => ?_)
      refine lv_iload_n hx hb dX6_costOfAll_71 rfl (lv_at hl 6 rfl) ?_
      refine lv_aload_n hx hb dX6_costOfAll_72 rfl (lv_at hl 3 rfl) ?_
      refine gr_X6_0 Cx hI wd_3_20 dX6_costOfAll_73 ?_
      refine lv_iload hx hb dX6_costOfAll_76 (lv_at hl 7 rfl) ?_
      refine lv_iconst (v := 0) hx hb dX6_costOfAll_78 rfl ?_
      obtain ⟨r11, hc10, h⟩ := ms_bdE h
      refine kX4_ofGroup Cx hI hc10 wd_18_11 (Nat.le_of_ble_eq_true rfl) (Nat.le_of_ble_eq_true rfl) hl.1 (Nat.le_of_ble_eq_true rfl) dX6_costOfAll_79 (fun H locs hI => ?_)
      refine lv_iload hx hb dX6_costOfAll_82 (lv_at hl 0 rfl) ?_
      refine lv_imul hx hb dX6_costOfAll_84 ?_
      refine lv_iadd hx hb dX6_costOfAll_85 ?_
      refine lv_istore_n (lv' := [(3, .int (y3 + (r11 * x9))), (7, .int x9), (6, .int r6), (5, .int r2), (0, .ref (a 7)), (1, .int y1), (2, .int y2), (4, .int y4)]) hx hb dX6_costOfAll_86 rfl hl (by decide) rfl (fun ls hl => ?_)
      refine lv_iinc (v := y4 + 1) (lv' := [(4, .int (y4 + 1)), (3, .int (y3 + (r11 * x9))), (7, .int x9), (6, .int r6), (5, .int r2), (0, .ref (a 7)), (1, .int y1), (2, .int y2)]) hx hb dX6_costOfAll_87 hl (k := 7) rfl rfl (by decide) rfl (fun ls hl => ?_)
      refine lv_goto (tgt := 5) hx hb dX6_costOfAll_90 rfl ?_
      exact ih y1 y2 (y3 + (r11 * x9)) (y4 + 1) _ _ _ hI (lv_sub hl [5, 6, 7, 1, 0] rfl) h
set_option maxHeartbeats 4000000 in
set_option maxRecDepth 100000 in
theorem wX6_costOfAll (Cx : ms_C p s m args meth c D cA a shX cX6_costOfAll 8 RX6 (some .int)) (out : Int32) {σ : Mm} : ∀ (p0 : Int32) (p1 : Int32) , ∀ (H : Heap) (locs : List Loc) (ls : Array Slot), ms_I D cA a shX s σ H locs → lv_has ls 8 [(0, .ref (a 7)), (1, .int p0), (2, .int p1)] → fX6_costOfAll σ p0 p1 = some out → W p l e rmX6_costOfAll s m args below meth c H locs 0 0 (MQ below (ms_Qi D cA a shX out σ) args s 0 0 (ms_A a shX.length)) (F0 m 0 ls []) := by
  have hx := Cx.1
  have hb := Cx.2.1
  intro p0 p1 H locs ls hI hl h
  unfold fX6_costOfAll at h
  refine lv_iconst (v := 0) hx hb dX6_costOfAll_0 rfl ?_
  refine lv_istore_n (lv' := [(3, .int 0), (0, .ref (a 7)), (1, .int p0), (2, .int p1)]) hx hb dX6_costOfAll_1 rfl hl (by decide) rfl (fun ls hl => ?_)
  refine lv_iconst (v := 0) hx hb dX6_costOfAll_2 rfl ?_
  refine lv_istore (lv' := [(4, .int 0), (3, .int 0), (0, .ref (a 7)), (1, .int p0), (2, .int p1)]) hx hb dX6_costOfAll_3 hl (by decide) rfl (fun ls hl => ?_)
  exact wX6_costOfAll_5 Cx out  ms_fu p0 p1 0 0 _ _ _ hI (lv_sub hl [2, 3, 4, 1, 0] rfl) h
theorem yvX6_costOfAll : ms_YV yX6_costOfAll RX6 cX6_costOfAll 8 (some .int) 2 := ⟨wd_19_9, wd_19_10, wd_2_5, wd_19_11, rfl, by decide +kernel, by decide +kernel, by decide +kernel⟩
set_option maxHeartbeats 4000000 in
theorem metX6_costOfAll (l : Launch) (hDis : ms_Dis a shX.length) {σ : Mm} {p0 : Int32} {p1 : Int32} {out : Int32} (h : fX6_costOfAll σ p0 p1 = some out) : Met l yX6_costOfAll (.code yX6_costOfAll cX6_costOfAll 8 (some .int) :: wsL_law) rmX6_costOfAll (ms_Pc D cA a shX [.ref (a 7), .int p0, .int p1] σ) (ms_Qi D cA a shX out σ) 0 0 (ms_A a shX.length) := by
  refine Met.ofW (cc := cX6_costOfAll) (maxL := 8) (ret := (some .int)) (by decide) rfl ?_
  intro p e s m args below meth c s₁ B hml hv
  obtain ⟨rfl, hK, hN, hP⟩ := hv
  have hl := lv_entry ([.ref (a 7), .int p0, .int p1]) (n := 8) (Nat.le_of_ble_eq_true rfl)
  rw [lg_entry_eq]
  generalize (lg_sl ([.ref (a 7), .int p0, .int p1]) ++ List.replicate (8 - (lg_sl ([.ref (a 7), .int p0, .int p1])).length) Slot.unset).toArray = ls at hl ⊢
  exact wX6_costOfAll ⟨B.exec, B.bytes, hml, findClass_of_methodNamed B.named, fun w hw => atoms_spec (ws := .code yX6_costOfAll cX6_costOfAll 8 (some .int) :: wsL_law) B.pre w (List.mem_cons_of_mem _ hw), B.returns, B.notSynchronized, hK, hDis, hN⟩ out p0 p1 s.heap [] ls ⟨hP, va_S.rf⟩ hl h
theorem kX6_costOfAll (Cx : ms_C p s m args meth c D cA a shX cc nL own ret) {σ : Mm} {H : Heap} {locs : List Loc} (hI : ms_I D cA a shX s σ H locs) {p0 : Int32} {p1 : Int32} {out : Int32} (h : fX6_costOfAll σ p0 p1 = some out) (hl : Cond.methodLink own idx yX6_costOfAll ∈ wsL_law) (hf : 2 + 1 ≤ R.frames) (hlo : 8 + (8 + 11) + 49 ≤ R.locals) (hsz : ls.size = nL) (hW : (rest.map fun v => v.category).sum ≤ 8) (hd : decode cc pc = .ok (.invokevirtual idx, 3)) (kk : ∀ (H1 : Heap) (locs1 : List Loc), ms_I D cA a shX s σ H1 locs1 → W p l e R s m args below meth c H1 locs1 0 0 Q (F0 m (pc + 3) ls (.int out :: rest))) : W p l e R s m args below meth c H locs 0 0 Q (F0 m pc ls (.int p1 :: .int p0 :: .ref (a 7) :: rest)) :=
  ms_ci hI (ms_runV (av := [.int p0, .int p1]) Cx hI 7 shX_7 (ci := 6) rfl rfl yvX6_costOfAll (metX6_costOfAll l Cx.2.2.2.2.2.2.2.2.1  h) ⟨rfl, rfl⟩ hl ⟨hf, hlo⟩ rfl hsz rfl hW ⟨Nat.zero_le _, Nat.zero_le _⟩ hd) kk
/-! X6 windingOfGroup (II)I -/
theorem dX6_windingOfGroup_0 : decode cX6_windingOfGroup 0 = .ok (.aload_n 0, 1) := by decide +kernel
theorem dX6_windingOfGroup_1 : decode cX6_windingOfGroup 1 = .ok (.iload_n 1, 1) := by decide +kernel
theorem dX6_windingOfGroup_2 : decode cX6_windingOfGroup 2 = .ok (.iload_n 2, 1) := by decide +kernel
theorem dX6_windingOfGroup_3 : decode cX6_windingOfGroup 3 = .ok (.aload_n 0, 1) := by decide +kernel
theorem dX6_windingOfGroup_4 : decode cX6_windingOfGroup 4 = .ok (.getfield 15, 3) := by decide +kernel
theorem dX6_windingOfGroup_7 : decode cX6_windingOfGroup 7 = .ok (.iconst 5, 1) := by decide +kernel
theorem dX6_windingOfGroup_8 : decode cX6_windingOfGroup 8 = .ok (.iaload, 1) := by decide +kernel
theorem dX6_windingOfGroup_9 : decode cX6_windingOfGroup 9 = .ok (.invokevirtual 32, 3) := by decide +kernel
theorem dX6_windingOfGroup_12 : decode cX6_windingOfGroup 12 = .ok (.istore_n 3, 1) := by decide +kernel
theorem dX6_windingOfGroup_13 : decode cX6_windingOfGroup 13 = .ok (.iload_n 2, 1) := by decide +kernel
theorem dX6_windingOfGroup_14 : decode cX6_windingOfGroup 14 = .ok (.aload_n 0, 1) := by decide +kernel
theorem dX6_windingOfGroup_15 : decode cX6_windingOfGroup 15 = .ok (.getfield 9, 3) := by decide +kernel
theorem dX6_windingOfGroup_18 : decode cX6_windingOfGroup 18 = .ok (.iload_n 1, 1) := by decide +kernel
theorem dX6_windingOfGroup_19 : decode cX6_windingOfGroup 19 = .ok (.iconst 2, 1) := by decide +kernel
theorem dX6_windingOfGroup_20 : decode cX6_windingOfGroup 20 = .ok (.iload_n 3, 1) := by decide +kernel
theorem dX6_windingOfGroup_21 : decode cX6_windingOfGroup 21 = .ok (.iadd, 1) := by decide +kernel
theorem dX6_windingOfGroup_22 : decode cX6_windingOfGroup 22 = .ok (.invokevirtual 19, 3) := by decide +kernel
theorem dX6_windingOfGroup_25 : decode cX6_windingOfGroup 25 = .ok (.invokestatic 25, 3) := by decide +kernel
theorem dX6_windingOfGroup_28 : decode cX6_windingOfGroup 28 = .ok (.istore 4, 2) := by decide +kernel
theorem dX6_windingOfGroup_30 : decode cX6_windingOfGroup 30 = .ok (.iload 4, 2) := by decide +kernel
theorem dX6_windingOfGroup_32 : decode cX6_windingOfGroup 32 = .ok (.aload_n 0, 1) := by decide +kernel
theorem dX6_windingOfGroup_33 : decode cX6_windingOfGroup 33 = .ok (.getfield 15, 3) := by decide +kernel
theorem dX6_windingOfGroup_36 : decode cX6_windingOfGroup 36 = .ok (.iconst 0, 1) := by decide +kernel
theorem dX6_windingOfGroup_37 : decode cX6_windingOfGroup 37 = .ok (.iaload, 1) := by decide +kernel
theorem dX6_windingOfGroup_38 : decode cX6_windingOfGroup 38 = .ok (.imul, 1) := by decide +kernel
theorem dX6_windingOfGroup_39 : decode cX6_windingOfGroup 39 = .ok (.aload_n 0, 1) := by decide +kernel
theorem dX6_windingOfGroup_40 : decode cX6_windingOfGroup 40 = .ok (.getfield 9, 3) := by decide +kernel
theorem dX6_windingOfGroup_43 : decode cX6_windingOfGroup 43 = .ok (.iload_n 1, 1) := by decide +kernel
theorem dX6_windingOfGroup_44 : decode cX6_windingOfGroup 44 = .ok (.iconst 0, 1) := by decide +kernel
theorem dX6_windingOfGroup_45 : decode cX6_windingOfGroup 45 = .ok (.invokevirtual 19, 3) := by decide +kernel
theorem dX6_windingOfGroup_48 : decode cX6_windingOfGroup 48 = .ok (.imul, 1) := by decide +kernel
theorem dX6_windingOfGroup_49 : decode cX6_windingOfGroup 49 = .ok (.ireturn, 1) := by decide +kernel
abbrev rmX6_windingOfGroup : Room := { frames := 2, cells := 0, slots := 0, locals := 49 }
set_option maxHeartbeats 4000000 in
set_option maxRecDepth 100000 in
theorem wX6_windingOfGroup (Cx : ms_C p s m args meth c D cA a shX cX6_windingOfGroup 5 RX6 (some .int)) (out : Int32) {σ : Mm} : ∀ (p0 : Int32) (p1 : Int32) , ∀ (H : Heap) (locs : List Loc) (ls : Array Slot), ms_I D cA a shX s σ H locs → lv_has ls 5 [(0, .ref (a 7)), (1, .int p0), (2, .int p1)] → fX6_windingOfGroup σ p0 p1 = some out → W p l e rmX6_windingOfGroup s m args below meth c H locs 0 0 (MQ below (ms_Qi D cA a shX out σ) args s 0 0 (ms_A a shX.length)) (F0 m 0 ls []) := by
  have hx := Cx.1
  have hb := Cx.2.1
  intro p0 p1 H locs ls hI hl h
  unfold fX6_windingOfGroup at h
  refine lv_aload_n hx hb dX6_windingOfGroup_0 rfl (lv_at hl 0 rfl) ?_
  refine lv_iload_n hx hb dX6_windingOfGroup_1 rfl (lv_at hl 1 rfl) ?_
  refine lv_iload_n hx hb dX6_windingOfGroup_2 rfl (lv_at hl 2 rfl) ?_
  refine lv_aload_n hx hb dX6_windingOfGroup_3 rfl (lv_at hl 0 rfl) ?_
  refine gr_X6_1 Cx hI wd_3_21 dX6_windingOfGroup_4 ?_
  refine lv_iconst (v := 5) hx hb dX6_windingOfGroup_7 rfl ?_
  obtain ⟨hg, h⟩ := ms_gE h
  refine ms_ld Cx hI 5 shX_5 hg dX6_windingOfGroup_8 ?_
  obtain ⟨r2, hc1, h⟩ := ms_bdE h
  refine kX6_sideOf Cx hI hc1 wd_19_13 (Nat.le_of_ble_eq_true rfl) (Nat.le_of_ble_eq_true rfl) hl.1 (Nat.le_of_ble_eq_true rfl) dX6_windingOfGroup_9 (fun H locs hI => ?_)
  refine lv_istore_n (lv' := [(3, .int r2), (0, .ref (a 7)), (1, .int p0), (2, .int p1)]) hx hb dX6_windingOfGroup_12 rfl hl (by decide) rfl (fun ls hl => ?_)
  refine lv_iload_n hx hb dX6_windingOfGroup_13 rfl (lv_at hl 3 rfl) ?_
  refine lv_aload_n hx hb dX6_windingOfGroup_14 rfl (lv_at hl 1 rfl) ?_
  refine gr_X6_0 Cx hI wd_3_20 dX6_windingOfGroup_15 ?_
  refine lv_iload_n hx hb dX6_windingOfGroup_18 rfl (lv_at hl 2 rfl) ?_
  refine lv_iconst (v := 2) hx hb dX6_windingOfGroup_19 rfl ?_
  refine lv_iload_n hx hb dX6_windingOfGroup_20 rfl (lv_at hl 0 rfl) ?_
  refine lv_iadd hx hb dX6_windingOfGroup_21 ?_
  obtain ⟨r4, hc3, h⟩ := ms_bdE h
  refine kX4_ofGroup Cx hI hc3 wd_18_11 (Nat.le_of_ble_eq_true rfl) (Nat.le_of_ble_eq_true rfl) hl.1 (Nat.le_of_ble_eq_true rfl) dX6_windingOfGroup_22 (fun H locs hI => ?_)
  obtain ⟨r6, hc5, h⟩ := ms_bdE h
  refine kX7_bit Cx hI hc5 (Or.inr nq_8) (Nat.le_of_ble_eq_true rfl) (Nat.le_of_ble_eq_true rfl) hl.1 (Nat.le_of_ble_eq_true rfl) dX6_windingOfGroup_25 (fun H locs hI => ?_)
  refine lv_istore (lv' := [(4, .int r6), (3, .int r2), (0, .ref (a 7)), (1, .int p0), (2, .int p1)]) hx hb dX6_windingOfGroup_28 hl (by decide) rfl (fun ls hl => ?_)
  refine lv_iload hx hb dX6_windingOfGroup_30 (lv_at hl 0 rfl) ?_
  refine lv_aload_n hx hb dX6_windingOfGroup_32 rfl (lv_at hl 2 rfl) ?_
  refine gr_X6_1 Cx hI wd_3_21 dX6_windingOfGroup_33 ?_
  refine lv_iconst (v := 0) hx hb dX6_windingOfGroup_36 rfl ?_
  obtain ⟨hg, h⟩ := ms_gE h
  refine ms_ld Cx hI 5 shX_5 hg dX6_windingOfGroup_37 ?_
  refine lv_imul hx hb dX6_windingOfGroup_38 ?_
  refine lv_aload_n hx hb dX6_windingOfGroup_39 rfl (lv_at hl 2 rfl) ?_
  refine gr_X6_0 Cx hI wd_3_20 dX6_windingOfGroup_40 ?_
  refine lv_iload_n hx hb dX6_windingOfGroup_43 rfl (lv_at hl 3 rfl) ?_
  refine lv_iconst (v := 0) hx hb dX6_windingOfGroup_44 rfl ?_
  obtain ⟨r8, hc7, h⟩ := ms_bdE h
  refine kX4_ofGroup Cx hI hc7 wd_18_11 (Nat.le_of_ble_eq_true rfl) (Nat.le_of_ble_eq_true rfl) hl.1 (Nat.le_of_ble_eq_true rfl) dX6_windingOfGroup_45 (fun H locs hI => ?_)
  refine lv_imul hx hb dX6_windingOfGroup_48 ?_
  exact ms_ri Cx hI (Option.some.inj h) rfl dX6_windingOfGroup_49
theorem yvX6_windingOfGroup : ms_YV yX6_windingOfGroup RX6 cX6_windingOfGroup 5 (some .int) 2 := ⟨wd_20_7, wd_20_8, wd_2_5, wd_20_9, rfl, by decide +kernel, by decide +kernel, by decide +kernel⟩
set_option maxHeartbeats 4000000 in
theorem metX6_windingOfGroup (l : Launch) (hDis : ms_Dis a shX.length) {σ : Mm} {p0 : Int32} {p1 : Int32} {out : Int32} (h : fX6_windingOfGroup σ p0 p1 = some out) : Met l yX6_windingOfGroup (.code yX6_windingOfGroup cX6_windingOfGroup 5 (some .int) :: wsL_law) rmX6_windingOfGroup (ms_Pc D cA a shX [.ref (a 7), .int p0, .int p1] σ) (ms_Qi D cA a shX out σ) 0 0 (ms_A a shX.length) := by
  refine Met.ofW (cc := cX6_windingOfGroup) (maxL := 5) (ret := (some .int)) (by decide) rfl ?_
  intro p e s m args below meth c s₁ B hml hv
  obtain ⟨rfl, hK, hN, hP⟩ := hv
  have hl := lv_entry ([.ref (a 7), .int p0, .int p1]) (n := 5) (Nat.le_of_ble_eq_true rfl)
  rw [lg_entry_eq]
  generalize (lg_sl ([.ref (a 7), .int p0, .int p1]) ++ List.replicate (5 - (lg_sl ([.ref (a 7), .int p0, .int p1])).length) Slot.unset).toArray = ls at hl ⊢
  exact wX6_windingOfGroup ⟨B.exec, B.bytes, hml, findClass_of_methodNamed B.named, fun w hw => atoms_spec (ws := .code yX6_windingOfGroup cX6_windingOfGroup 5 (some .int) :: wsL_law) B.pre w (List.mem_cons_of_mem _ hw), B.returns, B.notSynchronized, hK, hDis, hN⟩ out p0 p1 s.heap [] ls ⟨hP, va_S.rf⟩ hl h
theorem kX6_windingOfGroup (Cx : ms_C p s m args meth c D cA a shX cc nL own ret) {σ : Mm} {H : Heap} {locs : List Loc} (hI : ms_I D cA a shX s σ H locs) {p0 : Int32} {p1 : Int32} {out : Int32} (h : fX6_windingOfGroup σ p0 p1 = some out) (hl : Cond.methodLink own idx yX6_windingOfGroup ∈ wsL_law) (hf : 2 + 1 ≤ R.frames) (hlo : 8 + (5 + 11) + 49 ≤ R.locals) (hsz : ls.size = nL) (hW : (rest.map fun v => v.category).sum ≤ 8) (hd : decode cc pc = .ok (.invokevirtual idx, 3)) (kk : ∀ (H1 : Heap) (locs1 : List Loc), ms_I D cA a shX s σ H1 locs1 → W p l e R s m args below meth c H1 locs1 0 0 Q (F0 m (pc + 3) ls (.int out :: rest))) : W p l e R s m args below meth c H locs 0 0 Q (F0 m pc ls (.int p1 :: .int p0 :: .ref (a 7) :: rest)) :=
  ms_ci hI (ms_runV (av := [.int p0, .int p1]) Cx hI 7 shX_7 (ci := 6) rfl rfl yvX6_windingOfGroup (metX6_windingOfGroup l Cx.2.2.2.2.2.2.2.2.1  h) ⟨rfl, rfl⟩ hl ⟨hf, hlo⟩ rfl hsz rfl hW ⟨Nat.zero_le _, Nat.zero_le _⟩ hd) kk
/-! X6 windingOf (II)I -/
theorem dX6_windingOf_0 : decode cX6_windingOf 0 = .ok (.iconst 0, 1) := by decide +kernel
theorem dX6_windingOf_1 : decode cX6_windingOf 1 = .ok (.istore_n 3, 1) := by decide +kernel
theorem dX6_windingOf_2 : decode cX6_windingOf 2 = .ok (.iconst 0, 1) := by decide +kernel
theorem dX6_windingOf_3 : decode cX6_windingOf 3 = .ok (.istore 4, 2) := by decide +kernel
theorem dX6_windingOf_5 : decode cX6_windingOf 5 = .ok (.iload 4, 2) := by decide +kernel
theorem dX6_windingOf_7 : decode cX6_windingOf 7 = .ok (.aload_n 0, 1) := by decide +kernel
theorem dX6_windingOf_8 : decode cX6_windingOf 8 = .ok (.getfield 9, 3) := by decide +kernel
theorem dX6_windingOf_11 : decode cX6_windingOf 11 = .ok (.getfield 28, 3) := by decide +kernel
theorem dX6_windingOf_14 : decode cX6_windingOf 14 = .ok (.if_icmp .ge 33, 3) := by decide +kernel
theorem dX6_windingOf_17 : decode cX6_windingOf 17 = .ok (.aload_n 0, 1) := by decide +kernel
theorem dX6_windingOf_18 : decode cX6_windingOf 18 = .ok (.getfield 9, 3) := by decide +kernel
theorem dX6_windingOf_21 : decode cX6_windingOf 21 = .ok (.iload 4, 2) := by decide +kernel
theorem dX6_windingOf_23 : decode cX6_windingOf 23 = .ok (.iconst 1, 1) := by decide +kernel
theorem dX6_windingOf_24 : decode cX6_windingOf 24 = .ok (.invokevirtual 19, 3) := by decide +kernel
theorem dX6_windingOf_27 : decode cX6_windingOf 27 = .ok (.iload_n 1, 1) := by decide +kernel
theorem dX6_windingOf_28 : decode cX6_windingOf 28 = .ok (.if_icmp .ne 13, 3) := by decide +kernel
theorem dX6_windingOf_31 : decode cX6_windingOf 31 = .ok (.iload_n 3, 1) := by decide +kernel
theorem dX6_windingOf_32 : decode cX6_windingOf 32 = .ok (.aload_n 0, 1) := by decide +kernel
theorem dX6_windingOf_33 : decode cX6_windingOf 33 = .ok (.iload 4, 2) := by decide +kernel
theorem dX6_windingOf_35 : decode cX6_windingOf 35 = .ok (.iload_n 2, 1) := by decide +kernel
theorem dX6_windingOf_36 : decode cX6_windingOf 36 = .ok (.invokevirtual 36, 3) := by decide +kernel
theorem dX6_windingOf_39 : decode cX6_windingOf 39 = .ok (.iadd, 1) := by decide +kernel
theorem dX6_windingOf_40 : decode cX6_windingOf 40 = .ok (.istore_n 3, 1) := by decide +kernel
theorem dX6_windingOf_41 : decode cX6_windingOf 41 = .ok (.iinc 4 1, 3) := by decide +kernel
theorem dX6_windingOf_44 : decode cX6_windingOf 44 = .ok (.goto (-39), 3) := by decide +kernel
theorem dX6_windingOf_47 : decode cX6_windingOf 47 = .ok (.iload_n 3, 1) := by decide +kernel
theorem dX6_windingOf_48 : decode cX6_windingOf 48 = .ok (.ireturn, 1) := by decide +kernel
abbrev rmX6_windingOf : Room := { frames := 3, cells := 0, slots := 0, locals := 73 }
set_option maxHeartbeats 4000000 in
set_option maxRecDepth 100000 in
theorem wX6_windingOf_41 (Cx : ms_C p s m args meth c D cA a shX cX6_windingOf 5 RX6 (some .int)) (out : Int32) {σ : Mm} (K5 : Int32 → Int32 → Int32 → Int32 → Option (Int32)) (hK5 : ∀ (y1 : Int32) (y2 : Int32) (y3 : Int32) (y4 : Int32) , ∀ (H : Heap) (locs : List Loc) (ls : Array Slot), ms_I D cA a shX s σ H locs → lv_has ls 5 [(0, .ref (a 7)), (1, .int y1), (2, .int y2), (3, .int y3), (4, .int y4)] → K5 y1 y2 y3 y4 = some out → W p l e rmX6_windingOf s m args below meth c H locs 0 0 (MQ below (ms_Qi D cA a shX out σ) args s 0 0 (ms_A a shX.length)) (F0 m 5 ls [])) : ∀ (y1 : Int32) (y2 : Int32) (y3 : Int32) (y4 : Int32) , ∀ (H : Heap) (locs : List Loc) (ls : Array Slot), ms_I D cA a shX s σ H locs → lv_has ls 5 [(0, .ref (a 7)), (1, .int y1), (2, .int y2), (3, .int y3), (4, .int y4)] → fX6_windingOf_41 σ K5 y1 y2 y3 y4 = some out → W p l e rmX6_windingOf s m args below meth c H locs 0 0 (MQ below (ms_Qi D cA a shX out σ) args s 0 0 (ms_A a shX.length)) (F0 m 41 ls []) := by
  have hx := Cx.1
  have hb := Cx.2.1
  intro y1 y2 y3 y4 H locs ls hI hl h
  unfold fX6_windingOf_41 at h
  refine lv_iinc (v := y4 + 1) (lv' := [(4, .int (y4 + 1)), (0, .ref (a 7)), (1, .int y1), (2, .int y2), (3, .int y3)]) hx hb dX6_windingOf_41 hl (k := 4) rfl rfl (by decide) rfl (fun ls hl => ?_)
  refine lv_goto (tgt := 5) hx hb dX6_windingOf_44 rfl ?_
  exact hK5 y1 y2 y3 (y4 + 1) _ _ _ hI (lv_sub hl [1, 2, 3, 4, 0] rfl) h
set_option maxHeartbeats 4000000 in
set_option maxRecDepth 100000 in
theorem wX6_windingOf_5 (Cx : ms_C p s m args meth c D cA a shX cX6_windingOf 5 RX6 (some .int)) (out : Int32) {σ : Mm} : ∀ (n : Nat), ∀ (y1 : Int32) (y2 : Int32) (y3 : Int32) (y4 : Int32) , ∀ (H : Heap) (locs : List Loc) (ls : Array Slot), ms_I D cA a shX s σ H locs → lv_has ls 5 [(0, .ref (a 7)), (1, .int y1), (2, .int y2), (3, .int y3), (4, .int y4)] → fX6_windingOf_5 σ n y1 y2 y3 y4 = some out → W p l e rmX6_windingOf s m args below meth c H locs 0 0 (MQ below (ms_Qi D cA a shX out σ) args s 0 0 (ms_A a shX.length)) (F0 m 5 ls []) := by
  have hx := Cx.1
  have hb := Cx.2.1
  intro n
  induction n with
  | zero =>
    intro y1 y2 y3 y4 H locs ls hI hl h
    exact nomatch (show none = some out from h)
  | succ n ih =>
    intro y1 y2 y3 y4 H locs ls hI hl h
    rw [fX6_windingOf_5] at h
    refine lv_iload hx hb dX6_windingOf_5 (lv_at hl 4 rfl) ?_
    refine lv_aload_n hx hb dX6_windingOf_7 rfl (lv_at hl 0 rfl) ?_
    refine gr_X6_0 Cx hI wd_3_20 dX6_windingOf_8 ?_
    refine gi_X4_5 Cx hI wd_19_12 dX6_windingOf_11 ?_
    refine lv_icmp_ge (tgt := 47) hx hb dX6_windingOf_14 rfl (fun hc => ?_) (fun hc => ?_)
    · have h := ms_ifT hc h
      refine lv_iload_n hx hb dX6_windingOf_47 rfl (lv_at hl 3 rfl) ?_
      exact ms_ri Cx hI (Option.some.inj h) rfl dX6_windingOf_48
    · have h := ms_ifF hc h
      refine lv_aload_n hx hb dX6_windingOf_17 rfl (lv_at hl 0 rfl) ?_
      refine gr_X6_0 Cx hI wd_3_20 dX6_windingOf_18 ?_
      refine lv_iload hx hb dX6_windingOf_21 (lv_at hl 4 rfl) ?_
      refine lv_iconst (v := 1) hx hb dX6_windingOf_23 rfl ?_
      obtain ⟨r2, hc1, h⟩ := ms_bdE h
      refine kX4_ofGroup Cx hI hc1 wd_18_11 (Nat.le_of_ble_eq_true rfl) (Nat.le_of_ble_eq_true rfl) hl.1 (Nat.le_of_ble_eq_true rfl) dX6_windingOf_24 (fun H locs hI => ?_)
      refine lv_iload_n hx hb dX6_windingOf_27 rfl (lv_at hl 1 rfl) ?_
      refine lv_icmp_ne (tgt := 41) hx hb dX6_windingOf_28 rfl (fun hc => ?_) (fun hc => ?_)
      · have h := ms_ifF hc h
        exact wX6_windingOf_41 Cx out (fX6_windingOf_5 σ n) ih y1 y2 y3 y4 _ _ _ hI (lv_sub hl [0, 1, 2, 3, 4] rfl) h
      · have h := ms_ifT hc h
        refine lv_iload_n hx hb dX6_windingOf_31 rfl (lv_at hl 3 rfl) ?_
        refine lv_aload_n hx hb dX6_windingOf_32 rfl (lv_at hl 0 rfl) ?_
        refine lv_iload hx hb dX6_windingOf_33 (lv_at hl 4 rfl) ?_
        refine lv_iload_n hx hb dX6_windingOf_35 rfl (lv_at hl 2 rfl) ?_
        obtain ⟨r4, hc3, h⟩ := ms_bdE h
        refine kX6_windingOfGroup Cx hI hc3 wd_20_6 (Nat.le_of_ble_eq_true rfl) (Nat.le_of_ble_eq_true rfl) hl.1 (Nat.le_of_ble_eq_true rfl) dX6_windingOf_36 (fun H locs hI => ?_)
        refine lv_iadd hx hb dX6_windingOf_39 ?_
        refine lv_istore_n (lv' := [(3, .int (y3 + r4)), (0, .ref (a 7)), (1, .int y1), (2, .int y2), (4, .int y4)]) hx hb dX6_windingOf_40 rfl hl (by decide) rfl (fun ls hl => ?_)
        exact wX6_windingOf_41 Cx out (fX6_windingOf_5 σ n) ih y1 y2 (y3 + r4) y4 _ _ _ hI (lv_sub hl [1, 2, 3, 0, 4] rfl) h
set_option maxHeartbeats 4000000 in
set_option maxRecDepth 100000 in
theorem wX6_windingOf (Cx : ms_C p s m args meth c D cA a shX cX6_windingOf 5 RX6 (some .int)) (out : Int32) {σ : Mm} : ∀ (p0 : Int32) (p1 : Int32) , ∀ (H : Heap) (locs : List Loc) (ls : Array Slot), ms_I D cA a shX s σ H locs → lv_has ls 5 [(0, .ref (a 7)), (1, .int p0), (2, .int p1)] → fX6_windingOf σ p0 p1 = some out → W p l e rmX6_windingOf s m args below meth c H locs 0 0 (MQ below (ms_Qi D cA a shX out σ) args s 0 0 (ms_A a shX.length)) (F0 m 0 ls []) := by
  have hx := Cx.1
  have hb := Cx.2.1
  intro p0 p1 H locs ls hI hl h
  unfold fX6_windingOf at h
  refine lv_iconst (v := 0) hx hb dX6_windingOf_0 rfl ?_
  refine lv_istore_n (lv' := [(3, .int 0), (0, .ref (a 7)), (1, .int p0), (2, .int p1)]) hx hb dX6_windingOf_1 rfl hl (by decide) rfl (fun ls hl => ?_)
  refine lv_iconst (v := 0) hx hb dX6_windingOf_2 rfl ?_
  refine lv_istore (lv' := [(4, .int 0), (3, .int 0), (0, .ref (a 7)), (1, .int p0), (2, .int p1)]) hx hb dX6_windingOf_3 hl (by decide) rfl (fun ls hl => ?_)
  exact wX6_windingOf_5 Cx out  ms_fu p0 p1 0 0 _ _ _ hI (lv_sub hl [2, 3, 4, 1, 0] rfl) h
theorem yvX6_windingOf : ms_YV yX6_windingOf RX6 cX6_windingOf 5 (some .int) 2 := ⟨wd_20_3, wd_20_4, wd_2_5, wd_20_5, rfl, by decide +kernel, by decide +kernel, by decide +kernel⟩
set_option maxHeartbeats 4000000 in
theorem metX6_windingOf (l : Launch) (hDis : ms_Dis a shX.length) {σ : Mm} {p0 : Int32} {p1 : Int32} {out : Int32} (h : fX6_windingOf σ p0 p1 = some out) : Met l yX6_windingOf (.code yX6_windingOf cX6_windingOf 5 (some .int) :: wsL_law) rmX6_windingOf (ms_Pc D cA a shX [.ref (a 7), .int p0, .int p1] σ) (ms_Qi D cA a shX out σ) 0 0 (ms_A a shX.length) := by
  refine Met.ofW (cc := cX6_windingOf) (maxL := 5) (ret := (some .int)) (by decide) rfl ?_
  intro p e s m args below meth c s₁ B hml hv
  obtain ⟨rfl, hK, hN, hP⟩ := hv
  have hl := lv_entry ([.ref (a 7), .int p0, .int p1]) (n := 5) (Nat.le_of_ble_eq_true rfl)
  rw [lg_entry_eq]
  generalize (lg_sl ([.ref (a 7), .int p0, .int p1]) ++ List.replicate (5 - (lg_sl ([.ref (a 7), .int p0, .int p1])).length) Slot.unset).toArray = ls at hl ⊢
  exact wX6_windingOf ⟨B.exec, B.bytes, hml, findClass_of_methodNamed B.named, fun w hw => atoms_spec (ws := .code yX6_windingOf cX6_windingOf 5 (some .int) :: wsL_law) B.pre w (List.mem_cons_of_mem _ hw), B.returns, B.notSynchronized, hK, hDis, hN⟩ out p0 p1 s.heap [] ls ⟨hP, va_S.rf⟩ hl h
theorem kX6_windingOf (Cx : ms_C p s m args meth c D cA a shX cc nL own ret) {σ : Mm} {H : Heap} {locs : List Loc} (hI : ms_I D cA a shX s σ H locs) {p0 : Int32} {p1 : Int32} {out : Int32} (h : fX6_windingOf σ p0 p1 = some out) (hl : Cond.methodLink own idx yX6_windingOf ∈ wsL_law) (hf : 3 + 1 ≤ R.frames) (hlo : 8 + (5 + 11) + 73 ≤ R.locals) (hsz : ls.size = nL) (hW : (rest.map fun v => v.category).sum ≤ 8) (hd : decode cc pc = .ok (.invokevirtual idx, 3)) (kk : ∀ (H1 : Heap) (locs1 : List Loc), ms_I D cA a shX s σ H1 locs1 → W p l e R s m args below meth c H1 locs1 0 0 Q (F0 m (pc + 3) ls (.int out :: rest))) : W p l e R s m args below meth c H locs 0 0 Q (F0 m pc ls (.int p1 :: .int p0 :: .ref (a 7) :: rest)) :=
  ms_ci hI (ms_runV (av := [.int p0, .int p1]) Cx hI 7 shX_7 (ci := 6) rfl rfl yvX6_windingOf (metX6_windingOf l Cx.2.2.2.2.2.2.2.2.1  h) ⟨rfl, rfl⟩ hl ⟨hf, hlo⟩ rfl hsz rfl hW ⟨Nat.zero_le _, Nat.zero_le _⟩ hd) kk
/-! X6 windingOfDay (I)I -/
theorem dX6_windingOfDay_0 : decode cX6_windingOfDay 0 = .ok (.iconst 0, 1) := by decide +kernel
theorem dX6_windingOfDay_1 : decode cX6_windingOfDay 1 = .ok (.istore_n 2, 1) := by decide +kernel
theorem dX6_windingOfDay_2 : decode cX6_windingOfDay 2 = .ok (.iconst 0, 1) := by decide +kernel
theorem dX6_windingOfDay_3 : decode cX6_windingOfDay 3 = .ok (.istore_n 3, 1) := by decide +kernel
theorem dX6_windingOfDay_4 : decode cX6_windingOfDay 4 = .ok (.iload_n 3, 1) := by decide +kernel
theorem dX6_windingOfDay_5 : decode cX6_windingOfDay 5 = .ok (.aload_n 0, 1) := by decide +kernel
theorem dX6_windingOfDay_6 : decode cX6_windingOfDay 6 = .ok (.getfield 9, 3) := by decide +kernel
theorem dX6_windingOfDay_9 : decode cX6_windingOfDay 9 = .ok (.getfield 28, 3) := by decide +kernel
theorem dX6_windingOfDay_12 : decode cX6_windingOfDay 12 = .ok (.if_icmp .ge 18, 3) := by decide +kernel
theorem dX6_windingOfDay_15 : decode cX6_windingOfDay 15 = .ok (.iload_n 2, 1) := by decide +kernel
theorem dX6_windingOfDay_16 : decode cX6_windingOfDay 16 = .ok (.aload_n 0, 1) := by decide +kernel
theorem dX6_windingOfDay_17 : decode cX6_windingOfDay 17 = .ok (.iload_n 3, 1) := by decide +kernel
theorem dX6_windingOfDay_18 : decode cX6_windingOfDay 18 = .ok (.iload_n 1, 1) := by decide +kernel
theorem dX6_windingOfDay_19 : decode cX6_windingOfDay 19 = .ok (.invokevirtual 36, 3) := by decide +kernel
theorem dX6_windingOfDay_22 : decode cX6_windingOfDay 22 = .ok (.iadd, 1) := by decide +kernel
theorem dX6_windingOfDay_23 : decode cX6_windingOfDay 23 = .ok (.istore_n 2, 1) := by decide +kernel
theorem dX6_windingOfDay_24 : decode cX6_windingOfDay 24 = .ok (.iinc 3 1, 3) := by decide +kernel
theorem dX6_windingOfDay_27 : decode cX6_windingOfDay 27 = .ok (.goto (-23), 3) := by decide +kernel
theorem dX6_windingOfDay_30 : decode cX6_windingOfDay 30 = .ok (.iload_n 2, 1) := by decide +kernel
theorem dX6_windingOfDay_31 : decode cX6_windingOfDay 31 = .ok (.ireturn, 1) := by decide +kernel
abbrev rmX6_windingOfDay : Room := { frames := 3, cells := 0, slots := 0, locals := 73 }
set_option maxHeartbeats 4000000 in
set_option maxRecDepth 100000 in
theorem wX6_windingOfDay_4 (Cx : ms_C p s m args meth c D cA a shX cX6_windingOfDay 4 RX6 (some .int)) (out : Int32) {σ : Mm} : ∀ (n : Nat), ∀ (y1 : Int32) (y2 : Int32) (y3 : Int32) , ∀ (H : Heap) (locs : List Loc) (ls : Array Slot), ms_I D cA a shX s σ H locs → lv_has ls 4 [(0, .ref (a 7)), (1, .int y1), (2, .int y2), (3, .int y3)] → fX6_windingOfDay_4 σ n y1 y2 y3 = some out → W p l e rmX6_windingOfDay s m args below meth c H locs 0 0 (MQ below (ms_Qi D cA a shX out σ) args s 0 0 (ms_A a shX.length)) (F0 m 4 ls []) := by
  have hx := Cx.1
  have hb := Cx.2.1
  intro n
  induction n with
  | zero =>
    intro y1 y2 y3 H locs ls hI hl h
    exact nomatch (show none = some out from h)
  | succ n ih =>
    intro y1 y2 y3 H locs ls hI hl h
    rw [fX6_windingOfDay_4] at h
    refine lv_iload_n hx hb dX6_windingOfDay_4 rfl (lv_at hl 3 rfl) ?_
    refine lv_aload_n hx hb dX6_windingOfDay_5 rfl (lv_at hl 0 rfl) ?_
    refine gr_X6_0 Cx hI wd_3_20 dX6_windingOfDay_6 ?_
    refine gi_X4_5 Cx hI wd_19_12 dX6_windingOfDay_9 ?_
    refine lv_icmp_ge (tgt := 30) hx hb dX6_windingOfDay_12 rfl (fun hc => ?_) (fun hc => ?_)
    · have h := ms_ifT hc h
      refine lv_iload_n hx hb dX6_windingOfDay_30 rfl (lv_at hl 2 rfl) ?_
      exact ms_ri Cx hI (Option.some.inj h) rfl dX6_windingOfDay_31
    · have h := ms_ifF hc h
      refine lv_iload_n hx hb dX6_windingOfDay_15 rfl (lv_at hl 2 rfl) ?_
      refine lv_aload_n hx hb dX6_windingOfDay_16 rfl (lv_at hl 0 rfl) ?_
      refine lv_iload_n hx hb dX6_windingOfDay_17 rfl (lv_at hl 3 rfl) ?_
      refine lv_iload_n hx hb dX6_windingOfDay_18 rfl (lv_at hl 1 rfl) ?_
      obtain ⟨r2, hc1, h⟩ := ms_bdE h
      refine kX6_windingOfGroup Cx hI hc1 wd_20_6 (Nat.le_of_ble_eq_true rfl) (Nat.le_of_ble_eq_true rfl) hl.1 (Nat.le_of_ble_eq_true rfl) dX6_windingOfDay_19 (fun H locs hI => ?_)
      refine lv_iadd hx hb dX6_windingOfDay_22 ?_
      refine lv_istore_n (lv' := [(2, .int (y2 + r2)), (0, .ref (a 7)), (1, .int y1), (3, .int y3)]) hx hb dX6_windingOfDay_23 rfl hl (by decide) rfl (fun ls hl => ?_)
      refine lv_iinc (v := y3 + 1) (lv' := [(3, .int (y3 + 1)), (2, .int (y2 + r2)), (0, .ref (a 7)), (1, .int y1)]) hx hb dX6_windingOfDay_24 hl (k := 3) rfl rfl (by decide) rfl (fun ls hl => ?_)
      refine lv_goto (tgt := 4) hx hb dX6_windingOfDay_27 rfl ?_
      exact ih y1 (y2 + r2) (y3 + 1) _ _ _ hI (lv_sub hl [2, 3, 1, 0] rfl) h
set_option maxHeartbeats 4000000 in
set_option maxRecDepth 100000 in
theorem wX6_windingOfDay (Cx : ms_C p s m args meth c D cA a shX cX6_windingOfDay 4 RX6 (some .int)) (out : Int32) {σ : Mm} : ∀ (p0 : Int32) , ∀ (H : Heap) (locs : List Loc) (ls : Array Slot), ms_I D cA a shX s σ H locs → lv_has ls 4 [(0, .ref (a 7)), (1, .int p0)] → fX6_windingOfDay σ p0 = some out → W p l e rmX6_windingOfDay s m args below meth c H locs 0 0 (MQ below (ms_Qi D cA a shX out σ) args s 0 0 (ms_A a shX.length)) (F0 m 0 ls []) := by
  have hx := Cx.1
  have hb := Cx.2.1
  intro p0 H locs ls hI hl h
  unfold fX6_windingOfDay at h
  refine lv_iconst (v := 0) hx hb dX6_windingOfDay_0 rfl ?_
  refine lv_istore_n (lv' := [(2, .int 0), (0, .ref (a 7)), (1, .int p0)]) hx hb dX6_windingOfDay_1 rfl hl (by decide) rfl (fun ls hl => ?_)
  refine lv_iconst (v := 0) hx hb dX6_windingOfDay_2 rfl ?_
  refine lv_istore_n (lv' := [(3, .int 0), (2, .int 0), (0, .ref (a 7)), (1, .int p0)]) hx hb dX6_windingOfDay_3 rfl hl (by decide) rfl (fun ls hl => ?_)
  exact wX6_windingOfDay_4 Cx out  ms_fu p0 0 0 _ _ _ hI (lv_sub hl [2, 3, 1, 0] rfl) h
theorem yvX6_windingOfDay : ms_YV yX6_windingOfDay RX6 cX6_windingOfDay 4 (some .int) 1 := ⟨wd_40_16, wd_40_17, wd_2_5, wd_40_18, rfl, by decide +kernel, by decide +kernel, by decide +kernel⟩
set_option maxHeartbeats 4000000 in
theorem metX6_windingOfDay (l : Launch) (hDis : ms_Dis a shX.length) {σ : Mm} {p0 : Int32} {out : Int32} (h : fX6_windingOfDay σ p0 = some out) : Met l yX6_windingOfDay (.code yX6_windingOfDay cX6_windingOfDay 4 (some .int) :: wsL_law) rmX6_windingOfDay (ms_Pc D cA a shX [.ref (a 7), .int p0] σ) (ms_Qi D cA a shX out σ) 0 0 (ms_A a shX.length) := by
  refine Met.ofW (cc := cX6_windingOfDay) (maxL := 4) (ret := (some .int)) (by decide) rfl ?_
  intro p e s m args below meth c s₁ B hml hv
  obtain ⟨rfl, hK, hN, hP⟩ := hv
  have hl := lv_entry ([.ref (a 7), .int p0]) (n := 4) (Nat.le_of_ble_eq_true rfl)
  rw [lg_entry_eq]
  generalize (lg_sl ([.ref (a 7), .int p0]) ++ List.replicate (4 - (lg_sl ([.ref (a 7), .int p0])).length) Slot.unset).toArray = ls at hl ⊢
  exact wX6_windingOfDay ⟨B.exec, B.bytes, hml, findClass_of_methodNamed B.named, fun w hw => atoms_spec (ws := .code yX6_windingOfDay cX6_windingOfDay 4 (some .int) :: wsL_law) B.pre w (List.mem_cons_of_mem _ hw), B.returns, B.notSynchronized, hK, hDis, hN⟩ out p0 s.heap [] ls ⟨hP, va_S.rf⟩ hl h
theorem kX6_windingOfDay (Cx : ms_C p s m args meth c D cA a shX cc nL own ret) {σ : Mm} {H : Heap} {locs : List Loc} (hI : ms_I D cA a shX s σ H locs) {p0 : Int32} {out : Int32} (h : fX6_windingOfDay σ p0 = some out) (hl : Cond.methodLink own idx yX6_windingOfDay ∈ wsL_law) (hf : 3 + 1 ≤ R.frames) (hlo : 8 + (4 + 11) + 73 ≤ R.locals) (hsz : ls.size = nL) (hW : (rest.map fun v => v.category).sum ≤ 8) (hd : decode cc pc = .ok (.invokevirtual idx, 3)) (kk : ∀ (H1 : Heap) (locs1 : List Loc), ms_I D cA a shX s σ H1 locs1 → W p l e R s m args below meth c H1 locs1 0 0 Q (F0 m (pc + 3) ls (.int out :: rest))) : W p l e R s m args below meth c H locs 0 0 Q (F0 m pc ls (.int p0 :: .ref (a 7) :: rest)) :=
  ms_ci hI (ms_runV (av := [.int p0]) Cx hI 7 shX_7 (ci := 6) rfl rfl yvX6_windingOfDay (metX6_windingOfDay l Cx.2.2.2.2.2.2.2.2.1  h) ⟨rfl, rfl⟩ hl ⟨hf, hlo⟩ rfl hsz rfl hW ⟨Nat.zero_le _, Nat.zero_le _⟩ hd) kk
/-! X6 windDay (I[I)V -/
theorem dX6_windDay_0 : decode cX6_windDay 0 = .ok (.aload_n 2, 1) := by decide +kernel
theorem dX6_windDay_1 : decode cX6_windDay 1 = .ok (.iconst 0, 1) := by decide +kernel
theorem dX6_windDay_2 : decode cX6_windDay 2 = .ok (.invokestatic 39, 3) := by decide +kernel
theorem dX6_windDay_5 : decode cX6_windDay 5 = .ok (.iconst 0, 1) := by decide +kernel
theorem dX6_windDay_6 : decode cX6_windDay 6 = .ok (.istore_n 3, 1) := by decide +kernel
theorem dX6_windDay_7 : decode cX6_windDay 7 = .ok (.iload_n 3, 1) := by decide +kernel
theorem dX6_windDay_8 : decode cX6_windDay 8 = .ok (.aload_n 0, 1) := by decide +kernel
theorem dX6_windDay_9 : decode cX6_windDay 9 = .ok (.getfield 9, 3) := by decide +kernel
theorem dX6_windDay_12 : decode cX6_windDay 12 = .ok (.getfield 28, 3) := by decide +kernel
theorem dX6_windDay_15 : decode cX6_windDay 15 = .ok (.if_icmp .ge 29, 3) := by decide +kernel
theorem dX6_windDay_18 : decode cX6_windDay 18 = .ok (.aload_n 2, 1) := by decide +kernel
theorem dX6_windDay_19 : decode cX6_windDay 19 = .ok (.aload_n 0, 1) := by decide +kernel
theorem dX6_windDay_20 : decode cX6_windDay 20 = .ok (.getfield 9, 3) := by decide +kernel
theorem dX6_windDay_23 : decode cX6_windDay 23 = .ok (.iload_n 3, 1) := by decide +kernel
theorem dX6_windDay_24 : decode cX6_windDay 24 = .ok (.iconst 1, 1) := by decide +kernel
theorem dX6_windDay_25 : decode cX6_windDay 25 = .ok (.invokevirtual 19, 3) := by decide +kernel
theorem dX6_windDay_28 : decode cX6_windDay 28 = .ok (.dup2, 1) := by decide +kernel
theorem dX6_windDay_29 : decode cX6_windDay 29 = .ok (.iaload, 1) := by decide +kernel
theorem dX6_windDay_30 : decode cX6_windDay 30 = .ok (.aload_n 0, 1) := by decide +kernel
theorem dX6_windDay_31 : decode cX6_windDay 31 = .ok (.iload_n 3, 1) := by decide +kernel
theorem dX6_windDay_32 : decode cX6_windDay 32 = .ok (.iload_n 1, 1) := by decide +kernel
theorem dX6_windDay_33 : decode cX6_windDay 33 = .ok (.invokevirtual 36, 3) := by decide +kernel
theorem dX6_windDay_36 : decode cX6_windDay 36 = .ok (.iadd, 1) := by decide +kernel
theorem dX6_windDay_37 : decode cX6_windDay 37 = .ok (.iastore, 1) := by decide +kernel
theorem dX6_windDay_38 : decode cX6_windDay 38 = .ok (.iinc 3 1, 3) := by decide +kernel
theorem dX6_windDay_41 : decode cX6_windDay 41 = .ok (.goto (-34), 3) := by decide +kernel
theorem dX6_windDay_44 : decode cX6_windDay 44 = .ok (.return_, 1) := by decide +kernel
abbrev rmX6_windDay : Room := { frames := 3, cells := 0, slots := 0, locals := 73 }
set_option maxHeartbeats 4000000 in
set_option maxRecDepth 100000 in
theorem wX6_windDay_7 (Cx : ms_C p s m args meth c D cA a shX cX6_windDay 4 RX6 none) (out : Mm) : ∀ (n : Nat), ∀ (y1 : Int32) (y2 : Int32) , ∀ (σ : Mm) (H : Heap) (locs : List Loc) (ls : Array Slot), ms_I D cA a shX s σ H locs → lv_has ls 4 [(0, .ref (a 7)), (1, .int y1), (2, .ref (a 9)), (3, .int y2)] → fX6_windDay_7 n y1 y2 σ = some out → W p l e rmX6_windDay s m args below meth c H locs 0 0 (MQ below (ms_Qv D cA a shX out) args s 0 0 (ms_A a shX.length)) (F0 m 7 ls []) := by
  have hx := Cx.1
  have hb := Cx.2.1
  intro n
  induction n with
  | zero =>
    intro y1 y2 σ H locs ls hI hl h
    exact nomatch (show none = some out from h)
  | succ n ih =>
    intro y1 y2 σ H locs ls hI hl h
    rw [fX6_windDay_7] at h
    refine lv_iload_n hx hb dX6_windDay_7 rfl (lv_at hl 3 rfl) ?_
    refine lv_aload_n hx hb dX6_windDay_8 rfl (lv_at hl 0 rfl) ?_
    refine gr_X6_0 Cx hI wd_3_20 dX6_windDay_9 ?_
    refine gi_X4_5 Cx hI wd_19_12 dX6_windDay_12 ?_
    refine lv_icmp_ge (tgt := 44) hx hb dX6_windDay_15 rfl (fun hc => ?_) (fun hc => ?_)
    · have h := ms_ifT hc h
      exact ms_rv Cx hI (Option.some.inj h) dX6_windDay_44
    · have h := ms_ifF hc h
      refine lv_aload_n hx hb dX6_windDay_18 rfl (lv_at hl 2 rfl) ?_
      refine lv_aload_n hx hb dX6_windDay_19 rfl (lv_at hl 0 rfl) ?_
      refine gr_X6_0 Cx hI wd_3_20 dX6_windDay_20 ?_
      refine lv_iload_n hx hb dX6_windDay_23 rfl (lv_at hl 3 rfl) ?_
      refine lv_iconst (v := 1) hx hb dX6_windDay_24 rfl ?_
      obtain ⟨r2, hc1, h⟩ := ms_bdE h
      refine kX4_ofGroup Cx hI hc1 wd_18_11 (Nat.le_of_ble_eq_true rfl) (Nat.le_of_ble_eq_true rfl) hl.1 (Nat.le_of_ble_eq_true rfl) dX6_windDay_25 (fun H locs hI => ?_)
      refine lv_dup2_11 hx hb dX6_windDay_28 rfl rfl ?_
      obtain ⟨hg, h⟩ := ms_gE h
      refine ms_ld Cx hI 9 shX_9 hg dX6_windDay_29 ?_
      refine lv_aload_n hx hb dX6_windDay_30 rfl (lv_at hl 0 rfl) ?_
      refine lv_iload_n hx hb dX6_windDay_31 rfl (lv_at hl 3 rfl) ?_
      refine lv_iload_n hx hb dX6_windDay_32 rfl (lv_at hl 1 rfl) ?_
      obtain ⟨r4, hc3, h⟩ := ms_bdE h
      refine kX6_windingOfGroup Cx hI hc3 wd_20_6 (Nat.le_of_ble_eq_true rfl) (Nat.le_of_ble_eq_true rfl) hl.1 (Nat.le_of_ble_eq_true rfl) dX6_windDay_33 (fun H locs hI => ?_)
      refine lv_iadd hx hb dX6_windDay_36 ?_
      obtain ⟨hg, h⟩ := ms_gE h
      refine ms_sto Cx hI 9 shX_9 hg dX6_windDay_37 (fun H locs σ5 eσ5 hI => ?_)
      have h := ms_ltE eσ5 h
      refine lv_iinc (v := y2 + 1) (lv' := [(3, .int (y2 + 1)), (0, .ref (a 7)), (1, .int y1), (2, .ref (a 9))]) hx hb dX6_windDay_38 hl (k := 3) rfl rfl (by decide) rfl (fun ls hl => ?_)
      refine lv_goto (tgt := 7) hx hb dX6_windDay_41 rfl ?_
      exact ih y1 (y2 + 1) σ5 _ _ _ hI (lv_sub hl [1, 2, 3, 0] rfl) h
set_option maxHeartbeats 4000000 in
set_option maxRecDepth 100000 in
theorem wX6_windDay (Cx : ms_C p s m args meth c D cA a shX cX6_windDay 4 RX6 none) (out : Mm) : ∀ (p0 : Int32) , ∀ (σ : Mm) (H : Heap) (locs : List Loc) (ls : Array Slot), ms_I D cA a shX s σ H locs → lv_has ls 4 [(0, .ref (a 7)), (1, .int p0), (2, .ref (a 9))] → fX6_windDay p0 σ = some out → W p l e rmX6_windDay s m args below meth c H locs 0 0 (MQ below (ms_Qv D cA a shX out) args s 0 0 (ms_A a shX.length)) (F0 m 0 ls []) := by
  have hx := Cx.1
  have hb := Cx.2.1
  intro p0 σ H locs ls hI hl h
  unfold fX6_windDay at h
  refine lv_aload_n hx hb dX6_windDay_0 rfl (lv_at hl 2 rfl) ?_
  refine lv_iconst (v := 0) hx hb dX6_windDay_1 rfl ?_
  refine ms_fill Cx hI 9 shX_9 wd_22_7 (Nat.le_of_ble_eq_true rfl) (Nat.le_of_ble_eq_true rfl) hl.1 (Nat.le_of_ble_eq_true rfl) dX6_windDay_2 (fun H locs σ1 eσ1 hI => ?_)
  have h := ms_ltE eσ1 h
  refine lv_iconst (v := 0) hx hb dX6_windDay_5 rfl ?_
  refine lv_istore_n (lv' := [(3, .int 0), (0, .ref (a 7)), (1, .int p0), (2, .ref (a 9))]) hx hb dX6_windDay_6 rfl hl (by decide) rfl (fun ls hl => ?_)
  exact wX6_windDay_7 Cx out  ms_fu p0 0 σ1 _ _ _ hI (lv_sub hl [1, 2, 3, 0] rfl) h
theorem yvX6_windDay : ms_YV yX6_windDay RX6 cX6_windDay 4 none 2 := ⟨wd_22_4, wd_22_5, wd_2_5, wd_22_6, rfl, by decide +kernel, by decide +kernel, by decide +kernel⟩
set_option maxHeartbeats 4000000 in
theorem metX6_windDay (l : Launch) (hDis : ms_Dis a shX.length) {σ : Mm} {p0 : Int32} {out : Mm} (h : fX6_windDay p0 σ = some out) : Met l yX6_windDay (.code yX6_windDay cX6_windDay 4 none :: wsL_law) rmX6_windDay (ms_Pc D cA a shX [.ref (a 7), .int p0, .ref (a 9)] σ) (ms_Qv D cA a shX out) 0 0 (ms_A a shX.length) := by
  refine Met.ofW (cc := cX6_windDay) (maxL := 4) (ret := none) (by decide) rfl ?_
  intro p e s m args below meth c s₁ B hml hv
  obtain ⟨rfl, hK, hN, hP⟩ := hv
  have hl := lv_entry ([.ref (a 7), .int p0, .ref (a 9)]) (n := 4) (Nat.le_of_ble_eq_true rfl)
  rw [lg_entry_eq]
  generalize (lg_sl ([.ref (a 7), .int p0, .ref (a 9)]) ++ List.replicate (4 - (lg_sl ([.ref (a 7), .int p0, .ref (a 9)])).length) Slot.unset).toArray = ls at hl ⊢
  exact wX6_windDay ⟨B.exec, B.bytes, hml, findClass_of_methodNamed B.named, fun w hw => atoms_spec (ws := .code yX6_windDay cX6_windDay 4 none :: wsL_law) B.pre w (List.mem_cons_of_mem _ hw), B.returns, B.notSynchronized, hK, hDis, hN⟩ out p0 σ s.heap [] ls ⟨hP, va_S.rf⟩ hl h
theorem kX6_windDay (Cx : ms_C p s m args meth c D cA a shX cc nL own ret) {σ : Mm} {H : Heap} {locs : List Loc} (hI : ms_I D cA a shX s σ H locs) {p0 : Int32} {out : Mm} (h : fX6_windDay p0 σ = some out) (hl : Cond.methodLink own idx yX6_windDay ∈ wsL_law) (hf : 3 + 1 ≤ R.frames) (hlo : 8 + (4 + 11) + 73 ≤ R.locals) (hsz : ls.size = nL) (hW : (rest.map fun v => v.category).sum ≤ 8) (hd : decode cc pc = .ok (.invokevirtual idx, 3)) (kk : ∀ (H1 : Heap) (locs1 : List Loc), ms_I D cA a shX s out H1 locs1 → W p l e R s m args below meth c H1 locs1 0 0 Q (F0 m (pc + 3) ls (rest))) : W p l e R s m args below meth c H locs 0 0 Q (F0 m pc ls (.ref (a 9) :: .int p0 :: .ref (a 7) :: rest)) :=
  ms_cv hI (ms_runV (av := [.int p0, .ref (a 9)]) Cx hI 7 shX_7 (ci := 6) rfl rfl yvX6_windDay (metX6_windDay l Cx.2.2.2.2.2.2.2.2.1  h) ⟨rfl, rfl⟩ hl ⟨hf, hlo⟩ rfl hsz rfl hW ⟨Nat.zero_le _, Nat.zero_le _⟩ hd) kk
/-! X7 outdate ()V -/
theorem dX7_outdate_0 : decode cX7_outdate 0 = .ok (.aload_n 0, 1) := by decide +kernel
theorem dX7_outdate_1 : decode cX7_outdate 1 = .ok (.getfield 54, 3) := by decide +kernel
theorem dX7_outdate_4 : decode cX7_outdate 4 = .ok (.iconst 0, 1) := by decide +kernel
theorem dX7_outdate_5 : decode cX7_outdate 5 = .ok (.putfield 354, 3) := by decide +kernel
theorem dX7_outdate_8 : decode cX7_outdate 8 = .ok (.aload_n 0, 1) := by decide +kernel
theorem dX7_outdate_9 : decode cX7_outdate 9 = .ok (.getfield 61, 3) := by decide +kernel
theorem dX7_outdate_12 : decode cX7_outdate 12 = .ok (.iconst 0, 1) := by decide +kernel
theorem dX7_outdate_13 : decode cX7_outdate 13 = .ok (.putfield 212, 3) := by decide +kernel
theorem dX7_outdate_16 : decode cX7_outdate 16 = .ok (.aload_n 0, 1) := by decide +kernel
theorem dX7_outdate_17 : decode cX7_outdate 17 = .ok (.getfield 68, 3) := by decide +kernel
theorem dX7_outdate_20 : decode cX7_outdate 20 = .ok (.iconst 0, 1) := by decide +kernel
theorem dX7_outdate_21 : decode cX7_outdate 21 = .ok (.putfield 242, 3) := by decide +kernel
theorem dX7_outdate_24 : decode cX7_outdate 24 = .ok (.return_, 1) := by decide +kernel
abbrev rmX7_outdate : Room := { frames := 0, cells := 0, slots := 0, locals := 0 }
set_option maxHeartbeats 4000000 in
set_option maxRecDepth 100000 in
theorem wX7_outdate (Cx : ms_C p s m args meth c D cA a shX cX7_outdate 1 RX7 none) (out : Mm) : ∀ (σ : Mm) (H : Heap) (locs : List Loc) (ls : Array Slot), ms_I D cA a shX s σ H locs → lv_has ls 1 [(0, .ref (a 0))] → fX7_outdate σ = some out → W p l e rmX7_outdate s m args below meth c H locs 0 0 (MQ below (ms_Qv D cA a shX out) args s 0 0 (ms_A a shX.length)) (F0 m 0 ls []) := by
  have hx := Cx.1
  have hb := Cx.2.1
  intro σ H locs ls hI hl h
  unfold fX7_outdate at h
  refine lv_aload_n hx hb dX7_outdate_0 rfl (lv_at hl 0 rfl) ?_
  refine gr_X7_6 Cx hI wd_2_14 dX7_outdate_1 ?_
  refine lv_iconst (v := 0) hx hb dX7_outdate_4 rfl ?_
  refine pi_X0_5 Cx hI (Or.inl rfl) wd_10_12 dX7_outdate_5 (fun H locs σ1 eσ1 hI => ?_)
  have h := ms_ltE eσ1 h
  refine lv_aload_n hx hb dX7_outdate_8 rfl (lv_at hl 0 rfl) ?_
  refine gr_X7_7 Cx hI wd_2_18 dX7_outdate_9 ?_
  refine lv_iconst (v := 0) hx hb dX7_outdate_12 rfl ?_
  refine pi_X1_7 Cx hI (Or.inl rfl) wd_10_13 dX7_outdate_13 (fun H locs σ2 eσ2 hI => ?_)
  have h := ms_ltE eσ2 h
  refine lv_aload_n hx hb dX7_outdate_16 rfl (lv_at hl 0 rfl) ?_
  refine gr_X7_8 Cx hI wd_2_22 dX7_outdate_17 ?_
  refine lv_iconst (v := 0) hx hb dX7_outdate_20 rfl ?_
  refine pi_X5_8 Cx hI (Or.inl rfl) wd_10_14 dX7_outdate_21 (fun H locs σ3 eσ3 hI => ?_)
  have h := ms_ltE eσ3 h
  exact ms_rv Cx hI (Option.some.inj h) dX7_outdate_24
theorem yvX7_outdate : ms_YV yX7_outdate RX7 cX7_outdate 1 none 0 := ⟨wd_10_9, wd_10_10, wd_1_2, wd_10_11, rfl, by decide +kernel, by decide +kernel, by decide +kernel⟩
set_option maxHeartbeats 4000000 in
theorem metX7_outdate (l : Launch) (hDis : ms_Dis a shX.length) {σ : Mm} {out : Mm} (h : fX7_outdate σ = some out) : Met l yX7_outdate (.code yX7_outdate cX7_outdate 1 none :: wsL_law) rmX7_outdate (ms_Pc D cA a shX [.ref (a 0)] σ) (ms_Qv D cA a shX out) 0 0 (ms_A a shX.length) := by
  refine Met.ofW (cc := cX7_outdate) (maxL := 1) (ret := none) (by decide) rfl ?_
  intro p e s m args below meth c s₁ B hml hv
  obtain ⟨rfl, hK, hN, hP⟩ := hv
  have hl := lv_entry ([.ref (a 0)]) (n := 1) (Nat.le_of_ble_eq_true rfl)
  rw [lg_entry_eq]
  generalize (lg_sl ([.ref (a 0)]) ++ List.replicate (1 - (lg_sl ([.ref (a 0)])).length) Slot.unset).toArray = ls at hl ⊢
  exact wX7_outdate ⟨B.exec, B.bytes, hml, findClass_of_methodNamed B.named, fun w hw => atoms_spec (ws := .code yX7_outdate cX7_outdate 1 none :: wsL_law) B.pre w (List.mem_cons_of_mem _ hw), B.returns, B.notSynchronized, hK, hDis, hN⟩ out σ s.heap [] ls ⟨hP, va_S.rf⟩ hl h
theorem kX7_outdate (Cx : ms_C p s m args meth c D cA a shX cc nL own ret) {σ : Mm} {H : Heap} {locs : List Loc} (hI : ms_I D cA a shX s σ H locs) {out : Mm} (h : fX7_outdate σ = some out) (hl : Cond.methodLink own idx yX7_outdate ∈ wsL_law) (hf : 0 + 1 ≤ R.frames) (hlo : 8 + (1 + 11) + 0 ≤ R.locals) (hsz : ls.size = nL) (hW : (rest.map fun v => v.category).sum ≤ 8) (hd : decode cc pc = .ok (.invokevirtual idx, 3)) (kk : ∀ (H1 : Heap) (locs1 : List Loc), ms_I D cA a shX s out H1 locs1 → W p l e R s m args below meth c H1 locs1 0 0 Q (F0 m (pc + 3) ls (rest))) : W p l e R s m args below meth c H locs 0 0 Q (F0 m pc ls (.ref (a 0) :: rest)) :=
  ms_cv hI (ms_runV (av := []) Cx hI 0 shX_0 (ci := 7) rfl rfl yvX7_outdate (metX7_outdate l Cx.2.2.2.2.2.2.2.2.1  h) ⟨rfl, rfl⟩ hl ⟨hf, hlo⟩ rfl hsz rfl hW ⟨Nat.zero_le _, Nat.zero_le _⟩ hd) kk
/-! X7 type (I)I -/
theorem dX7_type_0 : decode cX7_type 0 = .ok (.iload_n 1, 1) := by decide +kernel
theorem dX7_type_1 : decode cX7_type 1 = .ok (.iconst 0, 1) := by decide +kernel
theorem dX7_type_2 : decode cX7_type 2 = .ok (.sipush 255, 3) := by decide +kernel
theorem dX7_type_5 : decode cX7_type 5 = .ok (.invokestatic 82, 3) := by decide +kernel
theorem dX7_type_8 : decode cX7_type 8 = .ok (.ifCond .ne 6, 3) := by decide +kernel
theorem dX7_type_11 : decode cX7_type 11 = .ok (.bipush (-2), 2) := by decide +kernel
theorem dX7_type_13 : decode cX7_type 13 = .ok (.ireturn, 1) := by decide +kernel
theorem dX7_type_14 : decode cX7_type 14 = .ok (.aload_n 0, 1) := by decide +kernel
theorem dX7_type_15 : decode cX7_type 15 = .ok (.getfield 12, 3) := by decide +kernel
theorem dX7_type_18 : decode cX7_type 18 = .ok (.getfield 86, 3) := by decide +kernel
theorem dX7_type_21 : decode cX7_type 21 = .ok (.bipush 100, 2) := by decide +kernel
theorem dX7_type_23 : decode cX7_type 23 = .ok (.if_icmp .lt 6, 3) := by decide +kernel
theorem dX7_type_26 : decode cX7_type 26 = .ok (.bipush (-4), 2) := by decide +kernel
theorem dX7_type_28 : decode cX7_type 28 = .ok (.ireturn, 1) := by decide +kernel
theorem dX7_type_29 : decode cX7_type 29 = .ok (.aload_n 0, 1) := by decide +kernel
theorem dX7_type_30 : decode cX7_type 30 = .ok (.getfield 12, 3) := by decide +kernel
theorem dX7_type_33 : decode cX7_type 33 = .ok (.iload_n 1, 1) := by decide +kernel
theorem dX7_type_34 : decode cX7_type 34 = .ok (.invokevirtual 89, 3) := by decide +kernel
theorem dX7_type_37 : decode cX7_type 37 = .ok (.aload_n 0, 1) := by decide +kernel
theorem dX7_type_38 : decode cX7_type 38 = .ok (.getfield 12, 3) := by decide +kernel
theorem dX7_type_41 : decode cX7_type 41 = .ok (.invokevirtual 93, 3) := by decide +kernel
theorem dX7_type_44 : decode cX7_type 44 = .ok (.aload_n 0, 1) := by decide +kernel
theorem dX7_type_45 : decode cX7_type 45 = .ok (.invokevirtual 96, 3) := by decide +kernel
theorem dX7_type_48 : decode cX7_type 48 = .ok (.aload_n 0, 1) := by decide +kernel
theorem dX7_type_49 : decode cX7_type 49 = .ok (.getfield 12, 3) := by decide +kernel
theorem dX7_type_52 : decode cX7_type 52 = .ok (.getfield 86, 3) := by decide +kernel
theorem dX7_type_55 : decode cX7_type 55 = .ok (.ireturn, 1) := by decide +kernel
abbrev rmX7_type : Room := { frames := 6, cells := 0, slots := 0, locals := 131 }
set_option maxHeartbeats 4000000 in
set_option maxRecDepth 100000 in
theorem wX7_type (Cx : ms_C p s m args meth c D cA a shX cX7_type 2 RX7 (some .int)) (out : Int32 × Mm) : ∀ (p0 : Int32) , ∀ (σ : Mm) (H : Heap) (locs : List Loc) (ls : Array Slot), ms_I D cA a shX s σ H locs → lv_has ls 2 [(0, .ref (a 0)), (1, .int p0)] → fX7_type p0 σ = some out → W p l e rmX7_type s m args below meth c H locs 0 0 (MQ below (ms_Qi D cA a shX out.1 out.2) args s 0 0 (ms_A a shX.length)) (F0 m 0 ls []) := by
  have hx := Cx.1
  have hb := Cx.2.1
  intro p0 σ H locs ls hI hl h
  unfold fX7_type at h
  refine lv_iload_n hx hb dX7_type_0 rfl (lv_at hl 1 rfl) ?_
  refine lv_iconst (v := 0) hx hb dX7_type_1 rfl ?_
  refine lv_sipush (v := 255) hx hb dX7_type_2 rfl ?_
  obtain ⟨r2, hc1, h⟩ := ms_bdE h
  refine kX7_within Cx hI hc1 (Or.inl wd_7_23) (Nat.le_of_ble_eq_true rfl) (Nat.le_of_ble_eq_true rfl) hl.1 (Nat.le_of_ble_eq_true rfl) dX7_type_5 (fun H locs hI => ?_)
  refine lv_if_ne (tgt := 14) hx hb dX7_type_8 rfl (fun hc => ?_) (fun hc => ?_)
  · have h := ms_ifF hc h
    refine lv_aload_n hx hb dX7_type_14 rfl (lv_at hl 0 rfl) ?_
    refine gr_X7_0 Cx hI wd_1_15 dX7_type_15 ?_
    refine gi_X4_3 Cx hI wd_7_22 dX7_type_18 ?_
    refine lv_bipush (v := 100) hx hb dX7_type_21 rfl ?_
    refine lv_icmp_lt (tgt := 29) hx hb dX7_type_23 rfl (fun hc => ?_) (fun hc => ?_)
    · have h := ms_ifT hc h
      refine lv_aload_n hx hb dX7_type_29 rfl (lv_at hl 0 rfl) ?_
      refine gr_X7_0 Cx hI wd_1_15 dX7_type_30 ?_
      refine lv_iload_n hx hb dX7_type_33 rfl (lv_at hl 1 rfl) ?_
      obtain ⟨σ4, hc3, h⟩ := ms_bdE h
      refine kX4_append Cx hI hc3 wd_8_2 (Nat.le_of_ble_eq_true rfl) (Nat.le_of_ble_eq_true rfl) hl.1 (Nat.le_of_ble_eq_true rfl) dX7_type_34 (fun H locs hI => ?_)
      refine lv_aload_n hx hb dX7_type_37 rfl (lv_at hl 0 rfl) ?_
      refine gr_X7_0 Cx hI wd_1_15 dX7_type_38 ?_
      obtain ⟨σ6, hc5, h⟩ := ms_bdE h
      refine kX4_parse Cx hI hc5 wd_8_6 (Nat.le_of_ble_eq_true rfl) (Nat.le_of_ble_eq_true rfl) hl.1 (Nat.le_of_ble_eq_true rfl) dX7_type_41 (fun H locs hI => ?_)
      refine lv_aload_n hx hb dX7_type_44 rfl (lv_at hl 0 rfl) ?_
      obtain ⟨σ8, hc7, h⟩ := ms_bdE h
      refine kX7_outdate Cx hI hc7 wd_10_8 (Nat.le_of_ble_eq_true rfl) (Nat.le_of_ble_eq_true rfl) hl.1 (Nat.le_of_ble_eq_true rfl) dX7_type_45 (fun H locs hI => ?_)
      refine lv_aload_n hx hb dX7_type_48 rfl (lv_at hl 0 rfl) ?_
      refine gr_X7_0 Cx hI wd_1_15 dX7_type_49 ?_
      refine gi_X4_3 Cx hI wd_7_22 dX7_type_52 ?_
      exact ms_riw Cx hI h dX7_type_55
    · have h := ms_ifF hc h
      refine lv_bipush (v := -4) hx hb dX7_type_26 rfl ?_
      exact ms_riw Cx hI h dX7_type_28
  · have h := ms_ifT hc h
    refine lv_bipush (v := -2) hx hb dX7_type_11 rfl ?_
    exact ms_riw Cx hI h dX7_type_13
theorem yvX7_type : ms_YV yX7_type RX7 cX7_type 2 (some .int) 1 := ⟨wd_7_19, wd_7_20, wd_1_2, wd_7_21, rfl, by decide +kernel, by decide +kernel, by decide +kernel⟩
set_option maxHeartbeats 4000000 in
theorem metX7_type (l : Launch) (hDis : ms_Dis a shX.length) {σ : Mm} {p0 : Int32} {out : Int32 × Mm} (h : fX7_type p0 σ = some out) : Met l yX7_type (.code yX7_type cX7_type 2 (some .int) :: wsL_law) rmX7_type (ms_Pc D cA a shX [.ref (a 0), .int p0] σ) (ms_Qi D cA a shX out.1 out.2) 0 0 (ms_A a shX.length) := by
  refine Met.ofW (cc := cX7_type) (maxL := 2) (ret := (some .int)) (by decide) rfl ?_
  intro p e s m args below meth c s₁ B hml hv
  obtain ⟨rfl, hK, hN, hP⟩ := hv
  have hl := lv_entry ([.ref (a 0), .int p0]) (n := 2) (Nat.le_of_ble_eq_true rfl)
  rw [lg_entry_eq]
  generalize (lg_sl ([.ref (a 0), .int p0]) ++ List.replicate (2 - (lg_sl ([.ref (a 0), .int p0])).length) Slot.unset).toArray = ls at hl ⊢
  exact wX7_type ⟨B.exec, B.bytes, hml, findClass_of_methodNamed B.named, fun w hw => atoms_spec (ws := .code yX7_type cX7_type 2 (some .int) :: wsL_law) B.pre w (List.mem_cons_of_mem _ hw), B.returns, B.notSynchronized, hK, hDis, hN⟩ out p0 σ s.heap [] ls ⟨hP, va_S.rf⟩ hl h
theorem kX7_type (Cx : ms_C p s m args meth c D cA a shX cc nL own ret) {σ : Mm} {H : Heap} {locs : List Loc} (hI : ms_I D cA a shX s σ H locs) {p0 : Int32} {out : Int32 × Mm} (h : fX7_type p0 σ = some out) (hl : Cond.methodLink own idx yX7_type ∈ wsL_law) (hf : 6 + 1 ≤ R.frames) (hlo : 8 + (2 + 11) + 131 ≤ R.locals) (hsz : ls.size = nL) (hW : (rest.map fun v => v.category).sum ≤ 8) (hd : decode cc pc = .ok (.invokevirtual idx, 3)) (kk : ∀ (H1 : Heap) (locs1 : List Loc), ms_I D cA a shX s out.2 H1 locs1 → W p l e R s m args below meth c H1 locs1 0 0 Q (F0 m (pc + 3) ls (.int out.1 :: rest))) : W p l e R s m args below meth c H locs 0 0 Q (F0 m pc ls (.int p0 :: .ref (a 0) :: rest)) :=
  ms_ci hI (ms_runV (av := [.int p0]) Cx hI 0 shX_0 (ci := 7) rfl rfl yvX7_type (metX7_type l Cx.2.2.2.2.2.2.2.2.1  h) ⟨rfl, rfl⟩ hl ⟨hf, hlo⟩ rfl hsz rfl hW ⟨Nat.zero_le _, Nat.zero_le _⟩ hd) kk
/-! X7 wipe ()I -/
theorem dX7_wipe_0 : decode cX7_wipe 0 = .ok (.aload_n 0, 1) := by decide +kernel
theorem dX7_wipe_1 : decode cX7_wipe 1 = .ok (.getfield 12, 3) := by decide +kernel
theorem dX7_wipe_4 : decode cX7_wipe 4 = .ok (.getfield 86, 3) := by decide +kernel
theorem dX7_wipe_7 : decode cX7_wipe 7 = .ok (.istore_n 1, 1) := by decide +kernel
theorem dX7_wipe_8 : decode cX7_wipe 8 = .ok (.aload_n 0, 1) := by decide +kernel
theorem dX7_wipe_9 : decode cX7_wipe 9 = .ok (.getfield 12, 3) := by decide +kernel
theorem dX7_wipe_12 : decode cX7_wipe 12 = .ok (.iconst 0, 1) := by decide +kernel
theorem dX7_wipe_13 : decode cX7_wipe 13 = .ok (.putfield 86, 3) := by decide +kernel
theorem dX7_wipe_16 : decode cX7_wipe 16 = .ok (.aload_n 0, 1) := by decide +kernel
theorem dX7_wipe_17 : decode cX7_wipe 17 = .ok (.getfield 12, 3) := by decide +kernel
theorem dX7_wipe_20 : decode cX7_wipe 20 = .ok (.invokevirtual 93, 3) := by decide +kernel
theorem dX7_wipe_23 : decode cX7_wipe 23 = .ok (.aload_n 0, 1) := by decide +kernel
theorem dX7_wipe_24 : decode cX7_wipe 24 = .ok (.invokevirtual 96, 3) := by decide +kernel
theorem dX7_wipe_27 : decode cX7_wipe 27 = .ok (.iload_n 1, 1) := by decide +kernel
theorem dX7_wipe_28 : decode cX7_wipe 28 = .ok (.ireturn, 1) := by decide +kernel
abbrev rmX7_wipe : Room := { frames := 6, cells := 0, slots := 0, locals := 131 }
set_option maxHeartbeats 4000000 in
set_option maxRecDepth 100000 in
theorem wX7_wipe (Cx : ms_C p s m args meth c D cA a shX cX7_wipe 2 RX7 (some .int)) (out : Int32 × Mm) : ∀ (σ : Mm) (H : Heap) (locs : List Loc) (ls : Array Slot), ms_I D cA a shX s σ H locs → lv_has ls 2 [(0, .ref (a 0))] → fX7_wipe σ = some out → W p l e rmX7_wipe s m args below meth c H locs 0 0 (MQ below (ms_Qi D cA a shX out.1 out.2) args s 0 0 (ms_A a shX.length)) (F0 m 0 ls []) := by
  have hx := Cx.1
  have hb := Cx.2.1
  intro σ H locs ls hI hl h
  unfold fX7_wipe at h
  refine lv_aload_n hx hb dX7_wipe_0 rfl (lv_at hl 0 rfl) ?_
  refine gr_X7_0 Cx hI wd_1_15 dX7_wipe_1 ?_
  refine gi_X4_3 Cx hI wd_7_22 dX7_wipe_4 ?_
  refine lv_istore_n (lv' := [(1, .int (σ 1 3)), (0, .ref (a 0))]) hx hb dX7_wipe_7 rfl hl (by decide) rfl (fun ls hl => ?_)
  refine lv_aload_n hx hb dX7_wipe_8 rfl (lv_at hl 1 rfl) ?_
  refine gr_X7_0 Cx hI wd_1_15 dX7_wipe_9 ?_
  refine lv_iconst (v := 0) hx hb dX7_wipe_12 rfl ?_
  refine pi_X4_3 Cx hI wd_7_22 dX7_wipe_13 (fun H locs σ1 eσ1 hI => ?_)
  have h := ms_ltE eσ1 h
  refine lv_aload_n hx hb dX7_wipe_16 rfl (lv_at hl 1 rfl) ?_
  refine gr_X7_0 Cx hI wd_1_15 dX7_wipe_17 ?_
  obtain ⟨σ3, hc2, h⟩ := ms_bdE h
  refine kX4_parse Cx hI hc2 wd_8_6 (Nat.le_of_ble_eq_true rfl) (Nat.le_of_ble_eq_true rfl) hl.1 (Nat.le_of_ble_eq_true rfl) dX7_wipe_20 (fun H locs hI => ?_)
  refine lv_aload_n hx hb dX7_wipe_23 rfl (lv_at hl 1 rfl) ?_
  obtain ⟨σ5, hc4, h⟩ := ms_bdE h
  refine kX7_outdate Cx hI hc4 wd_10_8 (Nat.le_of_ble_eq_true rfl) (Nat.le_of_ble_eq_true rfl) hl.1 (Nat.le_of_ble_eq_true rfl) dX7_wipe_24 (fun H locs hI => ?_)
  refine lv_iload_n hx hb dX7_wipe_27 rfl (lv_at hl 0 rfl) ?_
  exact ms_riw Cx hI h dX7_wipe_28
theorem yvX7_wipe : ms_YV yX7_wipe RX7 cX7_wipe 2 (some .int) 0 := ⟨wd_11_0, wd_11_1, wd_1_2, wd_11_2, rfl, by decide +kernel, by decide +kernel, by decide +kernel⟩
set_option maxHeartbeats 4000000 in
theorem metX7_wipe (l : Launch) (hDis : ms_Dis a shX.length) {σ : Mm} {out : Int32 × Mm} (h : fX7_wipe σ = some out) : Met l yX7_wipe (.code yX7_wipe cX7_wipe 2 (some .int) :: wsL_law) rmX7_wipe (ms_Pc D cA a shX [.ref (a 0)] σ) (ms_Qi D cA a shX out.1 out.2) 0 0 (ms_A a shX.length) := by
  refine Met.ofW (cc := cX7_wipe) (maxL := 2) (ret := (some .int)) (by decide) rfl ?_
  intro p e s m args below meth c s₁ B hml hv
  obtain ⟨rfl, hK, hN, hP⟩ := hv
  have hl := lv_entry ([.ref (a 0)]) (n := 2) (Nat.le_of_ble_eq_true rfl)
  rw [lg_entry_eq]
  generalize (lg_sl ([.ref (a 0)]) ++ List.replicate (2 - (lg_sl ([.ref (a 0)])).length) Slot.unset).toArray = ls at hl ⊢
  exact wX7_wipe ⟨B.exec, B.bytes, hml, findClass_of_methodNamed B.named, fun w hw => atoms_spec (ws := .code yX7_wipe cX7_wipe 2 (some .int) :: wsL_law) B.pre w (List.mem_cons_of_mem _ hw), B.returns, B.notSynchronized, hK, hDis, hN⟩ out σ s.heap [] ls ⟨hP, va_S.rf⟩ hl h
theorem kX7_wipe (Cx : ms_C p s m args meth c D cA a shX cc nL own ret) {σ : Mm} {H : Heap} {locs : List Loc} (hI : ms_I D cA a shX s σ H locs) {out : Int32 × Mm} (h : fX7_wipe σ = some out) (hl : Cond.methodLink own idx yX7_wipe ∈ wsL_law) (hf : 6 + 1 ≤ R.frames) (hlo : 8 + (2 + 11) + 131 ≤ R.locals) (hsz : ls.size = nL) (hW : (rest.map fun v => v.category).sum ≤ 8) (hd : decode cc pc = .ok (.invokevirtual idx, 3)) (kk : ∀ (H1 : Heap) (locs1 : List Loc), ms_I D cA a shX s out.2 H1 locs1 → W p l e R s m args below meth c H1 locs1 0 0 Q (F0 m (pc + 3) ls (.int out.1 :: rest))) : W p l e R s m args below meth c H locs 0 0 Q (F0 m pc ls (.ref (a 0) :: rest)) :=
  ms_ci hI (ms_runV (av := []) Cx hI 0 shX_0 (ci := 7) rfl rfl yvX7_wipe (metX7_wipe l Cx.2.2.2.2.2.2.2.2.1  h) ⟨rfl, rfl⟩ hl ⟨hf, hlo⟩ rfl hsz rfl hW ⟨Nat.zero_le _, Nat.zero_le _⟩ hd) kk
/-! X7 fault ()I -/
theorem dX7_fault_0 : decode cX7_fault 0 = .ok (.aload_n 0, 1) := by decide +kernel
theorem dX7_fault_1 : decode cX7_fault 1 = .ok (.getfield 12, 3) := by decide +kernel
theorem dX7_fault_4 : decode cX7_fault 4 = .ok (.getfield 99, 3) := by decide +kernel
theorem dX7_fault_7 : decode cX7_fault 7 = .ok (.ireturn, 1) := by decide +kernel
abbrev rmX7_fault : Room := { frames := 0, cells := 0, slots := 0, locals := 0 }
set_option maxHeartbeats 4000000 in
set_option maxRecDepth 100000 in
theorem wX7_fault (Cx : ms_C p s m args meth c D cA a shX cX7_fault 1 RX7 (some .int)) (out : Int32) {σ : Mm} : ∀ (H : Heap) (locs : List Loc) (ls : Array Slot), ms_I D cA a shX s σ H locs → lv_has ls 1 [(0, .ref (a 0))] → fX7_fault σ = some out → W p l e rmX7_fault s m args below meth c H locs 0 0 (MQ below (ms_Qi D cA a shX out σ) args s 0 0 (ms_A a shX.length)) (F0 m 0 ls []) := by
  have hx := Cx.1
  have hb := Cx.2.1
  intro H locs ls hI hl h
  unfold fX7_fault at h
  refine lv_aload_n hx hb dX7_fault_0 rfl (lv_at hl 0 rfl) ?_
  refine gr_X7_0 Cx hI wd_1_15 dX7_fault_1 ?_
  refine gi_X4_7 Cx hI wd_11_11 dX7_fault_4 ?_
  exact ms_ri Cx hI (Option.some.inj h) rfl dX7_fault_7
theorem yvX7_fault : ms_YV yX7_fault RX7 cX7_fault 1 (some .int) 0 := ⟨wd_11_8, wd_11_9, wd_1_2, wd_11_10, rfl, by decide +kernel, by decide +kernel, by decide +kernel⟩
set_option maxHeartbeats 4000000 in
theorem metX7_fault (l : Launch) (hDis : ms_Dis a shX.length) {σ : Mm} {out : Int32} (h : fX7_fault σ = some out) : Met l yX7_fault (.code yX7_fault cX7_fault 1 (some .int) :: wsL_law) rmX7_fault (ms_Pc D cA a shX [.ref (a 0)] σ) (ms_Qi D cA a shX out σ) 0 0 (ms_A a shX.length) := by
  refine Met.ofW (cc := cX7_fault) (maxL := 1) (ret := (some .int)) (by decide) rfl ?_
  intro p e s m args below meth c s₁ B hml hv
  obtain ⟨rfl, hK, hN, hP⟩ := hv
  have hl := lv_entry ([.ref (a 0)]) (n := 1) (Nat.le_of_ble_eq_true rfl)
  rw [lg_entry_eq]
  generalize (lg_sl ([.ref (a 0)]) ++ List.replicate (1 - (lg_sl ([.ref (a 0)])).length) Slot.unset).toArray = ls at hl ⊢
  exact wX7_fault ⟨B.exec, B.bytes, hml, findClass_of_methodNamed B.named, fun w hw => atoms_spec (ws := .code yX7_fault cX7_fault 1 (some .int) :: wsL_law) B.pre w (List.mem_cons_of_mem _ hw), B.returns, B.notSynchronized, hK, hDis, hN⟩ out  s.heap [] ls ⟨hP, va_S.rf⟩ hl h
theorem kX7_fault (Cx : ms_C p s m args meth c D cA a shX cc nL own ret) {σ : Mm} {H : Heap} {locs : List Loc} (hI : ms_I D cA a shX s σ H locs) {out : Int32} (h : fX7_fault σ = some out) (hl : Cond.methodLink own idx yX7_fault ∈ wsL_law) (hf : 0 + 1 ≤ R.frames) (hlo : 8 + (1 + 11) + 0 ≤ R.locals) (hsz : ls.size = nL) (hW : (rest.map fun v => v.category).sum ≤ 8) (hd : decode cc pc = .ok (.invokevirtual idx, 3)) (kk : ∀ (H1 : Heap) (locs1 : List Loc), ms_I D cA a shX s σ H1 locs1 → W p l e R s m args below meth c H1 locs1 0 0 Q (F0 m (pc + 3) ls (.int out :: rest))) : W p l e R s m args below meth c H locs 0 0 Q (F0 m pc ls (.ref (a 0) :: rest)) :=
  ms_ci hI (ms_runV (av := []) Cx hI 0 shX_0 (ci := 7) rfl rfl yvX7_fault (metX7_fault l Cx.2.2.2.2.2.2.2.2.1  h) ⟨rfl, rfl⟩ hl ⟨hf, hlo⟩ rfl hsz rfl hW ⟨Nat.zero_le _, Nat.zero_le _⟩ hd) kk
/-! X7 thing (II)I -/
theorem dX7_thing_0 : decode cX7_thing 0 = .ok (.aload_n 0, 1) := by decide +kernel
theorem dX7_thing_1 : decode cX7_thing 1 = .ok (.getfield 12, 3) := by decide +kernel
theorem dX7_thing_4 : decode cX7_thing 4 = .ok (.iload_n 1, 1) := by decide +kernel
theorem dX7_thing_5 : decode cX7_thing 5 = .ok (.invokevirtual 102, 3) := by decide +kernel
theorem dX7_thing_8 : decode cX7_thing 8 = .ok (.ifCond .eq 12, 3) := by decide +kernel
theorem dX7_thing_11 : decode cX7_thing 11 = .ok (.iload_n 2, 1) := by decide +kernel
theorem dX7_thing_12 : decode cX7_thing 12 = .ok (.iconst 0, 1) := by decide +kernel
theorem dX7_thing_13 : decode cX7_thing 13 = .ok (.iconst 5, 1) := by decide +kernel
theorem dX7_thing_14 : decode cX7_thing 14 = .ok (.invokestatic 82, 3) := by decide +kernel
theorem dX7_thing_17 : decode cX7_thing 17 = .ok (.ifCond .ne 6, 3) := by decide +kernel
theorem dX7_thing_20 : decode cX7_thing 20 = .ok (.bipush (-2), 2) := by decide +kernel
theorem dX7_thing_22 : decode cX7_thing 22 = .ok (.ireturn, 1) := by decide +kernel
theorem dX7_thing_23 : decode cX7_thing 23 = .ok (.iload_n 2, 1) := by decide +kernel
theorem dX7_thing_24 : decode cX7_thing 24 = .ok (.iconst 4, 1) := by decide +kernel
theorem dX7_thing_25 : decode cX7_thing 25 = .ok (.if_icmp .ne 12, 3) := by decide +kernel
theorem dX7_thing_28 : decode cX7_thing 28 = .ok (.aload_n 0, 1) := by decide +kernel
theorem dX7_thing_29 : decode cX7_thing 29 = .ok (.getfield 31, 3) := by decide +kernel
theorem dX7_thing_32 : decode cX7_thing 32 = .ok (.iload_n 1, 1) := by decide +kernel
theorem dX7_thing_33 : decode cX7_thing 33 = .ok (.invokestatic 106, 3) := by decide +kernel
theorem dX7_thing_36 : decode cX7_thing 36 = .ok (.ireturn, 1) := by decide +kernel
theorem dX7_thing_37 : decode cX7_thing 37 = .ok (.iload_n 2, 1) := by decide +kernel
theorem dX7_thing_38 : decode cX7_thing 38 = .ok (.iconst 5, 1) := by decide +kernel
theorem dX7_thing_39 : decode cX7_thing 39 = .ok (.if_icmp .ne 10, 3) := by decide +kernel
theorem dX7_thing_42 : decode cX7_thing 42 = .ok (.aload_n 0, 1) := by decide +kernel
theorem dX7_thing_43 : decode cX7_thing 43 = .ok (.getfield 28, 3) := by decide +kernel
theorem dX7_thing_46 : decode cX7_thing 46 = .ok (.iload_n 1, 1) := by decide +kernel
theorem dX7_thing_47 : decode cX7_thing 47 = .ok (.iaload, 1) := by decide +kernel
theorem dX7_thing_48 : decode cX7_thing 48 = .ok (.ireturn, 1) := by decide +kernel
theorem dX7_thing_49 : decode cX7_thing 49 = .ok (.aload_n 0, 1) := by decide +kernel
theorem dX7_thing_50 : decode cX7_thing 50 = .ok (.getfield 12, 3) := by decide +kernel
theorem dX7_thing_53 : decode cX7_thing 53 = .ok (.iload_n 1, 1) := by decide +kernel
theorem dX7_thing_54 : decode cX7_thing 54 = .ok (.iload_n 2, 1) := by decide +kernel
theorem dX7_thing_55 : decode cX7_thing 55 = .ok (.invokevirtual 110, 3) := by decide +kernel
theorem dX7_thing_58 : decode cX7_thing 58 = .ok (.ireturn, 1) := by decide +kernel
abbrev rmX7_thing : Room := { frames := 1, cells := 0, slots := 0, locals := 22 }
set_option maxHeartbeats 4000000 in
set_option maxRecDepth 100000 in
theorem wX7_thing (Cx : ms_C p s m args meth c D cA a shX cX7_thing 3 RX7 (some .int)) (out : Int32) {σ : Mm} : ∀ (p0 : Int32) (p1 : Int32) , ∀ (H : Heap) (locs : List Loc) (ls : Array Slot), ms_I D cA a shX s σ H locs → lv_has ls 3 [(0, .ref (a 0)), (1, .int p0), (2, .int p1)] → fX7_thing σ p0 p1 = some out → W p l e rmX7_thing s m args below meth c H locs 0 0 (MQ below (ms_Qi D cA a shX out σ) args s 0 0 (ms_A a shX.length)) (F0 m 0 ls []) := by
  have hx := Cx.1
  have hb := Cx.2.1
  intro p0 p1 H locs ls hI hl h
  unfold fX7_thing at h
  refine lv_aload_n hx hb dX7_thing_0 rfl (lv_at hl 0 rfl) ?_
  refine gr_X7_0 Cx hI wd_1_15 dX7_thing_1 ?_
  refine lv_iload_n hx hb dX7_thing_4 rfl (lv_at hl 1 rfl) ?_
  obtain ⟨r2, hc1, h⟩ := ms_bdE h
  refine kX4_hasThing Cx hI hc1 wd_13_10 (Nat.le_of_ble_eq_true rfl) (Nat.le_of_ble_eq_true rfl) hl.1 (Nat.le_of_ble_eq_true rfl) dX7_thing_5 (fun H locs hI => ?_)
  refine lv_if_eq (tgt := 20) hx hb dX7_thing_8 rfl (fun hc => ?_) (fun hc => ?_)
  · have h := ms_ifT hc h
    refine lv_bipush (v := -2) hx hb dX7_thing_20 rfl ?_
    exact ms_ri Cx hI (Option.some.inj h) rfl dX7_thing_22
  · have h := ms_ifF hc h
    refine lv_iload_n hx hb dX7_thing_11 rfl (lv_at hl 2 rfl) ?_
    refine lv_iconst (v := 0) hx hb dX7_thing_12 rfl ?_
    refine lv_iconst (v := 5) hx hb dX7_thing_13 rfl ?_
    obtain ⟨r4, hc3, h⟩ := ms_bdE h
    refine kX7_within Cx hI hc3 (Or.inl wd_7_23) (Nat.le_of_ble_eq_true rfl) (Nat.le_of_ble_eq_true rfl) hl.1 (Nat.le_of_ble_eq_true rfl) dX7_thing_14 (fun H locs hI => ?_)
    refine lv_if_ne (tgt := 23) hx hb dX7_thing_17 rfl (fun hc => ?_) (fun hc => ?_)
    · have h := ms_ifF hc h
      refine lv_iload_n hx hb dX7_thing_23 rfl (lv_at hl 2 rfl) ?_
      refine lv_iconst (v := 4) hx hb dX7_thing_24 rfl ?_
      refine lv_icmp_ne (tgt := 37) hx hb dX7_thing_25 rfl (fun hc => ?_) (fun hc => ?_)
      · have h := ms_ifF hc h
        refine lv_iload_n hx hb dX7_thing_37 rfl (lv_at hl 2 rfl) ?_
        refine lv_iconst (v := 5) hx hb dX7_thing_38 rfl ?_
        refine lv_icmp_ne (tgt := 49) hx hb dX7_thing_39 rfl (fun hc => ?_) (fun hc => ?_)
        · have h := ms_ifF hc h
          refine lv_aload_n hx hb dX7_thing_49 rfl (lv_at hl 0 rfl) ?_
          refine gr_X7_0 Cx hI wd_1_15 dX7_thing_50 ?_
          refine lv_iload_n hx hb dX7_thing_53 rfl (lv_at hl 1 rfl) ?_
          refine lv_iload_n hx hb dX7_thing_54 rfl (lv_at hl 2 rfl) ?_
          obtain ⟨r6, hc5, h⟩ := ms_bdE h
          refine kX4_ofThing Cx hI hc5 wd_13_15 (Nat.le_of_ble_eq_true rfl) (Nat.le_of_ble_eq_true rfl) hl.1 (Nat.le_of_ble_eq_true rfl) dX7_thing_55 (fun H locs hI => ?_)
          exact ms_ri Cx hI (Option.some.inj h) rfl dX7_thing_58
        · have h := ms_ifT hc h
          refine lv_aload_n hx hb dX7_thing_42 rfl (lv_at hl 0 rfl) ?_
          refine gr_X7_2 Cx hI wd_2_1 dX7_thing_43 ?_
          refine lv_iload_n hx hb dX7_thing_46 rfl (lv_at hl 1 rfl) ?_
          obtain ⟨hg, h⟩ := ms_gE h
          refine ms_ld Cx hI 6 shX_6 hg dX7_thing_47 ?_
          exact ms_ri Cx hI (Option.some.inj h) rfl dX7_thing_48
      · have h := ms_ifT hc h
        refine lv_aload_n hx hb dX7_thing_28 rfl (lv_at hl 0 rfl) ?_
        refine gi_X7_3 Cx hI wd_2_2 dX7_thing_29 ?_
        refine lv_iload_n hx hb dX7_thing_32 rfl (lv_at hl 1 rfl) ?_
        obtain ⟨r8, hc7, h⟩ := ms_bdE h
        refine kX7_bit Cx hI hc7 (Or.inl wd_13_14) (Nat.le_of_ble_eq_true rfl) (Nat.le_of_ble_eq_true rfl) hl.1 (Nat.le_of_ble_eq_true rfl) dX7_thing_33 (fun H locs hI => ?_)
        exact ms_ri Cx hI (Option.some.inj h) rfl dX7_thing_36
    · have h := ms_ifT hc h
      refine lv_bipush (v := -2) hx hb dX7_thing_20 rfl ?_
      exact ms_ri Cx hI (Option.some.inj h) rfl dX7_thing_22
theorem yvX7_thing : ms_YV yX7_thing RX7 cX7_thing 3 (some .int) 2 := ⟨wd_13_7, wd_13_8, wd_1_2, wd_13_9, rfl, by decide +kernel, by decide +kernel, by decide +kernel⟩
set_option maxHeartbeats 4000000 in
theorem metX7_thing (l : Launch) (hDis : ms_Dis a shX.length) {σ : Mm} {p0 : Int32} {p1 : Int32} {out : Int32} (h : fX7_thing σ p0 p1 = some out) : Met l yX7_thing (.code yX7_thing cX7_thing 3 (some .int) :: wsL_law) rmX7_thing (ms_Pc D cA a shX [.ref (a 0), .int p0, .int p1] σ) (ms_Qi D cA a shX out σ) 0 0 (ms_A a shX.length) := by
  refine Met.ofW (cc := cX7_thing) (maxL := 3) (ret := (some .int)) (by decide) rfl ?_
  intro p e s m args below meth c s₁ B hml hv
  obtain ⟨rfl, hK, hN, hP⟩ := hv
  have hl := lv_entry ([.ref (a 0), .int p0, .int p1]) (n := 3) (Nat.le_of_ble_eq_true rfl)
  rw [lg_entry_eq]
  generalize (lg_sl ([.ref (a 0), .int p0, .int p1]) ++ List.replicate (3 - (lg_sl ([.ref (a 0), .int p0, .int p1])).length) Slot.unset).toArray = ls at hl ⊢
  exact wX7_thing ⟨B.exec, B.bytes, hml, findClass_of_methodNamed B.named, fun w hw => atoms_spec (ws := .code yX7_thing cX7_thing 3 (some .int) :: wsL_law) B.pre w (List.mem_cons_of_mem _ hw), B.returns, B.notSynchronized, hK, hDis, hN⟩ out p0 p1 s.heap [] ls ⟨hP, va_S.rf⟩ hl h
theorem kX7_thing (Cx : ms_C p s m args meth c D cA a shX cc nL own ret) {σ : Mm} {H : Heap} {locs : List Loc} (hI : ms_I D cA a shX s σ H locs) {p0 : Int32} {p1 : Int32} {out : Int32} (h : fX7_thing σ p0 p1 = some out) (hl : Cond.methodLink own idx yX7_thing ∈ wsL_law) (hf : 1 + 1 ≤ R.frames) (hlo : 8 + (3 + 11) + 22 ≤ R.locals) (hsz : ls.size = nL) (hW : (rest.map fun v => v.category).sum ≤ 8) (hd : decode cc pc = .ok (.invokevirtual idx, 3)) (kk : ∀ (H1 : Heap) (locs1 : List Loc), ms_I D cA a shX s σ H1 locs1 → W p l e R s m args below meth c H1 locs1 0 0 Q (F0 m (pc + 3) ls (.int out :: rest))) : W p l e R s m args below meth c H locs 0 0 Q (F0 m pc ls (.int p1 :: .int p0 :: .ref (a 0) :: rest)) :=
  ms_ci hI (ms_runV (av := [.int p0, .int p1]) Cx hI 0 shX_0 (ci := 7) rfl rfl yvX7_thing (metX7_thing l Cx.2.2.2.2.2.2.2.2.1  h) ⟨rfl, rfl⟩ hl ⟨hf, hlo⟩ rfl hsz rfl hW ⟨Nat.zero_le _, Nat.zero_le _⟩ hd) kk
/-! X7 handle (I)I -/
theorem dX7_handle_0 : decode cX7_handle 0 = .ok (.iload_n 1, 1) := by decide +kernel
theorem dX7_handle_1 : decode cX7_handle 1 = .ok (.iconst 0, 1) := by decide +kernel
theorem dX7_handle_2 : decode cX7_handle 2 = .ok (.bipush 8, 2) := by decide +kernel
theorem dX7_handle_4 : decode cX7_handle 4 = .ok (.invokestatic 82, 3) := by decide +kernel
theorem dX7_handle_7 : decode cX7_handle 7 = .ok (.ifCond .ne 6, 3) := by decide +kernel
theorem dX7_handle_10 : decode cX7_handle 10 = .ok (.bipush (-2), 2) := by decide +kernel
theorem dX7_handle_12 : decode cX7_handle 12 = .ok (.ireturn, 1) := by decide +kernel
theorem dX7_handle_13 : decode cX7_handle 13 = .ok (.aload_n 0, 1) := by decide +kernel
theorem dX7_handle_14 : decode cX7_handle 14 = .ok (.getfield 12, 3) := by decide +kernel
theorem dX7_handle_17 : decode cX7_handle 17 = .ok (.getfield 113, 3) := by decide +kernel
theorem dX7_handle_20 : decode cX7_handle 20 = .ok (.iload_n 1, 1) := by decide +kernel
theorem dX7_handle_21 : decode cX7_handle 21 = .ok (.invokestatic 106, 3) := by decide +kernel
theorem dX7_handle_24 : decode cX7_handle 24 = .ok (.ireturn, 1) := by decide +kernel
abbrev rmX7_handle : Room := { frames := 1, cells := 0, slots := 0, locals := 22 }
set_option maxHeartbeats 4000000 in
set_option maxRecDepth 100000 in
theorem wX7_handle (Cx : ms_C p s m args meth c D cA a shX cX7_handle 2 RX7 (some .int)) (out : Int32) {σ : Mm} : ∀ (p0 : Int32) , ∀ (H : Heap) (locs : List Loc) (ls : Array Slot), ms_I D cA a shX s σ H locs → lv_has ls 2 [(0, .ref (a 0)), (1, .int p0)] → fX7_handle σ p0 = some out → W p l e rmX7_handle s m args below meth c H locs 0 0 (MQ below (ms_Qi D cA a shX out σ) args s 0 0 (ms_A a shX.length)) (F0 m 0 ls []) := by
  have hx := Cx.1
  have hb := Cx.2.1
  intro p0 H locs ls hI hl h
  unfold fX7_handle at h
  refine lv_iload_n hx hb dX7_handle_0 rfl (lv_at hl 1 rfl) ?_
  refine lv_iconst (v := 0) hx hb dX7_handle_1 rfl ?_
  refine lv_bipush (v := 8) hx hb dX7_handle_2 rfl ?_
  obtain ⟨r2, hc1, h⟩ := ms_bdE h
  refine kX7_within Cx hI hc1 (Or.inl wd_7_23) (Nat.le_of_ble_eq_true rfl) (Nat.le_of_ble_eq_true rfl) hl.1 (Nat.le_of_ble_eq_true rfl) dX7_handle_4 (fun H locs hI => ?_)
  refine lv_if_ne (tgt := 13) hx hb dX7_handle_7 rfl (fun hc => ?_) (fun hc => ?_)
  · have h := ms_ifF hc h
    refine lv_aload_n hx hb dX7_handle_13 rfl (lv_at hl 0 rfl) ?_
    refine gr_X7_0 Cx hI wd_1_15 dX7_handle_14 ?_
    refine gi_X4_6 Cx hI wd_14_11 dX7_handle_17 ?_
    refine lv_iload_n hx hb dX7_handle_20 rfl (lv_at hl 1 rfl) ?_
    obtain ⟨r4, hc3, h⟩ := ms_bdE h
    refine kX7_bit Cx hI hc3 (Or.inl wd_13_14) (Nat.le_of_ble_eq_true rfl) (Nat.le_of_ble_eq_true rfl) hl.1 (Nat.le_of_ble_eq_true rfl) dX7_handle_21 (fun H locs hI => ?_)
    exact ms_ri Cx hI (Option.some.inj h) rfl dX7_handle_24
  · have h := ms_ifT hc h
    refine lv_bipush (v := -2) hx hb dX7_handle_10 rfl ?_
    exact ms_ri Cx hI (Option.some.inj h) rfl dX7_handle_12
theorem yvX7_handle : ms_YV yX7_handle RX7 cX7_handle 2 (some .int) 1 := ⟨wd_14_8, wd_14_9, wd_1_2, wd_14_10, rfl, by decide +kernel, by decide +kernel, by decide +kernel⟩
set_option maxHeartbeats 4000000 in
theorem metX7_handle (l : Launch) (hDis : ms_Dis a shX.length) {σ : Mm} {p0 : Int32} {out : Int32} (h : fX7_handle σ p0 = some out) : Met l yX7_handle (.code yX7_handle cX7_handle 2 (some .int) :: wsL_law) rmX7_handle (ms_Pc D cA a shX [.ref (a 0), .int p0] σ) (ms_Qi D cA a shX out σ) 0 0 (ms_A a shX.length) := by
  refine Met.ofW (cc := cX7_handle) (maxL := 2) (ret := (some .int)) (by decide) rfl ?_
  intro p e s m args below meth c s₁ B hml hv
  obtain ⟨rfl, hK, hN, hP⟩ := hv
  have hl := lv_entry ([.ref (a 0), .int p0]) (n := 2) (Nat.le_of_ble_eq_true rfl)
  rw [lg_entry_eq]
  generalize (lg_sl ([.ref (a 0), .int p0]) ++ List.replicate (2 - (lg_sl ([.ref (a 0), .int p0])).length) Slot.unset).toArray = ls at hl ⊢
  exact wX7_handle ⟨B.exec, B.bytes, hml, findClass_of_methodNamed B.named, fun w hw => atoms_spec (ws := .code yX7_handle cX7_handle 2 (some .int) :: wsL_law) B.pre w (List.mem_cons_of_mem _ hw), B.returns, B.notSynchronized, hK, hDis, hN⟩ out p0 s.heap [] ls ⟨hP, va_S.rf⟩ hl h
theorem kX7_handle (Cx : ms_C p s m args meth c D cA a shX cc nL own ret) {σ : Mm} {H : Heap} {locs : List Loc} (hI : ms_I D cA a shX s σ H locs) {p0 : Int32} {out : Int32} (h : fX7_handle σ p0 = some out) (hl : Cond.methodLink own idx yX7_handle ∈ wsL_law) (hf : 1 + 1 ≤ R.frames) (hlo : 8 + (2 + 11) + 22 ≤ R.locals) (hsz : ls.size = nL) (hW : (rest.map fun v => v.category).sum ≤ 8) (hd : decode cc pc = .ok (.invokevirtual idx, 3)) (kk : ∀ (H1 : Heap) (locs1 : List Loc), ms_I D cA a shX s σ H1 locs1 → W p l e R s m args below meth c H1 locs1 0 0 Q (F0 m (pc + 3) ls (.int out :: rest))) : W p l e R s m args below meth c H locs 0 0 Q (F0 m pc ls (.int p0 :: .ref (a 0) :: rest)) :=
  ms_ci hI (ms_runV (av := [.int p0]) Cx hI 0 shX_0 (ci := 7) rfl rfl yvX7_handle (metX7_handle l Cx.2.2.2.2.2.2.2.2.1  h) ⟨rfl, rfl⟩ hl ⟨hf, hlo⟩ rfl hsz rfl hW ⟨Nat.zero_le _, Nat.zero_le _⟩ hd) kk
/-! X7 group (II)I -/
theorem dX7_group_0 : decode cX7_group 0 = .ok (.aload_n 0, 1) := by decide +kernel
theorem dX7_group_1 : decode cX7_group 1 = .ok (.getfield 12, 3) := by decide +kernel
theorem dX7_group_4 : decode cX7_group 4 = .ok (.iload_n 1, 1) := by decide +kernel
theorem dX7_group_5 : decode cX7_group 5 = .ok (.invokevirtual 116, 3) := by decide +kernel
theorem dX7_group_8 : decode cX7_group 8 = .ok (.ifCond .eq 12, 3) := by decide +kernel
theorem dX7_group_11 : decode cX7_group 11 = .ok (.iload_n 2, 1) := by decide +kernel
theorem dX7_group_12 : decode cX7_group 12 = .ok (.iconst 0, 1) := by decide +kernel
theorem dX7_group_13 : decode cX7_group 13 = .ok (.iconst 5, 1) := by decide +kernel
theorem dX7_group_14 : decode cX7_group 14 = .ok (.invokestatic 82, 3) := by decide +kernel
theorem dX7_group_17 : decode cX7_group 17 = .ok (.ifCond .ne 6, 3) := by decide +kernel
theorem dX7_group_20 : decode cX7_group 20 = .ok (.bipush (-2), 2) := by decide +kernel
theorem dX7_group_22 : decode cX7_group 22 = .ok (.ireturn, 1) := by decide +kernel
theorem dX7_group_23 : decode cX7_group 23 = .ok (.aload_n 0, 1) := by decide +kernel
theorem dX7_group_24 : decode cX7_group 24 = .ok (.getfield 12, 3) := by decide +kernel
theorem dX7_group_27 : decode cX7_group 27 = .ok (.iload_n 1, 1) := by decide +kernel
theorem dX7_group_28 : decode cX7_group 28 = .ok (.iload_n 2, 1) := by decide +kernel
theorem dX7_group_29 : decode cX7_group 29 = .ok (.invokevirtual 119, 3) := by decide +kernel
theorem dX7_group_32 : decode cX7_group 32 = .ok (.ireturn, 1) := by decide +kernel
abbrev rmX7_group : Room := { frames := 1, cells := 0, slots := 0, locals := 22 }
set_option maxHeartbeats 4000000 in
set_option maxRecDepth 100000 in
theorem wX7_group (Cx : ms_C p s m args meth c D cA a shX cX7_group 3 RX7 (some .int)) (out : Int32) {σ : Mm} : ∀ (p0 : Int32) (p1 : Int32) , ∀ (H : Heap) (locs : List Loc) (ls : Array Slot), ms_I D cA a shX s σ H locs → lv_has ls 3 [(0, .ref (a 0)), (1, .int p0), (2, .int p1)] → fX7_group σ p0 p1 = some out → W p l e rmX7_group s m args below meth c H locs 0 0 (MQ below (ms_Qi D cA a shX out σ) args s 0 0 (ms_A a shX.length)) (F0 m 0 ls []) := by
  have hx := Cx.1
  have hb := Cx.2.1
  intro p0 p1 H locs ls hI hl h
  unfold fX7_group at h
  refine lv_aload_n hx hb dX7_group_0 rfl (lv_at hl 0 rfl) ?_
  refine gr_X7_0 Cx hI wd_1_15 dX7_group_1 ?_
  refine lv_iload_n hx hb dX7_group_4 rfl (lv_at hl 1 rfl) ?_
  obtain ⟨r2, hc1, h⟩ := ms_bdE h
  refine kX4_hasGroup Cx hI hc1 wd_15_0 (Nat.le_of_ble_eq_true rfl) (Nat.le_of_ble_eq_true rfl) hl.1 (Nat.le_of_ble_eq_true rfl) dX7_group_5 (fun H locs hI => ?_)
  refine lv_if_eq (tgt := 20) hx hb dX7_group_8 rfl (fun hc => ?_) (fun hc => ?_)
  · have h := ms_ifT hc h
    refine lv_bipush (v := -2) hx hb dX7_group_20 rfl ?_
    exact ms_ri Cx hI (Option.some.inj h) rfl dX7_group_22
  · have h := ms_ifF hc h
    refine lv_iload_n hx hb dX7_group_11 rfl (lv_at hl 2 rfl) ?_
    refine lv_iconst (v := 0) hx hb dX7_group_12 rfl ?_
    refine lv_iconst (v := 5) hx hb dX7_group_13 rfl ?_
    obtain ⟨r4, hc3, h⟩ := ms_bdE h
    refine kX7_within Cx hI hc3 (Or.inl wd_7_23) (Nat.le_of_ble_eq_true rfl) (Nat.le_of_ble_eq_true rfl) hl.1 (Nat.le_of_ble_eq_true rfl) dX7_group_14 (fun H locs hI => ?_)
    refine lv_if_ne (tgt := 23) hx hb dX7_group_17 rfl (fun hc => ?_) (fun hc => ?_)
    · have h := ms_ifF hc h
      refine lv_aload_n hx hb dX7_group_23 rfl (lv_at hl 0 rfl) ?_
      refine gr_X7_0 Cx hI wd_1_15 dX7_group_24 ?_
      refine lv_iload_n hx hb dX7_group_27 rfl (lv_at hl 1 rfl) ?_
      refine lv_iload_n hx hb dX7_group_28 rfl (lv_at hl 2 rfl) ?_
      obtain ⟨r6, hc5, h⟩ := ms_bdE h
      refine kX4_ofGroup Cx hI hc5 wd_15_4 (Nat.le_of_ble_eq_true rfl) (Nat.le_of_ble_eq_true rfl) hl.1 (Nat.le_of_ble_eq_true rfl) dX7_group_29 (fun H locs hI => ?_)
      exact ms_ri Cx hI (Option.some.inj h) rfl dX7_group_32
    · have h := ms_ifT hc h
      refine lv_bipush (v := -2) hx hb dX7_group_20 rfl ?_
      exact ms_ri Cx hI (Option.some.inj h) rfl dX7_group_22
theorem yvX7_group : ms_YV yX7_group RX7 cX7_group 3 (some .int) 2 := ⟨wd_14_21, wd_14_22, wd_1_2, wd_14_23, rfl, by decide +kernel, by decide +kernel, by decide +kernel⟩
set_option maxHeartbeats 4000000 in
theorem metX7_group (l : Launch) (hDis : ms_Dis a shX.length) {σ : Mm} {p0 : Int32} {p1 : Int32} {out : Int32} (h : fX7_group σ p0 p1 = some out) : Met l yX7_group (.code yX7_group cX7_group 3 (some .int) :: wsL_law) rmX7_group (ms_Pc D cA a shX [.ref (a 0), .int p0, .int p1] σ) (ms_Qi D cA a shX out σ) 0 0 (ms_A a shX.length) := by
  refine Met.ofW (cc := cX7_group) (maxL := 3) (ret := (some .int)) (by decide) rfl ?_
  intro p e s m args below meth c s₁ B hml hv
  obtain ⟨rfl, hK, hN, hP⟩ := hv
  have hl := lv_entry ([.ref (a 0), .int p0, .int p1]) (n := 3) (Nat.le_of_ble_eq_true rfl)
  rw [lg_entry_eq]
  generalize (lg_sl ([.ref (a 0), .int p0, .int p1]) ++ List.replicate (3 - (lg_sl ([.ref (a 0), .int p0, .int p1])).length) Slot.unset).toArray = ls at hl ⊢
  exact wX7_group ⟨B.exec, B.bytes, hml, findClass_of_methodNamed B.named, fun w hw => atoms_spec (ws := .code yX7_group cX7_group 3 (some .int) :: wsL_law) B.pre w (List.mem_cons_of_mem _ hw), B.returns, B.notSynchronized, hK, hDis, hN⟩ out p0 p1 s.heap [] ls ⟨hP, va_S.rf⟩ hl h
theorem kX7_group (Cx : ms_C p s m args meth c D cA a shX cc nL own ret) {σ : Mm} {H : Heap} {locs : List Loc} (hI : ms_I D cA a shX s σ H locs) {p0 : Int32} {p1 : Int32} {out : Int32} (h : fX7_group σ p0 p1 = some out) (hl : Cond.methodLink own idx yX7_group ∈ wsL_law) (hf : 1 + 1 ≤ R.frames) (hlo : 8 + (3 + 11) + 22 ≤ R.locals) (hsz : ls.size = nL) (hW : (rest.map fun v => v.category).sum ≤ 8) (hd : decode cc pc = .ok (.invokevirtual idx, 3)) (kk : ∀ (H1 : Heap) (locs1 : List Loc), ms_I D cA a shX s σ H1 locs1 → W p l e R s m args below meth c H1 locs1 0 0 Q (F0 m (pc + 3) ls (.int out :: rest))) : W p l e R s m args below meth c H locs 0 0 Q (F0 m pc ls (.int p1 :: .int p0 :: .ref (a 0) :: rest)) :=
  ms_ci hI (ms_runV (av := [.int p0, .int p1]) Cx hI 0 shX_0 (ci := 7) rfl rfl yvX7_group (metX7_group l Cx.2.2.2.2.2.2.2.2.1  h) ⟨rfl, rfl⟩ hl ⟨hf, hlo⟩ rfl hsz rfl hW ⟨Nat.zero_le _, Nat.zero_le _⟩ hd) kk
/-! X7 set (II)I -/
theorem dX7_set_0 : decode cX7_set 0 = .ok (.iload_n 1, 1) := by decide +kernel
theorem dX7_set_1 : decode cX7_set 1 = .ok (.iconst 0, 1) := by decide +kernel
theorem dX7_set_2 : decode cX7_set 2 = .ok (.bipush 8, 2) := by decide +kernel
theorem dX7_set_4 : decode cX7_set 4 = .ok (.invokestatic 82, 3) := by decide +kernel
theorem dX7_set_7 : decode cX7_set 7 = .ok (.ifCond .eq 20, 3) := by decide +kernel
theorem dX7_set_10 : decode cX7_set 10 = .ok (.iload_n 2, 1) := by decide +kernel
theorem dX7_set_11 : decode cX7_set 11 = .ok (.getstatic 122, 3) := by decide +kernel
theorem dX7_set_14 : decode cX7_set 14 = .ok (.iload_n 1, 1) := by decide +kernel
theorem dX7_set_15 : decode cX7_set 15 = .ok (.iaload, 1) := by decide +kernel
theorem dX7_set_16 : decode cX7_set 16 = .ok (.getstatic 125, 3) := by decide +kernel
theorem dX7_set_19 : decode cX7_set 19 = .ok (.iload_n 1, 1) := by decide +kernel
theorem dX7_set_20 : decode cX7_set 20 = .ok (.iaload, 1) := by decide +kernel
theorem dX7_set_21 : decode cX7_set 21 = .ok (.invokestatic 82, 3) := by decide +kernel
theorem dX7_set_24 : decode cX7_set 24 = .ok (.ifCond .ne 6, 3) := by decide +kernel
theorem dX7_set_27 : decode cX7_set 27 = .ok (.bipush (-5), 2) := by decide +kernel
theorem dX7_set_29 : decode cX7_set 29 = .ok (.ireturn, 1) := by decide +kernel
theorem dX7_set_30 : decode cX7_set 30 = .ok (.aload_n 0, 1) := by decide +kernel
theorem dX7_set_31 : decode cX7_set 31 = .ok (.getfield 25, 3) := by decide +kernel
theorem dX7_set_34 : decode cX7_set 34 = .ok (.iload_n 1, 1) := by decide +kernel
theorem dX7_set_35 : decode cX7_set 35 = .ok (.iaload, 1) := by decide +kernel
theorem dX7_set_36 : decode cX7_set 36 = .ok (.istore_n 3, 1) := by decide +kernel
theorem dX7_set_37 : decode cX7_set 37 = .ok (.aload_n 0, 1) := by decide +kernel
theorem dX7_set_38 : decode cX7_set 38 = .ok (.getfield 25, 3) := by decide +kernel
theorem dX7_set_41 : decode cX7_set 41 = .ok (.iload_n 1, 1) := by decide +kernel
theorem dX7_set_42 : decode cX7_set 42 = .ok (.iload_n 2, 1) := by decide +kernel
theorem dX7_set_43 : decode cX7_set 43 = .ok (.iastore, 1) := by decide +kernel
theorem dX7_set_44 : decode cX7_set 44 = .ok (.aload_n 0, 1) := by decide +kernel
theorem dX7_set_45 : decode cX7_set 45 = .ok (.invokevirtual 96, 3) := by decide +kernel
theorem dX7_set_48 : decode cX7_set 48 = .ok (.iload_n 3, 1) := by decide +kernel
theorem dX7_set_49 : decode cX7_set 49 = .ok (.ireturn, 1) := by decide +kernel
abbrev rmX7_set : Room := { frames := 1, cells := 0, slots := 0, locals := 22 }
set_option maxHeartbeats 4000000 in
set_option maxRecDepth 100000 in
theorem wX7_set (Cx : ms_C p s m args meth c D cA a shX cX7_set 4 RX7 (some .int)) {t_SETTING_LEAST t_SETTING_MOST t_DIGEST_HOURS : Nat} (hZ : ms_ZS (ms_A a shX.length) t_SETTING_LEAST t_SETTING_MOST t_DIGEST_HOURS s s.heap) (out : Int32 × Mm) : ∀ (p0 : Int32) (p1 : Int32) , ∀ (σ : Mm) (H : Heap) (locs : List Loc) (ls : Array Slot), ms_I D cA a shX s σ H locs → lv_has ls 4 [(0, .ref (a 0)), (1, .int p0), (2, .int p1)] → fX7_set p0 p1 σ = some out → W p l e rmX7_set s m args below meth c H locs 0 0 (MQ below (ms_Qi D cA a shX out.1 out.2) args s 0 0 (ms_A a shX.length)) (F0 m 0 ls []) := by
  have hx := Cx.1
  have hb := Cx.2.1
  obtain ⟨hZ_SETTING_LEAST, hZ_SETTING_MOST, hZ_DIGEST_HOURS⟩ := id hZ
  intro p0 p1 σ H locs ls hI hl h
  unfold fX7_set at h
  refine lv_iload_n hx hb dX7_set_0 rfl (lv_at hl 1 rfl) ?_
  refine lv_iconst (v := 0) hx hb dX7_set_1 rfl ?_
  refine lv_bipush (v := 8) hx hb dX7_set_2 rfl ?_
  obtain ⟨r2, hc1, h⟩ := ms_bdE h
  refine kX7_within Cx hI hc1 (Or.inl wd_7_23) (Nat.le_of_ble_eq_true rfl) (Nat.le_of_ble_eq_true rfl) hl.1 (Nat.le_of_ble_eq_true rfl) dX7_set_4 (fun H locs hI => ?_)
  refine lv_if_eq (tgt := 27) hx hb dX7_set_7 rfl (fun hc => ?_) (fun hc => ?_)
  · have h := ms_ifT hc h
    refine lv_bipush (v := -5) hx hb dX7_set_27 rfl ?_
    exact ms_riw Cx hI h dX7_set_29
  · have h := ms_ifF hc h
    refine lv_iload_n hx hb dX7_set_10 rfl (lv_at hl 2 rfl) ?_
    refine ms_gz Cx hZ_SETTING_LEAST hI wd_15_20 dX7_set_11 ?_
    refine lv_iload_n hx hb dX7_set_14 rfl (lv_at hl 1 rfl) ?_
    obtain ⟨hg, h⟩ := ms_gE h
    refine ms_zld Cx hZ_SETTING_LEAST hI hg dX7_set_15 ?_
    refine ms_gz Cx hZ_SETTING_MOST hI wd_15_21 dX7_set_16 ?_
    refine lv_iload_n hx hb dX7_set_19 rfl (lv_at hl 1 rfl) ?_
    obtain ⟨hg, h⟩ := ms_gE h
    refine ms_zld Cx hZ_SETTING_MOST hI hg dX7_set_20 ?_
    obtain ⟨r4, hc3, h⟩ := ms_bdE h
    refine kX7_within Cx hI hc3 (Or.inl wd_7_23) (Nat.le_of_ble_eq_true rfl) (Nat.le_of_ble_eq_true rfl) hl.1 (Nat.le_of_ble_eq_true rfl) dX7_set_21 (fun H locs hI => ?_)
    refine lv_if_ne (tgt := 30) hx hb dX7_set_24 rfl (fun hc => ?_) (fun hc => ?_)
    · have h := ms_ifF hc h
      refine lv_aload_n hx hb dX7_set_30 rfl (lv_at hl 0 rfl) ?_
      refine gr_X7_1 Cx hI wd_1_23 dX7_set_31 ?_
      refine lv_iload_n hx hb dX7_set_34 rfl (lv_at hl 1 rfl) ?_
      obtain ⟨hg, h⟩ := ms_gE h
      refine ms_ld Cx hI 5 shX_5 hg dX7_set_35 ?_
      refine lv_istore_n (lv' := [(3, .int (σ 5 (ms_ix p0))), (0, .ref (a 0)), (1, .int p0), (2, .int p1)]) hx hb dX7_set_36 rfl hl (by decide) rfl (fun ls hl => ?_)
      refine lv_aload_n hx hb dX7_set_37 rfl (lv_at hl 1 rfl) ?_
      refine gr_X7_1 Cx hI wd_1_23 dX7_set_38 ?_
      refine lv_iload_n hx hb dX7_set_41 rfl (lv_at hl 2 rfl) ?_
      refine lv_iload_n hx hb dX7_set_42 rfl (lv_at hl 3 rfl) ?_
      obtain ⟨hg, h⟩ := ms_gE h
      refine ms_sto Cx hI 5 shX_5 hg dX7_set_43 (fun H locs σ5 eσ5 hI => ?_)
      have h := ms_ltE eσ5 h
      refine lv_aload_n hx hb dX7_set_44 rfl (lv_at hl 1 rfl) ?_
      obtain ⟨σ7, hc6, h⟩ := ms_bdE h
      refine kX7_outdate Cx hI hc6 wd_10_8 (Nat.le_of_ble_eq_true rfl) (Nat.le_of_ble_eq_true rfl) hl.1 (Nat.le_of_ble_eq_true rfl) dX7_set_45 (fun H locs hI => ?_)
      refine lv_iload_n hx hb dX7_set_48 rfl (lv_at hl 0 rfl) ?_
      exact ms_riw Cx hI h dX7_set_49
    · have h := ms_ifT hc h
      refine lv_bipush (v := -5) hx hb dX7_set_27 rfl ?_
      exact ms_riw Cx hI h dX7_set_29
theorem yvX7_set : ms_YV yX7_set RX7 cX7_set 4 (some .int) 2 := ⟨wd_15_17, wd_15_18, wd_1_2, wd_15_19, rfl, by decide +kernel, by decide +kernel, by decide +kernel⟩
set_option maxHeartbeats 4000000 in
theorem metX7_set (l : Launch) (hDis : ms_Dis a shX.length) {σ : Mm} {p0 : Int32} {p1 : Int32} {out : Int32 × Mm} (h : fX7_set p0 p1 σ = some out) : Met l yX7_set (.code yX7_set cX7_set 4 (some .int) :: wsL_law) rmX7_set (ms_PcZ D cA a shX [.ref (a 0), .int p0, .int p1] σ) (ms_Qi D cA a shX out.1 out.2) 0 0 (ms_A a shX.length) := by
  refine Met.ofW (cc := cX7_set) (maxL := 4) (ret := (some .int)) (by decide) rfl ?_
  intro p e s m args below meth c s₁ B hml hv
  obtain ⟨rfl, hK, hN, hP, t1, t2, t3, hZ⟩ := hv
  have hl := lv_entry ([.ref (a 0), .int p0, .int p1]) (n := 4) (Nat.le_of_ble_eq_true rfl)
  rw [lg_entry_eq]
  generalize (lg_sl ([.ref (a 0), .int p0, .int p1]) ++ List.replicate (4 - (lg_sl ([.ref (a 0), .int p0, .int p1])).length) Slot.unset).toArray = ls at hl ⊢
  exact wX7_set ⟨B.exec, B.bytes, hml, findClass_of_methodNamed B.named, fun w hw => atoms_spec (ws := .code yX7_set cX7_set 4 (some .int) :: wsL_law) B.pre w (List.mem_cons_of_mem _ hw), B.returns, B.notSynchronized, hK, hDis, hN⟩ hZ out p0 p1 σ s.heap [] ls ⟨hP, va_S.rf⟩ hl h
/-! X7 shut (II)I -/
theorem dX7_shut_0 : decode cX7_shut 0 = .ok (.iload_n 1, 1) := by decide +kernel
theorem dX7_shut_1 : decode cX7_shut 1 = .ok (.iconst 0, 1) := by decide +kernel
theorem dX7_shut_2 : decode cX7_shut 2 = .ok (.iconst 5, 1) := by decide +kernel
theorem dX7_shut_3 : decode cX7_shut 3 = .ok (.invokestatic 82, 3) := by decide +kernel
theorem dX7_shut_6 : decode cX7_shut 6 = .ok (.ifCond .eq 12, 3) := by decide +kernel
theorem dX7_shut_9 : decode cX7_shut 9 = .ok (.iload_n 2, 1) := by decide +kernel
theorem dX7_shut_10 : decode cX7_shut 10 = .ok (.iconst 0, 1) := by decide +kernel
theorem dX7_shut_11 : decode cX7_shut 11 = .ok (.iconst 1, 1) := by decide +kernel
theorem dX7_shut_12 : decode cX7_shut 12 = .ok (.invokestatic 82, 3) := by decide +kernel
theorem dX7_shut_15 : decode cX7_shut 15 = .ok (.ifCond .ne 6, 3) := by decide +kernel
theorem dX7_shut_18 : decode cX7_shut 18 = .ok (.bipush (-2), 2) := by decide +kernel
theorem dX7_shut_20 : decode cX7_shut 20 = .ok (.ireturn, 1) := by decide +kernel
theorem dX7_shut_21 : decode cX7_shut 21 = .ok (.aload_n 0, 1) := by decide +kernel
theorem dX7_shut_22 : decode cX7_shut 22 = .ok (.getfield 31, 3) := by decide +kernel
theorem dX7_shut_25 : decode cX7_shut 25 = .ok (.iload_n 1, 1) := by decide +kernel
theorem dX7_shut_26 : decode cX7_shut 26 = .ok (.invokestatic 106, 3) := by decide +kernel
theorem dX7_shut_29 : decode cX7_shut 29 = .ok (.istore_n 3, 1) := by decide +kernel
theorem dX7_shut_30 : decode cX7_shut 30 = .ok (.aload_n 0, 1) := by decide +kernel
theorem dX7_shut_31 : decode cX7_shut 31 = .ok (.iload_n 2, 1) := by decide +kernel
theorem dX7_shut_32 : decode cX7_shut 32 = .ok (.iconst 1, 1) := by decide +kernel
theorem dX7_shut_33 : decode cX7_shut 33 = .ok (.if_icmp .ne 14, 3) := by decide +kernel
theorem dX7_shut_36 : decode cX7_shut 36 = .ok (.aload_n 0, 1) := by decide +kernel
theorem dX7_shut_37 : decode cX7_shut 37 = .ok (.getfield 31, 3) := by decide +kernel
theorem dX7_shut_40 : decode cX7_shut 40 = .ok (.iconst 1, 1) := by decide +kernel
theorem dX7_shut_41 : decode cX7_shut 41 = .ok (.iload_n 1, 1) := by decide +kernel
theorem dX7_shut_42 : decode cX7_shut 42 = .ok (.ishl, 1) := by decide +kernel
theorem dX7_shut_43 : decode cX7_shut 43 = .ok (.ior, 1) := by decide +kernel
theorem dX7_shut_44 : decode cX7_shut 44 = .ok (.goto 13, 3) := by decide +kernel
theorem dX7_shut_47 : decode cX7_shut 47 = .ok (.aload_n 0, 1) := by decide +kernel
theorem dX7_shut_48 : decode cX7_shut 48 = .ok (.getfield 31, 3) := by decide +kernel
theorem dX7_shut_51 : decode cX7_shut 51 = .ok (.iconst 1, 1) := by decide +kernel
theorem dX7_shut_52 : decode cX7_shut 52 = .ok (.iload_n 1, 1) := by decide +kernel
theorem dX7_shut_53 : decode cX7_shut 53 = .ok (.ishl, 1) := by decide +kernel
theorem dX7_shut_54 : decode cX7_shut 54 = .ok (.iconst (-1), 1) := by decide +kernel
theorem dX7_shut_55 : decode cX7_shut 55 = .ok (.ixor, 1) := by decide +kernel
theorem dX7_shut_56 : decode cX7_shut 56 = .ok (.iand, 1) := by decide +kernel
theorem dX7_shut_57 : decode cX7_shut 57 = .ok (.putfield 31, 3) := by decide +kernel
theorem dX7_shut_60 : decode cX7_shut 60 = .ok (.aload_n 0, 1) := by decide +kernel
theorem dX7_shut_61 : decode cX7_shut 61 = .ok (.invokevirtual 96, 3) := by decide +kernel
theorem dX7_shut_64 : decode cX7_shut 64 = .ok (.iload_n 3, 1) := by decide +kernel
theorem dX7_shut_65 : decode cX7_shut 65 = .ok (.ireturn, 1) := by decide +kernel
abbrev rmX7_shut : Room := { frames := 1, cells := 0, slots := 0, locals := 22 }
set_option maxHeartbeats 4000000 in
set_option maxRecDepth 100000 in
theorem wX7_shut_57 (Cx : ms_C p s m args meth c D cA a shX cX7_shut 4 RX7 (some .int)) (out : Int32 × Mm) : ∀ (y1 : Int32) (y2 : Int32) , ∀ (σ : Mm) (H : Heap) (locs : List Loc) (ls : Array Slot), ms_I D cA a shX s σ H locs → lv_has ls 4 [(0, .ref (a 0)), (3, .int y1)] → fX7_shut_57 y1 y2 σ = some out → W p l e rmX7_shut s m args below meth c H locs 0 0 (MQ below (ms_Qi D cA a shX out.1 out.2) args s 0 0 (ms_A a shX.length)) (F0 m 57 ls [.int y2, .ref (a 0)]) := by
  have hx := Cx.1
  have hb := Cx.2.1
  intro y1 y2 σ H locs ls hI hl h
  unfold fX7_shut_57 at h
  refine pi_X7_3 Cx hI wd_2_2 dX7_shut_57 (fun H locs σ1 eσ1 hI => ?_)
  have h := ms_ltE eσ1 h
  refine lv_aload_n hx hb dX7_shut_60 rfl (lv_at hl 0 rfl) ?_
  obtain ⟨σ3, hc2, h⟩ := ms_bdE h
  refine kX7_outdate Cx hI hc2 wd_10_8 (Nat.le_of_ble_eq_true rfl) (Nat.le_of_ble_eq_true rfl) hl.1 (Nat.le_of_ble_eq_true rfl) dX7_shut_61 (fun H locs hI => ?_)
  refine lv_iload_n hx hb dX7_shut_64 rfl (lv_at hl 1 rfl) ?_
  exact ms_riw Cx hI h dX7_shut_65
set_option maxHeartbeats 4000000 in
set_option maxRecDepth 100000 in
theorem wX7_shut (Cx : ms_C p s m args meth c D cA a shX cX7_shut 4 RX7 (some .int)) (out : Int32 × Mm) : ∀ (p0 : Int32) (p1 : Int32) , ∀ (σ : Mm) (H : Heap) (locs : List Loc) (ls : Array Slot), ms_I D cA a shX s σ H locs → lv_has ls 4 [(0, .ref (a 0)), (1, .int p0), (2, .int p1)] → fX7_shut p0 p1 σ = some out → W p l e rmX7_shut s m args below meth c H locs 0 0 (MQ below (ms_Qi D cA a shX out.1 out.2) args s 0 0 (ms_A a shX.length)) (F0 m 0 ls []) := by
  have hx := Cx.1
  have hb := Cx.2.1
  intro p0 p1 σ H locs ls hI hl h
  unfold fX7_shut at h
  refine lv_iload_n hx hb dX7_shut_0 rfl (lv_at hl 1 rfl) ?_
  refine lv_iconst (v := 0) hx hb dX7_shut_1 rfl ?_
  refine lv_iconst (v := 5) hx hb dX7_shut_2 rfl ?_
  obtain ⟨r2, hc1, h⟩ := ms_bdE h
  refine kX7_within Cx hI hc1 (Or.inl wd_7_23) (Nat.le_of_ble_eq_true rfl) (Nat.le_of_ble_eq_true rfl) hl.1 (Nat.le_of_ble_eq_true rfl) dX7_shut_3 (fun H locs hI => ?_)
  refine lv_if_eq (tgt := 18) hx hb dX7_shut_6 rfl (fun hc => ?_) (fun hc => ?_)
  · have h := ms_ifT hc h
    refine lv_bipush (v := -2) hx hb dX7_shut_18 rfl ?_
    exact ms_riw Cx hI h dX7_shut_20
  · have h := ms_ifF hc h
    refine lv_iload_n hx hb dX7_shut_9 rfl (lv_at hl 2 rfl) ?_
    refine lv_iconst (v := 0) hx hb dX7_shut_10 rfl ?_
    refine lv_iconst (v := 1) hx hb dX7_shut_11 rfl ?_
    obtain ⟨r4, hc3, h⟩ := ms_bdE h
    refine kX7_within Cx hI hc3 (Or.inl wd_7_23) (Nat.le_of_ble_eq_true rfl) (Nat.le_of_ble_eq_true rfl) hl.1 (Nat.le_of_ble_eq_true rfl) dX7_shut_12 (fun H locs hI => ?_)
    refine lv_if_ne (tgt := 21) hx hb dX7_shut_15 rfl (fun hc => ?_) (fun hc => ?_)
    · have h := ms_ifF hc h
      refine lv_aload_n hx hb dX7_shut_21 rfl (lv_at hl 0 rfl) ?_
      refine gi_X7_3 Cx hI wd_2_2 dX7_shut_22 ?_
      refine lv_iload_n hx hb dX7_shut_25 rfl (lv_at hl 1 rfl) ?_
      obtain ⟨r6, hc5, h⟩ := ms_bdE h
      refine kX7_bit Cx hI hc5 (Or.inl wd_13_14) (Nat.le_of_ble_eq_true rfl) (Nat.le_of_ble_eq_true rfl) hl.1 (Nat.le_of_ble_eq_true rfl) dX7_shut_26 (fun H locs hI => ?_)
      refine lv_istore_n (lv' := [(3, .int r6), (0, .ref (a 0)), (1, .int p0), (2, .int p1)]) hx hb dX7_shut_29 rfl hl (by decide) rfl (fun ls hl => ?_)
      refine lv_aload_n hx hb dX7_shut_30 rfl (lv_at hl 1 rfl) ?_
      refine lv_iload_n hx hb dX7_shut_31 rfl (lv_at hl 3 rfl) ?_
      refine lv_iconst (v := 1) hx hb dX7_shut_32 rfl ?_
      refine lv_icmp_ne (tgt := 47) hx hb dX7_shut_33 rfl (fun hc => ?_) (fun hc => ?_)
      · have h := ms_ifF hc h
        refine lv_aload_n hx hb dX7_shut_47 rfl (lv_at hl 1 rfl) ?_
        refine gi_X7_3 Cx hI wd_2_2 dX7_shut_48 ?_
        refine lv_iconst (v := 1) hx hb dX7_shut_51 rfl ?_
        refine lv_iload_n hx hb dX7_shut_52 rfl (lv_at hl 2 rfl) ?_
        refine lv_ishl hx hb dX7_shut_53 ?_
        refine lv_iconst (v := -1) hx hb dX7_shut_54 rfl ?_
        refine lv_ixor hx hb dX7_shut_55 ?_
        refine lv_iand hx hb dX7_shut_56 ?_
        exact wX7_shut_57 Cx out  r6 ((σ 0 3) &&& ((ms_shl 1 p0) ^^^ (-1))) σ _ _ _ hI (lv_sub hl [1, 0] rfl) h
      · have h := ms_ifT hc h
        refine lv_aload_n hx hb dX7_shut_36 rfl (lv_at hl 1 rfl) ?_
        refine gi_X7_3 Cx hI wd_2_2 dX7_shut_37 ?_
        refine lv_iconst (v := 1) hx hb dX7_shut_40 rfl ?_
        refine lv_iload_n hx hb dX7_shut_41 rfl (lv_at hl 2 rfl) ?_
        refine lv_ishl hx hb dX7_shut_42 ?_
        refine lv_ior hx hb dX7_shut_43 ?_
        refine lv_goto (tgt := 57) hx hb dX7_shut_44 rfl ?_
        exact wX7_shut_57 Cx out  r6 ((σ 0 3) ||| (ms_shl 1 p0)) σ _ _ _ hI (lv_sub hl [1, 0] rfl) h
    · have h := ms_ifT hc h
      refine lv_bipush (v := -2) hx hb dX7_shut_18 rfl ?_
      exact ms_riw Cx hI h dX7_shut_20
theorem yvX7_shut : ms_YV yX7_shut RX7 cX7_shut 4 (some .int) 2 := ⟨wd_16_6, wd_16_7, wd_1_2, wd_16_8, rfl, by decide +kernel, by decide +kernel, by decide +kernel⟩
set_option maxHeartbeats 4000000 in
theorem metX7_shut (l : Launch) (hDis : ms_Dis a shX.length) {σ : Mm} {p0 : Int32} {p1 : Int32} {out : Int32 × Mm} (h : fX7_shut p0 p1 σ = some out) : Met l yX7_shut (.code yX7_shut cX7_shut 4 (some .int) :: wsL_law) rmX7_shut (ms_Pc D cA a shX [.ref (a 0), .int p0, .int p1] σ) (ms_Qi D cA a shX out.1 out.2) 0 0 (ms_A a shX.length) := by
  refine Met.ofW (cc := cX7_shut) (maxL := 4) (ret := (some .int)) (by decide) rfl ?_
  intro p e s m args below meth c s₁ B hml hv
  obtain ⟨rfl, hK, hN, hP⟩ := hv
  have hl := lv_entry ([.ref (a 0), .int p0, .int p1]) (n := 4) (Nat.le_of_ble_eq_true rfl)
  rw [lg_entry_eq]
  generalize (lg_sl ([.ref (a 0), .int p0, .int p1]) ++ List.replicate (4 - (lg_sl ([.ref (a 0), .int p0, .int p1])).length) Slot.unset).toArray = ls at hl ⊢
  exact wX7_shut ⟨B.exec, B.bytes, hml, findClass_of_methodNamed B.named, fun w hw => atoms_spec (ws := .code yX7_shut cX7_shut 4 (some .int) :: wsL_law) B.pre w (List.mem_cons_of_mem _ hw), B.returns, B.notSynchronized, hK, hDis, hN⟩ out p0 p1 σ s.heap [] ls ⟨hP, va_S.rf⟩ hl h
theorem kX7_shut (Cx : ms_C p s m args meth c D cA a shX cc nL own ret) {σ : Mm} {H : Heap} {locs : List Loc} (hI : ms_I D cA a shX s σ H locs) {p0 : Int32} {p1 : Int32} {out : Int32 × Mm} (h : fX7_shut p0 p1 σ = some out) (hl : Cond.methodLink own idx yX7_shut ∈ wsL_law) (hf : 1 + 1 ≤ R.frames) (hlo : 8 + (4 + 11) + 22 ≤ R.locals) (hsz : ls.size = nL) (hW : (rest.map fun v => v.category).sum ≤ 8) (hd : decode cc pc = .ok (.invokevirtual idx, 3)) (kk : ∀ (H1 : Heap) (locs1 : List Loc), ms_I D cA a shX s out.2 H1 locs1 → W p l e R s m args below meth c H1 locs1 0 0 Q (F0 m (pc + 3) ls (.int out.1 :: rest))) : W p l e R s m args below meth c H locs 0 0 Q (F0 m pc ls (.int p1 :: .int p0 :: .ref (a 0) :: rest)) :=
  ms_ci hI (ms_runV (av := [.int p0, .int p1]) Cx hI 0 shX_0 (ci := 7) rfl rfl yvX7_shut (metX7_shut l Cx.2.2.2.2.2.2.2.2.1  h) ⟨rfl, rfl⟩ hl ⟨hf, hlo⟩ rfl hsz rfl hW ⟨Nat.zero_le _, Nat.zero_le _⟩ hd) kk
/-! X7 shift (II)I -/
theorem dX7_shift_0 : decode cX7_shift 0 = .ok (.iload_n 1, 1) := by decide +kernel
theorem dX7_shift_1 : decode cX7_shift 1 = .ok (.iconst 0, 1) := by decide +kernel
theorem dX7_shift_2 : decode cX7_shift 2 = .ok (.iconst 5, 1) := by decide +kernel
theorem dX7_shift_3 : decode cX7_shift 3 = .ok (.invokestatic 82, 3) := by decide +kernel
theorem dX7_shift_6 : decode cX7_shift 6 = .ok (.ifCond .eq 13, 3) := by decide +kernel
theorem dX7_shift_9 : decode cX7_shift 9 = .ok (.iload_n 2, 1) := by decide +kernel
theorem dX7_shift_10 : decode cX7_shift 10 = .ok (.iconst 0, 1) := by decide +kernel
theorem dX7_shift_11 : decode cX7_shift 11 = .ok (.bipush 23, 2) := by decide +kernel
theorem dX7_shift_13 : decode cX7_shift 13 = .ok (.invokestatic 82, 3) := by decide +kernel
theorem dX7_shift_16 : decode cX7_shift 16 = .ok (.ifCond .ne 6, 3) := by decide +kernel
theorem dX7_shift_19 : decode cX7_shift 19 = .ok (.bipush (-2), 2) := by decide +kernel
theorem dX7_shift_21 : decode cX7_shift 21 = .ok (.ireturn, 1) := by decide +kernel
theorem dX7_shift_22 : decode cX7_shift 22 = .ok (.aload_n 0, 1) := by decide +kernel
theorem dX7_shift_23 : decode cX7_shift 23 = .ok (.getfield 28, 3) := by decide +kernel
theorem dX7_shift_26 : decode cX7_shift 26 = .ok (.iload_n 1, 1) := by decide +kernel
theorem dX7_shift_27 : decode cX7_shift 27 = .ok (.iaload, 1) := by decide +kernel
theorem dX7_shift_28 : decode cX7_shift 28 = .ok (.istore_n 3, 1) := by decide +kernel
theorem dX7_shift_29 : decode cX7_shift 29 = .ok (.aload_n 0, 1) := by decide +kernel
theorem dX7_shift_30 : decode cX7_shift 30 = .ok (.getfield 28, 3) := by decide +kernel
theorem dX7_shift_33 : decode cX7_shift 33 = .ok (.iload_n 1, 1) := by decide +kernel
theorem dX7_shift_34 : decode cX7_shift 34 = .ok (.iload_n 2, 1) := by decide +kernel
theorem dX7_shift_35 : decode cX7_shift 35 = .ok (.iastore, 1) := by decide +kernel
theorem dX7_shift_36 : decode cX7_shift 36 = .ok (.aload_n 0, 1) := by decide +kernel
theorem dX7_shift_37 : decode cX7_shift 37 = .ok (.invokevirtual 96, 3) := by decide +kernel
theorem dX7_shift_40 : decode cX7_shift 40 = .ok (.iload_n 3, 1) := by decide +kernel
theorem dX7_shift_41 : decode cX7_shift 41 = .ok (.ireturn, 1) := by decide +kernel
abbrev rmX7_shift : Room := { frames := 1, cells := 0, slots := 0, locals := 22 }
set_option maxHeartbeats 4000000 in
set_option maxRecDepth 100000 in
theorem wX7_shift (Cx : ms_C p s m args meth c D cA a shX cX7_shift 4 RX7 (some .int)) (out : Int32 × Mm) : ∀ (p0 : Int32) (p1 : Int32) , ∀ (σ : Mm) (H : Heap) (locs : List Loc) (ls : Array Slot), ms_I D cA a shX s σ H locs → lv_has ls 4 [(0, .ref (a 0)), (1, .int p0), (2, .int p1)] → fX7_shift p0 p1 σ = some out → W p l e rmX7_shift s m args below meth c H locs 0 0 (MQ below (ms_Qi D cA a shX out.1 out.2) args s 0 0 (ms_A a shX.length)) (F0 m 0 ls []) := by
  have hx := Cx.1
  have hb := Cx.2.1
  intro p0 p1 σ H locs ls hI hl h
  unfold fX7_shift at h
  refine lv_iload_n hx hb dX7_shift_0 rfl (lv_at hl 1 rfl) ?_
  refine lv_iconst (v := 0) hx hb dX7_shift_1 rfl ?_
  refine lv_iconst (v := 5) hx hb dX7_shift_2 rfl ?_
  obtain ⟨r2, hc1, h⟩ := ms_bdE h
  refine kX7_within Cx hI hc1 (Or.inl wd_7_23) (Nat.le_of_ble_eq_true rfl) (Nat.le_of_ble_eq_true rfl) hl.1 (Nat.le_of_ble_eq_true rfl) dX7_shift_3 (fun H locs hI => ?_)
  refine lv_if_eq (tgt := 19) hx hb dX7_shift_6 rfl (fun hc => ?_) (fun hc => ?_)
  · have h := ms_ifT hc h
    refine lv_bipush (v := -2) hx hb dX7_shift_19 rfl ?_
    exact ms_riw Cx hI h dX7_shift_21
  · have h := ms_ifF hc h
    refine lv_iload_n hx hb dX7_shift_9 rfl (lv_at hl 2 rfl) ?_
    refine lv_iconst (v := 0) hx hb dX7_shift_10 rfl ?_
    refine lv_bipush (v := 23) hx hb dX7_shift_11 rfl ?_
    obtain ⟨r4, hc3, h⟩ := ms_bdE h
    refine kX7_within Cx hI hc3 (Or.inl wd_7_23) (Nat.le_of_ble_eq_true rfl) (Nat.le_of_ble_eq_true rfl) hl.1 (Nat.le_of_ble_eq_true rfl) dX7_shift_13 (fun H locs hI => ?_)
    refine lv_if_ne (tgt := 22) hx hb dX7_shift_16 rfl (fun hc => ?_) (fun hc => ?_)
    · have h := ms_ifF hc h
      refine lv_aload_n hx hb dX7_shift_22 rfl (lv_at hl 0 rfl) ?_
      refine gr_X7_2 Cx hI wd_2_1 dX7_shift_23 ?_
      refine lv_iload_n hx hb dX7_shift_26 rfl (lv_at hl 1 rfl) ?_
      obtain ⟨hg, h⟩ := ms_gE h
      refine ms_ld Cx hI 6 shX_6 hg dX7_shift_27 ?_
      refine lv_istore_n (lv' := [(3, .int (σ 6 (ms_ix p0))), (0, .ref (a 0)), (1, .int p0), (2, .int p1)]) hx hb dX7_shift_28 rfl hl (by decide) rfl (fun ls hl => ?_)
      refine lv_aload_n hx hb dX7_shift_29 rfl (lv_at hl 1 rfl) ?_
      refine gr_X7_2 Cx hI wd_2_1 dX7_shift_30 ?_
      refine lv_iload_n hx hb dX7_shift_33 rfl (lv_at hl 2 rfl) ?_
      refine lv_iload_n hx hb dX7_shift_34 rfl (lv_at hl 3 rfl) ?_
      obtain ⟨hg, h⟩ := ms_gE h
      refine ms_sto Cx hI 6 shX_6 hg dX7_shift_35 (fun H locs σ5 eσ5 hI => ?_)
      have h := ms_ltE eσ5 h
      refine lv_aload_n hx hb dX7_shift_36 rfl (lv_at hl 1 rfl) ?_
      obtain ⟨σ7, hc6, h⟩ := ms_bdE h
      refine kX7_outdate Cx hI hc6 wd_10_8 (Nat.le_of_ble_eq_true rfl) (Nat.le_of_ble_eq_true rfl) hl.1 (Nat.le_of_ble_eq_true rfl) dX7_shift_37 (fun H locs hI => ?_)
      refine lv_iload_n hx hb dX7_shift_40 rfl (lv_at hl 0 rfl) ?_
      exact ms_riw Cx hI h dX7_shift_41
    · have h := ms_ifT hc h
      refine lv_bipush (v := -2) hx hb dX7_shift_19 rfl ?_
      exact ms_riw Cx hI h dX7_shift_21
theorem yvX7_shift : ms_YV yX7_shift RX7 cX7_shift 4 (some .int) 2 := ⟨wd_16_14, wd_16_15, wd_1_2, wd_16_16, rfl, by decide +kernel, by decide +kernel, by decide +kernel⟩
set_option maxHeartbeats 4000000 in
theorem metX7_shift (l : Launch) (hDis : ms_Dis a shX.length) {σ : Mm} {p0 : Int32} {p1 : Int32} {out : Int32 × Mm} (h : fX7_shift p0 p1 σ = some out) : Met l yX7_shift (.code yX7_shift cX7_shift 4 (some .int) :: wsL_law) rmX7_shift (ms_Pc D cA a shX [.ref (a 0), .int p0, .int p1] σ) (ms_Qi D cA a shX out.1 out.2) 0 0 (ms_A a shX.length) := by
  refine Met.ofW (cc := cX7_shift) (maxL := 4) (ret := (some .int)) (by decide) rfl ?_
  intro p e s m args below meth c s₁ B hml hv
  obtain ⟨rfl, hK, hN, hP⟩ := hv
  have hl := lv_entry ([.ref (a 0), .int p0, .int p1]) (n := 4) (Nat.le_of_ble_eq_true rfl)
  rw [lg_entry_eq]
  generalize (lg_sl ([.ref (a 0), .int p0, .int p1]) ++ List.replicate (4 - (lg_sl ([.ref (a 0), .int p0, .int p1])).length) Slot.unset).toArray = ls at hl ⊢
  exact wX7_shift ⟨B.exec, B.bytes, hml, findClass_of_methodNamed B.named, fun w hw => atoms_spec (ws := .code yX7_shift cX7_shift 4 (some .int) :: wsL_law) B.pre w (List.mem_cons_of_mem _ hw), B.returns, B.notSynchronized, hK, hDis, hN⟩ out p0 p1 σ s.heap [] ls ⟨hP, va_S.rf⟩ hl h
theorem kX7_shift (Cx : ms_C p s m args meth c D cA a shX cc nL own ret) {σ : Mm} {H : Heap} {locs : List Loc} (hI : ms_I D cA a shX s σ H locs) {p0 : Int32} {p1 : Int32} {out : Int32 × Mm} (h : fX7_shift p0 p1 σ = some out) (hl : Cond.methodLink own idx yX7_shift ∈ wsL_law) (hf : 1 + 1 ≤ R.frames) (hlo : 8 + (4 + 11) + 22 ≤ R.locals) (hsz : ls.size = nL) (hW : (rest.map fun v => v.category).sum ≤ 8) (hd : decode cc pc = .ok (.invokevirtual idx, 3)) (kk : ∀ (H1 : Heap) (locs1 : List Loc), ms_I D cA a shX s out.2 H1 locs1 → W p l e R s m args below meth c H1 locs1 0 0 Q (F0 m (pc + 3) ls (.int out.1 :: rest))) : W p l e R s m args below meth c H locs 0 0 Q (F0 m pc ls (.int p1 :: .int p0 :: .ref (a 0) :: rest)) :=
  ms_ci hI (ms_runV (av := [.int p0, .int p1]) Cx hI 0 shX_0 (ci := 7) rfl rfl yvX7_shift (metX7_shift l Cx.2.2.2.2.2.2.2.2.1  h) ⟨rfl, rfl⟩ hl ⟨hf, hlo⟩ rfl hsz rfl hW ⟨Nat.zero_le _, Nat.zero_le _⟩ hd) kk
/-! X7 isSheet (I)Z -/
theorem dX7_isSheet_0 : decode cX7_isSheet 0 = .ok (.iload_n 0, 1) := by decide +kernel
theorem dX7_isSheet_1 : decode cX7_isSheet 1 = .ok (.iconst 0, 1) := by decide +kernel
theorem dX7_isSheet_2 : decode cX7_isSheet 2 = .ok (.iconst 3, 1) := by decide +kernel
theorem dX7_isSheet_3 : decode cX7_isSheet 3 = .ok (.invokestatic 82, 3) := by decide +kernel
theorem dX7_isSheet_6 : decode cX7_isSheet 6 = .ok (.ireturn, 1) := by decide +kernel
abbrev rmX7_isSheet : Room := { frames := 1, cells := 0, slots := 0, locals := 22 }
set_option maxHeartbeats 4000000 in
set_option maxRecDepth 100000 in
theorem wX7_isSheet (Cx : ms_C p s m args meth c D cA a shX cX7_isSheet 1 RX7 (some .boolean)) (out : Int32) {σ : Mm} : ∀ (p0 : Int32) , ∀ (H : Heap) (locs : List Loc) (ls : Array Slot), ms_I D cA a shX s σ H locs → lv_has ls 1 [(0, .int p0)] → fX7_isSheet p0 = some out → W p l e rmX7_isSheet s m args below meth c H locs 0 0 (MQ below (ms_Qi D cA a shX out σ) args s 0 0 (ms_A a shX.length)) (F0 m 0 ls []) := by
  have hx := Cx.1
  have hb := Cx.2.1
  intro p0 H locs ls hI hl h
  unfold fX7_isSheet at h
  refine lv_iload_n hx hb dX7_isSheet_0 rfl (lv_at hl 0 rfl) ?_
  refine lv_iconst (v := 0) hx hb dX7_isSheet_1 rfl ?_
  refine lv_iconst (v := 3) hx hb dX7_isSheet_2 rfl ?_
  obtain ⟨r2, hc1, h⟩ := ms_bdE h
  refine kX7_within Cx hI hc1 (Or.inl wd_7_23) (Nat.le_of_ble_eq_true rfl) (Nat.le_of_ble_eq_true rfl) hl.1 (Nat.le_of_ble_eq_true rfl) dX7_isSheet_3 (fun H locs hI => ?_)
  obtain ⟨hg, h⟩ := ms_gE h
  exact ms_rz Cx hI hg (Option.some.inj h) rfl dX7_isSheet_6
theorem yvX7_isSheet : ms_YS yX7_isSheet cX7_isSheet 1 (some .boolean) 1 := ⟨wd_17_9, wd_1_2, wd_17_10, by decide +kernel, by decide +kernel, by decide +kernel⟩
set_option maxHeartbeats 4000000 in
theorem metX7_isSheet (l : Launch) (hDis : ms_Dis a shX.length) {σ : Mm} {p0 : Int32} {out : Int32} (h : fX7_isSheet p0 = some out) : Met l yX7_isSheet (.code yX7_isSheet cX7_isSheet 1 (some .boolean) :: wsL_law) rmX7_isSheet (ms_Pc D cA a shX [.int p0] σ) (ms_Qi D cA a shX out σ) 0 0 (ms_A a shX.length) := by
  refine Met.ofW (cc := cX7_isSheet) (maxL := 1) (ret := (some .boolean)) (by decide) rfl ?_
  intro p e s m args below meth c s₁ B hml hv
  obtain ⟨rfl, hK, hN, hP⟩ := hv
  have hl := lv_entry ([.int p0]) (n := 1) (Nat.le_of_ble_eq_true rfl)
  rw [lg_entry_eq]
  generalize (lg_sl ([.int p0]) ++ List.replicate (1 - (lg_sl ([.int p0])).length) Slot.unset).toArray = ls at hl ⊢
  exact wX7_isSheet ⟨B.exec, B.bytes, hml, findClass_of_methodNamed B.named, fun w hw => atoms_spec (ws := .code yX7_isSheet cX7_isSheet 1 (some .boolean) :: wsL_law) B.pre w (List.mem_cons_of_mem _ hw), B.returns, B.notSynchronized, hK, hDis, hN⟩ out p0 s.heap [] ls ⟨hP, va_S.rf⟩ hl h
theorem kX7_isSheet (Cx : ms_C p s m args meth c D cA a shX cc nL own ret) {σ : Mm} {H : Heap} {locs : List Loc} (hI : ms_I D cA a shX s σ H locs) {p0 : Int32} {out : Int32} (h : fX7_isSheet p0 = some out) (hl : Cond.methodLink own idx yX7_isSheet ∈ wsL_law ∨ (own, idx, yX7_isSheet) ∈ ms_nq) (hf : 1 + 1 ≤ R.frames) (hlo : 8 + (1 + 11) + 22 ≤ R.locals) (hsz : ls.size = nL) (hW : (rest.map fun v => v.category).sum ≤ 8) (hd : decode cc pc = .ok (.invokestatic idx, 3)) (kk : ∀ (H1 : Heap) (locs1 : List Loc), ms_I D cA a shX s σ H1 locs1 → W p l e R s m args below meth c H1 locs1 0 0 Q (F0 m (pc + 3) ls (.int out :: rest))) : W p l e R s m args below meth c H locs 0 0 Q (F0 m pc ls (.int p0 :: rest)) :=
  ms_ci hI (ms_runS (av := [.int p0]) Cx hI yvX7_isSheet (metX7_isSheet l Cx.2.2.2.2.2.2.2.2.1  h) ⟨rfl, rfl⟩ hl ⟨hf, hlo⟩ rfl hsz rfl hW ⟨Nat.zero_le _, Nat.zero_le _⟩ hd) kk
/-! X7 find (I)I -/
theorem dX7_find_0 : decode cX7_find 0 = .ok (.aload_n 0, 1) := by decide +kernel
theorem dX7_find_1 : decode cX7_find 1 = .ok (.iload_n 1, 1) := by decide +kernel
theorem dX7_find_2 : decode cX7_find 2 = .ok (.putfield 78, 3) := by decide +kernel
theorem dX7_find_5 : decode cX7_find 5 = .ok (.bipush (-10), 2) := by decide +kernel
theorem dX7_find_7 : decode cX7_find 7 = .ok (.iload_n 1, 1) := by decide +kernel
theorem dX7_find_8 : decode cX7_find 8 = .ok (.isub, 1) := by decide +kernel
theorem dX7_find_9 : decode cX7_find 9 = .ok (.ireturn, 1) := by decide +kernel
abbrev rmX7_find : Room := { frames := 0, cells := 0, slots := 0, locals := 0 }
set_option maxHeartbeats 4000000 in
set_option maxRecDepth 100000 in
theorem wX7_find (Cx : ms_C p s m args meth c D cA a shX cX7_find 2 RX7 (some .int)) (out : Int32 × Mm) : ∀ (p0 : Int32) , ∀ (σ : Mm) (H : Heap) (locs : List Loc) (ls : Array Slot), ms_I D cA a shX s σ H locs → lv_has ls 2 [(0, .ref (a 0)), (1, .int p0)] → fX7_find p0 σ = some out → W p l e rmX7_find s m args below meth c H locs 0 0 (MQ below (ms_Qi D cA a shX out.1 out.2) args s 0 0 (ms_A a shX.length)) (F0 m 0 ls []) := by
  have hx := Cx.1
  have hb := Cx.2.1
  intro p0 σ H locs ls hI hl h
  unfold fX7_find at h
  refine lv_aload_n hx hb dX7_find_0 rfl (lv_at hl 0 rfl) ?_
  refine lv_iload_n hx hb dX7_find_1 rfl (lv_at hl 1 rfl) ?_
  refine pi_X7_10 Cx hI wd_3_1 dX7_find_2 (fun H locs σ1 eσ1 hI => ?_)
  have h := ms_ltE eσ1 h
  refine lv_bipush (v := -10) hx hb dX7_find_5 rfl ?_
  refine lv_iload_n hx hb dX7_find_7 rfl (lv_at hl 1 rfl) ?_
  refine lv_isub hx hb dX7_find_8 ?_
  exact ms_riw Cx hI h dX7_find_9
theorem yvX7_find : ms_YV yX7_find RX7 cX7_find 2 (some .int) 1 := ⟨wd_17_12, wd_17_13, wd_1_2, wd_17_14, rfl, by decide +kernel, by decide +kernel, by decide +kernel⟩
set_option maxHeartbeats 4000000 in
theorem metX7_find (l : Launch) (hDis : ms_Dis a shX.length) {σ : Mm} {p0 : Int32} {out : Int32 × Mm} (h : fX7_find p0 σ = some out) : Met l yX7_find (.code yX7_find cX7_find 2 (some .int) :: wsL_law) rmX7_find (ms_Pc D cA a shX [.ref (a 0), .int p0] σ) (ms_Qi D cA a shX out.1 out.2) 0 0 (ms_A a shX.length) := by
  refine Met.ofW (cc := cX7_find) (maxL := 2) (ret := (some .int)) (by decide) rfl ?_
  intro p e s m args below meth c s₁ B hml hv
  obtain ⟨rfl, hK, hN, hP⟩ := hv
  have hl := lv_entry ([.ref (a 0), .int p0]) (n := 2) (Nat.le_of_ble_eq_true rfl)
  rw [lg_entry_eq]
  generalize (lg_sl ([.ref (a 0), .int p0]) ++ List.replicate (2 - (lg_sl ([.ref (a 0), .int p0])).length) Slot.unset).toArray = ls at hl ⊢
  exact wX7_find ⟨B.exec, B.bytes, hml, findClass_of_methodNamed B.named, fun w hw => atoms_spec (ws := .code yX7_find cX7_find 2 (some .int) :: wsL_law) B.pre w (List.mem_cons_of_mem _ hw), B.returns, B.notSynchronized, hK, hDis, hN⟩ out p0 σ s.heap [] ls ⟨hP, va_S.rf⟩ hl h
theorem kX7_find (Cx : ms_C p s m args meth c D cA a shX cc nL own ret) {σ : Mm} {H : Heap} {locs : List Loc} (hI : ms_I D cA a shX s σ H locs) {p0 : Int32} {out : Int32 × Mm} (h : fX7_find p0 σ = some out) (hl : Cond.methodLink own idx yX7_find ∈ wsL_law) (hf : 0 + 1 ≤ R.frames) (hlo : 8 + (2 + 11) + 0 ≤ R.locals) (hsz : ls.size = nL) (hW : (rest.map fun v => v.category).sum ≤ 8) (hd : decode cc pc = .ok (.invokevirtual idx, 3)) (kk : ∀ (H1 : Heap) (locs1 : List Loc), ms_I D cA a shX s out.2 H1 locs1 → W p l e R s m args below meth c H1 locs1 0 0 Q (F0 m (pc + 3) ls (.int out.1 :: rest))) : W p l e R s m args below meth c H locs 0 0 Q (F0 m pc ls (.int p0 :: .ref (a 0) :: rest)) :=
  ms_ci hI (ms_runV (av := [.int p0]) Cx hI 0 shX_0 (ci := 7) rfl rfl yvX7_find (metX7_find l Cx.2.2.2.2.2.2.2.2.1  h) ⟨rfl, rfl⟩ hl ⟨hf, hlo⟩ rfl hsz rfl hW ⟨Nat.zero_le _, Nat.zero_le _⟩ hd) kk
/-! X7 read (I)I -/
theorem dX7_read_0 : decode cX7_read 0 = .ok (.iload_n 1, 1) := by decide +kernel
theorem dX7_read_1 : decode cX7_read 1 = .ok (.invokestatic 128, 3) := by decide +kernel
theorem dX7_read_4 : decode cX7_read 4 = .ok (.ifCond .ne 6, 3) := by decide +kernel
theorem dX7_read_7 : decode cX7_read 7 = .ok (.bipush (-2), 2) := by decide +kernel
theorem dX7_read_9 : decode cX7_read 9 = .ok (.ireturn, 1) := by decide +kernel
theorem dX7_read_10 : decode cX7_read 10 = .ok (.aload_n 0, 1) := by decide +kernel
theorem dX7_read_11 : decode cX7_read 11 = .ok (.getfield 74, 3) := by decide +kernel
theorem dX7_read_14 : decode cX7_read 14 = .ok (.iload_n 1, 1) := by decide +kernel
theorem dX7_read_15 : decode cX7_read 15 = .ok (.aaload, 1) := by decide +kernel
theorem dX7_read_16 : decode cX7_read 16 = .ok (.getfield 131, 3) := by decide +kernel
theorem dX7_read_19 : decode cX7_read 19 = .ok (.ifCond .eq 9, 3) := by decide +kernel
theorem dX7_read_22 : decode cX7_read 22 = .ok (.aload_n 0, 1) := by decide +kernel
theorem dX7_read_23 : decode cX7_read 23 = .ok (.iconst 1, 1) := by decide +kernel
theorem dX7_read_24 : decode cX7_read 24 = .ok (.invokevirtual 135, 3) := by decide +kernel
theorem dX7_read_27 : decode cX7_read 27 = .ok (.ireturn, 1) := by decide +kernel
theorem dX7_read_28 : decode cX7_read 28 = .ok (.aload_n 0, 1) := by decide +kernel
theorem dX7_read_29 : decode cX7_read 29 = .ok (.getfield 74, 3) := by decide +kernel
theorem dX7_read_32 : decode cX7_read 32 = .ok (.iload_n 1, 1) := by decide +kernel
theorem dX7_read_33 : decode cX7_read 33 = .ok (.aaload, 1) := by decide +kernel
theorem dX7_read_34 : decode cX7_read 34 = .ok (.astore_n 2, 1) := by decide +kernel
theorem dX7_read_35 : decode cX7_read 35 = .ok (.aload_n 2, 1) := by decide +kernel
theorem dX7_read_36 : decode cX7_read 36 = .ok (.getfield 139, 3) := by decide +kernel
theorem dX7_read_39 : decode cX7_read 39 = .ok (.bipush 6, 2) := by decide +kernel
theorem dX7_read_41 : decode cX7_read 41 = .ok (.invokestatic 142, 3) := by decide +kernel
theorem dX7_read_44 : decode cX7_read 44 = .ok (.istore_n 3, 1) := by decide +kernel
theorem dX7_read_45 : decode cX7_read 45 = .ok (.iconst 0, 1) := by decide +kernel
theorem dX7_read_46 : decode cX7_read 46 = .ok (.istore 4, 2) := by decide +kernel
theorem dX7_read_48 : decode cX7_read 48 = .ok (.iload 4, 2) := by decide +kernel
theorem dX7_read_50 : decode cX7_read 50 = .ok (.iload_n 3, 1) := by decide +kernel
theorem dX7_read_51 : decode cX7_read 51 = .ok (.if_icmp .ge 39, 3) := by decide +kernel
theorem dX7_read_54 : decode cX7_read 54 = .ok (.aload_n 2, 1) := by decide +kernel
theorem dX7_read_55 : decode cX7_read 55 = .ok (.getfield 147, 3) := by decide +kernel
theorem dX7_read_58 : decode cX7_read 58 = .ok (.iload 4, 2) := by decide +kernel
theorem dX7_read_60 : decode cX7_read 60 = .ok (.iaload, 1) := by decide +kernel
theorem dX7_read_61 : decode cX7_read 61 = .ok (.iconst 0, 1) := by decide +kernel
theorem dX7_read_62 : decode cX7_read 62 = .ok (.bipush 23, 2) := by decide +kernel
theorem dX7_read_64 : decode cX7_read 64 = .ok (.invokestatic 82, 3) := by decide +kernel
theorem dX7_read_67 : decode cX7_read 67 = .ok (.ifCond .eq 23, 3) := by decide +kernel
theorem dX7_read_70 : decode cX7_read 70 = .ok (.aload_n 0, 1) := by decide +kernel
theorem dX7_read_71 : decode cX7_read 71 = .ok (.getfield 28, 3) := by decide +kernel
theorem dX7_read_74 : decode cX7_read 74 = .ok (.iload 4, 2) := by decide +kernel
theorem dX7_read_76 : decode cX7_read 76 = .ok (.aload_n 2, 1) := by decide +kernel
theorem dX7_read_77 : decode cX7_read 77 = .ok (.getfield 147, 3) := by decide +kernel
theorem dX7_read_80 : decode cX7_read 80 = .ok (.iload 4, 2) := by decide +kernel
theorem dX7_read_82 : decode cX7_read 82 = .ok (.iaload, 1) := by decide +kernel
theorem dX7_read_83 : decode cX7_read 83 = .ok (.iastore, 1) := by decide +kernel
theorem dX7_read_84 : decode cX7_read 84 = .ok (.iinc 4 1, 3) := by decide +kernel
theorem dX7_read_87 : decode cX7_read 87 = .ok (.goto (-39), 3) := by decide +kernel
theorem dX7_read_90 : decode cX7_read 90 = .ok (.aload_n 0, 1) := by decide +kernel
theorem dX7_read_91 : decode cX7_read 91 = .ok (.invokevirtual 96, 3) := by decide +kernel
theorem dX7_read_94 : decode cX7_read 94 = .ok (.iload 4, 2) := by decide +kernel
theorem dX7_read_96 : decode cX7_read 96 = .ok (.ireturn, 1) := by decide +kernel
abbrev rmX7_read : Room := { frames := 2, cells := 0, slots := 0, locals := 42 }
set_option maxHeartbeats 4000000 in
set_option maxRecDepth 100000 in
theorem wX7_read_90 (Cx : ms_C p s m args meth c D cA a shX cX7_read 5 RX7 (some .int)) (out : Int32 × Mm) : ∀ (y1 : Int32) , ∀ (σ : Mm) (H : Heap) (locs : List Loc) (ls : Array Slot), ms_I D cA a shX s σ H locs → lv_has ls 5 [(0, .ref (a 0)), (4, .int y1)] → fX7_read_90 y1 σ = some out → W p l e rmX7_read s m args below meth c H locs 0 0 (MQ below (ms_Qi D cA a shX out.1 out.2) args s 0 0 (ms_A a shX.length)) (F0 m 90 ls []) := by
  have hx := Cx.1
  have hb := Cx.2.1
  intro y1 σ H locs ls hI hl h
  unfold fX7_read_90 at h
  refine lv_aload_n hx hb dX7_read_90 rfl (lv_at hl 0 rfl) ?_
  obtain ⟨σ2, hc1, h⟩ := ms_bdE h
  refine kX7_outdate Cx hI hc1 wd_10_8 (Nat.le_of_ble_eq_true rfl) (Nat.le_of_ble_eq_true rfl) hl.1 (Nat.le_of_ble_eq_true rfl) dX7_read_91 (fun H locs hI => ?_)
  refine lv_iload hx hb dX7_read_94 (lv_at hl 1 rfl) ?_
  exact ms_riw Cx hI h dX7_read_96
set_option maxHeartbeats 4000000 in
set_option maxRecDepth 100000 in
theorem wX7_read_48 (Cx : ms_C p s m args meth c D cA a shX cX7_read 5 RX7 (some .int)) (out : Int32 × Mm) : ∀ (n : Nat), ∀ (y1 : Nat) (y2 : Int32) (y3 : Int32) , y1 < 4 → ∀ (σ : Mm) (H : Heap) (locs : List Loc) (ls : Array Slot), ms_I D cA a shX s σ H locs → lv_has ls 5 [(0, .ref (a 0)), (2, .ref (a (27 + 2 * y1))), (3, .int y2), (4, .int y3)] → fX7_read_48 n y1 y2 y3 σ = some out → W p l e rmX7_read s m args below meth c H locs 0 0 (MQ below (ms_Qi D cA a shX out.1 out.2) args s 0 0 (ms_A a shX.length)) (F0 m 48 ls []) := by
  have hx := Cx.1
  have hb := Cx.2.1
  intro n
  induction n with
  | zero =>
    intro y1 y2 y3 h_y1 σ H locs ls hI hl h
    exact nomatch (show none = some out from h)
  | succ n ih =>
    intro y1 y2 y3 h_y1 σ H locs ls hI hl h
    rw [fX7_read_48] at h
    refine lv_iload hx hb dX7_read_48 (lv_at hl 3 rfl) ?_
    refine lv_iload_n hx hb dX7_read_50 rfl (lv_at hl 2 rfl) ?_
    refine lv_icmp_ge (tgt := 90) hx hb dX7_read_51 rfl (fun hc => ?_) (fun hc => ?_)
    · have h := ms_ifT hc h
      exact wX7_read_90 Cx out  y3 σ _ _ _ hI (lv_sub hl [0, 3] rfl) h
    · have h := ms_ifF hc h
      refine lv_aload_n hx hb dX7_read_54 rfl (lv_at hl 1 rfl) ?_
      refine gr_X2_0 Cx hI h_y1 wd_17_7 dX7_read_55 ?_
      refine lv_iload hx hb dX7_read_58 (lv_at hl 3 rfl) ?_
      obtain ⟨hg, h⟩ := ms_gE h
      refine ms_ld Cx hI (28 + 2 * y1) (shX_J h_y1) hg dX7_read_60 ?_
      refine lv_iconst (v := 0) hx hb dX7_read_61 rfl ?_
      refine lv_bipush (v := 23) hx hb dX7_read_62 rfl ?_
      obtain ⟨r2, hc1, h⟩ := ms_bdE h
      refine kX7_within Cx hI hc1 (Or.inl wd_7_23) (Nat.le_of_ble_eq_true rfl) (Nat.le_of_ble_eq_true rfl) hl.1 (Nat.le_of_ble_eq_true rfl) dX7_read_64 (fun H locs hI => ?_)
      refine lv_if_eq (tgt := 90) hx hb dX7_read_67 rfl (fun hc => ?_) (fun hc => ?_)
      · have h := ms_ifT hc h
        exact wX7_read_90 Cx out  y3 σ _ _ _ hI (lv_sub hl [0, 3] rfl) h
      · have h := ms_ifF hc h
        refine lv_aload_n hx hb dX7_read_70 rfl (lv_at hl 0 rfl) ?_
        refine gr_X7_2 Cx hI wd_2_1 dX7_read_71 ?_
        refine lv_iload hx hb dX7_read_74 (lv_at hl 3 rfl) ?_
        refine lv_aload_n hx hb dX7_read_76 rfl (lv_at hl 1 rfl) ?_
        refine gr_X2_0 Cx hI h_y1 wd_17_7 dX7_read_77 ?_
        refine lv_iload hx hb dX7_read_80 (lv_at hl 3 rfl) ?_
        obtain ⟨hg, h⟩ := ms_gE h
        refine ms_ld Cx hI (28 + 2 * y1) (shX_J h_y1) hg dX7_read_82 ?_
        obtain ⟨hg, h⟩ := ms_gE h
        refine ms_sto Cx hI 6 shX_6 hg dX7_read_83 (fun H locs σ3 eσ3 hI => ?_)
        have h := ms_ltE eσ3 h
        refine lv_iinc (v := y3 + 1) (lv' := [(4, .int (y3 + 1)), (0, .ref (a 0)), (2, .ref (a (27 + 2 * y1))), (3, .int y2)]) hx hb dX7_read_84 hl (k := 3) rfl rfl (by decide) rfl (fun ls hl => ?_)
        refine lv_goto (tgt := 48) hx hb dX7_read_87 rfl ?_
        exact ih y1 y2 (y3 + 1) h_y1 σ3 _ _ _ hI (lv_sub hl [1, 2, 3, 0] rfl) h
set_option maxHeartbeats 4000000 in
set_option maxRecDepth 100000 in
theorem wX7_read (Cx : ms_C p s m args meth c D cA a shX cX7_read 5 RX7 (some .int)) (out : Int32 × Mm) : ∀ (p0 : Int32) , ∀ (σ : Mm) (H : Heap) (locs : List Loc) (ls : Array Slot), ms_I D cA a shX s σ H locs → lv_has ls 5 [(0, .ref (a 0)), (1, .int p0)] → fX7_read p0 σ = some out → W p l e rmX7_read s m args below meth c H locs 0 0 (MQ below (ms_Qi D cA a shX out.1 out.2) args s 0 0 (ms_A a shX.length)) (F0 m 0 ls []) := by
  have hx := Cx.1
  have hb := Cx.2.1
  intro p0 σ H locs ls hI hl h
  unfold fX7_read at h
  refine lv_iload_n hx hb dX7_read_0 rfl (lv_at hl 1 rfl) ?_
  obtain ⟨r2, hc1, h⟩ := ms_bdE h
  refine kX7_isSheet Cx hI hc1 (Or.inl wd_17_8) (Nat.le_of_ble_eq_true rfl) (Nat.le_of_ble_eq_true rfl) hl.1 (Nat.le_of_ble_eq_true rfl) dX7_read_1 (fun H locs hI => ?_)
  refine lv_if_ne (tgt := 10) hx hb dX7_read_4 rfl (fun hc => ?_) (fun hc => ?_)
  · have h := ms_ifF hc h
    refine lv_aload_n hx hb dX7_read_10 rfl (lv_at hl 0 rfl) ?_
    refine gr_X7_9 Cx hI wd_3_0 dX7_read_11 ?_
    refine lv_iload_n hx hb dX7_read_14 rfl (lv_at hl 1 rfl) ?_
    obtain ⟨hg, h⟩ := ms_gE h
    refine ms_ldr Cx hI 26 shX_26 hg dX7_read_15 ?_
    have hq3 := ms_ixlt hg
    refine gi_X2_3 Cx hI hq3 wd_17_1 dX7_read_16 ?_
    refine lv_if_eq (tgt := 28) hx hb dX7_read_19 rfl (fun hc => ?_) (fun hc => ?_)
    · have h := ms_ifT hc h
      refine lv_aload_n hx hb dX7_read_28 rfl (lv_at hl 0 rfl) ?_
      refine gr_X7_9 Cx hI wd_3_0 dX7_read_29 ?_
      refine lv_iload_n hx hb dX7_read_32 rfl (lv_at hl 1 rfl) ?_
      obtain ⟨hg, h⟩ := ms_gE h
      refine ms_ldr Cx hI 26 shX_26 hg dX7_read_33 ?_
      have hq4 := ms_ixlt hg
      refine lv_astore_n (lv' := [(2, .ref (a (27 + 2 * (ms_ix p0)))), (0, .ref (a 0)), (1, .int p0)]) hx hb dX7_read_34 rfl hl (by decide) rfl (fun ls hl => ?_)
      refine lv_aload_n hx hb dX7_read_35 rfl (lv_at hl 0 rfl) ?_
      refine gi_X2_2 Cx hI hq4 wd_17_2 dX7_read_36 ?_
      refine lv_bipush (v := 6) hx hb dX7_read_39 rfl ?_
      refine ms_min Cx wd_17_3 hl.1 (Nat.le_of_ble_eq_true rfl) (Nat.le_of_ble_eq_true rfl) ⟨Nat.zero_le _, Nat.zero_le _⟩ dX7_read_41 ?_
      refine lv_topi (fun x5 ex5 => ?_)
      have h := ms_ltE ex5 h
      refine lv_istore_n (lv' := [(3, .int x5), (2, .ref (a (27 + 2 * (ms_ix p0)))), (0, .ref (a 0)), (1, .int p0)]) hx hb dX7_read_44 rfl hl (by decide) rfl (fun ls hl => ?_)
      refine lv_iconst (v := 0) hx hb dX7_read_45 rfl ?_
      refine lv_istore (lv' := [(4, .int 0), (3, .int x5), (2, .ref (a (27 + 2 * (ms_ix p0)))), (0, .ref (a 0)), (1, .int p0)]) hx hb dX7_read_46 hl (by decide) rfl (fun ls hl => ?_)
      exact wX7_read_48 Cx out  ms_fu (ms_ix p0) x5 0 hq4 σ _ _ _ hI (lv_sub hl [3, 2, 1, 0] rfl) h
    · have h := ms_ifF hc h
      refine lv_aload_n hx hb dX7_read_22 rfl (lv_at hl 0 rfl) ?_
      refine lv_iconst (v := 1) hx hb dX7_read_23 rfl ?_
      obtain ⟨⟨r7, σ8⟩, hc6, h⟩ := ms_bdE h
      refine kX7_find Cx hI hc6 wd_17_11 (Nat.le_of_ble_eq_true rfl) (Nat.le_of_ble_eq_true rfl) hl.1 (Nat.le_of_ble_eq_true rfl) dX7_read_24 (fun H locs hI => ?_)
      exact ms_riw Cx hI h dX7_read_27
  · have h := ms_ifT hc h
    refine lv_bipush (v := -2) hx hb dX7_read_7 rfl ?_
    exact ms_riw Cx hI h dX7_read_9
theorem yvX7_read : ms_YV yX7_read RX7 cX7_read 5 (some .int) 1 := ⟨wd_16_22, wd_16_23, wd_1_2, wd_17_0, rfl, by decide +kernel, by decide +kernel, by decide +kernel⟩
set_option maxHeartbeats 4000000 in
theorem metX7_read (l : Launch) (hDis : ms_Dis a shX.length) {σ : Mm} {p0 : Int32} {out : Int32 × Mm} (h : fX7_read p0 σ = some out) : Met l yX7_read (.code yX7_read cX7_read 5 (some .int) :: wsL_law) rmX7_read (ms_Pc D cA a shX [.ref (a 0), .int p0] σ) (ms_Qi D cA a shX out.1 out.2) 0 0 (ms_A a shX.length) := by
  refine Met.ofW (cc := cX7_read) (maxL := 5) (ret := (some .int)) (by decide) rfl ?_
  intro p e s m args below meth c s₁ B hml hv
  obtain ⟨rfl, hK, hN, hP⟩ := hv
  have hl := lv_entry ([.ref (a 0), .int p0]) (n := 5) (Nat.le_of_ble_eq_true rfl)
  rw [lg_entry_eq]
  generalize (lg_sl ([.ref (a 0), .int p0]) ++ List.replicate (5 - (lg_sl ([.ref (a 0), .int p0])).length) Slot.unset).toArray = ls at hl ⊢
  exact wX7_read ⟨B.exec, B.bytes, hml, findClass_of_methodNamed B.named, fun w hw => atoms_spec (ws := .code yX7_read cX7_read 5 (some .int) :: wsL_law) B.pre w (List.mem_cons_of_mem _ hw), B.returns, B.notSynchronized, hK, hDis, hN⟩ out p0 σ s.heap [] ls ⟨hP, va_S.rf⟩ hl h
theorem kX7_read (Cx : ms_C p s m args meth c D cA a shX cc nL own ret) {σ : Mm} {H : Heap} {locs : List Loc} (hI : ms_I D cA a shX s σ H locs) {p0 : Int32} {out : Int32 × Mm} (h : fX7_read p0 σ = some out) (hl : Cond.methodLink own idx yX7_read ∈ wsL_law) (hf : 2 + 1 ≤ R.frames) (hlo : 8 + (5 + 11) + 42 ≤ R.locals) (hsz : ls.size = nL) (hW : (rest.map fun v => v.category).sum ≤ 8) (hd : decode cc pc = .ok (.invokevirtual idx, 3)) (kk : ∀ (H1 : Heap) (locs1 : List Loc), ms_I D cA a shX s out.2 H1 locs1 → W p l e R s m args below meth c H1 locs1 0 0 Q (F0 m (pc + 3) ls (.int out.1 :: rest))) : W p l e R s m args below meth c H locs 0 0 Q (F0 m pc ls (.int p0 :: .ref (a 0) :: rest)) :=
  ms_ci hI (ms_runV (av := [.int p0]) Cx hI 0 shX_0 (ci := 7) rfl rfl yvX7_read (metX7_read l Cx.2.2.2.2.2.2.2.2.1  h) ⟨rfl, rfl⟩ hl ⟨hf, hlo⟩ rfl hsz rfl hW ⟨Nat.zero_le _, Nat.zero_le _⟩ hd) kk
end WK
