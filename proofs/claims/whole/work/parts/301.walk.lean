section WK
variable {p : Program} {l : Launch} {e : Env} {R : Room} {s : State} {m : MethodId} {args : Array Value} {below : List Frame} {meth : Method} {c : Code} {Q : State → Prop}
variable {D : va_G} {cA : Nat → ClassId} {a : Nat → Nat} {cc : ByteArray} {nL idx : Nat} {own : String} {ret : Option FieldType} {pc : Nat} {ls : Array Slot} {rest : List Value}
/-! X1 keepTrial (II)V -/
theorem dX1_keepTrial_0 : decode cX1_keepTrial 0 = .ok (.aload_n 0, 1) := by decide +kernel
theorem dX1_keepTrial_1 : decode cX1_keepTrial 1 = .ok (.iload_n 1, 1) := by decide +kernel
theorem dX1_keepTrial_2 : decode cX1_keepTrial 2 = .ok (.putfield 28, 3) := by decide +kernel
theorem dX1_keepTrial_5 : decode cX1_keepTrial 5 = .ok (.aload_n 0, 1) := by decide +kernel
theorem dX1_keepTrial_6 : decode cX1_keepTrial 6 = .ok (.iload_n 2, 1) := by decide +kernel
theorem dX1_keepTrial_7 : decode cX1_keepTrial 7 = .ok (.putfield 31, 3) := by decide +kernel
theorem dX1_keepTrial_10 : decode cX1_keepTrial 10 = .ok (.iconst 0, 1) := by decide +kernel
theorem dX1_keepTrial_11 : decode cX1_keepTrial 11 = .ok (.istore_n 3, 1) := by decide +kernel
theorem dX1_keepTrial_12 : decode cX1_keepTrial 12 = .ok (.iload_n 3, 1) := by decide +kernel
theorem dX1_keepTrial_13 : decode cX1_keepTrial 13 = .ok (.aload_n 0, 1) := by decide +kernel
theorem dX1_keepTrial_14 : decode cX1_keepTrial 14 = .ok (.getfield 21, 3) := by decide +kernel
theorem dX1_keepTrial_17 : decode cX1_keepTrial 17 = .ok (.if_icmp .ge 26, 3) := by decide +kernel
theorem dX1_keepTrial_20 : decode cX1_keepTrial 20 = .ok (.aload_n 0, 1) := by decide +kernel
theorem dX1_keepTrial_21 : decode cX1_keepTrial 21 = .ok (.getfield 18, 3) := by decide +kernel
theorem dX1_keepTrial_24 : decode cX1_keepTrial 24 = .ok (.aload_n 0, 1) := by decide +kernel
theorem dX1_keepTrial_25 : decode cX1_keepTrial 25 = .ok (.getfield 9, 3) := by decide +kernel
theorem dX1_keepTrial_28 : decode cX1_keepTrial 28 = .ok (.iload_n 3, 1) := by decide +kernel
theorem dX1_keepTrial_29 : decode cX1_keepTrial 29 = .ok (.iaload, 1) := by decide +kernel
theorem dX1_keepTrial_30 : decode cX1_keepTrial 30 = .ok (.aload_n 0, 1) := by decide +kernel
theorem dX1_keepTrial_31 : decode cX1_keepTrial 31 = .ok (.getfield 15, 3) := by decide +kernel
theorem dX1_keepTrial_34 : decode cX1_keepTrial 34 = .ok (.iload_n 3, 1) := by decide +kernel
theorem dX1_keepTrial_35 : decode cX1_keepTrial 35 = .ok (.iaload, 1) := by decide +kernel
theorem dX1_keepTrial_36 : decode cX1_keepTrial 36 = .ok (.iastore, 1) := by decide +kernel
theorem dX1_keepTrial_37 : decode cX1_keepTrial 37 = .ok (.iinc 3 1, 3) := by decide +kernel
theorem dX1_keepTrial_40 : decode cX1_keepTrial 40 = .ok (.goto (-28), 3) := by decide +kernel
theorem dX1_keepTrial_43 : decode cX1_keepTrial 43 = .ok (.return_, 1) := by decide +kernel
abbrev rmX1_keepTrial : Room := { frames := 0, cells := 0, slots := 0, locals := 0 }
set_option maxHeartbeats 4000000 in
set_option maxRecDepth 100000 in
theorem wX1_keepTrial_12 (Cx : ms_C p s m args meth c D cA a shX cX1_keepTrial 4 RX1 none) (out : Mm) : ∀ (n : Nat), ∀ (y1 : Int32) , ∀ (σ : Mm) (H : Heap) (locs : List Loc) (ls : Array Slot), ms_I D cA a shX s σ H locs → lv_has ls 4 [(0, .ref (a 18)), (3, .int y1)] → fX1_keepTrial_12 n y1 σ = some out → W p l e rmX1_keepTrial s m args below meth c H locs 0 0 (MQ below (ms_Qv D cA a shX out) args s 0 0 (ms_A a shX.length)) (F0 m 12 ls []) := by
  have hx := Cx.1
  have hb := Cx.2.1
  intro n
  induction n with
  | zero =>
    intro y1 σ H locs ls hI hl h
    exact nomatch (show none = some out from h)
  | succ n ih =>
    intro y1 σ H locs ls hI hl h
    rw [fX1_keepTrial_12] at h
    refine lv_iload_n hx hb dX1_keepTrial_12 rfl (lv_at hl 1 rfl) ?_
    refine lv_aload_n hx hb dX1_keepTrial_13 rfl (lv_at hl 0 rfl) ?_
    refine gi_X1_3 Cx hI wd_5_9 dX1_keepTrial_14 ?_
    refine lv_icmp_ge (tgt := 43) hx hb dX1_keepTrial_17 rfl (fun hc => ?_) (fun hc => ?_)
    · have h := ms_ifT hc h
      exact ms_rv Cx hI (Option.some.inj h) dX1_keepTrial_43
    · have h := ms_ifF hc h
      refine lv_aload_n hx hb dX1_keepTrial_20 rfl (lv_at hl 0 rfl) ?_
      refine gr_X1_2 Cx hI wd_5_8 dX1_keepTrial_21 ?_
      refine lv_aload_n hx hb dX1_keepTrial_24 rfl (lv_at hl 0 rfl) ?_
      refine gr_X1_0 Cx hI wd_5_6 dX1_keepTrial_25 ?_
      refine lv_iload_n hx hb dX1_keepTrial_28 rfl (lv_at hl 1 rfl) ?_
      obtain ⟨hg, h⟩ := ms_gE h
      refine ms_ld Cx hI 19 shX_19 hg dX1_keepTrial_29 ?_
      refine lv_aload_n hx hb dX1_keepTrial_30 rfl (lv_at hl 0 rfl) ?_
      refine gr_X1_1 Cx hI wd_5_7 dX1_keepTrial_31 ?_
      refine lv_iload_n hx hb dX1_keepTrial_34 rfl (lv_at hl 1 rfl) ?_
      obtain ⟨hg, h⟩ := ms_gE h
      refine ms_ld Cx hI 20 shX_20 hg dX1_keepTrial_35 ?_
      obtain ⟨hg, h⟩ := ms_gE h
      refine ms_sto Cx hI 21 shX_21 hg dX1_keepTrial_36 (fun H locs σ1 eσ1 hI => ?_)
      have h := ms_ltE eσ1 h
      refine lv_iinc (v := y1 + 1) (lv' := [(3, .int (y1 + 1)), (0, .ref (a 18))]) hx hb dX1_keepTrial_37 hl (k := 1) rfl rfl (by decide) rfl (fun ls hl => ?_)
      refine lv_goto (tgt := 12) hx hb dX1_keepTrial_40 rfl ?_
      exact ih (y1 + 1) σ1 _ _ _ hI (lv_sub hl [1, 0] rfl) h
set_option maxHeartbeats 4000000 in
set_option maxRecDepth 100000 in
theorem wX1_keepTrial (Cx : ms_C p s m args meth c D cA a shX cX1_keepTrial 4 RX1 none) (out : Mm) : ∀ (p0 : Int32) (p1 : Int32) , ∀ (σ : Mm) (H : Heap) (locs : List Loc) (ls : Array Slot), ms_I D cA a shX s σ H locs → lv_has ls 4 [(0, .ref (a 18)), (1, .int p0), (2, .int p1)] → fX1_keepTrial p0 p1 σ = some out → W p l e rmX1_keepTrial s m args below meth c H locs 0 0 (MQ below (ms_Qv D cA a shX out) args s 0 0 (ms_A a shX.length)) (F0 m 0 ls []) := by
  have hx := Cx.1
  have hb := Cx.2.1
  intro p0 p1 σ H locs ls hI hl h
  unfold fX1_keepTrial at h
  refine lv_aload_n hx hb dX1_keepTrial_0 rfl (lv_at hl 0 rfl) ?_
  refine lv_iload_n hx hb dX1_keepTrial_1 rfl (lv_at hl 1 rfl) ?_
  refine pi_X1_5 Cx hI wd_5_11 dX1_keepTrial_2 (fun H locs σ1 eσ1 hI => ?_)
  have h := ms_ltE eσ1 h
  refine lv_aload_n hx hb dX1_keepTrial_5 rfl (lv_at hl 0 rfl) ?_
  refine lv_iload_n hx hb dX1_keepTrial_6 rfl (lv_at hl 2 rfl) ?_
  refine pi_X1_6 Cx hI wd_5_12 dX1_keepTrial_7 (fun H locs σ2 eσ2 hI => ?_)
  have h := ms_ltE eσ2 h
  refine lv_iconst (v := 0) hx hb dX1_keepTrial_10 rfl ?_
  refine lv_istore_n (lv' := [(3, .int 0), (0, .ref (a 18)), (1, .int p0), (2, .int p1)]) hx hb dX1_keepTrial_11 rfl hl (by decide) rfl (fun ls hl => ?_)
  exact wX1_keepTrial_12 Cx out  ms_fu 0 σ2 _ _ _ hI (lv_sub hl [1, 0] rfl) h
theorem yvX1_keepTrial : ms_YV yX1_keepTrial RX1 cX1_keepTrial 4 none 2 := ⟨wd_31_17, wd_31_18, wd_2_17, wd_31_19, rfl, by decide +kernel, by decide +kernel, by decide +kernel⟩
set_option maxHeartbeats 4000000 in
theorem metX1_keepTrial (l : Launch) (hDis : ms_Dis a shX.length) {σ : Mm} {p0 : Int32} {p1 : Int32} {out : Mm} (h : fX1_keepTrial p0 p1 σ = some out) : Met l yX1_keepTrial (.code yX1_keepTrial cX1_keepTrial 4 none :: wsL_law) rmX1_keepTrial (ms_Pc D cA a shX [.ref (a 18), .int p0, .int p1] σ) (ms_Qv D cA a shX out) 0 0 (ms_A a shX.length) := by
  refine Met.ofW (cc := cX1_keepTrial) (maxL := 4) (ret := none) (by decide) rfl ?_
  intro p e s m args below meth c s₁ B hml hv
  obtain ⟨rfl, hK, hN, hP⟩ := hv
  have hl := lv_entry ([.ref (a 18), .int p0, .int p1]) (n := 4) (Nat.le_of_ble_eq_true rfl)
  rw [lg_entry_eq]
  generalize (lg_sl ([.ref (a 18), .int p0, .int p1]) ++ List.replicate (4 - (lg_sl ([.ref (a 18), .int p0, .int p1])).length) Slot.unset).toArray = ls at hl ⊢
  exact wX1_keepTrial ⟨B.exec, B.bytes, hml, findClass_of_methodNamed B.named, fun w hw => atoms_spec (ws := .code yX1_keepTrial cX1_keepTrial 4 none :: wsL_law) B.pre w (List.mem_cons_of_mem _ hw), B.returns, B.notSynchronized, hK, hDis, hN⟩ out p0 p1 σ s.heap [] ls ⟨hP, va_S.rf⟩ hl h
theorem kX1_keepTrial (Cx : ms_C p s m args meth c D cA a shX cc nL own ret) {σ : Mm} {H : Heap} {locs : List Loc} (hI : ms_I D cA a shX s σ H locs) {p0 : Int32} {p1 : Int32} {out : Mm} (h : fX1_keepTrial p0 p1 σ = some out) (hl : Cond.methodLink own idx yX1_keepTrial ∈ wsL_law) (hf : 0 + 1 ≤ R.frames) (hlo : 8 + (4 + 11) + 0 ≤ R.locals) (hsz : ls.size = nL) (hW : (rest.map fun v => v.category).sum ≤ 8) (hd : decode cc pc = .ok (.invokevirtual idx, 3)) (kk : ∀ (H1 : Heap) (locs1 : List Loc), ms_I D cA a shX s out H1 locs1 → W p l e R s m args below meth c H1 locs1 0 0 Q (F0 m (pc + 3) ls (rest))) : W p l e R s m args below meth c H locs 0 0 Q (F0 m pc ls (.int p1 :: .int p0 :: .ref (a 18) :: rest)) :=
  ms_cv hI (ms_runV (av := [.int p0, .int p1]) Cx hI 18 shX_18 (ci := 1) rfl rfl yvX1_keepTrial (metX1_keepTrial l Cx.2.2.2.2.2.2.2.2.1  h) ⟨rfl, rfl⟩ hl ⟨hf, hlo⟩ rfl hsz rfl hW ⟨Nat.zero_le _, Nat.zero_le _⟩ hd) kk
/-! X1 tryOut (LMarketSpring$Spring;)V -/
theorem dX1_tryOut_0 : decode cX1_tryOut 0 = .ok (.iconst 0, 1) := by decide +kernel
theorem dX1_tryOut_1 : decode cX1_tryOut 1 = .ok (.istore_n 2, 1) := by decide +kernel
theorem dX1_tryOut_2 : decode cX1_tryOut 2 = .ok (.iconst 0, 1) := by decide +kernel
theorem dX1_tryOut_3 : decode cX1_tryOut 3 = .ok (.istore_n 3, 1) := by decide +kernel
theorem dX1_tryOut_4 : decode cX1_tryOut 4 = .ok (.aload_n 1, 1) := by decide +kernel
theorem dX1_tryOut_5 : decode cX1_tryOut 5 = .ok (.invokevirtual 65, 3) := by decide +kernel
theorem dX1_tryOut_8 : decode cX1_tryOut 8 = .ok (.iconst 0, 1) := by decide +kernel
theorem dX1_tryOut_9 : decode cX1_tryOut 9 = .ok (.istore 4, 2) := by decide +kernel
theorem dX1_tryOut_11 : decode cX1_tryOut 11 = .ok (.iload 4, 2) := by decide +kernel
theorem dX1_tryOut_13 : decode cX1_tryOut 13 = .ok (.bipush 48, 2) := by decide +kernel
theorem dX1_tryOut_15 : decode cX1_tryOut 15 = .ok (.if_icmp .ge 75, 3) := by decide +kernel
theorem dX1_tryOut_18 : decode cX1_tryOut 18 = .ok (.aload_n 1, 1) := by decide +kernel
theorem dX1_tryOut_19 : decode cX1_tryOut 19 = .ok (.iload 4, 2) := by decide +kernel
theorem dX1_tryOut_21 : decode cX1_tryOut 21 = .ok (.bipush 24, 2) := by decide +kernel
theorem dX1_tryOut_23 : decode cX1_tryOut 23 = .ok (.irem, 1) := by decide +kernel
theorem dX1_tryOut_24 : decode cX1_tryOut 24 = .ok (.invokevirtual 68, 3) := by decide +kernel
theorem dX1_tryOut_27 : decode cX1_tryOut 27 = .ok (.aload_n 1, 1) := by decide +kernel
theorem dX1_tryOut_28 : decode cX1_tryOut 28 = .ok (.getfield 71, 3) := by decide +kernel
theorem dX1_tryOut_31 : decode cX1_tryOut 31 = .ok (.ifCond .eq 53, 3) := by decide +kernel
theorem dX1_tryOut_34 : decode cX1_tryOut 34 = .ok (.iload_n 2, 1) := by decide +kernel
theorem dX1_tryOut_35 : decode cX1_tryOut 35 = .ok (.aload_n 1, 1) := by decide +kernel
theorem dX1_tryOut_36 : decode cX1_tryOut 36 = .ok (.getfield 71, 3) := by decide +kernel
theorem dX1_tryOut_39 : decode cX1_tryOut 39 = .ok (.aload_n 0, 1) := by decide +kernel
theorem dX1_tryOut_40 : decode cX1_tryOut 40 = .ok (.getfield 25, 3) := by decide +kernel
theorem dX1_tryOut_43 : decode cX1_tryOut 43 = .ok (.iand, 1) := by decide +kernel
theorem dX1_tryOut_44 : decode cX1_tryOut 44 = .ok (.invokestatic 74, 3) := by decide +kernel
theorem dX1_tryOut_47 : decode cX1_tryOut 47 = .ok (.iadd, 1) := by decide +kernel
theorem dX1_tryOut_48 : decode cX1_tryOut 48 = .ok (.istore_n 2, 1) := by decide +kernel
theorem dX1_tryOut_49 : decode cX1_tryOut 49 = .ok (.iload_n 3, 1) := by decide +kernel
theorem dX1_tryOut_50 : decode cX1_tryOut 50 = .ok (.aload_n 1, 1) := by decide +kernel
theorem dX1_tryOut_51 : decode cX1_tryOut 51 = .ok (.getfield 71, 3) := by decide +kernel
theorem dX1_tryOut_54 : decode cX1_tryOut 54 = .ok (.invokestatic 74, 3) := by decide +kernel
theorem dX1_tryOut_57 : decode cX1_tryOut 57 = .ok (.iadd, 1) := by decide +kernel
theorem dX1_tryOut_58 : decode cX1_tryOut 58 = .ok (.istore_n 3, 1) := by decide +kernel
theorem dX1_tryOut_59 : decode cX1_tryOut 59 = .ok (.iload_n 2, 1) := by decide +kernel
theorem dX1_tryOut_60 : decode cX1_tryOut 60 = .ok (.aload_n 0, 1) := by decide +kernel
theorem dX1_tryOut_61 : decode cX1_tryOut 61 = .ok (.getfield 28, 3) := by decide +kernel
theorem dX1_tryOut_64 : decode cX1_tryOut 64 = .ok (.if_icmp .gt 19, 3) := by decide +kernel
theorem dX1_tryOut_67 : decode cX1_tryOut 67 = .ok (.iload_n 2, 1) := by decide +kernel
theorem dX1_tryOut_68 : decode cX1_tryOut 68 = .ok (.aload_n 0, 1) := by decide +kernel
theorem dX1_tryOut_69 : decode cX1_tryOut 69 = .ok (.getfield 28, 3) := by decide +kernel
theorem dX1_tryOut_72 : decode cX1_tryOut 72 = .ok (.if_icmp .ne 12, 3) := by decide +kernel
theorem dX1_tryOut_75 : decode cX1_tryOut 75 = .ok (.iload_n 3, 1) := by decide +kernel
theorem dX1_tryOut_76 : decode cX1_tryOut 76 = .ok (.aload_n 0, 1) := by decide +kernel
theorem dX1_tryOut_77 : decode cX1_tryOut 77 = .ok (.getfield 31, 3) := by decide +kernel
theorem dX1_tryOut_80 : decode cX1_tryOut 80 = .ok (.if_icmp .lt 4, 3) := by decide +kernel
theorem dX1_tryOut_83 : decode cX1_tryOut 83 = .ok (.return_, 1) := by decide +kernel
theorem dX1_tryOut_84 : decode cX1_tryOut 84 = .ok (.iinc 4 1, 3) := by decide +kernel
theorem dX1_tryOut_87 : decode cX1_tryOut 87 = .ok (.goto (-76), 3) := by decide +kernel
theorem dX1_tryOut_90 : decode cX1_tryOut 90 = .ok (.aload_n 0, 1) := by decide +kernel
theorem dX1_tryOut_91 : decode cX1_tryOut 91 = .ok (.iload_n 2, 1) := by decide +kernel
theorem dX1_tryOut_92 : decode cX1_tryOut 92 = .ok (.iload_n 3, 1) := by decide +kernel
theorem dX1_tryOut_93 : decode cX1_tryOut 93 = .ok (.invokevirtual 80, 3) := by decide +kernel
theorem dX1_tryOut_96 : decode cX1_tryOut 96 = .ok (.return_, 1) := by decide +kernel
abbrev rmX1_tryOut : Room := { frames := 3, cells := 0, slots := 0, locals := 65 }
set_option maxHeartbeats 4000000 in
set_option maxRecDepth 100000 in
theorem wX1_tryOut_84 (Cx : ms_C p s m args meth c D cA a shX cX1_tryOut 5 RX1 none) (out : Mm) (K11 : Int32 → Int32 → Int32 → Mm → Option (Mm)) (hK11 : ∀ (y1 : Int32) (y2 : Int32) (y3 : Int32) , ∀ (σ : Mm) (H : Heap) (locs : List Loc) (ls : Array Slot), ms_I D cA a shX s σ H locs → lv_has ls 5 [(0, .ref (a 18)), (1, .ref (a 8)), (2, .int y1), (3, .int y2), (4, .int y3)] → K11 y1 y2 y3 σ = some out → W p l e rmX1_tryOut s m args below meth c H locs 0 0 (MQ below (ms_Qv D cA a shX out) args s 0 0 (ms_A a shX.length)) (F0 m 11 ls [])) : ∀ (y1 : Int32) (y2 : Int32) (y3 : Int32) , ∀ (σ : Mm) (H : Heap) (locs : List Loc) (ls : Array Slot), ms_I D cA a shX s σ H locs → lv_has ls 5 [(0, .ref (a 18)), (1, .ref (a 8)), (2, .int y1), (3, .int y2), (4, .int y3)] → fX1_tryOut_84 K11 y1 y2 y3 σ = some out → W p l e rmX1_tryOut s m args below meth c H locs 0 0 (MQ below (ms_Qv D cA a shX out) args s 0 0 (ms_A a shX.length)) (F0 m 84 ls []) := by
  have hx := Cx.1
  have hb := Cx.2.1
  intro y1 y2 y3 σ H locs ls hI hl h
  unfold fX1_tryOut_84 at h
  refine lv_iinc (v := y3 + 1) (lv' := [(4, .int (y3 + 1)), (0, .ref (a 18)), (1, .ref (a 8)), (2, .int y1), (3, .int y2)]) hx hb dX1_tryOut_84 hl (k := 4) rfl rfl (by decide) rfl (fun ls hl => ?_)
  refine lv_goto (tgt := 11) hx hb dX1_tryOut_87 rfl ?_
  exact hK11 y1 y2 (y3 + 1) σ _ _ _ hI (lv_sub hl [1, 2, 3, 4, 0] rfl) h
set_option maxHeartbeats 4000000 in
set_option maxRecDepth 100000 in
theorem wX1_tryOut_11 (Cx : ms_C p s m args meth c D cA a shX cX1_tryOut 5 RX1 none) (out : Mm) : ∀ (n : Nat), ∀ (y1 : Int32) (y2 : Int32) (y3 : Int32) , ∀ (σ : Mm) (H : Heap) (locs : List Loc) (ls : Array Slot), ms_I D cA a shX s σ H locs → lv_has ls 5 [(0, .ref (a 18)), (1, .ref (a 8)), (2, .int y1), (3, .int y2), (4, .int y3)] → fX1_tryOut_11 n y1 y2 y3 σ = some out → W p l e rmX1_tryOut s m args below meth c H locs 0 0 (MQ below (ms_Qv D cA a shX out) args s 0 0 (ms_A a shX.length)) (F0 m 11 ls []) := by
  have hx := Cx.1
  have hb := Cx.2.1
  intro n
  induction n with
  | zero =>
    intro y1 y2 y3 σ H locs ls hI hl h
    exact nomatch (show none = some out from h)
  | succ n ih =>
    intro y1 y2 y3 σ H locs ls hI hl h
    rw [fX1_tryOut_11] at h
    refine lv_iload hx hb dX1_tryOut_11 (lv_at hl 4 rfl) ?_
    refine lv_bipush (v := 48) hx hb dX1_tryOut_13 rfl ?_
    refine lv_icmp_ge (tgt := 90) hx hb dX1_tryOut_15 rfl (fun hc => ?_) (fun hc => ?_)
    · have h := ms_ifT hc h
      refine lv_aload_n hx hb dX1_tryOut_90 rfl (lv_at hl 0 rfl) ?_
      refine lv_iload_n hx hb dX1_tryOut_91 rfl (lv_at hl 2 rfl) ?_
      refine lv_iload_n hx hb dX1_tryOut_92 rfl (lv_at hl 3 rfl) ?_
      obtain ⟨σ2, hc1, h⟩ := ms_bdE h
      refine kX1_keepTrial Cx hI hc1 wd_31_16 (Nat.le_of_ble_eq_true rfl) (Nat.le_of_ble_eq_true rfl) hl.1 (Nat.le_of_ble_eq_true rfl) dX1_tryOut_93 (fun H locs hI => ?_)
      exact ms_rv Cx hI (Option.some.inj h) dX1_tryOut_96
    · have h := ms_ifF hc h
      refine lv_aload_n hx hb dX1_tryOut_18 rfl (lv_at hl 1 rfl) ?_
      refine lv_iload hx hb dX1_tryOut_19 (lv_at hl 4 rfl) ?_
      refine lv_bipush (v := 24) hx hb dX1_tryOut_21 rfl ?_
      refine ms_lrem hx hb dX1_tryOut_23 (by decide) ?_
      obtain ⟨σ4, hc3, h⟩ := ms_bdE h
      refine kX3_turn Cx hI hc3 wd_31_14 (Nat.le_of_ble_eq_true rfl) (Nat.le_of_ble_eq_true rfl) hl.1 (Nat.le_of_ble_eq_true rfl) dX1_tryOut_24 (fun H locs hI => ?_)
      refine lv_aload_n hx hb dX1_tryOut_27 rfl (lv_at hl 1 rfl) ?_
      refine gi_X3_16 Cx hI wd_31_12 dX1_tryOut_28 ?_
      refine lv_if_eq (tgt := 84) hx hb dX1_tryOut_31 rfl (fun hc => ?_) (fun hc => ?_)
      · have h := ms_ifT hc h
        exact wX1_tryOut_84 Cx out (fX1_tryOut_11 n) ih y1 y2 y3 σ4 _ _ _ hI (lv_sub hl [0, 1, 2, 3, 4] rfl) h
      · have h := ms_ifF hc h
        refine lv_iload_n hx hb dX1_tryOut_34 rfl (lv_at hl 2 rfl) ?_
        refine lv_aload_n hx hb dX1_tryOut_35 rfl (lv_at hl 1 rfl) ?_
        refine gi_X3_16 Cx hI wd_31_12 dX1_tryOut_36 ?_
        refine lv_aload_n hx hb dX1_tryOut_39 rfl (lv_at hl 0 rfl) ?_
        refine gi_X1_4 Cx hI wd_5_10 dX1_tryOut_40 ?_
        refine lv_iand hx hb dX1_tryOut_43 ?_
        obtain ⟨r6, hc5, h⟩ := ms_bdE h
        refine kJ6_bitCount_0f7a4 Cx hI hc5 (Or.inl wd_31_15) (Nat.le_of_ble_eq_true rfl) (Nat.le_of_ble_eq_true rfl) hl.1 (Nat.le_of_ble_eq_true rfl) dX1_tryOut_44 (fun H locs hI => ?_)
        refine lv_iadd hx hb dX1_tryOut_47 ?_
        refine lv_istore_n (lv' := [(2, .int (y1 + r6)), (0, .ref (a 18)), (1, .ref (a 8)), (3, .int y2), (4, .int y3)]) hx hb dX1_tryOut_48 rfl hl (by decide) rfl (fun ls hl => ?_)
        refine lv_iload_n hx hb dX1_tryOut_49 rfl (lv_at hl 3 rfl) ?_
        refine lv_aload_n hx hb dX1_tryOut_50 rfl (lv_at hl 2 rfl) ?_
        refine gi_X3_16 Cx hI wd_31_12 dX1_tryOut_51 ?_
        obtain ⟨r8, hc7, h⟩ := ms_bdE h
        refine kJ6_bitCount_0f7a4 Cx hI hc7 (Or.inl wd_31_15) (Nat.le_of_ble_eq_true rfl) (Nat.le_of_ble_eq_true rfl) hl.1 (Nat.le_of_ble_eq_true rfl) dX1_tryOut_54 (fun H locs hI => ?_)
        refine lv_iadd hx hb dX1_tryOut_57 ?_
        refine lv_istore_n (lv' := [(3, .int (y2 + r8)), (2, .int (y1 + r6)), (0, .ref (a 18)), (1, .ref (a 8)), (4, .int y3)]) hx hb dX1_tryOut_58 rfl hl (by decide) rfl (fun ls hl => ?_)
        refine lv_iload_n hx hb dX1_tryOut_59 rfl (lv_at hl 1 rfl) ?_
        refine lv_aload_n hx hb dX1_tryOut_60 rfl (lv_at hl 2 rfl) ?_
        refine gi_X1_5 Cx hI wd_5_11 dX1_tryOut_61 ?_
        refine lv_icmp_gt (tgt := 83) hx hb dX1_tryOut_64 rfl (fun hc => ?_) (fun hc => ?_)
        · have h := ms_ifT hc h
          exact ms_rv Cx hI (Option.some.inj h) dX1_tryOut_83
        · have h := ms_ifF hc h
          refine lv_iload_n hx hb dX1_tryOut_67 rfl (lv_at hl 1 rfl) ?_
          refine lv_aload_n hx hb dX1_tryOut_68 rfl (lv_at hl 2 rfl) ?_
          refine gi_X1_5 Cx hI wd_5_11 dX1_tryOut_69 ?_
          refine lv_icmp_ne (tgt := 84) hx hb dX1_tryOut_72 rfl (fun hc => ?_) (fun hc => ?_)
          · have h := ms_ifF hc h
            exact wX1_tryOut_84 Cx out (fX1_tryOut_11 n) ih (y1 + r6) (y2 + r8) y3 σ4 _ _ _ hI (lv_sub hl [2, 3, 1, 0, 4] rfl) h
          · have h := ms_ifT hc h
            refine lv_iload_n hx hb dX1_tryOut_75 rfl (lv_at hl 0 rfl) ?_
            refine lv_aload_n hx hb dX1_tryOut_76 rfl (lv_at hl 2 rfl) ?_
            refine gi_X1_6 Cx hI wd_5_12 dX1_tryOut_77 ?_
            refine lv_icmp_lt (tgt := 84) hx hb dX1_tryOut_80 rfl (fun hc => ?_) (fun hc => ?_)
            · have h := ms_ifT hc h
              exact wX1_tryOut_84 Cx out (fX1_tryOut_11 n) ih (y1 + r6) (y2 + r8) y3 σ4 _ _ _ hI (lv_sub hl [2, 3, 1, 0, 4] rfl) h
            · have h := ms_ifF hc h
              exact ms_rv Cx hI (Option.some.inj h) dX1_tryOut_83
set_option maxHeartbeats 4000000 in
set_option maxRecDepth 100000 in
theorem wX1_tryOut (Cx : ms_C p s m args meth c D cA a shX cX1_tryOut 5 RX1 none) (out : Mm) : ∀ (σ : Mm) (H : Heap) (locs : List Loc) (ls : Array Slot), ms_I D cA a shX s σ H locs → lv_has ls 5 [(0, .ref (a 18)), (1, .ref (a 8))] → fX1_tryOut σ = some out → W p l e rmX1_tryOut s m args below meth c H locs 0 0 (MQ below (ms_Qv D cA a shX out) args s 0 0 (ms_A a shX.length)) (F0 m 0 ls []) := by
  have hx := Cx.1
  have hb := Cx.2.1
  intro σ H locs ls hI hl h
  unfold fX1_tryOut at h
  refine lv_iconst (v := 0) hx hb dX1_tryOut_0 rfl ?_
  refine lv_istore_n (lv' := [(2, .int 0), (0, .ref (a 18)), (1, .ref (a 8))]) hx hb dX1_tryOut_1 rfl hl (by decide) rfl (fun ls hl => ?_)
  refine lv_iconst (v := 0) hx hb dX1_tryOut_2 rfl ?_
  refine lv_istore_n (lv' := [(3, .int 0), (2, .int 0), (0, .ref (a 18)), (1, .ref (a 8))]) hx hb dX1_tryOut_3 rfl hl (by decide) rfl (fun ls hl => ?_)
  refine lv_aload_n hx hb dX1_tryOut_4 rfl (lv_at hl 3 rfl) ?_
  obtain ⟨σ2, hc1, h⟩ := ms_bdE h
  refine kX3_begin Cx hI hc1 wd_31_13 (Nat.le_of_ble_eq_true rfl) (Nat.le_of_ble_eq_true rfl) hl.1 (Nat.le_of_ble_eq_true rfl) dX1_tryOut_5 (fun H locs hI => ?_)
  refine lv_iconst (v := 0) hx hb dX1_tryOut_8 rfl ?_
  refine lv_istore (lv' := [(4, .int 0), (3, .int 0), (2, .int 0), (0, .ref (a 18)), (1, .ref (a 8))]) hx hb dX1_tryOut_9 hl (by decide) rfl (fun ls hl => ?_)
  exact wX1_tryOut_11 Cx out  ms_fu 0 0 0 σ2 _ _ _ hI (lv_sub hl [3, 4, 2, 1, 0] rfl) h
theorem yvX1_tryOut : ms_YV yX1_tryOut RX1 cX1_tryOut 5 none 1 := ⟨wd_31_9, wd_31_10, wd_2_17, wd_31_11, rfl, by decide +kernel, by decide +kernel, by decide +kernel⟩
set_option maxHeartbeats 4000000 in
theorem metX1_tryOut (l : Launch) (hDis : ms_Dis a shX.length) {σ : Mm} {out : Mm} (h : fX1_tryOut σ = some out) : Met l yX1_tryOut (.code yX1_tryOut cX1_tryOut 5 none :: wsL_law) rmX1_tryOut (ms_Pc D cA a shX [.ref (a 18), .ref (a 8)] σ) (ms_Qv D cA a shX out) 0 0 (ms_A a shX.length) := by
  refine Met.ofW (cc := cX1_tryOut) (maxL := 5) (ret := none) (by decide) rfl ?_
  intro p e s m args below meth c s₁ B hml hv
  obtain ⟨rfl, hK, hN, hP⟩ := hv
  have hl := lv_entry ([.ref (a 18), .ref (a 8)]) (n := 5) (Nat.le_of_ble_eq_true rfl)
  rw [lg_entry_eq]
  generalize (lg_sl ([.ref (a 18), .ref (a 8)]) ++ List.replicate (5 - (lg_sl ([.ref (a 18), .ref (a 8)])).length) Slot.unset).toArray = ls at hl ⊢
  exact wX1_tryOut ⟨B.exec, B.bytes, hml, findClass_of_methodNamed B.named, fun w hw => atoms_spec (ws := .code yX1_tryOut cX1_tryOut 5 none :: wsL_law) B.pre w (List.mem_cons_of_mem _ hw), B.returns, B.notSynchronized, hK, hDis, hN⟩ out σ s.heap [] ls ⟨hP, va_S.rf⟩ hl h
theorem kX1_tryOut (Cx : ms_C p s m args meth c D cA a shX cc nL own ret) {σ : Mm} {H : Heap} {locs : List Loc} (hI : ms_I D cA a shX s σ H locs) {out : Mm} (h : fX1_tryOut σ = some out) (hl : Cond.methodLink own idx yX1_tryOut ∈ wsL_law) (hf : 3 + 1 ≤ R.frames) (hlo : 8 + (5 + 11) + 65 ≤ R.locals) (hsz : ls.size = nL) (hW : (rest.map fun v => v.category).sum ≤ 8) (hd : decode cc pc = .ok (.invokevirtual idx, 3)) (kk : ∀ (H1 : Heap) (locs1 : List Loc), ms_I D cA a shX s out H1 locs1 → W p l e R s m args below meth c H1 locs1 0 0 Q (F0 m (pc + 3) ls (rest))) : W p l e R s m args below meth c H locs 0 0 Q (F0 m pc ls (.ref (a 8) :: .ref (a 18) :: rest)) :=
  ms_cv hI (ms_runV (av := [.ref (a 8)]) Cx hI 18 shX_18 (ci := 1) rfl rfl yvX1_tryOut (metX1_tryOut l Cx.2.2.2.2.2.2.2.2.1  h) ⟨rfl, rfl⟩ hl ⟨hf, hlo⟩ rfl hsz rfl hW ⟨Nat.zero_le _, Nat.zero_le _⟩ hd) kk
/-! X1 search (LMarketSpring$Spring;LMarketSpring$Town;I)V -/
theorem dX1_search_0 : decode cX1_search 0 = .ok (.aload_n 0, 1) := by decide +kernel
theorem dX1_search_1 : decode cX1_search 1 = .ok (.iload_n 3, 1) := by decide +kernel
theorem dX1_search_2 : decode cX1_search 2 = .ok (.invokevirtual 38, 3) := by decide +kernel
theorem dX1_search_5 : decode cX1_search 5 = .ok (.aload_n 0, 1) := by decide +kernel
theorem dX1_search_6 : decode cX1_search 6 = .ok (.aload_n 2, 1) := by decide +kernel
theorem dX1_search_7 : decode cX1_search 7 = .ok (.invokevirtual 42, 3) := by decide +kernel
theorem dX1_search_10 : decode cX1_search 10 = .ok (.putfield 25, 3) := by decide +kernel
theorem dX1_search_13 : decode cX1_search 13 = .ok (.aload_n 0, 1) := by decide +kernel
theorem dX1_search_14 : decode cX1_search 14 = .ok (.sipush 289, 3) := by decide +kernel
theorem dX1_search_17 : decode cX1_search 17 = .ok (.putfield 28, 3) := by decide +kernel
theorem dX1_search_20 : decode cX1_search 20 = .ok (.aload_n 0, 1) := by decide +kernel
theorem dX1_search_21 : decode cX1_search 21 = .ok (.sipush 289, 3) := by decide +kernel
theorem dX1_search_24 : decode cX1_search 24 = .ok (.putfield 31, 3) := by decide +kernel
theorem dX1_search_27 : decode cX1_search 27 = .ok (.iconst 1, 1) := by decide +kernel
theorem dX1_search_28 : decode cX1_search 28 = .ok (.istore 4, 2) := by decide +kernel
theorem dX1_search_30 : decode cX1_search 30 = .ok (.iconst 0, 1) := by decide +kernel
theorem dX1_search_31 : decode cX1_search 31 = .ok (.istore 5, 2) := by decide +kernel
theorem dX1_search_33 : decode cX1_search 33 = .ok (.iload 5, 2) := by decide +kernel
theorem dX1_search_35 : decode cX1_search 35 = .ok (.aload_n 0, 1) := by decide +kernel
theorem dX1_search_36 : decode cX1_search 36 = .ok (.getfield 21, 3) := by decide +kernel
theorem dX1_search_39 : decode cX1_search 39 = .ok (.if_icmp .ge 16, 3) := by decide +kernel
theorem dX1_search_42 : decode cX1_search 42 = .ok (.iload 4, 2) := by decide +kernel
theorem dX1_search_44 : decode cX1_search 44 = .ok (.bipush 24, 2) := by decide +kernel
theorem dX1_search_46 : decode cX1_search 46 = .ok (.imul, 1) := by decide +kernel
theorem dX1_search_47 : decode cX1_search 47 = .ok (.istore 4, 2) := by decide +kernel
theorem dX1_search_49 : decode cX1_search 49 = .ok (.iinc 5 1, 3) := by decide +kernel
theorem dX1_search_52 : decode cX1_search 52 = .ok (.goto (-19), 3) := by decide +kernel
theorem dX1_search_55 : decode cX1_search 55 = .ok (.iconst 0, 1) := by decide +kernel
theorem dX1_search_56 : decode cX1_search 56 = .ok (.istore 5, 2) := by decide +kernel
theorem dX1_search_58 : decode cX1_search 58 = .ok (.iload 5, 2) := by decide +kernel
theorem dX1_search_60 : decode cX1_search 60 = .ok (.iload 4, 2) := by decide +kernel
theorem dX1_search_62 : decode cX1_search 62 = .ok (.if_icmp .ge 75, 3) := by decide +kernel
theorem dX1_search_65 : decode cX1_search 65 = .ok (.aload_n 0, 1) := by decide +kernel
theorem dX1_search_66 : decode cX1_search 66 = .ok (.getfield 31, 3) := by decide +kernel
theorem dX1_search_69 : decode cX1_search 69 = .ok (.ifCond .le 68, 3) := by decide +kernel
theorem dX1_search_72 : decode cX1_search 72 = .ok (.aload_n 0, 1) := by decide +kernel
theorem dX1_search_73 : decode cX1_search 73 = .ok (.iload 5, 2) := by decide +kernel
theorem dX1_search_75 : decode cX1_search 75 = .ok (.invokevirtual 47, 3) := by decide +kernel
theorem dX1_search_78 : decode cX1_search 78 = .ok (.iconst 0, 1) := by decide +kernel
theorem dX1_search_79 : decode cX1_search 79 = .ok (.istore 6, 2) := by decide +kernel
theorem dX1_search_81 : decode cX1_search 81 = .ok (.iload 6, 2) := by decide +kernel
theorem dX1_search_83 : decode cX1_search 83 = .ok (.aload_n 0, 1) := by decide +kernel
theorem dX1_search_84 : decode cX1_search 84 = .ok (.getfield 21, 3) := by decide +kernel
theorem dX1_search_87 : decode cX1_search 87 = .ok (.if_icmp .ge 39, 3) := by decide +kernel
theorem dX1_search_90 : decode cX1_search 90 = .ok (.aload_n 1, 1) := by decide +kernel
theorem dX1_search_91 : decode cX1_search 91 = .ok (.getfield 50, 3) := by decide +kernel
theorem dX1_search_94 : decode cX1_search 94 = .ok (.aload_n 0, 1) := by decide +kernel
theorem dX1_search_95 : decode cX1_search 95 = .ok (.getfield 9, 3) := by decide +kernel
theorem dX1_search_98 : decode cX1_search 98 = .ok (.iload 6, 2) := by decide +kernel
theorem dX1_search_100 : decode cX1_search 100 = .ok (.iaload, 1) := by decide +kernel
theorem dX1_search_101 : decode cX1_search 101 = .ok (.aload_n 2, 1) := by decide +kernel
theorem dX1_search_102 : decode cX1_search 102 = .ok (.aload_n 0, 1) := by decide +kernel
theorem dX1_search_103 : decode cX1_search 103 = .ok (.getfield 9, 3) := by decide +kernel
theorem dX1_search_106 : decode cX1_search 106 = .ok (.iload 6, 2) := by decide +kernel
theorem dX1_search_108 : decode cX1_search 108 = .ok (.iaload, 1) := by decide +kernel
theorem dX1_search_109 : decode cX1_search 109 = .ok (.aload_n 0, 1) := by decide +kernel
theorem dX1_search_110 : decode cX1_search 110 = .ok (.getfield 15, 3) := by decide +kernel
theorem dX1_search_113 : decode cX1_search 113 = .ok (.iload 6, 2) := by decide +kernel
theorem dX1_search_115 : decode cX1_search 115 = .ok (.iaload, 1) := by decide +kernel
theorem dX1_search_116 : decode cX1_search 116 = .ok (.invokevirtual 55, 3) := by decide +kernel
theorem dX1_search_119 : decode cX1_search 119 = .ok (.iastore, 1) := by decide +kernel
theorem dX1_search_120 : decode cX1_search 120 = .ok (.iinc 6 1, 3) := by decide +kernel
theorem dX1_search_123 : decode cX1_search 123 = .ok (.goto (-42), 3) := by decide +kernel
theorem dX1_search_126 : decode cX1_search 126 = .ok (.aload_n 0, 1) := by decide +kernel
theorem dX1_search_127 : decode cX1_search 127 = .ok (.aload_n 1, 1) := by decide +kernel
theorem dX1_search_128 : decode cX1_search 128 = .ok (.invokevirtual 58, 3) := by decide +kernel
theorem dX1_search_131 : decode cX1_search 131 = .ok (.iinc 5 1, 3) := by decide +kernel
theorem dX1_search_134 : decode cX1_search 134 = .ok (.goto (-76), 3) := by decide +kernel
theorem dX1_search_137 : decode cX1_search 137 = .ok (.aload_n 0, 1) := by decide +kernel
theorem dX1_search_138 : decode cX1_search 138 = .ok (.iconst 1, 1) := by decide +kernel
theorem dX1_search_139 : decode cX1_search 139 = .ok (.putfield 34, 3) := by decide +kernel
theorem dX1_search_142 : decode cX1_search 142 = .ok (.return_, 1) := by decide +kernel
abbrev rmX1_search : Room := { frames := 4, cells := 0, slots := 0, locals := 89 }
set_option maxHeartbeats 4000000 in
set_option maxRecDepth 100000 in
theorem wX1_search_81 (Cx : ms_C p s m args meth c D cA a shX cX1_search 7 RX1 none) (out : Mm) (K58 : Int32 → Int32 → Mm → Option (Mm)) (hK58 : ∀ (y1 : Int32) (y2 : Int32) , ∀ (σ : Mm) (H : Heap) (locs : List Loc) (ls : Array Slot), ms_I D cA a shX s σ H locs → lv_has ls 7 [(0, .ref (a 18)), (1, .ref (a 8)), (2, .ref (a 1)), (4, .int y1), (5, .int y2)] → K58 y1 y2 σ = some out → W p l e rmX1_search s m args below meth c H locs 0 0 (MQ below (ms_Qv D cA a shX out) args s 0 0 (ms_A a shX.length)) (F0 m 58 ls [])) : ∀ (n : Nat), ∀ (y1 : Int32) (y2 : Int32) (y3 : Int32) , ∀ (σ : Mm) (H : Heap) (locs : List Loc) (ls : Array Slot), ms_I D cA a shX s σ H locs → lv_has ls 7 [(0, .ref (a 18)), (1, .ref (a 8)), (2, .ref (a 1)), (4, .int y1), (5, .int y2), (6, .int y3)] → fX1_search_81 K58 n y1 y2 y3 σ = some out → W p l e rmX1_search s m args below meth c H locs 0 0 (MQ below (ms_Qv D cA a shX out) args s 0 0 (ms_A a shX.length)) (F0 m 81 ls []) := by
  have hx := Cx.1
  have hb := Cx.2.1
  intro n
  induction n with
  | zero =>
    intro y1 y2 y3 σ H locs ls hI hl h
    exact nomatch (show none = some out from h)
  | succ n ih =>
    intro y1 y2 y3 σ H locs ls hI hl h
    rw [fX1_search_81] at h
    refine lv_iload hx hb dX1_search_81 (lv_at hl 5 rfl) ?_
    refine lv_aload_n hx hb dX1_search_83 rfl (lv_at hl 0 rfl) ?_
    refine gi_X1_3 Cx hI wd_5_9 dX1_search_84 ?_
    refine lv_icmp_ge (tgt := 126) hx hb dX1_search_87 rfl (fun hc => ?_) (fun hc => ?_)
    · have h := ms_ifT hc h
      refine lv_aload_n hx hb dX1_search_126 rfl (lv_at hl 0 rfl) ?_
      refine lv_aload_n hx hb dX1_search_127 rfl (lv_at hl 1 rfl) ?_
      obtain ⟨σ2, hc1, h⟩ := ms_bdE h
      refine kX1_tryOut Cx hI hc1 wd_31_8 (Nat.le_of_ble_eq_true rfl) (Nat.le_of_ble_eq_true rfl) hl.1 (Nat.le_of_ble_eq_true rfl) dX1_search_128 (fun H locs hI => ?_)
      refine lv_iinc (v := y2 + 1) (lv' := [(5, .int (y2 + 1)), (0, .ref (a 18)), (1, .ref (a 8)), (2, .ref (a 1)), (4, .int y1), (6, .int y3)]) hx hb dX1_search_131 hl (k := 4) rfl rfl (by decide) rfl (fun ls hl => ?_)
      refine lv_goto (tgt := 58) hx hb dX1_search_134 rfl ?_
      exact hK58 y1 (y2 + 1) σ2 _ _ _ hI (lv_sub hl [1, 2, 3, 4, 0] rfl) h
    · have h := ms_ifF hc h
      refine lv_aload_n hx hb dX1_search_90 rfl (lv_at hl 1 rfl) ?_
      refine gr_X3_2 Cx hI wd_30_21 dX1_search_91 ?_
      refine lv_aload_n hx hb dX1_search_94 rfl (lv_at hl 0 rfl) ?_
      refine gr_X1_0 Cx hI wd_5_6 dX1_search_95 ?_
      refine lv_iload hx hb dX1_search_98 (lv_at hl 5 rfl) ?_
      obtain ⟨hg, h⟩ := ms_gE h
      refine ms_ld Cx hI 19 shX_19 hg dX1_search_100 ?_
      refine lv_aload_n hx hb dX1_search_101 rfl (lv_at hl 2 rfl) ?_
      refine lv_aload_n hx hb dX1_search_102 rfl (lv_at hl 0 rfl) ?_
      refine gr_X1_0 Cx hI wd_5_6 dX1_search_103 ?_
      refine lv_iload hx hb dX1_search_106 (lv_at hl 5 rfl) ?_
      obtain ⟨hg, h⟩ := ms_gE h
      refine ms_ld Cx hI 19 shX_19 hg dX1_search_108 ?_
      refine lv_aload_n hx hb dX1_search_109 rfl (lv_at hl 0 rfl) ?_
      refine gr_X1_1 Cx hI wd_5_7 dX1_search_110 ?_
      refine lv_iload hx hb dX1_search_113 (lv_at hl 5 rfl) ?_
      obtain ⟨hg, h⟩ := ms_gE h
      refine ms_ld Cx hI 20 shX_20 hg dX1_search_115 ?_
      obtain ⟨r4, hc3, h⟩ := ms_bdE h
      refine kX4_hoursOf Cx hI hc3 wd_31_7 (Nat.le_of_ble_eq_true rfl) (Nat.le_of_ble_eq_true rfl) hl.1 (Nat.le_of_ble_eq_true rfl) dX1_search_116 (fun H locs hI => ?_)
      obtain ⟨hg, h⟩ := ms_gE h
      refine ms_sto Cx hI 11 shX_11 hg dX1_search_119 (fun H locs σ5 eσ5 hI => ?_)
      have h := ms_ltE eσ5 h
      refine lv_iinc (v := y3 + 1) (lv' := [(6, .int (y3 + 1)), (0, .ref (a 18)), (1, .ref (a 8)), (2, .ref (a 1)), (4, .int y1), (5, .int y2)]) hx hb dX1_search_120 hl (k := 5) rfl rfl (by decide) rfl (fun ls hl => ?_)
      refine lv_goto (tgt := 81) hx hb dX1_search_123 rfl ?_
      exact ih y1 y2 (y3 + 1) σ5 _ _ _ hI (lv_sub hl [1, 2, 3, 4, 5, 0] rfl) h
set_option maxHeartbeats 4000000 in
set_option maxRecDepth 100000 in
theorem wX1_search_58 (Cx : ms_C p s m args meth c D cA a shX cX1_search 7 RX1 none) (out : Mm) : ∀ (n : Nat), ∀ (y1 : Int32) (y2 : Int32) , ∀ (σ : Mm) (H : Heap) (locs : List Loc) (ls : Array Slot), ms_I D cA a shX s σ H locs → lv_has ls 7 [(0, .ref (a 18)), (1, .ref (a 8)), (2, .ref (a 1)), (4, .int y1), (5, .int y2)] → fX1_search_58 n y1 y2 σ = some out → W p l e rmX1_search s m args below meth c H locs 0 0 (MQ below (ms_Qv D cA a shX out) args s 0 0 (ms_A a shX.length)) (F0 m 58 ls []) := by
  have hx := Cx.1
  have hb := Cx.2.1
  intro n
  induction n with
  | zero =>
    intro y1 y2 σ H locs ls hI hl h
    exact nomatch (show none = some out from h)
  | succ n ih =>
    intro y1 y2 σ H locs ls hI hl h
    rw [fX1_search_58] at h
    refine lv_iload hx hb dX1_search_58 (lv_at hl 4 rfl) ?_
    refine lv_iload hx hb dX1_search_60 (lv_at hl 3 rfl) ?_
    refine lv_icmp_ge (tgt := 137) hx hb dX1_search_62 rfl (fun hc => ?_) (fun hc => ?_)
    · have h := ms_ifT hc h
      refine lv_aload_n hx hb dX1_search_137 rfl (lv_at hl 0 rfl) ?_
      refine lv_iconst (v := 1) hx hb dX1_search_138 rfl ?_
      refine pi_X1_7 Cx hI (Or.inr rfl) wd_5_13 dX1_search_139 (fun H locs σ1 eσ1 hI => ?_)
      have h := ms_ltE eσ1 h
      exact ms_rv Cx hI (Option.some.inj h) dX1_search_142
    · have h := ms_ifF hc h
      refine lv_aload_n hx hb dX1_search_65 rfl (lv_at hl 0 rfl) ?_
      refine gi_X1_6 Cx hI wd_5_12 dX1_search_66 ?_
      refine lv_if_le (tgt := 137) hx hb dX1_search_69 rfl (fun hc => ?_) (fun hc => ?_)
      · have h := ms_ifT hc h
        refine lv_aload_n hx hb dX1_search_137 rfl (lv_at hl 0 rfl) ?_
        refine lv_iconst (v := 1) hx hb dX1_search_138 rfl ?_
        refine pi_X1_7 Cx hI (Or.inr rfl) wd_5_13 dX1_search_139 (fun H locs σ2 eσ2 hI => ?_)
        have h := ms_ltE eσ2 h
        exact ms_rv Cx hI (Option.some.inj h) dX1_search_142
      · have h := ms_ifF hc h
        refine lv_aload_n hx hb dX1_search_72 rfl (lv_at hl 0 rfl) ?_
        refine lv_iload hx hb dX1_search_73 (lv_at hl 4 rfl) ?_
        obtain ⟨σ4, hc3, h⟩ := ms_bdE h
        refine kX1_layTrial Cx hI hc3 wd_31_3 (Nat.le_of_ble_eq_true rfl) (Nat.le_of_ble_eq_true rfl) hl.1 (Nat.le_of_ble_eq_true rfl) dX1_search_75 (fun H locs hI => ?_)
        refine lv_iconst (v := 0) hx hb dX1_search_78 rfl ?_
        refine lv_istore (lv' := [(6, .int 0), (0, .ref (a 18)), (1, .ref (a 8)), (2, .ref (a 1)), (4, .int y1), (5, .int y2)]) hx hb dX1_search_79 hl (by decide) rfl (fun ls hl => ?_)
        exact wX1_search_81 Cx out (fX1_search_58 n) ih ms_fu y1 y2 0 σ4 _ _ _ hI (lv_sub hl [1, 2, 3, 4, 5, 0] rfl) h
set_option maxHeartbeats 4000000 in
set_option maxRecDepth 100000 in
theorem wX1_search_33 (Cx : ms_C p s m args meth c D cA a shX cX1_search 7 RX1 none) (out : Mm) : ∀ (n : Nat), ∀ (y1 : Int32) (y2 : Int32) , ∀ (σ : Mm) (H : Heap) (locs : List Loc) (ls : Array Slot), ms_I D cA a shX s σ H locs → lv_has ls 7 [(0, .ref (a 18)), (1, .ref (a 8)), (2, .ref (a 1)), (4, .int y1), (5, .int y2)] → fX1_search_33 n y1 y2 σ = some out → W p l e rmX1_search s m args below meth c H locs 0 0 (MQ below (ms_Qv D cA a shX out) args s 0 0 (ms_A a shX.length)) (F0 m 33 ls []) := by
  have hx := Cx.1
  have hb := Cx.2.1
  intro n
  induction n with
  | zero =>
    intro y1 y2 σ H locs ls hI hl h
    exact nomatch (show none = some out from h)
  | succ n ih =>
    intro y1 y2 σ H locs ls hI hl h
    rw [fX1_search_33] at h
    refine lv_iload hx hb dX1_search_33 (lv_at hl 4 rfl) ?_
    refine lv_aload_n hx hb dX1_search_35 rfl (lv_at hl 0 rfl) ?_
    refine gi_X1_3 Cx hI wd_5_9 dX1_search_36 ?_
    refine lv_icmp_ge (tgt := 55) hx hb dX1_search_39 rfl (fun hc => ?_) (fun hc => ?_)
    · have h := ms_ifT hc h
      refine lv_iconst (v := 0) hx hb dX1_search_55 rfl ?_
      refine lv_istore (lv' := [(5, .int 0), (0, .ref (a 18)), (1, .ref (a 8)), (2, .ref (a 1)), (4, .int y1)]) hx hb dX1_search_56 hl (by decide) rfl (fun ls hl => ?_)
      exact wX1_search_58 Cx out  ms_fu y1 0 σ _ _ _ hI (lv_sub hl [1, 2, 3, 4, 0] rfl) h
    · have h := ms_ifF hc h
      refine lv_iload hx hb dX1_search_42 (lv_at hl 3 rfl) ?_
      refine lv_bipush (v := 24) hx hb dX1_search_44 rfl ?_
      refine lv_imul hx hb dX1_search_46 ?_
      refine lv_istore (lv' := [(4, .int (y1 * 24)), (0, .ref (a 18)), (1, .ref (a 8)), (2, .ref (a 1)), (5, .int y2)]) hx hb dX1_search_47 hl (by decide) rfl (fun ls hl => ?_)
      refine lv_iinc (v := y2 + 1) (lv' := [(5, .int (y2 + 1)), (4, .int (y1 * 24)), (0, .ref (a 18)), (1, .ref (a 8)), (2, .ref (a 1))]) hx hb dX1_search_49 hl (k := 4) rfl rfl (by decide) rfl (fun ls hl => ?_)
      refine lv_goto (tgt := 33) hx hb dX1_search_52 rfl ?_
      exact ih (y1 * 24) (y2 + 1) σ _ _ _ hI (lv_sub hl [2, 3, 4, 1, 0] rfl) h
set_option maxHeartbeats 4000000 in
set_option maxRecDepth 100000 in
theorem wX1_search (Cx : ms_C p s m args meth c D cA a shX cX1_search 7 RX1 none) (out : Mm) : ∀ (p2 : Int32) , ∀ (σ : Mm) (H : Heap) (locs : List Loc) (ls : Array Slot), ms_I D cA a shX s σ H locs → lv_has ls 7 [(0, .ref (a 18)), (1, .ref (a 8)), (2, .ref (a 1)), (3, .int p2)] → fX1_search p2 σ = some out → W p l e rmX1_search s m args below meth c H locs 0 0 (MQ below (ms_Qv D cA a shX out) args s 0 0 (ms_A a shX.length)) (F0 m 0 ls []) := by
  have hx := Cx.1
  have hb := Cx.2.1
  intro p2 σ H locs ls hI hl h
  unfold fX1_search at h
  refine lv_aload_n hx hb dX1_search_0 rfl (lv_at hl 0 rfl) ?_
  refine lv_iload_n hx hb dX1_search_1 rfl (lv_at hl 3 rfl) ?_
  obtain ⟨σ2, hc1, h⟩ := ms_bdE h
  refine kX1_gather Cx hI hc1 wd_30_22 (Nat.le_of_ble_eq_true rfl) (Nat.le_of_ble_eq_true rfl) hl.1 (Nat.le_of_ble_eq_true rfl) dX1_search_2 (fun H locs hI => ?_)
  refine lv_aload_n hx hb dX1_search_5 rfl (lv_at hl 0 rfl) ?_
  refine lv_aload_n hx hb dX1_search_6 rfl (lv_at hl 2 rfl) ?_
  obtain ⟨r4, hc3, h⟩ := ms_bdE h
  refine kX4_mustBits Cx hI hc3 wd_31_2 (Nat.le_of_ble_eq_true rfl) (Nat.le_of_ble_eq_true rfl) hl.1 (Nat.le_of_ble_eq_true rfl) dX1_search_7 (fun H locs hI => ?_)
  refine pi_X1_4 Cx hI wd_5_10 dX1_search_10 (fun H locs σ5 eσ5 hI => ?_)
  have h := ms_ltE eσ5 h
  refine lv_aload_n hx hb dX1_search_13 rfl (lv_at hl 0 rfl) ?_
  refine lv_sipush (v := 289) hx hb dX1_search_14 rfl ?_
  refine pi_X1_5 Cx hI wd_5_11 dX1_search_17 (fun H locs σ6 eσ6 hI => ?_)
  have h := ms_ltE eσ6 h
  refine lv_aload_n hx hb dX1_search_20 rfl (lv_at hl 0 rfl) ?_
  refine lv_sipush (v := 289) hx hb dX1_search_21 rfl ?_
  refine pi_X1_6 Cx hI wd_5_12 dX1_search_24 (fun H locs σ7 eσ7 hI => ?_)
  have h := ms_ltE eσ7 h
  refine lv_iconst (v := 1) hx hb dX1_search_27 rfl ?_
  refine lv_istore (lv' := [(4, .int 1), (0, .ref (a 18)), (1, .ref (a 8)), (2, .ref (a 1)), (3, .int p2)]) hx hb dX1_search_28 hl (by decide) rfl (fun ls hl => ?_)
  refine lv_iconst (v := 0) hx hb dX1_search_30 rfl ?_
  refine lv_istore (lv' := [(5, .int 0), (4, .int 1), (0, .ref (a 18)), (1, .ref (a 8)), (2, .ref (a 1)), (3, .int p2)]) hx hb dX1_search_31 hl (by decide) rfl (fun ls hl => ?_)
  exact wX1_search_33 Cx out  ms_fu 1 0 σ7 _ _ _ hI (lv_sub hl [2, 3, 4, 1, 0] rfl) h
theorem yvX1_search : ms_YV yX1_search RX1 cX1_search 7 none 3 := ⟨wd_30_18, wd_30_19, wd_2_17, wd_30_20, rfl, by decide +kernel, by decide +kernel, by decide +kernel⟩
set_option maxHeartbeats 4000000 in
theorem metX1_search (l : Launch) (hDis : ms_Dis a shX.length) {σ : Mm} {p2 : Int32} {out : Mm} (h : fX1_search p2 σ = some out) : Met l yX1_search (.code yX1_search cX1_search 7 none :: wsL_law) rmX1_search (ms_Pc D cA a shX [.ref (a 18), .ref (a 8), .ref (a 1), .int p2] σ) (ms_Qv D cA a shX out) 0 0 (ms_A a shX.length) := by
  refine Met.ofW (cc := cX1_search) (maxL := 7) (ret := none) (by decide) rfl ?_
  intro p e s m args below meth c s₁ B hml hv
  obtain ⟨rfl, hK, hN, hP⟩ := hv
  have hl := lv_entry ([.ref (a 18), .ref (a 8), .ref (a 1), .int p2]) (n := 7) (Nat.le_of_ble_eq_true rfl)
  rw [lg_entry_eq]
  generalize (lg_sl ([.ref (a 18), .ref (a 8), .ref (a 1), .int p2]) ++ List.replicate (7 - (lg_sl ([.ref (a 18), .ref (a 8), .ref (a 1), .int p2])).length) Slot.unset).toArray = ls at hl ⊢
  exact wX1_search ⟨B.exec, B.bytes, hml, findClass_of_methodNamed B.named, fun w hw => atoms_spec (ws := .code yX1_search cX1_search 7 none :: wsL_law) B.pre w (List.mem_cons_of_mem _ hw), B.returns, B.notSynchronized, hK, hDis, hN⟩ out p2 σ s.heap [] ls ⟨hP, va_S.rf⟩ hl h
theorem kX1_search (Cx : ms_C p s m args meth c D cA a shX cc nL own ret) {σ : Mm} {H : Heap} {locs : List Loc} (hI : ms_I D cA a shX s σ H locs) {p2 : Int32} {out : Mm} (h : fX1_search p2 σ = some out) (hl : Cond.methodLink own idx yX1_search ∈ wsL_law) (hf : 4 + 1 ≤ R.frames) (hlo : 8 + (7 + 11) + 89 ≤ R.locals) (hsz : ls.size = nL) (hW : (rest.map fun v => v.category).sum ≤ 8) (hd : decode cc pc = .ok (.invokevirtual idx, 3)) (kk : ∀ (H1 : Heap) (locs1 : List Loc), ms_I D cA a shX s out H1 locs1 → W p l e R s m args below meth c H1 locs1 0 0 Q (F0 m (pc + 3) ls (rest))) : W p l e R s m args below meth c H locs 0 0 Q (F0 m pc ls (.int p2 :: .ref (a 1) :: .ref (a 8) :: .ref (a 18) :: rest)) :=
  ms_cv hI (ms_runV (av := [.ref (a 8), .ref (a 1), .int p2]) Cx hI 18 shX_18 (ci := 1) rfl rfl yvX1_search (metX1_search l Cx.2.2.2.2.2.2.2.2.1  h) ⟨rfl, rfl⟩ hl ⟨hf, hlo⟩ rfl hsz rfl hW ⟨Nat.zero_le _, Nat.zero_le _⟩ hd) kk
/-! X2 renew (II)V -/
theorem dX2_renew_0 : decode cX2_renew 0 = .ok (.aload_n 0, 1) := by decide +kernel
theorem dX2_renew_1 : decode cX2_renew 1 = .ok (.getfield 9, 3) := by decide +kernel
theorem dX2_renew_4 : decode cX2_renew 4 = .ok (.iconst 0, 1) := by decide +kernel
theorem dX2_renew_5 : decode cX2_renew 5 = .ok (.invokestatic 26, 3) := by decide +kernel
theorem dX2_renew_8 : decode cX2_renew 8 = .ok (.aload_n 0, 1) := by decide +kernel
theorem dX2_renew_9 : decode cX2_renew 9 = .ok (.iload_n 1, 1) := by decide +kernel
theorem dX2_renew_10 : decode cX2_renew 10 = .ok (.putfield 15, 3) := by decide +kernel
theorem dX2_renew_13 : decode cX2_renew 13 = .ok (.aload_n 0, 1) := by decide +kernel
theorem dX2_renew_14 : decode cX2_renew 14 = .ok (.iload_n 2, 1) := by decide +kernel
theorem dX2_renew_15 : decode cX2_renew 15 = .ok (.putfield 19, 3) := by decide +kernel
theorem dX2_renew_18 : decode cX2_renew 18 = .ok (.aload_n 0, 1) := by decide +kernel
theorem dX2_renew_19 : decode cX2_renew 19 = .ok (.iconst 0, 1) := by decide +kernel
theorem dX2_renew_20 : decode cX2_renew 20 = .ok (.putfield 22, 3) := by decide +kernel
theorem dX2_renew_23 : decode cX2_renew 23 = .ok (.return_, 1) := by decide +kernel
abbrev rmX2_renew : Room := { frames := 1, cells := 0, slots := 0, locals := 23 }
set_option maxHeartbeats 4000000 in
set_option maxRecDepth 100000 in
theorem wX2_renew (Cx : ms_C p s m args meth c D cA a shX cX2_renew 3 RX2 none) (out : Mm) : ∀ (j : Nat) (p0 : Int32) (p1 : Int32) , j < 4 → ∀ (σ : Mm) (H : Heap) (locs : List Loc) (ls : Array Slot), ms_I D cA a shX s σ H locs → lv_has ls 3 [(0, .ref (a (27 + 2 * j))), (1, .int p0), (2, .int p1)] → fX2_renew j p0 p1 σ = some out → W p l e rmX2_renew s m args below meth c H locs 0 0 (MQ below (ms_Qv D cA a shX out) args s 0 0 (ms_A a shX.length)) (F0 m 0 ls []) := by
  have hx := Cx.1
  have hb := Cx.2.1
  intro j p0 p1 h_j σ H locs ls hI hl h
  unfold fX2_renew at h
  refine lv_aload_n hx hb dX2_renew_0 rfl (lv_at hl 0 rfl) ?_
  refine gr_X2_0 Cx hI h_j wd_6_5 dX2_renew_1 ?_
  refine lv_iconst (v := 0) hx hb dX2_renew_4 rfl ?_
  refine ms_fill Cx hI (28 + 2 * j) (shX_J h_j) wd_37_6 (Nat.le_of_ble_eq_true rfl) (Nat.le_of_ble_eq_true rfl) hl.1 (Nat.le_of_ble_eq_true rfl) dX2_renew_5 (fun H locs σ1 eσ1 hI => ?_)
  have h := ms_ltE eσ1 h
  refine lv_aload_n hx hb dX2_renew_8 rfl (lv_at hl 0 rfl) ?_
  refine lv_iload_n hx hb dX2_renew_9 rfl (lv_at hl 1 rfl) ?_
  refine pi_X2_1 Cx hI h_j wd_6_6 dX2_renew_10 (fun H locs σ2 eσ2 hI => ?_)
  have h := ms_ltE eσ2 h
  refine lv_aload_n hx hb dX2_renew_13 rfl (lv_at hl 0 rfl) ?_
  refine lv_iload_n hx hb dX2_renew_14 rfl (lv_at hl 2 rfl) ?_
  refine pi_X2_2 Cx hI h_j wd_6_7 dX2_renew_15 (fun H locs σ3 eσ3 hI => ?_)
  have h := ms_ltE eσ3 h
  refine lv_aload_n hx hb dX2_renew_18 rfl (lv_at hl 0 rfl) ?_
  refine lv_iconst (v := 0) hx hb dX2_renew_19 rfl ?_
  refine pi_X2_3 Cx hI h_j (Or.inl rfl) wd_6_8 dX2_renew_20 (fun H locs σ4 eσ4 hI => ?_)
  have h := ms_ltE eσ4 h
  exact ms_rv Cx hI (Option.some.inj h) dX2_renew_23
theorem yvX2_renew : ms_YV yX2_renew RX2 cX2_renew 3 none 2 := ⟨wd_37_3, wd_37_4, wd_3_3, wd_37_5, rfl, by decide +kernel, by decide +kernel, by decide +kernel⟩
set_option maxHeartbeats 4000000 in
theorem metX2_renew (l : Launch) (hDis : ms_Dis a shX.length) {σ : Mm} {j : Nat} {p0 : Int32} {p1 : Int32} (h_j : j < 4) {out : Mm} (h : fX2_renew j p0 p1 σ = some out) : Met l yX2_renew (.code yX2_renew cX2_renew 3 none :: wsL_law) rmX2_renew (ms_Pc D cA a shX [.ref (a (27 + 2 * j)), .int p0, .int p1] σ) (ms_Qv D cA a shX out) 0 0 (ms_A a shX.length) := by
  refine Met.ofW (cc := cX2_renew) (maxL := 3) (ret := none) (by decide) rfl ?_
  intro p e s m args below meth c s₁ B hml hv
  obtain ⟨rfl, hK, hN, hP⟩ := hv
  have hl := lv_entry ([.ref (a (27 + 2 * j)), .int p0, .int p1]) (n := 3) (Nat.le_of_ble_eq_true rfl)
  rw [lg_entry_eq]
  generalize (lg_sl ([.ref (a (27 + 2 * j)), .int p0, .int p1]) ++ List.replicate (3 - (lg_sl ([.ref (a (27 + 2 * j)), .int p0, .int p1])).length) Slot.unset).toArray = ls at hl ⊢
  exact wX2_renew ⟨B.exec, B.bytes, hml, findClass_of_methodNamed B.named, fun w hw => atoms_spec (ws := .code yX2_renew cX2_renew 3 none :: wsL_law) B.pre w (List.mem_cons_of_mem _ hw), B.returns, B.notSynchronized, hK, hDis, hN⟩ out j p0 p1 h_j σ s.heap [] ls ⟨hP, va_S.rf⟩ hl h
theorem kX2_renew (Cx : ms_C p s m args meth c D cA a shX cc nL own ret) {σ : Mm} {H : Heap} {locs : List Loc} (hI : ms_I D cA a shX s σ H locs) {j : Nat} {p0 : Int32} {p1 : Int32} (h_j : j < 4) {out : Mm} (h : fX2_renew j p0 p1 σ = some out) (hl : Cond.methodLink own idx yX2_renew ∈ wsL_law) (hf : 1 + 1 ≤ R.frames) (hlo : 8 + (3 + 11) + 23 ≤ R.locals) (hsz : ls.size = nL) (hW : (rest.map fun v => v.category).sum ≤ 8) (hd : decode cc pc = .ok (.invokevirtual idx, 3)) (kk : ∀ (H1 : Heap) (locs1 : List Loc), ms_I D cA a shX s out H1 locs1 → W p l e R s m args below meth c H1 locs1 0 0 Q (F0 m (pc + 3) ls (rest))) : W p l e R s m args below meth c H locs 0 0 Q (F0 m pc ls (.int p1 :: .int p0 :: .ref (a (27 + 2 * j)) :: rest)) :=
  ms_cv hI (ms_runV (av := [.int p0, .int p1]) Cx hI (27 + 2 * j) (shX_S h_j) (ci := 2) rfl rfl yvX2_renew (metX2_renew l Cx.2.2.2.2.2.2.2.2.1 h_j h) ⟨rfl, rfl⟩ hl ⟨hf, hlo⟩ rfl hsz rfl hW ⟨Nat.zero_le _, Nat.zero_le _⟩ hd) kk
/-! X2 hasRun (II)Z -/
theorem dX2_hasRun_0 : decode cX2_hasRun 0 = .ok (.iload_n 1, 1) := by decide +kernel
theorem dX2_hasRun_1 : decode cX2_hasRun 1 = .ok (.ifCond .lt 29, 3) := by decide +kernel
theorem dX2_hasRun_4 : decode cX2_hasRun 4 = .ok (.iload_n 2, 1) := by decide +kernel
theorem dX2_hasRun_5 : decode cX2_hasRun 5 = .ok (.ifCond .lt 25, 3) := by decide +kernel
theorem dX2_hasRun_8 : decode cX2_hasRun 8 = .ok (.iload_n 2, 1) := by decide +kernel
theorem dX2_hasRun_9 : decode cX2_hasRun 9 = .ok (.aload_n 0, 1) := by decide +kernel
theorem dX2_hasRun_10 : decode cX2_hasRun 10 = .ok (.getfield 19, 3) := by decide +kernel
theorem dX2_hasRun_13 : decode cX2_hasRun 13 = .ok (.if_icmp .gt 17, 3) := by decide +kernel
theorem dX2_hasRun_16 : decode cX2_hasRun 16 = .ok (.iload_n 1, 1) := by decide +kernel
theorem dX2_hasRun_17 : decode cX2_hasRun 17 = .ok (.aload_n 0, 1) := by decide +kernel
theorem dX2_hasRun_18 : decode cX2_hasRun 18 = .ok (.getfield 19, 3) := by decide +kernel
theorem dX2_hasRun_21 : decode cX2_hasRun 21 = .ok (.iload_n 2, 1) := by decide +kernel
theorem dX2_hasRun_22 : decode cX2_hasRun 22 = .ok (.isub, 1) := by decide +kernel
theorem dX2_hasRun_23 : decode cX2_hasRun 23 = .ok (.if_icmp .gt 7, 3) := by decide +kernel
theorem dX2_hasRun_26 : decode cX2_hasRun 26 = .ok (.iconst 1, 1) := by decide +kernel
theorem dX2_hasRun_27 : decode cX2_hasRun 27 = .ok (.goto 4, 3) := by decide +kernel
theorem dX2_hasRun_30 : decode cX2_hasRun 30 = .ok (.iconst 0, 1) := by decide +kernel
theorem dX2_hasRun_31 : decode cX2_hasRun 31 = .ok (.ireturn, 1) := by decide +kernel
abbrev rmX2_hasRun : Room := { frames := 0, cells := 0, slots := 0, locals := 0 }
set_option maxHeartbeats 4000000 in
set_option maxRecDepth 100000 in
theorem wX2_hasRun (Cx : ms_C p s m args meth c D cA a shX cX2_hasRun 3 RX2 (some .boolean)) (out : Int32) {σ : Mm} : ∀ (j : Nat) (p0 : Int32) (p1 : Int32) , j < 4 → ∀ (H : Heap) (locs : List Loc) (ls : Array Slot), ms_I D cA a shX s σ H locs → lv_has ls 3 [(0, .ref (a (27 + 2 * j))), (1, .int p0), (2, .int p1)] → fX2_hasRun σ j p0 p1 = some out → W p l e rmX2_hasRun s m args below meth c H locs 0 0 (MQ below (ms_Qi D cA a shX out σ) args s 0 0 (ms_A a shX.length)) (F0 m 0 ls []) := by
  have hx := Cx.1
  have hb := Cx.2.1
  intro j p0 p1 h_j H locs ls hI hl h
  unfold fX2_hasRun at h
  refine lv_iload_n hx hb dX2_hasRun_0 rfl (lv_at hl 1 rfl) ?_
  refine lv_if_lt (tgt := 30) hx hb dX2_hasRun_1 rfl (fun hc => ?_) (fun hc => ?_)
  · have h := ms_ifT hc h
    refine lv_iconst (v := 0) hx hb dX2_hasRun_30 rfl ?_
    exact ms_rz Cx hI (Or.inl rfl) (Option.some.inj h) rfl dX2_hasRun_31
  · have h := ms_ifF hc h
    refine lv_iload_n hx hb dX2_hasRun_4 rfl (lv_at hl 2 rfl) ?_
    refine lv_if_lt (tgt := 30) hx hb dX2_hasRun_5 rfl (fun hc => ?_) (fun hc => ?_)
    · have h := ms_ifT hc h
      refine lv_iconst (v := 0) hx hb dX2_hasRun_30 rfl ?_
      exact ms_rz Cx hI (Or.inl rfl) (Option.some.inj h) rfl dX2_hasRun_31
    · have h := ms_ifF hc h
      refine lv_iload_n hx hb dX2_hasRun_8 rfl (lv_at hl 2 rfl) ?_
      refine lv_aload_n hx hb dX2_hasRun_9 rfl (lv_at hl 0 rfl) ?_
      refine gi_X2_2 Cx hI h_j wd_6_7 dX2_hasRun_10 ?_
      refine lv_icmp_gt (tgt := 30) hx hb dX2_hasRun_13 rfl (fun hc => ?_) (fun hc => ?_)
      · have h := ms_ifT hc h
        refine lv_iconst (v := 0) hx hb dX2_hasRun_30 rfl ?_
        exact ms_rz Cx hI (Or.inl rfl) (Option.some.inj h) rfl dX2_hasRun_31
      · have h := ms_ifF hc h
        refine lv_iload_n hx hb dX2_hasRun_16 rfl (lv_at hl 1 rfl) ?_
        refine lv_aload_n hx hb dX2_hasRun_17 rfl (lv_at hl 0 rfl) ?_
        refine gi_X2_2 Cx hI h_j wd_6_7 dX2_hasRun_18 ?_
        refine lv_iload_n hx hb dX2_hasRun_21 rfl (lv_at hl 2 rfl) ?_
        refine lv_isub hx hb dX2_hasRun_22 ?_
        refine lv_icmp_gt (tgt := 30) hx hb dX2_hasRun_23 rfl (fun hc => ?_) (fun hc => ?_)
        · have h := ms_ifT hc h
          refine lv_iconst (v := 0) hx hb dX2_hasRun_30 rfl ?_
          exact ms_rz Cx hI (Or.inl rfl) (Option.some.inj h) rfl dX2_hasRun_31
        · have h := ms_ifF hc h
          refine lv_iconst (v := 1) hx hb dX2_hasRun_26 rfl ?_
          refine lv_goto (tgt := 31) hx hb dX2_hasRun_27 rfl ?_
          exact ms_rz Cx hI (Or.inr rfl) (Option.some.inj h) rfl dX2_hasRun_31
theorem yvX2_hasRun : ms_YV yX2_hasRun RX2 cX2_hasRun 3 (some .boolean) 2 := ⟨wd_39_14, wd_39_15, wd_3_3, wd_39_16, rfl, by decide +kernel, by decide +kernel, by decide +kernel⟩
set_option maxHeartbeats 4000000 in
theorem metX2_hasRun (l : Launch) (hDis : ms_Dis a shX.length) {σ : Mm} {j : Nat} {p0 : Int32} {p1 : Int32} (h_j : j < 4) {out : Int32} (h : fX2_hasRun σ j p0 p1 = some out) : Met l yX2_hasRun (.code yX2_hasRun cX2_hasRun 3 (some .boolean) :: wsL_law) rmX2_hasRun (ms_Pc D cA a shX [.ref (a (27 + 2 * j)), .int p0, .int p1] σ) (ms_Qi D cA a shX out σ) 0 0 (ms_A a shX.length) := by
  refine Met.ofW (cc := cX2_hasRun) (maxL := 3) (ret := (some .boolean)) (by decide) rfl ?_
  intro p e s m args below meth c s₁ B hml hv
  obtain ⟨rfl, hK, hN, hP⟩ := hv
  have hl := lv_entry ([.ref (a (27 + 2 * j)), .int p0, .int p1]) (n := 3) (Nat.le_of_ble_eq_true rfl)
  rw [lg_entry_eq]
  generalize (lg_sl ([.ref (a (27 + 2 * j)), .int p0, .int p1]) ++ List.replicate (3 - (lg_sl ([.ref (a (27 + 2 * j)), .int p0, .int p1])).length) Slot.unset).toArray = ls at hl ⊢
  exact wX2_hasRun ⟨B.exec, B.bytes, hml, findClass_of_methodNamed B.named, fun w hw => atoms_spec (ws := .code yX2_hasRun cX2_hasRun 3 (some .boolean) :: wsL_law) B.pre w (List.mem_cons_of_mem _ hw), B.returns, B.notSynchronized, hK, hDis, hN⟩ out j p0 p1 h_j s.heap [] ls ⟨hP, va_S.rf⟩ hl h
theorem kX2_hasRun (Cx : ms_C p s m args meth c D cA a shX cc nL own ret) {σ : Mm} {H : Heap} {locs : List Loc} (hI : ms_I D cA a shX s σ H locs) {j : Nat} {p0 : Int32} {p1 : Int32} (h_j : j < 4) {out : Int32} (h : fX2_hasRun σ j p0 p1 = some out) (hl : Cond.methodLink own idx yX2_hasRun ∈ wsL_law) (hf : 0 + 1 ≤ R.frames) (hlo : 8 + (3 + 11) + 0 ≤ R.locals) (hsz : ls.size = nL) (hW : (rest.map fun v => v.category).sum ≤ 8) (hd : decode cc pc = .ok (.invokevirtual idx, 3)) (kk : ∀ (H1 : Heap) (locs1 : List Loc), ms_I D cA a shX s σ H1 locs1 → W p l e R s m args below meth c H1 locs1 0 0 Q (F0 m (pc + 3) ls (.int out :: rest))) : W p l e R s m args below meth c H locs 0 0 Q (F0 m pc ls (.int p1 :: .int p0 :: .ref (a (27 + 2 * j)) :: rest)) :=
  ms_ci hI (ms_runV (av := [.int p0, .int p1]) Cx hI (27 + 2 * j) (shX_S h_j) (ci := 2) rfl rfl yvX2_hasRun (metX2_hasRun l Cx.2.2.2.2.2.2.2.2.1 h_j h) ⟨rfl, rfl⟩ hl ⟨hf, hlo⟩ rfl hsz rfl hW ⟨Nat.zero_le _, Nat.zero_le _⟩ hd) kk
/-! X2 store (II)V -/
theorem dX2_store_0 : decode cX2_store 0 = .ok (.aload_n 0, 1) := by decide +kernel
theorem dX2_store_1 : decode cX2_store 1 = .ok (.getfield 9, 3) := by decide +kernel
theorem dX2_store_4 : decode cX2_store 4 = .ok (.iload_n 1, 1) := by decide +kernel
theorem dX2_store_5 : decode cX2_store 5 = .ok (.aload_n 0, 1) := by decide +kernel
theorem dX2_store_6 : decode cX2_store 6 = .ok (.getfield 15, 3) := by decide +kernel
theorem dX2_store_9 : decode cX2_store 9 = .ok (.ifCond .ne 8, 3) := by decide +kernel
theorem dX2_store_12 : decode cX2_store 12 = .ok (.iload_n 2, 1) := by decide +kernel
theorem dX2_store_13 : decode cX2_store 13 = .ok (.i2b, 1) := by decide +kernel
theorem dX2_store_14 : decode cX2_store 14 = .ok (.goto 17, 3) := by decide +kernel
theorem dX2_store_17 : decode cX2_store 17 = .ok (.aload_n 0, 1) := by decide +kernel
theorem dX2_store_18 : decode cX2_store 18 = .ok (.getfield 15, 3) := by decide +kernel
theorem dX2_store_21 : decode cX2_store 21 = .ok (.iconst 1, 1) := by decide +kernel
theorem dX2_store_22 : decode cX2_store 22 = .ok (.if_icmp .ne 8, 3) := by decide +kernel
theorem dX2_store_25 : decode cX2_store 25 = .ok (.iload_n 2, 1) := by decide +kernel
theorem dX2_store_26 : decode cX2_store 26 = .ok (.i2s, 1) := by decide +kernel
theorem dX2_store_27 : decode cX2_store 27 = .ok (.goto 4, 3) := by decide +kernel
theorem dX2_store_30 : decode cX2_store 30 = .ok (.iload_n 2, 1) := by decide +kernel
theorem dX2_store_31 : decode cX2_store 31 = .ok (.iastore, 1) := by decide +kernel
theorem dX2_store_32 : decode cX2_store 32 = .ok (.return_, 1) := by decide +kernel
abbrev rmX2_store : Room := { frames := 0, cells := 0, slots := 0, locals := 0 }
set_option maxHeartbeats 4000000 in
set_option maxRecDepth 100000 in
theorem wX2_store (Cx : ms_C p s m args meth c D cA a shX cX2_store 3 RX2 none) (out : Mm) : ∀ (j : Nat) (p0 : Int32) (p1 : Int32) , j < 4 → ∀ (σ : Mm) (H : Heap) (locs : List Loc) (ls : Array Slot), ms_I D cA a shX s σ H locs → lv_has ls 3 [(0, .ref (a (27 + 2 * j))), (1, .int p0), (2, .int p1)] → fX2_store j p0 p1 σ = some out → W p l e rmX2_store s m args below meth c H locs 0 0 (MQ below (ms_Qv D cA a shX out) args s 0 0 (ms_A a shX.length)) (F0 m 0 ls []) := by
  have hx := Cx.1
  have hb := Cx.2.1
  intro j p0 p1 h_j σ H locs ls hI hl h
  unfold fX2_store at h
  refine lv_aload_n hx hb dX2_store_0 rfl (lv_at hl 0 rfl) ?_
  refine gr_X2_0 Cx hI h_j wd_6_5 dX2_store_1 ?_
  refine lv_iload_n hx hb dX2_store_4 rfl (lv_at hl 1 rfl) ?_
  refine lv_aload_n hx hb dX2_store_5 rfl (lv_at hl 0 rfl) ?_
  refine gi_X2_1 Cx hI h_j wd_6_6 dX2_store_6 ?_
  refine lv_if_ne (tgt := 17) hx hb dX2_store_9 rfl (fun hc => ?_) (fun hc => ?_)
  · have h := ms_ifF hc h
    refine lv_aload_n hx hb dX2_store_17 rfl (lv_at hl 0 rfl) ?_
    refine gi_X2_1 Cx hI h_j wd_6_6 dX2_store_18 ?_
    refine lv_iconst (v := 1) hx hb dX2_store_21 rfl ?_
    refine lv_icmp_ne (tgt := 30) hx hb dX2_store_22 rfl (fun hc => ?_) (fun hc => ?_)
    · have h := ms_ifF hc h
      refine lv_iload_n hx hb dX2_store_30 rfl (lv_at hl 2 rfl) ?_
      obtain ⟨hg, h⟩ := ms_gE h
      refine ms_sto Cx hI (28 + 2 * j) (shX_J h_j) hg dX2_store_31 (fun H locs σ1 eσ1 hI => ?_)
      have h := ms_ltE eσ1 h
      exact ms_rv Cx hI (Option.some.inj h) dX2_store_32
    · have h := ms_ifT hc h
      refine lv_iload_n hx hb dX2_store_25 rfl (lv_at hl 2 rfl) ?_
      refine lv_i2s hx hb dX2_store_26 rfl ?_
      refine lv_goto (tgt := 31) hx hb dX2_store_27 rfl ?_
      obtain ⟨hg, h⟩ := ms_gE h
      refine ms_sto Cx hI (28 + 2 * j) (shX_J h_j) hg dX2_store_31 (fun H locs σ2 eσ2 hI => ?_)
      have h := ms_ltE eσ2 h
      exact ms_rv Cx hI (Option.some.inj h) dX2_store_32
  · have h := ms_ifT hc h
    refine lv_iload_n hx hb dX2_store_12 rfl (lv_at hl 2 rfl) ?_
    refine lv_i2b hx hb dX2_store_13 rfl ?_
    refine lv_goto (tgt := 31) hx hb dX2_store_14 rfl ?_
    obtain ⟨hg, h⟩ := ms_gE h
    refine ms_sto Cx hI (28 + 2 * j) (shX_J h_j) hg dX2_store_31 (fun H locs σ3 eσ3 hI => ?_)
    have h := ms_ltE eσ3 h
    exact ms_rv Cx hI (Option.some.inj h) dX2_store_32
theorem yvX2_store : ms_YV yX2_store RX2 cX2_store 3 none 2 := ⟨wd_38_4, wd_38_5, wd_3_3, wd_38_6, rfl, by decide +kernel, by decide +kernel, by decide +kernel⟩
set_option maxHeartbeats 4000000 in
theorem metX2_store (l : Launch) (hDis : ms_Dis a shX.length) {σ : Mm} {j : Nat} {p0 : Int32} {p1 : Int32} (h_j : j < 4) {out : Mm} (h : fX2_store j p0 p1 σ = some out) : Met l yX2_store (.code yX2_store cX2_store 3 none :: wsL_law) rmX2_store (ms_Pc D cA a shX [.ref (a (27 + 2 * j)), .int p0, .int p1] σ) (ms_Qv D cA a shX out) 0 0 (ms_A a shX.length) := by
  refine Met.ofW (cc := cX2_store) (maxL := 3) (ret := none) (by decide) rfl ?_
  intro p e s m args below meth c s₁ B hml hv
  obtain ⟨rfl, hK, hN, hP⟩ := hv
  have hl := lv_entry ([.ref (a (27 + 2 * j)), .int p0, .int p1]) (n := 3) (Nat.le_of_ble_eq_true rfl)
  rw [lg_entry_eq]
  generalize (lg_sl ([.ref (a (27 + 2 * j)), .int p0, .int p1]) ++ List.replicate (3 - (lg_sl ([.ref (a (27 + 2 * j)), .int p0, .int p1])).length) Slot.unset).toArray = ls at hl ⊢
  exact wX2_store ⟨B.exec, B.bytes, hml, findClass_of_methodNamed B.named, fun w hw => atoms_spec (ws := .code yX2_store cX2_store 3 none :: wsL_law) B.pre w (List.mem_cons_of_mem _ hw), B.returns, B.notSynchronized, hK, hDis, hN⟩ out j p0 p1 h_j σ s.heap [] ls ⟨hP, va_S.rf⟩ hl h
theorem kX2_store (Cx : ms_C p s m args meth c D cA a shX cc nL own ret) {σ : Mm} {H : Heap} {locs : List Loc} (hI : ms_I D cA a shX s σ H locs) {j : Nat} {p0 : Int32} {p1 : Int32} (h_j : j < 4) {out : Mm} (h : fX2_store j p0 p1 σ = some out) (hl : Cond.methodLink own idx yX2_store ∈ wsL_law) (hf : 0 + 1 ≤ R.frames) (hlo : 8 + (3 + 11) + 0 ≤ R.locals) (hsz : ls.size = nL) (hW : (rest.map fun v => v.category).sum ≤ 8) (hd : decode cc pc = .ok (.invokevirtual idx, 3)) (kk : ∀ (H1 : Heap) (locs1 : List Loc), ms_I D cA a shX s out H1 locs1 → W p l e R s m args below meth c H1 locs1 0 0 Q (F0 m (pc + 3) ls (rest))) : W p l e R s m args below meth c H locs 0 0 Q (F0 m pc ls (.int p1 :: .int p0 :: .ref (a (27 + 2 * j)) :: rest)) :=
  ms_cv hI (ms_runV (av := [.int p0, .int p1]) Cx hI (27 + 2 * j) (shX_S h_j) (ci := 2) rfl rfl yvX2_store (metX2_store l Cx.2.2.2.2.2.2.2.2.1 h_j h) ⟨rfl, rfl⟩ hl ⟨hf, hlo⟩ rfl hsz rfl hW ⟨Nat.zero_le _, Nat.zero_le _⟩ hd) kk
/-! X3 take ([I)V -/
theorem dX3_take_0 : decode cX3_take 0 = .ok (.aload_n 0, 1) := by decide +kernel
theorem dX3_take_1 : decode cX3_take 1 = .ok (.aload_n 1, 1) := by decide +kernel
theorem dX3_take_2 : decode cX3_take 2 = .ok (.iconst 1, 1) := by decide +kernel
theorem dX3_take_3 : decode cX3_take 3 = .ok (.iaload, 1) := by decide +kernel
theorem dX3_take_4 : decode cX3_take 4 = .ok (.putfield 25, 3) := by decide +kernel
theorem dX3_take_7 : decode cX3_take 7 = .ok (.aload_n 0, 1) := by decide +kernel
theorem dX3_take_8 : decode cX3_take 8 = .ok (.aload_n 1, 1) := by decide +kernel
theorem dX3_take_9 : decode cX3_take 9 = .ok (.iconst 3, 1) := by decide +kernel
theorem dX3_take_10 : decode cX3_take 10 = .ok (.iaload, 1) := by decide +kernel
theorem dX3_take_11 : decode cX3_take 11 = .ok (.putfield 28, 3) := by decide +kernel
theorem dX3_take_14 : decode cX3_take 14 = .ok (.aload_n 0, 1) := by decide +kernel
theorem dX3_take_15 : decode cX3_take 15 = .ok (.aload_n 1, 1) := by decide +kernel
theorem dX3_take_16 : decode cX3_take 16 = .ok (.bipush 6, 2) := by decide +kernel
theorem dX3_take_18 : decode cX3_take 18 = .ok (.iaload, 1) := by decide +kernel
theorem dX3_take_19 : decode cX3_take 19 = .ok (.putfield 31, 3) := by decide +kernel
theorem dX3_take_22 : decode cX3_take 22 = .ok (.aload_n 0, 1) := by decide +kernel
theorem dX3_take_23 : decode cX3_take 23 = .ok (.aload_n 1, 1) := by decide +kernel
theorem dX3_take_24 : decode cX3_take 24 = .ok (.bipush 8, 2) := by decide +kernel
theorem dX3_take_26 : decode cX3_take 26 = .ok (.iaload, 1) := by decide +kernel
theorem dX3_take_27 : decode cX3_take 27 = .ok (.putfield 34, 3) := by decide +kernel
theorem dX3_take_30 : decode cX3_take 30 = .ok (.aload_n 0, 1) := by decide +kernel
theorem dX3_take_31 : decode cX3_take 31 = .ok (.aload_n 1, 1) := by decide +kernel
theorem dX3_take_32 : decode cX3_take 32 = .ok (.iconst 2, 1) := by decide +kernel
theorem dX3_take_33 : decode cX3_take 33 = .ok (.iaload, 1) := by decide +kernel
theorem dX3_take_34 : decode cX3_take 34 = .ok (.aload_n 0, 1) := by decide +kernel
theorem dX3_take_35 : decode cX3_take 35 = .ok (.getfield 25, 3) := by decide +kernel
theorem dX3_take_38 : decode cX3_take 38 = .ok (.invokestatic 64, 3) := by decide +kernel
theorem dX3_take_41 : decode cX3_take 41 = .ok (.putfield 37, 3) := by decide +kernel
theorem dX3_take_44 : decode cX3_take 44 = .ok (.aload_n 0, 1) := by decide +kernel
theorem dX3_take_45 : decode cX3_take 45 = .ok (.aload_n 1, 1) := by decide +kernel
theorem dX3_take_46 : decode cX3_take 46 = .ok (.bipush 7, 2) := by decide +kernel
theorem dX3_take_48 : decode cX3_take 48 = .ok (.iaload, 1) := by decide +kernel
theorem dX3_take_49 : decode cX3_take 49 = .ok (.putfield 40, 3) := by decide +kernel
theorem dX3_take_52 : decode cX3_take 52 = .ok (.return_, 1) := by decide +kernel
abbrev rmX3_take : Room := { frames := 1, cells := 0, slots := 0, locals := 14 }
set_option maxHeartbeats 4000000 in
set_option maxRecDepth 100000 in
theorem wX3_take (Cx : ms_C p s m args meth c D cA a shX cX3_take 2 RX3 none) (out : Mm) : ∀ (σ : Mm) (H : Heap) (locs : List Loc) (ls : Array Slot), ms_I D cA a shX s σ H locs → lv_has ls 2 [(0, .ref (a 8)), (1, .ref (a 5))] → fX3_take σ = some out → W p l e rmX3_take s m args below meth c H locs 0 0 (MQ below (ms_Qv D cA a shX out) args s 0 0 (ms_A a shX.length)) (F0 m 0 ls []) := by
  have hx := Cx.1
  have hb := Cx.2.1
  intro σ H locs ls hI hl h
  unfold fX3_take at h
  refine lv_aload_n hx hb dX3_take_0 rfl (lv_at hl 0 rfl) ?_
  refine lv_aload_n hx hb dX3_take_1 rfl (lv_at hl 1 rfl) ?_
  refine lv_iconst (v := 1) hx hb dX3_take_2 rfl ?_
  obtain ⟨hg, h⟩ := ms_gE h
  refine ms_ld Cx hI 5 shX_5 hg dX3_take_3 ?_
  refine pi_X3_4 Cx hI wd_4_5 dX3_take_4 (fun H locs σ1 eσ1 hI => ?_)
  have h := ms_ltE eσ1 h
  refine lv_aload_n hx hb dX3_take_7 rfl (lv_at hl 0 rfl) ?_
  refine lv_aload_n hx hb dX3_take_8 rfl (lv_at hl 1 rfl) ?_
  refine lv_iconst (v := 3) hx hb dX3_take_9 rfl ?_
  obtain ⟨hg, h⟩ := ms_gE h
  refine ms_ld Cx hI 5 shX_5 hg dX3_take_10 ?_
  refine pi_X3_5 Cx hI wd_4_6 dX3_take_11 (fun H locs σ2 eσ2 hI => ?_)
  have h := ms_ltE eσ2 h
  refine lv_aload_n hx hb dX3_take_14 rfl (lv_at hl 0 rfl) ?_
  refine lv_aload_n hx hb dX3_take_15 rfl (lv_at hl 1 rfl) ?_
  refine lv_bipush (v := 6) hx hb dX3_take_16 rfl ?_
  obtain ⟨hg, h⟩ := ms_gE h
  refine ms_ld Cx hI 5 shX_5 hg dX3_take_18 ?_
  refine pi_X3_6 Cx hI wd_4_7 dX3_take_19 (fun H locs σ3 eσ3 hI => ?_)
  have h := ms_ltE eσ3 h
  refine lv_aload_n hx hb dX3_take_22 rfl (lv_at hl 0 rfl) ?_
  refine lv_aload_n hx hb dX3_take_23 rfl (lv_at hl 1 rfl) ?_
  refine lv_bipush (v := 8) hx hb dX3_take_24 rfl ?_
  obtain ⟨hg, h⟩ := ms_gE h
  refine ms_ld Cx hI 5 shX_5 hg dX3_take_26 ?_
  refine pi_X3_7 Cx hI wd_4_8 dX3_take_27 (fun H locs σ4 eσ4 hI => ?_)
  have h := ms_ltE eσ4 h
  refine lv_aload_n hx hb dX3_take_30 rfl (lv_at hl 0 rfl) ?_
  refine lv_aload_n hx hb dX3_take_31 rfl (lv_at hl 1 rfl) ?_
  refine lv_iconst (v := 2) hx hb dX3_take_32 rfl ?_
  obtain ⟨hg, h⟩ := ms_gE h
  refine ms_ld Cx hI 5 shX_5 hg dX3_take_33 ?_
  refine lv_aload_n hx hb dX3_take_34 rfl (lv_at hl 0 rfl) ?_
  refine gi_X3_4 Cx hI wd_4_5 dX3_take_35 ?_
  refine ms_min Cx wd_21_20 hl.1 (Nat.le_of_ble_eq_true rfl) (Nat.le_of_ble_eq_true rfl) ⟨Nat.zero_le _, Nat.zero_le _⟩ dX3_take_38 ?_
  refine pi_X3_8 Cx hI wd_4_9 dX3_take_41 (fun H locs σ5 eσ5 hI => ?_)
  have h := ms_ltE eσ5 h
  refine lv_aload_n hx hb dX3_take_44 rfl (lv_at hl 0 rfl) ?_
  refine lv_aload_n hx hb dX3_take_45 rfl (lv_at hl 1 rfl) ?_
  refine lv_bipush (v := 7) hx hb dX3_take_46 rfl ?_
  obtain ⟨hg, h⟩ := ms_gE h
  refine ms_ld Cx hI 5 shX_5 hg dX3_take_48 ?_
  refine pi_X3_9 Cx hI wd_4_10 dX3_take_49 (fun H locs σ6 eσ6 hI => ?_)
  have h := ms_ltE eσ6 h
  exact ms_rv Cx hI (Option.some.inj h) dX3_take_52
theorem yvX3_take : ms_YV yX3_take RX3 cX3_take 2 none 1 := ⟨wd_21_17, wd_21_18, wd_2_9, wd_21_19, rfl, by decide +kernel, by decide +kernel, by decide +kernel⟩
set_option maxHeartbeats 4000000 in
theorem metX3_take (l : Launch) (hDis : ms_Dis a shX.length) {σ : Mm} {out : Mm} (h : fX3_take σ = some out) : Met l yX3_take (.code yX3_take cX3_take 2 none :: wsL_law) rmX3_take (ms_Pc D cA a shX [.ref (a 8), .ref (a 5)] σ) (ms_Qv D cA a shX out) 0 0 (ms_A a shX.length) := by
  refine Met.ofW (cc := cX3_take) (maxL := 2) (ret := none) (by decide) rfl ?_
  intro p e s m args below meth c s₁ B hml hv
  obtain ⟨rfl, hK, hN, hP⟩ := hv
  have hl := lv_entry ([.ref (a 8), .ref (a 5)]) (n := 2) (Nat.le_of_ble_eq_true rfl)
  rw [lg_entry_eq]
  generalize (lg_sl ([.ref (a 8), .ref (a 5)]) ++ List.replicate (2 - (lg_sl ([.ref (a 8), .ref (a 5)])).length) Slot.unset).toArray = ls at hl ⊢
  exact wX3_take ⟨B.exec, B.bytes, hml, findClass_of_methodNamed B.named, fun w hw => atoms_spec (ws := .code yX3_take cX3_take 2 none :: wsL_law) B.pre w (List.mem_cons_of_mem _ hw), B.returns, B.notSynchronized, hK, hDis, hN⟩ out σ s.heap [] ls ⟨hP, va_S.rf⟩ hl h
theorem kX3_take (Cx : ms_C p s m args meth c D cA a shX cc nL own ret) {σ : Mm} {H : Heap} {locs : List Loc} (hI : ms_I D cA a shX s σ H locs) {out : Mm} (h : fX3_take σ = some out) (hl : Cond.methodLink own idx yX3_take ∈ wsL_law) (hf : 1 + 1 ≤ R.frames) (hlo : 8 + (2 + 11) + 14 ≤ R.locals) (hsz : ls.size = nL) (hW : (rest.map fun v => v.category).sum ≤ 8) (hd : decode cc pc = .ok (.invokevirtual idx, 3)) (kk : ∀ (H1 : Heap) (locs1 : List Loc), ms_I D cA a shX s out H1 locs1 → W p l e R s m args below meth c H1 locs1 0 0 Q (F0 m (pc + 3) ls (rest))) : W p l e R s m args below meth c H locs 0 0 Q (F0 m pc ls (.ref (a 5) :: .ref (a 8) :: rest)) :=
  ms_cv hI (ms_runV (av := [.ref (a 5)]) Cx hI 8 shX_8 (ci := 3) rfl rfl yvX3_take (metX3_take l Cx.2.2.2.2.2.2.2.2.1  h) ⟨rfl, rfl⟩ hl ⟨hf, hlo⟩ rfl hsz rfl hW ⟨Nat.zero_le _, Nat.zero_le _⟩ hd) kk
/-! X3 rob (II)V -/
theorem dX3_rob_0 : decode cX3_rob 0 = .ok (.aload_n 0, 1) := by decide +kernel
theorem dX3_rob_1 : decode cX3_rob 1 = .ok (.iload_n 1, 1) := by decide +kernel
theorem dX3_rob_2 : decode cX3_rob 2 = .ok (.putfield 43, 3) := by decide +kernel
theorem dX3_rob_5 : decode cX3_rob 5 = .ok (.aload_n 0, 1) := by decide +kernel
theorem dX3_rob_6 : decode cX3_rob 6 = .ok (.iload_n 2, 1) := by decide +kernel
theorem dX3_rob_7 : decode cX3_rob 7 = .ok (.putfield 46, 3) := by decide +kernel
theorem dX3_rob_10 : decode cX3_rob 10 = .ok (.return_, 1) := by decide +kernel
abbrev rmX3_rob : Room := { frames := 0, cells := 0, slots := 0, locals := 0 }
set_option maxHeartbeats 4000000 in
set_option maxRecDepth 100000 in
theorem wX3_rob (Cx : ms_C p s m args meth c D cA a shX cX3_rob 3 RX3 none) (out : Mm) : ∀ (p0 : Int32) (p1 : Int32) , ∀ (σ : Mm) (H : Heap) (locs : List Loc) (ls : Array Slot), ms_I D cA a shX s σ H locs → lv_has ls 3 [(0, .ref (a 8)), (1, .int p0), (2, .int p1)] → fX3_rob p0 p1 σ = some out → W p l e rmX3_rob s m args below meth c H locs 0 0 (MQ below (ms_Qv D cA a shX out) args s 0 0 (ms_A a shX.length)) (F0 m 0 ls []) := by
  have hx := Cx.1
  have hb := Cx.2.1
  intro p0 p1 σ H locs ls hI hl h
  unfold fX3_rob at h
  refine lv_aload_n hx hb dX3_rob_0 rfl (lv_at hl 0 rfl) ?_
  refine lv_iload_n hx hb dX3_rob_1 rfl (lv_at hl 1 rfl) ?_
  refine pi_X3_10 Cx hI wd_4_11 dX3_rob_2 (fun H locs σ1 eσ1 hI => ?_)
  have h := ms_ltE eσ1 h
  refine lv_aload_n hx hb dX3_rob_5 rfl (lv_at hl 0 rfl) ?_
  refine lv_iload_n hx hb dX3_rob_6 rfl (lv_at hl 2 rfl) ?_
  refine pi_X3_11 Cx hI wd_4_12 dX3_rob_7 (fun H locs σ2 eσ2 hI => ?_)
  have h := ms_ltE eσ2 h
  exact ms_rv Cx hI (Option.some.inj h) dX3_rob_10
theorem yvX3_rob : ms_YV yX3_rob RX3 cX3_rob 3 none 2 := ⟨wd_22_12, wd_22_13, wd_2_9, wd_22_14, rfl, by decide +kernel, by decide +kernel, by decide +kernel⟩
set_option maxHeartbeats 4000000 in
theorem metX3_rob (l : Launch) (hDis : ms_Dis a shX.length) {σ : Mm} {p0 : Int32} {p1 : Int32} {out : Mm} (h : fX3_rob p0 p1 σ = some out) : Met l yX3_rob (.code yX3_rob cX3_rob 3 none :: wsL_law) rmX3_rob (ms_Pc D cA a shX [.ref (a 8), .int p0, .int p1] σ) (ms_Qv D cA a shX out) 0 0 (ms_A a shX.length) := by
  refine Met.ofW (cc := cX3_rob) (maxL := 3) (ret := none) (by decide) rfl ?_
  intro p e s m args below meth c s₁ B hml hv
  obtain ⟨rfl, hK, hN, hP⟩ := hv
  have hl := lv_entry ([.ref (a 8), .int p0, .int p1]) (n := 3) (Nat.le_of_ble_eq_true rfl)
  rw [lg_entry_eq]
  generalize (lg_sl ([.ref (a 8), .int p0, .int p1]) ++ List.replicate (3 - (lg_sl ([.ref (a 8), .int p0, .int p1])).length) Slot.unset).toArray = ls at hl ⊢
  exact wX3_rob ⟨B.exec, B.bytes, hml, findClass_of_methodNamed B.named, fun w hw => atoms_spec (ws := .code yX3_rob cX3_rob 3 none :: wsL_law) B.pre w (List.mem_cons_of_mem _ hw), B.returns, B.notSynchronized, hK, hDis, hN⟩ out p0 p1 σ s.heap [] ls ⟨hP, va_S.rf⟩ hl h
theorem kX3_rob (Cx : ms_C p s m args meth c D cA a shX cc nL own ret) {σ : Mm} {H : Heap} {locs : List Loc} (hI : ms_I D cA a shX s σ H locs) {p0 : Int32} {p1 : Int32} {out : Mm} (h : fX3_rob p0 p1 σ = some out) (hl : Cond.methodLink own idx yX3_rob ∈ wsL_law) (hf : 0 + 1 ≤ R.frames) (hlo : 8 + (3 + 11) + 0 ≤ R.locals) (hsz : ls.size = nL) (hW : (rest.map fun v => v.category).sum ≤ 8) (hd : decode cc pc = .ok (.invokevirtual idx, 3)) (kk : ∀ (H1 : Heap) (locs1 : List Loc), ms_I D cA a shX s out H1 locs1 → W p l e R s m args below meth c H1 locs1 0 0 Q (F0 m (pc + 3) ls (rest))) : W p l e R s m args below meth c H locs 0 0 Q (F0 m pc ls (.int p1 :: .int p0 :: .ref (a 8) :: rest)) :=
  ms_cv hI (ms_runV (av := [.int p0, .int p1]) Cx hI 8 shX_8 (ci := 3) rfl rfl yvX3_rob (metX3_rob l Cx.2.2.2.2.2.2.2.2.1  h) ⟨rfl, rfl⟩ hl ⟨hf, hlo⟩ rfl hsz rfl hW ⟨Nat.zero_le _, Nat.zero_le _⟩ hd) kk
/-! X3 leastLevel (I)I -/
theorem dX3_leastLevel_0 : decode cX3_leastLevel 0 = .ok (.aload_n 0, 1) := by decide +kernel
theorem dX3_leastLevel_1 : decode cX3_leastLevel 1 = .ok (.invokevirtual 77, 3) := by decide +kernel
theorem dX3_leastLevel_4 : decode cX3_leastLevel 4 = .ok (.sipush 999, 3) := by decide +kernel
theorem dX3_leastLevel_7 : decode cX3_leastLevel 7 = .ok (.istore_n 2, 1) := by decide +kernel
theorem dX3_leastLevel_8 : decode cX3_leastLevel 8 = .ok (.iconst 0, 1) := by decide +kernel
theorem dX3_leastLevel_9 : decode cX3_leastLevel 9 = .ok (.istore_n 3, 1) := by decide +kernel
theorem dX3_leastLevel_10 : decode cX3_leastLevel 10 = .ok (.iload_n 3, 1) := by decide +kernel
theorem dX3_leastLevel_11 : decode cX3_leastLevel 11 = .ok (.iload_n 1, 1) := by decide +kernel
theorem dX3_leastLevel_12 : decode cX3_leastLevel 12 = .ok (.if_icmp .ge 26, 3) := by decide +kernel
theorem dX3_leastLevel_15 : decode cX3_leastLevel 15 = .ok (.aload_n 0, 1) := by decide +kernel
theorem dX3_leastLevel_16 : decode cX3_leastLevel 16 = .ok (.iload_n 3, 1) := by decide +kernel
theorem dX3_leastLevel_17 : decode cX3_leastLevel 17 = .ok (.bipush 24, 2) := by decide +kernel
theorem dX3_leastLevel_19 : decode cX3_leastLevel 19 = .ok (.irem, 1) := by decide +kernel
theorem dX3_leastLevel_20 : decode cX3_leastLevel 20 = .ok (.invokevirtual 80, 3) := by decide +kernel
theorem dX3_leastLevel_23 : decode cX3_leastLevel 23 = .ok (.iload_n 2, 1) := by decide +kernel
theorem dX3_leastLevel_24 : decode cX3_leastLevel 24 = .ok (.aload_n 0, 1) := by decide +kernel
theorem dX3_leastLevel_25 : decode cX3_leastLevel 25 = .ok (.getfield 49, 3) := by decide +kernel
theorem dX3_leastLevel_28 : decode cX3_leastLevel 28 = .ok (.invokestatic 64, 3) := by decide +kernel
theorem dX3_leastLevel_31 : decode cX3_leastLevel 31 = .ok (.istore_n 2, 1) := by decide +kernel
theorem dX3_leastLevel_32 : decode cX3_leastLevel 32 = .ok (.iinc 3 1, 3) := by decide +kernel
theorem dX3_leastLevel_35 : decode cX3_leastLevel 35 = .ok (.goto (-25), 3) := by decide +kernel
theorem dX3_leastLevel_38 : decode cX3_leastLevel 38 = .ok (.iload_n 2, 1) := by decide +kernel
theorem dX3_leastLevel_39 : decode cX3_leastLevel 39 = .ok (.ireturn, 1) := by decide +kernel
abbrev rmX3_leastLevel : Room := { frames := 3, cells := 0, slots := 0, locals := 65 }
set_option maxHeartbeats 4000000 in
set_option maxRecDepth 100000 in
theorem wX3_leastLevel_10 (Cx : ms_C p s m args meth c D cA a shX cX3_leastLevel 4 RX3 (some .int)) (out : Int32 × Mm) : ∀ (n : Nat), ∀ (y1 : Int32) (y2 : Int32) (y3 : Int32) , ∀ (σ : Mm) (H : Heap) (locs : List Loc) (ls : Array Slot), ms_I D cA a shX s σ H locs → lv_has ls 4 [(0, .ref (a 8)), (1, .int y1), (2, .int y2), (3, .int y3)] → fX3_leastLevel_10 n y1 y2 y3 σ = some out → W p l e rmX3_leastLevel s m args below meth c H locs 0 0 (MQ below (ms_Qi D cA a shX out.1 out.2) args s 0 0 (ms_A a shX.length)) (F0 m 10 ls []) := by
  have hx := Cx.1
  have hb := Cx.2.1
  intro n
  induction n with
  | zero =>
    intro y1 y2 y3 σ H locs ls hI hl h
    exact nomatch (show none = some out from h)
  | succ n ih =>
    intro y1 y2 y3 σ H locs ls hI hl h
    rw [fX3_leastLevel_10] at h
    refine lv_iload_n hx hb dX3_leastLevel_10 rfl (lv_at hl 3 rfl) ?_
    refine lv_iload_n hx hb dX3_leastLevel_11 rfl (lv_at hl 1 rfl) ?_
    refine lv_icmp_ge (tgt := 38) hx hb dX3_leastLevel_12 rfl (fun hc => ?_) (fun hc => ?_)
    · have h := ms_ifT hc h
      refine lv_iload_n hx hb dX3_leastLevel_38 rfl (lv_at hl 2 rfl) ?_
      exact ms_riw Cx hI h dX3_leastLevel_39
    · have h := ms_ifF hc h
      refine lv_aload_n hx hb dX3_leastLevel_15 rfl (lv_at hl 0 rfl) ?_
      refine lv_iload_n hx hb dX3_leastLevel_16 rfl (lv_at hl 3 rfl) ?_
      refine lv_bipush (v := 24) hx hb dX3_leastLevel_17 rfl ?_
      refine ms_lrem hx hb dX3_leastLevel_19 (by decide) ?_
      obtain ⟨σ2, hc1, h⟩ := ms_bdE h
      refine kX3_turn Cx hI hc1 wd_28_23 (Nat.le_of_ble_eq_true rfl) (Nat.le_of_ble_eq_true rfl) hl.1 (Nat.le_of_ble_eq_true rfl) dX3_leastLevel_20 (fun H locs hI => ?_)
      refine lv_iload_n hx hb dX3_leastLevel_23 rfl (lv_at hl 2 rfl) ?_
      refine lv_aload_n hx hb dX3_leastLevel_24 rfl (lv_at hl 0 rfl) ?_
      refine gi_X3_12 Cx hI wd_4_13 dX3_leastLevel_25 ?_
      refine ms_min Cx wd_21_20 hl.1 (Nat.le_of_ble_eq_true rfl) (Nat.le_of_ble_eq_true rfl) ⟨Nat.zero_le _, Nat.zero_le _⟩ dX3_leastLevel_28 ?_
      refine lv_istore_n (lv' := [(2, .int (ms_minv y2 (σ2 8 12))), (0, .ref (a 8)), (1, .int y1), (3, .int y3)]) hx hb dX3_leastLevel_31 rfl hl (by decide) rfl (fun ls hl => ?_)
      refine lv_iinc (v := y3 + 1) (lv' := [(3, .int (y3 + 1)), (2, .int (ms_minv y2 (σ2 8 12))), (0, .ref (a 8)), (1, .int y1)]) hx hb dX3_leastLevel_32 hl (k := 3) rfl rfl (by decide) rfl (fun ls hl => ?_)
      refine lv_goto (tgt := 10) hx hb dX3_leastLevel_35 rfl ?_
      exact ih y1 (ms_minv y2 (σ2 8 12)) (y3 + 1) σ2 _ _ _ hI (lv_sub hl [2, 3, 1, 0] rfl) h
set_option maxHeartbeats 4000000 in
set_option maxRecDepth 100000 in
theorem wX3_leastLevel (Cx : ms_C p s m args meth c D cA a shX cX3_leastLevel 4 RX3 (some .int)) (out : Int32 × Mm) : ∀ (p0 : Int32) , ∀ (σ : Mm) (H : Heap) (locs : List Loc) (ls : Array Slot), ms_I D cA a shX s σ H locs → lv_has ls 4 [(0, .ref (a 8)), (1, .int p0)] → fX3_leastLevel p0 σ = some out → W p l e rmX3_leastLevel s m args below meth c H locs 0 0 (MQ below (ms_Qi D cA a shX out.1 out.2) args s 0 0 (ms_A a shX.length)) (F0 m 0 ls []) := by
  have hx := Cx.1
  have hb := Cx.2.1
  intro p0 σ H locs ls hI hl h
  unfold fX3_leastLevel at h
  refine lv_aload_n hx hb dX3_leastLevel_0 rfl (lv_at hl 0 rfl) ?_
  obtain ⟨σ2, hc1, h⟩ := ms_bdE h
  refine kX3_begin Cx hI hc1 wd_28_22 (Nat.le_of_ble_eq_true rfl) (Nat.le_of_ble_eq_true rfl) hl.1 (Nat.le_of_ble_eq_true rfl) dX3_leastLevel_1 (fun H locs hI => ?_)
  refine lv_sipush (v := 999) hx hb dX3_leastLevel_4 rfl ?_
  refine lv_istore_n (lv' := [(2, .int 999), (0, .ref (a 8)), (1, .int p0)]) hx hb dX3_leastLevel_7 rfl hl (by decide) rfl (fun ls hl => ?_)
  refine lv_iconst (v := 0) hx hb dX3_leastLevel_8 rfl ?_
  refine lv_istore_n (lv' := [(3, .int 0), (2, .int 999), (0, .ref (a 8)), (1, .int p0)]) hx hb dX3_leastLevel_9 rfl hl (by decide) rfl (fun ls hl => ?_)
  exact wX3_leastLevel_10 Cx out  ms_fu p0 999 0 σ2 _ _ _ hI (lv_sub hl [2, 3, 1, 0] rfl) h
theorem yvX3_leastLevel : ms_YV yX3_leastLevel RX3 cX3_leastLevel 4 (some .int) 1 := ⟨wd_29_16, wd_29_17, wd_2_9, wd_29_18, rfl, by decide +kernel, by decide +kernel, by decide +kernel⟩
set_option maxHeartbeats 4000000 in
theorem metX3_leastLevel (l : Launch) (hDis : ms_Dis a shX.length) {σ : Mm} {p0 : Int32} {out : Int32 × Mm} (h : fX3_leastLevel p0 σ = some out) : Met l yX3_leastLevel (.code yX3_leastLevel cX3_leastLevel 4 (some .int) :: wsL_law) rmX3_leastLevel (ms_Pc D cA a shX [.ref (a 8), .int p0] σ) (ms_Qi D cA a shX out.1 out.2) 0 0 (ms_A a shX.length) := by
  refine Met.ofW (cc := cX3_leastLevel) (maxL := 4) (ret := (some .int)) (by decide) rfl ?_
  intro p e s m args below meth c s₁ B hml hv
  obtain ⟨rfl, hK, hN, hP⟩ := hv
  have hl := lv_entry ([.ref (a 8), .int p0]) (n := 4) (Nat.le_of_ble_eq_true rfl)
  rw [lg_entry_eq]
  generalize (lg_sl ([.ref (a 8), .int p0]) ++ List.replicate (4 - (lg_sl ([.ref (a 8), .int p0])).length) Slot.unset).toArray = ls at hl ⊢
  exact wX3_leastLevel ⟨B.exec, B.bytes, hml, findClass_of_methodNamed B.named, fun w hw => atoms_spec (ws := .code yX3_leastLevel cX3_leastLevel 4 (some .int) :: wsL_law) B.pre w (List.mem_cons_of_mem _ hw), B.returns, B.notSynchronized, hK, hDis, hN⟩ out p0 σ s.heap [] ls ⟨hP, va_S.rf⟩ hl h
theorem kX3_leastLevel (Cx : ms_C p s m args meth c D cA a shX cc nL own ret) {σ : Mm} {H : Heap} {locs : List Loc} (hI : ms_I D cA a shX s σ H locs) {p0 : Int32} {out : Int32 × Mm} (h : fX3_leastLevel p0 σ = some out) (hl : Cond.methodLink own idx yX3_leastLevel ∈ wsL_law) (hf : 3 + 1 ≤ R.frames) (hlo : 8 + (4 + 11) + 65 ≤ R.locals) (hsz : ls.size = nL) (hW : (rest.map fun v => v.category).sum ≤ 8) (hd : decode cc pc = .ok (.invokevirtual idx, 3)) (kk : ∀ (H1 : Heap) (locs1 : List Loc), ms_I D cA a shX s out.2 H1 locs1 → W p l e R s m args below meth c H1 locs1 0 0 Q (F0 m (pc + 3) ls (.int out.1 :: rest))) : W p l e R s m args below meth c H locs 0 0 Q (F0 m pc ls (.int p0 :: .ref (a 8) :: rest)) :=
  ms_ci hI (ms_runV (av := [.int p0]) Cx hI 8 shX_8 (ci := 3) rfl rfl yvX3_leastLevel (metX3_leastLevel l Cx.2.2.2.2.2.2.2.2.1  h) ⟨rfl, rfl⟩ hl ⟨hf, hlo⟩ rfl hsz rfl hW ⟨Nat.zero_le _, Nat.zero_le _⟩ hd) kk
/-! X3 allGoWithin (I)Z -/
theorem dX3_allGoWithin_0 : decode cX3_allGoWithin 0 = .ok (.aload_n 0, 1) := by decide +kernel
theorem dX3_allGoWithin_1 : decode cX3_allGoWithin 1 = .ok (.invokevirtual 77, 3) := by decide +kernel
theorem dX3_allGoWithin_4 : decode cX3_allGoWithin 4 = .ok (.iconst 0, 1) := by decide +kernel
theorem dX3_allGoWithin_5 : decode cX3_allGoWithin 5 = .ok (.istore_n 2, 1) := by decide +kernel
theorem dX3_allGoWithin_6 : decode cX3_allGoWithin 6 = .ok (.iload_n 2, 1) := by decide +kernel
theorem dX3_allGoWithin_7 : decode cX3_allGoWithin 7 = .ok (.iload_n 1, 1) := by decide +kernel
theorem dX3_allGoWithin_8 : decode cX3_allGoWithin 8 = .ok (.if_icmp .ge 26, 3) := by decide +kernel
theorem dX3_allGoWithin_11 : decode cX3_allGoWithin 11 = .ok (.aload_n 0, 1) := by decide +kernel
theorem dX3_allGoWithin_12 : decode cX3_allGoWithin 12 = .ok (.iload_n 2, 1) := by decide +kernel
theorem dX3_allGoWithin_13 : decode cX3_allGoWithin 13 = .ok (.bipush 24, 2) := by decide +kernel
theorem dX3_allGoWithin_15 : decode cX3_allGoWithin 15 = .ok (.irem, 1) := by decide +kernel
theorem dX3_allGoWithin_16 : decode cX3_allGoWithin 16 = .ok (.invokevirtual 80, 3) := by decide +kernel
theorem dX3_allGoWithin_19 : decode cX3_allGoWithin 19 = .ok (.aload_n 0, 1) := by decide +kernel
theorem dX3_allGoWithin_20 : decode cX3_allGoWithin 20 = .ok (.getfield 61, 3) := by decide +kernel
theorem dX3_allGoWithin_23 : decode cX3_allGoWithin 23 = .ok (.ifCond .eq 5, 3) := by decide +kernel
theorem dX3_allGoWithin_26 : decode cX3_allGoWithin 26 = .ok (.iconst 0, 1) := by decide +kernel
theorem dX3_allGoWithin_27 : decode cX3_allGoWithin 27 = .ok (.ireturn, 1) := by decide +kernel
theorem dX3_allGoWithin_28 : decode cX3_allGoWithin 28 = .ok (.iinc 2 1, 3) := by decide +kernel
theorem dX3_allGoWithin_31 : decode cX3_allGoWithin 31 = .ok (.goto (-25), 3) := by decide +kernel
theorem dX3_allGoWithin_34 : decode cX3_allGoWithin 34 = .ok (.iconst 1, 1) := by decide +kernel
theorem dX3_allGoWithin_35 : decode cX3_allGoWithin 35 = .ok (.ireturn, 1) := by decide +kernel
abbrev rmX3_allGoWithin : Room := { frames := 3, cells := 0, slots := 0, locals := 65 }
set_option maxHeartbeats 4000000 in
set_option maxRecDepth 100000 in
theorem wX3_allGoWithin_6 (Cx : ms_C p s m args meth c D cA a shX cX3_allGoWithin 3 RX3 (some .boolean)) (out : Int32 × Mm) : ∀ (n : Nat), ∀ (y1 : Int32) (y2 : Int32) , ∀ (σ : Mm) (H : Heap) (locs : List Loc) (ls : Array Slot), ms_I D cA a shX s σ H locs → lv_has ls 3 [(0, .ref (a 8)), (1, .int y1), (2, .int y2)] → fX3_allGoWithin_6 n y1 y2 σ = some out → W p l e rmX3_allGoWithin s m args below meth c H locs 0 0 (MQ below (ms_Qi D cA a shX out.1 out.2) args s 0 0 (ms_A a shX.length)) (F0 m 6 ls []) := by
  have hx := Cx.1
  have hb := Cx.2.1
  intro n
  induction n with
  | zero =>
    intro y1 y2 σ H locs ls hI hl h
    exact nomatch (show none = some out from h)
  | succ n ih =>
    intro y1 y2 σ H locs ls hI hl h
    rw [fX3_allGoWithin_6] at h
    refine lv_iload_n hx hb dX3_allGoWithin_6 rfl (lv_at hl 2 rfl) ?_
    refine lv_iload_n hx hb dX3_allGoWithin_7 rfl (lv_at hl 1 rfl) ?_
    refine lv_icmp_ge (tgt := 34) hx hb dX3_allGoWithin_8 rfl (fun hc => ?_) (fun hc => ?_)
    · have h := ms_ifT hc h
      refine lv_iconst (v := 1) hx hb dX3_allGoWithin_34 rfl ?_
      exact ms_rzw Cx hI (Or.inr rfl) h dX3_allGoWithin_35
    · have h := ms_ifF hc h
      refine lv_aload_n hx hb dX3_allGoWithin_11 rfl (lv_at hl 0 rfl) ?_
      refine lv_iload_n hx hb dX3_allGoWithin_12 rfl (lv_at hl 2 rfl) ?_
      refine lv_bipush (v := 24) hx hb dX3_allGoWithin_13 rfl ?_
      refine ms_lrem hx hb dX3_allGoWithin_15 (by decide) ?_
      obtain ⟨σ2, hc1, h⟩ := ms_bdE h
      refine kX3_turn Cx hI hc1 wd_28_23 (Nat.le_of_ble_eq_true rfl) (Nat.le_of_ble_eq_true rfl) hl.1 (Nat.le_of_ble_eq_true rfl) dX3_allGoWithin_16 (fun H locs hI => ?_)
      refine lv_aload_n hx hb dX3_allGoWithin_19 rfl (lv_at hl 0 rfl) ?_
      refine gi_X3_16 Cx hI wd_4_17 dX3_allGoWithin_20 ?_
      refine lv_if_eq (tgt := 28) hx hb dX3_allGoWithin_23 rfl (fun hc => ?_) (fun hc => ?_)
      · have h := ms_ifT hc h
        refine lv_iinc (v := y2 + 1) (lv' := [(2, .int (y2 + 1)), (0, .ref (a 8)), (1, .int y1)]) hx hb dX3_allGoWithin_28 hl (k := 2) rfl rfl (by decide) rfl (fun ls hl => ?_)
        refine lv_goto (tgt := 6) hx hb dX3_allGoWithin_31 rfl ?_
        exact ih y1 (y2 + 1) σ2 _ _ _ hI (lv_sub hl [1, 2, 0] rfl) h
      · have h := ms_ifF hc h
        refine lv_iconst (v := 0) hx hb dX3_allGoWithin_26 rfl ?_
        exact ms_rzw Cx hI (Or.inl rfl) h dX3_allGoWithin_27
set_option maxHeartbeats 4000000 in
set_option maxRecDepth 100000 in
theorem wX3_allGoWithin (Cx : ms_C p s m args meth c D cA a shX cX3_allGoWithin 3 RX3 (some .boolean)) (out : Int32 × Mm) : ∀ (p0 : Int32) , ∀ (σ : Mm) (H : Heap) (locs : List Loc) (ls : Array Slot), ms_I D cA a shX s σ H locs → lv_has ls 3 [(0, .ref (a 8)), (1, .int p0)] → fX3_allGoWithin p0 σ = some out → W p l e rmX3_allGoWithin s m args below meth c H locs 0 0 (MQ below (ms_Qi D cA a shX out.1 out.2) args s 0 0 (ms_A a shX.length)) (F0 m 0 ls []) := by
  have hx := Cx.1
  have hb := Cx.2.1
  intro p0 σ H locs ls hI hl h
  unfold fX3_allGoWithin at h
  refine lv_aload_n hx hb dX3_allGoWithin_0 rfl (lv_at hl 0 rfl) ?_
  obtain ⟨σ2, hc1, h⟩ := ms_bdE h
  refine kX3_begin Cx hI hc1 wd_28_22 (Nat.le_of_ble_eq_true rfl) (Nat.le_of_ble_eq_true rfl) hl.1 (Nat.le_of_ble_eq_true rfl) dX3_allGoWithin_1 (fun H locs hI => ?_)
  refine lv_iconst (v := 0) hx hb dX3_allGoWithin_4 rfl ?_
  refine lv_istore_n (lv' := [(2, .int 0), (0, .ref (a 8)), (1, .int p0)]) hx hb dX3_allGoWithin_5 rfl hl (by decide) rfl (fun ls hl => ?_)
  exact wX3_allGoWithin_6 Cx out  ms_fu p0 0 σ2 _ _ _ hI (lv_sub hl [1, 2, 0] rfl) h
theorem yvX3_allGoWithin : ms_YV yX3_allGoWithin RX3 cX3_allGoWithin 3 (some .boolean) 1 := ⟨wd_28_19, wd_28_20, wd_2_9, wd_28_21, rfl, by decide +kernel, by decide +kernel, by decide +kernel⟩
set_option maxHeartbeats 4000000 in
theorem metX3_allGoWithin (l : Launch) (hDis : ms_Dis a shX.length) {σ : Mm} {p0 : Int32} {out : Int32 × Mm} (h : fX3_allGoWithin p0 σ = some out) : Met l yX3_allGoWithin (.code yX3_allGoWithin cX3_allGoWithin 3 (some .boolean) :: wsL_law) rmX3_allGoWithin (ms_Pc D cA a shX [.ref (a 8), .int p0] σ) (ms_Qi D cA a shX out.1 out.2) 0 0 (ms_A a shX.length) := by
  refine Met.ofW (cc := cX3_allGoWithin) (maxL := 3) (ret := (some .boolean)) (by decide) rfl ?_
  intro p e s m args below meth c s₁ B hml hv
  obtain ⟨rfl, hK, hN, hP⟩ := hv
  have hl := lv_entry ([.ref (a 8), .int p0]) (n := 3) (Nat.le_of_ble_eq_true rfl)
  rw [lg_entry_eq]
  generalize (lg_sl ([.ref (a 8), .int p0]) ++ List.replicate (3 - (lg_sl ([.ref (a 8), .int p0])).length) Slot.unset).toArray = ls at hl ⊢
  exact wX3_allGoWithin ⟨B.exec, B.bytes, hml, findClass_of_methodNamed B.named, fun w hw => atoms_spec (ws := .code yX3_allGoWithin cX3_allGoWithin 3 (some .boolean) :: wsL_law) B.pre w (List.mem_cons_of_mem _ hw), B.returns, B.notSynchronized, hK, hDis, hN⟩ out p0 σ s.heap [] ls ⟨hP, va_S.rf⟩ hl h
theorem kX3_allGoWithin (Cx : ms_C p s m args meth c D cA a shX cc nL own ret) {σ : Mm} {H : Heap} {locs : List Loc} (hI : ms_I D cA a shX s σ H locs) {p0 : Int32} {out : Int32 × Mm} (h : fX3_allGoWithin p0 σ = some out) (hl : Cond.methodLink own idx yX3_allGoWithin ∈ wsL_law) (hf : 3 + 1 ≤ R.frames) (hlo : 8 + (3 + 11) + 65 ≤ R.locals) (hsz : ls.size = nL) (hW : (rest.map fun v => v.category).sum ≤ 8) (hd : decode cc pc = .ok (.invokevirtual idx, 3)) (kk : ∀ (H1 : Heap) (locs1 : List Loc), ms_I D cA a shX s out.2 H1 locs1 → W p l e R s m args below meth c H1 locs1 0 0 Q (F0 m (pc + 3) ls (.int out.1 :: rest))) : W p l e R s m args below meth c H locs 0 0 Q (F0 m pc ls (.int p0 :: .ref (a 8) :: rest)) :=
  ms_ci hI (ms_runV (av := [.int p0]) Cx hI 8 shX_8 (ci := 3) rfl rfl yvX3_allGoWithin (metX3_allGoWithin l Cx.2.2.2.2.2.2.2.2.1  h) ⟨rfl, rfl⟩ hl ⟨hf, hlo⟩ rfl hsz rfl hW ⟨Nat.zero_le _, Nat.zero_le _⟩ hd) kk
/-! X4 append (I)V -/
theorem dX4_append_0 : decode cX4_append 0 = .ok (.aload_n 0, 1) := by decide +kernel
theorem dX4_append_1 : decode cX4_append 1 = .ok (.getfield 21, 3) := by decide +kernel
theorem dX4_append_4 : decode cX4_append 4 = .ok (.bipush 100, 2) := by decide +kernel
theorem dX4_append_6 : decode cX4_append 6 = .ok (.if_icmp .ge 23, 3) := by decide +kernel
theorem dX4_append_9 : decode cX4_append 9 = .ok (.aload_n 0, 1) := by decide +kernel
theorem dX4_append_10 : decode cX4_append 10 = .ok (.getfield 9, 3) := by decide +kernel
theorem dX4_append_13 : decode cX4_append 13 = .ok (.aload_n 0, 1) := by decide +kernel
theorem dX4_append_14 : decode cX4_append 14 = .ok (.getfield 21, 3) := by decide +kernel
theorem dX4_append_17 : decode cX4_append 17 = .ok (.iload_n 1, 1) := by decide +kernel
theorem dX4_append_18 : decode cX4_append 18 = .ok (.iastore, 1) := by decide +kernel
theorem dX4_append_19 : decode cX4_append 19 = .ok (.aload_n 0, 1) := by decide +kernel
theorem dX4_append_20 : decode cX4_append 20 = .ok (.dup, 1) := by decide +kernel
theorem dX4_append_21 : decode cX4_append 21 = .ok (.getfield 21, 3) := by decide +kernel
theorem dX4_append_24 : decode cX4_append 24 = .ok (.iconst 1, 1) := by decide +kernel
theorem dX4_append_25 : decode cX4_append 25 = .ok (.iadd, 1) := by decide +kernel
theorem dX4_append_26 : decode cX4_append 26 = .ok (.putfield 21, 3) := by decide +kernel
theorem dX4_append_29 : decode cX4_append 29 = .ok (.return_, 1) := by decide +kernel
abbrev rmX4_append : Room := { frames := 0, cells := 0, slots := 0, locals := 0 }
set_option maxHeartbeats 4000000 in
set_option maxRecDepth 100000 in
theorem wX4_append (Cx : ms_C p s m args meth c D cA a shX cX4_append 2 RX4 none) (out : Mm) : ∀ (p0 : Int32) , ∀ (σ : Mm) (H : Heap) (locs : List Loc) (ls : Array Slot), ms_I D cA a shX s σ H locs → lv_has ls 2 [(0, .ref (a 1)), (1, .int p0)] → fX4_append p0 σ = some out → W p l e rmX4_append s m args below meth c H locs 0 0 (MQ below (ms_Qv D cA a shX out) args s 0 0 (ms_A a shX.length)) (F0 m 0 ls []) := by
  have hx := Cx.1
  have hb := Cx.2.1
  intro p0 σ H locs ls hI hl h
  unfold fX4_append at h
  refine lv_aload_n hx hb dX4_append_0 rfl (lv_at hl 0 rfl) ?_
  refine gi_X4_3 Cx hI wd_3_10 dX4_append_1 ?_
  refine lv_bipush (v := 100) hx hb dX4_append_4 rfl ?_
  refine lv_icmp_ge (tgt := 29) hx hb dX4_append_6 rfl (fun hc => ?_) (fun hc => ?_)
  · have h := ms_ifT hc h
    exact ms_rv Cx hI (Option.some.inj h) dX4_append_29
  · have h := ms_ifF hc h
    refine lv_aload_n hx hb dX4_append_9 rfl (lv_at hl 0 rfl) ?_
    refine gr_X4_0 Cx hI wd_3_7 dX4_append_10 ?_
    refine lv_aload_n hx hb dX4_append_13 rfl (lv_at hl 0 rfl) ?_
    refine gi_X4_3 Cx hI wd_3_10 dX4_append_14 ?_
    refine lv_iload_n hx hb dX4_append_17 rfl (lv_at hl 1 rfl) ?_
    obtain ⟨hg, h⟩ := ms_gE h
    refine ms_sto Cx hI 2 shX_2 hg dX4_append_18 (fun H locs σ1 eσ1 hI => ?_)
    have h := ms_ltE eσ1 h
    refine lv_aload_n hx hb dX4_append_19 rfl (lv_at hl 0 rfl) ?_
    refine lv_dup hx hb dX4_append_20 rfl ?_
    refine gi_X4_3 Cx hI wd_3_10 dX4_append_21 ?_
    refine lv_iconst (v := 1) hx hb dX4_append_24 rfl ?_
    refine lv_iadd hx hb dX4_append_25 ?_
    refine pi_X4_3 Cx hI wd_3_10 dX4_append_26 (fun H locs σ2 eσ2 hI => ?_)
    have h := ms_ltE eσ2 h
    exact ms_rv Cx hI (Option.some.inj h) dX4_append_29
theorem yvX4_append : ms_YV yX4_append RX4 cX4_append 2 none 1 := ⟨wd_8_3, wd_8_4, wd_1_14, wd_8_5, rfl, by decide +kernel, by decide +kernel, by decide +kernel⟩
set_option maxHeartbeats 4000000 in
theorem metX4_append (l : Launch) (hDis : ms_Dis a shX.length) {σ : Mm} {p0 : Int32} {out : Mm} (h : fX4_append p0 σ = some out) : Met l yX4_append (.code yX4_append cX4_append 2 none :: wsL_law) rmX4_append (ms_Pc D cA a shX [.ref (a 1), .int p0] σ) (ms_Qv D cA a shX out) 0 0 (ms_A a shX.length) := by
  refine Met.ofW (cc := cX4_append) (maxL := 2) (ret := none) (by decide) rfl ?_
  intro p e s m args below meth c s₁ B hml hv
  obtain ⟨rfl, hK, hN, hP⟩ := hv
  have hl := lv_entry ([.ref (a 1), .int p0]) (n := 2) (Nat.le_of_ble_eq_true rfl)
  rw [lg_entry_eq]
  generalize (lg_sl ([.ref (a 1), .int p0]) ++ List.replicate (2 - (lg_sl ([.ref (a 1), .int p0])).length) Slot.unset).toArray = ls at hl ⊢
  exact wX4_append ⟨B.exec, B.bytes, hml, findClass_of_methodNamed B.named, fun w hw => atoms_spec (ws := .code yX4_append cX4_append 2 none :: wsL_law) B.pre w (List.mem_cons_of_mem _ hw), B.returns, B.notSynchronized, hK, hDis, hN⟩ out p0 σ s.heap [] ls ⟨hP, va_S.rf⟩ hl h
theorem kX4_append (Cx : ms_C p s m args meth c D cA a shX cc nL own ret) {σ : Mm} {H : Heap} {locs : List Loc} (hI : ms_I D cA a shX s σ H locs) {p0 : Int32} {out : Mm} (h : fX4_append p0 σ = some out) (hl : Cond.methodLink own idx yX4_append ∈ wsL_law) (hf : 0 + 1 ≤ R.frames) (hlo : 8 + (2 + 11) + 0 ≤ R.locals) (hsz : ls.size = nL) (hW : (rest.map fun v => v.category).sum ≤ 8) (hd : decode cc pc = .ok (.invokevirtual idx, 3)) (kk : ∀ (H1 : Heap) (locs1 : List Loc), ms_I D cA a shX s out H1 locs1 → W p l e R s m args below meth c H1 locs1 0 0 Q (F0 m (pc + 3) ls (rest))) : W p l e R s m args below meth c H locs 0 0 Q (F0 m pc ls (.int p0 :: .ref (a 1) :: rest)) :=
  ms_cv hI (ms_runV (av := [.int p0]) Cx hI 1 shX_1 (ci := 4) rfl rfl yvX4_append (metX4_append l Cx.2.2.2.2.2.2.2.2.1  h) ⟨rfl, rfl⟩ hl ⟨hf, hlo⟩ rfl hsz rfl hW ⟨Nat.zero_le _, Nat.zero_le _⟩ hd) kk
/-! X4 hasThing (I)Z -/
theorem dX4_hasThing_0 : decode cX4_hasThing 0 = .ok (.iload_n 1, 1) := by decide +kernel
theorem dX4_hasThing_1 : decode cX4_hasThing 1 = .ok (.ifCond .lt 15, 3) := by decide +kernel
theorem dX4_hasThing_4 : decode cX4_hasThing 4 = .ok (.iload_n 1, 1) := by decide +kernel
theorem dX4_hasThing_5 : decode cX4_hasThing 5 = .ok (.aload_n 0, 1) := by decide +kernel
theorem dX4_hasThing_6 : decode cX4_hasThing 6 = .ok (.getfield 25, 3) := by decide +kernel
theorem dX4_hasThing_9 : decode cX4_hasThing 9 = .ok (.if_icmp .ge 7, 3) := by decide +kernel
theorem dX4_hasThing_12 : decode cX4_hasThing 12 = .ok (.iconst 1, 1) := by decide +kernel
theorem dX4_hasThing_13 : decode cX4_hasThing 13 = .ok (.goto 4, 3) := by decide +kernel
theorem dX4_hasThing_16 : decode cX4_hasThing 16 = .ok (.iconst 0, 1) := by decide +kernel
theorem dX4_hasThing_17 : decode cX4_hasThing 17 = .ok (.ireturn, 1) := by decide +kernel
abbrev rmX4_hasThing : Room := { frames := 0, cells := 0, slots := 0, locals := 0 }
set_option maxHeartbeats 4000000 in
set_option maxRecDepth 100000 in
theorem wX4_hasThing (Cx : ms_C p s m args meth c D cA a shX cX4_hasThing 2 RX4 (some .boolean)) (out : Int32) {σ : Mm} : ∀ (p0 : Int32) , ∀ (H : Heap) (locs : List Loc) (ls : Array Slot), ms_I D cA a shX s σ H locs → lv_has ls 2 [(0, .ref (a 1)), (1, .int p0)] → fX4_hasThing σ p0 = some out → W p l e rmX4_hasThing s m args below meth c H locs 0 0 (MQ below (ms_Qi D cA a shX out σ) args s 0 0 (ms_A a shX.length)) (F0 m 0 ls []) := by
  have hx := Cx.1
  have hb := Cx.2.1
  intro p0 H locs ls hI hl h
  unfold fX4_hasThing at h
  refine lv_iload_n hx hb dX4_hasThing_0 rfl (lv_at hl 1 rfl) ?_
  refine lv_if_lt (tgt := 16) hx hb dX4_hasThing_1 rfl (fun hc => ?_) (fun hc => ?_)
  · have h := ms_ifT hc h
    refine lv_iconst (v := 0) hx hb dX4_hasThing_16 rfl ?_
    exact ms_rz Cx hI (Or.inl rfl) (Option.some.inj h) rfl dX4_hasThing_17
  · have h := ms_ifF hc h
    refine lv_iload_n hx hb dX4_hasThing_4 rfl (lv_at hl 1 rfl) ?_
    refine lv_aload_n hx hb dX4_hasThing_5 rfl (lv_at hl 0 rfl) ?_
    refine gi_X4_4 Cx hI wd_3_11 dX4_hasThing_6 ?_
    refine lv_icmp_ge (tgt := 16) hx hb dX4_hasThing_9 rfl (fun hc => ?_) (fun hc => ?_)
    · have h := ms_ifT hc h
      refine lv_iconst (v := 0) hx hb dX4_hasThing_16 rfl ?_
      exact ms_rz Cx hI (Or.inl rfl) (Option.some.inj h) rfl dX4_hasThing_17
    · have h := ms_ifF hc h
      refine lv_iconst (v := 1) hx hb dX4_hasThing_12 rfl ?_
      refine lv_goto (tgt := 17) hx hb dX4_hasThing_13 rfl ?_
      exact ms_rz Cx hI (Or.inr rfl) (Option.some.inj h) rfl dX4_hasThing_17
theorem yvX4_hasThing : ms_YV yX4_hasThing RX4 cX4_hasThing 2 (some .boolean) 1 := ⟨wd_13_11, wd_13_12, wd_1_14, wd_13_13, rfl, by decide +kernel, by decide +kernel, by decide +kernel⟩
set_option maxHeartbeats 4000000 in
theorem metX4_hasThing (l : Launch) (hDis : ms_Dis a shX.length) {σ : Mm} {p0 : Int32} {out : Int32} (h : fX4_hasThing σ p0 = some out) : Met l yX4_hasThing (.code yX4_hasThing cX4_hasThing 2 (some .boolean) :: wsL_law) rmX4_hasThing (ms_Pc D cA a shX [.ref (a 1), .int p0] σ) (ms_Qi D cA a shX out σ) 0 0 (ms_A a shX.length) := by
  refine Met.ofW (cc := cX4_hasThing) (maxL := 2) (ret := (some .boolean)) (by decide) rfl ?_
  intro p e s m args below meth c s₁ B hml hv
  obtain ⟨rfl, hK, hN, hP⟩ := hv
  have hl := lv_entry ([.ref (a 1), .int p0]) (n := 2) (Nat.le_of_ble_eq_true rfl)
  rw [lg_entry_eq]
  generalize (lg_sl ([.ref (a 1), .int p0]) ++ List.replicate (2 - (lg_sl ([.ref (a 1), .int p0])).length) Slot.unset).toArray = ls at hl ⊢
  exact wX4_hasThing ⟨B.exec, B.bytes, hml, findClass_of_methodNamed B.named, fun w hw => atoms_spec (ws := .code yX4_hasThing cX4_hasThing 2 (some .boolean) :: wsL_law) B.pre w (List.mem_cons_of_mem _ hw), B.returns, B.notSynchronized, hK, hDis, hN⟩ out p0 s.heap [] ls ⟨hP, va_S.rf⟩ hl h
theorem kX4_hasThing (Cx : ms_C p s m args meth c D cA a shX cc nL own ret) {σ : Mm} {H : Heap} {locs : List Loc} (hI : ms_I D cA a shX s σ H locs) {p0 : Int32} {out : Int32} (h : fX4_hasThing σ p0 = some out) (hl : Cond.methodLink own idx yX4_hasThing ∈ wsL_law) (hf : 0 + 1 ≤ R.frames) (hlo : 8 + (2 + 11) + 0 ≤ R.locals) (hsz : ls.size = nL) (hW : (rest.map fun v => v.category).sum ≤ 8) (hd : decode cc pc = .ok (.invokevirtual idx, 3)) (kk : ∀ (H1 : Heap) (locs1 : List Loc), ms_I D cA a shX s σ H1 locs1 → W p l e R s m args below meth c H1 locs1 0 0 Q (F0 m (pc + 3) ls (.int out :: rest))) : W p l e R s m args below meth c H locs 0 0 Q (F0 m pc ls (.int p0 :: .ref (a 1) :: rest)) :=
  ms_ci hI (ms_runV (av := [.int p0]) Cx hI 1 shX_1 (ci := 4) rfl rfl yvX4_hasThing (metX4_hasThing l Cx.2.2.2.2.2.2.2.2.1  h) ⟨rfl, rfl⟩ hl ⟨hf, hlo⟩ rfl hsz rfl hW ⟨Nat.zero_le _, Nat.zero_le _⟩ hd) kk
/-! X4 hasGroup (I)Z -/
theorem dX4_hasGroup_0 : decode cX4_hasGroup 0 = .ok (.iload_n 1, 1) := by decide +kernel
theorem dX4_hasGroup_1 : decode cX4_hasGroup 1 = .ok (.ifCond .lt 15, 3) := by decide +kernel
theorem dX4_hasGroup_4 : decode cX4_hasGroup 4 = .ok (.iload_n 1, 1) := by decide +kernel
theorem dX4_hasGroup_5 : decode cX4_hasGroup 5 = .ok (.aload_n 0, 1) := by decide +kernel
theorem dX4_hasGroup_6 : decode cX4_hasGroup 6 = .ok (.getfield 28, 3) := by decide +kernel
theorem dX4_hasGroup_9 : decode cX4_hasGroup 9 = .ok (.if_icmp .ge 7, 3) := by decide +kernel
theorem dX4_hasGroup_12 : decode cX4_hasGroup 12 = .ok (.iconst 1, 1) := by decide +kernel
theorem dX4_hasGroup_13 : decode cX4_hasGroup 13 = .ok (.goto 4, 3) := by decide +kernel
theorem dX4_hasGroup_16 : decode cX4_hasGroup 16 = .ok (.iconst 0, 1) := by decide +kernel
theorem dX4_hasGroup_17 : decode cX4_hasGroup 17 = .ok (.ireturn, 1) := by decide +kernel
abbrev rmX4_hasGroup : Room := { frames := 0, cells := 0, slots := 0, locals := 0 }
set_option maxHeartbeats 4000000 in
set_option maxRecDepth 100000 in
theorem wX4_hasGroup (Cx : ms_C p s m args meth c D cA a shX cX4_hasGroup 2 RX4 (some .boolean)) (out : Int32) {σ : Mm} : ∀ (p0 : Int32) , ∀ (H : Heap) (locs : List Loc) (ls : Array Slot), ms_I D cA a shX s σ H locs → lv_has ls 2 [(0, .ref (a 1)), (1, .int p0)] → fX4_hasGroup σ p0 = some out → W p l e rmX4_hasGroup s m args below meth c H locs 0 0 (MQ below (ms_Qi D cA a shX out σ) args s 0 0 (ms_A a shX.length)) (F0 m 0 ls []) := by
  have hx := Cx.1
  have hb := Cx.2.1
  intro p0 H locs ls hI hl h
  unfold fX4_hasGroup at h
  refine lv_iload_n hx hb dX4_hasGroup_0 rfl (lv_at hl 1 rfl) ?_
  refine lv_if_lt (tgt := 16) hx hb dX4_hasGroup_1 rfl (fun hc => ?_) (fun hc => ?_)
  · have h := ms_ifT hc h
    refine lv_iconst (v := 0) hx hb dX4_hasGroup_16 rfl ?_
    exact ms_rz Cx hI (Or.inl rfl) (Option.some.inj h) rfl dX4_hasGroup_17
  · have h := ms_ifF hc h
    refine lv_iload_n hx hb dX4_hasGroup_4 rfl (lv_at hl 1 rfl) ?_
    refine lv_aload_n hx hb dX4_hasGroup_5 rfl (lv_at hl 0 rfl) ?_
    refine gi_X4_5 Cx hI wd_3_12 dX4_hasGroup_6 ?_
    refine lv_icmp_ge (tgt := 16) hx hb dX4_hasGroup_9 rfl (fun hc => ?_) (fun hc => ?_)
    · have h := ms_ifT hc h
      refine lv_iconst (v := 0) hx hb dX4_hasGroup_16 rfl ?_
      exact ms_rz Cx hI (Or.inl rfl) (Option.some.inj h) rfl dX4_hasGroup_17
    · have h := ms_ifF hc h
      refine lv_iconst (v := 1) hx hb dX4_hasGroup_12 rfl ?_
      refine lv_goto (tgt := 17) hx hb dX4_hasGroup_13 rfl ?_
      exact ms_rz Cx hI (Or.inr rfl) (Option.some.inj h) rfl dX4_hasGroup_17
theorem yvX4_hasGroup : ms_YV yX4_hasGroup RX4 cX4_hasGroup 2 (some .boolean) 1 := ⟨wd_15_1, wd_15_2, wd_1_14, wd_15_3, rfl, by decide +kernel, by decide +kernel, by decide +kernel⟩
set_option maxHeartbeats 4000000 in
theorem metX4_hasGroup (l : Launch) (hDis : ms_Dis a shX.length) {σ : Mm} {p0 : Int32} {out : Int32} (h : fX4_hasGroup σ p0 = some out) : Met l yX4_hasGroup (.code yX4_hasGroup cX4_hasGroup 2 (some .boolean) :: wsL_law) rmX4_hasGroup (ms_Pc D cA a shX [.ref (a 1), .int p0] σ) (ms_Qi D cA a shX out σ) 0 0 (ms_A a shX.length) := by
  refine Met.ofW (cc := cX4_hasGroup) (maxL := 2) (ret := (some .boolean)) (by decide) rfl ?_
  intro p e s m args below meth c s₁ B hml hv
  obtain ⟨rfl, hK, hN, hP⟩ := hv
  have hl := lv_entry ([.ref (a 1), .int p0]) (n := 2) (Nat.le_of_ble_eq_true rfl)
  rw [lg_entry_eq]
  generalize (lg_sl ([.ref (a 1), .int p0]) ++ List.replicate (2 - (lg_sl ([.ref (a 1), .int p0])).length) Slot.unset).toArray = ls at hl ⊢
  exact wX4_hasGroup ⟨B.exec, B.bytes, hml, findClass_of_methodNamed B.named, fun w hw => atoms_spec (ws := .code yX4_hasGroup cX4_hasGroup 2 (some .boolean) :: wsL_law) B.pre w (List.mem_cons_of_mem _ hw), B.returns, B.notSynchronized, hK, hDis, hN⟩ out p0 s.heap [] ls ⟨hP, va_S.rf⟩ hl h
theorem kX4_hasGroup (Cx : ms_C p s m args meth c D cA a shX cc nL own ret) {σ : Mm} {H : Heap} {locs : List Loc} (hI : ms_I D cA a shX s σ H locs) {p0 : Int32} {out : Int32} (h : fX4_hasGroup σ p0 = some out) (hl : Cond.methodLink own idx yX4_hasGroup ∈ wsL_law) (hf : 0 + 1 ≤ R.frames) (hlo : 8 + (2 + 11) + 0 ≤ R.locals) (hsz : ls.size = nL) (hW : (rest.map fun v => v.category).sum ≤ 8) (hd : decode cc pc = .ok (.invokevirtual idx, 3)) (kk : ∀ (H1 : Heap) (locs1 : List Loc), ms_I D cA a shX s σ H1 locs1 → W p l e R s m args below meth c H1 locs1 0 0 Q (F0 m (pc + 3) ls (.int out :: rest))) : W p l e R s m args below meth c H locs 0 0 Q (F0 m pc ls (.int p0 :: .ref (a 1) :: rest)) :=
  ms_ci hI (ms_runV (av := [.int p0]) Cx hI 1 shX_1 (ci := 4) rfl rfl yvX4_hasGroup (metX4_hasGroup l Cx.2.2.2.2.2.2.2.2.1  h) ⟨rfl, rfl⟩ hl ⟨hf, hlo⟩ rfl hsz rfl hW ⟨Nat.zero_le _, Nat.zero_le _⟩ hd) kk
/-! X4 ofGroup (II)I -/
theorem dX4_ofGroup_0 : decode cX4_ofGroup 0 = .ok (.aload_n 0, 1) := by decide +kernel
theorem dX4_ofGroup_1 : decode cX4_ofGroup 1 = .ok (.getfield 18, 3) := by decide +kernel
theorem dX4_ofGroup_4 : decode cX4_ofGroup 4 = .ok (.iload_n 1, 1) := by decide +kernel
theorem dX4_ofGroup_5 : decode cX4_ofGroup 5 = .ok (.bipush 6, 2) := by decide +kernel
theorem dX4_ofGroup_7 : decode cX4_ofGroup 7 = .ok (.imul, 1) := by decide +kernel
theorem dX4_ofGroup_8 : decode cX4_ofGroup 8 = .ok (.iload_n 2, 1) := by decide +kernel
theorem dX4_ofGroup_9 : decode cX4_ofGroup 9 = .ok (.iadd, 1) := by decide +kernel
theorem dX4_ofGroup_10 : decode cX4_ofGroup 10 = .ok (.iaload, 1) := by decide +kernel
theorem dX4_ofGroup_11 : decode cX4_ofGroup 11 = .ok (.ireturn, 1) := by decide +kernel
abbrev rmX4_ofGroup : Room := { frames := 0, cells := 0, slots := 0, locals := 0 }
set_option maxHeartbeats 4000000 in
set_option maxRecDepth 100000 in
theorem wX4_ofGroup (Cx : ms_C p s m args meth c D cA a shX cX4_ofGroup 3 RX4 (some .int)) (out : Int32) {σ : Mm} : ∀ (p0 : Int32) (p1 : Int32) , ∀ (H : Heap) (locs : List Loc) (ls : Array Slot), ms_I D cA a shX s σ H locs → lv_has ls 3 [(0, .ref (a 1)), (1, .int p0), (2, .int p1)] → fX4_ofGroup σ p0 p1 = some out → W p l e rmX4_ofGroup s m args below meth c H locs 0 0 (MQ below (ms_Qi D cA a shX out σ) args s 0 0 (ms_A a shX.length)) (F0 m 0 ls []) := by
  have hx := Cx.1
  have hb := Cx.2.1
  intro p0 p1 H locs ls hI hl h
  unfold fX4_ofGroup at h
  refine lv_aload_n hx hb dX4_ofGroup_0 rfl (lv_at hl 0 rfl) ?_
  refine gr_X4_2 Cx hI wd_3_9 dX4_ofGroup_1 ?_
  refine lv_iload_n hx hb dX4_ofGroup_4 rfl (lv_at hl 1 rfl) ?_
  refine lv_bipush (v := 6) hx hb dX4_ofGroup_5 rfl ?_
  refine lv_imul hx hb dX4_ofGroup_7 ?_
  refine lv_iload_n hx hb dX4_ofGroup_8 rfl (lv_at hl 2 rfl) ?_
  refine lv_iadd hx hb dX4_ofGroup_9 ?_
  obtain ⟨hg, h⟩ := ms_gE h
  refine ms_ld Cx hI 4 shX_4 hg dX4_ofGroup_10 ?_
  exact ms_ri Cx hI (Option.some.inj h) rfl dX4_ofGroup_11
theorem yvX4_ofGroup : ms_YV yX4_ofGroup RX4 cX4_ofGroup 3 (some .int) 2 := ⟨wd_15_5, wd_15_6, wd_1_14, wd_15_7, rfl, by decide +kernel, by decide +kernel, by decide +kernel⟩
set_option maxHeartbeats 4000000 in
theorem metX4_ofGroup (l : Launch) (hDis : ms_Dis a shX.length) {σ : Mm} {p0 : Int32} {p1 : Int32} {out : Int32} (h : fX4_ofGroup σ p0 p1 = some out) : Met l yX4_ofGroup (.code yX4_ofGroup cX4_ofGroup 3 (some .int) :: wsL_law) rmX4_ofGroup (ms_Pc D cA a shX [.ref (a 1), .int p0, .int p1] σ) (ms_Qi D cA a shX out σ) 0 0 (ms_A a shX.length) := by
  refine Met.ofW (cc := cX4_ofGroup) (maxL := 3) (ret := (some .int)) (by decide) rfl ?_
  intro p e s m args below meth c s₁ B hml hv
  obtain ⟨rfl, hK, hN, hP⟩ := hv
  have hl := lv_entry ([.ref (a 1), .int p0, .int p1]) (n := 3) (Nat.le_of_ble_eq_true rfl)
  rw [lg_entry_eq]
  generalize (lg_sl ([.ref (a 1), .int p0, .int p1]) ++ List.replicate (3 - (lg_sl ([.ref (a 1), .int p0, .int p1])).length) Slot.unset).toArray = ls at hl ⊢
  exact wX4_ofGroup ⟨B.exec, B.bytes, hml, findClass_of_methodNamed B.named, fun w hw => atoms_spec (ws := .code yX4_ofGroup cX4_ofGroup 3 (some .int) :: wsL_law) B.pre w (List.mem_cons_of_mem _ hw), B.returns, B.notSynchronized, hK, hDis, hN⟩ out p0 p1 s.heap [] ls ⟨hP, va_S.rf⟩ hl h
theorem kX4_ofGroup (Cx : ms_C p s m args meth c D cA a shX cc nL own ret) {σ : Mm} {H : Heap} {locs : List Loc} (hI : ms_I D cA a shX s σ H locs) {p0 : Int32} {p1 : Int32} {out : Int32} (h : fX4_ofGroup σ p0 p1 = some out) (hl : Cond.methodLink own idx yX4_ofGroup ∈ wsL_law) (hf : 0 + 1 ≤ R.frames) (hlo : 8 + (3 + 11) + 0 ≤ R.locals) (hsz : ls.size = nL) (hW : (rest.map fun v => v.category).sum ≤ 8) (hd : decode cc pc = .ok (.invokevirtual idx, 3)) (kk : ∀ (H1 : Heap) (locs1 : List Loc), ms_I D cA a shX s σ H1 locs1 → W p l e R s m args below meth c H1 locs1 0 0 Q (F0 m (pc + 3) ls (.int out :: rest))) : W p l e R s m args below meth c H locs 0 0 Q (F0 m pc ls (.int p1 :: .int p0 :: .ref (a 1) :: rest)) :=
  ms_ci hI (ms_runV (av := [.int p0, .int p1]) Cx hI 1 shX_1 (ci := 4) rfl rfl yvX4_ofGroup (metX4_ofGroup l Cx.2.2.2.2.2.2.2.2.1  h) ⟨rfl, rfl⟩ hl ⟨hf, hlo⟩ rfl hsz rfl hW ⟨Nat.zero_le _, Nat.zero_le _⟩ hd) kk
/-! X4 allPeople ()I -/
theorem dX4_allPeople_0 : decode cX4_allPeople 0 = .ok (.iconst 0, 1) := by decide +kernel
theorem dX4_allPeople_1 : decode cX4_allPeople 1 = .ok (.istore_n 1, 1) := by decide +kernel
theorem dX4_allPeople_2 : decode cX4_allPeople 2 = .ok (.iconst 0, 1) := by decide +kernel
theorem dX4_allPeople_3 : decode cX4_allPeople 3 = .ok (.istore_n 2, 1) := by decide +kernel
theorem dX4_allPeople_4 : decode cX4_allPeople 4 = .ok (.iload_n 2, 1) := by decide +kernel
theorem dX4_allPeople_5 : decode cX4_allPeople 5 = .ok (.aload_n 0, 1) := by decide +kernel
theorem dX4_allPeople_6 : decode cX4_allPeople 6 = .ok (.getfield 28, 3) := by decide +kernel
theorem dX4_allPeople_9 : decode cX4_allPeople 9 = .ok (.if_icmp .ge 18, 3) := by decide +kernel
theorem dX4_allPeople_12 : decode cX4_allPeople 12 = .ok (.iload_n 1, 1) := by decide +kernel
theorem dX4_allPeople_13 : decode cX4_allPeople 13 = .ok (.aload_n 0, 1) := by decide +kernel
theorem dX4_allPeople_14 : decode cX4_allPeople 14 = .ok (.iload_n 2, 1) := by decide +kernel
theorem dX4_allPeople_15 : decode cX4_allPeople 15 = .ok (.iconst 0, 1) := by decide +kernel
theorem dX4_allPeople_16 : decode cX4_allPeople 16 = .ok (.invokevirtual 44, 3) := by decide +kernel
theorem dX4_allPeople_19 : decode cX4_allPeople 19 = .ok (.iadd, 1) := by decide +kernel
theorem dX4_allPeople_20 : decode cX4_allPeople 20 = .ok (.istore_n 1, 1) := by decide +kernel
theorem dX4_allPeople_21 : decode cX4_allPeople 21 = .ok (.iinc 2 1, 3) := by decide +kernel
theorem dX4_allPeople_24 : decode cX4_allPeople 24 = .ok (.goto (-20), 3) := by decide +kernel
theorem dX4_allPeople_27 : decode cX4_allPeople 27 = .ok (.iload_n 1, 1) := by decide +kernel
theorem dX4_allPeople_28 : decode cX4_allPeople 28 = .ok (.ireturn, 1) := by decide +kernel
abbrev rmX4_allPeople : Room := { frames := 1, cells := 0, slots := 0, locals := 22 }
set_option maxHeartbeats 4000000 in
set_option maxRecDepth 100000 in
theorem wX4_allPeople_4 (Cx : ms_C p s m args meth c D cA a shX cX4_allPeople 3 RX4 (some .int)) (out : Int32) {σ : Mm} : ∀ (n : Nat), ∀ (y1 : Int32) (y2 : Int32) , ∀ (H : Heap) (locs : List Loc) (ls : Array Slot), ms_I D cA a shX s σ H locs → lv_has ls 3 [(0, .ref (a 1)), (1, .int y1), (2, .int y2)] → fX4_allPeople_4 σ n y1 y2 = some out → W p l e rmX4_allPeople s m args below meth c H locs 0 0 (MQ below (ms_Qi D cA a shX out σ) args s 0 0 (ms_A a shX.length)) (F0 m 4 ls []) := by
  have hx := Cx.1
  have hb := Cx.2.1
  intro n
  induction n with
  | zero =>
    intro y1 y2 H locs ls hI hl h
    exact nomatch (show none = some out from h)
  | succ n ih =>
    intro y1 y2 H locs ls hI hl h
    rw [fX4_allPeople_4] at h
    refine lv_iload_n hx hb dX4_allPeople_4 rfl (lv_at hl 2 rfl) ?_
    refine lv_aload_n hx hb dX4_allPeople_5 rfl (lv_at hl 0 rfl) ?_
    refine gi_X4_5 Cx hI wd_3_12 dX4_allPeople_6 ?_
    refine lv_icmp_ge (tgt := 27) hx hb dX4_allPeople_9 rfl (fun hc => ?_) (fun hc => ?_)
    · have h := ms_ifT hc h
      refine lv_iload_n hx hb dX4_allPeople_27 rfl (lv_at hl 1 rfl) ?_
      exact ms_ri Cx hI (Option.some.inj h) rfl dX4_allPeople_28
    · have h := ms_ifF hc h
      refine lv_iload_n hx hb dX4_allPeople_12 rfl (lv_at hl 1 rfl) ?_
      refine lv_aload_n hx hb dX4_allPeople_13 rfl (lv_at hl 0 rfl) ?_
      refine lv_iload_n hx hb dX4_allPeople_14 rfl (lv_at hl 2 rfl) ?_
      refine lv_iconst (v := 0) hx hb dX4_allPeople_15 rfl ?_
      obtain ⟨r2, hc1, h⟩ := ms_bdE h
      refine kX4_ofGroup Cx hI hc1 wd_40_14 (Nat.le_of_ble_eq_true rfl) (Nat.le_of_ble_eq_true rfl) hl.1 (Nat.le_of_ble_eq_true rfl) dX4_allPeople_16 (fun H locs hI => ?_)
      refine lv_iadd hx hb dX4_allPeople_19 ?_
      refine lv_istore_n (lv' := [(1, .int (y1 + r2)), (0, .ref (a 1)), (2, .int y2)]) hx hb dX4_allPeople_20 rfl hl (by decide) rfl (fun ls hl => ?_)
      refine lv_iinc (v := y2 + 1) (lv' := [(2, .int (y2 + 1)), (1, .int (y1 + r2)), (0, .ref (a 1))]) hx hb dX4_allPeople_21 hl (k := 2) rfl rfl (by decide) rfl (fun ls hl => ?_)
      refine lv_goto (tgt := 4) hx hb dX4_allPeople_24 rfl ?_
      exact ih (y1 + r2) (y2 + 1) _ _ _ hI (lv_sub hl [2, 1, 0] rfl) h
set_option maxHeartbeats 4000000 in
set_option maxRecDepth 100000 in
theorem wX4_allPeople (Cx : ms_C p s m args meth c D cA a shX cX4_allPeople 3 RX4 (some .int)) (out : Int32) {σ : Mm} : ∀ (H : Heap) (locs : List Loc) (ls : Array Slot), ms_I D cA a shX s σ H locs → lv_has ls 3 [(0, .ref (a 1))] → fX4_allPeople σ = some out → W p l e rmX4_allPeople s m args below meth c H locs 0 0 (MQ below (ms_Qi D cA a shX out σ) args s 0 0 (ms_A a shX.length)) (F0 m 0 ls []) := by
  have hx := Cx.1
  have hb := Cx.2.1
  intro H locs ls hI hl h
  unfold fX4_allPeople at h
  refine lv_iconst (v := 0) hx hb dX4_allPeople_0 rfl ?_
  refine lv_istore_n (lv' := [(1, .int 0), (0, .ref (a 1))]) hx hb dX4_allPeople_1 rfl hl (by decide) rfl (fun ls hl => ?_)
  refine lv_iconst (v := 0) hx hb dX4_allPeople_2 rfl ?_
  refine lv_istore_n (lv' := [(2, .int 0), (1, .int 0), (0, .ref (a 1))]) hx hb dX4_allPeople_3 rfl hl (by decide) rfl (fun ls hl => ?_)
  exact wX4_allPeople_4 Cx out  ms_fu 0 0 _ _ _ hI (lv_sub hl [2, 1, 0] rfl) h
theorem yvX4_allPeople : ms_YV yX4_allPeople RX4 cX4_allPeople 3 (some .int) 0 := ⟨wd_40_11, wd_40_12, wd_1_14, wd_40_13, rfl, by decide +kernel, by decide +kernel, by decide +kernel⟩
set_option maxHeartbeats 4000000 in
theorem metX4_allPeople (l : Launch) (hDis : ms_Dis a shX.length) {σ : Mm} {out : Int32} (h : fX4_allPeople σ = some out) : Met l yX4_allPeople (.code yX4_allPeople cX4_allPeople 3 (some .int) :: wsL_law) rmX4_allPeople (ms_Pc D cA a shX [.ref (a 1)] σ) (ms_Qi D cA a shX out σ) 0 0 (ms_A a shX.length) := by
  refine Met.ofW (cc := cX4_allPeople) (maxL := 3) (ret := (some .int)) (by decide) rfl ?_
  intro p e s m args below meth c s₁ B hml hv
  obtain ⟨rfl, hK, hN, hP⟩ := hv
  have hl := lv_entry ([.ref (a 1)]) (n := 3) (Nat.le_of_ble_eq_true rfl)
  rw [lg_entry_eq]
  generalize (lg_sl ([.ref (a 1)]) ++ List.replicate (3 - (lg_sl ([.ref (a 1)])).length) Slot.unset).toArray = ls at hl ⊢
  exact wX4_allPeople ⟨B.exec, B.bytes, hml, findClass_of_methodNamed B.named, fun w hw => atoms_spec (ws := .code yX4_allPeople cX4_allPeople 3 (some .int) :: wsL_law) B.pre w (List.mem_cons_of_mem _ hw), B.returns, B.notSynchronized, hK, hDis, hN⟩ out  s.heap [] ls ⟨hP, va_S.rf⟩ hl h
theorem kX4_allPeople (Cx : ms_C p s m args meth c D cA a shX cc nL own ret) {σ : Mm} {H : Heap} {locs : List Loc} (hI : ms_I D cA a shX s σ H locs) {out : Int32} (h : fX4_allPeople σ = some out) (hl : Cond.methodLink own idx yX4_allPeople ∈ wsL_law) (hf : 1 + 1 ≤ R.frames) (hlo : 8 + (3 + 11) + 22 ≤ R.locals) (hsz : ls.size = nL) (hW : (rest.map fun v => v.category).sum ≤ 8) (hd : decode cc pc = .ok (.invokevirtual idx, 3)) (kk : ∀ (H1 : Heap) (locs1 : List Loc), ms_I D cA a shX s σ H1 locs1 → W p l e R s m args below meth c H1 locs1 0 0 Q (F0 m (pc + 3) ls (.int out :: rest))) : W p l e R s m args below meth c H locs 0 0 Q (F0 m pc ls (.ref (a 1) :: rest)) :=
  ms_ci hI (ms_runV (av := []) Cx hI 1 shX_1 (ci := 4) rfl rfl yvX4_allPeople (metX4_allPeople l Cx.2.2.2.2.2.2.2.2.1  h) ⟨rfl, rfl⟩ hl ⟨hf, hlo⟩ rfl hsz rfl hW ⟨Nat.zero_le _, Nat.zero_le _⟩ hd) kk
/-! X4 forgetParts ()V -/
theorem dX4_forgetParts_0 : decode cX4_forgetParts 0 = .ok (.aload_n 0, 1) := by decide +kernel
theorem dX4_forgetParts_1 : decode cX4_forgetParts 1 = .ok (.iconst 0, 1) := by decide +kernel
theorem dX4_forgetParts_2 : decode cX4_forgetParts 2 = .ok (.putfield 25, 3) := by decide +kernel
theorem dX4_forgetParts_5 : decode cX4_forgetParts 5 = .ok (.aload_n 0, 1) := by decide +kernel
theorem dX4_forgetParts_6 : decode cX4_forgetParts 6 = .ok (.iconst 0, 1) := by decide +kernel
theorem dX4_forgetParts_7 : decode cX4_forgetParts 7 = .ok (.putfield 28, 3) := by decide +kernel
theorem dX4_forgetParts_10 : decode cX4_forgetParts 10 = .ok (.aload_n 0, 1) := by decide +kernel
theorem dX4_forgetParts_11 : decode cX4_forgetParts 11 = .ok (.iconst 0, 1) := by decide +kernel
theorem dX4_forgetParts_12 : decode cX4_forgetParts 12 = .ok (.putfield 31, 3) := by decide +kernel
theorem dX4_forgetParts_15 : decode cX4_forgetParts 15 = .ok (.return_, 1) := by decide +kernel
abbrev rmX4_forgetParts : Room := { frames := 0, cells := 0, slots := 0, locals := 0 }
set_option maxHeartbeats 4000000 in
set_option maxRecDepth 100000 in
theorem wX4_forgetParts (Cx : ms_C p s m args meth c D cA a shX cX4_forgetParts 1 RX4 none) (out : Mm) : ∀ (σ : Mm) (H : Heap) (locs : List Loc) (ls : Array Slot), ms_I D cA a shX s σ H locs → lv_has ls 1 [(0, .ref (a 1))] → fX4_forgetParts σ = some out → W p l e rmX4_forgetParts s m args below meth c H locs 0 0 (MQ below (ms_Qv D cA a shX out) args s 0 0 (ms_A a shX.length)) (F0 m 0 ls []) := by
  have hx := Cx.1
  have hb := Cx.2.1
  intro σ H locs ls hI hl h
  unfold fX4_forgetParts at h
  refine lv_aload_n hx hb dX4_forgetParts_0 rfl (lv_at hl 0 rfl) ?_
  refine lv_iconst (v := 0) hx hb dX4_forgetParts_1 rfl ?_
  refine pi_X4_4 Cx hI wd_3_11 dX4_forgetParts_2 (fun H locs σ1 eσ1 hI => ?_)
  have h := ms_ltE eσ1 h
  refine lv_aload_n hx hb dX4_forgetParts_5 rfl (lv_at hl 0 rfl) ?_
  refine lv_iconst (v := 0) hx hb dX4_forgetParts_6 rfl ?_
  refine pi_X4_5 Cx hI wd_3_12 dX4_forgetParts_7 (fun H locs σ2 eσ2 hI => ?_)
  have h := ms_ltE eσ2 h
  refine lv_aload_n hx hb dX4_forgetParts_10 rfl (lv_at hl 0 rfl) ?_
  refine lv_iconst (v := 0) hx hb dX4_forgetParts_11 rfl ?_
  refine pi_X4_6 Cx hI wd_3_13 dX4_forgetParts_12 (fun H locs σ3 eσ3 hI => ?_)
  have h := ms_ltE eσ3 h
  exact ms_rv Cx hI (Option.some.inj h) dX4_forgetParts_15
theorem yvX4_forgetParts : ms_YV yX4_forgetParts RX4 cX4_forgetParts 1 none 0 := ⟨wd_8_11, wd_8_12, wd_1_14, wd_8_13, rfl, by decide +kernel, by decide +kernel, by decide +kernel⟩
set_option maxHeartbeats 4000000 in
theorem metX4_forgetParts (l : Launch) (hDis : ms_Dis a shX.length) {σ : Mm} {out : Mm} (h : fX4_forgetParts σ = some out) : Met l yX4_forgetParts (.code yX4_forgetParts cX4_forgetParts 1 none :: wsL_law) rmX4_forgetParts (ms_Pc D cA a shX [.ref (a 1)] σ) (ms_Qv D cA a shX out) 0 0 (ms_A a shX.length) := by
  refine Met.ofW (cc := cX4_forgetParts) (maxL := 1) (ret := none) (by decide) rfl ?_
  intro p e s m args below meth c s₁ B hml hv
  obtain ⟨rfl, hK, hN, hP⟩ := hv
  have hl := lv_entry ([.ref (a 1)]) (n := 1) (Nat.le_of_ble_eq_true rfl)
  rw [lg_entry_eq]
  generalize (lg_sl ([.ref (a 1)]) ++ List.replicate (1 - (lg_sl ([.ref (a 1)])).length) Slot.unset).toArray = ls at hl ⊢
  exact wX4_forgetParts ⟨B.exec, B.bytes, hml, findClass_of_methodNamed B.named, fun w hw => atoms_spec (ws := .code yX4_forgetParts cX4_forgetParts 1 none :: wsL_law) B.pre w (List.mem_cons_of_mem _ hw), B.returns, B.notSynchronized, hK, hDis, hN⟩ out σ s.heap [] ls ⟨hP, va_S.rf⟩ hl h
theorem kX4_forgetParts (Cx : ms_C p s m args meth c D cA a shX cc nL own ret) {σ : Mm} {H : Heap} {locs : List Loc} (hI : ms_I D cA a shX s σ H locs) {out : Mm} (h : fX4_forgetParts σ = some out) (hl : Cond.methodLink own idx yX4_forgetParts ∈ wsL_law) (hf : 0 + 1 ≤ R.frames) (hlo : 8 + (1 + 11) + 0 ≤ R.locals) (hsz : ls.size = nL) (hW : (rest.map fun v => v.category).sum ≤ 8) (hd : decode cc pc = .ok (.invokevirtual idx, 3)) (kk : ∀ (H1 : Heap) (locs1 : List Loc), ms_I D cA a shX s out H1 locs1 → W p l e R s m args below meth c H1 locs1 0 0 Q (F0 m (pc + 3) ls (rest))) : W p l e R s m args below meth c H locs 0 0 Q (F0 m pc ls (.ref (a 1) :: rest)) :=
  ms_cv hI (ms_runV (av := []) Cx hI 1 shX_1 (ci := 4) rfl rfl yvX4_forgetParts (metX4_forgetParts l Cx.2.2.2.2.2.2.2.2.1  h) ⟨rfl, rfl⟩ hl ⟨hf, hlo⟩ rfl hsz rfl hW ⟨Nat.zero_le _, Nat.zero_le _⟩ hd) kk
/-! X4 next ()I -/
theorem dX4_next_0 : decode cX4_next 0 = .ok (.aload_n 0, 1) := by decide +kernel
theorem dX4_next_1 : decode cX4_next 1 = .ok (.getfield 37, 3) := by decide +kernel
theorem dX4_next_4 : decode cX4_next 4 = .ok (.aload_n 0, 1) := by decide +kernel
theorem dX4_next_5 : decode cX4_next 5 = .ok (.getfield 21, 3) := by decide +kernel
theorem dX4_next_8 : decode cX4_next 8 = .ok (.if_icmp .ge 15, 3) := by decide +kernel
theorem dX4_next_11 : decode cX4_next 11 = .ok (.aload_n 0, 1) := by decide +kernel
theorem dX4_next_12 : decode cX4_next 12 = .ok (.getfield 9, 3) := by decide +kernel
theorem dX4_next_15 : decode cX4_next 15 = .ok (.aload_n 0, 1) := by decide +kernel
theorem dX4_next_16 : decode cX4_next 16 = .ok (.getfield 37, 3) := by decide +kernel
theorem dX4_next_19 : decode cX4_next 19 = .ok (.iaload, 1) := by decide +kernel
theorem dX4_next_20 : decode cX4_next 20 = .ok (.goto 4, 3) := by decide +kernel
theorem dX4_next_23 : decode cX4_next 23 = .ok (.iconst (-1), 1) := by decide +kernel
theorem dX4_next_24 : decode cX4_next 24 = .ok (.ireturn, 1) := by decide +kernel
abbrev rmX4_next : Room := { frames := 0, cells := 0, slots := 0, locals := 0 }
set_option maxHeartbeats 4000000 in
set_option maxRecDepth 100000 in
theorem wX4_next (Cx : ms_C p s m args meth c D cA a shX cX4_next 1 RX4 (some .int)) (out : Int32) {σ : Mm} : ∀ (H : Heap) (locs : List Loc) (ls : Array Slot), ms_I D cA a shX s σ H locs → lv_has ls 1 [(0, .ref (a 1))] → fX4_next σ = some out → W p l e rmX4_next s m args below meth c H locs 0 0 (MQ below (ms_Qi D cA a shX out σ) args s 0 0 (ms_A a shX.length)) (F0 m 0 ls []) := by
  have hx := Cx.1
  have hb := Cx.2.1
  intro H locs ls hI hl h
  unfold fX4_next at h
  refine lv_aload_n hx hb dX4_next_0 rfl (lv_at hl 0 rfl) ?_
  refine gi_X4_8 Cx hI wd_3_15 dX4_next_1 ?_
  refine lv_aload_n hx hb dX4_next_4 rfl (lv_at hl 0 rfl) ?_
  refine gi_X4_3 Cx hI wd_3_10 dX4_next_5 ?_
  refine lv_icmp_ge (tgt := 23) hx hb dX4_next_8 rfl (fun hc => ?_) (fun hc => ?_)
  · have h := ms_ifT hc h
    refine lv_iconst (v := -1) hx hb dX4_next_23 rfl ?_
    exact ms_ri Cx hI (Option.some.inj h) rfl dX4_next_24
  · have h := ms_ifF hc h
    refine lv_aload_n hx hb dX4_next_11 rfl (lv_at hl 0 rfl) ?_
    refine gr_X4_0 Cx hI wd_3_7 dX4_next_12 ?_
    refine lv_aload_n hx hb dX4_next_15 rfl (lv_at hl 0 rfl) ?_
    refine gi_X4_8 Cx hI wd_3_15 dX4_next_16 ?_
    obtain ⟨hg, h⟩ := ms_gE h
    refine ms_ld Cx hI 2 shX_2 hg dX4_next_19 ?_
    refine lv_goto (tgt := 24) hx hb dX4_next_20 rfl ?_
    exact ms_ri Cx hI (Option.some.inj h) rfl dX4_next_24
theorem yvX4_next : ms_YV yX4_next RX4 cX4_next 1 (some .int) 0 := ⟨wd_8_19, wd_8_20, wd_1_14, wd_8_21, rfl, by decide +kernel, by decide +kernel, by decide +kernel⟩
set_option maxHeartbeats 4000000 in
theorem metX4_next (l : Launch) (hDis : ms_Dis a shX.length) {σ : Mm} {out : Int32} (h : fX4_next σ = some out) : Met l yX4_next (.code yX4_next cX4_next 1 (some .int) :: wsL_law) rmX4_next (ms_Pc D cA a shX [.ref (a 1)] σ) (ms_Qi D cA a shX out σ) 0 0 (ms_A a shX.length) := by
  refine Met.ofW (cc := cX4_next) (maxL := 1) (ret := (some .int)) (by decide) rfl ?_
  intro p e s m args below meth c s₁ B hml hv
  obtain ⟨rfl, hK, hN, hP⟩ := hv
  have hl := lv_entry ([.ref (a 1)]) (n := 1) (Nat.le_of_ble_eq_true rfl)
  rw [lg_entry_eq]
  generalize (lg_sl ([.ref (a 1)]) ++ List.replicate (1 - (lg_sl ([.ref (a 1)])).length) Slot.unset).toArray = ls at hl ⊢
  exact wX4_next ⟨B.exec, B.bytes, hml, findClass_of_methodNamed B.named, fun w hw => atoms_spec (ws := .code yX4_next cX4_next 1 (some .int) :: wsL_law) B.pre w (List.mem_cons_of_mem _ hw), B.returns, B.notSynchronized, hK, hDis, hN⟩ out  s.heap [] ls ⟨hP, va_S.rf⟩ hl h
theorem kX4_next (Cx : ms_C p s m args meth c D cA a shX cc nL own ret) {σ : Mm} {H : Heap} {locs : List Loc} (hI : ms_I D cA a shX s σ H locs) {out : Int32} (h : fX4_next σ = some out) (hl : Cond.methodLink own idx yX4_next ∈ wsL_law) (hf : 0 + 1 ≤ R.frames) (hlo : 8 + (1 + 11) + 0 ≤ R.locals) (hsz : ls.size = nL) (hW : (rest.map fun v => v.category).sum ≤ 8) (hd : decode cc pc = .ok (.invokevirtual idx, 3)) (kk : ∀ (H1 : Heap) (locs1 : List Loc), ms_I D cA a shX s σ H1 locs1 → W p l e R s m args below meth c H1 locs1 0 0 Q (F0 m (pc + 3) ls (.int out :: rest))) : W p l e R s m args below meth c H locs 0 0 Q (F0 m pc ls (.ref (a 1) :: rest)) :=
  ms_ci hI (ms_runV (av := []) Cx hI 1 shX_1 (ci := 4) rfl rfl yvX4_next (metX4_next l Cx.2.2.2.2.2.2.2.2.1  h) ⟨rfl, rfl⟩ hl ⟨hf, hlo⟩ rfl hsz rfl hW ⟨Nat.zero_le _, Nat.zero_le _⟩ hd) kk
/-! X7 within (III)Z -/
theorem dX7_within_0 : decode cX7_within 0 = .ok (.iload_n 0, 1) := by decide +kernel
theorem dX7_within_1 : decode cX7_within 1 = .ok (.iload_n 1, 1) := by decide +kernel
theorem dX7_within_2 : decode cX7_within 2 = .ok (.if_icmp .lt 12, 3) := by decide +kernel
theorem dX7_within_5 : decode cX7_within 5 = .ok (.iload_n 0, 1) := by decide +kernel
theorem dX7_within_6 : decode cX7_within 6 = .ok (.iload_n 2, 1) := by decide +kernel
theorem dX7_within_7 : decode cX7_within 7 = .ok (.if_icmp .gt 7, 3) := by decide +kernel
theorem dX7_within_10 : decode cX7_within 10 = .ok (.iconst 1, 1) := by decide +kernel
theorem dX7_within_11 : decode cX7_within 11 = .ok (.goto 4, 3) := by decide +kernel
theorem dX7_within_14 : decode cX7_within 14 = .ok (.iconst 0, 1) := by decide +kernel
theorem dX7_within_15 : decode cX7_within 15 = .ok (.ireturn, 1) := by decide +kernel
abbrev rmX7_within : Room := { frames := 0, cells := 0, slots := 0, locals := 0 }
set_option maxHeartbeats 4000000 in
set_option maxRecDepth 100000 in
theorem wX7_within (Cx : ms_C p s m args meth c D cA a shX cX7_within 3 RX7 (some .boolean)) (out : Int32) {σ : Mm} : ∀ (p0 : Int32) (p1 : Int32) (p2 : Int32) , ∀ (H : Heap) (locs : List Loc) (ls : Array Slot), ms_I D cA a shX s σ H locs → lv_has ls 3 [(0, .int p0), (1, .int p1), (2, .int p2)] → fX7_within p0 p1 p2 = some out → W p l e rmX7_within s m args below meth c H locs 0 0 (MQ below (ms_Qi D cA a shX out σ) args s 0 0 (ms_A a shX.length)) (F0 m 0 ls []) := by
  have hx := Cx.1
  have hb := Cx.2.1
  intro p0 p1 p2 H locs ls hI hl h
  unfold fX7_within at h
  refine lv_iload_n hx hb dX7_within_0 rfl (lv_at hl 0 rfl) ?_
  refine lv_iload_n hx hb dX7_within_1 rfl (lv_at hl 1 rfl) ?_
  refine lv_icmp_lt (tgt := 14) hx hb dX7_within_2 rfl (fun hc => ?_) (fun hc => ?_)
  · have h := ms_ifT hc h
    refine lv_iconst (v := 0) hx hb dX7_within_14 rfl ?_
    exact ms_rz Cx hI (Or.inl rfl) (Option.some.inj h) rfl dX7_within_15
  · have h := ms_ifF hc h
    refine lv_iload_n hx hb dX7_within_5 rfl (lv_at hl 0 rfl) ?_
    refine lv_iload_n hx hb dX7_within_6 rfl (lv_at hl 2 rfl) ?_
    refine lv_icmp_gt (tgt := 14) hx hb dX7_within_7 rfl (fun hc => ?_) (fun hc => ?_)
    · have h := ms_ifT hc h
      refine lv_iconst (v := 0) hx hb dX7_within_14 rfl ?_
      exact ms_rz Cx hI (Or.inl rfl) (Option.some.inj h) rfl dX7_within_15
    · have h := ms_ifF hc h
      refine lv_iconst (v := 1) hx hb dX7_within_10 rfl ?_
      refine lv_goto (tgt := 15) hx hb dX7_within_11 rfl ?_
      exact ms_rz Cx hI (Or.inr rfl) (Option.some.inj h) rfl dX7_within_15
theorem yvX7_within : ms_YS yX7_within cX7_within 3 (some .boolean) 3 := ⟨wd_8_0, wd_1_2, wd_8_1, by decide +kernel, by decide +kernel, by decide +kernel⟩
set_option maxHeartbeats 4000000 in
theorem metX7_within (l : Launch) (hDis : ms_Dis a shX.length) {σ : Mm} {p0 : Int32} {p1 : Int32} {p2 : Int32} {out : Int32} (h : fX7_within p0 p1 p2 = some out) : Met l yX7_within (.code yX7_within cX7_within 3 (some .boolean) :: wsL_law) rmX7_within (ms_Pc D cA a shX [.int p0, .int p1, .int p2] σ) (ms_Qi D cA a shX out σ) 0 0 (ms_A a shX.length) := by
  refine Met.ofW (cc := cX7_within) (maxL := 3) (ret := (some .boolean)) (by decide) rfl ?_
  intro p e s m args below meth c s₁ B hml hv
  obtain ⟨rfl, hK, hN, hP⟩ := hv
  have hl := lv_entry ([.int p0, .int p1, .int p2]) (n := 3) (Nat.le_of_ble_eq_true rfl)
  rw [lg_entry_eq]
  generalize (lg_sl ([.int p0, .int p1, .int p2]) ++ List.replicate (3 - (lg_sl ([.int p0, .int p1, .int p2])).length) Slot.unset).toArray = ls at hl ⊢
  exact wX7_within ⟨B.exec, B.bytes, hml, findClass_of_methodNamed B.named, fun w hw => atoms_spec (ws := .code yX7_within cX7_within 3 (some .boolean) :: wsL_law) B.pre w (List.mem_cons_of_mem _ hw), B.returns, B.notSynchronized, hK, hDis, hN⟩ out p0 p1 p2 s.heap [] ls ⟨hP, va_S.rf⟩ hl h
theorem kX7_within (Cx : ms_C p s m args meth c D cA a shX cc nL own ret) {σ : Mm} {H : Heap} {locs : List Loc} (hI : ms_I D cA a shX s σ H locs) {p0 : Int32} {p1 : Int32} {p2 : Int32} {out : Int32} (h : fX7_within p0 p1 p2 = some out) (hl : Cond.methodLink own idx yX7_within ∈ wsL_law ∨ (own, idx, yX7_within) ∈ ms_nq) (hf : 0 + 1 ≤ R.frames) (hlo : 8 + (3 + 11) + 0 ≤ R.locals) (hsz : ls.size = nL) (hW : (rest.map fun v => v.category).sum ≤ 8) (hd : decode cc pc = .ok (.invokestatic idx, 3)) (kk : ∀ (H1 : Heap) (locs1 : List Loc), ms_I D cA a shX s σ H1 locs1 → W p l e R s m args below meth c H1 locs1 0 0 Q (F0 m (pc + 3) ls (.int out :: rest))) : W p l e R s m args below meth c H locs 0 0 Q (F0 m pc ls (.int p2 :: .int p1 :: .int p0 :: rest)) :=
  ms_ci hI (ms_runS (av := [.int p0, .int p1, .int p2]) Cx hI yvX7_within (metX7_within l Cx.2.2.2.2.2.2.2.2.1  h) ⟨rfl, rfl⟩ hl ⟨hf, hlo⟩ rfl hsz rfl hW ⟨Nat.zero_le _, Nat.zero_le _⟩ hd) kk
/-! X4 figure ()I -/
theorem dX4_figure_0 : decode cX4_figure 0 = .ok (.aload_n 0, 1) := by decide +kernel
theorem dX4_figure_1 : decode cX4_figure 1 = .ok (.getfield 34, 3) := by decide +kernel
theorem dX4_figure_4 : decode cX4_figure 4 = .ok (.iconst (-1), 1) := by decide +kernel
theorem dX4_figure_5 : decode cX4_figure 5 = .ok (.if_icmp .eq 5, 3) := by decide +kernel
theorem dX4_figure_8 : decode cX4_figure 8 = .ok (.iconst 0, 1) := by decide +kernel
theorem dX4_figure_9 : decode cX4_figure 9 = .ok (.ireturn, 1) := by decide +kernel
theorem dX4_figure_10 : decode cX4_figure 10 = .ok (.aload_n 0, 1) := by decide +kernel
theorem dX4_figure_11 : decode cX4_figure 11 = .ok (.invokevirtual 57, 3) := by decide +kernel
theorem dX4_figure_14 : decode cX4_figure 14 = .ok (.istore_n 1, 1) := by decide +kernel
theorem dX4_figure_15 : decode cX4_figure 15 = .ok (.iload_n 1, 1) := by decide +kernel
theorem dX4_figure_16 : decode cX4_figure 16 = .ok (.bipush 48, 2) := by decide +kernel
theorem dX4_figure_18 : decode cX4_figure 18 = .ok (.bipush 57, 2) := by decide +kernel
theorem dX4_figure_20 : decode cX4_figure 20 = .ok (.invokestatic 88, 3) := by decide +kernel
theorem dX4_figure_23 : decode cX4_figure 23 = .ok (.ifCond .ne 13, 3) := by decide +kernel
theorem dX4_figure_26 : decode cX4_figure 26 = .ok (.aload_n 0, 1) := by decide +kernel
theorem dX4_figure_27 : decode cX4_figure 27 = .ok (.aload_n 0, 1) := by decide +kernel
theorem dX4_figure_28 : decode cX4_figure 28 = .ok (.getfield 37, 3) := by decide +kernel
theorem dX4_figure_31 : decode cX4_figure 31 = .ok (.putfield 34, 3) := by decide +kernel
theorem dX4_figure_34 : decode cX4_figure 34 = .ok (.iconst 0, 1) := by decide +kernel
theorem dX4_figure_35 : decode cX4_figure 35 = .ok (.ireturn, 1) := by decide +kernel
theorem dX4_figure_36 : decode cX4_figure 36 = .ok (.aload_n 0, 1) := by decide +kernel
theorem dX4_figure_37 : decode cX4_figure 37 = .ok (.dup, 1) := by decide +kernel
theorem dX4_figure_38 : decode cX4_figure 38 = .ok (.getfield 37, 3) := by decide +kernel
theorem dX4_figure_41 : decode cX4_figure 41 = .ok (.iconst 1, 1) := by decide +kernel
theorem dX4_figure_42 : decode cX4_figure 42 = .ok (.iadd, 1) := by decide +kernel
theorem dX4_figure_43 : decode cX4_figure 43 = .ok (.putfield 37, 3) := by decide +kernel
theorem dX4_figure_46 : decode cX4_figure 46 = .ok (.iload_n 1, 1) := by decide +kernel
theorem dX4_figure_47 : decode cX4_figure 47 = .ok (.bipush 48, 2) := by decide +kernel
theorem dX4_figure_49 : decode cX4_figure 49 = .ok (.isub, 1) := by decide +kernel
theorem dX4_figure_50 : decode cX4_figure 50 = .ok (.ireturn, 1) := by decide +kernel
abbrev rmX4_figure : Room := { frames := 1, cells := 0, slots := 0, locals := 22 }
set_option maxHeartbeats 4000000 in
set_option maxRecDepth 100000 in
theorem wX4_figure (Cx : ms_C p s m args meth c D cA a shX cX4_figure 2 RX4 (some .int)) (out : Int32 × Mm) : ∀ (σ : Mm) (H : Heap) (locs : List Loc) (ls : Array Slot), ms_I D cA a shX s σ H locs → lv_has ls 2 [(0, .ref (a 1))] → fX4_figure σ = some out → W p l e rmX4_figure s m args below meth c H locs 0 0 (MQ below (ms_Qi D cA a shX out.1 out.2) args s 0 0 (ms_A a shX.length)) (F0 m 0 ls []) := by
  have hx := Cx.1
  have hb := Cx.2.1
  intro σ H locs ls hI hl h
  unfold fX4_figure at h
  refine lv_aload_n hx hb dX4_figure_0 rfl (lv_at hl 0 rfl) ?_
  refine gi_X4_7 Cx hI wd_3_14 dX4_figure_1 ?_
  refine lv_iconst (v := -1) hx hb dX4_figure_4 rfl ?_
  refine lv_icmp_eq (tgt := 10) hx hb dX4_figure_5 rfl (fun hc => ?_) (fun hc => ?_)
  · have h := ms_ifT hc h
    refine lv_aload_n hx hb dX4_figure_10 rfl (lv_at hl 0 rfl) ?_
    obtain ⟨r2, hc1, h⟩ := ms_bdE h
    refine kX4_next Cx hI hc1 wd_8_18 (Nat.le_of_ble_eq_true rfl) (Nat.le_of_ble_eq_true rfl) hl.1 (Nat.le_of_ble_eq_true rfl) dX4_figure_11 (fun H locs hI => ?_)
    refine lv_istore_n (lv' := [(1, .int r2), (0, .ref (a 1))]) hx hb dX4_figure_14 rfl hl (by decide) rfl (fun ls hl => ?_)
    refine lv_iload_n hx hb dX4_figure_15 rfl (lv_at hl 0 rfl) ?_
    refine lv_bipush (v := 48) hx hb dX4_figure_16 rfl ?_
    refine lv_bipush (v := 57) hx hb dX4_figure_18 rfl ?_
    obtain ⟨r4, hc3, h⟩ := ms_bdE h
    refine kX7_within Cx hI hc3 (Or.inr nq_6) (Nat.le_of_ble_eq_true rfl) (Nat.le_of_ble_eq_true rfl) hl.1 (Nat.le_of_ble_eq_true rfl) dX4_figure_20 (fun H locs hI => ?_)
    refine lv_if_ne (tgt := 36) hx hb dX4_figure_23 rfl (fun hc => ?_) (fun hc => ?_)
    · have h := ms_ifF hc h
      refine lv_aload_n hx hb dX4_figure_36 rfl (lv_at hl 1 rfl) ?_
      refine lv_dup hx hb dX4_figure_37 rfl ?_
      refine gi_X4_8 Cx hI wd_3_15 dX4_figure_38 ?_
      refine lv_iconst (v := 1) hx hb dX4_figure_41 rfl ?_
      refine lv_iadd hx hb dX4_figure_42 ?_
      refine pi_X4_8 Cx hI wd_3_15 dX4_figure_43 (fun H locs σ5 eσ5 hI => ?_)
      have h := ms_ltE eσ5 h
      refine lv_iload_n hx hb dX4_figure_46 rfl (lv_at hl 0 rfl) ?_
      refine lv_bipush (v := 48) hx hb dX4_figure_47 rfl ?_
      refine lv_isub hx hb dX4_figure_49 ?_
      exact ms_riw Cx hI h dX4_figure_50
    · have h := ms_ifT hc h
      refine lv_aload_n hx hb dX4_figure_26 rfl (lv_at hl 1 rfl) ?_
      refine lv_aload_n hx hb dX4_figure_27 rfl (lv_at hl 1 rfl) ?_
      refine gi_X4_8 Cx hI wd_3_15 dX4_figure_28 ?_
      refine pi_X4_7 Cx hI wd_3_14 dX4_figure_31 (fun H locs σ6 eσ6 hI => ?_)
      have h := ms_ltE eσ6 h
      refine lv_iconst (v := 0) hx hb dX4_figure_34 rfl ?_
      exact ms_riw Cx hI h dX4_figure_35
  · have h := ms_ifF hc h
    refine lv_iconst (v := 0) hx hb dX4_figure_8 rfl ?_
    exact ms_riw Cx hI h dX4_figure_9
theorem yvX4_figure : ms_YV yX4_figure RX4 cX4_figure 2 (some .int) 0 := ⟨wd_9_7, wd_9_8, wd_1_14, wd_9_9, rfl, by decide +kernel, by decide +kernel, by decide +kernel⟩
set_option maxHeartbeats 4000000 in
theorem metX4_figure (l : Launch) (hDis : ms_Dis a shX.length) {σ : Mm} {out : Int32 × Mm} (h : fX4_figure σ = some out) : Met l yX4_figure (.code yX4_figure cX4_figure 2 (some .int) :: wsL_law) rmX4_figure (ms_Pc D cA a shX [.ref (a 1)] σ) (ms_Qi D cA a shX out.1 out.2) 0 0 (ms_A a shX.length) := by
  refine Met.ofW (cc := cX4_figure) (maxL := 2) (ret := (some .int)) (by decide) rfl ?_
  intro p e s m args below meth c s₁ B hml hv
  obtain ⟨rfl, hK, hN, hP⟩ := hv
  have hl := lv_entry ([.ref (a 1)]) (n := 2) (Nat.le_of_ble_eq_true rfl)
  rw [lg_entry_eq]
  generalize (lg_sl ([.ref (a 1)]) ++ List.replicate (2 - (lg_sl ([.ref (a 1)])).length) Slot.unset).toArray = ls at hl ⊢
  exact wX4_figure ⟨B.exec, B.bytes, hml, findClass_of_methodNamed B.named, fun w hw => atoms_spec (ws := .code yX4_figure cX4_figure 2 (some .int) :: wsL_law) B.pre w (List.mem_cons_of_mem _ hw), B.returns, B.notSynchronized, hK, hDis, hN⟩ out σ s.heap [] ls ⟨hP, va_S.rf⟩ hl h
theorem kX4_figure (Cx : ms_C p s m args meth c D cA a shX cc nL own ret) {σ : Mm} {H : Heap} {locs : List Loc} (hI : ms_I D cA a shX s σ H locs) {out : Int32 × Mm} (h : fX4_figure σ = some out) (hl : Cond.methodLink own idx yX4_figure ∈ wsL_law) (hf : 1 + 1 ≤ R.frames) (hlo : 8 + (2 + 11) + 22 ≤ R.locals) (hsz : ls.size = nL) (hW : (rest.map fun v => v.category).sum ≤ 8) (hd : decode cc pc = .ok (.invokevirtual idx, 3)) (kk : ∀ (H1 : Heap) (locs1 : List Loc), ms_I D cA a shX s out.2 H1 locs1 → W p l e R s m args below meth c H1 locs1 0 0 Q (F0 m (pc + 3) ls (.int out.1 :: rest))) : W p l e R s m args below meth c H locs 0 0 Q (F0 m pc ls (.ref (a 1) :: rest)) :=
  ms_ci hI (ms_runV (av := []) Cx hI 1 shX_1 (ci := 4) rfl rfl yvX4_figure (metX4_figure l Cx.2.2.2.2.2.2.2.2.1  h) ⟨rfl, rfl⟩ hl ⟨hf, hlo⟩ rfl hsz rfl hW ⟨Nat.zero_le _, Nat.zero_le _⟩ hd) kk
/-! X4 twoFigures (II)I -/
theorem dX4_twoFigures_0 : decode cX4_twoFigures 0 = .ok (.aload_n 0, 1) := by decide +kernel
theorem dX4_twoFigures_1 : decode cX4_twoFigures 1 = .ok (.invokevirtual 85, 3) := by decide +kernel
theorem dX4_twoFigures_4 : decode cX4_twoFigures 4 = .ok (.istore_n 3, 1) := by decide +kernel
theorem dX4_twoFigures_5 : decode cX4_twoFigures 5 = .ok (.iload_n 3, 1) := by decide +kernel
theorem dX4_twoFigures_6 : decode cX4_twoFigures 6 = .ok (.bipush 10, 2) := by decide +kernel
theorem dX4_twoFigures_8 : decode cX4_twoFigures 8 = .ok (.imul, 1) := by decide +kernel
theorem dX4_twoFigures_9 : decode cX4_twoFigures 9 = .ok (.aload_n 0, 1) := by decide +kernel
theorem dX4_twoFigures_10 : decode cX4_twoFigures 10 = .ok (.invokevirtual 85, 3) := by decide +kernel
theorem dX4_twoFigures_13 : decode cX4_twoFigures 13 = .ok (.iadd, 1) := by decide +kernel
theorem dX4_twoFigures_14 : decode cX4_twoFigures 14 = .ok (.istore 4, 2) := by decide +kernel
theorem dX4_twoFigures_16 : decode cX4_twoFigures 16 = .ok (.aload_n 0, 1) := by decide +kernel
theorem dX4_twoFigures_17 : decode cX4_twoFigures 17 = .ok (.getfield 34, 3) := by decide +kernel
theorem dX4_twoFigures_20 : decode cX4_twoFigures 20 = .ok (.iconst (-1), 1) := by decide +kernel
theorem dX4_twoFigures_21 : decode cX4_twoFigures 21 = .ok (.if_icmp .ne 23, 3) := by decide +kernel
theorem dX4_twoFigures_24 : decode cX4_twoFigures 24 = .ok (.iload 4, 2) := by decide +kernel
theorem dX4_twoFigures_26 : decode cX4_twoFigures 26 = .ok (.iload_n 1, 1) := by decide +kernel
theorem dX4_twoFigures_27 : decode cX4_twoFigures 27 = .ok (.iload_n 2, 1) := by decide +kernel
theorem dX4_twoFigures_28 : decode cX4_twoFigures 28 = .ok (.invokestatic 88, 3) := by decide +kernel
theorem dX4_twoFigures_31 : decode cX4_twoFigures 31 = .ok (.ifCond .ne 13, 3) := by decide +kernel
theorem dX4_twoFigures_34 : decode cX4_twoFigures 34 = .ok (.aload_n 0, 1) := by decide +kernel
theorem dX4_twoFigures_35 : decode cX4_twoFigures 35 = .ok (.aload_n 0, 1) := by decide +kernel
theorem dX4_twoFigures_36 : decode cX4_twoFigures 36 = .ok (.getfield 37, 3) := by decide +kernel
theorem dX4_twoFigures_39 : decode cX4_twoFigures 39 = .ok (.iconst 2, 1) := by decide +kernel
theorem dX4_twoFigures_40 : decode cX4_twoFigures 40 = .ok (.isub, 1) := by decide +kernel
theorem dX4_twoFigures_41 : decode cX4_twoFigures 41 = .ok (.putfield 34, 3) := by decide +kernel
theorem dX4_twoFigures_44 : decode cX4_twoFigures 44 = .ok (.iload 4, 2) := by decide +kernel
theorem dX4_twoFigures_46 : decode cX4_twoFigures 46 = .ok (.ireturn, 1) := by decide +kernel
abbrev rmX4_twoFigures : Room := { frames := 2, cells := 0, slots := 0, locals := 43 }
set_option maxHeartbeats 4000000 in
set_option maxRecDepth 100000 in
theorem wX4_twoFigures (Cx : ms_C p s m args meth c D cA a shX cX4_twoFigures 5 RX4 (some .int)) (out : Int32 × Mm) : ∀ (p0 : Int32) (p1 : Int32) , ∀ (σ : Mm) (H : Heap) (locs : List Loc) (ls : Array Slot), ms_I D cA a shX s σ H locs → lv_has ls 5 [(0, .ref (a 1)), (1, .int p0), (2, .int p1)] → fX4_twoFigures p0 p1 σ = some out → W p l e rmX4_twoFigures s m args below meth c H locs 0 0 (MQ below (ms_Qi D cA a shX out.1 out.2) args s 0 0 (ms_A a shX.length)) (F0 m 0 ls []) := by
  have hx := Cx.1
  have hb := Cx.2.1
  intro p0 p1 σ H locs ls hI hl h
  unfold fX4_twoFigures at h
  refine lv_aload_n hx hb dX4_twoFigures_0 rfl (lv_at hl 0 rfl) ?_
  obtain ⟨⟨r2, σ3⟩, hc1, h⟩ := ms_bdE h
  refine kX4_figure Cx hI hc1 wd_9_6 (Nat.le_of_ble_eq_true rfl) (Nat.le_of_ble_eq_true rfl) hl.1 (Nat.le_of_ble_eq_true rfl) dX4_twoFigures_1 (fun H locs hI => ?_)
  refine lv_istore_n (lv' := [(3, .int r2), (0, .ref (a 1)), (1, .int p0), (2, .int p1)]) hx hb dX4_twoFigures_4 rfl hl (by decide) rfl (fun ls hl => ?_)
  refine lv_iload_n hx hb dX4_twoFigures_5 rfl (lv_at hl 0 rfl) ?_
  refine lv_bipush (v := 10) hx hb dX4_twoFigures_6 rfl ?_
  refine lv_imul hx hb dX4_twoFigures_8 ?_
  refine lv_aload_n hx hb dX4_twoFigures_9 rfl (lv_at hl 1 rfl) ?_
  obtain ⟨⟨r5, σ6⟩, hc4, h⟩ := ms_bdE h
  refine kX4_figure Cx hI hc4 wd_9_6 (Nat.le_of_ble_eq_true rfl) (Nat.le_of_ble_eq_true rfl) hl.1 (Nat.le_of_ble_eq_true rfl) dX4_twoFigures_10 (fun H locs hI => ?_)
  refine lv_iadd hx hb dX4_twoFigures_13 ?_
  refine lv_istore (lv' := [(4, .int ((r2 * 10) + r5)), (3, .int r2), (0, .ref (a 1)), (1, .int p0), (2, .int p1)]) hx hb dX4_twoFigures_14 hl (by decide) rfl (fun ls hl => ?_)
  refine lv_aload_n hx hb dX4_twoFigures_16 rfl (lv_at hl 2 rfl) ?_
  refine gi_X4_7 Cx hI wd_3_14 dX4_twoFigures_17 ?_
  refine lv_iconst (v := -1) hx hb dX4_twoFigures_20 rfl ?_
  refine lv_icmp_ne (tgt := 44) hx hb dX4_twoFigures_21 rfl (fun hc => ?_) (fun hc => ?_)
  · have h := ms_ifF hc h
    refine lv_iload hx hb dX4_twoFigures_44 (lv_at hl 0 rfl) ?_
    exact ms_riw Cx hI h dX4_twoFigures_46
  · have h := ms_ifT hc h
    refine lv_iload hx hb dX4_twoFigures_24 (lv_at hl 0 rfl) ?_
    refine lv_iload_n hx hb dX4_twoFigures_26 rfl (lv_at hl 3 rfl) ?_
    refine lv_iload_n hx hb dX4_twoFigures_27 rfl (lv_at hl 4 rfl) ?_
    obtain ⟨r8, hc7, h⟩ := ms_bdE h
    refine kX7_within Cx hI hc7 (Or.inr nq_6) (Nat.le_of_ble_eq_true rfl) (Nat.le_of_ble_eq_true rfl) hl.1 (Nat.le_of_ble_eq_true rfl) dX4_twoFigures_28 (fun H locs hI => ?_)
    refine lv_if_ne (tgt := 44) hx hb dX4_twoFigures_31 rfl (fun hc => ?_) (fun hc => ?_)
    · have h := ms_ifF hc h
      refine lv_iload hx hb dX4_twoFigures_44 (lv_at hl 0 rfl) ?_
      exact ms_riw Cx hI h dX4_twoFigures_46
    · have h := ms_ifT hc h
      refine lv_aload_n hx hb dX4_twoFigures_34 rfl (lv_at hl 2 rfl) ?_
      refine lv_aload_n hx hb dX4_twoFigures_35 rfl (lv_at hl 2 rfl) ?_
      refine gi_X4_8 Cx hI wd_3_15 dX4_twoFigures_36 ?_
      refine lv_iconst (v := 2) hx hb dX4_twoFigures_39 rfl ?_
      refine lv_isub hx hb dX4_twoFigures_40 ?_
      refine pi_X4_7 Cx hI wd_3_14 dX4_twoFigures_41 (fun H locs σ9 eσ9 hI => ?_)
      have h := ms_ltE eσ9 h
      refine lv_iload hx hb dX4_twoFigures_44 (lv_at hl 0 rfl) ?_
      exact ms_riw Cx hI h dX4_twoFigures_46
theorem yvX4_twoFigures : ms_YV yX4_twoFigures RX4 cX4_twoFigures 5 (some .int) 2 := ⟨wd_9_3, wd_9_4, wd_1_14, wd_9_5, rfl, by decide +kernel, by decide +kernel, by decide +kernel⟩
set_option maxHeartbeats 4000000 in
theorem metX4_twoFigures (l : Launch) (hDis : ms_Dis a shX.length) {σ : Mm} {p0 : Int32} {p1 : Int32} {out : Int32 × Mm} (h : fX4_twoFigures p0 p1 σ = some out) : Met l yX4_twoFigures (.code yX4_twoFigures cX4_twoFigures 5 (some .int) :: wsL_law) rmX4_twoFigures (ms_Pc D cA a shX [.ref (a 1), .int p0, .int p1] σ) (ms_Qi D cA a shX out.1 out.2) 0 0 (ms_A a shX.length) := by
  refine Met.ofW (cc := cX4_twoFigures) (maxL := 5) (ret := (some .int)) (by decide) rfl ?_
  intro p e s m args below meth c s₁ B hml hv
  obtain ⟨rfl, hK, hN, hP⟩ := hv
  have hl := lv_entry ([.ref (a 1), .int p0, .int p1]) (n := 5) (Nat.le_of_ble_eq_true rfl)
  rw [lg_entry_eq]
  generalize (lg_sl ([.ref (a 1), .int p0, .int p1]) ++ List.replicate (5 - (lg_sl ([.ref (a 1), .int p0, .int p1])).length) Slot.unset).toArray = ls at hl ⊢
  exact wX4_twoFigures ⟨B.exec, B.bytes, hml, findClass_of_methodNamed B.named, fun w hw => atoms_spec (ws := .code yX4_twoFigures cX4_twoFigures 5 (some .int) :: wsL_law) B.pre w (List.mem_cons_of_mem _ hw), B.returns, B.notSynchronized, hK, hDis, hN⟩ out p0 p1 σ s.heap [] ls ⟨hP, va_S.rf⟩ hl h
theorem kX4_twoFigures (Cx : ms_C p s m args meth c D cA a shX cc nL own ret) {σ : Mm} {H : Heap} {locs : List Loc} (hI : ms_I D cA a shX s σ H locs) {p0 : Int32} {p1 : Int32} {out : Int32 × Mm} (h : fX4_twoFigures p0 p1 σ = some out) (hl : Cond.methodLink own idx yX4_twoFigures ∈ wsL_law) (hf : 2 + 1 ≤ R.frames) (hlo : 8 + (5 + 11) + 43 ≤ R.locals) (hsz : ls.size = nL) (hW : (rest.map fun v => v.category).sum ≤ 8) (hd : decode cc pc = .ok (.invokevirtual idx, 3)) (kk : ∀ (H1 : Heap) (locs1 : List Loc), ms_I D cA a shX s out.2 H1 locs1 → W p l e R s m args below meth c H1 locs1 0 0 Q (F0 m (pc + 3) ls (.int out.1 :: rest))) : W p l e R s m args below meth c H locs 0 0 Q (F0 m pc ls (.int p1 :: .int p0 :: .ref (a 1) :: rest)) :=
  ms_ci hI (ms_runV (av := [.int p0, .int p1]) Cx hI 1 shX_1 (ci := 4) rfl rfl yvX4_twoFigures (metX4_twoFigures l Cx.2.2.2.2.2.2.2.2.1  h) ⟨rfl, rfl⟩ hl ⟨hf, hlo⟩ rfl hsz rfl hW ⟨Nat.zero_le _, Nat.zero_le _⟩ hd) kk
/-! X4 parseThing (I)V -/
theorem dX4_parseThing_0 : decode cX4_parseThing 0 = .ok (.aload_n 0, 1) := by decide +kernel
theorem dX4_parseThing_1 : decode cX4_parseThing 1 = .ok (.getfield 15, 3) := by decide +kernel
theorem dX4_parseThing_4 : decode cX4_parseThing 4 = .ok (.iload_n 1, 1) := by decide +kernel
theorem dX4_parseThing_5 : decode cX4_parseThing 5 = .ok (.iconst 0, 1) := by decide +kernel
theorem dX4_parseThing_6 : decode cX4_parseThing 6 = .ok (.iadd, 1) := by decide +kernel
theorem dX4_parseThing_7 : decode cX4_parseThing 7 = .ok (.aload_n 0, 1) := by decide +kernel
theorem dX4_parseThing_8 : decode cX4_parseThing 8 = .ok (.iconst 1, 1) := by decide +kernel
theorem dX4_parseThing_9 : decode cX4_parseThing 9 = .ok (.bipush 40, 2) := by decide +kernel
theorem dX4_parseThing_11 : decode cX4_parseThing 11 = .ok (.invokevirtual 71, 3) := by decide +kernel
theorem dX4_parseThing_14 : decode cX4_parseThing 14 = .ok (.iastore, 1) := by decide +kernel
theorem dX4_parseThing_15 : decode cX4_parseThing 15 = .ok (.aload_n 0, 1) := by decide +kernel
theorem dX4_parseThing_16 : decode cX4_parseThing 16 = .ok (.getfield 15, 3) := by decide +kernel
theorem dX4_parseThing_19 : decode cX4_parseThing 19 = .ok (.iload_n 1, 1) := by decide +kernel
theorem dX4_parseThing_20 : decode cX4_parseThing 20 = .ok (.iconst 1, 1) := by decide +kernel
theorem dX4_parseThing_21 : decode cX4_parseThing 21 = .ok (.iadd, 1) := by decide +kernel
theorem dX4_parseThing_22 : decode cX4_parseThing 22 = .ok (.aload_n 0, 1) := by decide +kernel
theorem dX4_parseThing_23 : decode cX4_parseThing 23 = .ok (.iconst 0, 1) := by decide +kernel
theorem dX4_parseThing_24 : decode cX4_parseThing 24 = .ok (.bipush 23, 2) := by decide +kernel
theorem dX4_parseThing_26 : decode cX4_parseThing 26 = .ok (.invokevirtual 71, 3) := by decide +kernel
theorem dX4_parseThing_29 : decode cX4_parseThing 29 = .ok (.iastore, 1) := by decide +kernel
theorem dX4_parseThing_30 : decode cX4_parseThing 30 = .ok (.aload_n 0, 1) := by decide +kernel
theorem dX4_parseThing_31 : decode cX4_parseThing 31 = .ok (.getfield 15, 3) := by decide +kernel
theorem dX4_parseThing_34 : decode cX4_parseThing 34 = .ok (.iload_n 1, 1) := by decide +kernel
theorem dX4_parseThing_35 : decode cX4_parseThing 35 = .ok (.iconst 2, 1) := by decide +kernel
theorem dX4_parseThing_36 : decode cX4_parseThing 36 = .ok (.iadd, 1) := by decide +kernel
theorem dX4_parseThing_37 : decode cX4_parseThing 37 = .ok (.aload_n 0, 1) := by decide +kernel
theorem dX4_parseThing_38 : decode cX4_parseThing 38 = .ok (.iconst 1, 1) := by decide +kernel
theorem dX4_parseThing_39 : decode cX4_parseThing 39 = .ok (.bipush 24, 2) := by decide +kernel
theorem dX4_parseThing_41 : decode cX4_parseThing 41 = .ok (.invokevirtual 71, 3) := by decide +kernel
theorem dX4_parseThing_44 : decode cX4_parseThing 44 = .ok (.iastore, 1) := by decide +kernel
theorem dX4_parseThing_45 : decode cX4_parseThing 45 = .ok (.aload_n 0, 1) := by decide +kernel
theorem dX4_parseThing_46 : decode cX4_parseThing 46 = .ok (.getfield 15, 3) := by decide +kernel
theorem dX4_parseThing_49 : decode cX4_parseThing 49 = .ok (.iload_n 1, 1) := by decide +kernel
theorem dX4_parseThing_50 : decode cX4_parseThing 50 = .ok (.iconst 3, 1) := by decide +kernel
theorem dX4_parseThing_51 : decode cX4_parseThing 51 = .ok (.iadd, 1) := by decide +kernel
theorem dX4_parseThing_52 : decode cX4_parseThing 52 = .ok (.iconst 0, 1) := by decide +kernel
theorem dX4_parseThing_53 : decode cX4_parseThing 53 = .ok (.iastore, 1) := by decide +kernel
theorem dX4_parseThing_54 : decode cX4_parseThing 54 = .ok (.aload_n 0, 1) := by decide +kernel
theorem dX4_parseThing_55 : decode cX4_parseThing 55 = .ok (.getfield 34, 3) := by decide +kernel
theorem dX4_parseThing_58 : decode cX4_parseThing 58 = .ok (.iconst (-1), 1) := by decide +kernel
theorem dX4_parseThing_59 : decode cX4_parseThing 59 = .ok (.if_icmp .ne 31, 3) := by decide +kernel
theorem dX4_parseThing_62 : decode cX4_parseThing 62 = .ok (.aload_n 0, 1) := by decide +kernel
theorem dX4_parseThing_63 : decode cX4_parseThing 63 = .ok (.invokevirtual 57, 3) := by decide +kernel
theorem dX4_parseThing_66 : decode cX4_parseThing 66 = .ok (.bipush 33, 2) := by decide +kernel
theorem dX4_parseThing_68 : decode cX4_parseThing 68 = .ok (.if_icmp .ne 22, 3) := by decide +kernel
theorem dX4_parseThing_71 : decode cX4_parseThing 71 = .ok (.aload_n 0, 1) := by decide +kernel
theorem dX4_parseThing_72 : decode cX4_parseThing 72 = .ok (.getfield 15, 3) := by decide +kernel
theorem dX4_parseThing_75 : decode cX4_parseThing 75 = .ok (.iload_n 1, 1) := by decide +kernel
theorem dX4_parseThing_76 : decode cX4_parseThing 76 = .ok (.iconst 3, 1) := by decide +kernel
theorem dX4_parseThing_77 : decode cX4_parseThing 77 = .ok (.iadd, 1) := by decide +kernel
theorem dX4_parseThing_78 : decode cX4_parseThing 78 = .ok (.iconst 1, 1) := by decide +kernel
theorem dX4_parseThing_79 : decode cX4_parseThing 79 = .ok (.iastore, 1) := by decide +kernel
theorem dX4_parseThing_80 : decode cX4_parseThing 80 = .ok (.aload_n 0, 1) := by decide +kernel
theorem dX4_parseThing_81 : decode cX4_parseThing 81 = .ok (.dup, 1) := by decide +kernel
theorem dX4_parseThing_82 : decode cX4_parseThing 82 = .ok (.getfield 37, 3) := by decide +kernel
theorem dX4_parseThing_85 : decode cX4_parseThing 85 = .ok (.iconst 1, 1) := by decide +kernel
theorem dX4_parseThing_86 : decode cX4_parseThing 86 = .ok (.iadd, 1) := by decide +kernel
theorem dX4_parseThing_87 : decode cX4_parseThing 87 = .ok (.putfield 37, 3) := by decide +kernel
theorem dX4_parseThing_90 : decode cX4_parseThing 90 = .ok (.return_, 1) := by decide +kernel
abbrev rmX4_parseThing : Room := { frames := 3, cells := 0, slots := 0, locals := 67 }
set_option maxHeartbeats 4000000 in
set_option maxRecDepth 100000 in
theorem wX4_parseThing (Cx : ms_C p s m args meth c D cA a shX cX4_parseThing 2 RX4 none) (out : Mm) : ∀ (p0 : Int32) , ∀ (σ : Mm) (H : Heap) (locs : List Loc) (ls : Array Slot), ms_I D cA a shX s σ H locs → lv_has ls 2 [(0, .ref (a 1)), (1, .int p0)] → fX4_parseThing p0 σ = some out → W p l e rmX4_parseThing s m args below meth c H locs 0 0 (MQ below (ms_Qv D cA a shX out) args s 0 0 (ms_A a shX.length)) (F0 m 0 ls []) := by
  have hx := Cx.1
  have hb := Cx.2.1
  intro p0 σ H locs ls hI hl h
  unfold fX4_parseThing at h
  refine lv_aload_n hx hb dX4_parseThing_0 rfl (lv_at hl 0 rfl) ?_
  refine gr_X4_1 Cx hI wd_3_8 dX4_parseThing_1 ?_
  refine lv_iload_n hx hb dX4_parseThing_4 rfl (lv_at hl 1 rfl) ?_
  refine lv_iconst (v := 0) hx hb dX4_parseThing_5 rfl ?_
  refine lv_iadd hx hb dX4_parseThing_6 ?_
  refine lv_aload_n hx hb dX4_parseThing_7 rfl (lv_at hl 0 rfl) ?_
  refine lv_iconst (v := 1) hx hb dX4_parseThing_8 rfl ?_
  refine lv_bipush (v := 40) hx hb dX4_parseThing_9 rfl ?_
  obtain ⟨⟨r2, σ3⟩, hc1, h⟩ := ms_bdE h
  refine kX4_twoFigures Cx hI hc1 wd_9_2 (Nat.le_of_ble_eq_true rfl) (Nat.le_of_ble_eq_true rfl) hl.1 (Nat.le_of_ble_eq_true rfl) dX4_parseThing_11 (fun H locs hI => ?_)
  obtain ⟨hg, h⟩ := ms_gE h
  refine ms_sto Cx hI 3 shX_3 hg dX4_parseThing_14 (fun H locs σ4 eσ4 hI => ?_)
  have h := ms_ltE eσ4 h
  refine lv_aload_n hx hb dX4_parseThing_15 rfl (lv_at hl 0 rfl) ?_
  refine gr_X4_1 Cx hI wd_3_8 dX4_parseThing_16 ?_
  refine lv_iload_n hx hb dX4_parseThing_19 rfl (lv_at hl 1 rfl) ?_
  refine lv_iconst (v := 1) hx hb dX4_parseThing_20 rfl ?_
  refine lv_iadd hx hb dX4_parseThing_21 ?_
  refine lv_aload_n hx hb dX4_parseThing_22 rfl (lv_at hl 0 rfl) ?_
  refine lv_iconst (v := 0) hx hb dX4_parseThing_23 rfl ?_
  refine lv_bipush (v := 23) hx hb dX4_parseThing_24 rfl ?_
  obtain ⟨⟨r6, σ7⟩, hc5, h⟩ := ms_bdE h
  refine kX4_twoFigures Cx hI hc5 wd_9_2 (Nat.le_of_ble_eq_true rfl) (Nat.le_of_ble_eq_true rfl) hl.1 (Nat.le_of_ble_eq_true rfl) dX4_parseThing_26 (fun H locs hI => ?_)
  obtain ⟨hg, h⟩ := ms_gE h
  refine ms_sto Cx hI 3 shX_3 hg dX4_parseThing_29 (fun H locs σ8 eσ8 hI => ?_)
  have h := ms_ltE eσ8 h
  refine lv_aload_n hx hb dX4_parseThing_30 rfl (lv_at hl 0 rfl) ?_
  refine gr_X4_1 Cx hI wd_3_8 dX4_parseThing_31 ?_
  refine lv_iload_n hx hb dX4_parseThing_34 rfl (lv_at hl 1 rfl) ?_
  refine lv_iconst (v := 2) hx hb dX4_parseThing_35 rfl ?_
  refine lv_iadd hx hb dX4_parseThing_36 ?_
  refine lv_aload_n hx hb dX4_parseThing_37 rfl (lv_at hl 0 rfl) ?_
  refine lv_iconst (v := 1) hx hb dX4_parseThing_38 rfl ?_
  refine lv_bipush (v := 24) hx hb dX4_parseThing_39 rfl ?_
  obtain ⟨⟨r10, σ11⟩, hc9, h⟩ := ms_bdE h
  refine kX4_twoFigures Cx hI hc9 wd_9_2 (Nat.le_of_ble_eq_true rfl) (Nat.le_of_ble_eq_true rfl) hl.1 (Nat.le_of_ble_eq_true rfl) dX4_parseThing_41 (fun H locs hI => ?_)
  obtain ⟨hg, h⟩ := ms_gE h
  refine ms_sto Cx hI 3 shX_3 hg dX4_parseThing_44 (fun H locs σ12 eσ12 hI => ?_)
  have h := ms_ltE eσ12 h
  refine lv_aload_n hx hb dX4_parseThing_45 rfl (lv_at hl 0 rfl) ?_
  refine gr_X4_1 Cx hI wd_3_8 dX4_parseThing_46 ?_
  refine lv_iload_n hx hb dX4_parseThing_49 rfl (lv_at hl 1 rfl) ?_
  refine lv_iconst (v := 3) hx hb dX4_parseThing_50 rfl ?_
  refine lv_iadd hx hb dX4_parseThing_51 ?_
  refine lv_iconst (v := 0) hx hb dX4_parseThing_52 rfl ?_
  obtain ⟨hg, h⟩ := ms_gE h
  refine ms_sto Cx hI 3 shX_3 hg dX4_parseThing_53 (fun H locs σ13 eσ13 hI => ?_)
  have h := ms_ltE eσ13 h
  refine lv_aload_n hx hb dX4_parseThing_54 rfl (lv_at hl 0 rfl) ?_
  refine gi_X4_7 Cx hI wd_3_14 dX4_parseThing_55 ?_
  refine lv_iconst (v := -1) hx hb dX4_parseThing_58 rfl ?_
  refine lv_icmp_ne (tgt := 90) hx hb dX4_parseThing_59 rfl (fun hc => ?_) (fun hc => ?_)
  · have h := ms_ifF hc h
    exact ms_rv Cx hI (Option.some.inj h) dX4_parseThing_90
  · have h := ms_ifT hc h
    refine lv_aload_n hx hb dX4_parseThing_62 rfl (lv_at hl 0 rfl) ?_
    obtain ⟨r15, hc14, h⟩ := ms_bdE h
    refine kX4_next Cx hI hc14 wd_8_18 (Nat.le_of_ble_eq_true rfl) (Nat.le_of_ble_eq_true rfl) hl.1 (Nat.le_of_ble_eq_true rfl) dX4_parseThing_63 (fun H locs hI => ?_)
    refine lv_bipush (v := 33) hx hb dX4_parseThing_66 rfl ?_
    refine lv_icmp_ne (tgt := 90) hx hb dX4_parseThing_68 rfl (fun hc => ?_) (fun hc => ?_)
    · have h := ms_ifF hc h
      exact ms_rv Cx hI (Option.some.inj h) dX4_parseThing_90
    · have h := ms_ifT hc h
      refine lv_aload_n hx hb dX4_parseThing_71 rfl (lv_at hl 0 rfl) ?_
      refine gr_X4_1 Cx hI wd_3_8 dX4_parseThing_72 ?_
      refine lv_iload_n hx hb dX4_parseThing_75 rfl (lv_at hl 1 rfl) ?_
      refine lv_iconst (v := 3) hx hb dX4_parseThing_76 rfl ?_
      refine lv_iadd hx hb dX4_parseThing_77 ?_
      refine lv_iconst (v := 1) hx hb dX4_parseThing_78 rfl ?_
      obtain ⟨hg, h⟩ := ms_gE h
      refine ms_sto Cx hI 3 shX_3 hg dX4_parseThing_79 (fun H locs σ16 eσ16 hI => ?_)
      have h := ms_ltE eσ16 h
      refine lv_aload_n hx hb dX4_parseThing_80 rfl (lv_at hl 0 rfl) ?_
      refine lv_dup hx hb dX4_parseThing_81 rfl ?_
      refine gi_X4_8 Cx hI wd_3_15 dX4_parseThing_82 ?_
      refine lv_iconst (v := 1) hx hb dX4_parseThing_85 rfl ?_
      refine lv_iadd hx hb dX4_parseThing_86 ?_
      refine pi_X4_8 Cx hI wd_3_15 dX4_parseThing_87 (fun H locs σ17 eσ17 hI => ?_)
      have h := ms_ltE eσ17 h
      exact ms_rv Cx hI (Option.some.inj h) dX4_parseThing_90
theorem yvX4_parseThing : ms_YV yX4_parseThing RX4 cX4_parseThing 2 none 1 := ⟨wd_8_23, wd_9_0, wd_1_14, wd_9_1, rfl, by decide +kernel, by decide +kernel, by decide +kernel⟩
set_option maxHeartbeats 4000000 in
theorem metX4_parseThing (l : Launch) (hDis : ms_Dis a shX.length) {σ : Mm} {p0 : Int32} {out : Mm} (h : fX4_parseThing p0 σ = some out) : Met l yX4_parseThing (.code yX4_parseThing cX4_parseThing 2 none :: wsL_law) rmX4_parseThing (ms_Pc D cA a shX [.ref (a 1), .int p0] σ) (ms_Qv D cA a shX out) 0 0 (ms_A a shX.length) := by
  refine Met.ofW (cc := cX4_parseThing) (maxL := 2) (ret := none) (by decide) rfl ?_
  intro p e s m args below meth c s₁ B hml hv
  obtain ⟨rfl, hK, hN, hP⟩ := hv
  have hl := lv_entry ([.ref (a 1), .int p0]) (n := 2) (Nat.le_of_ble_eq_true rfl)
  rw [lg_entry_eq]
  generalize (lg_sl ([.ref (a 1), .int p0]) ++ List.replicate (2 - (lg_sl ([.ref (a 1), .int p0])).length) Slot.unset).toArray = ls at hl ⊢
  exact wX4_parseThing ⟨B.exec, B.bytes, hml, findClass_of_methodNamed B.named, fun w hw => atoms_spec (ws := .code yX4_parseThing cX4_parseThing 2 none :: wsL_law) B.pre w (List.mem_cons_of_mem _ hw), B.returns, B.notSynchronized, hK, hDis, hN⟩ out p0 σ s.heap [] ls ⟨hP, va_S.rf⟩ hl h
theorem kX4_parseThing (Cx : ms_C p s m args meth c D cA a shX cc nL own ret) {σ : Mm} {H : Heap} {locs : List Loc} (hI : ms_I D cA a shX s σ H locs) {p0 : Int32} {out : Mm} (h : fX4_parseThing p0 σ = some out) (hl : Cond.methodLink own idx yX4_parseThing ∈ wsL_law) (hf : 3 + 1 ≤ R.frames) (hlo : 8 + (2 + 11) + 67 ≤ R.locals) (hsz : ls.size = nL) (hW : (rest.map fun v => v.category).sum ≤ 8) (hd : decode cc pc = .ok (.invokevirtual idx, 3)) (kk : ∀ (H1 : Heap) (locs1 : List Loc), ms_I D cA a shX s out H1 locs1 → W p l e R s m args below meth c H1 locs1 0 0 Q (F0 m (pc + 3) ls (rest))) : W p l e R s m args below meth c H locs 0 0 Q (F0 m pc ls (.int p0 :: .ref (a 1) :: rest)) :=
  ms_cv hI (ms_runV (av := [.int p0]) Cx hI 1 shX_1 (ci := 4) rfl rfl yvX4_parseThing (metX4_parseThing l Cx.2.2.2.2.2.2.2.2.1  h) ⟨rfl, rfl⟩ hl ⟨hf, hlo⟩ rfl hsz rfl hW ⟨Nat.zero_le _, Nat.zero_le _⟩ hd) kk
end WK
