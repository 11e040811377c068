section WK
variable {p : Program} {l : Launch} {e : Env} {R : Room} {s : State} {m : MethodId} {args : Array Value} {below : List Frame} {meth : Method} {c : Code} {Q : State → Prop}
variable {D : va_G} {cA : Nat → ClassId} {a : Nat → Nat} {cc : ByteArray} {nL idx : Nat} {own : String} {ret : Option FieldType} {pc : Nat} {ls : Array Slot} {rest : List Value}
/-! X3 begin ()V -/
theorem dX3_begin_0 : decode cX3_begin 0 = .ok (.aload_n 0, 1) := by decide +kernel
theorem dX3_begin_1 : decode cX3_begin 1 = .ok (.aload_n 0, 1) := by decide +kernel
theorem dX3_begin_2 : decode cX3_begin 2 = .ok (.getfield 37, 3) := by decide +kernel
theorem dX3_begin_5 : decode cX3_begin 5 = .ok (.putfield 49, 3) := by decide +kernel
theorem dX3_begin_8 : decode cX3_begin 8 = .ok (.aload_n 0, 1) := by decide +kernel
theorem dX3_begin_9 : decode cX3_begin 9 = .ok (.aload_n 0, 1) := by decide +kernel
theorem dX3_begin_10 : decode cX3_begin 10 = .ok (.getfield 40, 3) := by decide +kernel
theorem dX3_begin_13 : decode cX3_begin 13 = .ok (.putfield 52, 3) := by decide +kernel
theorem dX3_begin_16 : decode cX3_begin 16 = .ok (.return_, 1) := by decide +kernel
abbrev rmX3_begin : Room := { frames := 0, cells := 0, slots := 0, locals := 0 }
set_option maxHeartbeats 4000000 in
set_option maxRecDepth 100000 in
theorem wX3_begin (Cx : ms_C p s m args meth c D cA a shX cX3_begin 1 RX3 none) (out : Mm) : ∀ (σ : Mm) (H : Heap) (locs : List Loc) (ls : Array Slot), ms_I D cA a shX s σ H locs → lv_has ls 1 [(0, .ref (a 8))] → fX3_begin σ = some out → W p l e rmX3_begin s m args below meth c H locs 0 0 (MQ below (ms_Qv D cA a shX out) args s 0 0 (ms_A a shX.length)) (F0 m 0 ls []) := by
  have hx := Cx.1
  have hb := Cx.2.1
  intro σ H locs ls hI hl h
  unfold fX3_begin at h
  refine lv_aload_n hx hb dX3_begin_0 rfl (lv_at hl 0 rfl) ?_
  refine lv_aload_n hx hb dX3_begin_1 rfl (lv_at hl 0 rfl) ?_
  refine gi_X3_8 Cx hI wd_4_9 dX3_begin_2 ?_
  refine pi_X3_12 Cx hI wd_4_13 dX3_begin_5 (fun H locs σ1 eσ1 hI => ?_)
  have h := ms_ltE eσ1 h
  refine lv_aload_n hx hb dX3_begin_8 rfl (lv_at hl 0 rfl) ?_
  refine lv_aload_n hx hb dX3_begin_9 rfl (lv_at hl 0 rfl) ?_
  refine gi_X3_9 Cx hI wd_4_10 dX3_begin_10 ?_
  refine pi_X3_13 Cx hI wd_4_14 dX3_begin_13 (fun H locs σ2 eσ2 hI => ?_)
  have h := ms_ltE eσ2 h
  exact ms_rv Cx hI (Option.some.inj h) dX3_begin_16
theorem yvX3_begin : ms_YV yX3_begin RX3 cX3_begin 1 none 0 := ⟨wd_23_1, wd_23_2, wd_2_9, wd_23_3, rfl, by decide +kernel, by decide +kernel, by decide +kernel⟩
set_option maxHeartbeats 4000000 in
theorem metX3_begin (l : Launch) (hDis : ms_Dis a shX.length) {σ : Mm} {out : Mm} (h : fX3_begin σ = some out) : Met l yX3_begin (.code yX3_begin cX3_begin 1 none :: wsL_law) rmX3_begin (ms_Pc D cA a shX [.ref (a 8)] σ) (ms_Qv D cA a shX out) 0 0 (ms_A a shX.length) := by
  refine Met.ofW (cc := cX3_begin) (maxL := 1) (ret := none) (by decide) rfl ?_
  intro p e s m args below meth c s₁ B hml hv
  obtain ⟨rfl, hK, hN, hP⟩ := hv
  have hl := lv_entry ([.ref (a 8)]) (n := 1) (Nat.le_of_ble_eq_true rfl)
  rw [lg_entry_eq]
  generalize (lg_sl ([.ref (a 8)]) ++ List.replicate (1 - (lg_sl ([.ref (a 8)])).length) Slot.unset).toArray = ls at hl ⊢
  exact wX3_begin ⟨B.exec, B.bytes, hml, findClass_of_methodNamed B.named, fun w hw => atoms_spec (ws := .code yX3_begin cX3_begin 1 none :: wsL_law) B.pre w (List.mem_cons_of_mem _ hw), B.returns, B.notSynchronized, hK, hDis, hN⟩ out σ s.heap [] ls ⟨hP, va_S.rf⟩ hl h
theorem kX3_begin (Cx : ms_C p s m args meth c D cA a shX cc nL own ret) {σ : Mm} {H : Heap} {locs : List Loc} (hI : ms_I D cA a shX s σ H locs) {out : Mm} (h : fX3_begin σ = some out) (hl : Cond.methodLink own idx yX3_begin ∈ wsL_law) (hf : 0 + 1 ≤ R.frames) (hlo : 8 + (1 + 11) + 0 ≤ R.locals) (hsz : ls.size = nL) (hW : (rest.map fun v => v.category).sum ≤ 8) (hd : decode cc pc = .ok (.invokevirtual idx, 3)) (kk : ∀ (H1 : Heap) (locs1 : List Loc), ms_I D cA a shX s out H1 locs1 → W p l e R s m args below meth c H1 locs1 0 0 Q (F0 m (pc + 3) ls (rest))) : W p l e R s m args below meth c H locs 0 0 Q (F0 m pc ls (.ref (a 8) :: rest)) :=
  ms_cv hI (ms_runV (av := []) Cx hI 8 shX_8 (ci := 3) rfl rfl yvX3_begin (metX3_begin l Cx.2.2.2.2.2.2.2.2.1  h) ⟨rfl, rfl⟩ hl ⟨hf, hlo⟩ rfl hsz rfl hW ⟨Nat.zero_le _, Nat.zero_le _⟩ hd) kk
/-! X7 bit (II)I -/
theorem dX7_bit_0 : decode cX7_bit 0 = .ok (.iload_n 0, 1) := by decide +kernel
theorem dX7_bit_1 : decode cX7_bit 1 = .ok (.iload_n 1, 1) := by decide +kernel
theorem dX7_bit_2 : decode cX7_bit 2 = .ok (.ishr, 1) := by decide +kernel
theorem dX7_bit_3 : decode cX7_bit 3 = .ok (.iconst 1, 1) := by decide +kernel
theorem dX7_bit_4 : decode cX7_bit 4 = .ok (.iand, 1) := by decide +kernel
theorem dX7_bit_5 : decode cX7_bit 5 = .ok (.ireturn, 1) := by decide +kernel
abbrev rmX7_bit : Room := { frames := 0, cells := 0, slots := 0, locals := 0 }
set_option maxHeartbeats 4000000 in
set_option maxRecDepth 100000 in
theorem wX7_bit (Cx : ms_C p s m args meth c D cA a shX cX7_bit 2 RX7 (some .int)) (out : Int32) {σ : Mm} : ∀ (p0 : Int32) (p1 : Int32) , ∀ (H : Heap) (locs : List Loc) (ls : Array Slot), ms_I D cA a shX s σ H locs → lv_has ls 2 [(0, .int p0), (1, .int p1)] → fX7_bit p0 p1 = some out → W p l e rmX7_bit s m args below meth c H locs 0 0 (MQ below (ms_Qi D cA a shX out σ) args s 0 0 (ms_A a shX.length)) (F0 m 0 ls []) := by
  have hx := Cx.1
  have hb := Cx.2.1
  intro p0 p1 H locs ls hI hl h
  unfold fX7_bit at h
  refine lv_iload_n hx hb dX7_bit_0 rfl (lv_at hl 0 rfl) ?_
  refine lv_iload_n hx hb dX7_bit_1 rfl (lv_at hl 1 rfl) ?_
  refine lv_ishr hx hb dX7_bit_2 ?_
  refine lv_iconst (v := 1) hx hb dX7_bit_3 rfl ?_
  refine lv_iand hx hb dX7_bit_4 ?_
  exact ms_ri Cx hI (Option.some.inj h) rfl dX7_bit_5
theorem yvX7_bit : ms_YS yX7_bit cX7_bit 2 (some .int) 2 := ⟨wd_9_22, wd_1_2, wd_9_23, by decide +kernel, by decide +kernel, by decide +kernel⟩
set_option maxHeartbeats 4000000 in
theorem metX7_bit (l : Launch) (hDis : ms_Dis a shX.length) {σ : Mm} {p0 : Int32} {p1 : Int32} {out : Int32} (h : fX7_bit p0 p1 = some out) : Met l yX7_bit (.code yX7_bit cX7_bit 2 (some .int) :: wsL_law) rmX7_bit (ms_Pc D cA a shX [.int p0, .int p1] σ) (ms_Qi D cA a shX out σ) 0 0 (ms_A a shX.length) := by
  refine Met.ofW (cc := cX7_bit) (maxL := 2) (ret := (some .int)) (by decide) rfl ?_
  intro p e s m args below meth c s₁ B hml hv
  obtain ⟨rfl, hK, hN, hP⟩ := hv
  have hl := lv_entry ([.int p0, .int p1]) (n := 2) (Nat.le_of_ble_eq_true rfl)
  rw [lg_entry_eq]
  generalize (lg_sl ([.int p0, .int p1]) ++ List.replicate (2 - (lg_sl ([.int p0, .int p1])).length) Slot.unset).toArray = ls at hl ⊢
  exact wX7_bit ⟨B.exec, B.bytes, hml, findClass_of_methodNamed B.named, fun w hw => atoms_spec (ws := .code yX7_bit cX7_bit 2 (some .int) :: wsL_law) B.pre w (List.mem_cons_of_mem _ hw), B.returns, B.notSynchronized, hK, hDis, hN⟩ out p0 p1 s.heap [] ls ⟨hP, va_S.rf⟩ hl h
theorem kX7_bit (Cx : ms_C p s m args meth c D cA a shX cc nL own ret) {σ : Mm} {H : Heap} {locs : List Loc} (hI : ms_I D cA a shX s σ H locs) {p0 : Int32} {p1 : Int32} {out : Int32} (h : fX7_bit p0 p1 = some out) (hl : Cond.methodLink own idx yX7_bit ∈ wsL_law ∨ (own, idx, yX7_bit) ∈ ms_nq) (hf : 0 + 1 ≤ R.frames) (hlo : 8 + (2 + 11) + 0 ≤ R.locals) (hsz : ls.size = nL) (hW : (rest.map fun v => v.category).sum ≤ 8) (hd : decode cc pc = .ok (.invokestatic idx, 3)) (kk : ∀ (H1 : Heap) (locs1 : List Loc), ms_I D cA a shX s σ H1 locs1 → W p l e R s m args below meth c H1 locs1 0 0 Q (F0 m (pc + 3) ls (.int out :: rest))) : W p l e R s m args below meth c H locs 0 0 Q (F0 m pc ls (.int p1 :: .int p0 :: rest)) :=
  ms_ci hI (ms_runS (av := [.int p0, .int p1]) Cx hI yvX7_bit (metX7_bit l Cx.2.2.2.2.2.2.2.2.1  h) ⟨rfl, rfl⟩ hl ⟨hf, hlo⟩ rfl hsz rfl hW ⟨Nat.zero_le _, Nat.zero_le _⟩ hd) kk
/-! X3 draw (I)V -/
theorem dX3_draw_0 : decode cX3_draw 0 = .ok (.aload_n 0, 1) := by decide +kernel
theorem dX3_draw_1 : decode cX3_draw 1 = .ok (.iconst 0, 1) := by decide +kernel
theorem dX3_draw_2 : decode cX3_draw 2 = .ok (.putfield 61, 3) := by decide +kernel
theorem dX3_draw_5 : decode cX3_draw 5 = .ok (.iconst 0, 1) := by decide +kernel
theorem dX3_draw_6 : decode cX3_draw 6 = .ok (.istore_n 2, 1) := by decide +kernel
theorem dX3_draw_7 : decode cX3_draw 7 = .ok (.iload_n 2, 1) := by decide +kernel
theorem dX3_draw_8 : decode cX3_draw 8 = .ok (.aload_n 0, 1) := by decide +kernel
theorem dX3_draw_9 : decode cX3_draw 9 = .ok (.getfield 21, 3) := by decide +kernel
theorem dX3_draw_12 : decode cX3_draw 12 = .ok (.if_icmp .ge 68, 3) := by decide +kernel
theorem dX3_draw_15 : decode cX3_draw 15 = .ok (.aload_n 0, 1) := by decide +kernel
theorem dX3_draw_16 : decode cX3_draw 16 = .ok (.getfield 18, 3) := by decide +kernel
theorem dX3_draw_19 : decode cX3_draw 19 = .ok (.iload_n 2, 1) := by decide +kernel
theorem dX3_draw_20 : decode cX3_draw 20 = .ok (.iaload, 1) := by decide +kernel
theorem dX3_draw_21 : decode cX3_draw 21 = .ok (.iload_n 1, 1) := by decide +kernel
theorem dX3_draw_22 : decode cX3_draw 22 = .ok (.invokestatic 83, 3) := by decide +kernel
theorem dX3_draw_25 : decode cX3_draw 25 = .ok (.ifCond .ne 6, 3) := by decide +kernel
theorem dX3_draw_28 : decode cX3_draw 28 = .ok (.goto 46, 3) := by decide +kernel
theorem dX3_draw_31 : decode cX3_draw 31 = .ok (.aload_n 0, 1) := by decide +kernel
theorem dX3_draw_32 : decode cX3_draw 32 = .ok (.getfield 49, 3) := by decide +kernel
theorem dX3_draw_35 : decode cX3_draw 35 = .ok (.aload_n 0, 1) := by decide +kernel
theorem dX3_draw_36 : decode cX3_draw 36 = .ok (.getfield 15, 3) := by decide +kernel
theorem dX3_draw_39 : decode cX3_draw 39 = .ok (.iload_n 2, 1) := by decide +kernel
theorem dX3_draw_40 : decode cX3_draw 40 = .ok (.iaload, 1) := by decide +kernel
theorem dX3_draw_41 : decode cX3_draw 41 = .ok (.if_icmp .lt 21, 3) := by decide +kernel
theorem dX3_draw_44 : decode cX3_draw 44 = .ok (.aload_n 0, 1) := by decide +kernel
theorem dX3_draw_45 : decode cX3_draw 45 = .ok (.dup, 1) := by decide +kernel
theorem dX3_draw_46 : decode cX3_draw 46 = .ok (.getfield 49, 3) := by decide +kernel
theorem dX3_draw_49 : decode cX3_draw 49 = .ok (.aload_n 0, 1) := by decide +kernel
theorem dX3_draw_50 : decode cX3_draw 50 = .ok (.getfield 15, 3) := by decide +kernel
theorem dX3_draw_53 : decode cX3_draw 53 = .ok (.iload_n 2, 1) := by decide +kernel
theorem dX3_draw_54 : decode cX3_draw 54 = .ok (.iaload, 1) := by decide +kernel
theorem dX3_draw_55 : decode cX3_draw 55 = .ok (.isub, 1) := by decide +kernel
theorem dX3_draw_56 : decode cX3_draw 56 = .ok (.putfield 49, 3) := by decide +kernel
theorem dX3_draw_59 : decode cX3_draw 59 = .ok (.goto 15, 3) := by decide +kernel
theorem dX3_draw_62 : decode cX3_draw 62 = .ok (.aload_n 0, 1) := by decide +kernel
theorem dX3_draw_63 : decode cX3_draw 63 = .ok (.dup, 1) := by decide +kernel
theorem dX3_draw_64 : decode cX3_draw 64 = .ok (.getfield 61, 3) := by decide +kernel
theorem dX3_draw_67 : decode cX3_draw 67 = .ok (.iconst 1, 1) := by decide +kernel
theorem dX3_draw_68 : decode cX3_draw 68 = .ok (.iload_n 2, 1) := by decide +kernel
theorem dX3_draw_69 : decode cX3_draw 69 = .ok (.ishl, 1) := by decide +kernel
theorem dX3_draw_70 : decode cX3_draw 70 = .ok (.ior, 1) := by decide +kernel
theorem dX3_draw_71 : decode cX3_draw 71 = .ok (.putfield 61, 3) := by decide +kernel
theorem dX3_draw_74 : decode cX3_draw 74 = .ok (.iinc 2 1, 3) := by decide +kernel
theorem dX3_draw_77 : decode cX3_draw 77 = .ok (.goto (-70), 3) := by decide +kernel
theorem dX3_draw_80 : decode cX3_draw 80 = .ok (.return_, 1) := by decide +kernel
abbrev rmX3_draw : Room := { frames := 1, cells := 0, slots := 0, locals := 21 }
set_option maxHeartbeats 4000000 in
set_option maxRecDepth 100000 in
theorem wX3_draw_74 (Cx : ms_C p s m args meth c D cA a shX cX3_draw 3 RX3 none) (out : Mm) (K7 : Int32 → Int32 → Mm → Option (Mm)) (hK7 : ∀ (y1 : Int32) (y2 : Int32) , ∀ (σ : Mm) (H : Heap) (locs : List Loc) (ls : Array Slot), ms_I D cA a shX s σ H locs → lv_has ls 3 [(0, .ref (a 8)), (1, .int y1), (2, .int y2)] → K7 y1 y2 σ = some out → W p l e rmX3_draw s m args below meth c H locs 0 0 (MQ below (ms_Qv D cA a shX out) args s 0 0 (ms_A a shX.length)) (F0 m 7 ls [])) : ∀ (y1 : Int32) (y2 : Int32) , ∀ (σ : Mm) (H : Heap) (locs : List Loc) (ls : Array Slot), ms_I D cA a shX s σ H locs → lv_has ls 3 [(0, .ref (a 8)), (1, .int y1), (2, .int y2)] → fX3_draw_74 K7 y1 y2 σ = some out → W p l e rmX3_draw s m args below meth c H locs 0 0 (MQ below (ms_Qv D cA a shX out) args s 0 0 (ms_A a shX.length)) (F0 m 74 ls []) := by
  have hx := Cx.1
  have hb := Cx.2.1
  intro y1 y2 σ H locs ls hI hl h
  unfold fX3_draw_74 at h
  refine lv_iinc (v := y2 + 1) (lv' := [(2, .int (y2 + 1)), (0, .ref (a 8)), (1, .int y1)]) hx hb dX3_draw_74 hl (k := 2) rfl rfl (by decide) rfl (fun ls hl => ?_)
  refine lv_goto (tgt := 7) hx hb dX3_draw_77 rfl ?_
  exact hK7 y1 (y2 + 1) σ _ _ _ hI (lv_sub hl [1, 2, 0] rfl) h
set_option maxHeartbeats 4000000 in
set_option maxRecDepth 100000 in
theorem wX3_draw_7 (Cx : ms_C p s m args meth c D cA a shX cX3_draw 3 RX3 none) (out : Mm) : ∀ (n : Nat), ∀ (y1 : Int32) (y2 : Int32) , ∀ (σ : Mm) (H : Heap) (locs : List Loc) (ls : Array Slot), ms_I D cA a shX s σ H locs → lv_has ls 3 [(0, .ref (a 8)), (1, .int y1), (2, .int y2)] → fX3_draw_7 n y1 y2 σ = some out → W p l e rmX3_draw s m args below meth c H locs 0 0 (MQ below (ms_Qv D cA a shX out) args s 0 0 (ms_A a shX.length)) (F0 m 7 ls []) := by
  have hx := Cx.1
  have hb := Cx.2.1
  intro n
  induction n with
  | zero =>
    intro y1 y2 σ H locs ls hI hl h
    exact nomatch (show none = some out from h)
  | succ n ih =>
    intro y1 y2 σ H locs ls hI hl h
    rw [fX3_draw_7] at h
    refine lv_iload_n hx hb dX3_draw_7 rfl (lv_at hl 2 rfl) ?_
    refine lv_aload_n hx hb dX3_draw_8 rfl (lv_at hl 0 rfl) ?_
    refine gi_X3_3 Cx hI wd_4_4 dX3_draw_9 ?_
    refine lv_icmp_ge (tgt := 80) hx hb dX3_draw_12 rfl (fun hc => ?_) (fun hc => ?_)
    · have h := ms_ifT hc h
      exact ms_rv Cx hI (Option.some.inj h) dX3_draw_80
    · have h := ms_ifF hc h
      refine lv_aload_n hx hb dX3_draw_15 rfl (lv_at hl 0 rfl) ?_
      refine gr_X3_2 Cx hI wd_4_3 dX3_draw_16 ?_
      refine lv_iload_n hx hb dX3_draw_19 rfl (lv_at hl 2 rfl) ?_
      obtain ⟨hg, h⟩ := ms_gE h
      refine ms_ld Cx hI 11 shX_11 hg dX3_draw_20 ?_
      refine lv_iload_n hx hb dX3_draw_21 rfl (lv_at hl 1 rfl) ?_
      obtain ⟨r2, hc1, h⟩ := ms_bdE h
      refine kX7_bit Cx hI hc1 (Or.inr nq_9) (Nat.le_of_ble_eq_true rfl) (Nat.le_of_ble_eq_true rfl) hl.1 (Nat.le_of_ble_eq_true rfl) dX3_draw_22 (fun H locs hI => ?_)
      refine lv_if_ne (tgt := 31) hx hb dX3_draw_25 rfl (fun hc => ?_) (fun hc => ?_)
      · have h := ms_ifF hc h
        refine lv_aload_n hx hb dX3_draw_31 rfl (lv_at hl 0 rfl) ?_
        refine gi_X3_12 Cx hI wd_4_13 dX3_draw_32 ?_
        refine lv_aload_n hx hb dX3_draw_35 rfl (lv_at hl 0 rfl) ?_
        refine gr_X3_1 Cx hI wd_4_2 dX3_draw_36 ?_
        refine lv_iload_n hx hb dX3_draw_39 rfl (lv_at hl 2 rfl) ?_
        obtain ⟨hg, h⟩ := ms_gE h
        refine ms_ld Cx hI 10 shX_10 hg dX3_draw_40 ?_
        refine lv_icmp_lt (tgt := 62) hx hb dX3_draw_41 rfl (fun hc => ?_) (fun hc => ?_)
        · have h := ms_ifT hc h
          refine lv_aload_n hx hb dX3_draw_62 rfl (lv_at hl 0 rfl) ?_
          refine lv_dup hx hb dX3_draw_63 rfl ?_
          refine gi_X3_16 Cx hI wd_4_17 dX3_draw_64 ?_
          refine lv_iconst (v := 1) hx hb dX3_draw_67 rfl ?_
          refine lv_iload_n hx hb dX3_draw_68 rfl (lv_at hl 2 rfl) ?_
          refine lv_ishl hx hb dX3_draw_69 ?_
          refine lv_ior hx hb dX3_draw_70 ?_
          refine pi_X3_16 Cx hI wd_4_17 dX3_draw_71 (fun H locs σ3 eσ3 hI => ?_)
          have h := ms_ltE eσ3 h
          exact wX3_draw_74 Cx out (fX3_draw_7 n) ih y1 y2 σ3 _ _ _ hI (lv_sub hl [0, 1, 2] rfl) h
        · have h := ms_ifF hc h
          refine lv_aload_n hx hb dX3_draw_44 rfl (lv_at hl 0 rfl) ?_
          refine lv_dup hx hb dX3_draw_45 rfl ?_
          refine gi_X3_12 Cx hI wd_4_13 dX3_draw_46 ?_
          refine lv_aload_n hx hb dX3_draw_49 rfl (lv_at hl 0 rfl) ?_
          refine gr_X3_1 Cx hI wd_4_2 dX3_draw_50 ?_
          refine lv_iload_n hx hb dX3_draw_53 rfl (lv_at hl 2 rfl) ?_
          obtain ⟨hg, h⟩ := ms_gE h
          refine ms_ld Cx hI 10 shX_10 hg dX3_draw_54 ?_
          refine lv_isub hx hb dX3_draw_55 ?_
          refine pi_X3_12 Cx hI wd_4_13 dX3_draw_56 (fun H locs σ4 eσ4 hI => ?_)
          have h := ms_ltE eσ4 h
          refine lv_goto (tgt := 74) hx hb dX3_draw_59 rfl ?_
          exact wX3_draw_74 Cx out (fX3_draw_7 n) ih y1 y2 σ4 _ _ _ hI (lv_sub hl [0, 1, 2] rfl) h
      · have h := ms_ifT hc h
        refine lv_goto (tgt := 74) hx hb dX3_draw_28 rfl ?_
        exact wX3_draw_74 Cx out (fX3_draw_7 n) ih y1 y2 σ _ _ _ hI (lv_sub hl [0, 1, 2] rfl) h
set_option maxHeartbeats 4000000 in
set_option maxRecDepth 100000 in
theorem wX3_draw (Cx : ms_C p s m args meth c D cA a shX cX3_draw 3 RX3 none) (out : Mm) : ∀ (p0 : Int32) , ∀ (σ : Mm) (H : Heap) (locs : List Loc) (ls : Array Slot), ms_I D cA a shX s σ H locs → lv_has ls 3 [(0, .ref (a 8)), (1, .int p0)] → fX3_draw p0 σ = some out → W p l e rmX3_draw s m args below meth c H locs 0 0 (MQ below (ms_Qv D cA a shX out) args s 0 0 (ms_A a shX.length)) (F0 m 0 ls []) := by
  have hx := Cx.1
  have hb := Cx.2.1
  intro p0 σ H locs ls hI hl h
  unfold fX3_draw at h
  refine lv_aload_n hx hb dX3_draw_0 rfl (lv_at hl 0 rfl) ?_
  refine lv_iconst (v := 0) hx hb dX3_draw_1 rfl ?_
  refine pi_X3_16 Cx hI wd_4_17 dX3_draw_2 (fun H locs σ1 eσ1 hI => ?_)
  have h := ms_ltE eσ1 h
  refine lv_iconst (v := 0) hx hb dX3_draw_5 rfl ?_
  refine lv_istore_n (lv' := [(2, .int 0), (0, .ref (a 8)), (1, .int p0)]) hx hb dX3_draw_6 rfl hl (by decide) rfl (fun ls hl => ?_)
  exact wX3_draw_7 Cx out  ms_fu p0 0 σ1 _ _ _ hI (lv_sub hl [1, 2, 0] rfl) h
theorem yvX3_draw : ms_YV yX3_draw RX3 cX3_draw 3 none 1 := ⟨wd_23_9, wd_23_10, wd_2_9, wd_23_11, rfl, by decide +kernel, by decide +kernel, by decide +kernel⟩
set_option maxHeartbeats 4000000 in
theorem metX3_draw (l : Launch) (hDis : ms_Dis a shX.length) {σ : Mm} {p0 : Int32} {out : Mm} (h : fX3_draw p0 σ = some out) : Met l yX3_draw (.code yX3_draw cX3_draw 3 none :: wsL_law) rmX3_draw (ms_Pc D cA a shX [.ref (a 8), .int p0] σ) (ms_Qv D cA a shX out) 0 0 (ms_A a shX.length) := by
  refine Met.ofW (cc := cX3_draw) (maxL := 3) (ret := none) (by decide) rfl ?_
  intro p e s m args below meth c s₁ B hml hv
  obtain ⟨rfl, hK, hN, hP⟩ := hv
  have hl := lv_entry ([.ref (a 8), .int p0]) (n := 3) (Nat.le_of_ble_eq_true rfl)
  rw [lg_entry_eq]
  generalize (lg_sl ([.ref (a 8), .int p0]) ++ List.replicate (3 - (lg_sl ([.ref (a 8), .int p0])).length) Slot.unset).toArray = ls at hl ⊢
  exact wX3_draw ⟨B.exec, B.bytes, hml, findClass_of_methodNamed B.named, fun w hw => atoms_spec (ws := .code yX3_draw cX3_draw 3 none :: wsL_law) B.pre w (List.mem_cons_of_mem _ hw), B.returns, B.notSynchronized, hK, hDis, hN⟩ out p0 σ s.heap [] ls ⟨hP, va_S.rf⟩ hl h
theorem kX3_draw (Cx : ms_C p s m args meth c D cA a shX cc nL own ret) {σ : Mm} {H : Heap} {locs : List Loc} (hI : ms_I D cA a shX s σ H locs) {p0 : Int32} {out : Mm} (h : fX3_draw p0 σ = some out) (hl : Cond.methodLink own idx yX3_draw ∈ wsL_law) (hf : 1 + 1 ≤ R.frames) (hlo : 8 + (3 + 11) + 21 ≤ R.locals) (hsz : ls.size = nL) (hW : (rest.map fun v => v.category).sum ≤ 8) (hd : decode cc pc = .ok (.invokevirtual idx, 3)) (kk : ∀ (H1 : Heap) (locs1 : List Loc), ms_I D cA a shX s out H1 locs1 → W p l e R s m args below meth c H1 locs1 0 0 Q (F0 m (pc + 3) ls (rest))) : W p l e R s m args below meth c H locs 0 0 Q (F0 m pc ls (.int p0 :: .ref (a 8) :: rest)) :=
  ms_cv hI (ms_runV (av := [.int p0]) Cx hI 8 shX_8 (ci := 3) rfl rfl yvX3_draw (metX3_draw l Cx.2.2.2.2.2.2.2.2.1  h) ⟨rfl, rfl⟩ hl ⟨hf, hlo⟩ rfl hsz rfl hW ⟨Nat.zero_le _, Nat.zero_le _⟩ hd) kk
/-! X3 pullChain ()V -/
theorem dX3_pullChain_0 : decode cX3_pullChain 0 = .ok (.aload_n 0, 1) := by decide +kernel
theorem dX3_pullChain_1 : decode cX3_pullChain 1 = .ok (.getfield 52, 3) := by decide +kernel
theorem dX3_pullChain_4 : decode cX3_pullChain 4 = .ok (.aload_n 0, 1) := by decide +kernel
theorem dX3_pullChain_5 : decode cX3_pullChain 5 = .ok (.getfield 49, 3) := by decide +kernel
theorem dX3_pullChain_8 : decode cX3_pullChain 8 = .ok (.if_icmp .le 42, 3) := by decide +kernel
theorem dX3_pullChain_11 : decode cX3_pullChain 11 = .ok (.aload_n 0, 1) := by decide +kernel
theorem dX3_pullChain_12 : decode cX3_pullChain 12 = .ok (.getfield 52, 3) := by decide +kernel
theorem dX3_pullChain_15 : decode cX3_pullChain 15 = .ok (.aload_n 0, 1) := by decide +kernel
theorem dX3_pullChain_16 : decode cX3_pullChain 16 = .ok (.getfield 49, 3) := by decide +kernel
theorem dX3_pullChain_19 : decode cX3_pullChain 19 = .ok (.isub, 1) := by decide +kernel
theorem dX3_pullChain_20 : decode cX3_pullChain 20 = .ok (.iconst 2, 1) := by decide +kernel
theorem dX3_pullChain_21 : decode cX3_pullChain 21 = .ok (.idiv, 1) := by decide +kernel
theorem dX3_pullChain_22 : decode cX3_pullChain 22 = .ok (.aload_n 0, 1) := by decide +kernel
theorem dX3_pullChain_23 : decode cX3_pullChain 23 = .ok (.getfield 31, 3) := by decide +kernel
theorem dX3_pullChain_26 : decode cX3_pullChain 26 = .ok (.invokestatic 64, 3) := by decide +kernel
theorem dX3_pullChain_29 : decode cX3_pullChain 29 = .ok (.istore_n 1, 1) := by decide +kernel
theorem dX3_pullChain_30 : decode cX3_pullChain 30 = .ok (.aload_n 0, 1) := by decide +kernel
theorem dX3_pullChain_31 : decode cX3_pullChain 31 = .ok (.iload_n 1, 1) := by decide +kernel
theorem dX3_pullChain_32 : decode cX3_pullChain 32 = .ok (.aload_n 0, 1) := by decide +kernel
theorem dX3_pullChain_33 : decode cX3_pullChain 33 = .ok (.getfield 25, 3) := by decide +kernel
theorem dX3_pullChain_36 : decode cX3_pullChain 36 = .ok (.aload_n 0, 1) := by decide +kernel
theorem dX3_pullChain_37 : decode cX3_pullChain 37 = .ok (.getfield 49, 3) := by decide +kernel
theorem dX3_pullChain_40 : decode cX3_pullChain 40 = .ok (.isub, 1) := by decide +kernel
theorem dX3_pullChain_41 : decode cX3_pullChain 41 = .ok (.invokestatic 64, 3) := by decide +kernel
theorem dX3_pullChain_44 : decode cX3_pullChain 44 = .ok (.putfield 58, 3) := by decide +kernel
theorem dX3_pullChain_47 : decode cX3_pullChain 47 = .ok (.goto 26, 3) := by decide +kernel
theorem dX3_pullChain_50 : decode cX3_pullChain 50 = .ok (.aload_n 0, 1) := by decide +kernel
theorem dX3_pullChain_51 : decode cX3_pullChain 51 = .ok (.aload_n 0, 1) := by decide +kernel
theorem dX3_pullChain_52 : decode cX3_pullChain 52 = .ok (.getfield 49, 3) := by decide +kernel
theorem dX3_pullChain_55 : decode cX3_pullChain 55 = .ok (.aload_n 0, 1) := by decide +kernel
theorem dX3_pullChain_56 : decode cX3_pullChain 56 = .ok (.getfield 52, 3) := by decide +kernel
theorem dX3_pullChain_59 : decode cX3_pullChain 59 = .ok (.isub, 1) := by decide +kernel
theorem dX3_pullChain_60 : decode cX3_pullChain 60 = .ok (.iconst 2, 1) := by decide +kernel
theorem dX3_pullChain_61 : decode cX3_pullChain 61 = .ok (.idiv, 1) := by decide +kernel
theorem dX3_pullChain_62 : decode cX3_pullChain 62 = .ok (.aload_n 0, 1) := by decide +kernel
theorem dX3_pullChain_63 : decode cX3_pullChain 63 = .ok (.getfield 31, 3) := by decide +kernel
theorem dX3_pullChain_66 : decode cX3_pullChain 66 = .ok (.invokestatic 64, 3) := by decide +kernel
theorem dX3_pullChain_69 : decode cX3_pullChain 69 = .ok (.ineg, 1) := by decide +kernel
theorem dX3_pullChain_70 : decode cX3_pullChain 70 = .ok (.putfield 58, 3) := by decide +kernel
theorem dX3_pullChain_73 : decode cX3_pullChain 73 = .ok (.aload_n 0, 1) := by decide +kernel
theorem dX3_pullChain_74 : decode cX3_pullChain 74 = .ok (.dup, 1) := by decide +kernel
theorem dX3_pullChain_75 : decode cX3_pullChain 75 = .ok (.getfield 49, 3) := by decide +kernel
theorem dX3_pullChain_78 : decode cX3_pullChain 78 = .ok (.aload_n 0, 1) := by decide +kernel
theorem dX3_pullChain_79 : decode cX3_pullChain 79 = .ok (.getfield 58, 3) := by decide +kernel
theorem dX3_pullChain_82 : decode cX3_pullChain 82 = .ok (.iadd, 1) := by decide +kernel
theorem dX3_pullChain_83 : decode cX3_pullChain 83 = .ok (.putfield 49, 3) := by decide +kernel
theorem dX3_pullChain_86 : decode cX3_pullChain 86 = .ok (.aload_n 0, 1) := by decide +kernel
theorem dX3_pullChain_87 : decode cX3_pullChain 87 = .ok (.dup, 1) := by decide +kernel
theorem dX3_pullChain_88 : decode cX3_pullChain 88 = .ok (.getfield 52, 3) := by decide +kernel
theorem dX3_pullChain_91 : decode cX3_pullChain 91 = .ok (.aload_n 0, 1) := by decide +kernel
theorem dX3_pullChain_92 : decode cX3_pullChain 92 = .ok (.getfield 58, 3) := by decide +kernel
theorem dX3_pullChain_95 : decode cX3_pullChain 95 = .ok (.isub, 1) := by decide +kernel
theorem dX3_pullChain_96 : decode cX3_pullChain 96 = .ok (.putfield 52, 3) := by decide +kernel
theorem dX3_pullChain_99 : decode cX3_pullChain 99 = .ok (.return_, 1) := by decide +kernel
abbrev rmX3_pullChain : Room := { frames := 1, cells := 0, slots := 0, locals := 14 }
set_option maxHeartbeats 4000000 in
set_option maxRecDepth 100000 in
theorem wX3_pullChain_73 (Cx : ms_C p s m args meth c D cA a shX cX3_pullChain 2 RX3 none) (out : Mm) : ∀ (σ : Mm) (H : Heap) (locs : List Loc) (ls : Array Slot), ms_I D cA a shX s σ H locs → lv_has ls 2 [(0, .ref (a 8))] → fX3_pullChain_73 σ = some out → W p l e rmX3_pullChain s m args below meth c H locs 0 0 (MQ below (ms_Qv D cA a shX out) args s 0 0 (ms_A a shX.length)) (F0 m 73 ls []) := by
  have hx := Cx.1
  have hb := Cx.2.1
  intro σ H locs ls hI hl h
  unfold fX3_pullChain_73 at h
  refine lv_aload_n hx hb dX3_pullChain_73 rfl (lv_at hl 0 rfl) ?_
  refine lv_dup hx hb dX3_pullChain_74 rfl ?_
  refine gi_X3_12 Cx hI wd_4_13 dX3_pullChain_75 ?_
  refine lv_aload_n hx hb dX3_pullChain_78 rfl (lv_at hl 0 rfl) ?_
  refine gi_X3_15 Cx hI wd_4_16 dX3_pullChain_79 ?_
  refine lv_iadd hx hb dX3_pullChain_82 ?_
  refine pi_X3_12 Cx hI wd_4_13 dX3_pullChain_83 (fun H locs σ1 eσ1 hI => ?_)
  have h := ms_ltE eσ1 h
  refine lv_aload_n hx hb dX3_pullChain_86 rfl (lv_at hl 0 rfl) ?_
  refine lv_dup hx hb dX3_pullChain_87 rfl ?_
  refine gi_X3_13 Cx hI wd_4_14 dX3_pullChain_88 ?_
  refine lv_aload_n hx hb dX3_pullChain_91 rfl (lv_at hl 0 rfl) ?_
  refine gi_X3_15 Cx hI wd_4_16 dX3_pullChain_92 ?_
  refine lv_isub hx hb dX3_pullChain_95 ?_
  refine pi_X3_13 Cx hI wd_4_14 dX3_pullChain_96 (fun H locs σ2 eσ2 hI => ?_)
  have h := ms_ltE eσ2 h
  exact ms_rv Cx hI (Option.some.inj h) dX3_pullChain_99
set_option maxHeartbeats 4000000 in
set_option maxRecDepth 100000 in
theorem wX3_pullChain (Cx : ms_C p s m args meth c D cA a shX cX3_pullChain 2 RX3 none) (out : Mm) : ∀ (σ : Mm) (H : Heap) (locs : List Loc) (ls : Array Slot), ms_I D cA a shX s σ H locs → lv_has ls 2 [(0, .ref (a 8))] → fX3_pullChain σ = some out → W p l e rmX3_pullChain s m args below meth c H locs 0 0 (MQ below (ms_Qv D cA a shX out) args s 0 0 (ms_A a shX.length)) (F0 m 0 ls []) := by
  have hx := Cx.1
  have hb := Cx.2.1
  intro σ H locs ls hI hl h
  unfold fX3_pullChain at h
  refine lv_aload_n hx hb dX3_pullChain_0 rfl (lv_at hl 0 rfl) ?_
  refine gi_X3_13 Cx hI wd_4_14 dX3_pullChain_1 ?_
  refine lv_aload_n hx hb dX3_pullChain_4 rfl (lv_at hl 0 rfl) ?_
  refine gi_X3_12 Cx hI wd_4_13 dX3_pullChain_5 ?_
  refine lv_icmp_le (tgt := 50) hx hb dX3_pullChain_8 rfl (fun hc => ?_) (fun hc => ?_)
  · have h := ms_ifT hc h
    refine lv_aload_n hx hb dX3_pullChain_50 rfl (lv_at hl 0 rfl) ?_
    refine lv_aload_n hx hb dX3_pullChain_51 rfl (lv_at hl 0 rfl) ?_
    refine gi_X3_12 Cx hI wd_4_13 dX3_pullChain_52 ?_
    refine lv_aload_n hx hb dX3_pullChain_55 rfl (lv_at hl 0 rfl) ?_
    refine gi_X3_13 Cx hI wd_4_14 dX3_pullChain_56 ?_
    refine lv_isub hx hb dX3_pullChain_59 ?_
    refine lv_iconst (v := 2) hx hb dX3_pullChain_60 rfl ?_
    refine lv_idiv hx hb dX3_pullChain_61 (by decide) ?_
    refine lv_aload_n hx hb dX3_pullChain_62 rfl (lv_at hl 0 rfl) ?_
    refine gi_X3_6 Cx hI wd_4_7 dX3_pullChain_63 ?_
    refine ms_min Cx wd_21_20 hl.1 (Nat.le_of_ble_eq_true rfl) (Nat.le_of_ble_eq_true rfl) ⟨Nat.zero_le _, Nat.zero_le _⟩ dX3_pullChain_66 ?_
    refine lv_ineg hx hb dX3_pullChain_69 ?_
    refine pi_X3_15 Cx hI wd_4_16 dX3_pullChain_70 (fun H locs σ1 eσ1 hI => ?_)
    have h := ms_ltE eσ1 h
    exact wX3_pullChain_73 Cx out  σ1 _ _ _ hI (lv_sub hl [0] rfl) h
  · have h := ms_ifF hc h
    refine lv_aload_n hx hb dX3_pullChain_11 rfl (lv_at hl 0 rfl) ?_
    refine gi_X3_13 Cx hI wd_4_14 dX3_pullChain_12 ?_
    refine lv_aload_n hx hb dX3_pullChain_15 rfl (lv_at hl 0 rfl) ?_
    refine gi_X3_12 Cx hI wd_4_13 dX3_pullChain_16 ?_
    refine lv_isub hx hb dX3_pullChain_19 ?_
    refine lv_iconst (v := 2) hx hb dX3_pullChain_20 rfl ?_
    refine lv_idiv hx hb dX3_pullChain_21 (by decide) ?_
    refine lv_aload_n hx hb dX3_pullChain_22 rfl (lv_at hl 0 rfl) ?_
    refine gi_X3_6 Cx hI wd_4_7 dX3_pullChain_23 ?_
    refine ms_min Cx wd_21_20 hl.1 (Nat.le_of_ble_eq_true rfl) (Nat.le_of_ble_eq_true rfl) ⟨Nat.zero_le _, Nat.zero_le _⟩ dX3_pullChain_26 ?_
    refine lv_topi (fun x2 ex2 => ?_)
    have h := ms_ltE ex2 h
    refine lv_istore_n (lv' := [(1, .int x2), (0, .ref (a 8))]) hx hb dX3_pullChain_29 rfl hl (by decide) rfl (fun ls hl => ?_)
    refine lv_aload_n hx hb dX3_pullChain_30 rfl (lv_at hl 1 rfl) ?_
    refine lv_iload_n hx hb dX3_pullChain_31 rfl (lv_at hl 0 rfl) ?_
    refine lv_aload_n hx hb dX3_pullChain_32 rfl (lv_at hl 1 rfl) ?_
    refine gi_X3_4 Cx hI wd_4_5 dX3_pullChain_33 ?_
    refine lv_aload_n hx hb dX3_pullChain_36 rfl (lv_at hl 1 rfl) ?_
    refine gi_X3_12 Cx hI wd_4_13 dX3_pullChain_37 ?_
    refine lv_isub hx hb dX3_pullChain_40 ?_
    refine ms_min Cx wd_21_20 hl.1 (Nat.le_of_ble_eq_true rfl) (Nat.le_of_ble_eq_true rfl) ⟨Nat.zero_le _, Nat.zero_le _⟩ dX3_pullChain_41 ?_
    refine pi_X3_15 Cx hI wd_4_16 dX3_pullChain_44 (fun H locs σ3 eσ3 hI => ?_)
    have h := ms_ltE eσ3 h
    refine lv_goto (tgt := 73) hx hb dX3_pullChain_47 rfl ?_
    exact wX3_pullChain_73 Cx out  σ3 _ _ _ hI (lv_sub hl [1] rfl) h
theorem yvX3_pullChain : ms_YV yX3_pullChain RX3 cX3_pullChain 2 none 0 := ⟨wd_23_13, wd_23_14, wd_2_9, wd_23_15, rfl, by decide +kernel, by decide +kernel, by decide +kernel⟩
set_option maxHeartbeats 4000000 in
theorem metX3_pullChain (l : Launch) (hDis : ms_Dis a shX.length) {σ : Mm} {out : Mm} (h : fX3_pullChain σ = some out) : Met l yX3_pullChain (.code yX3_pullChain cX3_pullChain 2 none :: wsL_law) rmX3_pullChain (ms_Pc D cA a shX [.ref (a 8)] σ) (ms_Qv D cA a shX out) 0 0 (ms_A a shX.length) := by
  refine Met.ofW (cc := cX3_pullChain) (maxL := 2) (ret := none) (by decide) rfl ?_
  intro p e s m args below meth c s₁ B hml hv
  obtain ⟨rfl, hK, hN, hP⟩ := hv
  have hl := lv_entry ([.ref (a 8)]) (n := 2) (Nat.le_of_ble_eq_true rfl)
  rw [lg_entry_eq]
  generalize (lg_sl ([.ref (a 8)]) ++ List.replicate (2 - (lg_sl ([.ref (a 8)])).length) Slot.unset).toArray = ls at hl ⊢
  exact wX3_pullChain ⟨B.exec, B.bytes, hml, findClass_of_methodNamed B.named, fun w hw => atoms_spec (ws := .code yX3_pullChain cX3_pullChain 2 none :: wsL_law) B.pre w (List.mem_cons_of_mem _ hw), B.returns, B.notSynchronized, hK, hDis, hN⟩ out σ s.heap [] ls ⟨hP, va_S.rf⟩ hl h
theorem kX3_pullChain (Cx : ms_C p s m args meth c D cA a shX cc nL own ret) {σ : Mm} {H : Heap} {locs : List Loc} (hI : ms_I D cA a shX s σ H locs) {out : Mm} (h : fX3_pullChain σ = some out) (hl : Cond.methodLink own idx yX3_pullChain ∈ wsL_law) (hf : 1 + 1 ≤ R.frames) (hlo : 8 + (2 + 11) + 14 ≤ R.locals) (hsz : ls.size = nL) (hW : (rest.map fun v => v.category).sum ≤ 8) (hd : decode cc pc = .ok (.invokevirtual idx, 3)) (kk : ∀ (H1 : Heap) (locs1 : List Loc), ms_I D cA a shX s out H1 locs1 → W p l e R s m args below meth c H1 locs1 0 0 Q (F0 m (pc + 3) ls (rest))) : W p l e R s m args below meth c H locs 0 0 Q (F0 m pc ls (.ref (a 8) :: rest)) :=
  ms_cv hI (ms_runV (av := []) Cx hI 8 shX_8 (ci := 3) rfl rfl yvX3_pullChain (metX3_pullChain l Cx.2.2.2.2.2.2.2.2.1  h) ⟨rfl, rfl⟩ hl ⟨hf, hlo⟩ rfl hsz rfl hW ⟨Nat.zero_le _, Nat.zero_le _⟩ hd) kk
/-! X3 turn (I)V -/
theorem dX3_turn_0 : decode cX3_turn 0 = .ok (.iload_n 1, 1) := by decide +kernel
theorem dX3_turn_1 : decode cX3_turn 1 = .ok (.aload_n 0, 1) := by decide +kernel
theorem dX3_turn_2 : decode cX3_turn 2 = .ok (.getfield 43, 3) := by decide +kernel
theorem dX3_turn_5 : decode cX3_turn 5 = .ok (.if_icmp .ne 23, 3) := by decide +kernel
theorem dX3_turn_8 : decode cX3_turn 8 = .ok (.aload_n 0, 1) := by decide +kernel
theorem dX3_turn_9 : decode cX3_turn 9 = .ok (.dup, 1) := by decide +kernel
theorem dX3_turn_10 : decode cX3_turn 10 = .ok (.getfield 49, 3) := by decide +kernel
theorem dX3_turn_13 : decode cX3_turn 13 = .ok (.aload_n 0, 1) := by decide +kernel
theorem dX3_turn_14 : decode cX3_turn 14 = .ok (.getfield 46, 3) := by decide +kernel
theorem dX3_turn_17 : decode cX3_turn 17 = .ok (.aload_n 0, 1) := by decide +kernel
theorem dX3_turn_18 : decode cX3_turn 18 = .ok (.getfield 49, 3) := by decide +kernel
theorem dX3_turn_21 : decode cX3_turn 21 = .ok (.invokestatic 64, 3) := by decide +kernel
theorem dX3_turn_24 : decode cX3_turn 24 = .ok (.isub, 1) := by decide +kernel
theorem dX3_turn_25 : decode cX3_turn 25 = .ok (.putfield 49, 3) := by decide +kernel
theorem dX3_turn_28 : decode cX3_turn 28 = .ok (.aload_n 0, 1) := by decide +kernel
theorem dX3_turn_29 : decode cX3_turn 29 = .ok (.getfield 9, 3) := by decide +kernel
theorem dX3_turn_32 : decode cX3_turn 32 = .ok (.iload_n 1, 1) := by decide +kernel
theorem dX3_turn_33 : decode cX3_turn 33 = .ok (.iaload, 1) := by decide +kernel
theorem dX3_turn_34 : decode cX3_turn 34 = .ok (.aload_n 0, 1) := by decide +kernel
theorem dX3_turn_35 : decode cX3_turn 35 = .ok (.getfield 25, 3) := by decide +kernel
theorem dX3_turn_38 : decode cX3_turn 38 = .ok (.aload_n 0, 1) := by decide +kernel
theorem dX3_turn_39 : decode cX3_turn 39 = .ok (.getfield 49, 3) := by decide +kernel
theorem dX3_turn_42 : decode cX3_turn 42 = .ok (.isub, 1) := by decide +kernel
theorem dX3_turn_43 : decode cX3_turn 43 = .ok (.invokestatic 64, 3) := by decide +kernel
theorem dX3_turn_46 : decode cX3_turn 46 = .ok (.istore_n 2, 1) := by decide +kernel
theorem dX3_turn_47 : decode cX3_turn 47 = .ok (.aload_n 0, 1) := by decide +kernel
theorem dX3_turn_48 : decode cX3_turn 48 = .ok (.aload_n 0, 1) := by decide +kernel
theorem dX3_turn_49 : decode cX3_turn 49 = .ok (.getfield 9, 3) := by decide +kernel
theorem dX3_turn_52 : decode cX3_turn 52 = .ok (.iload_n 1, 1) := by decide +kernel
theorem dX3_turn_53 : decode cX3_turn 53 = .ok (.iaload, 1) := by decide +kernel
theorem dX3_turn_54 : decode cX3_turn 54 = .ok (.iload_n 2, 1) := by decide +kernel
theorem dX3_turn_55 : decode cX3_turn 55 = .ok (.isub, 1) := by decide +kernel
theorem dX3_turn_56 : decode cX3_turn 56 = .ok (.putfield 55, 3) := by decide +kernel
theorem dX3_turn_59 : decode cX3_turn 59 = .ok (.aload_n 0, 1) := by decide +kernel
theorem dX3_turn_60 : decode cX3_turn 60 = .ok (.dup, 1) := by decide +kernel
theorem dX3_turn_61 : decode cX3_turn 61 = .ok (.getfield 49, 3) := by decide +kernel
theorem dX3_turn_64 : decode cX3_turn 64 = .ok (.iload_n 2, 1) := by decide +kernel
theorem dX3_turn_65 : decode cX3_turn 65 = .ok (.iadd, 1) := by decide +kernel
theorem dX3_turn_66 : decode cX3_turn 66 = .ok (.putfield 49, 3) := by decide +kernel
theorem dX3_turn_69 : decode cX3_turn 69 = .ok (.aload_n 0, 1) := by decide +kernel
theorem dX3_turn_70 : decode cX3_turn 70 = .ok (.iload_n 1, 1) := by decide +kernel
theorem dX3_turn_71 : decode cX3_turn 71 = .ok (.invokevirtual 70, 3) := by decide +kernel
theorem dX3_turn_74 : decode cX3_turn 74 = .ok (.aload_n 0, 1) := by decide +kernel
theorem dX3_turn_75 : decode cX3_turn 75 = .ok (.dup, 1) := by decide +kernel
theorem dX3_turn_76 : decode cX3_turn 76 = .ok (.getfield 49, 3) := by decide +kernel
theorem dX3_turn_79 : decode cX3_turn 79 = .ok (.aload_n 0, 1) := by decide +kernel
theorem dX3_turn_80 : decode cX3_turn 80 = .ok (.getfield 49, 3) := by decide +kernel
theorem dX3_turn_83 : decode cX3_turn 83 = .ok (.aload_n 0, 1) := by decide +kernel
theorem dX3_turn_84 : decode cX3_turn 84 = .ok (.getfield 28, 3) := by decide +kernel
theorem dX3_turn_87 : decode cX3_turn 87 = .ok (.imul, 1) := by decide +kernel
theorem dX3_turn_88 : decode cX3_turn 88 = .ok (.bipush 100, 2) := by decide +kernel
theorem dX3_turn_90 : decode cX3_turn 90 = .ok (.idiv, 1) := by decide +kernel
theorem dX3_turn_91 : decode cX3_turn 91 = .ok (.isub, 1) := by decide +kernel
theorem dX3_turn_92 : decode cX3_turn 92 = .ok (.putfield 49, 3) := by decide +kernel
theorem dX3_turn_95 : decode cX3_turn 95 = .ok (.aload_n 0, 1) := by decide +kernel
theorem dX3_turn_96 : decode cX3_turn 96 = .ok (.dup, 1) := by decide +kernel
theorem dX3_turn_97 : decode cX3_turn 97 = .ok (.getfield 52, 3) := by decide +kernel
theorem dX3_turn_100 : decode cX3_turn 100 = .ok (.aload_n 0, 1) := by decide +kernel
theorem dX3_turn_101 : decode cX3_turn 101 = .ok (.getfield 34, 3) := by decide +kernel
theorem dX3_turn_104 : decode cX3_turn 104 = .ok (.aload_n 0, 1) := by decide +kernel
theorem dX3_turn_105 : decode cX3_turn 105 = .ok (.getfield 52, 3) := by decide +kernel
theorem dX3_turn_108 : decode cX3_turn 108 = .ok (.invokestatic 64, 3) := by decide +kernel
theorem dX3_turn_111 : decode cX3_turn 111 = .ok (.isub, 1) := by decide +kernel
theorem dX3_turn_112 : decode cX3_turn 112 = .ok (.putfield 52, 3) := by decide +kernel
theorem dX3_turn_115 : decode cX3_turn 115 = .ok (.aload_n 0, 1) := by decide +kernel
theorem dX3_turn_116 : decode cX3_turn 116 = .ok (.invokevirtual 74, 3) := by decide +kernel
theorem dX3_turn_119 : decode cX3_turn 119 = .ok (.return_, 1) := by decide +kernel
abbrev rmX3_turn : Room := { frames := 2, cells := 0, slots := 0, locals := 43 }
set_option maxHeartbeats 4000000 in
set_option maxRecDepth 100000 in
theorem wX3_turn_28 (Cx : ms_C p s m args meth c D cA a shX cX3_turn 3 RX3 none) (out : Mm) : ∀ (y1 : Int32) , ∀ (σ : Mm) (H : Heap) (locs : List Loc) (ls : Array Slot), ms_I D cA a shX s σ H locs → lv_has ls 3 [(0, .ref (a 8)), (1, .int y1)] → fX3_turn_28 y1 σ = some out → W p l e rmX3_turn s m args below meth c H locs 0 0 (MQ below (ms_Qv D cA a shX out) args s 0 0 (ms_A a shX.length)) (F0 m 28 ls []) := by
  have hx := Cx.1
  have hb := Cx.2.1
  intro y1 σ H locs ls hI hl h
  unfold fX3_turn_28 at h
  refine lv_aload_n hx hb dX3_turn_28 rfl (lv_at hl 0 rfl) ?_
  refine gr_X3_0 Cx hI wd_4_1 dX3_turn_29 ?_
  refine lv_iload_n hx hb dX3_turn_32 rfl (lv_at hl 1 rfl) ?_
  obtain ⟨hg, h⟩ := ms_gE h
  refine ms_ld Cx hI 9 shX_9 hg dX3_turn_33 ?_
  refine lv_aload_n hx hb dX3_turn_34 rfl (lv_at hl 0 rfl) ?_
  refine gi_X3_4 Cx hI wd_4_5 dX3_turn_35 ?_
  refine lv_aload_n hx hb dX3_turn_38 rfl (lv_at hl 0 rfl) ?_
  refine gi_X3_12 Cx hI wd_4_13 dX3_turn_39 ?_
  refine lv_isub hx hb dX3_turn_42 ?_
  refine ms_min Cx wd_21_20 hl.1 (Nat.le_of_ble_eq_true rfl) (Nat.le_of_ble_eq_true rfl) ⟨Nat.zero_le _, Nat.zero_le _⟩ dX3_turn_43 ?_
  refine lv_topi (fun x1 ex1 => ?_)
  have h := ms_ltE ex1 h
  refine lv_istore_n (lv' := [(2, .int x1), (0, .ref (a 8)), (1, .int y1)]) hx hb dX3_turn_46 rfl hl (by decide) rfl (fun ls hl => ?_)
  refine lv_aload_n hx hb dX3_turn_47 rfl (lv_at hl 1 rfl) ?_
  refine lv_aload_n hx hb dX3_turn_48 rfl (lv_at hl 1 rfl) ?_
  refine gr_X3_0 Cx hI wd_4_1 dX3_turn_49 ?_
  refine lv_iload_n hx hb dX3_turn_52 rfl (lv_at hl 2 rfl) ?_
  obtain ⟨hg, h⟩ := ms_gE h
  refine ms_ld Cx hI 9 shX_9 hg dX3_turn_53 ?_
  refine lv_iload_n hx hb dX3_turn_54 rfl (lv_at hl 0 rfl) ?_
  refine lv_isub hx hb dX3_turn_55 ?_
  refine pi_X3_14 Cx hI wd_4_15 dX3_turn_56 (fun H locs σ2 eσ2 hI => ?_)
  have h := ms_ltE eσ2 h
  refine lv_aload_n hx hb dX3_turn_59 rfl (lv_at hl 1 rfl) ?_
  refine lv_dup hx hb dX3_turn_60 rfl ?_
  refine gi_X3_12 Cx hI wd_4_13 dX3_turn_61 ?_
  refine lv_iload_n hx hb dX3_turn_64 rfl (lv_at hl 0 rfl) ?_
  refine lv_iadd hx hb dX3_turn_65 ?_
  refine pi_X3_12 Cx hI wd_4_13 dX3_turn_66 (fun H locs σ3 eσ3 hI => ?_)
  have h := ms_ltE eσ3 h
  refine lv_aload_n hx hb dX3_turn_69 rfl (lv_at hl 1 rfl) ?_
  refine lv_iload_n hx hb dX3_turn_70 rfl (lv_at hl 2 rfl) ?_
  obtain ⟨σ5, hc4, h⟩ := ms_bdE h
  refine kX3_draw Cx hI hc4 wd_23_8 (Nat.le_of_ble_eq_true rfl) (Nat.le_of_ble_eq_true rfl) hl.1 (Nat.le_of_ble_eq_true rfl) dX3_turn_71 (fun H locs hI => ?_)
  refine lv_aload_n hx hb dX3_turn_74 rfl (lv_at hl 1 rfl) ?_
  refine lv_dup hx hb dX3_turn_75 rfl ?_
  refine gi_X3_12 Cx hI wd_4_13 dX3_turn_76 ?_
  refine lv_aload_n hx hb dX3_turn_79 rfl (lv_at hl 1 rfl) ?_
  refine gi_X3_12 Cx hI wd_4_13 dX3_turn_80 ?_
  refine lv_aload_n hx hb dX3_turn_83 rfl (lv_at hl 1 rfl) ?_
  refine gi_X3_5 Cx hI wd_4_6 dX3_turn_84 ?_
  refine lv_imul hx hb dX3_turn_87 ?_
  refine lv_bipush (v := 100) hx hb dX3_turn_88 rfl ?_
  refine lv_idiv hx hb dX3_turn_90 (by decide) ?_
  refine lv_isub hx hb dX3_turn_91 ?_
  refine pi_X3_12 Cx hI wd_4_13 dX3_turn_92 (fun H locs σ6 eσ6 hI => ?_)
  have h := ms_ltE eσ6 h
  refine lv_aload_n hx hb dX3_turn_95 rfl (lv_at hl 1 rfl) ?_
  refine lv_dup hx hb dX3_turn_96 rfl ?_
  refine gi_X3_13 Cx hI wd_4_14 dX3_turn_97 ?_
  refine lv_aload_n hx hb dX3_turn_100 rfl (lv_at hl 1 rfl) ?_
  refine gi_X3_7 Cx hI wd_4_8 dX3_turn_101 ?_
  refine lv_aload_n hx hb dX3_turn_104 rfl (lv_at hl 1 rfl) ?_
  refine gi_X3_13 Cx hI wd_4_14 dX3_turn_105 ?_
  refine ms_min Cx wd_21_20 hl.1 (Nat.le_of_ble_eq_true rfl) (Nat.le_of_ble_eq_true rfl) ⟨Nat.zero_le _, Nat.zero_le _⟩ dX3_turn_108 ?_
  refine lv_isub hx hb dX3_turn_111 ?_
  refine pi_X3_13 Cx hI wd_4_14 dX3_turn_112 (fun H locs σ7 eσ7 hI => ?_)
  have h := ms_ltE eσ7 h
  refine lv_aload_n hx hb dX3_turn_115 rfl (lv_at hl 1 rfl) ?_
  obtain ⟨σ9, hc8, h⟩ := ms_bdE h
  refine kX3_pullChain Cx hI hc8 wd_23_12 (Nat.le_of_ble_eq_true rfl) (Nat.le_of_ble_eq_true rfl) hl.1 (Nat.le_of_ble_eq_true rfl) dX3_turn_116 (fun H locs hI => ?_)
  exact ms_rv Cx hI (Option.some.inj h) dX3_turn_119
set_option maxHeartbeats 4000000 in
set_option maxRecDepth 100000 in
theorem wX3_turn (Cx : ms_C p s m args meth c D cA a shX cX3_turn 3 RX3 none) (out : Mm) : ∀ (p0 : Int32) , ∀ (σ : Mm) (H : Heap) (locs : List Loc) (ls : Array Slot), ms_I D cA a shX s σ H locs → lv_has ls 3 [(0, .ref (a 8)), (1, .int p0)] → fX3_turn p0 σ = some out → W p l e rmX3_turn s m args below meth c H locs 0 0 (MQ below (ms_Qv D cA a shX out) args s 0 0 (ms_A a shX.length)) (F0 m 0 ls []) := by
  have hx := Cx.1
  have hb := Cx.2.1
  intro p0 σ H locs ls hI hl h
  unfold fX3_turn at h
  refine lv_iload_n hx hb dX3_turn_0 rfl (lv_at hl 1 rfl) ?_
  refine lv_aload_n hx hb dX3_turn_1 rfl (lv_at hl 0 rfl) ?_
  refine gi_X3_10 Cx hI wd_4_11 dX3_turn_2 ?_
  refine lv_icmp_ne (tgt := 28) hx hb dX3_turn_5 rfl (fun hc => ?_) (fun hc => ?_)
  · have h := ms_ifF hc h
    exact wX3_turn_28 Cx out  p0 σ _ _ _ hI (lv_sub hl [0, 1] rfl) h
  · have h := ms_ifT hc h
    refine lv_aload_n hx hb dX3_turn_8 rfl (lv_at hl 0 rfl) ?_
    refine lv_dup hx hb dX3_turn_9 rfl ?_
    refine gi_X3_12 Cx hI wd_4_13 dX3_turn_10 ?_
    refine lv_aload_n hx hb dX3_turn_13 rfl (lv_at hl 0 rfl) ?_
    refine gi_X3_11 Cx hI wd_4_12 dX3_turn_14 ?_
    refine lv_aload_n hx hb dX3_turn_17 rfl (lv_at hl 0 rfl) ?_
    refine gi_X3_12 Cx hI wd_4_13 dX3_turn_18 ?_
    refine ms_min Cx wd_21_20 hl.1 (Nat.le_of_ble_eq_true rfl) (Nat.le_of_ble_eq_true rfl) ⟨Nat.zero_le _, Nat.zero_le _⟩ dX3_turn_21 ?_
    refine lv_isub hx hb dX3_turn_24 ?_
    refine pi_X3_12 Cx hI wd_4_13 dX3_turn_25 (fun H locs σ1 eσ1 hI => ?_)
    have h := ms_ltE eσ1 h
    exact wX3_turn_28 Cx out  p0 σ1 _ _ _ hI (lv_sub hl [0, 1] rfl) h
theorem yvX3_turn : ms_YV yX3_turn RX3 cX3_turn 3 none 1 := ⟨wd_23_5, wd_23_6, wd_2_9, wd_23_7, rfl, by decide +kernel, by decide +kernel, by decide +kernel⟩
set_option maxHeartbeats 4000000 in
theorem metX3_turn (l : Launch) (hDis : ms_Dis a shX.length) {σ : Mm} {p0 : Int32} {out : Mm} (h : fX3_turn p0 σ = some out) : Met l yX3_turn (.code yX3_turn cX3_turn 3 none :: wsL_law) rmX3_turn (ms_Pc D cA a shX [.ref (a 8), .int p0] σ) (ms_Qv D cA a shX out) 0 0 (ms_A a shX.length) := by
  refine Met.ofW (cc := cX3_turn) (maxL := 3) (ret := none) (by decide) rfl ?_
  intro p e s m args below meth c s₁ B hml hv
  obtain ⟨rfl, hK, hN, hP⟩ := hv
  have hl := lv_entry ([.ref (a 8), .int p0]) (n := 3) (Nat.le_of_ble_eq_true rfl)
  rw [lg_entry_eq]
  generalize (lg_sl ([.ref (a 8), .int p0]) ++ List.replicate (3 - (lg_sl ([.ref (a 8), .int p0])).length) Slot.unset).toArray = ls at hl ⊢
  exact wX3_turn ⟨B.exec, B.bytes, hml, findClass_of_methodNamed B.named, fun w hw => atoms_spec (ws := .code yX3_turn cX3_turn 3 none :: wsL_law) B.pre w (List.mem_cons_of_mem _ hw), B.returns, B.notSynchronized, hK, hDis, hN⟩ out p0 σ s.heap [] ls ⟨hP, va_S.rf⟩ hl h
theorem kX3_turn (Cx : ms_C p s m args meth c D cA a shX cc nL own ret) {σ : Mm} {H : Heap} {locs : List Loc} (hI : ms_I D cA a shX s σ H locs) {p0 : Int32} {out : Mm} (h : fX3_turn p0 σ = some out) (hl : Cond.methodLink own idx yX3_turn ∈ wsL_law) (hf : 2 + 1 ≤ R.frames) (hlo : 8 + (3 + 11) + 43 ≤ R.locals) (hsz : ls.size = nL) (hW : (rest.map fun v => v.category).sum ≤ 8) (hd : decode cc pc = .ok (.invokevirtual idx, 3)) (kk : ∀ (H1 : Heap) (locs1 : List Loc), ms_I D cA a shX s out H1 locs1 → W p l e R s m args below meth c H1 locs1 0 0 Q (F0 m (pc + 3) ls (rest))) : W p l e R s m args below meth c H locs 0 0 Q (F0 m pc ls (.int p0 :: .ref (a 8) :: rest)) :=
  ms_cv hI (ms_runV (av := [.int p0]) Cx hI 8 shX_8 (ci := 3) rfl rfl yvX3_turn (metX3_turn l Cx.2.2.2.2.2.2.2.2.1  h) ⟨rfl, rfl⟩ hl ⟨hf, hlo⟩ rfl hsz rfl hW ⟨Nat.zero_le _, Nat.zero_le _⟩ hd) kk
/-! X0 record (LMarketSpring$Spring;)V -/
theorem dX0_record_0 : decode cX0_record 0 = .ok (.aload_n 1, 1) := by decide +kernel
theorem dX0_record_1 : decode cX0_record 1 = .ok (.invokevirtual 31, 3) := by decide +kernel
theorem dX0_record_4 : decode cX0_record 4 = .ok (.iconst 0, 1) := by decide +kernel
theorem dX0_record_5 : decode cX0_record 5 = .ok (.istore_n 2, 1) := by decide +kernel
theorem dX0_record_6 : decode cX0_record 6 = .ok (.iload_n 2, 1) := by decide +kernel
theorem dX0_record_7 : decode cX0_record 7 = .ok (.sipush 240, 3) := by decide +kernel
theorem dX0_record_10 : decode cX0_record 10 = .ok (.if_icmp .ge 67, 3) := by decide +kernel
theorem dX0_record_13 : decode cX0_record 13 = .ok (.aload_n 1, 1) := by decide +kernel
theorem dX0_record_14 : decode cX0_record 14 = .ok (.iload_n 2, 1) := by decide +kernel
theorem dX0_record_15 : decode cX0_record 15 = .ok (.bipush 24, 2) := by decide +kernel
theorem dX0_record_17 : decode cX0_record 17 = .ok (.irem, 1) := by decide +kernel
theorem dX0_record_18 : decode cX0_record 18 = .ok (.invokevirtual 36, 3) := by decide +kernel
theorem dX0_record_21 : decode cX0_record 21 = .ok (.aload_n 0, 1) := by decide +kernel
theorem dX0_record_22 : decode cX0_record 22 = .ok (.getfield 9, 3) := by decide +kernel
theorem dX0_record_25 : decode cX0_record 25 = .ok (.iload_n 2, 1) := by decide +kernel
theorem dX0_record_26 : decode cX0_record 26 = .ok (.aload_n 1, 1) := by decide +kernel
theorem dX0_record_27 : decode cX0_record 27 = .ok (.getfield 40, 3) := by decide +kernel
theorem dX0_record_30 : decode cX0_record 30 = .ok (.iastore, 1) := by decide +kernel
theorem dX0_record_31 : decode cX0_record 31 = .ok (.aload_n 0, 1) := by decide +kernel
theorem dX0_record_32 : decode cX0_record 32 = .ok (.getfield 15, 3) := by decide +kernel
theorem dX0_record_35 : decode cX0_record 35 = .ok (.iload_n 2, 1) := by decide +kernel
theorem dX0_record_36 : decode cX0_record 36 = .ok (.aload_n 1, 1) := by decide +kernel
theorem dX0_record_37 : decode cX0_record 37 = .ok (.getfield 44, 3) := by decide +kernel
theorem dX0_record_40 : decode cX0_record 40 = .ok (.iastore, 1) := by decide +kernel
theorem dX0_record_41 : decode cX0_record 41 = .ok (.aload_n 0, 1) := by decide +kernel
theorem dX0_record_42 : decode cX0_record 42 = .ok (.getfield 18, 3) := by decide +kernel
theorem dX0_record_45 : decode cX0_record 45 = .ok (.iload_n 2, 1) := by decide +kernel
theorem dX0_record_46 : decode cX0_record 46 = .ok (.aload_n 1, 1) := by decide +kernel
theorem dX0_record_47 : decode cX0_record 47 = .ok (.getfield 47, 3) := by decide +kernel
theorem dX0_record_50 : decode cX0_record 50 = .ok (.iastore, 1) := by decide +kernel
theorem dX0_record_51 : decode cX0_record 51 = .ok (.aload_n 0, 1) := by decide +kernel
theorem dX0_record_52 : decode cX0_record 52 = .ok (.getfield 21, 3) := by decide +kernel
theorem dX0_record_55 : decode cX0_record 55 = .ok (.iload_n 2, 1) := by decide +kernel
theorem dX0_record_56 : decode cX0_record 56 = .ok (.aload_n 1, 1) := by decide +kernel
theorem dX0_record_57 : decode cX0_record 57 = .ok (.getfield 50, 3) := by decide +kernel
theorem dX0_record_60 : decode cX0_record 60 = .ok (.iastore, 1) := by decide +kernel
theorem dX0_record_61 : decode cX0_record 61 = .ok (.aload_n 0, 1) := by decide +kernel
theorem dX0_record_62 : decode cX0_record 62 = .ok (.getfield 24, 3) := by decide +kernel
theorem dX0_record_65 : decode cX0_record 65 = .ok (.iload_n 2, 1) := by decide +kernel
theorem dX0_record_66 : decode cX0_record 66 = .ok (.aload_n 1, 1) := by decide +kernel
theorem dX0_record_67 : decode cX0_record 67 = .ok (.getfield 52, 3) := by decide +kernel
theorem dX0_record_70 : decode cX0_record 70 = .ok (.iastore, 1) := by decide +kernel
theorem dX0_record_71 : decode cX0_record 71 = .ok (.iinc 2 1, 3) := by decide +kernel
theorem dX0_record_74 : decode cX0_record 74 = .ok (.goto (-68), 3) := by decide +kernel
theorem dX0_record_77 : decode cX0_record 77 = .ok (.aload_n 0, 1) := by decide +kernel
theorem dX0_record_78 : decode cX0_record 78 = .ok (.iconst 1, 1) := by decide +kernel
theorem dX0_record_79 : decode cX0_record 79 = .ok (.putfield 27, 3) := by decide +kernel
theorem dX0_record_82 : decode cX0_record 82 = .ok (.return_, 1) := by decide +kernel
abbrev rmX0_record : Room := { frames := 3, cells := 0, slots := 0, locals := 65 }
set_option maxHeartbeats 4000000 in
set_option maxRecDepth 100000 in
theorem wX0_record_6 (Cx : ms_C p s m args meth c D cA a shX cX0_record 3 RX0 none) (out : Mm) : ∀ (n : Nat), ∀ (y1 : Int32) , ∀ (σ : Mm) (H : Heap) (locs : List Loc) (ls : Array Slot), ms_I D cA a shX s σ H locs → lv_has ls 3 [(0, .ref (a 12)), (1, .ref (a 8)), (2, .int y1)] → fX0_record_6 n y1 σ = some out → W p l e rmX0_record s m args below meth c H locs 0 0 (MQ below (ms_Qv D cA a shX out) args s 0 0 (ms_A a shX.length)) (F0 m 6 ls []) := by
  have hx := Cx.1
  have hb := Cx.2.1
  intro n
  induction n with
  | zero =>
    intro y1 σ H locs ls hI hl h
    exact nomatch (show none = some out from h)
  | succ n ih =>
    intro y1 σ H locs ls hI hl h
    rw [fX0_record_6] at h
    refine lv_iload_n hx hb dX0_record_6 rfl (lv_at hl 2 rfl) ?_
    refine lv_sipush (v := 240) hx hb dX0_record_7 rfl ?_
    refine lv_icmp_ge (tgt := 77) hx hb dX0_record_10 rfl (fun hc => ?_) (fun hc => ?_)
    · have h := ms_ifT hc h
      refine lv_aload_n hx hb dX0_record_77 rfl (lv_at hl 0 rfl) ?_
      refine lv_iconst (v := 1) hx hb dX0_record_78 rfl ?_
      refine pi_X0_5 Cx hI (Or.inr rfl) wd_5_2 dX0_record_79 (fun H locs σ1 eσ1 hI => ?_)
      have h := ms_ltE eσ1 h
      exact ms_rv Cx hI (Option.some.inj h) dX0_record_82
    · have h := ms_ifF hc h
      refine lv_aload_n hx hb dX0_record_13 rfl (lv_at hl 1 rfl) ?_
      refine lv_iload_n hx hb dX0_record_14 rfl (lv_at hl 2 rfl) ?_
      refine lv_bipush (v := 24) hx hb dX0_record_15 rfl ?_
      refine ms_lrem hx hb dX0_record_17 (by decide) ?_
      obtain ⟨σ3, hc2, h⟩ := ms_bdE h
      refine kX3_turn Cx hI hc2 wd_23_4 (Nat.le_of_ble_eq_true rfl) (Nat.le_of_ble_eq_true rfl) hl.1 (Nat.le_of_ble_eq_true rfl) dX0_record_18 (fun H locs hI => ?_)
      refine lv_aload_n hx hb dX0_record_21 rfl (lv_at hl 0 rfl) ?_
      refine gr_X0_0 Cx hI wd_4_21 dX0_record_22 ?_
      refine lv_iload_n hx hb dX0_record_25 rfl (lv_at hl 2 rfl) ?_
      refine lv_aload_n hx hb dX0_record_26 rfl (lv_at hl 1 rfl) ?_
      refine gi_X3_12 Cx hI wd_22_19 dX0_record_27 ?_
      obtain ⟨hg, h⟩ := ms_gE h
      refine ms_sto Cx hI 13 shX_13 hg dX0_record_30 (fun H locs σ4 eσ4 hI => ?_)
      have h := ms_ltE eσ4 h
      refine lv_aload_n hx hb dX0_record_31 rfl (lv_at hl 0 rfl) ?_
      refine gr_X0_1 Cx hI wd_4_22 dX0_record_32 ?_
      refine lv_iload_n hx hb dX0_record_35 rfl (lv_at hl 2 rfl) ?_
      refine lv_aload_n hx hb dX0_record_36 rfl (lv_at hl 1 rfl) ?_
      refine gi_X3_13 Cx hI wd_22_20 dX0_record_37 ?_
      obtain ⟨hg, h⟩ := ms_gE h
      refine ms_sto Cx hI 14 shX_14 hg dX0_record_40 (fun H locs σ5 eσ5 hI => ?_)
      have h := ms_ltE eσ5 h
      refine lv_aload_n hx hb dX0_record_41 rfl (lv_at hl 0 rfl) ?_
      refine gr_X0_2 Cx hI wd_4_23 dX0_record_42 ?_
      refine lv_iload_n hx hb dX0_record_45 rfl (lv_at hl 2 rfl) ?_
      refine lv_aload_n hx hb dX0_record_46 rfl (lv_at hl 1 rfl) ?_
      refine gi_X3_15 Cx hI wd_22_21 dX0_record_47 ?_
      obtain ⟨hg, h⟩ := ms_gE h
      refine ms_sto Cx hI 15 shX_15 hg dX0_record_50 (fun H locs σ6 eσ6 hI => ?_)
      have h := ms_ltE eσ6 h
      refine lv_aload_n hx hb dX0_record_51 rfl (lv_at hl 0 rfl) ?_
      refine gr_X0_3 Cx hI wd_5_0 dX0_record_52 ?_
      refine lv_iload_n hx hb dX0_record_55 rfl (lv_at hl 2 rfl) ?_
      refine lv_aload_n hx hb dX0_record_56 rfl (lv_at hl 1 rfl) ?_
      refine gi_X3_14 Cx hI wd_22_22 dX0_record_57 ?_
      obtain ⟨hg, h⟩ := ms_gE h
      refine ms_sto Cx hI 16 shX_16 hg dX0_record_60 (fun H locs σ7 eσ7 hI => ?_)
      have h := ms_ltE eσ7 h
      refine lv_aload_n hx hb dX0_record_61 rfl (lv_at hl 0 rfl) ?_
      refine gr_X0_4 Cx hI wd_5_1 dX0_record_62 ?_
      refine lv_iload_n hx hb dX0_record_65 rfl (lv_at hl 2 rfl) ?_
      refine lv_aload_n hx hb dX0_record_66 rfl (lv_at hl 1 rfl) ?_
      refine gi_X3_16 Cx hI wd_22_23 dX0_record_67 ?_
      obtain ⟨hg, h⟩ := ms_gE h
      refine ms_sto Cx hI 17 shX_17 hg dX0_record_70 (fun H locs σ8 eσ8 hI => ?_)
      have h := ms_ltE eσ8 h
      refine lv_iinc (v := y1 + 1) (lv' := [(2, .int (y1 + 1)), (0, .ref (a 12)), (1, .ref (a 8))]) hx hb dX0_record_71 hl (k := 2) rfl rfl (by decide) rfl (fun ls hl => ?_)
      refine lv_goto (tgt := 6) hx hb dX0_record_74 rfl ?_
      exact ih (y1 + 1) σ8 _ _ _ hI (lv_sub hl [1, 2, 0] rfl) h
set_option maxHeartbeats 4000000 in
set_option maxRecDepth 100000 in
theorem wX0_record (Cx : ms_C p s m args meth c D cA a shX cX0_record 3 RX0 none) (out : Mm) : ∀ (σ : Mm) (H : Heap) (locs : List Loc) (ls : Array Slot), ms_I D cA a shX s σ H locs → lv_has ls 3 [(0, .ref (a 12)), (1, .ref (a 8))] → fX0_record σ = some out → W p l e rmX0_record s m args below meth c H locs 0 0 (MQ below (ms_Qv D cA a shX out) args s 0 0 (ms_A a shX.length)) (F0 m 0 ls []) := by
  have hx := Cx.1
  have hb := Cx.2.1
  intro σ H locs ls hI hl h
  unfold fX0_record at h
  refine lv_aload_n hx hb dX0_record_0 rfl (lv_at hl 1 rfl) ?_
  obtain ⟨σ2, hc1, h⟩ := ms_bdE h
  refine kX3_begin Cx hI hc1 wd_23_0 (Nat.le_of_ble_eq_true rfl) (Nat.le_of_ble_eq_true rfl) hl.1 (Nat.le_of_ble_eq_true rfl) dX0_record_1 (fun H locs hI => ?_)
  refine lv_iconst (v := 0) hx hb dX0_record_4 rfl ?_
  refine lv_istore_n (lv' := [(2, .int 0), (0, .ref (a 12)), (1, .ref (a 8))]) hx hb dX0_record_5 rfl hl (by decide) rfl (fun ls hl => ?_)
  exact wX0_record_6 Cx out  ms_fu 0 σ2 _ _ _ hI (lv_sub hl [1, 2, 0] rfl) h
theorem yvX0_record : ms_YV yX0_record RX0 cX0_record 3 none 1 := ⟨wd_22_16, wd_22_17, wd_2_13, wd_22_18, rfl, by decide +kernel, by decide +kernel, by decide +kernel⟩
set_option maxHeartbeats 4000000 in
theorem metX0_record (l : Launch) (hDis : ms_Dis a shX.length) {σ : Mm} {out : Mm} (h : fX0_record σ = some out) : Met l yX0_record (.code yX0_record cX0_record 3 none :: wsL_law) rmX0_record (ms_Pc D cA a shX [.ref (a 12), .ref (a 8)] σ) (ms_Qv D cA a shX out) 0 0 (ms_A a shX.length) := by
  refine Met.ofW (cc := cX0_record) (maxL := 3) (ret := none) (by decide) rfl ?_
  intro p e s m args below meth c s₁ B hml hv
  obtain ⟨rfl, hK, hN, hP⟩ := hv
  have hl := lv_entry ([.ref (a 12), .ref (a 8)]) (n := 3) (Nat.le_of_ble_eq_true rfl)
  rw [lg_entry_eq]
  generalize (lg_sl ([.ref (a 12), .ref (a 8)]) ++ List.replicate (3 - (lg_sl ([.ref (a 12), .ref (a 8)])).length) Slot.unset).toArray = ls at hl ⊢
  exact wX0_record ⟨B.exec, B.bytes, hml, findClass_of_methodNamed B.named, fun w hw => atoms_spec (ws := .code yX0_record cX0_record 3 none :: wsL_law) B.pre w (List.mem_cons_of_mem _ hw), B.returns, B.notSynchronized, hK, hDis, hN⟩ out σ s.heap [] ls ⟨hP, va_S.rf⟩ hl h
theorem kX0_record (Cx : ms_C p s m args meth c D cA a shX cc nL own ret) {σ : Mm} {H : Heap} {locs : List Loc} (hI : ms_I D cA a shX s σ H locs) {out : Mm} (h : fX0_record σ = some out) (hl : Cond.methodLink own idx yX0_record ∈ wsL_law) (hf : 3 + 1 ≤ R.frames) (hlo : 8 + (3 + 11) + 65 ≤ R.locals) (hsz : ls.size = nL) (hW : (rest.map fun v => v.category).sum ≤ 8) (hd : decode cc pc = .ok (.invokevirtual idx, 3)) (kk : ∀ (H1 : Heap) (locs1 : List Loc), ms_I D cA a shX s out H1 locs1 → W p l e R s m args below meth c H1 locs1 0 0 Q (F0 m (pc + 3) ls (rest))) : W p l e R s m args below meth c H locs 0 0 Q (F0 m pc ls (.ref (a 8) :: .ref (a 12) :: rest)) :=
  ms_cv hI (ms_runV (av := [.ref (a 8)]) Cx hI 12 shX_12 (ci := 0) rfl rfl yvX0_record (metX0_record l Cx.2.2.2.2.2.2.2.2.1  h) ⟨rfl, rfl⟩ hl ⟨hf, hlo⟩ rfl hsz rfl hW ⟨Nat.zero_le _, Nat.zero_le _⟩ hd) kk
/-! X0 hoursStood (II)I -/
theorem dX0_hoursStood_0 : decode cX0_hoursStood 0 = .ok (.iconst 0, 1) := by decide +kernel
theorem dX0_hoursStood_1 : decode cX0_hoursStood 1 = .ok (.istore_n 3, 1) := by decide +kernel
theorem dX0_hoursStood_2 : decode cX0_hoursStood 2 = .ok (.iconst 0, 1) := by decide +kernel
theorem dX0_hoursStood_3 : decode cX0_hoursStood 3 = .ok (.istore 4, 2) := by decide +kernel
theorem dX0_hoursStood_5 : decode cX0_hoursStood 5 = .ok (.iload 4, 2) := by decide +kernel
theorem dX0_hoursStood_7 : decode cX0_hoursStood 7 = .ok (.iload_n 2, 1) := by decide +kernel
theorem dX0_hoursStood_8 : decode cX0_hoursStood 8 = .ok (.if_icmp .ge 23, 3) := by decide +kernel
theorem dX0_hoursStood_11 : decode cX0_hoursStood 11 = .ok (.iload_n 3, 1) := by decide +kernel
theorem dX0_hoursStood_12 : decode cX0_hoursStood 12 = .ok (.aload_n 0, 1) := by decide +kernel
theorem dX0_hoursStood_13 : decode cX0_hoursStood 13 = .ok (.getfield 24, 3) := by decide +kernel
theorem dX0_hoursStood_16 : decode cX0_hoursStood 16 = .ok (.iload 4, 2) := by decide +kernel
theorem dX0_hoursStood_18 : decode cX0_hoursStood 18 = .ok (.iaload, 1) := by decide +kernel
theorem dX0_hoursStood_19 : decode cX0_hoursStood 19 = .ok (.iload_n 1, 1) := by decide +kernel
theorem dX0_hoursStood_20 : decode cX0_hoursStood 20 = .ok (.invokestatic 54, 3) := by decide +kernel
theorem dX0_hoursStood_23 : decode cX0_hoursStood 23 = .ok (.iadd, 1) := by decide +kernel
theorem dX0_hoursStood_24 : decode cX0_hoursStood 24 = .ok (.istore_n 3, 1) := by decide +kernel
theorem dX0_hoursStood_25 : decode cX0_hoursStood 25 = .ok (.iinc 4 1, 3) := by decide +kernel
theorem dX0_hoursStood_28 : decode cX0_hoursStood 28 = .ok (.goto (-23), 3) := by decide +kernel
theorem dX0_hoursStood_31 : decode cX0_hoursStood 31 = .ok (.iload_n 3, 1) := by decide +kernel
theorem dX0_hoursStood_32 : decode cX0_hoursStood 32 = .ok (.ireturn, 1) := by decide +kernel
abbrev rmX0_hoursStood : Room := { frames := 1, cells := 0, slots := 0, locals := 21 }
set_option maxHeartbeats 4000000 in
set_option maxRecDepth 100000 in
theorem wX0_hoursStood_5 (Cx : ms_C p s m args meth c D cA a shX cX0_hoursStood 5 RX0 (some .int)) (out : Int32) {σ : Mm} : ∀ (n : Nat), ∀ (y1 : Int32) (y2 : Int32) (y3 : Int32) (y4 : Int32) , ∀ (H : Heap) (locs : List Loc) (ls : Array Slot), ms_I D cA a shX s σ H locs → lv_has ls 5 [(0, .ref (a 12)), (1, .int y1), (2, .int y2), (3, .int y3), (4, .int y4)] → fX0_hoursStood_5 σ n y1 y2 y3 y4 = some out → W p l e rmX0_hoursStood s m args below meth c H locs 0 0 (MQ below (ms_Qi D cA a shX out σ) args s 0 0 (ms_A a shX.length)) (F0 m 5 ls []) := by
  have hx := Cx.1
  have hb := Cx.2.1
  intro n
  induction n with
  | zero =>
    intro y1 y2 y3 y4 H locs ls hI hl h
    exact nomatch (show none = some out from h)
  | succ n ih =>
    intro y1 y2 y3 y4 H locs ls hI hl h
    rw [fX0_hoursStood_5] at h
    refine lv_iload hx hb dX0_hoursStood_5 (lv_at hl 4 rfl) ?_
    refine lv_iload_n hx hb dX0_hoursStood_7 rfl (lv_at hl 2 rfl) ?_
    refine lv_icmp_ge (tgt := 31) hx hb dX0_hoursStood_8 rfl (fun hc => ?_) (fun hc => ?_)
    · have h := ms_ifT hc h
      refine lv_iload_n hx hb dX0_hoursStood_31 rfl (lv_at hl 3 rfl) ?_
      exact ms_ri Cx hI (Option.some.inj h) rfl dX0_hoursStood_32
    · have h := ms_ifF hc h
      refine lv_iload_n hx hb dX0_hoursStood_11 rfl (lv_at hl 3 rfl) ?_
      refine lv_aload_n hx hb dX0_hoursStood_12 rfl (lv_at hl 0 rfl) ?_
      refine gr_X0_4 Cx hI wd_5_1 dX0_hoursStood_13 ?_
      refine lv_iload hx hb dX0_hoursStood_16 (lv_at hl 4 rfl) ?_
      obtain ⟨hg, h⟩ := ms_gE h
      refine ms_ld Cx hI 17 shX_17 hg dX0_hoursStood_18 ?_
      refine lv_iload_n hx hb dX0_hoursStood_19 rfl (lv_at hl 1 rfl) ?_
      obtain ⟨r2, hc1, h⟩ := ms_bdE h
      refine kX7_bit Cx hI hc1 (Or.inr nq_10) (Nat.le_of_ble_eq_true rfl) (Nat.le_of_ble_eq_true rfl) hl.1 (Nat.le_of_ble_eq_true rfl) dX0_hoursStood_20 (fun H locs hI => ?_)
      refine lv_iadd hx hb dX0_hoursStood_23 ?_
      refine lv_istore_n (lv' := [(3, .int (y3 + r2)), (0, .ref (a 12)), (1, .int y1), (2, .int y2), (4, .int y4)]) hx hb dX0_hoursStood_24 rfl hl (by decide) rfl (fun ls hl => ?_)
      refine lv_iinc (v := y4 + 1) (lv' := [(4, .int (y4 + 1)), (3, .int (y3 + r2)), (0, .ref (a 12)), (1, .int y1), (2, .int y2)]) hx hb dX0_hoursStood_25 hl (k := 4) rfl rfl (by decide) rfl (fun ls hl => ?_)
      refine lv_goto (tgt := 5) hx hb dX0_hoursStood_28 rfl ?_
      exact ih y1 y2 (y3 + r2) (y4 + 1) _ _ _ hI (lv_sub hl [2, 3, 4, 1, 0] rfl) h
set_option maxHeartbeats 4000000 in
set_option maxRecDepth 100000 in
theorem wX0_hoursStood (Cx : ms_C p s m args meth c D cA a shX cX0_hoursStood 5 RX0 (some .int)) (out : Int32) {σ : Mm} : ∀ (p0 : Int32) (p1 : Int32) , ∀ (H : Heap) (locs : List Loc) (ls : Array Slot), ms_I D cA a shX s σ H locs → lv_has ls 5 [(0, .ref (a 12)), (1, .int p0), (2, .int p1)] → fX0_hoursStood σ p0 p1 = some out → W p l e rmX0_hoursStood s m args below meth c H locs 0 0 (MQ below (ms_Qi D cA a shX out σ) args s 0 0 (ms_A a shX.length)) (F0 m 0 ls []) := by
  have hx := Cx.1
  have hb := Cx.2.1
  intro p0 p1 H locs ls hI hl h
  unfold fX0_hoursStood at h
  refine lv_iconst (v := 0) hx hb dX0_hoursStood_0 rfl ?_
  refine lv_istore_n (lv' := [(3, .int 0), (0, .ref (a 12)), (1, .int p0), (2, .int p1)]) hx hb dX0_hoursStood_1 rfl hl (by decide) rfl (fun ls hl => ?_)
  refine lv_iconst (v := 0) hx hb dX0_hoursStood_2 rfl ?_
  refine lv_istore (lv' := [(4, .int 0), (3, .int 0), (0, .ref (a 12)), (1, .int p0), (2, .int p1)]) hx hb dX0_hoursStood_3 hl (by decide) rfl (fun ls hl => ?_)
  exact wX0_hoursStood_5 Cx out  ms_fu p0 p1 0 0 _ _ _ hI (lv_sub hl [2, 3, 4, 1, 0] rfl) h
theorem yvX0_hoursStood : ms_YV yX0_hoursStood RX0 cX0_hoursStood 5 (some .int) 2 := ⟨wd_25_12, wd_25_13, wd_2_13, wd_25_14, rfl, by decide +kernel, by decide +kernel, by decide +kernel⟩
set_option maxHeartbeats 4000000 in
theorem metX0_hoursStood (l : Launch) (hDis : ms_Dis a shX.length) {σ : Mm} {p0 : Int32} {p1 : Int32} {out : Int32} (h : fX0_hoursStood σ p0 p1 = some out) : Met l yX0_hoursStood (.code yX0_hoursStood cX0_hoursStood 5 (some .int) :: wsL_law) rmX0_hoursStood (ms_Pc D cA a shX [.ref (a 12), .int p0, .int p1] σ) (ms_Qi D cA a shX out σ) 0 0 (ms_A a shX.length) := by
  refine Met.ofW (cc := cX0_hoursStood) (maxL := 5) (ret := (some .int)) (by decide) rfl ?_
  intro p e s m args below meth c s₁ B hml hv
  obtain ⟨rfl, hK, hN, hP⟩ := hv
  have hl := lv_entry ([.ref (a 12), .int p0, .int p1]) (n := 5) (Nat.le_of_ble_eq_true rfl)
  rw [lg_entry_eq]
  generalize (lg_sl ([.ref (a 12), .int p0, .int p1]) ++ List.replicate (5 - (lg_sl ([.ref (a 12), .int p0, .int p1])).length) Slot.unset).toArray = ls at hl ⊢
  exact wX0_hoursStood ⟨B.exec, B.bytes, hml, findClass_of_methodNamed B.named, fun w hw => atoms_spec (ws := .code yX0_hoursStood cX0_hoursStood 5 (some .int) :: wsL_law) B.pre w (List.mem_cons_of_mem _ hw), B.returns, B.notSynchronized, hK, hDis, hN⟩ out p0 p1 s.heap [] ls ⟨hP, va_S.rf⟩ hl h
theorem kX0_hoursStood (Cx : ms_C p s m args meth c D cA a shX cc nL own ret) {σ : Mm} {H : Heap} {locs : List Loc} (hI : ms_I D cA a shX s σ H locs) {p0 : Int32} {p1 : Int32} {out : Int32} (h : fX0_hoursStood σ p0 p1 = some out) (hl : Cond.methodLink own idx yX0_hoursStood ∈ wsL_law) (hf : 1 + 1 ≤ R.frames) (hlo : 8 + (5 + 11) + 21 ≤ R.locals) (hsz : ls.size = nL) (hW : (rest.map fun v => v.category).sum ≤ 8) (hd : decode cc pc = .ok (.invokevirtual idx, 3)) (kk : ∀ (H1 : Heap) (locs1 : List Loc), ms_I D cA a shX s σ H1 locs1 → W p l e R s m args below meth c H1 locs1 0 0 Q (F0 m (pc + 3) ls (.int out :: rest))) : W p l e R s m args below meth c H locs 0 0 Q (F0 m pc ls (.int p1 :: .int p0 :: .ref (a 12) :: rest)) :=
  ms_ci hI (ms_runV (av := [.int p0, .int p1]) Cx hI 12 shX_12 (ci := 0) rfl rfl yvX0_hoursStood (metX0_hoursStood l Cx.2.2.2.2.2.2.2.2.1  h) ⟨rfl, rfl⟩ hl ⟨hf, hlo⟩ rfl hsz rfl hW ⟨Nat.zero_le _, Nat.zero_le _⟩ hd) kk
/-! X0 spiltWithin (I)I -/
theorem dX0_spiltWithin_0 : decode cX0_spiltWithin 0 = .ok (.iconst 0, 1) := by decide +kernel
theorem dX0_spiltWithin_1 : decode cX0_spiltWithin 1 = .ok (.istore_n 2, 1) := by decide +kernel
theorem dX0_spiltWithin_2 : decode cX0_spiltWithin 2 = .ok (.iconst 0, 1) := by decide +kernel
theorem dX0_spiltWithin_3 : decode cX0_spiltWithin 3 = .ok (.istore_n 3, 1) := by decide +kernel
theorem dX0_spiltWithin_4 : decode cX0_spiltWithin 4 = .ok (.iload_n 3, 1) := by decide +kernel
theorem dX0_spiltWithin_5 : decode cX0_spiltWithin 5 = .ok (.iload_n 1, 1) := by decide +kernel
theorem dX0_spiltWithin_6 : decode cX0_spiltWithin 6 = .ok (.if_icmp .ge 18, 3) := by decide +kernel
theorem dX0_spiltWithin_9 : decode cX0_spiltWithin 9 = .ok (.iload_n 2, 1) := by decide +kernel
theorem dX0_spiltWithin_10 : decode cX0_spiltWithin 10 = .ok (.aload_n 0, 1) := by decide +kernel
theorem dX0_spiltWithin_11 : decode cX0_spiltWithin 11 = .ok (.getfield 21, 3) := by decide +kernel
theorem dX0_spiltWithin_14 : decode cX0_spiltWithin 14 = .ok (.iload_n 3, 1) := by decide +kernel
theorem dX0_spiltWithin_15 : decode cX0_spiltWithin 15 = .ok (.iaload, 1) := by decide +kernel
theorem dX0_spiltWithin_16 : decode cX0_spiltWithin 16 = .ok (.iadd, 1) := by decide +kernel
theorem dX0_spiltWithin_17 : decode cX0_spiltWithin 17 = .ok (.istore_n 2, 1) := by decide +kernel
theorem dX0_spiltWithin_18 : decode cX0_spiltWithin 18 = .ok (.iinc 3 1, 3) := by decide +kernel
theorem dX0_spiltWithin_21 : decode cX0_spiltWithin 21 = .ok (.goto (-17), 3) := by decide +kernel
theorem dX0_spiltWithin_24 : decode cX0_spiltWithin 24 = .ok (.iload_n 2, 1) := by decide +kernel
theorem dX0_spiltWithin_25 : decode cX0_spiltWithin 25 = .ok (.ireturn, 1) := by decide +kernel
abbrev rmX0_spiltWithin : Room := { frames := 0, cells := 0, slots := 0, locals := 0 }
set_option maxHeartbeats 4000000 in
set_option maxRecDepth 100000 in
theorem wX0_spiltWithin_4 (Cx : ms_C p s m args meth c D cA a shX cX0_spiltWithin 4 RX0 (some .int)) (out : Int32) {σ : Mm} : ∀ (n : Nat), ∀ (y1 : Int32) (y2 : Int32) (y3 : Int32) , ∀ (H : Heap) (locs : List Loc) (ls : Array Slot), ms_I D cA a shX s σ H locs → lv_has ls 4 [(0, .ref (a 12)), (1, .int y1), (2, .int y2), (3, .int y3)] → fX0_spiltWithin_4 σ n y1 y2 y3 = some out → W p l e rmX0_spiltWithin s m args below meth c H locs 0 0 (MQ below (ms_Qi D cA a shX out σ) args s 0 0 (ms_A a shX.length)) (F0 m 4 ls []) := by
  have hx := Cx.1
  have hb := Cx.2.1
  intro n
  induction n with
  | zero =>
    intro y1 y2 y3 H locs ls hI hl h
    exact nomatch (show none = some out from h)
  | succ n ih =>
    intro y1 y2 y3 H locs ls hI hl h
    rw [fX0_spiltWithin_4] at h
    refine lv_iload_n hx hb dX0_spiltWithin_4 rfl (lv_at hl 3 rfl) ?_
    refine lv_iload_n hx hb dX0_spiltWithin_5 rfl (lv_at hl 1 rfl) ?_
    refine lv_icmp_ge (tgt := 24) hx hb dX0_spiltWithin_6 rfl (fun hc => ?_) (fun hc => ?_)
    · have h := ms_ifT hc h
      refine lv_iload_n hx hb dX0_spiltWithin_24 rfl (lv_at hl 2 rfl) ?_
      exact ms_ri Cx hI (Option.some.inj h) rfl dX0_spiltWithin_25
    · have h := ms_ifF hc h
      refine lv_iload_n hx hb dX0_spiltWithin_9 rfl (lv_at hl 2 rfl) ?_
      refine lv_aload_n hx hb dX0_spiltWithin_10 rfl (lv_at hl 0 rfl) ?_
      refine gr_X0_3 Cx hI wd_5_0 dX0_spiltWithin_11 ?_
      refine lv_iload_n hx hb dX0_spiltWithin_14 rfl (lv_at hl 3 rfl) ?_
      obtain ⟨hg, h⟩ := ms_gE h
      refine ms_ld Cx hI 16 shX_16 hg dX0_spiltWithin_15 ?_
      refine lv_iadd hx hb dX0_spiltWithin_16 ?_
      refine lv_istore_n (lv' := [(2, .int (y2 + (σ 16 (ms_ix y3)))), (0, .ref (a 12)), (1, .int y1), (3, .int y3)]) hx hb dX0_spiltWithin_17 rfl hl (by decide) rfl (fun ls hl => ?_)
      refine lv_iinc (v := y3 + 1) (lv' := [(3, .int (y3 + 1)), (2, .int (y2 + (σ 16 (ms_ix y3)))), (0, .ref (a 12)), (1, .int y1)]) hx hb dX0_spiltWithin_18 hl (k := 3) rfl rfl (by decide) rfl (fun ls hl => ?_)
      refine lv_goto (tgt := 4) hx hb dX0_spiltWithin_21 rfl ?_
      exact ih y1 (y2 + (σ 16 (ms_ix y3))) (y3 + 1) _ _ _ hI (lv_sub hl [2, 3, 1, 0] rfl) h
set_option maxHeartbeats 4000000 in
set_option maxRecDepth 100000 in
theorem wX0_spiltWithin (Cx : ms_C p s m args meth c D cA a shX cX0_spiltWithin 4 RX0 (some .int)) (out : Int32) {σ : Mm} : ∀ (p0 : Int32) , ∀ (H : Heap) (locs : List Loc) (ls : Array Slot), ms_I D cA a shX s σ H locs → lv_has ls 4 [(0, .ref (a 12)), (1, .int p0)] → fX0_spiltWithin σ p0 = some out → W p l e rmX0_spiltWithin s m args below meth c H locs 0 0 (MQ below (ms_Qi D cA a shX out σ) args s 0 0 (ms_A a shX.length)) (F0 m 0 ls []) := by
  have hx := Cx.1
  have hb := Cx.2.1
  intro p0 H locs ls hI hl h
  unfold fX0_spiltWithin at h
  refine lv_iconst (v := 0) hx hb dX0_spiltWithin_0 rfl ?_
  refine lv_istore_n (lv' := [(2, .int 0), (0, .ref (a 12)), (1, .int p0)]) hx hb dX0_spiltWithin_1 rfl hl (by decide) rfl (fun ls hl => ?_)
  refine lv_iconst (v := 0) hx hb dX0_spiltWithin_2 rfl ?_
  refine lv_istore_n (lv' := [(3, .int 0), (2, .int 0), (0, .ref (a 12)), (1, .int p0)]) hx hb dX0_spiltWithin_3 rfl hl (by decide) rfl (fun ls hl => ?_)
  exact wX0_spiltWithin_4 Cx out  ms_fu p0 0 0 _ _ _ hI (lv_sub hl [2, 3, 1, 0] rfl) h
theorem yvX0_spiltWithin : ms_YV yX0_spiltWithin RX0 cX0_spiltWithin 4 (some .int) 1 := ⟨wd_26_11, wd_26_12, wd_2_13, wd_26_13, rfl, by decide +kernel, by decide +kernel, by decide +kernel⟩
set_option maxHeartbeats 4000000 in
theorem metX0_spiltWithin (l : Launch) (hDis : ms_Dis a shX.length) {σ : Mm} {p0 : Int32} {out : Int32} (h : fX0_spiltWithin σ p0 = some out) : Met l yX0_spiltWithin (.code yX0_spiltWithin cX0_spiltWithin 4 (some .int) :: wsL_law) rmX0_spiltWithin (ms_Pc D cA a shX [.ref (a 12), .int p0] σ) (ms_Qi D cA a shX out σ) 0 0 (ms_A a shX.length) := by
  refine Met.ofW (cc := cX0_spiltWithin) (maxL := 4) (ret := (some .int)) (by decide) rfl ?_
  intro p e s m args below meth c s₁ B hml hv
  obtain ⟨rfl, hK, hN, hP⟩ := hv
  have hl := lv_entry ([.ref (a 12), .int p0]) (n := 4) (Nat.le_of_ble_eq_true rfl)
  rw [lg_entry_eq]
  generalize (lg_sl ([.ref (a 12), .int p0]) ++ List.replicate (4 - (lg_sl ([.ref (a 12), .int p0])).length) Slot.unset).toArray = ls at hl ⊢
  exact wX0_spiltWithin ⟨B.exec, B.bytes, hml, findClass_of_methodNamed B.named, fun w hw => atoms_spec (ws := .code yX0_spiltWithin cX0_spiltWithin 4 (some .int) :: wsL_law) B.pre w (List.mem_cons_of_mem _ hw), B.returns, B.notSynchronized, hK, hDis, hN⟩ out p0 s.heap [] ls ⟨hP, va_S.rf⟩ hl h
theorem kX0_spiltWithin (Cx : ms_C p s m args meth c D cA a shX cc nL own ret) {σ : Mm} {H : Heap} {locs : List Loc} (hI : ms_I D cA a shX s σ H locs) {p0 : Int32} {out : Int32} (h : fX0_spiltWithin σ p0 = some out) (hl : Cond.methodLink own idx yX0_spiltWithin ∈ wsL_law) (hf : 0 + 1 ≤ R.frames) (hlo : 8 + (4 + 11) + 0 ≤ R.locals) (hsz : ls.size = nL) (hW : (rest.map fun v => v.category).sum ≤ 8) (hd : decode cc pc = .ok (.invokevirtual idx, 3)) (kk : ∀ (H1 : Heap) (locs1 : List Loc), ms_I D cA a shX s σ H1 locs1 → W p l e R s m args below meth c H1 locs1 0 0 Q (F0 m (pc + 3) ls (.int out :: rest))) : W p l e R s m args below meth c H locs 0 0 Q (F0 m pc ls (.int p0 :: .ref (a 12) :: rest)) :=
  ms_ci hI (ms_runV (av := [.int p0]) Cx hI 12 shX_12 (ci := 0) rfl rfl yvX0_spiltWithin (metX0_spiltWithin l Cx.2.2.2.2.2.2.2.2.1  h) ⟨rfl, rfl⟩ hl ⟨hf, hlo⟩ rfl hsz rfl hW ⟨Nat.zero_le _, Nat.zero_le _⟩ hd) kk
/-! X0 worstHour (I)I -/
theorem dX0_worstHour_0 : decode cX0_worstHour 0 = .ok (.iconst 0, 1) := by decide +kernel
theorem dX0_worstHour_1 : decode cX0_worstHour 1 = .ok (.istore_n 2, 1) := by decide +kernel
theorem dX0_worstHour_2 : decode cX0_worstHour 2 = .ok (.iconst 1, 1) := by decide +kernel
theorem dX0_worstHour_3 : decode cX0_worstHour 3 = .ok (.istore_n 3, 1) := by decide +kernel
theorem dX0_worstHour_4 : decode cX0_worstHour 4 = .ok (.iload_n 3, 1) := by decide +kernel
theorem dX0_worstHour_5 : decode cX0_worstHour 5 = .ok (.iload_n 1, 1) := by decide +kernel
theorem dX0_worstHour_6 : decode cX0_worstHour 6 = .ok (.if_icmp .ge 26, 3) := by decide +kernel
theorem dX0_worstHour_9 : decode cX0_worstHour 9 = .ok (.aload_n 0, 1) := by decide +kernel
theorem dX0_worstHour_10 : decode cX0_worstHour 10 = .ok (.getfield 9, 3) := by decide +kernel
theorem dX0_worstHour_13 : decode cX0_worstHour 13 = .ok (.iload_n 3, 1) := by decide +kernel
theorem dX0_worstHour_14 : decode cX0_worstHour 14 = .ok (.iaload, 1) := by decide +kernel
theorem dX0_worstHour_15 : decode cX0_worstHour 15 = .ok (.aload_n 0, 1) := by decide +kernel
theorem dX0_worstHour_16 : decode cX0_worstHour 16 = .ok (.getfield 9, 3) := by decide +kernel
theorem dX0_worstHour_19 : decode cX0_worstHour 19 = .ok (.iload_n 2, 1) := by decide +kernel
theorem dX0_worstHour_20 : decode cX0_worstHour 20 = .ok (.iaload, 1) := by decide +kernel
theorem dX0_worstHour_21 : decode cX0_worstHour 21 = .ok (.if_icmp .ge 5, 3) := by decide +kernel
theorem dX0_worstHour_24 : decode cX0_worstHour 24 = .ok (.iload_n 3, 1) := by decide +kernel
theorem dX0_worstHour_25 : decode cX0_worstHour 25 = .ok (.istore_n 2, 1) := by decide +kernel
theorem dX0_worstHour_26 : decode cX0_worstHour 26 = .ok (.iinc 3 1, 3) := by decide +kernel
theorem dX0_worstHour_29 : decode cX0_worstHour 29 = .ok (.goto (-25), 3) := by decide +kernel
theorem dX0_worstHour_32 : decode cX0_worstHour 32 = .ok (.iload_n 2, 1) := by decide +kernel
theorem dX0_worstHour_33 : decode cX0_worstHour 33 = .ok (.ireturn, 1) := by decide +kernel
abbrev rmX0_worstHour : Room := { frames := 0, cells := 0, slots := 0, locals := 0 }
set_option maxHeartbeats 4000000 in
set_option maxRecDepth 100000 in
theorem wX0_worstHour_26 (Cx : ms_C p s m args meth c D cA a shX cX0_worstHour 4 RX0 (some .int)) (out : Int32) {σ : Mm} (K4 : Int32 → Int32 → Int32 → Option (Int32)) (hK4 : ∀ (y1 : Int32) (y2 : Int32) (y3 : Int32) , ∀ (H : Heap) (locs : List Loc) (ls : Array Slot), ms_I D cA a shX s σ H locs → lv_has ls 4 [(0, .ref (a 12)), (1, .int y1), (2, .int y2), (3, .int y3)] → K4 y1 y2 y3 = some out → W p l e rmX0_worstHour s m args below meth c H locs 0 0 (MQ below (ms_Qi D cA a shX out σ) args s 0 0 (ms_A a shX.length)) (F0 m 4 ls [])) : ∀ (y1 : Int32) (y2 : Int32) (y3 : Int32) , ∀ (H : Heap) (locs : List Loc) (ls : Array Slot), ms_I D cA a shX s σ H locs → lv_has ls 4 [(0, .ref (a 12)), (1, .int y1), (2, .int y2), (3, .int y3)] → fX0_worstHour_26 σ K4 y1 y2 y3 = some out → W p l e rmX0_worstHour s m args below meth c H locs 0 0 (MQ below (ms_Qi D cA a shX out σ) args s 0 0 (ms_A a shX.length)) (F0 m 26 ls []) := by
  have hx := Cx.1
  have hb := Cx.2.1
  intro y1 y2 y3 H locs ls hI hl h
  unfold fX0_worstHour_26 at h
  refine lv_iinc (v := y3 + 1) (lv' := [(3, .int (y3 + 1)), (0, .ref (a 12)), (1, .int y1), (2, .int y2)]) hx hb dX0_worstHour_26 hl (k := 3) rfl rfl (by decide) rfl (fun ls hl => ?_)
  refine lv_goto (tgt := 4) hx hb dX0_worstHour_29 rfl ?_
  exact hK4 y1 y2 (y3 + 1) _ _ _ hI (lv_sub hl [1, 2, 3, 0] rfl) h
set_option maxHeartbeats 4000000 in
set_option maxRecDepth 100000 in
theorem wX0_worstHour_4 (Cx : ms_C p s m args meth c D cA a shX cX0_worstHour 4 RX0 (some .int)) (out : Int32) {σ : Mm} : ∀ (n : Nat), ∀ (y1 : Int32) (y2 : Int32) (y3 : Int32) , ∀ (H : Heap) (locs : List Loc) (ls : Array Slot), ms_I D cA a shX s σ H locs → lv_has ls 4 [(0, .ref (a 12)), (1, .int y1), (2, .int y2), (3, .int y3)] → fX0_worstHour_4 σ n y1 y2 y3 = some out → W p l e rmX0_worstHour s m args below meth c H locs 0 0 (MQ below (ms_Qi D cA a shX out σ) args s 0 0 (ms_A a shX.length)) (F0 m 4 ls []) := by
  have hx := Cx.1
  have hb := Cx.2.1
  intro n
  induction n with
  | zero =>
    intro y1 y2 y3 H locs ls hI hl h
    exact nomatch (show none = some out from h)
  | succ n ih =>
    intro y1 y2 y3 H locs ls hI hl h
    rw [fX0_worstHour_4] at h
    refine lv_iload_n hx hb dX0_worstHour_4 rfl (lv_at hl 3 rfl) ?_
    refine lv_iload_n hx hb dX0_worstHour_5 rfl (lv_at hl 1 rfl) ?_
    refine lv_icmp_ge (tgt := 32) hx hb dX0_worstHour_6 rfl (fun hc => ?_) (fun hc => ?_)
    · have h := ms_ifT hc h
      refine lv_iload_n hx hb dX0_worstHour_32 rfl (lv_at hl 2 rfl) ?_
      exact ms_ri Cx hI (Option.some.inj h) rfl dX0_worstHour_33
    · have h := ms_ifF hc h
      refine lv_aload_n hx hb dX0_worstHour_9 rfl (lv_at hl 0 rfl) ?_
      refine gr_X0_0 Cx hI wd_4_21 dX0_worstHour_10 ?_
      refine lv_iload_n hx hb dX0_worstHour_13 rfl (lv_at hl 3 rfl) ?_
      obtain ⟨hg, h⟩ := ms_gE h
      refine ms_ld Cx hI 13 shX_13 hg dX0_worstHour_14 ?_
      refine lv_aload_n hx hb dX0_worstHour_15 rfl (lv_at hl 0 rfl) ?_
      refine gr_X0_0 Cx hI wd_4_21 dX0_worstHour_16 ?_
      refine lv_iload_n hx hb dX0_worstHour_19 rfl (lv_at hl 2 rfl) ?_
      obtain ⟨hg, h⟩ := ms_gE h
      refine ms_ld Cx hI 13 shX_13 hg dX0_worstHour_20 ?_
      refine lv_icmp_ge (tgt := 26) hx hb dX0_worstHour_21 rfl (fun hc => ?_) (fun hc => ?_)
      · have h := ms_ifT hc h
        exact wX0_worstHour_26 Cx out (fX0_worstHour_4 σ n) ih y1 y2 y3 _ _ _ hI (lv_sub hl [0, 1, 2, 3] rfl) h
      · have h := ms_ifF hc h
        refine lv_iload_n hx hb dX0_worstHour_24 rfl (lv_at hl 3 rfl) ?_
        refine lv_istore_n (lv' := [(2, .int y3), (0, .ref (a 12)), (1, .int y1), (3, .int y3)]) hx hb dX0_worstHour_25 rfl hl (by decide) rfl (fun ls hl => ?_)
        exact wX0_worstHour_26 Cx out (fX0_worstHour_4 σ n) ih y1 y3 y3 _ _ _ hI (lv_sub hl [1, 2, 0, 3] rfl) h
set_option maxHeartbeats 4000000 in
set_option maxRecDepth 100000 in
theorem wX0_worstHour (Cx : ms_C p s m args meth c D cA a shX cX0_worstHour 4 RX0 (some .int)) (out : Int32) {σ : Mm} : ∀ (p0 : Int32) , ∀ (H : Heap) (locs : List Loc) (ls : Array Slot), ms_I D cA a shX s σ H locs → lv_has ls 4 [(0, .ref (a 12)), (1, .int p0)] → fX0_worstHour σ p0 = some out → W p l e rmX0_worstHour s m args below meth c H locs 0 0 (MQ below (ms_Qi D cA a shX out σ) args s 0 0 (ms_A a shX.length)) (F0 m 0 ls []) := by
  have hx := Cx.1
  have hb := Cx.2.1
  intro p0 H locs ls hI hl h
  unfold fX0_worstHour at h
  refine lv_iconst (v := 0) hx hb dX0_worstHour_0 rfl ?_
  refine lv_istore_n (lv' := [(2, .int 0), (0, .ref (a 12)), (1, .int p0)]) hx hb dX0_worstHour_1 rfl hl (by decide) rfl (fun ls hl => ?_)
  refine lv_iconst (v := 1) hx hb dX0_worstHour_2 rfl ?_
  refine lv_istore_n (lv' := [(3, .int 1), (2, .int 0), (0, .ref (a 12)), (1, .int p0)]) hx hb dX0_worstHour_3 rfl hl (by decide) rfl (fun ls hl => ?_)
  exact wX0_worstHour_4 Cx out  ms_fu p0 0 1 _ _ _ hI (lv_sub hl [2, 3, 1, 0] rfl) h
theorem yvX0_worstHour : ms_YV yX0_worstHour RX0 cX0_worstHour 4 (some .int) 1 := ⟨wd_27_16, wd_27_17, wd_2_13, wd_27_18, rfl, by decide +kernel, by decide +kernel, by decide +kernel⟩
set_option maxHeartbeats 4000000 in
theorem metX0_worstHour (l : Launch) (hDis : ms_Dis a shX.length) {σ : Mm} {p0 : Int32} {out : Int32} (h : fX0_worstHour σ p0 = some out) : Met l yX0_worstHour (.code yX0_worstHour cX0_worstHour 4 (some .int) :: wsL_law) rmX0_worstHour (ms_Pc D cA a shX [.ref (a 12), .int p0] σ) (ms_Qi D cA a shX out σ) 0 0 (ms_A a shX.length) := by
  refine Met.ofW (cc := cX0_worstHour) (maxL := 4) (ret := (some .int)) (by decide) rfl ?_
  intro p e s m args below meth c s₁ B hml hv
  obtain ⟨rfl, hK, hN, hP⟩ := hv
  have hl := lv_entry ([.ref (a 12), .int p0]) (n := 4) (Nat.le_of_ble_eq_true rfl)
  rw [lg_entry_eq]
  generalize (lg_sl ([.ref (a 12), .int p0]) ++ List.replicate (4 - (lg_sl ([.ref (a 12), .int p0])).length) Slot.unset).toArray = ls at hl ⊢
  exact wX0_worstHour ⟨B.exec, B.bytes, hml, findClass_of_methodNamed B.named, fun w hw => atoms_spec (ws := .code yX0_worstHour cX0_worstHour 4 (some .int) :: wsL_law) B.pre w (List.mem_cons_of_mem _ hw), B.returns, B.notSynchronized, hK, hDis, hN⟩ out p0 s.heap [] ls ⟨hP, va_S.rf⟩ hl h
theorem kX0_worstHour (Cx : ms_C p s m args meth c D cA a shX cc nL own ret) {σ : Mm} {H : Heap} {locs : List Loc} (hI : ms_I D cA a shX s σ H locs) {p0 : Int32} {out : Int32} (h : fX0_worstHour σ p0 = some out) (hl : Cond.methodLink own idx yX0_worstHour ∈ wsL_law) (hf : 0 + 1 ≤ R.frames) (hlo : 8 + (4 + 11) + 0 ≤ R.locals) (hsz : ls.size = nL) (hW : (rest.map fun v => v.category).sum ≤ 8) (hd : decode cc pc = .ok (.invokevirtual idx, 3)) (kk : ∀ (H1 : Heap) (locs1 : List Loc), ms_I D cA a shX s σ H1 locs1 → W p l e R s m args below meth c H1 locs1 0 0 Q (F0 m (pc + 3) ls (.int out :: rest))) : W p l e R s m args below meth c H locs 0 0 Q (F0 m pc ls (.int p0 :: .ref (a 12) :: rest)) :=
  ms_ci hI (ms_runV (av := [.int p0]) Cx hI 12 shX_12 (ci := 0) rfl rfl yvX0_worstHour (metX0_worstHour l Cx.2.2.2.2.2.2.2.2.1  h) ⟨rfl, rfl⟩ hl ⟨hf, hlo⟩ rfl hsz rfl hW ⟨Nat.zero_le _, Nat.zero_le _⟩ hd) kk
/-! X0 firstStanding ()I -/
theorem dX0_firstStanding_0 : decode cX0_firstStanding 0 = .ok (.iconst 0, 1) := by decide +kernel
theorem dX0_firstStanding_1 : decode cX0_firstStanding 1 = .ok (.istore_n 1, 1) := by decide +kernel
theorem dX0_firstStanding_2 : decode cX0_firstStanding 2 = .ok (.iload_n 1, 1) := by decide +kernel
theorem dX0_firstStanding_3 : decode cX0_firstStanding 3 = .ok (.sipush 240, 3) := by decide +kernel
theorem dX0_firstStanding_6 : decode cX0_firstStanding 6 = .ok (.if_icmp .ge 20, 3) := by decide +kernel
theorem dX0_firstStanding_9 : decode cX0_firstStanding 9 = .ok (.aload_n 0, 1) := by decide +kernel
theorem dX0_firstStanding_10 : decode cX0_firstStanding 10 = .ok (.getfield 24, 3) := by decide +kernel
theorem dX0_firstStanding_13 : decode cX0_firstStanding 13 = .ok (.iload_n 1, 1) := by decide +kernel
theorem dX0_firstStanding_14 : decode cX0_firstStanding 14 = .ok (.iaload, 1) := by decide +kernel
theorem dX0_firstStanding_15 : decode cX0_firstStanding 15 = .ok (.ifCond .eq 5, 3) := by decide +kernel
theorem dX0_firstStanding_18 : decode cX0_firstStanding 18 = .ok (.iload_n 1, 1) := by decide +kernel
theorem dX0_firstStanding_19 : decode cX0_firstStanding 19 = .ok (.ireturn, 1) := by decide +kernel
theorem dX0_firstStanding_20 : decode cX0_firstStanding 20 = .ok (.iinc 1 1, 3) := by decide +kernel
theorem dX0_firstStanding_23 : decode cX0_firstStanding 23 = .ok (.goto (-21), 3) := by decide +kernel
theorem dX0_firstStanding_26 : decode cX0_firstStanding 26 = .ok (.iconst (-1), 1) := by decide +kernel
theorem dX0_firstStanding_27 : decode cX0_firstStanding 27 = .ok (.ireturn, 1) := by decide +kernel
abbrev rmX0_firstStanding : Room := { frames := 0, cells := 0, slots := 0, locals := 0 }
set_option maxHeartbeats 4000000 in
set_option maxRecDepth 100000 in
theorem wX0_firstStanding_2 (Cx : ms_C p s m args meth c D cA a shX cX0_firstStanding 2 RX0 (some .int)) (out : Int32) {σ : Mm} : ∀ (n : Nat), ∀ (y1 : Int32) , ∀ (H : Heap) (locs : List Loc) (ls : Array Slot), ms_I D cA a shX s σ H locs → lv_has ls 2 [(0, .ref (a 12)), (1, .int y1)] → fX0_firstStanding_2 σ n y1 = some out → W p l e rmX0_firstStanding s m args below meth c H locs 0 0 (MQ below (ms_Qi D cA a shX out σ) args s 0 0 (ms_A a shX.length)) (F0 m 2 ls []) := by
  have hx := Cx.1
  have hb := Cx.2.1
  intro n
  induction n with
  | zero =>
    intro y1 H locs ls hI hl h
    exact nomatch (show none = some out from h)
  | succ n ih =>
    intro y1 H locs ls hI hl h
    rw [fX0_firstStanding_2] at h
    refine lv_iload_n hx hb dX0_firstStanding_2 rfl (lv_at hl 1 rfl) ?_
    refine lv_sipush (v := 240) hx hb dX0_firstStanding_3 rfl ?_
    refine lv_icmp_ge (tgt := 26) hx hb dX0_firstStanding_6 rfl (fun hc => ?_) (fun hc => ?_)
    · have h := ms_ifT hc h
      refine lv_iconst (v := -1) hx hb dX0_firstStanding_26 rfl ?_
      exact ms_ri Cx hI (Option.some.inj h) rfl dX0_firstStanding_27
    · have h := ms_ifF hc h
      refine lv_aload_n hx hb dX0_firstStanding_9 rfl (lv_at hl 0 rfl) ?_
      refine gr_X0_4 Cx hI wd_5_1 dX0_firstStanding_10 ?_
      refine lv_iload_n hx hb dX0_firstStanding_13 rfl (lv_at hl 1 rfl) ?_
      obtain ⟨hg, h⟩ := ms_gE h
      refine ms_ld Cx hI 17 shX_17 hg dX0_firstStanding_14 ?_
      refine lv_if_eq (tgt := 20) hx hb dX0_firstStanding_15 rfl (fun hc => ?_) (fun hc => ?_)
      · have h := ms_ifT hc h
        refine lv_iinc (v := y1 + 1) (lv' := [(1, .int (y1 + 1)), (0, .ref (a 12))]) hx hb dX0_firstStanding_20 hl (k := 1) rfl rfl (by decide) rfl (fun ls hl => ?_)
        refine lv_goto (tgt := 2) hx hb dX0_firstStanding_23 rfl ?_
        exact ih (y1 + 1) _ _ _ hI (lv_sub hl [1, 0] rfl) h
      · have h := ms_ifF hc h
        refine lv_iload_n hx hb dX0_firstStanding_18 rfl (lv_at hl 1 rfl) ?_
        exact ms_ri Cx hI (Option.some.inj h) rfl dX0_firstStanding_19
set_option maxHeartbeats 4000000 in
set_option maxRecDepth 100000 in
theorem wX0_firstStanding (Cx : ms_C p s m args meth c D cA a shX cX0_firstStanding 2 RX0 (some .int)) (out : Int32) {σ : Mm} : ∀ (H : Heap) (locs : List Loc) (ls : Array Slot), ms_I D cA a shX s σ H locs → lv_has ls 2 [(0, .ref (a 12))] → fX0_firstStanding σ = some out → W p l e rmX0_firstStanding s m args below meth c H locs 0 0 (MQ below (ms_Qi D cA a shX out σ) args s 0 0 (ms_A a shX.length)) (F0 m 0 ls []) := by
  have hx := Cx.1
  have hb := Cx.2.1
  intro H locs ls hI hl h
  unfold fX0_firstStanding at h
  refine lv_iconst (v := 0) hx hb dX0_firstStanding_0 rfl ?_
  refine lv_istore_n (lv' := [(1, .int 0), (0, .ref (a 12))]) hx hb dX0_firstStanding_1 rfl hl (by decide) rfl (fun ls hl => ?_)
  exact wX0_firstStanding_2 Cx out  ms_fu 0 _ _ _ hI (lv_sub hl [1, 0] rfl) h
theorem yvX0_firstStanding : ms_YV yX0_firstStanding RX0 cX0_firstStanding 2 (some .int) 0 := ⟨wd_32_13, wd_32_14, wd_2_13, wd_32_15, rfl, by decide +kernel, by decide +kernel, by decide +kernel⟩
set_option maxHeartbeats 4000000 in
theorem metX0_firstStanding (l : Launch) (hDis : ms_Dis a shX.length) {σ : Mm} {out : Int32} (h : fX0_firstStanding σ = some out) : Met l yX0_firstStanding (.code yX0_firstStanding cX0_firstStanding 2 (some .int) :: wsL_law) rmX0_firstStanding (ms_Pc D cA a shX [.ref (a 12)] σ) (ms_Qi D cA a shX out σ) 0 0 (ms_A a shX.length) := by
  refine Met.ofW (cc := cX0_firstStanding) (maxL := 2) (ret := (some .int)) (by decide) rfl ?_
  intro p e s m args below meth c s₁ B hml hv
  obtain ⟨rfl, hK, hN, hP⟩ := hv
  have hl := lv_entry ([.ref (a 12)]) (n := 2) (Nat.le_of_ble_eq_true rfl)
  rw [lg_entry_eq]
  generalize (lg_sl ([.ref (a 12)]) ++ List.replicate (2 - (lg_sl ([.ref (a 12)])).length) Slot.unset).toArray = ls at hl ⊢
  exact wX0_firstStanding ⟨B.exec, B.bytes, hml, findClass_of_methodNamed B.named, fun w hw => atoms_spec (ws := .code yX0_firstStanding cX0_firstStanding 2 (some .int) :: wsL_law) B.pre w (List.mem_cons_of_mem _ hw), B.returns, B.notSynchronized, hK, hDis, hN⟩ out  s.heap [] ls ⟨hP, va_S.rf⟩ hl h
theorem kX0_firstStanding (Cx : ms_C p s m args meth c D cA a shX cc nL own ret) {σ : Mm} {H : Heap} {locs : List Loc} (hI : ms_I D cA a shX s σ H locs) {out : Int32} (h : fX0_firstStanding σ = some out) (hl : Cond.methodLink own idx yX0_firstStanding ∈ wsL_law) (hf : 0 + 1 ≤ R.frames) (hlo : 8 + (2 + 11) + 0 ≤ R.locals) (hsz : ls.size = nL) (hW : (rest.map fun v => v.category).sum ≤ 8) (hd : decode cc pc = .ok (.invokevirtual idx, 3)) (kk : ∀ (H1 : Heap) (locs1 : List Loc), ms_I D cA a shX s σ H1 locs1 → W p l e R s m args below meth c H1 locs1 0 0 Q (F0 m (pc + 3) ls (.int out :: rest))) : W p l e R s m args below meth c H locs 0 0 Q (F0 m pc ls (.ref (a 12) :: rest)) :=
  ms_ci hI (ms_runV (av := []) Cx hI 12 shX_12 (ci := 0) rfl rfl yvX0_firstStanding (metX0_firstStanding l Cx.2.2.2.2.2.2.2.2.1  h) ⟨rfl, rfl⟩ hl ⟨hf, hlo⟩ rfl hsz rfl hW ⟨Nat.zero_le _, Nat.zero_le _⟩ hd) kk
/-! X1 shiftOf (I)I -/
theorem dX1_shiftOf_0 : decode cX1_shiftOf 0 = .ok (.aload_n 0, 1) := by decide +kernel
theorem dX1_shiftOf_1 : decode cX1_shiftOf 1 = .ok (.getfield 18, 3) := by decide +kernel
theorem dX1_shiftOf_4 : decode cX1_shiftOf 4 = .ok (.iload_n 1, 1) := by decide +kernel
theorem dX1_shiftOf_5 : decode cX1_shiftOf 5 = .ok (.iaload, 1) := by decide +kernel
theorem dX1_shiftOf_6 : decode cX1_shiftOf 6 = .ok (.ireturn, 1) := by decide +kernel
abbrev rmX1_shiftOf : Room := { frames := 0, cells := 0, slots := 0, locals := 0 }
set_option maxHeartbeats 4000000 in
set_option maxRecDepth 100000 in
theorem wX1_shiftOf (Cx : ms_C p s m args meth c D cA a shX cX1_shiftOf 2 RX1 (some .int)) (out : Int32) {σ : Mm} : ∀ (p0 : Int32) , ∀ (H : Heap) (locs : List Loc) (ls : Array Slot), ms_I D cA a shX s σ H locs → lv_has ls 2 [(0, .ref (a 18)), (1, .int p0)] → fX1_shiftOf σ p0 = some out → W p l e rmX1_shiftOf s m args below meth c H locs 0 0 (MQ below (ms_Qi D cA a shX out σ) args s 0 0 (ms_A a shX.length)) (F0 m 0 ls []) := by
  have hx := Cx.1
  have hb := Cx.2.1
  intro p0 H locs ls hI hl h
  unfold fX1_shiftOf at h
  refine lv_aload_n hx hb dX1_shiftOf_0 rfl (lv_at hl 0 rfl) ?_
  refine gr_X1_2 Cx hI wd_5_8 dX1_shiftOf_1 ?_
  refine lv_iload_n hx hb dX1_shiftOf_4 rfl (lv_at hl 1 rfl) ?_
  obtain ⟨hg, h⟩ := ms_gE h
  refine ms_ld Cx hI 21 shX_21 hg dX1_shiftOf_5 ?_
  exact ms_ri Cx hI (Option.some.inj h) rfl dX1_shiftOf_6
theorem yvX1_shiftOf : ms_YV yX1_shiftOf RX1 cX1_shiftOf 2 (some .int) 1 := ⟨wd_31_21, wd_31_22, wd_2_17, wd_31_23, rfl, by decide +kernel, by decide +kernel, by decide +kernel⟩
set_option maxHeartbeats 4000000 in
theorem metX1_shiftOf (l : Launch) (hDis : ms_Dis a shX.length) {σ : Mm} {p0 : Int32} {out : Int32} (h : fX1_shiftOf σ p0 = some out) : Met l yX1_shiftOf (.code yX1_shiftOf cX1_shiftOf 2 (some .int) :: wsL_law) rmX1_shiftOf (ms_Pc D cA a shX [.ref (a 18), .int p0] σ) (ms_Qi D cA a shX out σ) 0 0 (ms_A a shX.length) := by
  refine Met.ofW (cc := cX1_shiftOf) (maxL := 2) (ret := (some .int)) (by decide) rfl ?_
  intro p e s m args below meth c s₁ B hml hv
  obtain ⟨rfl, hK, hN, hP⟩ := hv
  have hl := lv_entry ([.ref (a 18), .int p0]) (n := 2) (Nat.le_of_ble_eq_true rfl)
  rw [lg_entry_eq]
  generalize (lg_sl ([.ref (a 18), .int p0]) ++ List.replicate (2 - (lg_sl ([.ref (a 18), .int p0])).length) Slot.unset).toArray = ls at hl ⊢
  exact wX1_shiftOf ⟨B.exec, B.bytes, hml, findClass_of_methodNamed B.named, fun w hw => atoms_spec (ws := .code yX1_shiftOf cX1_shiftOf 2 (some .int) :: wsL_law) B.pre w (List.mem_cons_of_mem _ hw), B.returns, B.notSynchronized, hK, hDis, hN⟩ out p0 s.heap [] ls ⟨hP, va_S.rf⟩ hl h
theorem kX1_shiftOf (Cx : ms_C p s m args meth c D cA a shX cc nL own ret) {σ : Mm} {H : Heap} {locs : List Loc} (hI : ms_I D cA a shX s σ H locs) {p0 : Int32} {out : Int32} (h : fX1_shiftOf σ p0 = some out) (hl : Cond.methodLink own idx yX1_shiftOf ∈ wsL_law) (hf : 0 + 1 ≤ R.frames) (hlo : 8 + (2 + 11) + 0 ≤ R.locals) (hsz : ls.size = nL) (hW : (rest.map fun v => v.category).sum ≤ 8) (hd : decode cc pc = .ok (.invokevirtual idx, 3)) (kk : ∀ (H1 : Heap) (locs1 : List Loc), ms_I D cA a shX s σ H1 locs1 → W p l e R s m args below meth c H1 locs1 0 0 Q (F0 m (pc + 3) ls (.int out :: rest))) : W p l e R s m args below meth c H locs 0 0 Q (F0 m pc ls (.int p0 :: .ref (a 18) :: rest)) :=
  ms_ci hI (ms_runV (av := [.int p0]) Cx hI 18 shX_18 (ci := 1) rfl rfl yvX1_shiftOf (metX1_shiftOf l Cx.2.2.2.2.2.2.2.2.1  h) ⟨rfl, rfl⟩ hl ⟨hf, hlo⟩ rfl hsz rfl hW ⟨Nat.zero_le _, Nat.zero_le _⟩ hd) kk
/-! X1 gather (I)V -/
theorem dX1_gather_0 : decode cX1_gather 0 = .ok (.aload_n 0, 1) := by decide +kernel
theorem dX1_gather_1 : decode cX1_gather 1 = .ok (.iconst 0, 1) := by decide +kernel
theorem dX1_gather_2 : decode cX1_gather 2 = .ok (.putfield 21, 3) := by decide +kernel
theorem dX1_gather_5 : decode cX1_gather 5 = .ok (.iconst 0, 1) := by decide +kernel
theorem dX1_gather_6 : decode cX1_gather 6 = .ok (.istore_n 2, 1) := by decide +kernel
theorem dX1_gather_7 : decode cX1_gather 7 = .ok (.iload_n 2, 1) := by decide +kernel
theorem dX1_gather_8 : decode cX1_gather 8 = .ok (.bipush 6, 2) := by decide +kernel
theorem dX1_gather_10 : decode cX1_gather 10 = .ok (.if_icmp .ge 46, 3) := by decide +kernel
theorem dX1_gather_13 : decode cX1_gather 13 = .ok (.aload_n 0, 1) := by decide +kernel
theorem dX1_gather_14 : decode cX1_gather 14 = .ok (.getfield 21, 3) := by decide +kernel
theorem dX1_gather_17 : decode cX1_gather 17 = .ok (.iconst 3, 1) := by decide +kernel
theorem dX1_gather_18 : decode cX1_gather 18 = .ok (.if_icmp .ge 38, 3) := by decide +kernel
theorem dX1_gather_21 : decode cX1_gather 21 = .ok (.iload_n 1, 1) := by decide +kernel
theorem dX1_gather_22 : decode cX1_gather 22 = .ok (.iload_n 2, 1) := by decide +kernel
theorem dX1_gather_23 : decode cX1_gather 23 = .ok (.invokestatic 62, 3) := by decide +kernel
theorem dX1_gather_26 : decode cX1_gather 26 = .ok (.iconst 1, 1) := by decide +kernel
theorem dX1_gather_27 : decode cX1_gather 27 = .ok (.if_icmp .ne 23, 3) := by decide +kernel
theorem dX1_gather_30 : decode cX1_gather 30 = .ok (.aload_n 0, 1) := by decide +kernel
theorem dX1_gather_31 : decode cX1_gather 31 = .ok (.getfield 9, 3) := by decide +kernel
theorem dX1_gather_34 : decode cX1_gather 34 = .ok (.aload_n 0, 1) := by decide +kernel
theorem dX1_gather_35 : decode cX1_gather 35 = .ok (.getfield 21, 3) := by decide +kernel
theorem dX1_gather_38 : decode cX1_gather 38 = .ok (.iload_n 2, 1) := by decide +kernel
theorem dX1_gather_39 : decode cX1_gather 39 = .ok (.iastore, 1) := by decide +kernel
theorem dX1_gather_40 : decode cX1_gather 40 = .ok (.aload_n 0, 1) := by decide +kernel
theorem dX1_gather_41 : decode cX1_gather 41 = .ok (.dup, 1) := by decide +kernel
theorem dX1_gather_42 : decode cX1_gather 42 = .ok (.getfield 21, 3) := by decide +kernel
theorem dX1_gather_45 : decode cX1_gather 45 = .ok (.iconst 1, 1) := by decide +kernel
theorem dX1_gather_46 : decode cX1_gather 46 = .ok (.iadd, 1) := by decide +kernel
theorem dX1_gather_47 : decode cX1_gather 47 = .ok (.putfield 21, 3) := by decide +kernel
theorem dX1_gather_50 : decode cX1_gather 50 = .ok (.iinc 2 1, 3) := by decide +kernel
theorem dX1_gather_53 : decode cX1_gather 53 = .ok (.goto (-46), 3) := by decide +kernel
theorem dX1_gather_56 : decode cX1_gather 56 = .ok (.return_, 1) := by decide +kernel
abbrev rmX1_gather : Room := { frames := 1, cells := 0, slots := 0, locals := 21 }
set_option maxHeartbeats 4000000 in
set_option maxRecDepth 100000 in
theorem wX1_gather_50 (Cx : ms_C p s m args meth c D cA a shX cX1_gather 3 RX1 none) (out : Mm) (K7 : Int32 → Int32 → Mm → Option (Mm)) (hK7 : ∀ (y1 : Int32) (y2 : Int32) , ∀ (σ : Mm) (H : Heap) (locs : List Loc) (ls : Array Slot), ms_I D cA a shX s σ H locs → lv_has ls 3 [(0, .ref (a 18)), (1, .int y1), (2, .int y2)] → K7 y1 y2 σ = some out → W p l e rmX1_gather s m args below meth c H locs 0 0 (MQ below (ms_Qv D cA a shX out) args s 0 0 (ms_A a shX.length)) (F0 m 7 ls [])) : ∀ (y1 : Int32) (y2 : Int32) , ∀ (σ : Mm) (H : Heap) (locs : List Loc) (ls : Array Slot), ms_I D cA a shX s σ H locs → lv_has ls 3 [(0, .ref (a 18)), (1, .int y1), (2, .int y2)] → fX1_gather_50 K7 y1 y2 σ = some out → W p l e rmX1_gather s m args below meth c H locs 0 0 (MQ below (ms_Qv D cA a shX out) args s 0 0 (ms_A a shX.length)) (F0 m 50 ls []) := by
  have hx := Cx.1
  have hb := Cx.2.1
  intro y1 y2 σ H locs ls hI hl h
  unfold fX1_gather_50 at h
  refine lv_iinc (v := y2 + 1) (lv' := [(2, .int (y2 + 1)), (0, .ref (a 18)), (1, .int y1)]) hx hb dX1_gather_50 hl (k := 2) rfl rfl (by decide) rfl (fun ls hl => ?_)
  refine lv_goto (tgt := 7) hx hb dX1_gather_53 rfl ?_
  exact hK7 y1 (y2 + 1) σ _ _ _ hI (lv_sub hl [1, 2, 0] rfl) h
set_option maxHeartbeats 4000000 in
set_option maxRecDepth 100000 in
theorem wX1_gather_7 (Cx : ms_C p s m args meth c D cA a shX cX1_gather 3 RX1 none) (out : Mm) : ∀ (n : Nat), ∀ (y1 : Int32) (y2 : Int32) , ∀ (σ : Mm) (H : Heap) (locs : List Loc) (ls : Array Slot), ms_I D cA a shX s σ H locs → lv_has ls 3 [(0, .ref (a 18)), (1, .int y1), (2, .int y2)] → fX1_gather_7 n y1 y2 σ = some out → W p l e rmX1_gather s m args below meth c H locs 0 0 (MQ below (ms_Qv D cA a shX out) args s 0 0 (ms_A a shX.length)) (F0 m 7 ls []) := by
  have hx := Cx.1
  have hb := Cx.2.1
  intro n
  induction n with
  | zero =>
    intro y1 y2 σ H locs ls hI hl h
    exact nomatch (show none = some out from h)
  | succ n ih =>
    intro y1 y2 σ H locs ls hI hl h
    rw [fX1_gather_7] at h
    refine lv_iload_n hx hb dX1_gather_7 rfl (lv_at hl 2 rfl) ?_
    refine lv_bipush (v := 6) hx hb dX1_gather_8 rfl ?_
    refine lv_icmp_ge (tgt := 56) hx hb dX1_gather_10 rfl (fun hc => ?_) (fun hc => ?_)
    · have h := ms_ifT hc h
      exact ms_rv Cx hI (Option.some.inj h) dX1_gather_56
    · have h := ms_ifF hc h
      refine lv_aload_n hx hb dX1_gather_13 rfl (lv_at hl 0 rfl) ?_
      refine gi_X1_3 Cx hI wd_5_9 dX1_gather_14 ?_
      refine lv_iconst (v := 3) hx hb dX1_gather_17 rfl ?_
      refine lv_icmp_ge (tgt := 56) hx hb dX1_gather_18 rfl (fun hc => ?_) (fun hc => ?_)
      · have h := ms_ifT hc h
        exact ms_rv Cx hI (Option.some.inj h) dX1_gather_56
      · have h := ms_ifF hc h
        refine lv_iload_n hx hb dX1_gather_21 rfl (lv_at hl 1 rfl) ?_
        refine lv_iload_n hx hb dX1_gather_22 rfl (lv_at hl 2 rfl) ?_
        obtain ⟨r2, hc1, h⟩ := ms_bdE h
        refine kX7_bit Cx hI hc1 (Or.inr nq_11) (Nat.le_of_ble_eq_true rfl) (Nat.le_of_ble_eq_true rfl) hl.1 (Nat.le_of_ble_eq_true rfl) dX1_gather_23 (fun H locs hI => ?_)
        refine lv_iconst (v := 1) hx hb dX1_gather_26 rfl ?_
        refine lv_icmp_ne (tgt := 50) hx hb dX1_gather_27 rfl (fun hc => ?_) (fun hc => ?_)
        · have h := ms_ifF hc h
          exact wX1_gather_50 Cx out (fX1_gather_7 n) ih y1 y2 σ _ _ _ hI (lv_sub hl [0, 1, 2] rfl) h
        · have h := ms_ifT hc h
          refine lv_aload_n hx hb dX1_gather_30 rfl (lv_at hl 0 rfl) ?_
          refine gr_X1_0 Cx hI wd_5_6 dX1_gather_31 ?_
          refine lv_aload_n hx hb dX1_gather_34 rfl (lv_at hl 0 rfl) ?_
          refine gi_X1_3 Cx hI wd_5_9 dX1_gather_35 ?_
          refine lv_iload_n hx hb dX1_gather_38 rfl (lv_at hl 2 rfl) ?_
          obtain ⟨hg, h⟩ := ms_gE h
          refine ms_sto Cx hI 19 shX_19 hg dX1_gather_39 (fun H locs σ3 eσ3 hI => ?_)
          have h := ms_ltE eσ3 h
          refine lv_aload_n hx hb dX1_gather_40 rfl (lv_at hl 0 rfl) ?_
          refine lv_dup hx hb dX1_gather_41 rfl ?_
          refine gi_X1_3 Cx hI wd_5_9 dX1_gather_42 ?_
          refine lv_iconst (v := 1) hx hb dX1_gather_45 rfl ?_
          refine lv_iadd hx hb dX1_gather_46 ?_
          refine pi_X1_3 Cx hI wd_5_9 dX1_gather_47 (fun H locs σ4 eσ4 hI => ?_)
          have h := ms_ltE eσ4 h
          exact wX1_gather_50 Cx out (fX1_gather_7 n) ih y1 y2 σ4 _ _ _ hI (lv_sub hl [0, 1, 2] rfl) h
set_option maxHeartbeats 4000000 in
set_option maxRecDepth 100000 in
theorem wX1_gather (Cx : ms_C p s m args meth c D cA a shX cX1_gather 3 RX1 none) (out : Mm) : ∀ (p0 : Int32) , ∀ (σ : Mm) (H : Heap) (locs : List Loc) (ls : Array Slot), ms_I D cA a shX s σ H locs → lv_has ls 3 [(0, .ref (a 18)), (1, .int p0)] → fX1_gather p0 σ = some out → W p l e rmX1_gather s m args below meth c H locs 0 0 (MQ below (ms_Qv D cA a shX out) args s 0 0 (ms_A a shX.length)) (F0 m 0 ls []) := by
  have hx := Cx.1
  have hb := Cx.2.1
  intro p0 σ H locs ls hI hl h
  unfold fX1_gather at h
  refine lv_aload_n hx hb dX1_gather_0 rfl (lv_at hl 0 rfl) ?_
  refine lv_iconst (v := 0) hx hb dX1_gather_1 rfl ?_
  refine pi_X1_3 Cx hI wd_5_9 dX1_gather_2 (fun H locs σ1 eσ1 hI => ?_)
  have h := ms_ltE eσ1 h
  refine lv_iconst (v := 0) hx hb dX1_gather_5 rfl ?_
  refine lv_istore_n (lv' := [(2, .int 0), (0, .ref (a 18)), (1, .int p0)]) hx hb dX1_gather_6 rfl hl (by decide) rfl (fun ls hl => ?_)
  exact wX1_gather_7 Cx out  ms_fu p0 0 σ1 _ _ _ hI (lv_sub hl [1, 2, 0] rfl) h
theorem yvX1_gather : ms_YV yX1_gather RX1 cX1_gather 3 none 1 := ⟨wd_30_23, wd_31_0, wd_2_17, wd_31_1, rfl, by decide +kernel, by decide +kernel, by decide +kernel⟩
set_option maxHeartbeats 4000000 in
theorem metX1_gather (l : Launch) (hDis : ms_Dis a shX.length) {σ : Mm} {p0 : Int32} {out : Mm} (h : fX1_gather p0 σ = some out) : Met l yX1_gather (.code yX1_gather cX1_gather 3 none :: wsL_law) rmX1_gather (ms_Pc D cA a shX [.ref (a 18), .int p0] σ) (ms_Qv D cA a shX out) 0 0 (ms_A a shX.length) := by
  refine Met.ofW (cc := cX1_gather) (maxL := 3) (ret := none) (by decide) rfl ?_
  intro p e s m args below meth c s₁ B hml hv
  obtain ⟨rfl, hK, hN, hP⟩ := hv
  have hl := lv_entry ([.ref (a 18), .int p0]) (n := 3) (Nat.le_of_ble_eq_true rfl)
  rw [lg_entry_eq]
  generalize (lg_sl ([.ref (a 18), .int p0]) ++ List.replicate (3 - (lg_sl ([.ref (a 18), .int p0])).length) Slot.unset).toArray = ls at hl ⊢
  exact wX1_gather ⟨B.exec, B.bytes, hml, findClass_of_methodNamed B.named, fun w hw => atoms_spec (ws := .code yX1_gather cX1_gather 3 none :: wsL_law) B.pre w (List.mem_cons_of_mem _ hw), B.returns, B.notSynchronized, hK, hDis, hN⟩ out p0 σ s.heap [] ls ⟨hP, va_S.rf⟩ hl h
theorem kX1_gather (Cx : ms_C p s m args meth c D cA a shX cc nL own ret) {σ : Mm} {H : Heap} {locs : List Loc} (hI : ms_I D cA a shX s σ H locs) {p0 : Int32} {out : Mm} (h : fX1_gather p0 σ = some out) (hl : Cond.methodLink own idx yX1_gather ∈ wsL_law) (hf : 1 + 1 ≤ R.frames) (hlo : 8 + (3 + 11) + 21 ≤ R.locals) (hsz : ls.size = nL) (hW : (rest.map fun v => v.category).sum ≤ 8) (hd : decode cc pc = .ok (.invokevirtual idx, 3)) (kk : ∀ (H1 : Heap) (locs1 : List Loc), ms_I D cA a shX s out H1 locs1 → W p l e R s m args below meth c H1 locs1 0 0 Q (F0 m (pc + 3) ls (rest))) : W p l e R s m args below meth c H locs 0 0 Q (F0 m pc ls (.int p0 :: .ref (a 18) :: rest)) :=
  ms_cv hI (ms_runV (av := [.int p0]) Cx hI 18 shX_18 (ci := 1) rfl rfl yvX1_gather (metX1_gather l Cx.2.2.2.2.2.2.2.2.1  h) ⟨rfl, rfl⟩ hl ⟨hf, hlo⟩ rfl hsz rfl hW ⟨Nat.zero_le _, Nat.zero_le _⟩ hd) kk
/-! X4 ofThing (II)I -/
theorem dX4_ofThing_0 : decode cX4_ofThing 0 = .ok (.aload_n 0, 1) := by decide +kernel
theorem dX4_ofThing_1 : decode cX4_ofThing 1 = .ok (.getfield 15, 3) := by decide +kernel
theorem dX4_ofThing_4 : decode cX4_ofThing 4 = .ok (.iload_n 1, 1) := by decide +kernel
theorem dX4_ofThing_5 : decode cX4_ofThing 5 = .ok (.iconst 4, 1) := by decide +kernel
theorem dX4_ofThing_6 : decode cX4_ofThing 6 = .ok (.imul, 1) := by decide +kernel
theorem dX4_ofThing_7 : decode cX4_ofThing 7 = .ok (.iload_n 2, 1) := by decide +kernel
theorem dX4_ofThing_8 : decode cX4_ofThing 8 = .ok (.iadd, 1) := by decide +kernel
theorem dX4_ofThing_9 : decode cX4_ofThing 9 = .ok (.iaload, 1) := by decide +kernel
theorem dX4_ofThing_10 : decode cX4_ofThing 10 = .ok (.ireturn, 1) := by decide +kernel
abbrev rmX4_ofThing : Room := { frames := 0, cells := 0, slots := 0, locals := 0 }
set_option maxHeartbeats 4000000 in
set_option maxRecDepth 100000 in
theorem wX4_ofThing (Cx : ms_C p s m args meth c D cA a shX cX4_ofThing 3 RX4 (some .int)) (out : Int32) {σ : Mm} : ∀ (p0 : Int32) (p1 : Int32) , ∀ (H : Heap) (locs : List Loc) (ls : Array Slot), ms_I D cA a shX s σ H locs → lv_has ls 3 [(0, .ref (a 1)), (1, .int p0), (2, .int p1)] → fX4_ofThing σ p0 p1 = some out → W p l e rmX4_ofThing s m args below meth c H locs 0 0 (MQ below (ms_Qi D cA a shX out σ) args s 0 0 (ms_A a shX.length)) (F0 m 0 ls []) := by
  have hx := Cx.1
  have hb := Cx.2.1
  intro p0 p1 H locs ls hI hl h
  unfold fX4_ofThing at h
  refine lv_aload_n hx hb dX4_ofThing_0 rfl (lv_at hl 0 rfl) ?_
  refine gr_X4_1 Cx hI wd_3_8 dX4_ofThing_1 ?_
  refine lv_iload_n hx hb dX4_ofThing_4 rfl (lv_at hl 1 rfl) ?_
  refine lv_iconst (v := 4) hx hb dX4_ofThing_5 rfl ?_
  refine lv_imul hx hb dX4_ofThing_6 ?_
  refine lv_iload_n hx hb dX4_ofThing_7 rfl (lv_at hl 2 rfl) ?_
  refine lv_iadd hx hb dX4_ofThing_8 ?_
  obtain ⟨hg, h⟩ := ms_gE h
  refine ms_ld Cx hI 3 shX_3 hg dX4_ofThing_9 ?_
  exact ms_ri Cx hI (Option.some.inj h) rfl dX4_ofThing_10
theorem yvX4_ofThing : ms_YV yX4_ofThing RX4 cX4_ofThing 3 (some .int) 2 := ⟨wd_13_16, wd_13_17, wd_1_14, wd_13_18, rfl, by decide +kernel, by decide +kernel, by decide +kernel⟩
set_option maxHeartbeats 4000000 in
theorem metX4_ofThing (l : Launch) (hDis : ms_Dis a shX.length) {σ : Mm} {p0 : Int32} {p1 : Int32} {out : Int32} (h : fX4_ofThing σ p0 p1 = some out) : Met l yX4_ofThing (.code yX4_ofThing cX4_ofThing 3 (some .int) :: wsL_law) rmX4_ofThing (ms_Pc D cA a shX [.ref (a 1), .int p0, .int p1] σ) (ms_Qi D cA a shX out σ) 0 0 (ms_A a shX.length) := by
  refine Met.ofW (cc := cX4_ofThing) (maxL := 3) (ret := (some .int)) (by decide) rfl ?_
  intro p e s m args below meth c s₁ B hml hv
  obtain ⟨rfl, hK, hN, hP⟩ := hv
  have hl := lv_entry ([.ref (a 1), .int p0, .int p1]) (n := 3) (Nat.le_of_ble_eq_true rfl)
  rw [lg_entry_eq]
  generalize (lg_sl ([.ref (a 1), .int p0, .int p1]) ++ List.replicate (3 - (lg_sl ([.ref (a 1), .int p0, .int p1])).length) Slot.unset).toArray = ls at hl ⊢
  exact wX4_ofThing ⟨B.exec, B.bytes, hml, findClass_of_methodNamed B.named, fun w hw => atoms_spec (ws := .code yX4_ofThing cX4_ofThing 3 (some .int) :: wsL_law) B.pre w (List.mem_cons_of_mem _ hw), B.returns, B.notSynchronized, hK, hDis, hN⟩ out p0 p1 s.heap [] ls ⟨hP, va_S.rf⟩ hl h
theorem kX4_ofThing (Cx : ms_C p s m args meth c D cA a shX cc nL own ret) {σ : Mm} {H : Heap} {locs : List Loc} (hI : ms_I D cA a shX s σ H locs) {p0 : Int32} {p1 : Int32} {out : Int32} (h : fX4_ofThing σ p0 p1 = some out) (hl : Cond.methodLink own idx yX4_ofThing ∈ wsL_law) (hf : 0 + 1 ≤ R.frames) (hlo : 8 + (3 + 11) + 0 ≤ R.locals) (hsz : ls.size = nL) (hW : (rest.map fun v => v.category).sum ≤ 8) (hd : decode cc pc = .ok (.invokevirtual idx, 3)) (kk : ∀ (H1 : Heap) (locs1 : List Loc), ms_I D cA a shX s σ H1 locs1 → W p l e R s m args below meth c H1 locs1 0 0 Q (F0 m (pc + 3) ls (.int out :: rest))) : W p l e R s m args below meth c H locs 0 0 Q (F0 m pc ls (.int p1 :: .int p0 :: .ref (a 1) :: rest)) :=
  ms_ci hI (ms_runV (av := [.int p0, .int p1]) Cx hI 1 shX_1 (ci := 4) rfl rfl yvX4_ofThing (metX4_ofThing l Cx.2.2.2.2.2.2.2.2.1  h) ⟨rfl, rfl⟩ hl ⟨hf, hlo⟩ rfl hsz rfl hW ⟨Nat.zero_le _, Nat.zero_le _⟩ hd) kk
/-! X4 mustBits ()I -/
theorem dX4_mustBits_0 : decode cX4_mustBits 0 = .ok (.iconst 0, 1) := by decide +kernel
theorem dX4_mustBits_1 : decode cX4_mustBits 1 = .ok (.istore_n 1, 1) := by decide +kernel
theorem dX4_mustBits_2 : decode cX4_mustBits 2 = .ok (.iconst 0, 1) := by decide +kernel
theorem dX4_mustBits_3 : decode cX4_mustBits 3 = .ok (.istore_n 2, 1) := by decide +kernel
theorem dX4_mustBits_4 : decode cX4_mustBits 4 = .ok (.iload_n 2, 1) := by decide +kernel
theorem dX4_mustBits_5 : decode cX4_mustBits 5 = .ok (.aload_n 0, 1) := by decide +kernel
theorem dX4_mustBits_6 : decode cX4_mustBits 6 = .ok (.getfield 25, 3) := by decide +kernel
theorem dX4_mustBits_9 : decode cX4_mustBits 9 = .ok (.if_icmp .ge 20, 3) := by decide +kernel
theorem dX4_mustBits_12 : decode cX4_mustBits 12 = .ok (.iload_n 1, 1) := by decide +kernel
theorem dX4_mustBits_13 : decode cX4_mustBits 13 = .ok (.aload_n 0, 1) := by decide +kernel
theorem dX4_mustBits_14 : decode cX4_mustBits 14 = .ok (.iload_n 2, 1) := by decide +kernel
theorem dX4_mustBits_15 : decode cX4_mustBits 15 = .ok (.iconst 3, 1) := by decide +kernel
theorem dX4_mustBits_16 : decode cX4_mustBits 16 = .ok (.invokevirtual 40, 3) := by decide +kernel
theorem dX4_mustBits_19 : decode cX4_mustBits 19 = .ok (.iload_n 2, 1) := by decide +kernel
theorem dX4_mustBits_20 : decode cX4_mustBits 20 = .ok (.ishl, 1) := by decide +kernel
theorem dX4_mustBits_21 : decode cX4_mustBits 21 = .ok (.ior, 1) := by decide +kernel
theorem dX4_mustBits_22 : decode cX4_mustBits 22 = .ok (.istore_n 1, 1) := by decide +kernel
theorem dX4_mustBits_23 : decode cX4_mustBits 23 = .ok (.iinc 2 1, 3) := by decide +kernel
theorem dX4_mustBits_26 : decode cX4_mustBits 26 = .ok (.goto (-22), 3) := by decide +kernel
theorem dX4_mustBits_29 : decode cX4_mustBits 29 = .ok (.iload_n 1, 1) := by decide +kernel
theorem dX4_mustBits_30 : decode cX4_mustBits 30 = .ok (.ireturn, 1) := by decide +kernel
abbrev rmX4_mustBits : Room := { frames := 1, cells := 0, slots := 0, locals := 22 }
set_option maxHeartbeats 4000000 in
set_option maxRecDepth 100000 in
theorem wX4_mustBits_4 (Cx : ms_C p s m args meth c D cA a shX cX4_mustBits 3 RX4 (some .int)) (out : Int32) {σ : Mm} : ∀ (n : Nat), ∀ (y1 : Int32) (y2 : Int32) , ∀ (H : Heap) (locs : List Loc) (ls : Array Slot), ms_I D cA a shX s σ H locs → lv_has ls 3 [(0, .ref (a 1)), (1, .int y1), (2, .int y2)] → fX4_mustBits_4 σ n y1 y2 = some out → W p l e rmX4_mustBits s m args below meth c H locs 0 0 (MQ below (ms_Qi D cA a shX out σ) args s 0 0 (ms_A a shX.length)) (F0 m 4 ls []) := by
  have hx := Cx.1
  have hb := Cx.2.1
  intro n
  induction n with
  | zero =>
    intro y1 y2 H locs ls hI hl h
    exact nomatch (show none = some out from h)
  | succ n ih =>
    intro y1 y2 H locs ls hI hl h
    rw [fX4_mustBits_4] at h
    refine lv_iload_n hx hb dX4_mustBits_4 rfl (lv_at hl 2 rfl) ?_
    refine lv_aload_n hx hb dX4_mustBits_5 rfl (lv_at hl 0 rfl) ?_
    refine gi_X4_4 Cx hI wd_3_11 dX4_mustBits_6 ?_
    refine lv_icmp_ge (tgt := 29) hx hb dX4_mustBits_9 rfl (fun hc => ?_) (fun hc => ?_)
    · have h := ms_ifT hc h
      refine lv_iload_n hx hb dX4_mustBits_29 rfl (lv_at hl 1 rfl) ?_
      exact ms_ri Cx hI (Option.some.inj h) rfl dX4_mustBits_30
    · have h := ms_ifF hc h
      refine lv_iload_n hx hb dX4_mustBits_12 rfl (lv_at hl 1 rfl) ?_
      refine lv_aload_n hx hb dX4_mustBits_13 rfl (lv_at hl 0 rfl) ?_
      refine lv_iload_n hx hb dX4_mustBits_14 rfl (lv_at hl 2 rfl) ?_
      refine lv_iconst (v := 3) hx hb dX4_mustBits_15 rfl ?_
      obtain ⟨r2, hc1, h⟩ := ms_bdE h
      refine kX4_ofThing Cx hI hc1 wd_22_2 (Nat.le_of_ble_eq_true rfl) (Nat.le_of_ble_eq_true rfl) hl.1 (Nat.le_of_ble_eq_true rfl) dX4_mustBits_16 (fun H locs hI => ?_)
      refine lv_iload_n hx hb dX4_mustBits_19 rfl (lv_at hl 2 rfl) ?_
      refine lv_ishl hx hb dX4_mustBits_20 ?_
      refine lv_ior hx hb dX4_mustBits_21 ?_
      refine lv_istore_n (lv' := [(1, .int (y1 ||| (ms_shl r2 y2))), (0, .ref (a 1)), (2, .int y2)]) hx hb dX4_mustBits_22 rfl hl (by decide) rfl (fun ls hl => ?_)
      refine lv_iinc (v := y2 + 1) (lv' := [(2, .int (y2 + 1)), (1, .int (y1 ||| (ms_shl r2 y2))), (0, .ref (a 1))]) hx hb dX4_mustBits_23 hl (k := 2) rfl rfl (by decide) rfl (fun ls hl => ?_)
      refine lv_goto (tgt := 4) hx hb dX4_mustBits_26 rfl ?_
      exact ih (y1 ||| (ms_shl r2 y2)) (y2 + 1) _ _ _ hI (lv_sub hl [2, 1, 0] rfl) h
set_option maxHeartbeats 4000000 in
set_option maxRecDepth 100000 in
theorem wX4_mustBits (Cx : ms_C p s m args meth c D cA a shX cX4_mustBits 3 RX4 (some .int)) (out : Int32) {σ : Mm} : ∀ (H : Heap) (locs : List Loc) (ls : Array Slot), ms_I D cA a shX s σ H locs → lv_has ls 3 [(0, .ref (a 1))] → fX4_mustBits σ = some out → W p l e rmX4_mustBits s m args below meth c H locs 0 0 (MQ below (ms_Qi D cA a shX out σ) args s 0 0 (ms_A a shX.length)) (F0 m 0 ls []) := by
  have hx := Cx.1
  have hb := Cx.2.1
  intro H locs ls hI hl h
  unfold fX4_mustBits at h
  refine lv_iconst (v := 0) hx hb dX4_mustBits_0 rfl ?_
  refine lv_istore_n (lv' := [(1, .int 0), (0, .ref (a 1))]) hx hb dX4_mustBits_1 rfl hl (by decide) rfl (fun ls hl => ?_)
  refine lv_iconst (v := 0) hx hb dX4_mustBits_2 rfl ?_
  refine lv_istore_n (lv' := [(2, .int 0), (1, .int 0), (0, .ref (a 1))]) hx hb dX4_mustBits_3 rfl hl (by decide) rfl (fun ls hl => ?_)
  exact wX4_mustBits_4 Cx out  ms_fu 0 0 _ _ _ hI (lv_sub hl [2, 1, 0] rfl) h
theorem yvX4_mustBits : ms_YV yX4_mustBits RX4 cX4_mustBits 3 (some .int) 0 := ⟨wd_30_14, wd_30_15, wd_1_14, wd_30_16, rfl, by decide +kernel, by decide +kernel, by decide +kernel⟩
set_option maxHeartbeats 4000000 in
theorem metX4_mustBits (l : Launch) (hDis : ms_Dis a shX.length) {σ : Mm} {out : Int32} (h : fX4_mustBits σ = some out) : Met l yX4_mustBits (.code yX4_mustBits cX4_mustBits 3 (some .int) :: wsL_law) rmX4_mustBits (ms_Pc D cA a shX [.ref (a 1)] σ) (ms_Qi D cA a shX out σ) 0 0 (ms_A a shX.length) := by
  refine Met.ofW (cc := cX4_mustBits) (maxL := 3) (ret := (some .int)) (by decide) rfl ?_
  intro p e s m args below meth c s₁ B hml hv
  obtain ⟨rfl, hK, hN, hP⟩ := hv
  have hl := lv_entry ([.ref (a 1)]) (n := 3) (Nat.le_of_ble_eq_true rfl)
  rw [lg_entry_eq]
  generalize (lg_sl ([.ref (a 1)]) ++ List.replicate (3 - (lg_sl ([.ref (a 1)])).length) Slot.unset).toArray = ls at hl ⊢
  exact wX4_mustBits ⟨B.exec, B.bytes, hml, findClass_of_methodNamed B.named, fun w hw => atoms_spec (ws := .code yX4_mustBits cX4_mustBits 3 (some .int) :: wsL_law) B.pre w (List.mem_cons_of_mem _ hw), B.returns, B.notSynchronized, hK, hDis, hN⟩ out  s.heap [] ls ⟨hP, va_S.rf⟩ hl h
theorem kX4_mustBits (Cx : ms_C p s m args meth c D cA a shX cc nL own ret) {σ : Mm} {H : Heap} {locs : List Loc} (hI : ms_I D cA a shX s σ H locs) {out : Int32} (h : fX4_mustBits σ = some out) (hl : Cond.methodLink own idx yX4_mustBits ∈ wsL_law) (hf : 1 + 1 ≤ R.frames) (hlo : 8 + (3 + 11) + 22 ≤ R.locals) (hsz : ls.size = nL) (hW : (rest.map fun v => v.category).sum ≤ 8) (hd : decode cc pc = .ok (.invokevirtual idx, 3)) (kk : ∀ (H1 : Heap) (locs1 : List Loc), ms_I D cA a shX s σ H1 locs1 → W p l e R s m args below meth c H1 locs1 0 0 Q (F0 m (pc + 3) ls (.int out :: rest))) : W p l e R s m args below meth c H locs 0 0 Q (F0 m pc ls (.ref (a 1) :: rest)) :=
  ms_ci hI (ms_runV (av := []) Cx hI 1 shX_1 (ci := 4) rfl rfl yvX4_mustBits (metX4_mustBits l Cx.2.2.2.2.2.2.2.2.1  h) ⟨rfl, rfl⟩ hl ⟨hf, hlo⟩ rfl hsz rfl hW ⟨Nat.zero_le _, Nat.zero_le _⟩ hd) kk
/-! X1 layTrial (I)V -/
theorem dX1_layTrial_0 : decode cX1_layTrial 0 = .ok (.iload_n 1, 1) := by decide +kernel
theorem dX1_layTrial_1 : decode cX1_layTrial 1 = .ok (.istore_n 2, 1) := by decide +kernel
theorem dX1_layTrial_2 : decode cX1_layTrial 2 = .ok (.aload_n 0, 1) := by decide +kernel
theorem dX1_layTrial_3 : decode cX1_layTrial 3 = .ok (.getfield 21, 3) := by decide +kernel
theorem dX1_layTrial_6 : decode cX1_layTrial 6 = .ok (.iconst 1, 1) := by decide +kernel
theorem dX1_layTrial_7 : decode cX1_layTrial 7 = .ok (.isub, 1) := by decide +kernel
theorem dX1_layTrial_8 : decode cX1_layTrial 8 = .ok (.istore_n 3, 1) := by decide +kernel
theorem dX1_layTrial_9 : decode cX1_layTrial 9 = .ok (.iload_n 3, 1) := by decide +kernel
theorem dX1_layTrial_10 : decode cX1_layTrial 10 = .ok (.ifCond .lt 24, 3) := by decide +kernel
theorem dX1_layTrial_13 : decode cX1_layTrial 13 = .ok (.aload_n 0, 1) := by decide +kernel
theorem dX1_layTrial_14 : decode cX1_layTrial 14 = .ok (.getfield 15, 3) := by decide +kernel
theorem dX1_layTrial_17 : decode cX1_layTrial 17 = .ok (.iload_n 3, 1) := by decide +kernel
theorem dX1_layTrial_18 : decode cX1_layTrial 18 = .ok (.iload_n 2, 1) := by decide +kernel
theorem dX1_layTrial_19 : decode cX1_layTrial 19 = .ok (.bipush 24, 2) := by decide +kernel
theorem dX1_layTrial_21 : decode cX1_layTrial 21 = .ok (.irem, 1) := by decide +kernel
theorem dX1_layTrial_22 : decode cX1_layTrial 22 = .ok (.iastore, 1) := by decide +kernel
theorem dX1_layTrial_23 : decode cX1_layTrial 23 = .ok (.iload_n 2, 1) := by decide +kernel
theorem dX1_layTrial_24 : decode cX1_layTrial 24 = .ok (.bipush 24, 2) := by decide +kernel
theorem dX1_layTrial_26 : decode cX1_layTrial 26 = .ok (.idiv, 1) := by decide +kernel
theorem dX1_layTrial_27 : decode cX1_layTrial 27 = .ok (.istore_n 2, 1) := by decide +kernel
theorem dX1_layTrial_28 : decode cX1_layTrial 28 = .ok (.iinc 3 (-1), 3) := by decide +kernel
theorem dX1_layTrial_31 : decode cX1_layTrial 31 = .ok (.goto (-22), 3) := by decide +kernel
theorem dX1_layTrial_34 : decode cX1_layTrial 34 = .ok (.return_, 1) := by decide +kernel
abbrev rmX1_layTrial : Room := { frames := 0, cells := 0, slots := 0, locals := 0 }
set_option maxHeartbeats 4000000 in
set_option maxRecDepth 100000 in
theorem wX1_layTrial_9 (Cx : ms_C p s m args meth c D cA a shX cX1_layTrial 4 RX1 none) (out : Mm) : ∀ (n : Nat), ∀ (y1 : Int32) (y2 : Int32) , ∀ (σ : Mm) (H : Heap) (locs : List Loc) (ls : Array Slot), ms_I D cA a shX s σ H locs → lv_has ls 4 [(0, .ref (a 18)), (2, .int y1), (3, .int y2)] → fX1_layTrial_9 n y1 y2 σ = some out → W p l e rmX1_layTrial s m args below meth c H locs 0 0 (MQ below (ms_Qv D cA a shX out) args s 0 0 (ms_A a shX.length)) (F0 m 9 ls []) := by
  have hx := Cx.1
  have hb := Cx.2.1
  intro n
  induction n with
  | zero =>
    intro y1 y2 σ H locs ls hI hl h
    exact nomatch (show none = some out from h)
  | succ n ih =>
    intro y1 y2 σ H locs ls hI hl h
    rw [fX1_layTrial_9] at h
    refine lv_iload_n hx hb dX1_layTrial_9 rfl (lv_at hl 2 rfl) ?_
    refine lv_if_lt (tgt := 34) hx hb dX1_layTrial_10 rfl (fun hc => ?_) (fun hc => ?_)
    · have h := ms_ifT hc h
      exact ms_rv Cx hI (Option.some.inj h) dX1_layTrial_34
    · have h := ms_ifF hc h
      refine lv_aload_n hx hb dX1_layTrial_13 rfl (lv_at hl 0 rfl) ?_
      refine gr_X1_1 Cx hI wd_5_7 dX1_layTrial_14 ?_
      refine lv_iload_n hx hb dX1_layTrial_17 rfl (lv_at hl 2 rfl) ?_
      refine lv_iload_n hx hb dX1_layTrial_18 rfl (lv_at hl 1 rfl) ?_
      refine lv_bipush (v := 24) hx hb dX1_layTrial_19 rfl ?_
      refine ms_lrem hx hb dX1_layTrial_21 (by decide) ?_
      obtain ⟨hg, h⟩ := ms_gE h
      refine ms_sto Cx hI 20 shX_20 hg dX1_layTrial_22 (fun H locs σ1 eσ1 hI => ?_)
      have h := ms_ltE eσ1 h
      refine lv_iload_n hx hb dX1_layTrial_23 rfl (lv_at hl 1 rfl) ?_
      refine lv_bipush (v := 24) hx hb dX1_layTrial_24 rfl ?_
      refine lv_idiv hx hb dX1_layTrial_26 (by decide) ?_
      refine lv_istore_n (lv' := [(2, .int (y1 / 24)), (0, .ref (a 18)), (3, .int y2)]) hx hb dX1_layTrial_27 rfl hl (by decide) rfl (fun ls hl => ?_)
      refine lv_iinc (v := y2 + (-1)) (lv' := [(3, .int (y2 + (-1))), (2, .int (y1 / 24)), (0, .ref (a 18))]) hx hb dX1_layTrial_28 hl (k := 2) rfl rfl (by decide) rfl (fun ls hl => ?_)
      refine lv_goto (tgt := 9) hx hb dX1_layTrial_31 rfl ?_
      exact ih (y1 / 24) (y2 + (-1)) σ1 _ _ _ hI (lv_sub hl [2, 1, 0] rfl) h
set_option maxHeartbeats 4000000 in
set_option maxRecDepth 100000 in
theorem wX1_layTrial (Cx : ms_C p s m args meth c D cA a shX cX1_layTrial 4 RX1 none) (out : Mm) : ∀ (p0 : Int32) , ∀ (σ : Mm) (H : Heap) (locs : List Loc) (ls : Array Slot), ms_I D cA a shX s σ H locs → lv_has ls 4 [(0, .ref (a 18)), (1, .int p0)] → fX1_layTrial p0 σ = some out → W p l e rmX1_layTrial s m args below meth c H locs 0 0 (MQ below (ms_Qv D cA a shX out) args s 0 0 (ms_A a shX.length)) (F0 m 0 ls []) := by
  have hx := Cx.1
  have hb := Cx.2.1
  intro p0 σ H locs ls hI hl h
  unfold fX1_layTrial at h
  refine lv_iload_n hx hb dX1_layTrial_0 rfl (lv_at hl 1 rfl) ?_
  refine lv_istore_n (lv' := [(2, .int p0), (0, .ref (a 18)), (1, .int p0)]) hx hb dX1_layTrial_1 rfl hl (by decide) rfl (fun ls hl => ?_)
  refine lv_aload_n hx hb dX1_layTrial_2 rfl (lv_at hl 1 rfl) ?_
  refine gi_X1_3 Cx hI wd_5_9 dX1_layTrial_3 ?_
  refine lv_iconst (v := 1) hx hb dX1_layTrial_6 rfl ?_
  refine lv_isub hx hb dX1_layTrial_7 ?_
  refine lv_istore_n (lv' := [(3, .int ((σ 18 3) - 1)), (2, .int p0), (0, .ref (a 18)), (1, .int p0)]) hx hb dX1_layTrial_8 rfl hl (by decide) rfl (fun ls hl => ?_)
  exact wX1_layTrial_9 Cx out  ms_fu p0 ((σ 18 3) - 1) σ _ _ _ hI (lv_sub hl [2, 1, 0] rfl) h
theorem yvX1_layTrial : ms_YV yX1_layTrial RX1 cX1_layTrial 4 none 1 := ⟨wd_31_4, wd_31_5, wd_2_17, wd_31_6, rfl, by decide +kernel, by decide +kernel, by decide +kernel⟩
set_option maxHeartbeats 4000000 in
theorem metX1_layTrial (l : Launch) (hDis : ms_Dis a shX.length) {σ : Mm} {p0 : Int32} {out : Mm} (h : fX1_layTrial p0 σ = some out) : Met l yX1_layTrial (.code yX1_layTrial cX1_layTrial 4 none :: wsL_law) rmX1_layTrial (ms_Pc D cA a shX [.ref (a 18), .int p0] σ) (ms_Qv D cA a shX out) 0 0 (ms_A a shX.length) := by
  refine Met.ofW (cc := cX1_layTrial) (maxL := 4) (ret := none) (by decide) rfl ?_
  intro p e s m args below meth c s₁ B hml hv
  obtain ⟨rfl, hK, hN, hP⟩ := hv
  have hl := lv_entry ([.ref (a 18), .int p0]) (n := 4) (Nat.le_of_ble_eq_true rfl)
  rw [lg_entry_eq]
  generalize (lg_sl ([.ref (a 18), .int p0]) ++ List.replicate (4 - (lg_sl ([.ref (a 18), .int p0])).length) Slot.unset).toArray = ls at hl ⊢
  exact wX1_layTrial ⟨B.exec, B.bytes, hml, findClass_of_methodNamed B.named, fun w hw => atoms_spec (ws := .code yX1_layTrial cX1_layTrial 4 none :: wsL_law) B.pre w (List.mem_cons_of_mem _ hw), B.returns, B.notSynchronized, hK, hDis, hN⟩ out p0 σ s.heap [] ls ⟨hP, va_S.rf⟩ hl h
theorem kX1_layTrial (Cx : ms_C p s m args meth c D cA a shX cc nL own ret) {σ : Mm} {H : Heap} {locs : List Loc} (hI : ms_I D cA a shX s σ H locs) {p0 : Int32} {out : Mm} (h : fX1_layTrial p0 σ = some out) (hl : Cond.methodLink own idx yX1_layTrial ∈ wsL_law) (hf : 0 + 1 ≤ R.frames) (hlo : 8 + (4 + 11) + 0 ≤ R.locals) (hsz : ls.size = nL) (hW : (rest.map fun v => v.category).sum ≤ 8) (hd : decode cc pc = .ok (.invokevirtual idx, 3)) (kk : ∀ (H1 : Heap) (locs1 : List Loc), ms_I D cA a shX s out H1 locs1 → W p l e R s m args below meth c H1 locs1 0 0 Q (F0 m (pc + 3) ls (rest))) : W p l e R s m args below meth c H locs 0 0 Q (F0 m pc ls (.int p0 :: .ref (a 18) :: rest)) :=
  ms_cv hI (ms_runV (av := [.int p0]) Cx hI 18 shX_18 (ci := 1) rfl rfl yvX1_layTrial (metX1_layTrial l Cx.2.2.2.2.2.2.2.2.1  h) ⟨rfl, rfl⟩ hl ⟨hf, hlo⟩ rfl hsz rfl hW ⟨Nat.zero_le _, Nat.zero_le _⟩ hd) kk
/-! X4 hoursOf (II)I -/
theorem dX4_hoursOf_0 : decode cX4_hoursOf 0 = .ok (.iconst 1, 1) := by decide +kernel
theorem dX4_hoursOf_1 : decode cX4_hoursOf 1 = .ok (.aload_n 0, 1) := by decide +kernel
theorem dX4_hoursOf_2 : decode cX4_hoursOf 2 = .ok (.iload_n 1, 1) := by decide +kernel
theorem dX4_hoursOf_3 : decode cX4_hoursOf 3 = .ok (.iconst 2, 1) := by decide +kernel
theorem dX4_hoursOf_4 : decode cX4_hoursOf 4 = .ok (.invokevirtual 40, 3) := by decide +kernel
theorem dX4_hoursOf_7 : decode cX4_hoursOf 7 = .ok (.ishl, 1) := by decide +kernel
theorem dX4_hoursOf_8 : decode cX4_hoursOf 8 = .ok (.iconst 1, 1) := by decide +kernel
theorem dX4_hoursOf_9 : decode cX4_hoursOf 9 = .ok (.isub, 1) := by decide +kernel
theorem dX4_hoursOf_10 : decode cX4_hoursOf 10 = .ok (.istore_n 3, 1) := by decide +kernel
theorem dX4_hoursOf_11 : decode cX4_hoursOf 11 = .ok (.aload_n 0, 1) := by decide +kernel
theorem dX4_hoursOf_12 : decode cX4_hoursOf 12 = .ok (.iload_n 1, 1) := by decide +kernel
theorem dX4_hoursOf_13 : decode cX4_hoursOf 13 = .ok (.iconst 1, 1) := by decide +kernel
theorem dX4_hoursOf_14 : decode cX4_hoursOf 14 = .ok (.invokevirtual 40, 3) := by decide +kernel
theorem dX4_hoursOf_17 : decode cX4_hoursOf 17 = .ok (.iload_n 2, 1) := by decide +kernel
theorem dX4_hoursOf_18 : decode cX4_hoursOf 18 = .ok (.iadd, 1) := by decide +kernel
theorem dX4_hoursOf_19 : decode cX4_hoursOf 19 = .ok (.bipush 24, 2) := by decide +kernel
theorem dX4_hoursOf_21 : decode cX4_hoursOf 21 = .ok (.irem, 1) := by decide +kernel
theorem dX4_hoursOf_22 : decode cX4_hoursOf 22 = .ok (.istore 4, 2) := by decide +kernel
theorem dX4_hoursOf_24 : decode cX4_hoursOf 24 = .ok (.iload_n 3, 1) := by decide +kernel
theorem dX4_hoursOf_25 : decode cX4_hoursOf 25 = .ok (.iload 4, 2) := by decide +kernel
theorem dX4_hoursOf_27 : decode cX4_hoursOf 27 = .ok (.ishl, 1) := by decide +kernel
theorem dX4_hoursOf_28 : decode cX4_hoursOf 28 = .ok (.iload_n 3, 1) := by decide +kernel
theorem dX4_hoursOf_29 : decode cX4_hoursOf 29 = .ok (.bipush 24, 2) := by decide +kernel
theorem dX4_hoursOf_31 : decode cX4_hoursOf 31 = .ok (.iload 4, 2) := by decide +kernel
theorem dX4_hoursOf_33 : decode cX4_hoursOf 33 = .ok (.isub, 1) := by decide +kernel
theorem dX4_hoursOf_34 : decode cX4_hoursOf 34 = .ok (.ishr, 1) := by decide +kernel
theorem dX4_hoursOf_35 : decode cX4_hoursOf 35 = .ok (.ior, 1) := by decide +kernel
theorem dX4_hoursOf_36 : decode cX4_hoursOf 36 = .ok (.ldc 47, 2) := by decide +kernel
theorem dX4_hoursOf_38 : decode cX4_hoursOf 38 = .ok (.iand, 1) := by decide +kernel
theorem dX4_hoursOf_39 : decode cX4_hoursOf 39 = .ok (.ireturn, 1) := by decide +kernel
abbrev rmX4_hoursOf : Room := { frames := 1, cells := 0, slots := 0, locals := 22 }
set_option maxHeartbeats 4000000 in
set_option maxRecDepth 100000 in
theorem wX4_hoursOf (Cx : ms_C p s m args meth c D cA a shX cX4_hoursOf 5 RX4 (some .int)) (out : Int32) {σ : Mm} : ∀ (p0 : Int32) (p1 : Int32) , ∀ (H : Heap) (locs : List Loc) (ls : Array Slot), ms_I D cA a shX s σ H locs → lv_has ls 5 [(0, .ref (a 1)), (1, .int p0), (2, .int p1)] → fX4_hoursOf σ p0 p1 = some out → W p l e rmX4_hoursOf s m args below meth c H locs 0 0 (MQ below (ms_Qi D cA a shX out σ) args s 0 0 (ms_A a shX.length)) (F0 m 0 ls []) := by
  have hx := Cx.1
  have hb := Cx.2.1
  intro p0 p1 H locs ls hI hl h
  unfold fX4_hoursOf at h
  refine lv_iconst (v := 1) hx hb dX4_hoursOf_0 rfl ?_
  refine lv_aload_n hx hb dX4_hoursOf_1 rfl (lv_at hl 0 rfl) ?_
  refine lv_iload_n hx hb dX4_hoursOf_2 rfl (lv_at hl 1 rfl) ?_
  refine lv_iconst (v := 2) hx hb dX4_hoursOf_3 rfl ?_
  obtain ⟨r2, hc1, h⟩ := ms_bdE h
  refine kX4_ofThing Cx hI hc1 wd_22_2 (Nat.le_of_ble_eq_true rfl) (Nat.le_of_ble_eq_true rfl) hl.1 (Nat.le_of_ble_eq_true rfl) dX4_hoursOf_4 (fun H locs hI => ?_)
  refine lv_ishl hx hb dX4_hoursOf_7 ?_
  refine lv_iconst (v := 1) hx hb dX4_hoursOf_8 rfl ?_
  refine lv_isub hx hb dX4_hoursOf_9 ?_
  refine lv_istore_n (lv' := [(3, .int ((ms_shl 1 r2) - 1)), (0, .ref (a 1)), (1, .int p0), (2, .int p1)]) hx hb dX4_hoursOf_10 rfl hl (by decide) rfl (fun ls hl => ?_)
  refine lv_aload_n hx hb dX4_hoursOf_11 rfl (lv_at hl 1 rfl) ?_
  refine lv_iload_n hx hb dX4_hoursOf_12 rfl (lv_at hl 2 rfl) ?_
  refine lv_iconst (v := 1) hx hb dX4_hoursOf_13 rfl ?_
  obtain ⟨r4, hc3, h⟩ := ms_bdE h
  refine kX4_ofThing Cx hI hc3 wd_22_2 (Nat.le_of_ble_eq_true rfl) (Nat.le_of_ble_eq_true rfl) hl.1 (Nat.le_of_ble_eq_true rfl) dX4_hoursOf_14 (fun H locs hI => ?_)
  refine lv_iload_n hx hb dX4_hoursOf_17 rfl (lv_at hl 3 rfl) ?_
  refine lv_iadd hx hb dX4_hoursOf_18 ?_
  refine lv_bipush (v := 24) hx hb dX4_hoursOf_19 rfl ?_
  refine ms_lrem hx hb dX4_hoursOf_21 (by decide) ?_
  refine lv_istore (lv' := [(4, .int (ms_rem (r4 + p1) 24)), (3, .int ((ms_shl 1 r2) - 1)), (0, .ref (a 1)), (1, .int p0), (2, .int p1)]) hx hb dX4_hoursOf_22 hl (by decide) rfl (fun ls hl => ?_)
  refine lv_iload_n hx hb dX4_hoursOf_24 rfl (lv_at hl 1 rfl) ?_
  refine lv_iload hx hb dX4_hoursOf_25 (lv_at hl 0 rfl) ?_
  refine lv_ishl hx hb dX4_hoursOf_27 ?_
  refine lv_iload_n hx hb dX4_hoursOf_28 rfl (lv_at hl 1 rfl) ?_
  refine lv_bipush (v := 24) hx hb dX4_hoursOf_29 rfl ?_
  refine lv_iload hx hb dX4_hoursOf_31 (lv_at hl 0 rfl) ?_
  refine lv_isub hx hb dX4_hoursOf_33 ?_
  refine lv_ishr hx hb dX4_hoursOf_34 ?_
  refine lv_ior hx hb dX4_hoursOf_35 ?_
  refine lv_ldc hx hb Cx.2.2.2.1 (Cx.2.2.2.2.1 _ wd_22_1) dX4_hoursOf_36 ?_
  refine lv_iand hx hb dX4_hoursOf_38 ?_
  exact ms_ri Cx hI (Option.some.inj h) rfl dX4_hoursOf_39
theorem yvX4_hoursOf : ms_YV yX4_hoursOf RX4 cX4_hoursOf 5 (some .int) 2 := ⟨wd_21_22, wd_21_23, wd_1_14, wd_22_0, rfl, by decide +kernel, by decide +kernel, by decide +kernel⟩
set_option maxHeartbeats 4000000 in
theorem metX4_hoursOf (l : Launch) (hDis : ms_Dis a shX.length) {σ : Mm} {p0 : Int32} {p1 : Int32} {out : Int32} (h : fX4_hoursOf σ p0 p1 = some out) : Met l yX4_hoursOf (.code yX4_hoursOf cX4_hoursOf 5 (some .int) :: wsL_law) rmX4_hoursOf (ms_Pc D cA a shX [.ref (a 1), .int p0, .int p1] σ) (ms_Qi D cA a shX out σ) 0 0 (ms_A a shX.length) := by
  refine Met.ofW (cc := cX4_hoursOf) (maxL := 5) (ret := (some .int)) (by decide) rfl ?_
  intro p e s m args below meth c s₁ B hml hv
  obtain ⟨rfl, hK, hN, hP⟩ := hv
  have hl := lv_entry ([.ref (a 1), .int p0, .int p1]) (n := 5) (Nat.le_of_ble_eq_true rfl)
  rw [lg_entry_eq]
  generalize (lg_sl ([.ref (a 1), .int p0, .int p1]) ++ List.replicate (5 - (lg_sl ([.ref (a 1), .int p0, .int p1])).length) Slot.unset).toArray = ls at hl ⊢
  exact wX4_hoursOf ⟨B.exec, B.bytes, hml, findClass_of_methodNamed B.named, fun w hw => atoms_spec (ws := .code yX4_hoursOf cX4_hoursOf 5 (some .int) :: wsL_law) B.pre w (List.mem_cons_of_mem _ hw), B.returns, B.notSynchronized, hK, hDis, hN⟩ out p0 p1 s.heap [] ls ⟨hP, va_S.rf⟩ hl h
theorem kX4_hoursOf (Cx : ms_C p s m args meth c D cA a shX cc nL own ret) {σ : Mm} {H : Heap} {locs : List Loc} (hI : ms_I D cA a shX s σ H locs) {p0 : Int32} {p1 : Int32} {out : Int32} (h : fX4_hoursOf σ p0 p1 = some out) (hl : Cond.methodLink own idx yX4_hoursOf ∈ wsL_law) (hf : 1 + 1 ≤ R.frames) (hlo : 8 + (5 + 11) + 22 ≤ R.locals) (hsz : ls.size = nL) (hW : (rest.map fun v => v.category).sum ≤ 8) (hd : decode cc pc = .ok (.invokevirtual idx, 3)) (kk : ∀ (H1 : Heap) (locs1 : List Loc), ms_I D cA a shX s σ H1 locs1 → W p l e R s m args below meth c H1 locs1 0 0 Q (F0 m (pc + 3) ls (.int out :: rest))) : W p l e R s m args below meth c H locs 0 0 Q (F0 m pc ls (.int p1 :: .int p0 :: .ref (a 1) :: rest)) :=
  ms_ci hI (ms_runV (av := [.int p0, .int p1]) Cx hI 1 shX_1 (ci := 4) rfl rfl yvX4_hoursOf (metX4_hoursOf l Cx.2.2.2.2.2.2.2.2.1  h) ⟨rfl, rfl⟩ hl ⟨hf, hlo⟩ rfl hsz rfl hW ⟨Nat.zero_le _, Nat.zero_le _⟩ hd) kk
/-! J6 bitCount (I)I -/
theorem dJ6_bitCount_0f7a4_0 : decode cJ6_bitCount_0f7a4 0 = .ok (.iload_n 0, 1) := by decide +kernel
theorem dJ6_bitCount_0f7a4_1 : decode cJ6_bitCount_0f7a4 1 = .ok (.iload_n 0, 1) := by decide +kernel
theorem dJ6_bitCount_0f7a4_2 : decode cJ6_bitCount_0f7a4 2 = .ok (.iconst 1, 1) := by decide +kernel
theorem dJ6_bitCount_0f7a4_3 : decode cJ6_bitCount_0f7a4 3 = .ok (.iushr, 1) := by decide +kernel
theorem dJ6_bitCount_0f7a4_4 : decode cJ6_bitCount_0f7a4 4 = .ok (.ldc_w 265, 3) := by decide +kernel
theorem dJ6_bitCount_0f7a4_7 : decode cJ6_bitCount_0f7a4 7 = .ok (.iand, 1) := by decide +kernel
theorem dJ6_bitCount_0f7a4_8 : decode cJ6_bitCount_0f7a4 8 = .ok (.isub, 1) := by decide +kernel
theorem dJ6_bitCount_0f7a4_9 : decode cJ6_bitCount_0f7a4 9 = .ok (.istore_n 0, 1) := by decide +kernel
theorem dJ6_bitCount_0f7a4_10 : decode cJ6_bitCount_0f7a4 10 = .ok (.iload_n 0, 1) := by decide +kernel
theorem dJ6_bitCount_0f7a4_11 : decode cJ6_bitCount_0f7a4 11 = .ok (.ldc_w 266, 3) := by decide +kernel
theorem dJ6_bitCount_0f7a4_14 : decode cJ6_bitCount_0f7a4 14 = .ok (.iand, 1) := by decide +kernel
theorem dJ6_bitCount_0f7a4_15 : decode cJ6_bitCount_0f7a4 15 = .ok (.iload_n 0, 1) := by decide +kernel
theorem dJ6_bitCount_0f7a4_16 : decode cJ6_bitCount_0f7a4 16 = .ok (.iconst 2, 1) := by decide +kernel
theorem dJ6_bitCount_0f7a4_17 : decode cJ6_bitCount_0f7a4 17 = .ok (.iushr, 1) := by decide +kernel
theorem dJ6_bitCount_0f7a4_18 : decode cJ6_bitCount_0f7a4 18 = .ok (.ldc_w 266, 3) := by decide +kernel
theorem dJ6_bitCount_0f7a4_21 : decode cJ6_bitCount_0f7a4 21 = .ok (.iand, 1) := by decide +kernel
theorem dJ6_bitCount_0f7a4_22 : decode cJ6_bitCount_0f7a4 22 = .ok (.iadd, 1) := by decide +kernel
theorem dJ6_bitCount_0f7a4_23 : decode cJ6_bitCount_0f7a4 23 = .ok (.istore_n 0, 1) := by decide +kernel
theorem dJ6_bitCount_0f7a4_24 : decode cJ6_bitCount_0f7a4 24 = .ok (.iload_n 0, 1) := by decide +kernel
theorem dJ6_bitCount_0f7a4_25 : decode cJ6_bitCount_0f7a4 25 = .ok (.iload_n 0, 1) := by decide +kernel
theorem dJ6_bitCount_0f7a4_26 : decode cJ6_bitCount_0f7a4 26 = .ok (.iconst 4, 1) := by decide +kernel
theorem dJ6_bitCount_0f7a4_27 : decode cJ6_bitCount_0f7a4 27 = .ok (.iushr, 1) := by decide +kernel
theorem dJ6_bitCount_0f7a4_28 : decode cJ6_bitCount_0f7a4 28 = .ok (.iadd, 1) := by decide +kernel
theorem dJ6_bitCount_0f7a4_29 : decode cJ6_bitCount_0f7a4 29 = .ok (.ldc_w 267, 3) := by decide +kernel
theorem dJ6_bitCount_0f7a4_32 : decode cJ6_bitCount_0f7a4 32 = .ok (.iand, 1) := by decide +kernel
theorem dJ6_bitCount_0f7a4_33 : decode cJ6_bitCount_0f7a4 33 = .ok (.istore_n 0, 1) := by decide +kernel
theorem dJ6_bitCount_0f7a4_34 : decode cJ6_bitCount_0f7a4 34 = .ok (.iload_n 0, 1) := by decide +kernel
theorem dJ6_bitCount_0f7a4_35 : decode cJ6_bitCount_0f7a4 35 = .ok (.iload_n 0, 1) := by decide +kernel
theorem dJ6_bitCount_0f7a4_36 : decode cJ6_bitCount_0f7a4 36 = .ok (.bipush 8, 2) := by decide +kernel
theorem dJ6_bitCount_0f7a4_38 : decode cJ6_bitCount_0f7a4 38 = .ok (.iushr, 1) := by decide +kernel
theorem dJ6_bitCount_0f7a4_39 : decode cJ6_bitCount_0f7a4 39 = .ok (.iadd, 1) := by decide +kernel
theorem dJ6_bitCount_0f7a4_40 : decode cJ6_bitCount_0f7a4 40 = .ok (.istore_n 0, 1) := by decide +kernel
theorem dJ6_bitCount_0f7a4_41 : decode cJ6_bitCount_0f7a4 41 = .ok (.iload_n 0, 1) := by decide +kernel
theorem dJ6_bitCount_0f7a4_42 : decode cJ6_bitCount_0f7a4 42 = .ok (.iload_n 0, 1) := by decide +kernel
theorem dJ6_bitCount_0f7a4_43 : decode cJ6_bitCount_0f7a4 43 = .ok (.bipush 16, 2) := by decide +kernel
theorem dJ6_bitCount_0f7a4_45 : decode cJ6_bitCount_0f7a4 45 = .ok (.iushr, 1) := by decide +kernel
theorem dJ6_bitCount_0f7a4_46 : decode cJ6_bitCount_0f7a4 46 = .ok (.iadd, 1) := by decide +kernel
theorem dJ6_bitCount_0f7a4_47 : decode cJ6_bitCount_0f7a4 47 = .ok (.istore_n 0, 1) := by decide +kernel
theorem dJ6_bitCount_0f7a4_48 : decode cJ6_bitCount_0f7a4 48 = .ok (.iload_n 0, 1) := by decide +kernel
theorem dJ6_bitCount_0f7a4_49 : decode cJ6_bitCount_0f7a4 49 = .ok (.bipush 63, 2) := by decide +kernel
theorem dJ6_bitCount_0f7a4_51 : decode cJ6_bitCount_0f7a4 51 = .ok (.iand, 1) := by decide +kernel
theorem dJ6_bitCount_0f7a4_52 : decode cJ6_bitCount_0f7a4 52 = .ok (.ireturn, 1) := by decide +kernel
abbrev rmJ6_bitCount_0f7a4 : Room := { frames := 0, cells := 0, slots := 0, locals := 0 }
set_option maxHeartbeats 4000000 in
set_option maxRecDepth 100000 in
theorem wJ6_bitCount_0f7a4 (Cx : ms_C p s m args meth c D cA a shX cJ6_bitCount_0f7a4 1 RJ6 (some .int)) (out : Int32) {σ : Mm} : ∀ (p0 : Int32) , ∀ (H : Heap) (locs : List Loc) (ls : Array Slot), ms_I D cA a shX s σ H locs → lv_has ls 1 [(0, .int p0)] → fJ6_bitCount_0f7a4 p0 = some out → W p l e rmJ6_bitCount_0f7a4 s m args below meth c H locs 0 0 (MQ below (ms_Qi D cA a shX out σ) args s 0 0 (ms_A a shX.length)) (F0 m 0 ls []) := by
  have hx := Cx.1
  have hb := Cx.2.1
  intro p0 H locs ls hI hl h
  unfold fJ6_bitCount_0f7a4 at h
  refine lv_iload_n hx hb dJ6_bitCount_0f7a4_0 rfl (lv_at hl 0 rfl) ?_
  refine lv_iload_n hx hb dJ6_bitCount_0f7a4_1 rfl (lv_at hl 0 rfl) ?_
  refine lv_iconst (v := 1) hx hb dJ6_bitCount_0f7a4_2 rfl ?_
  refine lv_iushr hx hb dJ6_bitCount_0f7a4_3 rfl ?_
  refine lv_ldcw hx hb Cx.2.2.2.1 (Cx.2.2.2.2.1 _ wd_28_15) dJ6_bitCount_0f7a4_4 ?_
  refine lv_iand hx hb dJ6_bitCount_0f7a4_7 ?_
  refine lv_isub hx hb dJ6_bitCount_0f7a4_8 ?_
  refine lv_topi (fun x1 ex1 => ?_)
  have h := ms_ltE ex1 h
  refine lv_istore_n (lv' := [(0, .int x1)]) hx hb dJ6_bitCount_0f7a4_9 rfl hl (by decide) rfl (fun ls hl => ?_)
  refine lv_iload_n hx hb dJ6_bitCount_0f7a4_10 rfl (lv_at hl 0 rfl) ?_
  refine lv_ldcw hx hb Cx.2.2.2.1 (Cx.2.2.2.2.1 _ wd_28_16) dJ6_bitCount_0f7a4_11 ?_
  refine lv_iand hx hb dJ6_bitCount_0f7a4_14 ?_
  refine lv_iload_n hx hb dJ6_bitCount_0f7a4_15 rfl (lv_at hl 0 rfl) ?_
  refine lv_iconst (v := 2) hx hb dJ6_bitCount_0f7a4_16 rfl ?_
  refine lv_iushr hx hb dJ6_bitCount_0f7a4_17 rfl ?_
  refine lv_ldcw hx hb Cx.2.2.2.1 (Cx.2.2.2.2.1 _ wd_28_16) dJ6_bitCount_0f7a4_18 ?_
  refine lv_iand hx hb dJ6_bitCount_0f7a4_21 ?_
  refine lv_iadd hx hb dJ6_bitCount_0f7a4_22 ?_
  refine lv_topi (fun x2 ex2 => ?_)
  have h := ms_ltE ex2 h
  refine lv_istore_n (lv' := [(0, .int x2)]) hx hb dJ6_bitCount_0f7a4_23 rfl hl (by decide) rfl (fun ls hl => ?_)
  refine lv_iload_n hx hb dJ6_bitCount_0f7a4_24 rfl (lv_at hl 0 rfl) ?_
  refine lv_iload_n hx hb dJ6_bitCount_0f7a4_25 rfl (lv_at hl 0 rfl) ?_
  refine lv_iconst (v := 4) hx hb dJ6_bitCount_0f7a4_26 rfl ?_
  refine lv_iushr hx hb dJ6_bitCount_0f7a4_27 rfl ?_
  refine lv_iadd hx hb dJ6_bitCount_0f7a4_28 ?_
  refine lv_ldcw hx hb Cx.2.2.2.1 (Cx.2.2.2.2.1 _ wd_28_17) dJ6_bitCount_0f7a4_29 ?_
  refine lv_iand hx hb dJ6_bitCount_0f7a4_32 ?_
  refine lv_topi (fun x3 ex3 => ?_)
  have h := ms_ltE ex3 h
  refine lv_istore_n (lv' := [(0, .int x3)]) hx hb dJ6_bitCount_0f7a4_33 rfl hl (by decide) rfl (fun ls hl => ?_)
  refine lv_iload_n hx hb dJ6_bitCount_0f7a4_34 rfl (lv_at hl 0 rfl) ?_
  refine lv_iload_n hx hb dJ6_bitCount_0f7a4_35 rfl (lv_at hl 0 rfl) ?_
  refine lv_bipush (v := 8) hx hb dJ6_bitCount_0f7a4_36 rfl ?_
  refine lv_iushr hx hb dJ6_bitCount_0f7a4_38 rfl ?_
  refine lv_iadd hx hb dJ6_bitCount_0f7a4_39 ?_
  refine lv_istore_n (lv' := [(0, .int (x3 + (ms_ushr x3 8)))]) hx hb dJ6_bitCount_0f7a4_40 rfl hl (by decide) rfl (fun ls hl => ?_)
  refine lv_iload_n hx hb dJ6_bitCount_0f7a4_41 rfl (lv_at hl 0 rfl) ?_
  refine lv_iload_n hx hb dJ6_bitCount_0f7a4_42 rfl (lv_at hl 0 rfl) ?_
  refine lv_bipush (v := 16) hx hb dJ6_bitCount_0f7a4_43 rfl ?_
  refine lv_iushr hx hb dJ6_bitCount_0f7a4_45 rfl ?_
  refine lv_iadd hx hb dJ6_bitCount_0f7a4_46 ?_
  refine lv_topi (fun x4 ex4 => ?_)
  have h := ms_ltE ex4 h
  refine lv_istore_n (lv' := [(0, .int x4)]) hx hb dJ6_bitCount_0f7a4_47 rfl hl (by decide) rfl (fun ls hl => ?_)
  refine lv_iload_n hx hb dJ6_bitCount_0f7a4_48 rfl (lv_at hl 0 rfl) ?_
  refine lv_bipush (v := 63) hx hb dJ6_bitCount_0f7a4_49 rfl ?_
  refine lv_iand hx hb dJ6_bitCount_0f7a4_51 ?_
  exact ms_ri Cx hI (Option.some.inj h) rfl dJ6_bitCount_0f7a4_52
theorem yvJ6_bitCount_0f7a4 : ms_YS yJ6_bitCount_0f7a4 cJ6_bitCount_0f7a4 1 (some .int) 1 := ⟨wd_28_12, wd_28_13, wd_28_14, by decide +kernel, by decide +kernel, by decide +kernel⟩
set_option maxHeartbeats 4000000 in
theorem metJ6_bitCount_0f7a4 (l : Launch) (hDis : ms_Dis a shX.length) {σ : Mm} {p0 : Int32} {out : Int32} (h : fJ6_bitCount_0f7a4 p0 = some out) : Met l yJ6_bitCount_0f7a4 (.code yJ6_bitCount_0f7a4 cJ6_bitCount_0f7a4 1 (some .int) :: wsL_law) rmJ6_bitCount_0f7a4 (ms_Pc D cA a shX [.int p0] σ) (ms_Qi D cA a shX out σ) 0 0 (ms_A a shX.length) := by
  refine Met.ofW (cc := cJ6_bitCount_0f7a4) (maxL := 1) (ret := (some .int)) (by decide) rfl ?_
  intro p e s m args below meth c s₁ B hml hv
  obtain ⟨rfl, hK, hN, hP⟩ := hv
  have hl := lv_entry ([.int p0]) (n := 1) (Nat.le_of_ble_eq_true rfl)
  rw [lg_entry_eq]
  generalize (lg_sl ([.int p0]) ++ List.replicate (1 - (lg_sl ([.int p0])).length) Slot.unset).toArray = ls at hl ⊢
  exact wJ6_bitCount_0f7a4 ⟨B.exec, B.bytes, hml, findClass_of_methodNamed B.named, fun w hw => atoms_spec (ws := .code yJ6_bitCount_0f7a4 cJ6_bitCount_0f7a4 1 (some .int) :: wsL_law) B.pre w (List.mem_cons_of_mem _ hw), B.returns, B.notSynchronized, hK, hDis, hN⟩ out p0 s.heap [] ls ⟨hP, va_S.rf⟩ hl h
theorem kJ6_bitCount_0f7a4 (Cx : ms_C p s m args meth c D cA a shX cc nL own ret) {σ : Mm} {H : Heap} {locs : List Loc} (hI : ms_I D cA a shX s σ H locs) {p0 : Int32} {out : Int32} (h : fJ6_bitCount_0f7a4 p0 = some out) (hl : Cond.methodLink own idx yJ6_bitCount_0f7a4 ∈ wsL_law ∨ (own, idx, yJ6_bitCount_0f7a4) ∈ ms_nq) (hf : 0 + 1 ≤ R.frames) (hlo : 8 + (1 + 11) + 0 ≤ R.locals) (hsz : ls.size = nL) (hW : (rest.map fun v => v.category).sum ≤ 8) (hd : decode cc pc = .ok (.invokestatic idx, 3)) (kk : ∀ (H1 : Heap) (locs1 : List Loc), ms_I D cA a shX s σ H1 locs1 → W p l e R s m args below meth c H1 locs1 0 0 Q (F0 m (pc + 3) ls (.int out :: rest))) : W p l e R s m args below meth c H locs 0 0 Q (F0 m pc ls (.int p0 :: rest)) :=
  ms_ci hI (ms_runS (av := [.int p0]) Cx hI yvJ6_bitCount_0f7a4 (metJ6_bitCount_0f7a4 l Cx.2.2.2.2.2.2.2.2.1  h) ⟨rfl, rfl⟩ hl ⟨hf, hlo⟩ rfl hsz rfl hW ⟨Nat.zero_le _, Nat.zero_le _⟩ hd) kk
end WK
