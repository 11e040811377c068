section WK
variable {p : Program} {l : Launch} {e : Env} {R : Room} {s : State} {m : MethodId} {args : Array Value} {below : List Frame} {meth : Method} {c : Code} {Q : State → Prop}
variable {D : va_G} {cA : Nat → ClassId} {a : Nat → Nat} {cc : ByteArray} {nL idx : Nat} {own : String} {ret : Option FieldType} {pc : Nat} {ls : Array Slot} {rest : List Value}
/-! X8 lastsNow ()I -/
theorem dX8_lastsNow_0 : decode cX8_lastsNow 0 = .ok (.aload_n 0, 1) := by decide +kernel
theorem dX8_lastsNow_1 : decode cX8_lastsNow 1 = .ok (.invokevirtual 191, 3) := by decide +kernel
theorem dX8_lastsNow_4 : decode cX8_lastsNow 4 = .ok (.iconst 0, 1) := by decide +kernel
theorem dX8_lastsNow_5 : decode cX8_lastsNow 5 = .ok (.istore_n 1, 1) := by decide +kernel
theorem dX8_lastsNow_6 : decode cX8_lastsNow 6 = .ok (.iload_n 1, 1) := by decide +kernel
theorem dX8_lastsNow_7 : decode cX8_lastsNow 7 = .ok (.sipush 240, 3) := by decide +kernel
theorem dX8_lastsNow_10 : decode cX8_lastsNow 10 = .ok (.if_icmp .ge 20, 3) := by decide +kernel
theorem dX8_lastsNow_13 : decode cX8_lastsNow 13 = .ok (.aload_n 0, 1) := by decide +kernel
theorem dX8_lastsNow_14 : decode cX8_lastsNow 14 = .ok (.getfield 61, 3) := by decide +kernel
theorem dX8_lastsNow_17 : decode cX8_lastsNow 17 = .ok (.iload_n 1, 1) := by decide +kernel
theorem dX8_lastsNow_18 : decode cX8_lastsNow 18 = .ok (.iaload, 1) := by decide +kernel
theorem dX8_lastsNow_19 : decode cX8_lastsNow 19 = .ok (.ifCond .eq 5, 3) := by decide +kernel
theorem dX8_lastsNow_22 : decode cX8_lastsNow 22 = .ok (.iload_n 1, 1) := by decide +kernel
theorem dX8_lastsNow_23 : decode cX8_lastsNow 23 = .ok (.ireturn, 1) := by decide +kernel
theorem dX8_lastsNow_24 : decode cX8_lastsNow 24 = .ok (.iinc 1 1, 3) := by decide +kernel
theorem dX8_lastsNow_27 : decode cX8_lastsNow 27 = .ok (.goto (-21), 3) := by decide +kernel
theorem dX8_lastsNow_30 : decode cX8_lastsNow 30 = .ok (.iconst (-1), 1) := by decide +kernel
theorem dX8_lastsNow_31 : decode cX8_lastsNow 31 = .ok (.ireturn, 1) := by decide +kernel
abbrev rmX8_lastsNow : Room := { frames := 8, cells := 0, slots := 0, locals := 177 }
set_option maxHeartbeats 4000000 in
set_option maxRecDepth 100000 in
theorem wX8_lastsNow_6 (Cx : ms_C p s m args meth c D cA a shM cX8_lastsNow 2 RX8 (some .int)) (out : Int32 × Mm) : ∀ (n : Nat), ∀ (y1 : Int32) , ∀ (σ : Mm) (H : Heap) (locs : List Loc) (ls : Array Slot), ms_I D cA a shM s σ H locs → lv_has ls 2 [(0, .ref (a 0)), (1, .int y1)] → fX8_lastsNow_6 n y1 σ = some out → W p l e rmX8_lastsNow s m args below meth c H locs 0 0 (MQ below (ms_Qi D cA a shM out.1 out.2) args s 0 0 (ms_A a shM.length)) (F0 m 6 ls []) := by
  have hx := Cx.1
  have hb := Cx.2.1
  intro n
  induction n with
  | zero =>
    intro y1 σ H locs ls hI hl h
    exact nomatch (show none = some out from h)
  | succ n ih =>
    intro y1 σ H locs ls hI hl h
    rw [fX8_lastsNow_6] at h
    refine lv_iload_n hx hb dX8_lastsNow_6 rfl (lv_at hl 1 rfl) ?_
    refine lv_sipush (v := 240) hx hb dX8_lastsNow_7 rfl ?_
    refine lv_icmp_ge (tgt := 30) hx hb dX8_lastsNow_10 rfl (fun hc => ?_) (fun hc => ?_)
    · have h := ms_ifT hc h
      refine lv_iconst (v := -1) hx hb dX8_lastsNow_30 rfl ?_
      exact ms_riw Cx hI h dX8_lastsNow_31
    · have h := ms_ifF hc h
      refine lv_aload_n hx hb dX8_lastsNow_13 rfl (lv_at hl 0 rfl) ?_
      refine gr_X8_21 Cx hI wd_7_6 dX8_lastsNow_14 ?_
      refine lv_iload_n hx hb dX8_lastsNow_17 rfl (lv_at hl 1 rfl) ?_
      obtain ⟨hg, h⟩ := ms_gE h
      refine ms_ld Cx hI 18 shM_18 hg dX8_lastsNow_18 ?_
      refine lv_if_eq (tgt := 24) hx hb dX8_lastsNow_19 rfl (fun hc => ?_) (fun hc => ?_)
      · have h := ms_ifT hc h
        refine lv_iinc (v := y1 + 1) (lv' := [(1, .int (y1 + 1)), (0, .ref (a 0))]) hx hb dX8_lastsNow_24 hl (k := 1) rfl rfl (by decide) rfl (fun ls hl => ?_)
        refine lv_goto (tgt := 6) hx hb dX8_lastsNow_27 rfl ?_
        exact ih (y1 + 1) σ _ _ _ hI (lv_sub hl [1, 0] rfl) h
      · have h := ms_ifF hc h
        refine lv_iload_n hx hb dX8_lastsNow_22 rfl (lv_at hl 1 rfl) ?_
        exact ms_riw Cx hI h dX8_lastsNow_23
set_option maxHeartbeats 4000000 in
set_option maxRecDepth 100000 in
theorem wX8_lastsNow (Cx : ms_C p s m args meth c D cA a shM cX8_lastsNow 2 RX8 (some .int)) (out : Int32 × Mm) : ∀ (σ : Mm) (H : Heap) (locs : List Loc) (ls : Array Slot), ms_I D cA a shM s σ H locs → lv_has ls 2 [(0, .ref (a 0))] → fX8_lastsNow σ = some out → W p l e rmX8_lastsNow s m args below meth c H locs 0 0 (MQ below (ms_Qi D cA a shM out.1 out.2) args s 0 0 (ms_A a shM.length)) (F0 m 0 ls []) := by
  have hx := Cx.1
  have hb := Cx.2.1
  intro σ H locs ls hI hl h
  unfold fX8_lastsNow at h
  refine lv_aload_n hx hb dX8_lastsNow_0 rfl (lv_at hl 0 rfl) ?_
  obtain ⟨σ2, hc1, h⟩ := ms_bdE h
  refine kX8_lays Cx hI hc1 wd_24_3 (Nat.le_of_ble_eq_true rfl) (Nat.le_of_ble_eq_true rfl) hl.1 (Nat.le_of_ble_eq_true rfl) dX8_lastsNow_1 (fun H locs hI => ?_)
  refine lv_iconst (v := 0) hx hb dX8_lastsNow_4 rfl ?_
  refine lv_istore_n (lv' := [(1, .int 0), (0, .ref (a 0))]) hx hb dX8_lastsNow_5 rfl hl (by decide) rfl (fun ls hl => ?_)
  exact wX8_lastsNow_6 Cx out  ms_fu 0 σ2 _ _ _ hI (lv_sub hl [1, 0] rfl) h
theorem yvX8_lastsNow : ms_YV yX8_lastsNow RX8 cX8_lastsNow 2 (some .int) 0 := ⟨wd_32_21, wd_32_22, wd_1_5, wd_32_23, rfl, by decide +kernel, by decide +kernel, by decide +kernel⟩
set_option maxHeartbeats 4000000 in
theorem metX8_lastsNow (l : Launch) (hDis : ms_Dis a shM.length) {σ : Mm} {out : Int32 × Mm} (h : fX8_lastsNow σ = some out) : Met l yX8_lastsNow (.code yX8_lastsNow cX8_lastsNow 2 (some .int) :: wsL_law) rmX8_lastsNow (ms_Pc D cA a shM [.ref (a 0)] σ) (ms_Qi D cA a shM out.1 out.2) 0 0 (ms_A a shM.length) := by
  refine Met.ofW (cc := cX8_lastsNow) (maxL := 2) (ret := (some .int)) (by decide) rfl ?_
  intro p e s m args below meth c s₁ B hml hv
  obtain ⟨rfl, hK, hN, hP⟩ := hv
  have hl := lv_entry ([.ref (a 0)]) (n := 2) (Nat.le_of_ble_eq_true rfl)
  rw [lg_entry_eq]
  generalize (lg_sl ([.ref (a 0)]) ++ List.replicate (2 - (lg_sl ([.ref (a 0)])).length) Slot.unset).toArray = ls at hl ⊢
  exact wX8_lastsNow ⟨B.exec, B.bytes, hml, findClass_of_methodNamed B.named, fun w hw => atoms_spec (ws := .code yX8_lastsNow cX8_lastsNow 2 (some .int) :: wsL_law) B.pre w (List.mem_cons_of_mem _ hw), B.returns, B.notSynchronized, hK, hDis, hN⟩ out σ s.heap [] ls ⟨hP, va_S.rf⟩ hl h
theorem kX8_lastsNow (Cx : ms_C p s m args meth c D cA a shM cc nL own ret) {σ : Mm} {H : Heap} {locs : List Loc} (hI : ms_I D cA a shM s σ H locs) {out : Int32 × Mm} (h : fX8_lastsNow σ = some out) (hl : Cond.methodLink own idx yX8_lastsNow ∈ wsL_law) (hf : 8 + 1 ≤ R.frames) (hlo : 8 + (2 + 11) + 177 ≤ R.locals) (hsz : ls.size = nL) (hW : (rest.map fun v => v.category).sum ≤ 8) (hd : decode cc pc = .ok (.invokevirtual idx, 3)) (kk : ∀ (H1 : Heap) (locs1 : List Loc), ms_I D cA a shM s out.2 H1 locs1 → W p l e R s m args below meth c H1 locs1 0 0 Q (F0 m (pc + 3) ls (.int out.1 :: rest))) : W p l e R s m args below meth c H locs 0 0 Q (F0 m pc ls (.ref (a 0) :: rest)) :=
  ms_ci hI (ms_runV (av := []) Cx hI 0 shM_0 (ci := 8) rfl rfl yvX8_lastsNow (metX8_lastsNow l Cx.2.2.2.2.2.2.2.2.1  h) ⟨rfl, rfl⟩ hl ⟨hf, hlo⟩ rfl hsz rfl hW ⟨Nat.zero_le _, Nat.zero_le _⟩ hd) kk
/-! X8 lasts ()I -/
theorem dX8_lasts_0 : decode cX8_lasts 0 = .ok (.aload_n 0, 1) := by decide +kernel
theorem dX8_lasts_1 : decode cX8_lasts 1 = .ok (.invokevirtual 233, 3) := by decide +kernel
theorem dX8_lasts_4 : decode cX8_lasts 4 = .ok (.ireturn, 1) := by decide +kernel
abbrev rmX8_lasts : Room := { frames := 9, cells := 0, slots := 0, locals := 198 }
set_option maxHeartbeats 4000000 in
set_option maxRecDepth 100000 in
theorem wX8_lasts (Cx : ms_C p s m args meth c D cA a shM cX8_lasts 1 RX8 (some .int)) (out : Int32 × Mm) : ∀ (σ : Mm) (H : Heap) (locs : List Loc) (ls : Array Slot), ms_I D cA a shM s σ H locs → lv_has ls 1 [(0, .ref (a 0))] → fX8_lasts σ = some out → W p l e rmX8_lasts s m args below meth c H locs 0 0 (MQ below (ms_Qi D cA a shM out.1 out.2) args s 0 0 (ms_A a shM.length)) (F0 m 0 ls []) := by
  have hx := Cx.1
  have hb := Cx.2.1
  intro σ H locs ls hI hl h
  unfold fX8_lasts at h
  refine lv_aload_n hx hb dX8_lasts_0 rfl (lv_at hl 0 rfl) ?_
  obtain ⟨⟨r2, σ3⟩, hc1, h⟩ := ms_bdE h
  refine kX8_lastsNow Cx hI hc1 wd_32_20 (Nat.le_of_ble_eq_true rfl) (Nat.le_of_ble_eq_true rfl) hl.1 (Nat.le_of_ble_eq_true rfl) dX8_lasts_1 (fun H locs hI => ?_)
  exact ms_riw Cx hI h dX8_lasts_4
theorem yvX8_lasts : ms_YV yX8_lasts RX8 cX8_lasts 1 (some .int) 0 := ⟨wd_32_17, wd_32_18, wd_1_5, wd_32_19, rfl, by decide +kernel, by decide +kernel, by decide +kernel⟩
set_option maxHeartbeats 4000000 in
theorem metX8_lasts (l : Launch) (hDis : ms_Dis a shM.length) {σ : Mm} {out : Int32 × Mm} (h : fX8_lasts σ = some out) : Met l yX8_lasts (.code yX8_lasts cX8_lasts 1 (some .int) :: wsL_law) rmX8_lasts (ms_Pc D cA a shM [.ref (a 0)] σ) (ms_Qi D cA a shM out.1 out.2) 0 0 (ms_A a shM.length) := by
  refine Met.ofW (cc := cX8_lasts) (maxL := 1) (ret := (some .int)) (by decide) rfl ?_
  intro p e s m args below meth c s₁ B hml hv
  obtain ⟨rfl, hK, hN, hP⟩ := hv
  have hl := lv_entry ([.ref (a 0)]) (n := 1) (Nat.le_of_ble_eq_true rfl)
  rw [lg_entry_eq]
  generalize (lg_sl ([.ref (a 0)]) ++ List.replicate (1 - (lg_sl ([.ref (a 0)])).length) Slot.unset).toArray = ls at hl ⊢
  exact wX8_lasts ⟨B.exec, B.bytes, hml, findClass_of_methodNamed B.named, fun w hw => atoms_spec (ws := .code yX8_lasts cX8_lasts 1 (some .int) :: wsL_law) B.pre w (List.mem_cons_of_mem _ hw), B.returns, B.notSynchronized, hK, hDis, hN⟩ out σ s.heap [] ls ⟨hP, va_S.rf⟩ hl h
theorem kX8_lasts (Cx : ms_C p s m args meth c D cA a shM cc nL own ret) {σ : Mm} {H : Heap} {locs : List Loc} (hI : ms_I D cA a shM s σ H locs) {out : Int32 × Mm} (h : fX8_lasts σ = some out) (hl : Cond.methodLink own idx yX8_lasts ∈ wsL_law) (hf : 9 + 1 ≤ R.frames) (hlo : 8 + (1 + 11) + 198 ≤ R.locals) (hsz : ls.size = nL) (hW : (rest.map fun v => v.category).sum ≤ 8) (hd : decode cc pc = .ok (.invokevirtual idx, 3)) (kk : ∀ (H1 : Heap) (locs1 : List Loc), ms_I D cA a shM s out.2 H1 locs1 → W p l e R s m args below meth c H1 locs1 0 0 Q (F0 m (pc + 3) ls (.int out.1 :: rest))) : W p l e R s m args below meth c H locs 0 0 Q (F0 m pc ls (.ref (a 0) :: rest)) :=
  ms_ci hI (ms_runV (av := []) Cx hI 0 shM_0 (ci := 8) rfl rfl yvX8_lasts (metX8_lasts l Cx.2.2.2.2.2.2.2.2.1  h) ⟨rfl, rfl⟩ hl ⟨hf, hlo⟩ rfl hsz rfl hW ⟨Nat.zero_le _, Nat.zero_le _⟩ hd) kk
/-! X8 seen (II)I -/
theorem dX8_seen_0 : decode cX8_seen 0 = .ok (.iload_n 1, 1) := by decide +kernel
theorem dX8_seen_1 : decode cX8_seen 1 = .ok (.invokestatic 194, 3) := by decide +kernel
theorem dX8_seen_4 : decode cX8_seen 4 = .ok (.ifCond .eq 14, 3) := by decide +kernel
theorem dX8_seen_7 : decode cX8_seen 7 = .ok (.iload_n 2, 1) := by decide +kernel
theorem dX8_seen_8 : decode cX8_seen 8 = .ok (.iconst 0, 1) := by decide +kernel
theorem dX8_seen_9 : decode cX8_seen 9 = .ok (.sipush 999, 3) := by decide +kernel
theorem dX8_seen_12 : decode cX8_seen 12 = .ok (.invokestatic 95, 3) := by decide +kernel
theorem dX8_seen_15 : decode cX8_seen 15 = .ok (.ifCond .ne 6, 3) := by decide +kernel
theorem dX8_seen_18 : decode cX8_seen 18 = .ok (.bipush (-2), 2) := by decide +kernel
theorem dX8_seen_20 : decode cX8_seen 20 = .ok (.ireturn, 1) := by decide +kernel
theorem dX8_seen_21 : decode cX8_seen 21 = .ok (.aload_n 0, 1) := by decide +kernel
theorem dX8_seen_22 : decode cX8_seen 22 = .ok (.getfield 236, 3) := by decide +kernel
theorem dX8_seen_25 : decode cX8_seen 25 = .ok (.bipush 12, 2) := by decide +kernel
theorem dX8_seen_27 : decode cX8_seen 27 = .ok (.if_icmp .ne 6, 3) := by decide +kernel
theorem dX8_seen_30 : decode cX8_seen 30 = .ok (.bipush (-4), 2) := by decide +kernel
theorem dX8_seen_32 : decode cX8_seen 32 = .ok (.ireturn, 1) := by decide +kernel
theorem dX8_seen_33 : decode cX8_seen 33 = .ok (.aload_n 0, 1) := by decide +kernel
theorem dX8_seen_34 : decode cX8_seen 34 = .ok (.getfield 73, 3) := by decide +kernel
theorem dX8_seen_37 : decode cX8_seen 37 = .ok (.aload_n 0, 1) := by decide +kernel
theorem dX8_seen_38 : decode cX8_seen 38 = .ok (.getfield 236, 3) := by decide +kernel
theorem dX8_seen_41 : decode cX8_seen 41 = .ok (.iload_n 1, 1) := by decide +kernel
theorem dX8_seen_42 : decode cX8_seen 42 = .ok (.iastore, 1) := by decide +kernel
theorem dX8_seen_43 : decode cX8_seen 43 = .ok (.aload_n 0, 1) := by decide +kernel
theorem dX8_seen_44 : decode cX8_seen 44 = .ok (.getfield 76, 3) := by decide +kernel
theorem dX8_seen_47 : decode cX8_seen 47 = .ok (.aload_n 0, 1) := by decide +kernel
theorem dX8_seen_48 : decode cX8_seen 48 = .ok (.getfield 236, 3) := by decide +kernel
theorem dX8_seen_51 : decode cX8_seen 51 = .ok (.iload_n 2, 1) := by decide +kernel
theorem dX8_seen_52 : decode cX8_seen 52 = .ok (.iastore, 1) := by decide +kernel
theorem dX8_seen_53 : decode cX8_seen 53 = .ok (.aload_n 0, 1) := by decide +kernel
theorem dX8_seen_54 : decode cX8_seen 54 = .ok (.dup, 1) := by decide +kernel
theorem dX8_seen_55 : decode cX8_seen 55 = .ok (.getfield 236, 3) := by decide +kernel
theorem dX8_seen_58 : decode cX8_seen 58 = .ok (.iconst 1, 1) := by decide +kernel
theorem dX8_seen_59 : decode cX8_seen 59 = .ok (.iadd, 1) := by decide +kernel
theorem dX8_seen_60 : decode cX8_seen 60 = .ok (.putfield 236, 3) := by decide +kernel
theorem dX8_seen_63 : decode cX8_seen 63 = .ok (.aload_n 0, 1) := by decide +kernel
theorem dX8_seen_64 : decode cX8_seen 64 = .ok (.getfield 236, 3) := by decide +kernel
theorem dX8_seen_67 : decode cX8_seen 67 = .ok (.ireturn, 1) := by decide +kernel
abbrev rmX8_seen : Room := { frames := 2, cells := 0, slots := 0, locals := 42 }
set_option maxHeartbeats 4000000 in
set_option maxRecDepth 100000 in
theorem wX8_seen (Cx : ms_C p s m args meth c D cA a shM cX8_seen 3 RX8 (some .int)) (out : Int32 × Mm) : ∀ (p0 : Int32) (p1 : Int32) , ∀ (σ : Mm) (H : Heap) (locs : List Loc) (ls : Array Slot), ms_I D cA a shM s σ H locs → lv_has ls 3 [(0, .ref (a 0)), (1, .int p0), (2, .int p1)] → fX8_seen p0 p1 σ = some out → W p l e rmX8_seen s m args below meth c H locs 0 0 (MQ below (ms_Qi D cA a shM out.1 out.2) args s 0 0 (ms_A a shM.length)) (F0 m 0 ls []) := by
  have hx := Cx.1
  have hb := Cx.2.1
  intro p0 p1 σ H locs ls hI hl h
  unfold fX8_seen at h
  refine lv_iload_n hx hb dX8_seen_0 rfl (lv_at hl 1 rfl) ?_
  obtain ⟨r2, hc1, h⟩ := ms_bdE h
  refine kX8_isHour Cx hI hc1 (Or.inl wd_23_20) (Nat.le_of_ble_eq_true rfl) (Nat.le_of_ble_eq_true rfl) hl.1 (Nat.le_of_ble_eq_true rfl) dX8_seen_1 (fun H locs hI => ?_)
  refine lv_if_eq (tgt := 18) hx hb dX8_seen_4 rfl (fun hc => ?_) (fun hc => ?_)
  · have h := ms_ifT hc h
    refine lv_bipush (v := -2) hx hb dX8_seen_18 rfl ?_
    exact ms_riw Cx hI h dX8_seen_20
  · have h := ms_ifF hc h
    refine lv_iload_n hx hb dX8_seen_7 rfl (lv_at hl 2 rfl) ?_
    refine lv_iconst (v := 0) hx hb dX8_seen_8 rfl ?_
    refine lv_sipush (v := 999) hx hb dX8_seen_9 rfl ?_
    obtain ⟨r4, hc3, h⟩ := ms_bdE h
    refine kX8_in Cx hI hc3 (Or.inl wd_10_20) (Nat.le_of_ble_eq_true rfl) (Nat.le_of_ble_eq_true rfl) hl.1 (Nat.le_of_ble_eq_true rfl) dX8_seen_12 (fun H locs hI => ?_)
    refine lv_if_ne (tgt := 21) hx hb dX8_seen_15 rfl (fun hc => ?_) (fun hc => ?_)
    · have h := ms_ifF hc h
      refine lv_aload_n hx hb dX8_seen_21 rfl (lv_at hl 0 rfl) ?_
      refine gi_X8_25 Cx hI wd_33_13 dX8_seen_22 ?_
      refine lv_bipush (v := 12) hx hb dX8_seen_25 rfl ?_
      refine lv_icmp_ne (tgt := 33) hx hb dX8_seen_27 rfl (fun hc => ?_) (fun hc => ?_)
      · have h := ms_ifF hc h
        refine lv_aload_n hx hb dX8_seen_33 rfl (lv_at hl 0 rfl) ?_
        refine gr_X8_26 Cx hI wd_7_10 dX8_seen_34 ?_
        refine lv_aload_n hx hb dX8_seen_37 rfl (lv_at hl 0 rfl) ?_
        refine gi_X8_25 Cx hI wd_33_13 dX8_seen_38 ?_
        refine lv_iload_n hx hb dX8_seen_41 rfl (lv_at hl 1 rfl) ?_
        obtain ⟨hg, h⟩ := ms_gE h
        refine ms_sto Cx hI 22 shM_22 hg dX8_seen_42 (fun H locs σ5 eσ5 hI => ?_)
        have h := ms_ltE eσ5 h
        refine lv_aload_n hx hb dX8_seen_43 rfl (lv_at hl 0 rfl) ?_
        refine gr_X8_27 Cx hI wd_7_11 dX8_seen_44 ?_
        refine lv_aload_n hx hb dX8_seen_47 rfl (lv_at hl 0 rfl) ?_
        refine gi_X8_25 Cx hI wd_33_13 dX8_seen_48 ?_
        refine lv_iload_n hx hb dX8_seen_51 rfl (lv_at hl 2 rfl) ?_
        obtain ⟨hg, h⟩ := ms_gE h
        refine ms_sto Cx hI 23 shM_23 hg dX8_seen_52 (fun H locs σ6 eσ6 hI => ?_)
        have h := ms_ltE eσ6 h
        refine lv_aload_n hx hb dX8_seen_53 rfl (lv_at hl 0 rfl) ?_
        refine lv_dup hx hb dX8_seen_54 rfl ?_
        refine gi_X8_25 Cx hI wd_33_13 dX8_seen_55 ?_
        refine lv_iconst (v := 1) hx hb dX8_seen_58 rfl ?_
        refine lv_iadd hx hb dX8_seen_59 ?_
        refine pi_X8_25 Cx hI wd_33_13 dX8_seen_60 (fun H locs σ7 eσ7 hI => ?_)
        have h := ms_ltE eσ7 h
        refine lv_aload_n hx hb dX8_seen_63 rfl (lv_at hl 0 rfl) ?_
        refine gi_X8_25 Cx hI wd_33_13 dX8_seen_64 ?_
        exact ms_riw Cx hI h dX8_seen_67
      · have h := ms_ifT hc h
        refine lv_bipush (v := -4) hx hb dX8_seen_30 rfl ?_
        exact ms_riw Cx hI h dX8_seen_32
    · have h := ms_ifT hc h
      refine lv_bipush (v := -2) hx hb dX8_seen_18 rfl ?_
      exact ms_riw Cx hI h dX8_seen_20
theorem yvX8_seen : ms_YV yX8_seen RX8 cX8_seen 3 (some .int) 2 := ⟨wd_33_10, wd_33_11, wd_1_5, wd_33_12, rfl, by decide +kernel, by decide +kernel, by decide +kernel⟩
set_option maxHeartbeats 4000000 in
theorem metX8_seen (l : Launch) (hDis : ms_Dis a shM.length) {σ : Mm} {p0 : Int32} {p1 : Int32} {out : Int32 × Mm} (h : fX8_seen p0 p1 σ = some out) : Met l yX8_seen (.code yX8_seen cX8_seen 3 (some .int) :: wsL_law) rmX8_seen (ms_Pc D cA a shM [.ref (a 0), .int p0, .int p1] σ) (ms_Qi D cA a shM out.1 out.2) 0 0 (ms_A a shM.length) := by
  refine Met.ofW (cc := cX8_seen) (maxL := 3) (ret := (some .int)) (by decide) rfl ?_
  intro p e s m args below meth c s₁ B hml hv
  obtain ⟨rfl, hK, hN, hP⟩ := hv
  have hl := lv_entry ([.ref (a 0), .int p0, .int p1]) (n := 3) (Nat.le_of_ble_eq_true rfl)
  rw [lg_entry_eq]
  generalize (lg_sl ([.ref (a 0), .int p0, .int p1]) ++ List.replicate (3 - (lg_sl ([.ref (a 0), .int p0, .int p1])).length) Slot.unset).toArray = ls at hl ⊢
  exact wX8_seen ⟨B.exec, B.bytes, hml, findClass_of_methodNamed B.named, fun w hw => atoms_spec (ws := .code yX8_seen cX8_seen 3 (some .int) :: wsL_law) B.pre w (List.mem_cons_of_mem _ hw), B.returns, B.notSynchronized, hK, hDis, hN⟩ out p0 p1 σ s.heap [] ls ⟨hP, va_S.rf⟩ hl h
theorem kX8_seen (Cx : ms_C p s m args meth c D cA a shM cc nL own ret) {σ : Mm} {H : Heap} {locs : List Loc} (hI : ms_I D cA a shM s σ H locs) {p0 : Int32} {p1 : Int32} {out : Int32 × Mm} (h : fX8_seen p0 p1 σ = some out) (hl : Cond.methodLink own idx yX8_seen ∈ wsL_law) (hf : 2 + 1 ≤ R.frames) (hlo : 8 + (3 + 11) + 42 ≤ R.locals) (hsz : ls.size = nL) (hW : (rest.map fun v => v.category).sum ≤ 8) (hd : decode cc pc = .ok (.invokevirtual idx, 3)) (kk : ∀ (H1 : Heap) (locs1 : List Loc), ms_I D cA a shM s out.2 H1 locs1 → W p l e R s m args below meth c H1 locs1 0 0 Q (F0 m (pc + 3) ls (.int out.1 :: rest))) : W p l e R s m args below meth c H locs 0 0 Q (F0 m pc ls (.int p1 :: .int p0 :: .ref (a 0) :: rest)) :=
  ms_ci hI (ms_runV (av := [.int p0, .int p1]) Cx hI 0 shM_0 (ci := 8) rfl rfl yvX8_seen (metX8_seen l Cx.2.2.2.2.2.2.2.2.1  h) ⟨rfl, rfl⟩ hl ⟨hf, hlo⟩ rfl hsz rfl hW ⟨Nat.zero_le _, Nat.zero_le _⟩ hd) kk
/-! X8 forget ()I -/
theorem dX8_forget_0 : decode cX8_forget 0 = .ok (.aload_n 0, 1) := by decide +kernel
theorem dX8_forget_1 : decode cX8_forget 1 = .ok (.getfield 236, 3) := by decide +kernel
theorem dX8_forget_4 : decode cX8_forget 4 = .ok (.istore_n 1, 1) := by decide +kernel
theorem dX8_forget_5 : decode cX8_forget 5 = .ok (.aload_n 0, 1) := by decide +kernel
theorem dX8_forget_6 : decode cX8_forget 6 = .ok (.iconst 0, 1) := by decide +kernel
theorem dX8_forget_7 : decode cX8_forget 7 = .ok (.putfield 236, 3) := by decide +kernel
theorem dX8_forget_10 : decode cX8_forget 10 = .ok (.iload_n 1, 1) := by decide +kernel
theorem dX8_forget_11 : decode cX8_forget 11 = .ok (.ireturn, 1) := by decide +kernel
abbrev rmX8_forget : Room := { frames := 0, cells := 0, slots := 0, locals := 0 }
set_option maxHeartbeats 4000000 in
set_option maxRecDepth 100000 in
theorem wX8_forget (Cx : ms_C p s m args meth c D cA a shM cX8_forget 2 RX8 (some .int)) (out : Int32 × Mm) : ∀ (σ : Mm) (H : Heap) (locs : List Loc) (ls : Array Slot), ms_I D cA a shM s σ H locs → lv_has ls 2 [(0, .ref (a 0))] → fX8_forget σ = some out → W p l e rmX8_forget s m args below meth c H locs 0 0 (MQ below (ms_Qi D cA a shM out.1 out.2) args s 0 0 (ms_A a shM.length)) (F0 m 0 ls []) := by
  have hx := Cx.1
  have hb := Cx.2.1
  intro σ H locs ls hI hl h
  unfold fX8_forget at h
  refine lv_aload_n hx hb dX8_forget_0 rfl (lv_at hl 0 rfl) ?_
  refine gi_X8_25 Cx hI wd_33_13 dX8_forget_1 ?_
  refine lv_istore_n (lv' := [(1, .int (σ 0 25)), (0, .ref (a 0))]) hx hb dX8_forget_4 rfl hl (by decide) rfl (fun ls hl => ?_)
  refine lv_aload_n hx hb dX8_forget_5 rfl (lv_at hl 1 rfl) ?_
  refine lv_iconst (v := 0) hx hb dX8_forget_6 rfl ?_
  refine pi_X8_25 Cx hI wd_33_13 dX8_forget_7 (fun H locs σ1 eσ1 hI => ?_)
  have h := ms_ltE eσ1 h
  refine lv_iload_n hx hb dX8_forget_10 rfl (lv_at hl 0 rfl) ?_
  exact ms_riw Cx hI h dX8_forget_11
theorem yvX8_forget : ms_YV yX8_forget RX8 cX8_forget 2 (some .int) 0 := ⟨wd_33_23, wd_34_0, wd_1_5, wd_34_1, rfl, by decide +kernel, by decide +kernel, by decide +kernel⟩
set_option maxHeartbeats 4000000 in
theorem metX8_forget (l : Launch) (hDis : ms_Dis a shM.length) {σ : Mm} {out : Int32 × Mm} (h : fX8_forget σ = some out) : Met l yX8_forget (.code yX8_forget cX8_forget 2 (some .int) :: wsL_law) rmX8_forget (ms_Pc D cA a shM [.ref (a 0)] σ) (ms_Qi D cA a shM out.1 out.2) 0 0 (ms_A a shM.length) := by
  refine Met.ofW (cc := cX8_forget) (maxL := 2) (ret := (some .int)) (by decide) rfl ?_
  intro p e s m args below meth c s₁ B hml hv
  obtain ⟨rfl, hK, hN, hP⟩ := hv
  have hl := lv_entry ([.ref (a 0)]) (n := 2) (Nat.le_of_ble_eq_true rfl)
  rw [lg_entry_eq]
  generalize (lg_sl ([.ref (a 0)]) ++ List.replicate (2 - (lg_sl ([.ref (a 0)])).length) Slot.unset).toArray = ls at hl ⊢
  exact wX8_forget ⟨B.exec, B.bytes, hml, findClass_of_methodNamed B.named, fun w hw => atoms_spec (ws := .code yX8_forget cX8_forget 2 (some .int) :: wsL_law) B.pre w (List.mem_cons_of_mem _ hw), B.returns, B.notSynchronized, hK, hDis, hN⟩ out σ s.heap [] ls ⟨hP, va_S.rf⟩ hl h
theorem kX8_forget (Cx : ms_C p s m args meth c D cA a shM cc nL own ret) {σ : Mm} {H : Heap} {locs : List Loc} (hI : ms_I D cA a shM s σ H locs) {out : Int32 × Mm} (h : fX8_forget σ = some out) (hl : Cond.methodLink own idx yX8_forget ∈ wsL_law) (hf : 0 + 1 ≤ R.frames) (hlo : 8 + (2 + 11) + 0 ≤ R.locals) (hsz : ls.size = nL) (hW : (rest.map fun v => v.category).sum ≤ 8) (hd : decode cc pc = .ok (.invokevirtual idx, 3)) (kk : ∀ (H1 : Heap) (locs1 : List Loc), ms_I D cA a shM s out.2 H1 locs1 → W p l e R s m args below meth c H1 locs1 0 0 Q (F0 m (pc + 3) ls (.int out.1 :: rest))) : W p l e R s m args below meth c H locs 0 0 Q (F0 m pc ls (.ref (a 0) :: rest)) :=
  ms_ci hI (ms_runV (av := []) Cx hI 0 shM_0 (ci := 8) rfl rfl yvX8_forget (metX8_forget l Cx.2.2.2.2.2.2.2.2.1  h) ⟨rfl, rfl⟩ hl ⟨hf, hlo⟩ rfl hsz rfl hW ⟨Nat.zero_le _, Nat.zero_le _⟩ hd) kk
/-! X8 unlikeBy ()I -/
theorem dX8_unlikeBy_0 : decode cX8_unlikeBy 0 = .ok (.iconst 0, 1) := by decide +kernel
theorem dX8_unlikeBy_1 : decode cX8_unlikeBy 1 = .ok (.istore_n 1, 1) := by decide +kernel
theorem dX8_unlikeBy_2 : decode cX8_unlikeBy 2 = .ok (.iconst 0, 1) := by decide +kernel
theorem dX8_unlikeBy_3 : decode cX8_unlikeBy 3 = .ok (.istore_n 2, 1) := by decide +kernel
theorem dX8_unlikeBy_4 : decode cX8_unlikeBy 4 = .ok (.iload_n 2, 1) := by decide +kernel
theorem dX8_unlikeBy_5 : decode cX8_unlikeBy 5 = .ok (.aload_n 0, 1) := by decide +kernel
theorem dX8_unlikeBy_6 : decode cX8_unlikeBy 6 = .ok (.getfield 236, 3) := by decide +kernel
theorem dX8_unlikeBy_9 : decode cX8_unlikeBy 9 = .ok (.if_icmp .ge 37, 3) := by decide +kernel
theorem dX8_unlikeBy_12 : decode cX8_unlikeBy 12 = .ok (.iload_n 1, 1) := by decide +kernel
theorem dX8_unlikeBy_13 : decode cX8_unlikeBy 13 = .ok (.aload_n 0, 1) := by decide +kernel
theorem dX8_unlikeBy_14 : decode cX8_unlikeBy 14 = .ok (.getfield 49, 3) := by decide +kernel
theorem dX8_unlikeBy_17 : decode cX8_unlikeBy 17 = .ok (.aload_n 0, 1) := by decide +kernel
theorem dX8_unlikeBy_18 : decode cX8_unlikeBy 18 = .ok (.getfield 73, 3) := by decide +kernel
theorem dX8_unlikeBy_21 : decode cX8_unlikeBy 21 = .ok (.iload_n 2, 1) := by decide +kernel
theorem dX8_unlikeBy_22 : decode cX8_unlikeBy 22 = .ok (.iaload, 1) := by decide +kernel
theorem dX8_unlikeBy_23 : decode cX8_unlikeBy 23 = .ok (.iaload, 1) := by decide +kernel
theorem dX8_unlikeBy_24 : decode cX8_unlikeBy 24 = .ok (.aload_n 0, 1) := by decide +kernel
theorem dX8_unlikeBy_25 : decode cX8_unlikeBy 25 = .ok (.getfield 76, 3) := by decide +kernel
theorem dX8_unlikeBy_28 : decode cX8_unlikeBy 28 = .ok (.iload_n 2, 1) := by decide +kernel
theorem dX8_unlikeBy_29 : decode cX8_unlikeBy 29 = .ok (.iaload, 1) := by decide +kernel
theorem dX8_unlikeBy_30 : decode cX8_unlikeBy 30 = .ok (.if_icmp .ne 7, 3) := by decide +kernel
theorem dX8_unlikeBy_33 : decode cX8_unlikeBy 33 = .ok (.iconst 0, 1) := by decide +kernel
theorem dX8_unlikeBy_34 : decode cX8_unlikeBy 34 = .ok (.goto 4, 3) := by decide +kernel
theorem dX8_unlikeBy_37 : decode cX8_unlikeBy 37 = .ok (.iconst 1, 1) := by decide +kernel
theorem dX8_unlikeBy_38 : decode cX8_unlikeBy 38 = .ok (.iadd, 1) := by decide +kernel
theorem dX8_unlikeBy_39 : decode cX8_unlikeBy 39 = .ok (.istore_n 1, 1) := by decide +kernel
theorem dX8_unlikeBy_40 : decode cX8_unlikeBy 40 = .ok (.iinc 2 1, 3) := by decide +kernel
theorem dX8_unlikeBy_43 : decode cX8_unlikeBy 43 = .ok (.goto (-39), 3) := by decide +kernel
theorem dX8_unlikeBy_46 : decode cX8_unlikeBy 46 = .ok (.iload_n 1, 1) := by decide +kernel
theorem dX8_unlikeBy_47 : decode cX8_unlikeBy 47 = .ok (.ireturn, 1) := by decide +kernel
abbrev rmX8_unlikeBy : Room := { frames := 0, cells := 0, slots := 0, locals := 0 }
set_option maxHeartbeats 4000000 in
set_option maxRecDepth 100000 in
theorem wX8_unlikeBy_38 (Cx : ms_C p s m args meth c D cA a shM cX8_unlikeBy 3 RX8 (some .int)) (out : Int32) {σ : Mm} (K4 : Int32 → Int32 → Option (Int32)) (hK4 : ∀ (y1 : Int32) (y2 : Int32) , ∀ (H : Heap) (locs : List Loc) (ls : Array Slot), ms_I D cA a shM s σ H locs → lv_has ls 3 [(0, .ref (a 0)), (1, .int y1), (2, .int y2)] → K4 y1 y2 = some out → W p l e rmX8_unlikeBy s m args below meth c H locs 0 0 (MQ below (ms_Qi D cA a shM out σ) args s 0 0 (ms_A a shM.length)) (F0 m 4 ls [])) : ∀ (y1 : Int32) (y2 : Int32) (y3 : Int32) , ∀ (H : Heap) (locs : List Loc) (ls : Array Slot), ms_I D cA a shM s σ H locs → lv_has ls 3 [(0, .ref (a 0)), (2, .int y1)] → fX8_unlikeBy_38 σ K4 y1 y2 y3 = some out → W p l e rmX8_unlikeBy s m args below meth c H locs 0 0 (MQ below (ms_Qi D cA a shM out σ) args s 0 0 (ms_A a shM.length)) (F0 m 38 ls [.int y2, .int y3]) := by
  have hx := Cx.1
  have hb := Cx.2.1
  intro y1 y2 y3 H locs ls hI hl h
  unfold fX8_unlikeBy_38 at h
  refine lv_iadd hx hb dX8_unlikeBy_38 ?_
  refine lv_istore_n (lv' := [(1, .int (y3 + y2)), (0, .ref (a 0)), (2, .int y1)]) hx hb dX8_unlikeBy_39 rfl hl (by decide) rfl (fun ls hl => ?_)
  refine lv_iinc (v := y1 + 1) (lv' := [(2, .int (y1 + 1)), (1, .int (y3 + y2)), (0, .ref (a 0))]) hx hb dX8_unlikeBy_40 hl (k := 2) rfl rfl (by decide) rfl (fun ls hl => ?_)
  refine lv_goto (tgt := 4) hx hb dX8_unlikeBy_43 rfl ?_
  exact hK4 (y3 + y2) (y1 + 1) _ _ _ hI (lv_sub hl [2, 1, 0] rfl) h
set_option maxHeartbeats 4000000 in
set_option maxRecDepth 100000 in
theorem wX8_unlikeBy_4 (Cx : ms_C p s m args meth c D cA a shM cX8_unlikeBy 3 RX8 (some .int)) (out : Int32) {σ : Mm} : ∀ (n : Nat), ∀ (y1 : Int32) (y2 : Int32) , ∀ (H : Heap) (locs : List Loc) (ls : Array Slot), ms_I D cA a shM s σ H locs → lv_has ls 3 [(0, .ref (a 0)), (1, .int y1), (2, .int y2)] → fX8_unlikeBy_4 σ n y1 y2 = some out → W p l e rmX8_unlikeBy s m args below meth c H locs 0 0 (MQ below (ms_Qi D cA a shM out σ) args s 0 0 (ms_A a shM.length)) (F0 m 4 ls []) := by
  have hx := Cx.1
  have hb := Cx.2.1
  intro n
  induction n with
  | zero =>
    intro y1 y2 H locs ls hI hl h
    exact nomatch (show none = some out from h)
  | succ n ih =>
    intro y1 y2 H locs ls hI hl h
    rw [fX8_unlikeBy_4] at h
    refine lv_iload_n hx hb dX8_unlikeBy_4 rfl (lv_at hl 2 rfl) ?_
    refine lv_aload_n hx hb dX8_unlikeBy_5 rfl (lv_at hl 0 rfl) ?_
    refine gi_X8_25 Cx hI wd_33_13 dX8_unlikeBy_6 ?_
    refine lv_icmp_ge (tgt := 46) hx hb dX8_unlikeBy_9 rfl (fun hc => ?_) (fun hc => ?_)
    · have h := ms_ifT hc h
      refine lv_iload_n hx hb dX8_unlikeBy_46 rfl (lv_at hl 1 rfl) ?_
      exact ms_ri Cx hI (Option.some.inj h) rfl dX8_unlikeBy_47
    · have h := ms_ifF hc h
      refine lv_iload_n hx hb dX8_unlikeBy_12 rfl (lv_at hl 1 rfl) ?_
      refine lv_aload_n hx hb dX8_unlikeBy_13 rfl (lv_at hl 0 rfl) ?_
      refine gr_X8_17 Cx hI wd_7_2 dX8_unlikeBy_14 ?_
      refine lv_aload_n hx hb dX8_unlikeBy_17 rfl (lv_at hl 0 rfl) ?_
      refine gr_X8_26 Cx hI wd_7_10 dX8_unlikeBy_18 ?_
      refine lv_iload_n hx hb dX8_unlikeBy_21 rfl (lv_at hl 2 rfl) ?_
      obtain ⟨hg, h⟩ := ms_gE h
      refine ms_ld Cx hI 22 shM_22 hg dX8_unlikeBy_22 ?_
      obtain ⟨hg, h⟩ := ms_gE h
      refine ms_ld Cx hI 14 shM_14 hg dX8_unlikeBy_23 ?_
      refine lv_aload_n hx hb dX8_unlikeBy_24 rfl (lv_at hl 0 rfl) ?_
      refine gr_X8_27 Cx hI wd_7_11 dX8_unlikeBy_25 ?_
      refine lv_iload_n hx hb dX8_unlikeBy_28 rfl (lv_at hl 2 rfl) ?_
      obtain ⟨hg, h⟩ := ms_gE h
      refine ms_ld Cx hI 23 shM_23 hg dX8_unlikeBy_29 ?_
      refine lv_icmp_ne (tgt := 37) hx hb dX8_unlikeBy_30 rfl (fun hc => ?_) (fun hc => ?_)
      · have h := ms_ifF hc h
        refine lv_iconst (v := 1) hx hb dX8_unlikeBy_37 rfl ?_
        exact wX8_unlikeBy_38 Cx out (fX8_unlikeBy_4 σ n) ih y2 1 y1 _ _ _ hI (lv_sub hl [0, 2] rfl) h
      · have h := ms_ifT hc h
        refine lv_iconst (v := 0) hx hb dX8_unlikeBy_33 rfl ?_
        refine lv_goto (tgt := 38) hx hb dX8_unlikeBy_34 rfl ?_
        exact wX8_unlikeBy_38 Cx out (fX8_unlikeBy_4 σ n) ih y2 0 y1 _ _ _ hI (lv_sub hl [0, 2] rfl) h
set_option maxHeartbeats 4000000 in
set_option maxRecDepth 100000 in
theorem wX8_unlikeBy (Cx : ms_C p s m args meth c D cA a shM cX8_unlikeBy 3 RX8 (some .int)) (out : Int32) {σ : Mm} : ∀ (H : Heap) (locs : List Loc) (ls : Array Slot), ms_I D cA a shM s σ H locs → lv_has ls 3 [(0, .ref (a 0))] → fX8_unlikeBy σ = some out → W p l e rmX8_unlikeBy s m args below meth c H locs 0 0 (MQ below (ms_Qi D cA a shM out σ) args s 0 0 (ms_A a shM.length)) (F0 m 0 ls []) := by
  have hx := Cx.1
  have hb := Cx.2.1
  intro H locs ls hI hl h
  unfold fX8_unlikeBy at h
  refine lv_iconst (v := 0) hx hb dX8_unlikeBy_0 rfl ?_
  refine lv_istore_n (lv' := [(1, .int 0), (0, .ref (a 0))]) hx hb dX8_unlikeBy_1 rfl hl (by decide) rfl (fun ls hl => ?_)
  refine lv_iconst (v := 0) hx hb dX8_unlikeBy_2 rfl ?_
  refine lv_istore_n (lv' := [(2, .int 0), (1, .int 0), (0, .ref (a 0))]) hx hb dX8_unlikeBy_3 rfl hl (by decide) rfl (fun ls hl => ?_)
  exact wX8_unlikeBy_4 Cx out  ms_fu 0 0 _ _ _ hI (lv_sub hl [2, 1, 0] rfl) h
theorem yvX8_unlikeBy : ms_YV yX8_unlikeBy RX8 cX8_unlikeBy 3 (some .int) 0 := ⟨wd_34_19, wd_34_20, wd_1_5, wd_34_21, rfl, by decide +kernel, by decide +kernel, by decide +kernel⟩
set_option maxHeartbeats 4000000 in
theorem metX8_unlikeBy (l : Launch) (hDis : ms_Dis a shM.length) {σ : Mm} {out : Int32} (h : fX8_unlikeBy σ = some out) : Met l yX8_unlikeBy (.code yX8_unlikeBy cX8_unlikeBy 3 (some .int) :: wsL_law) rmX8_unlikeBy (ms_Pc D cA a shM [.ref (a 0)] σ) (ms_Qi D cA a shM out σ) 0 0 (ms_A a shM.length) := by
  refine Met.ofW (cc := cX8_unlikeBy) (maxL := 3) (ret := (some .int)) (by decide) rfl ?_
  intro p e s m args below meth c s₁ B hml hv
  obtain ⟨rfl, hK, hN, hP⟩ := hv
  have hl := lv_entry ([.ref (a 0)]) (n := 3) (Nat.le_of_ble_eq_true rfl)
  rw [lg_entry_eq]
  generalize (lg_sl ([.ref (a 0)]) ++ List.replicate (3 - (lg_sl ([.ref (a 0)])).length) Slot.unset).toArray = ls at hl ⊢
  exact wX8_unlikeBy ⟨B.exec, B.bytes, hml, findClass_of_methodNamed B.named, fun w hw => atoms_spec (ws := .code yX8_unlikeBy cX8_unlikeBy 3 (some .int) :: wsL_law) B.pre w (List.mem_cons_of_mem _ hw), B.returns, B.notSynchronized, hK, hDis, hN⟩ out  s.heap [] ls ⟨hP, va_S.rf⟩ hl h
theorem kX8_unlikeBy (Cx : ms_C p s m args meth c D cA a shM cc nL own ret) {σ : Mm} {H : Heap} {locs : List Loc} (hI : ms_I D cA a shM s σ H locs) {out : Int32} (h : fX8_unlikeBy σ = some out) (hl : Cond.methodLink own idx yX8_unlikeBy ∈ wsL_law) (hf : 0 + 1 ≤ R.frames) (hlo : 8 + (3 + 11) + 0 ≤ R.locals) (hsz : ls.size = nL) (hW : (rest.map fun v => v.category).sum ≤ 8) (hd : decode cc pc = .ok (.invokevirtual idx, 3)) (kk : ∀ (H1 : Heap) (locs1 : List Loc), ms_I D cA a shM s σ H1 locs1 → W p l e R s m args below meth c H1 locs1 0 0 Q (F0 m (pc + 3) ls (.int out :: rest))) : W p l e R s m args below meth c H locs 0 0 Q (F0 m pc ls (.ref (a 0) :: rest)) :=
  ms_ci hI (ms_runV (av := []) Cx hI 0 shM_0 (ci := 8) rfl rfl yvX8_unlikeBy (metX8_unlikeBy l Cx.2.2.2.2.2.2.2.2.1  h) ⟨rfl, rfl⟩ hl ⟨hf, hlo⟩ rfl hsz rfl hW ⟨Nat.zero_le _, Nat.zero_le _⟩ hd) kk
/-! X8 unlikeNow ()I -/
theorem dX8_unlikeNow_0 : decode cX8_unlikeNow 0 = .ok (.aload_n 0, 1) := by decide +kernel
theorem dX8_unlikeNow_1 : decode cX8_unlikeNow 1 = .ok (.invokevirtual 191, 3) := by decide +kernel
theorem dX8_unlikeNow_4 : decode cX8_unlikeNow 4 = .ok (.aload_n 0, 1) := by decide +kernel
theorem dX8_unlikeNow_5 : decode cX8_unlikeNow 5 = .ok (.invokevirtual 239, 3) := by decide +kernel
theorem dX8_unlikeNow_8 : decode cX8_unlikeNow 8 = .ok (.ireturn, 1) := by decide +kernel
abbrev rmX8_unlikeNow : Room := { frames := 8, cells := 0, slots := 0, locals := 177 }
set_option maxHeartbeats 4000000 in
set_option maxRecDepth 100000 in
theorem wX8_unlikeNow (Cx : ms_C p s m args meth c D cA a shM cX8_unlikeNow 1 RX8 (some .int)) (out : Int32 × Mm) : ∀ (σ : Mm) (H : Heap) (locs : List Loc) (ls : Array Slot), ms_I D cA a shM s σ H locs → lv_has ls 1 [(0, .ref (a 0))] → fX8_unlikeNow σ = some out → W p l e rmX8_unlikeNow s m args below meth c H locs 0 0 (MQ below (ms_Qi D cA a shM out.1 out.2) args s 0 0 (ms_A a shM.length)) (F0 m 0 ls []) := by
  have hx := Cx.1
  have hb := Cx.2.1
  intro σ H locs ls hI hl h
  unfold fX8_unlikeNow at h
  refine lv_aload_n hx hb dX8_unlikeNow_0 rfl (lv_at hl 0 rfl) ?_
  obtain ⟨σ2, hc1, h⟩ := ms_bdE h
  refine kX8_lays Cx hI hc1 wd_24_3 (Nat.le_of_ble_eq_true rfl) (Nat.le_of_ble_eq_true rfl) hl.1 (Nat.le_of_ble_eq_true rfl) dX8_unlikeNow_1 (fun H locs hI => ?_)
  refine lv_aload_n hx hb dX8_unlikeNow_4 rfl (lv_at hl 0 rfl) ?_
  obtain ⟨r4, hc3, h⟩ := ms_bdE h
  refine kX8_unlikeBy Cx hI hc3 wd_34_18 (Nat.le_of_ble_eq_true rfl) (Nat.le_of_ble_eq_true rfl) hl.1 (Nat.le_of_ble_eq_true rfl) dX8_unlikeNow_5 (fun H locs hI => ?_)
  exact ms_riw Cx hI h dX8_unlikeNow_8
theorem yvX8_unlikeNow : ms_YV yX8_unlikeNow RX8 cX8_unlikeNow 1 (some .int) 0 := ⟨wd_34_15, wd_34_16, wd_1_5, wd_34_17, rfl, by decide +kernel, by decide +kernel, by decide +kernel⟩
set_option maxHeartbeats 4000000 in
theorem metX8_unlikeNow (l : Launch) (hDis : ms_Dis a shM.length) {σ : Mm} {out : Int32 × Mm} (h : fX8_unlikeNow σ = some out) : Met l yX8_unlikeNow (.code yX8_unlikeNow cX8_unlikeNow 1 (some .int) :: wsL_law) rmX8_unlikeNow (ms_Pc D cA a shM [.ref (a 0)] σ) (ms_Qi D cA a shM out.1 out.2) 0 0 (ms_A a shM.length) := by
  refine Met.ofW (cc := cX8_unlikeNow) (maxL := 1) (ret := (some .int)) (by decide) rfl ?_
  intro p e s m args below meth c s₁ B hml hv
  obtain ⟨rfl, hK, hN, hP⟩ := hv
  have hl := lv_entry ([.ref (a 0)]) (n := 1) (Nat.le_of_ble_eq_true rfl)
  rw [lg_entry_eq]
  generalize (lg_sl ([.ref (a 0)]) ++ List.replicate (1 - (lg_sl ([.ref (a 0)])).length) Slot.unset).toArray = ls at hl ⊢
  exact wX8_unlikeNow ⟨B.exec, B.bytes, hml, findClass_of_methodNamed B.named, fun w hw => atoms_spec (ws := .code yX8_unlikeNow cX8_unlikeNow 1 (some .int) :: wsL_law) B.pre w (List.mem_cons_of_mem _ hw), B.returns, B.notSynchronized, hK, hDis, hN⟩ out σ s.heap [] ls ⟨hP, va_S.rf⟩ hl h
theorem kX8_unlikeNow (Cx : ms_C p s m args meth c D cA a shM cc nL own ret) {σ : Mm} {H : Heap} {locs : List Loc} (hI : ms_I D cA a shM s σ H locs) {out : Int32 × Mm} (h : fX8_unlikeNow σ = some out) (hl : Cond.methodLink own idx yX8_unlikeNow ∈ wsL_law) (hf : 8 + 1 ≤ R.frames) (hlo : 8 + (1 + 11) + 177 ≤ R.locals) (hsz : ls.size = nL) (hW : (rest.map fun v => v.category).sum ≤ 8) (hd : decode cc pc = .ok (.invokevirtual idx, 3)) (kk : ∀ (H1 : Heap) (locs1 : List Loc), ms_I D cA a shM s out.2 H1 locs1 → W p l e R s m args below meth c H1 locs1 0 0 Q (F0 m (pc + 3) ls (.int out.1 :: rest))) : W p l e R s m args below meth c H locs 0 0 Q (F0 m pc ls (.ref (a 0) :: rest)) :=
  ms_ci hI (ms_runV (av := []) Cx hI 0 shM_0 (ci := 8) rfl rfl yvX8_unlikeNow (metX8_unlikeNow l Cx.2.2.2.2.2.2.2.2.1  h) ⟨rfl, rfl⟩ hl ⟨hf, hlo⟩ rfl hsz rfl hW ⟨Nat.zero_le _, Nat.zero_le _⟩ hd) kk
/-! X8 unlike ()I -/
theorem dX8_unlike_0 : decode cX8_unlike 0 = .ok (.aload_n 0, 1) := by decide +kernel
theorem dX8_unlike_1 : decode cX8_unlike 1 = .ok (.invokevirtual 242, 3) := by decide +kernel
theorem dX8_unlike_4 : decode cX8_unlike 4 = .ok (.ireturn, 1) := by decide +kernel
abbrev rmX8_unlike : Room := { frames := 9, cells := 0, slots := 0, locals := 197 }
set_option maxHeartbeats 4000000 in
set_option maxRecDepth 100000 in
theorem wX8_unlike (Cx : ms_C p s m args meth c D cA a shM cX8_unlike 1 RX8 (some .int)) (out : Int32 × Mm) : ∀ (σ : Mm) (H : Heap) (locs : List Loc) (ls : Array Slot), ms_I D cA a shM s σ H locs → lv_has ls 1 [(0, .ref (a 0))] → fX8_unlike σ = some out → W p l e rmX8_unlike s m args below meth c H locs 0 0 (MQ below (ms_Qi D cA a shM out.1 out.2) args s 0 0 (ms_A a shM.length)) (F0 m 0 ls []) := by
  have hx := Cx.1
  have hb := Cx.2.1
  intro σ H locs ls hI hl h
  unfold fX8_unlike at h
  refine lv_aload_n hx hb dX8_unlike_0 rfl (lv_at hl 0 rfl) ?_
  obtain ⟨⟨r2, σ3⟩, hc1, h⟩ := ms_bdE h
  refine kX8_unlikeNow Cx hI hc1 wd_34_14 (Nat.le_of_ble_eq_true rfl) (Nat.le_of_ble_eq_true rfl) hl.1 (Nat.le_of_ble_eq_true rfl) dX8_unlike_1 (fun H locs hI => ?_)
  exact ms_riw Cx hI h dX8_unlike_4
theorem yvX8_unlike : ms_YV yX8_unlike RX8 cX8_unlike 1 (some .int) 0 := ⟨wd_34_11, wd_34_12, wd_1_5, wd_34_13, rfl, by decide +kernel, by decide +kernel, by decide +kernel⟩
set_option maxHeartbeats 4000000 in
theorem metX8_unlike (l : Launch) (hDis : ms_Dis a shM.length) {σ : Mm} {out : Int32 × Mm} (h : fX8_unlike σ = some out) : Met l yX8_unlike (.code yX8_unlike cX8_unlike 1 (some .int) :: wsL_law) rmX8_unlike (ms_Pc D cA a shM [.ref (a 0)] σ) (ms_Qi D cA a shM out.1 out.2) 0 0 (ms_A a shM.length) := by
  refine Met.ofW (cc := cX8_unlike) (maxL := 1) (ret := (some .int)) (by decide) rfl ?_
  intro p e s m args below meth c s₁ B hml hv
  obtain ⟨rfl, hK, hN, hP⟩ := hv
  have hl := lv_entry ([.ref (a 0)]) (n := 1) (Nat.le_of_ble_eq_true rfl)
  rw [lg_entry_eq]
  generalize (lg_sl ([.ref (a 0)]) ++ List.replicate (1 - (lg_sl ([.ref (a 0)])).length) Slot.unset).toArray = ls at hl ⊢
  exact wX8_unlike ⟨B.exec, B.bytes, hml, findClass_of_methodNamed B.named, fun w hw => atoms_spec (ws := .code yX8_unlike cX8_unlike 1 (some .int) :: wsL_law) B.pre w (List.mem_cons_of_mem _ hw), B.returns, B.notSynchronized, hK, hDis, hN⟩ out σ s.heap [] ls ⟨hP, va_S.rf⟩ hl h
theorem kX8_unlike (Cx : ms_C p s m args meth c D cA a shM cc nL own ret) {σ : Mm} {H : Heap} {locs : List Loc} (hI : ms_I D cA a shM s σ H locs) {out : Int32 × Mm} (h : fX8_unlike σ = some out) (hl : Cond.methodLink own idx yX8_unlike ∈ wsL_law) (hf : 9 + 1 ≤ R.frames) (hlo : 8 + (1 + 11) + 197 ≤ R.locals) (hsz : ls.size = nL) (hW : (rest.map fun v => v.category).sum ≤ 8) (hd : decode cc pc = .ok (.invokevirtual idx, 3)) (kk : ∀ (H1 : Heap) (locs1 : List Loc), ms_I D cA a shM s out.2 H1 locs1 → W p l e R s m args below meth c H1 locs1 0 0 Q (F0 m (pc + 3) ls (.int out.1 :: rest))) : W p l e R s m args below meth c H locs 0 0 Q (F0 m pc ls (.ref (a 0) :: rest)) :=
  ms_ci hI (ms_runV (av := []) Cx hI 0 shM_0 (ci := 8) rfl rfl yvX8_unlike (metX8_unlike l Cx.2.2.2.2.2.2.2.2.1  h) ⟨rfl, rfl⟩ hl ⟨hf, hlo⟩ rfl hsz rfl hW ⟨Nat.zero_le _, Nat.zero_le _⟩ hd) kk
/-! X8 thief (I)I -/
theorem dX8_thief_0 : decode cX8_thief 0 = .ok (.iload_n 1, 1) := by decide +kernel
theorem dX8_thief_1 : decode cX8_thief 1 = .ok (.iconst 0, 1) := by decide +kernel
theorem dX8_thief_2 : decode cX8_thief 2 = .ok (.iconst 1, 1) := by decide +kernel
theorem dX8_thief_3 : decode cX8_thief 3 = .ok (.invokestatic 95, 3) := by decide +kernel
theorem dX8_thief_6 : decode cX8_thief 6 = .ok (.ifCond .ne 6, 3) := by decide +kernel
theorem dX8_thief_9 : decode cX8_thief 9 = .ok (.bipush (-2), 2) := by decide +kernel
theorem dX8_thief_11 : decode cX8_thief 11 = .ok (.ireturn, 1) := by decide +kernel
theorem dX8_thief_12 : decode cX8_thief 12 = .ok (.aload_n 0, 1) := by decide +kernel
theorem dX8_thief_13 : decode cX8_thief 13 = .ok (.invokevirtual 140, 3) := by decide +kernel
theorem dX8_thief_16 : decode cX8_thief 16 = .ok (.istore_n 2, 1) := by decide +kernel
theorem dX8_thief_17 : decode cX8_thief 17 = .ok (.aload_n 0, 1) := by decide +kernel
theorem dX8_thief_18 : decode cX8_thief 18 = .ok (.invokevirtual 184, 3) := by decide +kernel
theorem dX8_thief_21 : decode cX8_thief 21 = .ok (.iconst 0, 1) := by decide +kernel
theorem dX8_thief_22 : decode cX8_thief 22 = .ok (.istore_n 3, 1) := by decide +kernel
theorem dX8_thief_23 : decode cX8_thief 23 = .ok (.iconst (-1), 1) := by decide +kernel
theorem dX8_thief_24 : decode cX8_thief 24 = .ok (.istore 4, 2) := by decide +kernel
theorem dX8_thief_26 : decode cX8_thief 26 = .ok (.iconst 0, 1) := by decide +kernel
theorem dX8_thief_27 : decode cX8_thief 27 = .ok (.istore 5, 2) := by decide +kernel
theorem dX8_thief_29 : decode cX8_thief 29 = .ok (.iload 5, 2) := by decide +kernel
theorem dX8_thief_31 : decode cX8_thief 31 = .ok (.bipush 24, 2) := by decide +kernel
theorem dX8_thief_33 : decode cX8_thief 33 = .ok (.if_icmp .ge 90, 3) := by decide +kernel
theorem dX8_thief_36 : decode cX8_thief 36 = .ok (.iconst 1, 1) := by decide +kernel
theorem dX8_thief_37 : decode cX8_thief 37 = .ok (.istore 6, 2) := by decide +kernel
theorem dX8_thief_39 : decode cX8_thief 39 = .ok (.iload 6, 2) := by decide +kernel
theorem dX8_thief_41 : decode cX8_thief 41 = .ok (.bipush 41, 2) := by decide +kernel
theorem dX8_thief_43 : decode cX8_thief 43 = .ok (.if_icmp .ge 74, 3) := by decide +kernel
theorem dX8_thief_46 : decode cX8_thief 46 = .ok (.aload_n 0, 1) := by decide +kernel
theorem dX8_thief_47 : decode cX8_thief 47 = .ok (.sipush 240, 3) := by decide +kernel
theorem dX8_thief_50 : decode cX8_thief 50 = .ok (.iconst 0, 1) := by decide +kernel
theorem dX8_thief_51 : decode cX8_thief 51 = .ok (.iload 5, 2) := by decide +kernel
theorem dX8_thief_53 : decode cX8_thief 53 = .ok (.iload 6, 2) := by decide +kernel
theorem dX8_thief_55 : decode cX8_thief 55 = .ok (.invokevirtual 187, 3) := by decide +kernel
theorem dX8_thief_58 : decode cX8_thief 58 = .ok (.aload_n 0, 1) := by decide +kernel
theorem dX8_thief_59 : decode cX8_thief 59 = .ok (.invokevirtual 239, 3) := by decide +kernel
theorem dX8_thief_62 : decode cX8_thief 62 = .ok (.ifCond .ne 7, 3) := by decide +kernel
theorem dX8_thief_65 : decode cX8_thief 65 = .ok (.iconst 1, 1) := by decide +kernel
theorem dX8_thief_66 : decode cX8_thief 66 = .ok (.goto 4, 3) := by decide +kernel
theorem dX8_thief_69 : decode cX8_thief 69 = .ok (.iconst 0, 1) := by decide +kernel
theorem dX8_thief_70 : decode cX8_thief 70 = .ok (.istore 7, 2) := by decide +kernel
theorem dX8_thief_72 : decode cX8_thief 72 = .ok (.iload_n 3, 1) := by decide +kernel
theorem dX8_thief_73 : decode cX8_thief 73 = .ok (.iload 7, 2) := by decide +kernel
theorem dX8_thief_75 : decode cX8_thief 75 = .ok (.ifCond .eq 7, 3) := by decide +kernel
theorem dX8_thief_78 : decode cX8_thief 78 = .ok (.iconst 1, 1) := by decide +kernel
theorem dX8_thief_79 : decode cX8_thief 79 = .ok (.goto 4, 3) := by decide +kernel
theorem dX8_thief_82 : decode cX8_thief 82 = .ok (.iconst 0, 1) := by decide +kernel
theorem dX8_thief_83 : decode cX8_thief 83 = .ok (.iadd, 1) := by decide +kernel
theorem dX8_thief_84 : decode cX8_thief 84 = .ok (.istore_n 3, 1) := by decide +kernel
theorem dX8_thief_85 : decode cX8_thief 85 = .ok (.iload 7, 2) := by decide +kernel
theorem dX8_thief_87 : decode cX8_thief 87 = .ok (.ifCond .eq 20, 3) := by decide +kernel
theorem dX8_thief_90 : decode cX8_thief 90 = .ok (.iload 4, 2) := by decide +kernel
theorem dX8_thief_92 : decode cX8_thief 92 = .ok (.iconst (-1), 1) := by decide +kernel
theorem dX8_thief_93 : decode cX8_thief 93 = .ok (.if_icmp .ne 14, 3) := by decide +kernel
theorem dX8_thief_96 : decode cX8_thief 96 = .ok (.bipush 100, 2) := by decide +kernel
theorem dX8_thief_98 : decode cX8_thief 98 = .ok (.iload 5, 2) := by decide +kernel
theorem dX8_thief_100 : decode cX8_thief 100 = .ok (.imul, 1) := by decide +kernel
theorem dX8_thief_101 : decode cX8_thief 101 = .ok (.iload 6, 2) := by decide +kernel
theorem dX8_thief_103 : decode cX8_thief 103 = .ok (.iadd, 1) := by decide +kernel
theorem dX8_thief_104 : decode cX8_thief 104 = .ok (.goto 5, 3) := by decide +kernel
theorem dX8_thief_107 : decode cX8_thief 107 = .ok (.iload 4, 2) := by decide +kernel
theorem dX8_thief_109 : decode cX8_thief 109 = .ok (.istore 4, 2) := by decide +kernel
theorem dX8_thief_111 : decode cX8_thief 111 = .ok (.iinc 6 1, 3) := by decide +kernel
theorem dX8_thief_114 : decode cX8_thief 114 = .ok (.goto (-75), 3) := by decide +kernel
theorem dX8_thief_117 : decode cX8_thief 117 = .ok (.iinc 5 1, 3) := by decide +kernel
theorem dX8_thief_120 : decode cX8_thief 120 = .ok (.goto (-91), 3) := by decide +kernel
theorem dX8_thief_123 : decode cX8_thief 123 = .ok (.iload_n 1, 1) := by decide +kernel
theorem dX8_thief_124 : decode cX8_thief 124 = .ok (.ifCond .ne 7, 3) := by decide +kernel
theorem dX8_thief_127 : decode cX8_thief 127 = .ok (.iload_n 3, 1) := by decide +kernel
theorem dX8_thief_128 : decode cX8_thief 128 = .ok (.goto 5, 3) := by decide +kernel
theorem dX8_thief_131 : decode cX8_thief 131 = .ok (.iload 4, 2) := by decide +kernel
theorem dX8_thief_133 : decode cX8_thief 133 = .ok (.ireturn, 1) := by decide +kernel
abbrev rmX8_thief : Room := { frames := 7, cells := 0, slots := 0, locals := 156 }
set_option maxHeartbeats 4000000 in
set_option maxRecDepth 100000 in
theorem wX8_thief_109 (Cx : ms_C p s m args meth c D cA a shM cX8_thief 8 RX8 (some .int)) (out : Int32 × Mm) (K39 : Int32 → Int32 → Int32 → Int32 → Int32 → Mm → Option (Int32 × Mm)) (hK39 : ∀ (y1 : Int32) (y2 : Int32) (y3 : Int32) (y4 : Int32) (y5 : Int32) , ∀ (σ : Mm) (H : Heap) (locs : List Loc) (ls : Array Slot), ms_I D cA a shM s σ H locs → lv_has ls 8 [(0, .ref (a 0)), (1, .int y1), (3, .int y2), (4, .int y3), (5, .int y4), (6, .int y5)] → K39 y1 y2 y3 y4 y5 σ = some out → W p l e rmX8_thief s m args below meth c H locs 0 0 (MQ below (ms_Qi D cA a shM out.1 out.2) args s 0 0 (ms_A a shM.length)) (F0 m 39 ls [])) : ∀ (y1 : Int32) (y2 : Int32) (y3 : Int32) (y4 : Int32) (y5 : Int32) , ∀ (σ : Mm) (H : Heap) (locs : List Loc) (ls : Array Slot), ms_I D cA a shM s σ H locs → lv_has ls 8 [(0, .ref (a 0)), (1, .int y1), (3, .int y2), (5, .int y3), (6, .int y4)] → fX8_thief_109 K39 y1 y2 y3 y4 y5 σ = some out → W p l e rmX8_thief s m args below meth c H locs 0 0 (MQ below (ms_Qi D cA a shM out.1 out.2) args s 0 0 (ms_A a shM.length)) (F0 m 109 ls [.int y5]) := by
  have hx := Cx.1
  have hb := Cx.2.1
  intro y1 y2 y3 y4 y5 σ H locs ls hI hl h
  unfold fX8_thief_109 at h
  refine lv_istore (lv' := [(4, .int y5), (0, .ref (a 0)), (1, .int y1), (3, .int y2), (5, .int y3), (6, .int y4)]) hx hb dX8_thief_109 hl (by decide) rfl (fun ls hl => ?_)
  refine lv_iinc (v := y4 + 1) (lv' := [(6, .int (y4 + 1)), (4, .int y5), (0, .ref (a 0)), (1, .int y1), (3, .int y2), (5, .int y3)]) hx hb dX8_thief_111 hl (k := 5) rfl rfl (by decide) rfl (fun ls hl => ?_)
  refine lv_goto (tgt := 39) hx hb dX8_thief_114 rfl ?_
  exact hK39 y1 y2 y5 y3 (y4 + 1) σ _ _ _ hI (lv_sub hl [2, 3, 4, 1, 5, 0] rfl) h
set_option maxHeartbeats 4000000 in
set_option maxRecDepth 100000 in
theorem wX8_thief_107 (Cx : ms_C p s m args meth c D cA a shM cX8_thief 8 RX8 (some .int)) (out : Int32 × Mm) (K39 : Int32 → Int32 → Int32 → Int32 → Int32 → Mm → Option (Int32 × Mm)) (hK39 : ∀ (y1 : Int32) (y2 : Int32) (y3 : Int32) (y4 : Int32) (y5 : Int32) , ∀ (σ : Mm) (H : Heap) (locs : List Loc) (ls : Array Slot), ms_I D cA a shM s σ H locs → lv_has ls 8 [(0, .ref (a 0)), (1, .int y1), (3, .int y2), (4, .int y3), (5, .int y4), (6, .int y5)] → K39 y1 y2 y3 y4 y5 σ = some out → W p l e rmX8_thief s m args below meth c H locs 0 0 (MQ below (ms_Qi D cA a shM out.1 out.2) args s 0 0 (ms_A a shM.length)) (F0 m 39 ls [])) : ∀ (y1 : Int32) (y2 : Int32) (y3 : Int32) (y4 : Int32) (y5 : Int32) , ∀ (σ : Mm) (H : Heap) (locs : List Loc) (ls : Array Slot), ms_I D cA a shM s σ H locs → lv_has ls 8 [(0, .ref (a 0)), (1, .int y1), (3, .int y2), (4, .int y3), (5, .int y4), (6, .int y5)] → fX8_thief_107 K39 y1 y2 y3 y4 y5 σ = some out → W p l e rmX8_thief s m args below meth c H locs 0 0 (MQ below (ms_Qi D cA a shM out.1 out.2) args s 0 0 (ms_A a shM.length)) (F0 m 107 ls []) := by
  have hx := Cx.1
  have hb := Cx.2.1
  intro y1 y2 y3 y4 y5 σ H locs ls hI hl h
  unfold fX8_thief_107 at h
  refine lv_iload hx hb dX8_thief_107 (lv_at hl 3 rfl) ?_
  exact wX8_thief_109 Cx out K39 hK39 y1 y2 y4 y5 y3 σ _ _ _ hI (lv_sub hl [0, 1, 2, 4, 5] rfl) h
set_option maxHeartbeats 4000000 in
set_option maxRecDepth 100000 in
theorem wX8_thief_83 (Cx : ms_C p s m args meth c D cA a shM cX8_thief 8 RX8 (some .int)) (out : Int32 × Mm) (K39 : Int32 → Int32 → Int32 → Int32 → Int32 → Mm → Option (Int32 × Mm)) (hK39 : ∀ (y1 : Int32) (y2 : Int32) (y3 : Int32) (y4 : Int32) (y5 : Int32) , ∀ (σ : Mm) (H : Heap) (locs : List Loc) (ls : Array Slot), ms_I D cA a shM s σ H locs → lv_has ls 8 [(0, .ref (a 0)), (1, .int y1), (3, .int y2), (4, .int y3), (5, .int y4), (6, .int y5)] → K39 y1 y2 y3 y4 y5 σ = some out → W p l e rmX8_thief s m args below meth c H locs 0 0 (MQ below (ms_Qi D cA a shM out.1 out.2) args s 0 0 (ms_A a shM.length)) (F0 m 39 ls [])) : ∀ (y1 : Int32) (y2 : Int32) (y3 : Int32) (y4 : Int32) (y5 : Int32) (y6 : Int32) (y7 : Int32) , ∀ (σ : Mm) (H : Heap) (locs : List Loc) (ls : Array Slot), ms_I D cA a shM s σ H locs → lv_has ls 8 [(0, .ref (a 0)), (1, .int y1), (4, .int y2), (5, .int y3), (6, .int y4), (7, .int y5)] → fX8_thief_83 K39 y1 y2 y3 y4 y5 y6 y7 σ = some out → W p l e rmX8_thief s m args below meth c H locs 0 0 (MQ below (ms_Qi D cA a shM out.1 out.2) args s 0 0 (ms_A a shM.length)) (F0 m 83 ls [.int y6, .int y7]) := by
  have hx := Cx.1
  have hb := Cx.2.1
  intro y1 y2 y3 y4 y5 y6 y7 σ H locs ls hI hl h
  unfold fX8_thief_83 at h
  refine lv_iadd hx hb dX8_thief_83 ?_
  refine lv_istore_n (lv' := [(3, .int (y7 + y6)), (0, .ref (a 0)), (1, .int y1), (4, .int y2), (5, .int y3), (6, .int y4), (7, .int y5)]) hx hb dX8_thief_84 rfl hl (by decide) rfl (fun ls hl => ?_)
  refine lv_iload hx hb dX8_thief_85 (lv_at hl 6 rfl) ?_
  refine lv_if_eq (tgt := 107) hx hb dX8_thief_87 rfl (fun hc => ?_) (fun hc => ?_)
  · have h := ms_ifT hc h
    exact wX8_thief_107 Cx out K39 hK39 y1 (y7 + y6) y2 y3 y4 σ _ _ _ hI (lv_sub hl [1, 2, 0, 3, 4, 5] rfl) h
  · have h := ms_ifF hc h
    refine lv_iload hx hb dX8_thief_90 (lv_at hl 3 rfl) ?_
    refine lv_iconst (v := -1) hx hb dX8_thief_92 rfl ?_
    refine lv_icmp_ne (tgt := 107) hx hb dX8_thief_93 rfl (fun hc => ?_) (fun hc => ?_)
    · have h := ms_ifF hc h
      exact wX8_thief_107 Cx out K39 hK39 y1 (y7 + y6) y2 y3 y4 σ _ _ _ hI (lv_sub hl [1, 2, 0, 3, 4, 5] rfl) h
    · have h := ms_ifT hc h
      refine lv_bipush (v := 100) hx hb dX8_thief_96 rfl ?_
      refine lv_iload hx hb dX8_thief_98 (lv_at hl 4 rfl) ?_
      refine lv_imul hx hb dX8_thief_100 ?_
      refine lv_iload hx hb dX8_thief_101 (lv_at hl 5 rfl) ?_
      refine lv_iadd hx hb dX8_thief_103 ?_
      refine lv_goto (tgt := 109) hx hb dX8_thief_104 rfl ?_
      exact wX8_thief_109 Cx out K39 hK39 y1 (y7 + y6) y3 y4 ((100 * y3) + y4) σ _ _ _ hI (lv_sub hl [1, 2, 0, 4, 5] rfl) h
set_option maxHeartbeats 4000000 in
set_option maxRecDepth 100000 in
theorem wX8_thief_70 (Cx : ms_C p s m args meth c D cA a shM cX8_thief 8 RX8 (some .int)) (out : Int32 × Mm) (K39 : Int32 → Int32 → Int32 → Int32 → Int32 → Mm → Option (Int32 × Mm)) (hK39 : ∀ (y1 : Int32) (y2 : Int32) (y3 : Int32) (y4 : Int32) (y5 : Int32) , ∀ (σ : Mm) (H : Heap) (locs : List Loc) (ls : Array Slot), ms_I D cA a shM s σ H locs → lv_has ls 8 [(0, .ref (a 0)), (1, .int y1), (3, .int y2), (4, .int y3), (5, .int y4), (6, .int y5)] → K39 y1 y2 y3 y4 y5 σ = some out → W p l e rmX8_thief s m args below meth c H locs 0 0 (MQ below (ms_Qi D cA a shM out.1 out.2) args s 0 0 (ms_A a shM.length)) (F0 m 39 ls [])) : ∀ (y1 : Int32) (y2 : Int32) (y3 : Int32) (y4 : Int32) (y5 : Int32) (y6 : Int32) , ∀ (σ : Mm) (H : Heap) (locs : List Loc) (ls : Array Slot), ms_I D cA a shM s σ H locs → lv_has ls 8 [(0, .ref (a 0)), (1, .int y1), (3, .int y2), (4, .int y3), (5, .int y4), (6, .int y5)] → fX8_thief_70 K39 y1 y2 y3 y4 y5 y6 σ = some out → W p l e rmX8_thief s m args below meth c H locs 0 0 (MQ below (ms_Qi D cA a shM out.1 out.2) args s 0 0 (ms_A a shM.length)) (F0 m 70 ls [.int y6]) := by
  have hx := Cx.1
  have hb := Cx.2.1
  intro y1 y2 y3 y4 y5 y6 σ H locs ls hI hl h
  unfold fX8_thief_70 at h
  refine lv_istore (lv' := [(7, .int y6), (0, .ref (a 0)), (1, .int y1), (3, .int y2), (4, .int y3), (5, .int y4), (6, .int y5)]) hx hb dX8_thief_70 hl (by decide) rfl (fun ls hl => ?_)
  refine lv_iload_n hx hb dX8_thief_72 rfl (lv_at hl 3 rfl) ?_
  refine lv_iload hx hb dX8_thief_73 (lv_at hl 0 rfl) ?_
  refine lv_if_eq (tgt := 82) hx hb dX8_thief_75 rfl (fun hc => ?_) (fun hc => ?_)
  · have h := ms_ifT hc h
    refine lv_iconst (v := 0) hx hb dX8_thief_82 rfl ?_
    exact wX8_thief_83 Cx out K39 hK39 y1 y3 y4 y5 y6 0 y2 σ _ _ _ hI (lv_sub hl [1, 2, 4, 5, 6, 0] rfl) h
  · have h := ms_ifF hc h
    refine lv_iconst (v := 1) hx hb dX8_thief_78 rfl ?_
    refine lv_goto (tgt := 83) hx hb dX8_thief_79 rfl ?_
    exact wX8_thief_83 Cx out K39 hK39 y1 y3 y4 y5 y6 1 y2 σ _ _ _ hI (lv_sub hl [1, 2, 4, 5, 6, 0] rfl) h
set_option maxHeartbeats 4000000 in
set_option maxRecDepth 100000 in
theorem wX8_thief_39 (Cx : ms_C p s m args meth c D cA a shM cX8_thief 8 RX8 (some .int)) (out : Int32 × Mm) (K29 : Int32 → Int32 → Int32 → Int32 → Mm → Option (Int32 × Mm)) (hK29 : ∀ (y1 : Int32) (y2 : Int32) (y3 : Int32) (y4 : Int32) , ∀ (σ : Mm) (H : Heap) (locs : List Loc) (ls : Array Slot), ms_I D cA a shM s σ H locs → lv_has ls 8 [(0, .ref (a 0)), (1, .int y1), (3, .int y2), (4, .int y3), (5, .int y4)] → K29 y1 y2 y3 y4 σ = some out → W p l e rmX8_thief s m args below meth c H locs 0 0 (MQ below (ms_Qi D cA a shM out.1 out.2) args s 0 0 (ms_A a shM.length)) (F0 m 29 ls [])) : ∀ (n : Nat), ∀ (y1 : Int32) (y2 : Int32) (y3 : Int32) (y4 : Int32) (y5 : Int32) , ∀ (σ : Mm) (H : Heap) (locs : List Loc) (ls : Array Slot), ms_I D cA a shM s σ H locs → lv_has ls 8 [(0, .ref (a 0)), (1, .int y1), (3, .int y2), (4, .int y3), (5, .int y4), (6, .int y5)] → fX8_thief_39 K29 n y1 y2 y3 y4 y5 σ = some out → W p l e rmX8_thief s m args below meth c H locs 0 0 (MQ below (ms_Qi D cA a shM out.1 out.2) args s 0 0 (ms_A a shM.length)) (F0 m 39 ls []) := by
  have hx := Cx.1
  have hb := Cx.2.1
  intro n
  induction n with
  | zero =>
    intro y1 y2 y3 y4 y5 σ H locs ls hI hl h
    exact nomatch (show none = some out from h)
  | succ n ih =>
    intro y1 y2 y3 y4 y5 σ H locs ls hI hl h
    rw [fX8_thief_39] at h
    refine lv_iload hx hb dX8_thief_39 (lv_at hl 5 rfl) ?_
    refine lv_bipush (v := 41) hx hb dX8_thief_41 rfl ?_
    refine lv_icmp_ge (tgt := 117) hx hb dX8_thief_43 rfl (fun hc => ?_) (fun hc => ?_)
    · have h := ms_ifT hc h
      refine lv_iinc (v := y4 + 1) (lv' := [(5, .int (y4 + 1)), (0, .ref (a 0)), (1, .int y1), (3, .int y2), (4, .int y3), (6, .int y5)]) hx hb dX8_thief_117 hl (k := 4) rfl rfl (by decide) rfl (fun ls hl => ?_)
      refine lv_goto (tgt := 29) hx hb dX8_thief_120 rfl ?_
      exact hK29 y1 y2 y3 (y4 + 1) σ _ _ _ hI (lv_sub hl [1, 2, 3, 4, 0] rfl) h
    · have h := ms_ifF hc h
      refine lv_aload_n hx hb dX8_thief_46 rfl (lv_at hl 0 rfl) ?_
      refine lv_sipush (v := 240) hx hb dX8_thief_47 rfl ?_
      refine lv_iconst (v := 0) hx hb dX8_thief_50 rfl ?_
      refine lv_iload hx hb dX8_thief_51 (lv_at hl 4 rfl) ?_
      refine lv_iload hx hb dX8_thief_53 (lv_at hl 5 rfl) ?_
      obtain ⟨σ2, hc1, h⟩ := ms_bdE h
      refine kX8_runs Cx hI hc1 wd_24_11 (Nat.le_of_ble_eq_true rfl) (Nat.le_of_ble_eq_true rfl) hl.1 (Nat.le_of_ble_eq_true rfl) dX8_thief_55 (fun H locs hI => ?_)
      refine lv_aload_n hx hb dX8_thief_58 rfl (lv_at hl 0 rfl) ?_
      obtain ⟨r4, hc3, h⟩ := ms_bdE h
      refine kX8_unlikeBy Cx hI hc3 wd_34_18 (Nat.le_of_ble_eq_true rfl) (Nat.le_of_ble_eq_true rfl) hl.1 (Nat.le_of_ble_eq_true rfl) dX8_thief_59 (fun H locs hI => ?_)
      refine lv_if_ne (tgt := 69) hx hb dX8_thief_62 rfl (fun hc => ?_) (fun hc => ?_)
      · have h := ms_ifF hc h
        refine lv_iconst (v := 0) hx hb dX8_thief_69 rfl ?_
        exact wX8_thief_70 Cx out (fX8_thief_39 K29 n) ih y1 y2 y3 y4 y5 0 σ2 _ _ _ hI (lv_sub hl [0, 1, 2, 3, 4, 5] rfl) h
      · have h := ms_ifT hc h
        refine lv_iconst (v := 1) hx hb dX8_thief_65 rfl ?_
        refine lv_goto (tgt := 70) hx hb dX8_thief_66 rfl ?_
        exact wX8_thief_70 Cx out (fX8_thief_39 K29 n) ih y1 y2 y3 y4 y5 1 σ2 _ _ _ hI (lv_sub hl [0, 1, 2, 3, 4, 5] rfl) h
set_option maxHeartbeats 4000000 in
set_option maxRecDepth 100000 in
theorem wX8_thief_29 (Cx : ms_C p s m args meth c D cA a shM cX8_thief 8 RX8 (some .int)) (out : Int32 × Mm) : ∀ (n : Nat), ∀ (y1 : Int32) (y2 : Int32) (y3 : Int32) (y4 : Int32) , ∀ (σ : Mm) (H : Heap) (locs : List Loc) (ls : Array Slot), ms_I D cA a shM s σ H locs → lv_has ls 8 [(0, .ref (a 0)), (1, .int y1), (3, .int y2), (4, .int y3), (5, .int y4)] → fX8_thief_29 n y1 y2 y3 y4 σ = some out → W p l e rmX8_thief s m args below meth c H locs 0 0 (MQ below (ms_Qi D cA a shM out.1 out.2) args s 0 0 (ms_A a shM.length)) (F0 m 29 ls []) := by
  have hx := Cx.1
  have hb := Cx.2.1
  intro n
  induction n with
  | zero =>
    intro y1 y2 y3 y4 σ H locs ls hI hl h
    exact nomatch (show none = some out from h)
  | succ n ih =>
    intro y1 y2 y3 y4 σ H locs ls hI hl h
    rw [fX8_thief_29] at h
    refine lv_iload hx hb dX8_thief_29 (lv_at hl 4 rfl) ?_
    refine lv_bipush (v := 24) hx hb dX8_thief_31 rfl ?_
    refine lv_icmp_ge (tgt := 123) hx hb dX8_thief_33 rfl (fun hc => ?_) (fun hc => ?_)
    · have h := ms_ifT hc h
      refine lv_iload_n hx hb dX8_thief_123 rfl (lv_at hl 1 rfl) ?_
      refine lv_if_ne (tgt := 131) hx hb dX8_thief_124 rfl (fun hc => ?_) (fun hc => ?_)
      · have h := ms_ifF hc h
        refine lv_iload hx hb dX8_thief_131 (lv_at hl 3 rfl) ?_
        exact ms_riw Cx hI h dX8_thief_133
      · have h := ms_ifT hc h
        refine lv_iload_n hx hb dX8_thief_127 rfl (lv_at hl 2 rfl) ?_
        refine lv_goto (tgt := 133) hx hb dX8_thief_128 rfl ?_
        exact ms_riw Cx hI h dX8_thief_133
    · have h := ms_ifF hc h
      refine lv_iconst (v := 1) hx hb dX8_thief_36 rfl ?_
      refine lv_istore (lv' := [(6, .int 1), (0, .ref (a 0)), (1, .int y1), (3, .int y2), (4, .int y3), (5, .int y4)]) hx hb dX8_thief_37 hl (by decide) rfl (fun ls hl => ?_)
      exact wX8_thief_39 Cx out (fX8_thief_29 n) ih ms_fu y1 y2 y3 y4 1 σ _ _ _ hI (lv_sub hl [1, 2, 3, 4, 5, 0] rfl) h
set_option maxHeartbeats 4000000 in
set_option maxRecDepth 100000 in
theorem wX8_thief (Cx : ms_C p s m args meth c D cA a shM cX8_thief 8 RX8 (some .int)) (out : Int32 × Mm) : ∀ (p0 : Int32) , ∀ (σ : Mm) (H : Heap) (locs : List Loc) (ls : Array Slot), ms_I D cA a shM s σ H locs → lv_has ls 8 [(0, .ref (a 0)), (1, .int p0)] → fX8_thief p0 σ = some out → W p l e rmX8_thief s m args below meth c H locs 0 0 (MQ below (ms_Qi D cA a shM out.1 out.2) args s 0 0 (ms_A a shM.length)) (F0 m 0 ls []) := by
  have hx := Cx.1
  have hb := Cx.2.1
  intro p0 σ H locs ls hI hl h
  unfold fX8_thief at h
  refine lv_iload_n hx hb dX8_thief_0 rfl (lv_at hl 1 rfl) ?_
  refine lv_iconst (v := 0) hx hb dX8_thief_1 rfl ?_
  refine lv_iconst (v := 1) hx hb dX8_thief_2 rfl ?_
  obtain ⟨r2, hc1, h⟩ := ms_bdE h
  refine kX8_in Cx hI hc1 (Or.inl wd_10_20) (Nat.le_of_ble_eq_true rfl) (Nat.le_of_ble_eq_true rfl) hl.1 (Nat.le_of_ble_eq_true rfl) dX8_thief_3 (fun H locs hI => ?_)
  refine lv_if_ne (tgt := 12) hx hb dX8_thief_6 rfl (fun hc => ?_) (fun hc => ?_)
  · have h := ms_ifF hc h
    refine lv_aload_n hx hb dX8_thief_12 rfl (lv_at hl 0 rfl) ?_
    obtain ⟨⟨r4, σ5⟩, hc3, h⟩ := ms_bdE h
    refine kX8_faultNow Cx hI hc3 wd_11_16 (Nat.le_of_ble_eq_true rfl) (Nat.le_of_ble_eq_true rfl) hl.1 (Nat.le_of_ble_eq_true rfl) dX8_thief_13 (fun H locs hI => ?_)
    refine lv_istore_n (lv' := [(2, .int r4), (0, .ref (a 0)), (1, .int p0)]) hx hb dX8_thief_16 rfl hl (by decide) rfl (fun ls hl => ?_)
    refine lv_aload_n hx hb dX8_thief_17 rfl (lv_at hl 1 rfl) ?_
    obtain ⟨σ7, hc6, h⟩ := ms_bdE h
    refine kX8_laysWinds Cx hI hc6 wd_24_7 (Nat.le_of_ble_eq_true rfl) (Nat.le_of_ble_eq_true rfl) hl.1 (Nat.le_of_ble_eq_true rfl) dX8_thief_18 (fun H locs hI => ?_)
    refine lv_iconst (v := 0) hx hb dX8_thief_21 rfl ?_
    refine lv_istore_n (lv' := [(3, .int 0), (2, .int r4), (0, .ref (a 0)), (1, .int p0)]) hx hb dX8_thief_22 rfl hl (by decide) rfl (fun ls hl => ?_)
    refine lv_iconst (v := -1) hx hb dX8_thief_23 rfl ?_
    refine lv_istore (lv' := [(4, .int (-1)), (3, .int 0), (2, .int r4), (0, .ref (a 0)), (1, .int p0)]) hx hb dX8_thief_24 hl (by decide) rfl (fun ls hl => ?_)
    refine lv_iconst (v := 0) hx hb dX8_thief_26 rfl ?_
    refine lv_istore (lv' := [(5, .int 0), (4, .int (-1)), (3, .int 0), (2, .int r4), (0, .ref (a 0)), (1, .int p0)]) hx hb dX8_thief_27 hl (by decide) rfl (fun ls hl => ?_)
    exact wX8_thief_29 Cx out  ms_fu p0 0 (-1) 0 σ7 _ _ _ hI (lv_sub hl [4, 5, 2, 1, 0] rfl) h
  · have h := ms_ifT hc h
    refine lv_bipush (v := -2) hx hb dX8_thief_9 rfl ?_
    exact ms_riw Cx hI h dX8_thief_11
theorem yvX8_thief : ms_YV yX8_thief RX8 cX8_thief 8 (some .int) 1 := ⟨wd_36_1, wd_36_2, wd_1_5, wd_36_3, rfl, by decide +kernel, by decide +kernel, by decide +kernel⟩
set_option maxHeartbeats 4000000 in
theorem metX8_thief (l : Launch) (hDis : ms_Dis a shM.length) {σ : Mm} {p0 : Int32} {out : Int32 × Mm} (h : fX8_thief p0 σ = some out) : Met l yX8_thief (.code yX8_thief cX8_thief 8 (some .int) :: wsL_law) rmX8_thief (ms_Pc D cA a shM [.ref (a 0), .int p0] σ) (ms_Qi D cA a shM out.1 out.2) 0 0 (ms_A a shM.length) := by
  refine Met.ofW (cc := cX8_thief) (maxL := 8) (ret := (some .int)) (by decide) rfl ?_
  intro p e s m args below meth c s₁ B hml hv
  obtain ⟨rfl, hK, hN, hP⟩ := hv
  have hl := lv_entry ([.ref (a 0), .int p0]) (n := 8) (Nat.le_of_ble_eq_true rfl)
  rw [lg_entry_eq]
  generalize (lg_sl ([.ref (a 0), .int p0]) ++ List.replicate (8 - (lg_sl ([.ref (a 0), .int p0])).length) Slot.unset).toArray = ls at hl ⊢
  exact wX8_thief ⟨B.exec, B.bytes, hml, findClass_of_methodNamed B.named, fun w hw => atoms_spec (ws := .code yX8_thief cX8_thief 8 (some .int) :: wsL_law) B.pre w (List.mem_cons_of_mem _ hw), B.returns, B.notSynchronized, hK, hDis, hN⟩ out p0 σ s.heap [] ls ⟨hP, va_S.rf⟩ hl h
theorem kX8_thief (Cx : ms_C p s m args meth c D cA a shM cc nL own ret) {σ : Mm} {H : Heap} {locs : List Loc} (hI : ms_I D cA a shM s σ H locs) {p0 : Int32} {out : Int32 × Mm} (h : fX8_thief p0 σ = some out) (hl : Cond.methodLink own idx yX8_thief ∈ wsL_law) (hf : 7 + 1 ≤ R.frames) (hlo : 8 + (8 + 11) + 156 ≤ R.locals) (hsz : ls.size = nL) (hW : (rest.map fun v => v.category).sum ≤ 8) (hd : decode cc pc = .ok (.invokevirtual idx, 3)) (kk : ∀ (H1 : Heap) (locs1 : List Loc), ms_I D cA a shM s out.2 H1 locs1 → W p l e R s m args below meth c H1 locs1 0 0 Q (F0 m (pc + 3) ls (.int out.1 :: rest))) : W p l e R s m args below meth c H locs 0 0 Q (F0 m pc ls (.int p0 :: .ref (a 0) :: rest)) :=
  ms_ci hI (ms_runV (av := [.int p0]) Cx hI 0 shM_0 (ci := 8) rfl rfl yvX8_thief (metX8_thief l Cx.2.2.2.2.2.2.2.2.1  h) ⟨rfl, rfl⟩ hl ⟨hf, hlo⟩ rfl hsz rfl hW ⟨Nat.zero_le _, Nat.zero_le _⟩ hd) kk
/-! X8 robbedOf (III)I -/
theorem dX8_robbedOf_0 : decode cX8_robbedOf 0 = .ok (.aload_n 0, 1) := by decide +kernel
theorem dX8_robbedOf_1 : decode cX8_robbedOf 1 = .ok (.invokevirtual 140, 3) := by decide +kernel
theorem dX8_robbedOf_4 : decode cX8_robbedOf 4 = .ok (.istore 4, 2) := by decide +kernel
theorem dX8_robbedOf_6 : decode cX8_robbedOf 6 = .ok (.aload_n 0, 1) := by decide +kernel
theorem dX8_robbedOf_7 : decode cX8_robbedOf 7 = .ok (.invokevirtual 184, 3) := by decide +kernel
theorem dX8_robbedOf_10 : decode cX8_robbedOf 10 = .ok (.aload_n 0, 1) := by decide +kernel
theorem dX8_robbedOf_11 : decode cX8_robbedOf 11 = .ok (.sipush 240, 3) := by decide +kernel
theorem dX8_robbedOf_14 : decode cX8_robbedOf 14 = .ok (.iconst 0, 1) := by decide +kernel
theorem dX8_robbedOf_15 : decode cX8_robbedOf 15 = .ok (.iload_n 1, 1) := by decide +kernel
theorem dX8_robbedOf_16 : decode cX8_robbedOf 16 = .ok (.iload_n 2, 1) := by decide +kernel
theorem dX8_robbedOf_17 : decode cX8_robbedOf 17 = .ok (.invokevirtual 187, 3) := by decide +kernel
theorem dX8_robbedOf_20 : decode cX8_robbedOf 20 = .ok (.aload_n 0, 1) := by decide +kernel
theorem dX8_robbedOf_21 : decode cX8_robbedOf 21 = .ok (.getfield 49, 3) := by decide +kernel
theorem dX8_robbedOf_24 : decode cX8_robbedOf 24 = .ok (.iload_n 3, 1) := by decide +kernel
theorem dX8_robbedOf_25 : decode cX8_robbedOf 25 = .ok (.iaload, 1) := by decide +kernel
theorem dX8_robbedOf_26 : decode cX8_robbedOf 26 = .ok (.ireturn, 1) := by decide +kernel
abbrev rmX8_robbedOf : Room := { frames := 7, cells := 0, slots := 0, locals := 156 }
set_option maxHeartbeats 4000000 in
set_option maxRecDepth 100000 in
theorem wX8_robbedOf (Cx : ms_C p s m args meth c D cA a shM cX8_robbedOf 5 RX8 (some .int)) (out : Int32 × Mm) : ∀ (p0 : Int32) (p1 : Int32) (p2 : Int32) , ∀ (σ : Mm) (H : Heap) (locs : List Loc) (ls : Array Slot), ms_I D cA a shM s σ H locs → lv_has ls 5 [(0, .ref (a 0)), (1, .int p0), (2, .int p1), (3, .int p2)] → fX8_robbedOf p0 p1 p2 σ = some out → W p l e rmX8_robbedOf s m args below meth c H locs 0 0 (MQ below (ms_Qi D cA a shM out.1 out.2) args s 0 0 (ms_A a shM.length)) (F0 m 0 ls []) := by
  have hx := Cx.1
  have hb := Cx.2.1
  intro p0 p1 p2 σ H locs ls hI hl h
  unfold fX8_robbedOf at h
  refine lv_aload_n hx hb dX8_robbedOf_0 rfl (lv_at hl 0 rfl) ?_
  obtain ⟨⟨r2, σ3⟩, hc1, h⟩ := ms_bdE h
  refine kX8_faultNow Cx hI hc1 wd_11_16 (Nat.le_of_ble_eq_true rfl) (Nat.le_of_ble_eq_true rfl) hl.1 (Nat.le_of_ble_eq_true rfl) dX8_robbedOf_1 (fun H locs hI => ?_)
  refine lv_istore (lv' := [(4, .int r2), (0, .ref (a 0)), (1, .int p0), (2, .int p1), (3, .int p2)]) hx hb dX8_robbedOf_4 hl (by decide) rfl (fun ls hl => ?_)
  refine lv_aload_n hx hb dX8_robbedOf_6 rfl (lv_at hl 1 rfl) ?_
  obtain ⟨σ5, hc4, h⟩ := ms_bdE h
  refine kX8_laysWinds Cx hI hc4 wd_24_7 (Nat.le_of_ble_eq_true rfl) (Nat.le_of_ble_eq_true rfl) hl.1 (Nat.le_of_ble_eq_true rfl) dX8_robbedOf_7 (fun H locs hI => ?_)
  refine lv_aload_n hx hb dX8_robbedOf_10 rfl (lv_at hl 1 rfl) ?_
  refine lv_sipush (v := 240) hx hb dX8_robbedOf_11 rfl ?_
  refine lv_iconst (v := 0) hx hb dX8_robbedOf_14 rfl ?_
  refine lv_iload_n hx hb dX8_robbedOf_15 rfl (lv_at hl 2 rfl) ?_
  refine lv_iload_n hx hb dX8_robbedOf_16 rfl (lv_at hl 3 rfl) ?_
  obtain ⟨σ7, hc6, h⟩ := ms_bdE h
  refine kX8_runs Cx hI hc6 wd_24_11 (Nat.le_of_ble_eq_true rfl) (Nat.le_of_ble_eq_true rfl) hl.1 (Nat.le_of_ble_eq_true rfl) dX8_robbedOf_17 (fun H locs hI => ?_)
  refine lv_aload_n hx hb dX8_robbedOf_20 rfl (lv_at hl 1 rfl) ?_
  refine gr_X8_17 Cx hI wd_7_2 dX8_robbedOf_21 ?_
  refine lv_iload_n hx hb dX8_robbedOf_24 rfl (lv_at hl 4 rfl) ?_
  obtain ⟨hg, h⟩ := ms_gE h
  refine ms_ld Cx hI 14 shM_14 hg dX8_robbedOf_25 ?_
  exact ms_riw Cx hI h dX8_robbedOf_26
theorem yvX8_robbedOf : ms_YV yX8_robbedOf RX8 cX8_robbedOf 5 (some .int) 3 := ⟨wd_36_16, wd_36_17, wd_1_5, wd_36_18, rfl, by decide +kernel, by decide +kernel, by decide +kernel⟩
set_option maxHeartbeats 4000000 in
theorem metX8_robbedOf (l : Launch) (hDis : ms_Dis a shM.length) {σ : Mm} {p0 : Int32} {p1 : Int32} {p2 : Int32} {out : Int32 × Mm} (h : fX8_robbedOf p0 p1 p2 σ = some out) : Met l yX8_robbedOf (.code yX8_robbedOf cX8_robbedOf 5 (some .int) :: wsL_law) rmX8_robbedOf (ms_Pc D cA a shM [.ref (a 0), .int p0, .int p1, .int p2] σ) (ms_Qi D cA a shM out.1 out.2) 0 0 (ms_A a shM.length) := by
  refine Met.ofW (cc := cX8_robbedOf) (maxL := 5) (ret := (some .int)) (by decide) rfl ?_
  intro p e s m args below meth c s₁ B hml hv
  obtain ⟨rfl, hK, hN, hP⟩ := hv
  have hl := lv_entry ([.ref (a 0), .int p0, .int p1, .int p2]) (n := 5) (Nat.le_of_ble_eq_true rfl)
  rw [lg_entry_eq]
  generalize (lg_sl ([.ref (a 0), .int p0, .int p1, .int p2]) ++ List.replicate (5 - (lg_sl ([.ref (a 0), .int p0, .int p1, .int p2])).length) Slot.unset).toArray = ls at hl ⊢
  exact wX8_robbedOf ⟨B.exec, B.bytes, hml, findClass_of_methodNamed B.named, fun w hw => atoms_spec (ws := .code yX8_robbedOf cX8_robbedOf 5 (some .int) :: wsL_law) B.pre w (List.mem_cons_of_mem _ hw), B.returns, B.notSynchronized, hK, hDis, hN⟩ out p0 p1 p2 σ s.heap [] ls ⟨hP, va_S.rf⟩ hl h
theorem kX8_robbedOf (Cx : ms_C p s m args meth c D cA a shM cc nL own ret) {σ : Mm} {H : Heap} {locs : List Loc} (hI : ms_I D cA a shM s σ H locs) {p0 : Int32} {p1 : Int32} {p2 : Int32} {out : Int32 × Mm} (h : fX8_robbedOf p0 p1 p2 σ = some out) (hl : Cond.methodLink own idx yX8_robbedOf ∈ wsL_law) (hf : 7 + 1 ≤ R.frames) (hlo : 8 + (5 + 11) + 156 ≤ R.locals) (hsz : ls.size = nL) (hW : (rest.map fun v => v.category).sum ≤ 8) (hd : decode cc pc = .ok (.invokevirtual idx, 3)) (kk : ∀ (H1 : Heap) (locs1 : List Loc), ms_I D cA a shM s out.2 H1 locs1 → W p l e R s m args below meth c H1 locs1 0 0 Q (F0 m (pc + 3) ls (.int out.1 :: rest))) : W p l e R s m args below meth c H locs 0 0 Q (F0 m pc ls (.int p2 :: .int p1 :: .int p0 :: .ref (a 0) :: rest)) :=
  ms_ci hI (ms_runV (av := [.int p0, .int p1, .int p2]) Cx hI 0 shM_0 (ci := 8) rfl rfl yvX8_robbedOf (metX8_robbedOf l Cx.2.2.2.2.2.2.2.2.1  h) ⟨rfl, rfl⟩ hl ⟨hf, hlo⟩ rfl hsz rfl hW ⟨Nat.zero_le _, Nat.zero_le _⟩ hd) kk
/-! X8 robbed (III)I -/
theorem dX8_robbed_0 : decode cX8_robbed 0 = .ok (.iload_n 1, 1) := by decide +kernel
theorem dX8_robbed_1 : decode cX8_robbed 1 = .ok (.iconst 0, 1) := by decide +kernel
theorem dX8_robbed_2 : decode cX8_robbed 2 = .ok (.bipush 23, 2) := by decide +kernel
theorem dX8_robbed_4 : decode cX8_robbed 4 = .ok (.invokestatic 95, 3) := by decide +kernel
theorem dX8_robbed_7 : decode cX8_robbed 7 = .ok (.ifCond .eq 30, 3) := by decide +kernel
theorem dX8_robbed_10 : decode cX8_robbed 10 = .ok (.iload_n 2, 1) := by decide +kernel
theorem dX8_robbed_11 : decode cX8_robbed 11 = .ok (.iconst 0, 1) := by decide +kernel
theorem dX8_robbed_12 : decode cX8_robbed 12 = .ok (.bipush 40, 2) := by decide +kernel
theorem dX8_robbed_14 : decode cX8_robbed 14 = .ok (.invokestatic 95, 3) := by decide +kernel
theorem dX8_robbed_17 : decode cX8_robbed 17 = .ok (.ifCond .eq 20, 3) := by decide +kernel
theorem dX8_robbed_20 : decode cX8_robbed 20 = .ok (.iload_n 3, 1) := by decide +kernel
theorem dX8_robbed_21 : decode cX8_robbed 21 = .ok (.invokestatic 194, 3) := by decide +kernel
theorem dX8_robbed_24 : decode cX8_robbed 24 = .ok (.ifCond .eq 13, 3) := by decide +kernel
theorem dX8_robbed_27 : decode cX8_robbed 27 = .ok (.aload_n 0, 1) := by decide +kernel
theorem dX8_robbed_28 : decode cX8_robbed 28 = .ok (.iload_n 1, 1) := by decide +kernel
theorem dX8_robbed_29 : decode cX8_robbed 29 = .ok (.iload_n 2, 1) := by decide +kernel
theorem dX8_robbed_30 : decode cX8_robbed 30 = .ok (.iload_n 3, 1) := by decide +kernel
theorem dX8_robbed_31 : decode cX8_robbed 31 = .ok (.invokevirtual 245, 3) := by decide +kernel
theorem dX8_robbed_34 : decode cX8_robbed 34 = .ok (.goto 5, 3) := by decide +kernel
theorem dX8_robbed_37 : decode cX8_robbed 37 = .ok (.bipush (-2), 2) := by decide +kernel
theorem dX8_robbed_39 : decode cX8_robbed 39 = .ok (.ireturn, 1) := by decide +kernel
abbrev rmX8_robbed : Room := { frames := 8, cells := 0, slots := 0, locals := 180 }
set_option maxHeartbeats 4000000 in
set_option maxRecDepth 100000 in
theorem wX8_robbed (Cx : ms_C p s m args meth c D cA a shM cX8_robbed 4 RX8 (some .int)) (out : Int32 × Mm) : ∀ (p0 : Int32) (p1 : Int32) (p2 : Int32) , ∀ (σ : Mm) (H : Heap) (locs : List Loc) (ls : Array Slot), ms_I D cA a shM s σ H locs → lv_has ls 4 [(0, .ref (a 0)), (1, .int p0), (2, .int p1), (3, .int p2)] → fX8_robbed p0 p1 p2 σ = some out → W p l e rmX8_robbed s m args below meth c H locs 0 0 (MQ below (ms_Qi D cA a shM out.1 out.2) args s 0 0 (ms_A a shM.length)) (F0 m 0 ls []) := by
  have hx := Cx.1
  have hb := Cx.2.1
  intro p0 p1 p2 σ H locs ls hI hl h
  unfold fX8_robbed at h
  refine lv_iload_n hx hb dX8_robbed_0 rfl (lv_at hl 1 rfl) ?_
  refine lv_iconst (v := 0) hx hb dX8_robbed_1 rfl ?_
  refine lv_bipush (v := 23) hx hb dX8_robbed_2 rfl ?_
  obtain ⟨r2, hc1, h⟩ := ms_bdE h
  refine kX8_in Cx hI hc1 (Or.inl wd_10_20) (Nat.le_of_ble_eq_true rfl) (Nat.le_of_ble_eq_true rfl) hl.1 (Nat.le_of_ble_eq_true rfl) dX8_robbed_4 (fun H locs hI => ?_)
  refine lv_if_eq (tgt := 37) hx hb dX8_robbed_7 rfl (fun hc => ?_) (fun hc => ?_)
  · have h := ms_ifT hc h
    refine lv_bipush (v := -2) hx hb dX8_robbed_37 rfl ?_
    exact ms_riw Cx hI h dX8_robbed_39
  · have h := ms_ifF hc h
    refine lv_iload_n hx hb dX8_robbed_10 rfl (lv_at hl 2 rfl) ?_
    refine lv_iconst (v := 0) hx hb dX8_robbed_11 rfl ?_
    refine lv_bipush (v := 40) hx hb dX8_robbed_12 rfl ?_
    obtain ⟨r4, hc3, h⟩ := ms_bdE h
    refine kX8_in Cx hI hc3 (Or.inl wd_10_20) (Nat.le_of_ble_eq_true rfl) (Nat.le_of_ble_eq_true rfl) hl.1 (Nat.le_of_ble_eq_true rfl) dX8_robbed_14 (fun H locs hI => ?_)
    refine lv_if_eq (tgt := 37) hx hb dX8_robbed_17 rfl (fun hc => ?_) (fun hc => ?_)
    · have h := ms_ifT hc h
      refine lv_bipush (v := -2) hx hb dX8_robbed_37 rfl ?_
      exact ms_riw Cx hI h dX8_robbed_39
    · have h := ms_ifF hc h
      refine lv_iload_n hx hb dX8_robbed_20 rfl (lv_at hl 3 rfl) ?_
      obtain ⟨r6, hc5, h⟩ := ms_bdE h
      refine kX8_isHour Cx hI hc5 (Or.inl wd_23_20) (Nat.le_of_ble_eq_true rfl) (Nat.le_of_ble_eq_true rfl) hl.1 (Nat.le_of_ble_eq_true rfl) dX8_robbed_21 (fun H locs hI => ?_)
      refine lv_if_eq (tgt := 37) hx hb dX8_robbed_24 rfl (fun hc => ?_) (fun hc => ?_)
      · have h := ms_ifT hc h
        refine lv_bipush (v := -2) hx hb dX8_robbed_37 rfl ?_
        exact ms_riw Cx hI h dX8_robbed_39
      · have h := ms_ifF hc h
        refine lv_aload_n hx hb dX8_robbed_27 rfl (lv_at hl 0 rfl) ?_
        refine lv_iload_n hx hb dX8_robbed_28 rfl (lv_at hl 1 rfl) ?_
        refine lv_iload_n hx hb dX8_robbed_29 rfl (lv_at hl 2 rfl) ?_
        refine lv_iload_n hx hb dX8_robbed_30 rfl (lv_at hl 3 rfl) ?_
        obtain ⟨⟨r8, σ9⟩, hc7, h⟩ := ms_bdE h
        refine kX8_robbedOf Cx hI hc7 wd_36_15 (Nat.le_of_ble_eq_true rfl) (Nat.le_of_ble_eq_true rfl) hl.1 (Nat.le_of_ble_eq_true rfl) dX8_robbed_31 (fun H locs hI => ?_)
        refine lv_goto (tgt := 39) hx hb dX8_robbed_34 rfl ?_
        exact ms_riw Cx hI h dX8_robbed_39
theorem yvX8_robbed : ms_YV yX8_robbed RX8 cX8_robbed 4 (some .int) 3 := ⟨wd_36_12, wd_36_13, wd_1_5, wd_36_14, rfl, by decide +kernel, by decide +kernel, by decide +kernel⟩
set_option maxHeartbeats 4000000 in
theorem metX8_robbed (l : Launch) (hDis : ms_Dis a shM.length) {σ : Mm} {p0 : Int32} {p1 : Int32} {p2 : Int32} {out : Int32 × Mm} (h : fX8_robbed p0 p1 p2 σ = some out) : Met l yX8_robbed (.code yX8_robbed cX8_robbed 4 (some .int) :: wsL_law) rmX8_robbed (ms_Pc D cA a shM [.ref (a 0), .int p0, .int p1, .int p2] σ) (ms_Qi D cA a shM out.1 out.2) 0 0 (ms_A a shM.length) := by
  refine Met.ofW (cc := cX8_robbed) (maxL := 4) (ret := (some .int)) (by decide) rfl ?_
  intro p e s m args below meth c s₁ B hml hv
  obtain ⟨rfl, hK, hN, hP⟩ := hv
  have hl := lv_entry ([.ref (a 0), .int p0, .int p1, .int p2]) (n := 4) (Nat.le_of_ble_eq_true rfl)
  rw [lg_entry_eq]
  generalize (lg_sl ([.ref (a 0), .int p0, .int p1, .int p2]) ++ List.replicate (4 - (lg_sl ([.ref (a 0), .int p0, .int p1, .int p2])).length) Slot.unset).toArray = ls at hl ⊢
  exact wX8_robbed ⟨B.exec, B.bytes, hml, findClass_of_methodNamed B.named, fun w hw => atoms_spec (ws := .code yX8_robbed cX8_robbed 4 (some .int) :: wsL_law) B.pre w (List.mem_cons_of_mem _ hw), B.returns, B.notSynchronized, hK, hDis, hN⟩ out p0 p1 p2 σ s.heap [] ls ⟨hP, va_S.rf⟩ hl h
theorem kX8_robbed (Cx : ms_C p s m args meth c D cA a shM cc nL own ret) {σ : Mm} {H : Heap} {locs : List Loc} (hI : ms_I D cA a shM s σ H locs) {p0 : Int32} {p1 : Int32} {p2 : Int32} {out : Int32 × Mm} (h : fX8_robbed p0 p1 p2 σ = some out) (hl : Cond.methodLink own idx yX8_robbed ∈ wsL_law) (hf : 8 + 1 ≤ R.frames) (hlo : 8 + (4 + 11) + 180 ≤ R.locals) (hsz : ls.size = nL) (hW : (rest.map fun v => v.category).sum ≤ 8) (hd : decode cc pc = .ok (.invokevirtual idx, 3)) (kk : ∀ (H1 : Heap) (locs1 : List Loc), ms_I D cA a shM s out.2 H1 locs1 → W p l e R s m args below meth c H1 locs1 0 0 Q (F0 m (pc + 3) ls (.int out.1 :: rest))) : W p l e R s m args below meth c H locs 0 0 Q (F0 m pc ls (.int p2 :: .int p1 :: .int p0 :: .ref (a 0) :: rest)) :=
  ms_ci hI (ms_runV (av := [.int p0, .int p1, .int p2]) Cx hI 0 shM_0 (ci := 8) rfl rfl yvX8_robbed (metX8_robbed l Cx.2.2.2.2.2.2.2.2.1  h) ⟨rfl, rfl⟩ hl ⟨hf, hlo⟩ rfl hsz rfl hW ⟨Nat.zero_le _, Nat.zero_le _⟩ hd) kk
/-! X8 sheet (III)I -/
theorem dX8_sheet_0 : decode cX8_sheet 0 = .ok (.iload_n 1, 1) := by decide +kernel
theorem dX8_sheet_1 : decode cX8_sheet 1 = .ok (.invokestatic 160, 3) := by decide +kernel
theorem dX8_sheet_4 : decode cX8_sheet 4 = .ok (.ifCond .eq 18, 3) := by decide +kernel
theorem dX8_sheet_7 : decode cX8_sheet 7 = .ok (.iload_n 2, 1) := by decide +kernel
theorem dX8_sheet_8 : decode cX8_sheet 8 = .ok (.iconst 0, 1) := by decide +kernel
theorem dX8_sheet_9 : decode cX8_sheet 9 = .ok (.iconst 2, 1) := by decide +kernel
theorem dX8_sheet_10 : decode cX8_sheet 10 = .ok (.invokestatic 95, 3) := by decide +kernel
theorem dX8_sheet_13 : decode cX8_sheet 13 = .ok (.ifCond .eq 9, 3) := by decide +kernel
theorem dX8_sheet_16 : decode cX8_sheet 16 = .ok (.iload_n 3, 1) := by decide +kernel
theorem dX8_sheet_17 : decode cX8_sheet 17 = .ok (.bipush 48, 2) := by decide +kernel
theorem dX8_sheet_19 : decode cX8_sheet 19 = .ok (.if_icmp .le 6, 3) := by decide +kernel
theorem dX8_sheet_22 : decode cX8_sheet 22 = .ok (.bipush (-2), 2) := by decide +kernel
theorem dX8_sheet_24 : decode cX8_sheet 24 = .ok (.ireturn, 1) := by decide +kernel
theorem dX8_sheet_25 : decode cX8_sheet 25 = .ok (.iload_n 3, 1) := by decide +kernel
theorem dX8_sheet_26 : decode cX8_sheet 26 = .ok (.ifCond .ge 9, 3) := by decide +kernel
theorem dX8_sheet_29 : decode cX8_sheet 29 = .ok (.aload_n 0, 1) := by decide +kernel
theorem dX8_sheet_30 : decode cX8_sheet 30 = .ok (.iconst 5, 1) := by decide +kernel
theorem dX8_sheet_31 : decode cX8_sheet 31 = .ok (.invokevirtual 163, 3) := by decide +kernel
theorem dX8_sheet_34 : decode cX8_sheet 34 = .ok (.ireturn, 1) := by decide +kernel
theorem dX8_sheet_35 : decode cX8_sheet 35 = .ok (.aload_n 0, 1) := by decide +kernel
theorem dX8_sheet_36 : decode cX8_sheet 36 = .ok (.getfield 79, 3) := by decide +kernel
theorem dX8_sheet_39 : decode cX8_sheet 39 = .ok (.iload_n 1, 1) := by decide +kernel
theorem dX8_sheet_40 : decode cX8_sheet 40 = .ok (.iconst 1, 1) := by decide +kernel
theorem dX8_sheet_41 : decode cX8_sheet 41 = .ok (.bastore, 1) := by decide +kernel
theorem dX8_sheet_42 : decode cX8_sheet 42 = .ok (.aload_n 0, 1) := by decide +kernel
theorem dX8_sheet_43 : decode cX8_sheet 43 = .ok (.getfield 83, 3) := by decide +kernel
theorem dX8_sheet_46 : decode cX8_sheet 46 = .ok (.iload_n 1, 1) := by decide +kernel
theorem dX8_sheet_47 : decode cX8_sheet 47 = .ok (.iload_n 2, 1) := by decide +kernel
theorem dX8_sheet_48 : decode cX8_sheet 48 = .ok (.iastore, 1) := by decide +kernel
theorem dX8_sheet_49 : decode cX8_sheet 49 = .ok (.aload_n 0, 1) := by decide +kernel
theorem dX8_sheet_50 : decode cX8_sheet 50 = .ok (.getfield 86, 3) := by decide +kernel
theorem dX8_sheet_53 : decode cX8_sheet 53 = .ok (.iload_n 1, 1) := by decide +kernel
theorem dX8_sheet_54 : decode cX8_sheet 54 = .ok (.iload_n 3, 1) := by decide +kernel
theorem dX8_sheet_55 : decode cX8_sheet 55 = .ok (.iastore, 1) := by decide +kernel
theorem dX8_sheet_56 : decode cX8_sheet 56 = .ok (.iconst 0, 1) := by decide +kernel
theorem dX8_sheet_57 : decode cX8_sheet 57 = .ok (.istore 4, 2) := by decide +kernel
theorem dX8_sheet_59 : decode cX8_sheet 59 = .ok (.iload 4, 2) := by decide +kernel
theorem dX8_sheet_61 : decode cX8_sheet 61 = .ok (.bipush 48, 2) := by decide +kernel
theorem dX8_sheet_63 : decode cX8_sheet 63 = .ok (.if_icmp .ge 22, 3) := by decide +kernel
theorem dX8_sheet_66 : decode cX8_sheet 66 = .ok (.aload_n 0, 1) := by decide +kernel
theorem dX8_sheet_67 : decode cX8_sheet 67 = .ok (.getfield 89, 3) := by decide +kernel
theorem dX8_sheet_70 : decode cX8_sheet 70 = .ok (.bipush 48, 2) := by decide +kernel
theorem dX8_sheet_72 : decode cX8_sheet 72 = .ok (.iload_n 1, 1) := by decide +kernel
theorem dX8_sheet_73 : decode cX8_sheet 73 = .ok (.imul, 1) := by decide +kernel
theorem dX8_sheet_74 : decode cX8_sheet 74 = .ok (.iload 4, 2) := by decide +kernel
theorem dX8_sheet_76 : decode cX8_sheet 76 = .ok (.iadd, 1) := by decide +kernel
theorem dX8_sheet_77 : decode cX8_sheet 77 = .ok (.iconst 0, 1) := by decide +kernel
theorem dX8_sheet_78 : decode cX8_sheet 78 = .ok (.iastore, 1) := by decide +kernel
theorem dX8_sheet_79 : decode cX8_sheet 79 = .ok (.iinc 4 1, 3) := by decide +kernel
theorem dX8_sheet_82 : decode cX8_sheet 82 = .ok (.goto (-23), 3) := by decide +kernel
theorem dX8_sheet_85 : decode cX8_sheet 85 = .ok (.iload_n 3, 1) := by decide +kernel
theorem dX8_sheet_86 : decode cX8_sheet 86 = .ok (.ireturn, 1) := by decide +kernel
abbrev rmX8_sheet : Room := { frames := 2, cells := 0, slots := 0, locals := 42 }
set_option maxHeartbeats 4000000 in
set_option maxRecDepth 100000 in
theorem wX8_sheet_59 (Cx : ms_C p s m args meth c D cA a shM cX8_sheet 5 RX8 (some .int)) (out : Int32 × Mm) : ∀ (n : Nat), ∀ (y1 : Int32) (y2 : Int32) (y3 : Int32) , ∀ (σ : Mm) (H : Heap) (locs : List Loc) (ls : Array Slot), ms_I D cA a shM s σ H locs → lv_has ls 5 [(0, .ref (a 0)), (1, .int y1), (3, .int y2), (4, .int y3)] → fX8_sheet_59 n y1 y2 y3 σ = some out → W p l e rmX8_sheet s m args below meth c H locs 0 0 (MQ below (ms_Qi D cA a shM out.1 out.2) args s 0 0 (ms_A a shM.length)) (F0 m 59 ls []) := by
  have hx := Cx.1
  have hb := Cx.2.1
  intro n
  induction n with
  | zero =>
    intro y1 y2 y3 σ H locs ls hI hl h
    exact nomatch (show none = some out from h)
  | succ n ih =>
    intro y1 y2 y3 σ H locs ls hI hl h
    rw [fX8_sheet_59] at h
    refine lv_iload hx hb dX8_sheet_59 (lv_at hl 3 rfl) ?_
    refine lv_bipush (v := 48) hx hb dX8_sheet_61 rfl ?_
    refine lv_icmp_ge (tgt := 85) hx hb dX8_sheet_63 rfl (fun hc => ?_) (fun hc => ?_)
    · have h := ms_ifT hc h
      refine lv_iload_n hx hb dX8_sheet_85 rfl (lv_at hl 2 rfl) ?_
      exact ms_riw Cx hI h dX8_sheet_86
    · have h := ms_ifF hc h
      refine lv_aload_n hx hb dX8_sheet_66 rfl (lv_at hl 0 rfl) ?_
      refine gr_X8_31 Cx hI wd_7_16 dX8_sheet_67 ?_
      refine lv_bipush (v := 48) hx hb dX8_sheet_70 rfl ?_
      refine lv_iload_n hx hb dX8_sheet_72 rfl (lv_at hl 1 rfl) ?_
      refine lv_imul hx hb dX8_sheet_73 ?_
      refine lv_iload hx hb dX8_sheet_74 (lv_at hl 3 rfl) ?_
      refine lv_iadd hx hb dX8_sheet_76 ?_
      refine lv_iconst (v := 0) hx hb dX8_sheet_77 rfl ?_
      obtain ⟨hg, h⟩ := ms_gE h
      refine ms_sto Cx hI 27 shM_27 hg dX8_sheet_78 (fun H locs σ1 eσ1 hI => ?_)
      have h := ms_ltE eσ1 h
      refine lv_iinc (v := y3 + 1) (lv' := [(4, .int (y3 + 1)), (0, .ref (a 0)), (1, .int y1), (3, .int y2)]) hx hb dX8_sheet_79 hl (k := 3) rfl rfl (by decide) rfl (fun ls hl => ?_)
      refine lv_goto (tgt := 59) hx hb dX8_sheet_82 rfl ?_
      exact ih y1 y2 (y3 + 1) σ1 _ _ _ hI (lv_sub hl [1, 2, 3, 0] rfl) h
set_option maxHeartbeats 4000000 in
set_option maxRecDepth 100000 in
theorem wX8_sheet (Cx : ms_C p s m args meth c D cA a shM cX8_sheet 5 RX8 (some .int)) (out : Int32 × Mm) : ∀ (p0 : Int32) (p1 : Int32) (p2 : Int32) , ∀ (σ : Mm) (H : Heap) (locs : List Loc) (ls : Array Slot), ms_I D cA a shM s σ H locs → lv_has ls 5 [(0, .ref (a 0)), (1, .int p0), (2, .int p1), (3, .int p2)] → fX8_sheet p0 p1 p2 σ = some out → W p l e rmX8_sheet s m args below meth c H locs 0 0 (MQ below (ms_Qi D cA a shM out.1 out.2) args s 0 0 (ms_A a shM.length)) (F0 m 0 ls []) := by
  have hx := Cx.1
  have hb := Cx.2.1
  intro p0 p1 p2 σ H locs ls hI hl h
  unfold fX8_sheet at h
  refine lv_iload_n hx hb dX8_sheet_0 rfl (lv_at hl 1 rfl) ?_
  obtain ⟨r2, hc1, h⟩ := ms_bdE h
  refine kX8_isSheet Cx hI hc1 (Or.inl wd_17_19) (Nat.le_of_ble_eq_true rfl) (Nat.le_of_ble_eq_true rfl) hl.1 (Nat.le_of_ble_eq_true rfl) dX8_sheet_1 (fun H locs hI => ?_)
  refine lv_if_eq (tgt := 22) hx hb dX8_sheet_4 rfl (fun hc => ?_) (fun hc => ?_)
  · have h := ms_ifT hc h
    refine lv_bipush (v := -2) hx hb dX8_sheet_22 rfl ?_
    exact ms_riw Cx hI h dX8_sheet_24
  · have h := ms_ifF hc h
    refine lv_iload_n hx hb dX8_sheet_7 rfl (lv_at hl 2 rfl) ?_
    refine lv_iconst (v := 0) hx hb dX8_sheet_8 rfl ?_
    refine lv_iconst (v := 2) hx hb dX8_sheet_9 rfl ?_
    obtain ⟨r4, hc3, h⟩ := ms_bdE h
    refine kX8_in Cx hI hc3 (Or.inl wd_10_20) (Nat.le_of_ble_eq_true rfl) (Nat.le_of_ble_eq_true rfl) hl.1 (Nat.le_of_ble_eq_true rfl) dX8_sheet_10 (fun H locs hI => ?_)
    refine lv_if_eq (tgt := 22) hx hb dX8_sheet_13 rfl (fun hc => ?_) (fun hc => ?_)
    · have h := ms_ifT hc h
      refine lv_bipush (v := -2) hx hb dX8_sheet_22 rfl ?_
      exact ms_riw Cx hI h dX8_sheet_24
    · have h := ms_ifF hc h
      refine lv_iload_n hx hb dX8_sheet_16 rfl (lv_at hl 3 rfl) ?_
      refine lv_bipush (v := 48) hx hb dX8_sheet_17 rfl ?_
      refine lv_icmp_le (tgt := 25) hx hb dX8_sheet_19 rfl (fun hc => ?_) (fun hc => ?_)
      · have h := ms_ifT hc h
        refine lv_iload_n hx hb dX8_sheet_25 rfl (lv_at hl 3 rfl) ?_
        refine lv_if_ge (tgt := 35) hx hb dX8_sheet_26 rfl (fun hc => ?_) (fun hc => ?_)
        · have h := ms_ifT hc h
          refine lv_aload_n hx hb dX8_sheet_35 rfl (lv_at hl 0 rfl) ?_
          refine gr_X8_28 Cx hI wd_7_13 dX8_sheet_36 ?_
          refine lv_iload_n hx hb dX8_sheet_39 rfl (lv_at hl 1 rfl) ?_
          refine lv_iconst (v := 1) hx hb dX8_sheet_40 rfl ?_
          obtain ⟨hg, h⟩ := ms_gE h
          refine ms_stz Cx hI 24 shM_24 hg (Or.inr rfl) dX8_sheet_41 (fun H locs σ5 eσ5 hI => ?_)
          have h := ms_ltE eσ5 h
          refine lv_aload_n hx hb dX8_sheet_42 rfl (lv_at hl 0 rfl) ?_
          refine gr_X8_29 Cx hI wd_7_14 dX8_sheet_43 ?_
          refine lv_iload_n hx hb dX8_sheet_46 rfl (lv_at hl 1 rfl) ?_
          refine lv_iload_n hx hb dX8_sheet_47 rfl (lv_at hl 2 rfl) ?_
          obtain ⟨hg, h⟩ := ms_gE h
          refine ms_sto Cx hI 25 shM_25 hg dX8_sheet_48 (fun H locs σ6 eσ6 hI => ?_)
          have h := ms_ltE eσ6 h
          refine lv_aload_n hx hb dX8_sheet_49 rfl (lv_at hl 0 rfl) ?_
          refine gr_X8_30 Cx hI wd_7_15 dX8_sheet_50 ?_
          refine lv_iload_n hx hb dX8_sheet_53 rfl (lv_at hl 1 rfl) ?_
          refine lv_iload_n hx hb dX8_sheet_54 rfl (lv_at hl 3 rfl) ?_
          obtain ⟨hg, h⟩ := ms_gE h
          refine ms_sto Cx hI 26 shM_26 hg dX8_sheet_55 (fun H locs σ7 eσ7 hI => ?_)
          have h := ms_ltE eσ7 h
          refine lv_iconst (v := 0) hx hb dX8_sheet_56 rfl ?_
          refine lv_istore (lv' := [(4, .int 0), (0, .ref (a 0)), (1, .int p0), (2, .int p1), (3, .int p2)]) hx hb dX8_sheet_57 hl (by decide) rfl (fun ls hl => ?_)
          exact wX8_sheet_59 Cx out  ms_fu p0 p2 0 σ7 _ _ _ hI (lv_sub hl [1, 2, 4, 0] rfl) h
        · have h := ms_ifF hc h
          refine lv_aload_n hx hb dX8_sheet_29 rfl (lv_at hl 0 rfl) ?_
          refine lv_iconst (v := 5) hx hb dX8_sheet_30 rfl ?_
          obtain ⟨⟨r9, σ10⟩, hc8, h⟩ := ms_bdE h
          refine kX8_meets Cx hI hc8 wd_17_22 (Nat.le_of_ble_eq_true rfl) (Nat.le_of_ble_eq_true rfl) hl.1 (Nat.le_of_ble_eq_true rfl) dX8_sheet_31 (fun H locs hI => ?_)
          exact ms_riw Cx hI h dX8_sheet_34
      · have h := ms_ifF hc h
        refine lv_bipush (v := -2) hx hb dX8_sheet_22 rfl ?_
        exact ms_riw Cx hI h dX8_sheet_24
theorem yvX8_sheet : ms_YV yX8_sheet RX8 cX8_sheet 5 (some .int) 3 := ⟨wd_37_8, wd_37_9, wd_1_5, wd_37_10, rfl, by decide +kernel, by decide +kernel, by decide +kernel⟩
set_option maxHeartbeats 4000000 in
theorem metX8_sheet (l : Launch) (hDis : ms_Dis a shM.length) {σ : Mm} {p0 : Int32} {p1 : Int32} {p2 : Int32} {out : Int32 × Mm} (h : fX8_sheet p0 p1 p2 σ = some out) : Met l yX8_sheet (.code yX8_sheet cX8_sheet 5 (some .int) :: wsL_law) rmX8_sheet (ms_Pc D cA a shM [.ref (a 0), .int p0, .int p1, .int p2] σ) (ms_Qi D cA a shM out.1 out.2) 0 0 (ms_A a shM.length) := by
  refine Met.ofW (cc := cX8_sheet) (maxL := 5) (ret := (some .int)) (by decide) rfl ?_
  intro p e s m args below meth c s₁ B hml hv
  obtain ⟨rfl, hK, hN, hP⟩ := hv
  have hl := lv_entry ([.ref (a 0), .int p0, .int p1, .int p2]) (n := 5) (Nat.le_of_ble_eq_true rfl)
  rw [lg_entry_eq]
  generalize (lg_sl ([.ref (a 0), .int p0, .int p1, .int p2]) ++ List.replicate (5 - (lg_sl ([.ref (a 0), .int p0, .int p1, .int p2])).length) Slot.unset).toArray = ls at hl ⊢
  exact wX8_sheet ⟨B.exec, B.bytes, hml, findClass_of_methodNamed B.named, fun w hw => atoms_spec (ws := .code yX8_sheet cX8_sheet 5 (some .int) :: wsL_law) B.pre w (List.mem_cons_of_mem _ hw), B.returns, B.notSynchronized, hK, hDis, hN⟩ out p0 p1 p2 σ s.heap [] ls ⟨hP, va_S.rf⟩ hl h
theorem kX8_sheet (Cx : ms_C p s m args meth c D cA a shM cc nL own ret) {σ : Mm} {H : Heap} {locs : List Loc} (hI : ms_I D cA a shM s σ H locs) {p0 : Int32} {p1 : Int32} {p2 : Int32} {out : Int32 × Mm} (h : fX8_sheet p0 p1 p2 σ = some out) (hl : Cond.methodLink own idx yX8_sheet ∈ wsL_law) (hf : 2 + 1 ≤ R.frames) (hlo : 8 + (5 + 11) + 42 ≤ R.locals) (hsz : ls.size = nL) (hW : (rest.map fun v => v.category).sum ≤ 8) (hd : decode cc pc = .ok (.invokevirtual idx, 3)) (kk : ∀ (H1 : Heap) (locs1 : List Loc), ms_I D cA a shM s out.2 H1 locs1 → W p l e R s m args below meth c H1 locs1 0 0 Q (F0 m (pc + 3) ls (.int out.1 :: rest))) : W p l e R s m args below meth c H locs 0 0 Q (F0 m pc ls (.int p2 :: .int p1 :: .int p0 :: .ref (a 0) :: rest)) :=
  ms_ci hI (ms_runV (av := [.int p0, .int p1, .int p2]) Cx hI 0 shM_0 (ci := 8) rfl rfl yvX8_sheet (metX8_sheet l Cx.2.2.2.2.2.2.2.2.1  h) ⟨rfl, rfl⟩ hl ⟨hf, hlo⟩ rfl hsz rfl hW ⟨Nat.zero_le _, Nat.zero_le _⟩ hd) kk
/-! X8 lose (I)I -/
theorem dX8_lose_0 : decode cX8_lose 0 = .ok (.iload_n 1, 1) := by decide +kernel
theorem dX8_lose_1 : decode cX8_lose 1 = .ok (.invokestatic 160, 3) := by decide +kernel
theorem dX8_lose_4 : decode cX8_lose 4 = .ok (.ifCond .ne 6, 3) := by decide +kernel
theorem dX8_lose_7 : decode cX8_lose 7 = .ok (.bipush (-2), 2) := by decide +kernel
theorem dX8_lose_9 : decode cX8_lose 9 = .ok (.ireturn, 1) := by decide +kernel
theorem dX8_lose_10 : decode cX8_lose 10 = .ok (.aload_n 0, 1) := by decide +kernel
theorem dX8_lose_11 : decode cX8_lose 11 = .ok (.getfield 79, 3) := by decide +kernel
theorem dX8_lose_14 : decode cX8_lose 14 = .ok (.iload_n 1, 1) := by decide +kernel
theorem dX8_lose_15 : decode cX8_lose 15 = .ok (.baload, 1) := by decide +kernel
theorem dX8_lose_16 : decode cX8_lose 16 = .ok (.ifCond .ne 9, 3) := by decide +kernel
theorem dX8_lose_19 : decode cX8_lose 19 = .ok (.aload_n 0, 1) := by decide +kernel
theorem dX8_lose_20 : decode cX8_lose 20 = .ok (.iconst 1, 1) := by decide +kernel
theorem dX8_lose_21 : decode cX8_lose 21 = .ok (.invokevirtual 163, 3) := by decide +kernel
theorem dX8_lose_24 : decode cX8_lose 24 = .ok (.ireturn, 1) := by decide +kernel
theorem dX8_lose_25 : decode cX8_lose 25 = .ok (.aload_n 0, 1) := by decide +kernel
theorem dX8_lose_26 : decode cX8_lose 26 = .ok (.getfield 79, 3) := by decide +kernel
theorem dX8_lose_29 : decode cX8_lose 29 = .ok (.iload_n 1, 1) := by decide +kernel
theorem dX8_lose_30 : decode cX8_lose 30 = .ok (.iconst 0, 1) := by decide +kernel
theorem dX8_lose_31 : decode cX8_lose 31 = .ok (.bastore, 1) := by decide +kernel
theorem dX8_lose_32 : decode cX8_lose 32 = .ok (.aload_n 0, 1) := by decide +kernel
theorem dX8_lose_33 : decode cX8_lose 33 = .ok (.getfield 86, 3) := by decide +kernel
theorem dX8_lose_36 : decode cX8_lose 36 = .ok (.iload_n 1, 1) := by decide +kernel
theorem dX8_lose_37 : decode cX8_lose 37 = .ok (.iaload, 1) := by decide +kernel
theorem dX8_lose_38 : decode cX8_lose 38 = .ok (.ireturn, 1) := by decide +kernel
abbrev rmX8_lose : Room := { frames := 2, cells := 0, slots := 0, locals := 42 }
set_option maxHeartbeats 4000000 in
set_option maxRecDepth 100000 in
theorem wX8_lose (Cx : ms_C p s m args meth c D cA a shM cX8_lose 2 RX8 (some .int)) (out : Int32 × Mm) : ∀ (p0 : Int32) , ∀ (σ : Mm) (H : Heap) (locs : List Loc) (ls : Array Slot), ms_I D cA a shM s σ H locs → lv_has ls 2 [(0, .ref (a 0)), (1, .int p0)] → fX8_lose p0 σ = some out → W p l e rmX8_lose s m args below meth c H locs 0 0 (MQ below (ms_Qi D cA a shM out.1 out.2) args s 0 0 (ms_A a shM.length)) (F0 m 0 ls []) := by
  have hx := Cx.1
  have hb := Cx.2.1
  intro p0 σ H locs ls hI hl h
  unfold fX8_lose at h
  refine lv_iload_n hx hb dX8_lose_0 rfl (lv_at hl 1 rfl) ?_
  obtain ⟨r2, hc1, h⟩ := ms_bdE h
  refine kX8_isSheet Cx hI hc1 (Or.inl wd_17_19) (Nat.le_of_ble_eq_true rfl) (Nat.le_of_ble_eq_true rfl) hl.1 (Nat.le_of_ble_eq_true rfl) dX8_lose_1 (fun H locs hI => ?_)
  refine lv_if_ne (tgt := 10) hx hb dX8_lose_4 rfl (fun hc => ?_) (fun hc => ?_)
  · have h := ms_ifF hc h
    refine lv_aload_n hx hb dX8_lose_10 rfl (lv_at hl 0 rfl) ?_
    refine gr_X8_28 Cx hI wd_7_13 dX8_lose_11 ?_
    refine lv_iload_n hx hb dX8_lose_14 rfl (lv_at hl 1 rfl) ?_
    obtain ⟨hg, h⟩ := ms_gE h
    refine ms_ldz Cx hI 24 shM_24 hg dX8_lose_15 ?_
    refine lv_if_ne (tgt := 25) hx hb dX8_lose_16 rfl (fun hc => ?_) (fun hc => ?_)
    · have h := ms_ifF hc h
      refine lv_aload_n hx hb dX8_lose_25 rfl (lv_at hl 0 rfl) ?_
      refine gr_X8_28 Cx hI wd_7_13 dX8_lose_26 ?_
      refine lv_iload_n hx hb dX8_lose_29 rfl (lv_at hl 1 rfl) ?_
      refine lv_iconst (v := 0) hx hb dX8_lose_30 rfl ?_
      obtain ⟨hg, h⟩ := ms_gE h
      refine ms_stz Cx hI 24 shM_24 hg (Or.inl rfl) dX8_lose_31 (fun H locs σ3 eσ3 hI => ?_)
      have h := ms_ltE eσ3 h
      refine lv_aload_n hx hb dX8_lose_32 rfl (lv_at hl 0 rfl) ?_
      refine gr_X8_30 Cx hI wd_7_15 dX8_lose_33 ?_
      refine lv_iload_n hx hb dX8_lose_36 rfl (lv_at hl 1 rfl) ?_
      obtain ⟨hg, h⟩ := ms_gE h
      refine ms_ld Cx hI 26 shM_26 hg dX8_lose_37 ?_
      exact ms_riw Cx hI h dX8_lose_38
    · have h := ms_ifT hc h
      refine lv_aload_n hx hb dX8_lose_19 rfl (lv_at hl 0 rfl) ?_
      refine lv_iconst (v := 1) hx hb dX8_lose_20 rfl ?_
      obtain ⟨⟨r5, σ6⟩, hc4, h⟩ := ms_bdE h
      refine kX8_meets Cx hI hc4 wd_17_22 (Nat.le_of_ble_eq_true rfl) (Nat.le_of_ble_eq_true rfl) hl.1 (Nat.le_of_ble_eq_true rfl) dX8_lose_21 (fun H locs hI => ?_)
      exact ms_riw Cx hI h dX8_lose_24
  · have h := ms_ifT hc h
    refine lv_bipush (v := -2) hx hb dX8_lose_7 rfl ?_
    exact ms_riw Cx hI h dX8_lose_9
theorem yvX8_lose : ms_YV yX8_lose RX8 cX8_lose 2 (some .int) 1 := ⟨wd_37_16, wd_37_17, wd_1_5, wd_37_18, rfl, by decide +kernel, by decide +kernel, by decide +kernel⟩
set_option maxHeartbeats 4000000 in
theorem metX8_lose (l : Launch) (hDis : ms_Dis a shM.length) {σ : Mm} {p0 : Int32} {out : Int32 × Mm} (h : fX8_lose p0 σ = some out) : Met l yX8_lose (.code yX8_lose cX8_lose 2 (some .int) :: wsL_law) rmX8_lose (ms_Pc D cA a shM [.ref (a 0), .int p0] σ) (ms_Qi D cA a shM out.1 out.2) 0 0 (ms_A a shM.length) := by
  refine Met.ofW (cc := cX8_lose) (maxL := 2) (ret := (some .int)) (by decide) rfl ?_
  intro p e s m args below meth c s₁ B hml hv
  obtain ⟨rfl, hK, hN, hP⟩ := hv
  have hl := lv_entry ([.ref (a 0), .int p0]) (n := 2) (Nat.le_of_ble_eq_true rfl)
  rw [lg_entry_eq]
  generalize (lg_sl ([.ref (a 0), .int p0]) ++ List.replicate (2 - (lg_sl ([.ref (a 0), .int p0])).length) Slot.unset).toArray = ls at hl ⊢
  exact wX8_lose ⟨B.exec, B.bytes, hml, findClass_of_methodNamed B.named, fun w hw => atoms_spec (ws := .code yX8_lose cX8_lose 2 (some .int) :: wsL_law) B.pre w (List.mem_cons_of_mem _ hw), B.returns, B.notSynchronized, hK, hDis, hN⟩ out p0 σ s.heap [] ls ⟨hP, va_S.rf⟩ hl h
theorem kX8_lose (Cx : ms_C p s m args meth c D cA a shM cc nL own ret) {σ : Mm} {H : Heap} {locs : List Loc} (hI : ms_I D cA a shM s σ H locs) {p0 : Int32} {out : Int32 × Mm} (h : fX8_lose p0 σ = some out) (hl : Cond.methodLink own idx yX8_lose ∈ wsL_law) (hf : 2 + 1 ≤ R.frames) (hlo : 8 + (2 + 11) + 42 ≤ R.locals) (hsz : ls.size = nL) (hW : (rest.map fun v => v.category).sum ≤ 8) (hd : decode cc pc = .ok (.invokevirtual idx, 3)) (kk : ∀ (H1 : Heap) (locs1 : List Loc), ms_I D cA a shM s out.2 H1 locs1 → W p l e R s m args below meth c H1 locs1 0 0 Q (F0 m (pc + 3) ls (.int out.1 :: rest))) : W p l e R s m args below meth c H locs 0 0 Q (F0 m pc ls (.int p0 :: .ref (a 0) :: rest)) :=
  ms_ci hI (ms_runV (av := [.int p0]) Cx hI 0 shM_0 (ci := 8) rfl rfl yvX8_lose (metX8_lose l Cx.2.2.2.2.2.2.2.2.1  h) ⟨rfl, rfl⟩ hl ⟨hf, hlo⟩ rfl hsz rfl hW ⟨Nat.zero_le _, Nat.zero_le _⟩ hd) kk
/-! X8 lacks (III)I -/
theorem dX8_lacks_0 : decode cX8_lacks 0 = .ok (.aload_n 0, 1) := by decide +kernel
theorem dX8_lacks_1 : decode cX8_lacks 1 = .ok (.getfield 79, 3) := by decide +kernel
theorem dX8_lacks_4 : decode cX8_lacks 4 = .ok (.iload_n 1, 1) := by decide +kernel
theorem dX8_lacks_5 : decode cX8_lacks 5 = .ok (.baload, 1) := by decide +kernel
theorem dX8_lacks_6 : decode cX8_lacks 6 = .ok (.ifCond .ne 7, 3) := by decide +kernel
theorem dX8_lacks_9 : decode cX8_lacks 9 = .ok (.iconst 1, 1) := by decide +kernel
theorem dX8_lacks_10 : decode cX8_lacks 10 = .ok (.goto 38, 3) := by decide +kernel
theorem dX8_lacks_13 : decode cX8_lacks 13 = .ok (.aload_n 0, 1) := by decide +kernel
theorem dX8_lacks_14 : decode cX8_lacks 14 = .ok (.getfield 83, 3) := by decide +kernel
theorem dX8_lacks_17 : decode cX8_lacks 17 = .ok (.iload_n 1, 1) := by decide +kernel
theorem dX8_lacks_18 : decode cX8_lacks 18 = .ok (.iaload, 1) := by decide +kernel
theorem dX8_lacks_19 : decode cX8_lacks 19 = .ok (.iload_n 2, 1) := by decide +kernel
theorem dX8_lacks_20 : decode cX8_lacks 20 = .ok (.if_icmp .eq 7, 3) := by decide +kernel
theorem dX8_lacks_23 : decode cX8_lacks 23 = .ok (.iconst 3, 1) := by decide +kernel
theorem dX8_lacks_24 : decode cX8_lacks 24 = .ok (.goto 24, 3) := by decide +kernel
theorem dX8_lacks_27 : decode cX8_lacks 27 = .ok (.iload_n 3, 1) := by decide +kernel
theorem dX8_lacks_28 : decode cX8_lacks 28 = .ok (.iconst 0, 1) := by decide +kernel
theorem dX8_lacks_29 : decode cX8_lacks 29 = .ok (.aload_n 0, 1) := by decide +kernel
theorem dX8_lacks_30 : decode cX8_lacks 30 = .ok (.getfield 86, 3) := by decide +kernel
theorem dX8_lacks_33 : decode cX8_lacks 33 = .ok (.iload_n 1, 1) := by decide +kernel
theorem dX8_lacks_34 : decode cX8_lacks 34 = .ok (.iaload, 1) := by decide +kernel
theorem dX8_lacks_35 : decode cX8_lacks 35 = .ok (.iconst 1, 1) := by decide +kernel
theorem dX8_lacks_36 : decode cX8_lacks 36 = .ok (.isub, 1) := by decide +kernel
theorem dX8_lacks_37 : decode cX8_lacks 37 = .ok (.invokestatic 95, 3) := by decide +kernel
theorem dX8_lacks_40 : decode cX8_lacks 40 = .ok (.ifCond .eq 7, 3) := by decide +kernel
theorem dX8_lacks_43 : decode cX8_lacks 43 = .ok (.iconst 0, 1) := by decide +kernel
theorem dX8_lacks_44 : decode cX8_lacks 44 = .ok (.goto 4, 3) := by decide +kernel
theorem dX8_lacks_47 : decode cX8_lacks 47 = .ok (.iconst 2, 1) := by decide +kernel
theorem dX8_lacks_48 : decode cX8_lacks 48 = .ok (.ireturn, 1) := by decide +kernel
abbrev rmX8_lacks : Room := { frames := 1, cells := 0, slots := 0, locals := 22 }
set_option maxHeartbeats 4000000 in
set_option maxRecDepth 100000 in
theorem wX8_lacks (Cx : ms_C p s m args meth c D cA a shM cX8_lacks 4 RX8 (some .int)) (out : Int32) {σ : Mm} : ∀ (p0 : Int32) (p1 : Int32) (p2 : Int32) , ∀ (H : Heap) (locs : List Loc) (ls : Array Slot), ms_I D cA a shM s σ H locs → lv_has ls 4 [(0, .ref (a 0)), (1, .int p0), (2, .int p1), (3, .int p2)] → fX8_lacks σ p0 p1 p2 = some out → W p l e rmX8_lacks s m args below meth c H locs 0 0 (MQ below (ms_Qi D cA a shM out σ) args s 0 0 (ms_A a shM.length)) (F0 m 0 ls []) := by
  have hx := Cx.1
  have hb := Cx.2.1
  intro p0 p1 p2 H locs ls hI hl h
  unfold fX8_lacks at h
  refine lv_aload_n hx hb dX8_lacks_0 rfl (lv_at hl 0 rfl) ?_
  refine gr_X8_28 Cx hI wd_7_13 dX8_lacks_1 ?_
  refine lv_iload_n hx hb dX8_lacks_4 rfl (lv_at hl 1 rfl) ?_
  obtain ⟨hg, h⟩ := ms_gE h
  refine ms_ldz Cx hI 24 shM_24 hg dX8_lacks_5 ?_
  refine lv_if_ne (tgt := 13) hx hb dX8_lacks_6 rfl (fun hc => ?_) (fun hc => ?_)
  · have h := ms_ifF hc h
    refine lv_aload_n hx hb dX8_lacks_13 rfl (lv_at hl 0 rfl) ?_
    refine gr_X8_29 Cx hI wd_7_14 dX8_lacks_14 ?_
    refine lv_iload_n hx hb dX8_lacks_17 rfl (lv_at hl 1 rfl) ?_
    obtain ⟨hg, h⟩ := ms_gE h
    refine ms_ld Cx hI 25 shM_25 hg dX8_lacks_18 ?_
    refine lv_iload_n hx hb dX8_lacks_19 rfl (lv_at hl 2 rfl) ?_
    refine lv_icmp_eq (tgt := 27) hx hb dX8_lacks_20 rfl (fun hc => ?_) (fun hc => ?_)
    · have h := ms_ifT hc h
      refine lv_iload_n hx hb dX8_lacks_27 rfl (lv_at hl 3 rfl) ?_
      refine lv_iconst (v := 0) hx hb dX8_lacks_28 rfl ?_
      refine lv_aload_n hx hb dX8_lacks_29 rfl (lv_at hl 0 rfl) ?_
      refine gr_X8_30 Cx hI wd_7_15 dX8_lacks_30 ?_
      refine lv_iload_n hx hb dX8_lacks_33 rfl (lv_at hl 1 rfl) ?_
      obtain ⟨hg, h⟩ := ms_gE h
      refine ms_ld Cx hI 26 shM_26 hg dX8_lacks_34 ?_
      refine lv_iconst (v := 1) hx hb dX8_lacks_35 rfl ?_
      refine lv_isub hx hb dX8_lacks_36 ?_
      obtain ⟨r2, hc1, h⟩ := ms_bdE h
      refine kX8_in Cx hI hc1 (Or.inl wd_10_20) (Nat.le_of_ble_eq_true rfl) (Nat.le_of_ble_eq_true rfl) hl.1 (Nat.le_of_ble_eq_true rfl) dX8_lacks_37 (fun H locs hI => ?_)
      refine lv_if_eq (tgt := 47) hx hb dX8_lacks_40 rfl (fun hc => ?_) (fun hc => ?_)
      · have h := ms_ifT hc h
        refine lv_iconst (v := 2) hx hb dX8_lacks_47 rfl ?_
        exact ms_ri Cx hI (Option.some.inj h) rfl dX8_lacks_48
      · have h := ms_ifF hc h
        refine lv_iconst (v := 0) hx hb dX8_lacks_43 rfl ?_
        refine lv_goto (tgt := 48) hx hb dX8_lacks_44 rfl ?_
        exact ms_ri Cx hI (Option.some.inj h) rfl dX8_lacks_48
    · have h := ms_ifF hc h
      refine lv_iconst (v := 3) hx hb dX8_lacks_23 rfl ?_
      refine lv_goto (tgt := 48) hx hb dX8_lacks_24 rfl ?_
      exact ms_ri Cx hI (Option.some.inj h) rfl dX8_lacks_48
  · have h := ms_ifT hc h
    refine lv_iconst (v := 1) hx hb dX8_lacks_9 rfl ?_
    refine lv_goto (tgt := 48) hx hb dX8_lacks_10 rfl ?_
    exact ms_ri Cx hI (Option.some.inj h) rfl dX8_lacks_48
theorem yvX8_lacks : ms_YV yX8_lacks RX8 cX8_lacks 4 (some .int) 3 := ⟨wd_38_12, wd_38_13, wd_1_5, wd_38_14, rfl, by decide +kernel, by decide +kernel, by decide +kernel⟩
set_option maxHeartbeats 4000000 in
theorem metX8_lacks (l : Launch) (hDis : ms_Dis a shM.length) {σ : Mm} {p0 : Int32} {p1 : Int32} {p2 : Int32} {out : Int32} (h : fX8_lacks σ p0 p1 p2 = some out) : Met l yX8_lacks (.code yX8_lacks cX8_lacks 4 (some .int) :: wsL_law) rmX8_lacks (ms_Pc D cA a shM [.ref (a 0), .int p0, .int p1, .int p2] σ) (ms_Qi D cA a shM out σ) 0 0 (ms_A a shM.length) := by
  refine Met.ofW (cc := cX8_lacks) (maxL := 4) (ret := (some .int)) (by decide) rfl ?_
  intro p e s m args below meth c s₁ B hml hv
  obtain ⟨rfl, hK, hN, hP⟩ := hv
  have hl := lv_entry ([.ref (a 0), .int p0, .int p1, .int p2]) (n := 4) (Nat.le_of_ble_eq_true rfl)
  rw [lg_entry_eq]
  generalize (lg_sl ([.ref (a 0), .int p0, .int p1, .int p2]) ++ List.replicate (4 - (lg_sl ([.ref (a 0), .int p0, .int p1, .int p2])).length) Slot.unset).toArray = ls at hl ⊢
  exact wX8_lacks ⟨B.exec, B.bytes, hml, findClass_of_methodNamed B.named, fun w hw => atoms_spec (ws := .code yX8_lacks cX8_lacks 4 (some .int) :: wsL_law) B.pre w (List.mem_cons_of_mem _ hw), B.returns, B.notSynchronized, hK, hDis, hN⟩ out p0 p1 p2 s.heap [] ls ⟨hP, va_S.rf⟩ hl h
theorem kX8_lacks (Cx : ms_C p s m args meth c D cA a shM cc nL own ret) {σ : Mm} {H : Heap} {locs : List Loc} (hI : ms_I D cA a shM s σ H locs) {p0 : Int32} {p1 : Int32} {p2 : Int32} {out : Int32} (h : fX8_lacks σ p0 p1 p2 = some out) (hl : Cond.methodLink own idx yX8_lacks ∈ wsL_law) (hf : 1 + 1 ≤ R.frames) (hlo : 8 + (4 + 11) + 22 ≤ R.locals) (hsz : ls.size = nL) (hW : (rest.map fun v => v.category).sum ≤ 8) (hd : decode cc pc = .ok (.invokevirtual idx, 3)) (kk : ∀ (H1 : Heap) (locs1 : List Loc), ms_I D cA a shM s σ H1 locs1 → W p l e R s m args below meth c H1 locs1 0 0 Q (F0 m (pc + 3) ls (.int out :: rest))) : W p l e R s m args below meth c H locs 0 0 Q (F0 m pc ls (.int p2 :: .int p1 :: .int p0 :: .ref (a 0) :: rest)) :=
  ms_ci hI (ms_runV (av := [.int p0, .int p1, .int p2]) Cx hI 0 shM_0 (ci := 8) rfl rfl yvX8_lacks (metX8_lacks l Cx.2.2.2.2.2.2.2.2.1  h) ⟨rfl, rfl⟩ hl ⟨hf, hlo⟩ rfl hsz rfl hW ⟨Nat.zero_le _, Nat.zero_le _⟩ hd) kk
/-! X8 keep (III)V -/
theorem dX8_keep_0 : decode cX8_keep 0 = .ok (.aload_n 0, 1) := by decide +kernel
theorem dX8_keep_1 : decode cX8_keep 1 = .ok (.getfield 89, 3) := by decide +kernel
theorem dX8_keep_4 : decode cX8_keep 4 = .ok (.bipush 48, 2) := by decide +kernel
theorem dX8_keep_6 : decode cX8_keep 6 = .ok (.iload_n 1, 1) := by decide +kernel
theorem dX8_keep_7 : decode cX8_keep 7 = .ok (.imul, 1) := by decide +kernel
theorem dX8_keep_8 : decode cX8_keep 8 = .ok (.iload_n 2, 1) := by decide +kernel
theorem dX8_keep_9 : decode cX8_keep 9 = .ok (.iadd, 1) := by decide +kernel
theorem dX8_keep_10 : decode cX8_keep 10 = .ok (.aload_n 0, 1) := by decide +kernel
theorem dX8_keep_11 : decode cX8_keep 11 = .ok (.getfield 83, 3) := by decide +kernel
theorem dX8_keep_14 : decode cX8_keep 14 = .ok (.iload_n 1, 1) := by decide +kernel
theorem dX8_keep_15 : decode cX8_keep 15 = .ok (.iaload, 1) := by decide +kernel
theorem dX8_keep_16 : decode cX8_keep 16 = .ok (.ifCond .ne 8, 3) := by decide +kernel
theorem dX8_keep_19 : decode cX8_keep 19 = .ok (.iload_n 3, 1) := by decide +kernel
theorem dX8_keep_20 : decode cX8_keep 20 = .ok (.i2b, 1) := by decide +kernel
theorem dX8_keep_21 : decode cX8_keep 21 = .ok (.goto 19, 3) := by decide +kernel
theorem dX8_keep_24 : decode cX8_keep 24 = .ok (.aload_n 0, 1) := by decide +kernel
theorem dX8_keep_25 : decode cX8_keep 25 = .ok (.getfield 83, 3) := by decide +kernel
theorem dX8_keep_28 : decode cX8_keep 28 = .ok (.iload_n 1, 1) := by decide +kernel
theorem dX8_keep_29 : decode cX8_keep 29 = .ok (.iaload, 1) := by decide +kernel
theorem dX8_keep_30 : decode cX8_keep 30 = .ok (.iconst 1, 1) := by decide +kernel
theorem dX8_keep_31 : decode cX8_keep 31 = .ok (.if_icmp .ne 8, 3) := by decide +kernel
theorem dX8_keep_34 : decode cX8_keep 34 = .ok (.iload_n 3, 1) := by decide +kernel
theorem dX8_keep_35 : decode cX8_keep 35 = .ok (.i2s, 1) := by decide +kernel
theorem dX8_keep_36 : decode cX8_keep 36 = .ok (.goto 4, 3) := by decide +kernel
theorem dX8_keep_39 : decode cX8_keep 39 = .ok (.iload_n 3, 1) := by decide +kernel
theorem dX8_keep_40 : decode cX8_keep 40 = .ok (.iastore, 1) := by decide +kernel
theorem dX8_keep_41 : decode cX8_keep 41 = .ok (.return_, 1) := by decide +kernel
abbrev rmX8_keep : Room := { frames := 0, cells := 0, slots := 0, locals := 0 }
set_option maxHeartbeats 4000000 in
set_option maxRecDepth 100000 in
theorem wX8_keep (Cx : ms_C p s m args meth c D cA a shM cX8_keep 4 RX8 none) (out : Mm) : ∀ (p0 : Int32) (p1 : Int32) (p2 : Int32) , ∀ (σ : Mm) (H : Heap) (locs : List Loc) (ls : Array Slot), ms_I D cA a shM s σ H locs → lv_has ls 4 [(0, .ref (a 0)), (1, .int p0), (2, .int p1), (3, .int p2)] → fX8_keep p0 p1 p2 σ = some out → W p l e rmX8_keep s m args below meth c H locs 0 0 (MQ below (ms_Qv D cA a shM out) args s 0 0 (ms_A a shM.length)) (F0 m 0 ls []) := by
  have hx := Cx.1
  have hb := Cx.2.1
  intro p0 p1 p2 σ H locs ls hI hl h
  unfold fX8_keep at h
  refine lv_aload_n hx hb dX8_keep_0 rfl (lv_at hl 0 rfl) ?_
  refine gr_X8_31 Cx hI wd_7_16 dX8_keep_1 ?_
  refine lv_bipush (v := 48) hx hb dX8_keep_4 rfl ?_
  refine lv_iload_n hx hb dX8_keep_6 rfl (lv_at hl 1 rfl) ?_
  refine lv_imul hx hb dX8_keep_7 ?_
  refine lv_iload_n hx hb dX8_keep_8 rfl (lv_at hl 2 rfl) ?_
  refine lv_iadd hx hb dX8_keep_9 ?_
  refine lv_aload_n hx hb dX8_keep_10 rfl (lv_at hl 0 rfl) ?_
  refine gr_X8_29 Cx hI wd_7_14 dX8_keep_11 ?_
  refine lv_iload_n hx hb dX8_keep_14 rfl (lv_at hl 1 rfl) ?_
  obtain ⟨hg, h⟩ := ms_gE h
  refine ms_ld Cx hI 25 shM_25 hg dX8_keep_15 ?_
  refine lv_if_ne (tgt := 24) hx hb dX8_keep_16 rfl (fun hc => ?_) (fun hc => ?_)
  · have h := ms_ifF hc h
    refine lv_aload_n hx hb dX8_keep_24 rfl (lv_at hl 0 rfl) ?_
    refine gr_X8_29 Cx hI wd_7_14 dX8_keep_25 ?_
    refine lv_iload_n hx hb dX8_keep_28 rfl (lv_at hl 1 rfl) ?_
    obtain ⟨hg, h⟩ := ms_gE h
    refine ms_ld Cx hI 25 shM_25 hg dX8_keep_29 ?_
    refine lv_iconst (v := 1) hx hb dX8_keep_30 rfl ?_
    refine lv_icmp_ne (tgt := 39) hx hb dX8_keep_31 rfl (fun hc => ?_) (fun hc => ?_)
    · have h := ms_ifF hc h
      refine lv_iload_n hx hb dX8_keep_39 rfl (lv_at hl 3 rfl) ?_
      obtain ⟨hg, h⟩ := ms_gE h
      refine ms_sto Cx hI 27 shM_27 hg dX8_keep_40 (fun H locs σ1 eσ1 hI => ?_)
      have h := ms_ltE eσ1 h
      exact ms_rv Cx hI (Option.some.inj h) dX8_keep_41
    · have h := ms_ifT hc h
      refine lv_iload_n hx hb dX8_keep_34 rfl (lv_at hl 3 rfl) ?_
      refine lv_i2s hx hb dX8_keep_35 rfl ?_
      refine lv_goto (tgt := 40) hx hb dX8_keep_36 rfl ?_
      obtain ⟨hg, h⟩ := ms_gE h
      refine ms_sto Cx hI 27 shM_27 hg dX8_keep_40 (fun H locs σ2 eσ2 hI => ?_)
      have h := ms_ltE eσ2 h
      exact ms_rv Cx hI (Option.some.inj h) dX8_keep_41
  · have h := ms_ifT hc h
    refine lv_iload_n hx hb dX8_keep_19 rfl (lv_at hl 3 rfl) ?_
    refine lv_i2b hx hb dX8_keep_20 rfl ?_
    refine lv_goto (tgt := 40) hx hb dX8_keep_21 rfl ?_
    obtain ⟨hg, h⟩ := ms_gE h
    refine ms_sto Cx hI 27 shM_27 hg dX8_keep_40 (fun H locs σ3 eσ3 hI => ?_)
    have h := ms_ltE eσ3 h
    exact ms_rv Cx hI (Option.some.inj h) dX8_keep_41
theorem yvX8_keep : ms_YV yX8_keep RX8 cX8_keep 4 none 3 := ⟨wd_38_16, wd_38_17, wd_1_5, wd_38_18, rfl, by decide +kernel, by decide +kernel, by decide +kernel⟩
set_option maxHeartbeats 4000000 in
theorem metX8_keep (l : Launch) (hDis : ms_Dis a shM.length) {σ : Mm} {p0 : Int32} {p1 : Int32} {p2 : Int32} {out : Mm} (h : fX8_keep p0 p1 p2 σ = some out) : Met l yX8_keep (.code yX8_keep cX8_keep 4 none :: wsL_law) rmX8_keep (ms_Pc D cA a shM [.ref (a 0), .int p0, .int p1, .int p2] σ) (ms_Qv D cA a shM out) 0 0 (ms_A a shM.length) := by
  refine Met.ofW (cc := cX8_keep) (maxL := 4) (ret := none) (by decide) rfl ?_
  intro p e s m args below meth c s₁ B hml hv
  obtain ⟨rfl, hK, hN, hP⟩ := hv
  have hl := lv_entry ([.ref (a 0), .int p0, .int p1, .int p2]) (n := 4) (Nat.le_of_ble_eq_true rfl)
  rw [lg_entry_eq]
  generalize (lg_sl ([.ref (a 0), .int p0, .int p1, .int p2]) ++ List.replicate (4 - (lg_sl ([.ref (a 0), .int p0, .int p1, .int p2])).length) Slot.unset).toArray = ls at hl ⊢
  exact wX8_keep ⟨B.exec, B.bytes, hml, findClass_of_methodNamed B.named, fun w hw => atoms_spec (ws := .code yX8_keep cX8_keep 4 none :: wsL_law) B.pre w (List.mem_cons_of_mem _ hw), B.returns, B.notSynchronized, hK, hDis, hN⟩ out p0 p1 p2 σ s.heap [] ls ⟨hP, va_S.rf⟩ hl h
theorem kX8_keep (Cx : ms_C p s m args meth c D cA a shM cc nL own ret) {σ : Mm} {H : Heap} {locs : List Loc} (hI : ms_I D cA a shM s σ H locs) {p0 : Int32} {p1 : Int32} {p2 : Int32} {out : Mm} (h : fX8_keep p0 p1 p2 σ = some out) (hl : Cond.methodLink own idx yX8_keep ∈ wsL_law) (hf : 0 + 1 ≤ R.frames) (hlo : 8 + (4 + 11) + 0 ≤ R.locals) (hsz : ls.size = nL) (hW : (rest.map fun v => v.category).sum ≤ 8) (hd : decode cc pc = .ok (.invokevirtual idx, 3)) (kk : ∀ (H1 : Heap) (locs1 : List Loc), ms_I D cA a shM s out H1 locs1 → W p l e R s m args below meth c H1 locs1 0 0 Q (F0 m (pc + 3) ls (rest))) : W p l e R s m args below meth c H locs 0 0 Q (F0 m pc ls (.int p2 :: .int p1 :: .int p0 :: .ref (a 0) :: rest)) :=
  ms_cv hI (ms_runV (av := [.int p0, .int p1, .int p2]) Cx hI 0 shM_0 (ci := 8) rfl rfl yvX8_keep (metX8_keep l Cx.2.2.2.2.2.2.2.2.1  h) ⟨rfl, rfl⟩ hl ⟨hf, hlo⟩ rfl hsz rfl hW ⟨Nat.zero_le _, Nat.zero_le _⟩ hd) kk
/-! X8 put (IIII)I -/
theorem dX8_put_0 : decode cX8_put 0 = .ok (.iload_n 1, 1) := by decide +kernel
theorem dX8_put_1 : decode cX8_put 1 = .ok (.invokestatic 160, 3) := by decide +kernel
theorem dX8_put_4 : decode cX8_put 4 = .ok (.ifCond .eq 12, 3) := by decide +kernel
theorem dX8_put_7 : decode cX8_put 7 = .ok (.iload_n 2, 1) := by decide +kernel
theorem dX8_put_8 : decode cX8_put 8 = .ok (.iconst 0, 1) := by decide +kernel
theorem dX8_put_9 : decode cX8_put 9 = .ok (.iconst 2, 1) := by decide +kernel
theorem dX8_put_10 : decode cX8_put 10 = .ok (.invokestatic 95, 3) := by decide +kernel
theorem dX8_put_13 : decode cX8_put 13 = .ok (.ifCond .ne 6, 3) := by decide +kernel
theorem dX8_put_16 : decode cX8_put 16 = .ok (.bipush (-2), 2) := by decide +kernel
theorem dX8_put_18 : decode cX8_put 18 = .ok (.ireturn, 1) := by decide +kernel
theorem dX8_put_19 : decode cX8_put 19 = .ok (.aload_n 0, 1) := by decide +kernel
theorem dX8_put_20 : decode cX8_put 20 = .ok (.iload_n 1, 1) := by decide +kernel
theorem dX8_put_21 : decode cX8_put 21 = .ok (.iload_n 2, 1) := by decide +kernel
theorem dX8_put_22 : decode cX8_put 22 = .ok (.iload_n 3, 1) := by decide +kernel
theorem dX8_put_23 : decode cX8_put 23 = .ok (.invokevirtual 251, 3) := by decide +kernel
theorem dX8_put_26 : decode cX8_put 26 = .ok (.istore 5, 2) := by decide +kernel
theorem dX8_put_28 : decode cX8_put 28 = .ok (.iload 5, 2) := by decide +kernel
theorem dX8_put_30 : decode cX8_put 30 = .ok (.ifCond .le 10, 3) := by decide +kernel
theorem dX8_put_33 : decode cX8_put 33 = .ok (.aload_n 0, 1) := by decide +kernel
theorem dX8_put_34 : decode cX8_put 34 = .ok (.iload 5, 2) := by decide +kernel
theorem dX8_put_36 : decode cX8_put 36 = .ok (.invokevirtual 163, 3) := by decide +kernel
theorem dX8_put_39 : decode cX8_put 39 = .ok (.ireturn, 1) := by decide +kernel
theorem dX8_put_40 : decode cX8_put 40 = .ok (.aload_n 0, 1) := by decide +kernel
theorem dX8_put_41 : decode cX8_put 41 = .ok (.iload_n 1, 1) := by decide +kernel
theorem dX8_put_42 : decode cX8_put 42 = .ok (.iload_n 3, 1) := by decide +kernel
theorem dX8_put_43 : decode cX8_put 43 = .ok (.iload 4, 2) := by decide +kernel
theorem dX8_put_45 : decode cX8_put 45 = .ok (.invokevirtual 254, 3) := by decide +kernel
theorem dX8_put_48 : decode cX8_put 48 = .ok (.iconst 1, 1) := by decide +kernel
theorem dX8_put_49 : decode cX8_put 49 = .ok (.ireturn, 1) := by decide +kernel
abbrev rmX8_put : Room := { frames := 2, cells := 0, slots := 0, locals := 45 }
set_option maxHeartbeats 4000000 in
set_option maxRecDepth 100000 in
theorem wX8_put (Cx : ms_C p s m args meth c D cA a shM cX8_put 6 RX8 (some .int)) (out : Int32 × Mm) : ∀ (p0 : Int32) (p1 : Int32) (p2 : Int32) (p3 : Int32) , ∀ (σ : Mm) (H : Heap) (locs : List Loc) (ls : Array Slot), ms_I D cA a shM s σ H locs → lv_has ls 6 [(0, .ref (a 0)), (1, .int p0), (2, .int p1), (3, .int p2), (4, .int p3)] → fX8_put p0 p1 p2 p3 σ = some out → W p l e rmX8_put s m args below meth c H locs 0 0 (MQ below (ms_Qi D cA a shM out.1 out.2) args s 0 0 (ms_A a shM.length)) (F0 m 0 ls []) := by
  have hx := Cx.1
  have hb := Cx.2.1
  intro p0 p1 p2 p3 σ H locs ls hI hl h
  unfold fX8_put at h
  refine lv_iload_n hx hb dX8_put_0 rfl (lv_at hl 1 rfl) ?_
  obtain ⟨r2, hc1, h⟩ := ms_bdE h
  refine kX8_isSheet Cx hI hc1 (Or.inl wd_17_19) (Nat.le_of_ble_eq_true rfl) (Nat.le_of_ble_eq_true rfl) hl.1 (Nat.le_of_ble_eq_true rfl) dX8_put_1 (fun H locs hI => ?_)
  refine lv_if_eq (tgt := 16) hx hb dX8_put_4 rfl (fun hc => ?_) (fun hc => ?_)
  · have h := ms_ifT hc h
    refine lv_bipush (v := -2) hx hb dX8_put_16 rfl ?_
    exact ms_riw Cx hI h dX8_put_18
  · have h := ms_ifF hc h
    refine lv_iload_n hx hb dX8_put_7 rfl (lv_at hl 2 rfl) ?_
    refine lv_iconst (v := 0) hx hb dX8_put_8 rfl ?_
    refine lv_iconst (v := 2) hx hb dX8_put_9 rfl ?_
    obtain ⟨r4, hc3, h⟩ := ms_bdE h
    refine kX8_in Cx hI hc3 (Or.inl wd_10_20) (Nat.le_of_ble_eq_true rfl) (Nat.le_of_ble_eq_true rfl) hl.1 (Nat.le_of_ble_eq_true rfl) dX8_put_10 (fun H locs hI => ?_)
    refine lv_if_ne (tgt := 19) hx hb dX8_put_13 rfl (fun hc => ?_) (fun hc => ?_)
    · have h := ms_ifF hc h
      refine lv_aload_n hx hb dX8_put_19 rfl (lv_at hl 0 rfl) ?_
      refine lv_iload_n hx hb dX8_put_20 rfl (lv_at hl 1 rfl) ?_
      refine lv_iload_n hx hb dX8_put_21 rfl (lv_at hl 2 rfl) ?_
      refine lv_iload_n hx hb dX8_put_22 rfl (lv_at hl 3 rfl) ?_
      obtain ⟨r6, hc5, h⟩ := ms_bdE h
      refine kX8_lacks Cx hI hc5 wd_38_11 (Nat.le_of_ble_eq_true rfl) (Nat.le_of_ble_eq_true rfl) hl.1 (Nat.le_of_ble_eq_true rfl) dX8_put_23 (fun H locs hI => ?_)
      refine lv_istore (lv' := [(5, .int r6), (0, .ref (a 0)), (1, .int p0), (2, .int p1), (3, .int p2), (4, .int p3)]) hx hb dX8_put_26 hl (by decide) rfl (fun ls hl => ?_)
      refine lv_iload hx hb dX8_put_28 (lv_at hl 0 rfl) ?_
      refine lv_if_le (tgt := 40) hx hb dX8_put_30 rfl (fun hc => ?_) (fun hc => ?_)
      · have h := ms_ifT hc h
        refine lv_aload_n hx hb dX8_put_40 rfl (lv_at hl 1 rfl) ?_
        refine lv_iload_n hx hb dX8_put_41 rfl (lv_at hl 2 rfl) ?_
        refine lv_iload_n hx hb dX8_put_42 rfl (lv_at hl 4 rfl) ?_
        refine lv_iload hx hb dX8_put_43 (lv_at hl 5 rfl) ?_
        obtain ⟨σ8, hc7, h⟩ := ms_bdE h
        refine kX8_keep Cx hI hc7 wd_38_15 (Nat.le_of_ble_eq_true rfl) (Nat.le_of_ble_eq_true rfl) hl.1 (Nat.le_of_ble_eq_true rfl) dX8_put_45 (fun H locs hI => ?_)
        refine lv_iconst (v := 1) hx hb dX8_put_48 rfl ?_
        exact ms_riw Cx hI h dX8_put_49
      · have h := ms_ifF hc h
        refine lv_aload_n hx hb dX8_put_33 rfl (lv_at hl 1 rfl) ?_
        refine lv_iload hx hb dX8_put_34 (lv_at hl 0 rfl) ?_
        obtain ⟨⟨r10, σ11⟩, hc9, h⟩ := ms_bdE h
        refine kX8_meets Cx hI hc9 wd_17_22 (Nat.le_of_ble_eq_true rfl) (Nat.le_of_ble_eq_true rfl) hl.1 (Nat.le_of_ble_eq_true rfl) dX8_put_36 (fun H locs hI => ?_)
        exact ms_riw Cx hI h dX8_put_39
    · have h := ms_ifT hc h
      refine lv_bipush (v := -2) hx hb dX8_put_16 rfl ?_
      exact ms_riw Cx hI h dX8_put_18
theorem yvX8_put : ms_YV yX8_put RX8 cX8_put 6 (some .int) 4 := ⟨wd_38_8, wd_38_9, wd_1_5, wd_38_10, rfl, by decide +kernel, by decide +kernel, by decide +kernel⟩
set_option maxHeartbeats 4000000 in
theorem metX8_put (l : Launch) (hDis : ms_Dis a shM.length) {σ : Mm} {p0 : Int32} {p1 : Int32} {p2 : Int32} {p3 : Int32} {out : Int32 × Mm} (h : fX8_put p0 p1 p2 p3 σ = some out) : Met l yX8_put (.code yX8_put cX8_put 6 (some .int) :: wsL_law) rmX8_put (ms_Pc D cA a shM [.ref (a 0), .int p0, .int p1, .int p2, .int p3] σ) (ms_Qi D cA a shM out.1 out.2) 0 0 (ms_A a shM.length) := by
  refine Met.ofW (cc := cX8_put) (maxL := 6) (ret := (some .int)) (by decide) rfl ?_
  intro p e s m args below meth c s₁ B hml hv
  obtain ⟨rfl, hK, hN, hP⟩ := hv
  have hl := lv_entry ([.ref (a 0), .int p0, .int p1, .int p2, .int p3]) (n := 6) (Nat.le_of_ble_eq_true rfl)
  rw [lg_entry_eq]
  generalize (lg_sl ([.ref (a 0), .int p0, .int p1, .int p2, .int p3]) ++ List.replicate (6 - (lg_sl ([.ref (a 0), .int p0, .int p1, .int p2, .int p3])).length) Slot.unset).toArray = ls at hl ⊢
  exact wX8_put ⟨B.exec, B.bytes, hml, findClass_of_methodNamed B.named, fun w hw => atoms_spec (ws := .code yX8_put cX8_put 6 (some .int) :: wsL_law) B.pre w (List.mem_cons_of_mem _ hw), B.returns, B.notSynchronized, hK, hDis, hN⟩ out p0 p1 p2 p3 σ s.heap [] ls ⟨hP, va_S.rf⟩ hl h
theorem kX8_put (Cx : ms_C p s m args meth c D cA a shM cc nL own ret) {σ : Mm} {H : Heap} {locs : List Loc} (hI : ms_I D cA a shM s σ H locs) {p0 : Int32} {p1 : Int32} {p2 : Int32} {p3 : Int32} {out : Int32 × Mm} (h : fX8_put p0 p1 p2 p3 σ = some out) (hl : Cond.methodLink own idx yX8_put ∈ wsL_law) (hf : 2 + 1 ≤ R.frames) (hlo : 8 + (6 + 11) + 45 ≤ R.locals) (hsz : ls.size = nL) (hW : (rest.map fun v => v.category).sum ≤ 8) (hd : decode cc pc = .ok (.invokevirtual idx, 3)) (kk : ∀ (H1 : Heap) (locs1 : List Loc), ms_I D cA a shM s out.2 H1 locs1 → W p l e R s m args below meth c H1 locs1 0 0 Q (F0 m (pc + 3) ls (.int out.1 :: rest))) : W p l e R s m args below meth c H locs 0 0 Q (F0 m pc ls (.int p3 :: .int p2 :: .int p1 :: .int p0 :: .ref (a 0) :: rest)) :=
  ms_ci hI (ms_runV (av := [.int p0, .int p1, .int p2, .int p3]) Cx hI 0 shM_0 (ci := 8) rfl rfl yvX8_put (metX8_put l Cx.2.2.2.2.2.2.2.2.1  h) ⟨rfl, rfl⟩ hl ⟨hf, hlo⟩ rfl hsz rfl hW ⟨Nat.zero_le _, Nat.zero_le _⟩ hd) kk
/-! X8 get (III)I -/
theorem dX8_get_0 : decode cX8_get 0 = .ok (.iload_n 1, 1) := by decide +kernel
theorem dX8_get_1 : decode cX8_get 1 = .ok (.invokestatic 160, 3) := by decide +kernel
theorem dX8_get_4 : decode cX8_get 4 = .ok (.ifCond .eq 12, 3) := by decide +kernel
theorem dX8_get_7 : decode cX8_get 7 = .ok (.iload_n 2, 1) := by decide +kernel
theorem dX8_get_8 : decode cX8_get 8 = .ok (.iconst 0, 1) := by decide +kernel
theorem dX8_get_9 : decode cX8_get 9 = .ok (.iconst 2, 1) := by decide +kernel
theorem dX8_get_10 : decode cX8_get 10 = .ok (.invokestatic 95, 3) := by decide +kernel
theorem dX8_get_13 : decode cX8_get 13 = .ok (.ifCond .ne 7, 3) := by decide +kernel
theorem dX8_get_16 : decode cX8_get 16 = .ok (.ldc_w 258, 3) := by decide +kernel
theorem dX8_get_19 : decode cX8_get 19 = .ok (.ireturn, 1) := by decide +kernel
theorem dX8_get_20 : decode cX8_get 20 = .ok (.aload_n 0, 1) := by decide +kernel
theorem dX8_get_21 : decode cX8_get 21 = .ok (.iload_n 1, 1) := by decide +kernel
theorem dX8_get_22 : decode cX8_get 22 = .ok (.iload_n 2, 1) := by decide +kernel
theorem dX8_get_23 : decode cX8_get 23 = .ok (.iload_n 3, 1) := by decide +kernel
theorem dX8_get_24 : decode cX8_get 24 = .ok (.invokevirtual 251, 3) := by decide +kernel
theorem dX8_get_27 : decode cX8_get 27 = .ok (.istore 4, 2) := by decide +kernel
theorem dX8_get_29 : decode cX8_get 29 = .ok (.iload 4, 2) := by decide +kernel
theorem dX8_get_31 : decode cX8_get 31 = .ok (.ifCond .le 13, 3) := by decide +kernel
theorem dX8_get_34 : decode cX8_get 34 = .ok (.aload_n 0, 1) := by decide +kernel
theorem dX8_get_35 : decode cX8_get 35 = .ok (.iload 4, 2) := by decide +kernel
theorem dX8_get_37 : decode cX8_get 37 = .ok (.putfield 248, 3) := by decide +kernel
theorem dX8_get_40 : decode cX8_get 40 = .ok (.ldc_w 258, 3) := by decide +kernel
theorem dX8_get_43 : decode cX8_get 43 = .ok (.ireturn, 1) := by decide +kernel
theorem dX8_get_44 : decode cX8_get 44 = .ok (.aload_n 0, 1) := by decide +kernel
theorem dX8_get_45 : decode cX8_get 45 = .ok (.getfield 89, 3) := by decide +kernel
theorem dX8_get_48 : decode cX8_get 48 = .ok (.bipush 48, 2) := by decide +kernel
theorem dX8_get_50 : decode cX8_get 50 = .ok (.iload_n 1, 1) := by decide +kernel
theorem dX8_get_51 : decode cX8_get 51 = .ok (.imul, 1) := by decide +kernel
theorem dX8_get_52 : decode cX8_get 52 = .ok (.iload_n 3, 1) := by decide +kernel
theorem dX8_get_53 : decode cX8_get 53 = .ok (.iadd, 1) := by decide +kernel
theorem dX8_get_54 : decode cX8_get 54 = .ok (.iaload, 1) := by decide +kernel
theorem dX8_get_55 : decode cX8_get 55 = .ok (.ireturn, 1) := by decide +kernel
abbrev rmX8_get : Room := { frames := 2, cells := 0, slots := 0, locals := 45 }
set_option maxHeartbeats 4000000 in
set_option maxRecDepth 100000 in
theorem wX8_get (Cx : ms_C p s m args meth c D cA a shM cX8_get 5 RX8 (some .int)) (out : Int32 × Mm) : ∀ (p0 : Int32) (p1 : Int32) (p2 : Int32) , ∀ (σ : Mm) (H : Heap) (locs : List Loc) (ls : Array Slot), ms_I D cA a shM s σ H locs → lv_has ls 5 [(0, .ref (a 0)), (1, .int p0), (2, .int p1), (3, .int p2)] → fX8_get p0 p1 p2 σ = some out → W p l e rmX8_get s m args below meth c H locs 0 0 (MQ below (ms_Qi D cA a shM out.1 out.2) args s 0 0 (ms_A a shM.length)) (F0 m 0 ls []) := by
  have hx := Cx.1
  have hb := Cx.2.1
  intro p0 p1 p2 σ H locs ls hI hl h
  unfold fX8_get at h
  refine lv_iload_n hx hb dX8_get_0 rfl (lv_at hl 1 rfl) ?_
  obtain ⟨r2, hc1, h⟩ := ms_bdE h
  refine kX8_isSheet Cx hI hc1 (Or.inl wd_17_19) (Nat.le_of_ble_eq_true rfl) (Nat.le_of_ble_eq_true rfl) hl.1 (Nat.le_of_ble_eq_true rfl) dX8_get_1 (fun H locs hI => ?_)
  refine lv_if_eq (tgt := 16) hx hb dX8_get_4 rfl (fun hc => ?_) (fun hc => ?_)
  · have h := ms_ifT hc h
    refine lv_ldcw hx hb Cx.2.2.2.1 (Cx.2.2.2.2.1 _ wd_39_4) dX8_get_16 ?_
    exact ms_riw Cx hI h dX8_get_19
  · have h := ms_ifF hc h
    refine lv_iload_n hx hb dX8_get_7 rfl (lv_at hl 2 rfl) ?_
    refine lv_iconst (v := 0) hx hb dX8_get_8 rfl ?_
    refine lv_iconst (v := 2) hx hb dX8_get_9 rfl ?_
    obtain ⟨r4, hc3, h⟩ := ms_bdE h
    refine kX8_in Cx hI hc3 (Or.inl wd_10_20) (Nat.le_of_ble_eq_true rfl) (Nat.le_of_ble_eq_true rfl) hl.1 (Nat.le_of_ble_eq_true rfl) dX8_get_10 (fun H locs hI => ?_)
    refine lv_if_ne (tgt := 20) hx hb dX8_get_13 rfl (fun hc => ?_) (fun hc => ?_)
    · have h := ms_ifF hc h
      refine lv_aload_n hx hb dX8_get_20 rfl (lv_at hl 0 rfl) ?_
      refine lv_iload_n hx hb dX8_get_21 rfl (lv_at hl 1 rfl) ?_
      refine lv_iload_n hx hb dX8_get_22 rfl (lv_at hl 2 rfl) ?_
      refine lv_iload_n hx hb dX8_get_23 rfl (lv_at hl 3 rfl) ?_
      obtain ⟨r6, hc5, h⟩ := ms_bdE h
      refine kX8_lacks Cx hI hc5 wd_38_11 (Nat.le_of_ble_eq_true rfl) (Nat.le_of_ble_eq_true rfl) hl.1 (Nat.le_of_ble_eq_true rfl) dX8_get_24 (fun H locs hI => ?_)
      refine lv_istore (lv' := [(4, .int r6), (0, .ref (a 0)), (1, .int p0), (2, .int p1), (3, .int p2)]) hx hb dX8_get_27 hl (by decide) rfl (fun ls hl => ?_)
      refine lv_iload hx hb dX8_get_29 (lv_at hl 0 rfl) ?_
      refine lv_if_le (tgt := 44) hx hb dX8_get_31 rfl (fun hc => ?_) (fun hc => ?_)
      · have h := ms_ifT hc h
        refine lv_aload_n hx hb dX8_get_44 rfl (lv_at hl 1 rfl) ?_
        refine gr_X8_31 Cx hI wd_7_16 dX8_get_45 ?_
        refine lv_bipush (v := 48) hx hb dX8_get_48 rfl ?_
        refine lv_iload_n hx hb dX8_get_50 rfl (lv_at hl 2 rfl) ?_
        refine lv_imul hx hb dX8_get_51 ?_
        refine lv_iload_n hx hb dX8_get_52 rfl (lv_at hl 4 rfl) ?_
        refine lv_iadd hx hb dX8_get_53 ?_
        obtain ⟨hg, h⟩ := ms_gE h
        refine ms_ld Cx hI 27 shM_27 hg dX8_get_54 ?_
        exact ms_riw Cx hI h dX8_get_55
      · have h := ms_ifF hc h
        refine lv_aload_n hx hb dX8_get_34 rfl (lv_at hl 1 rfl) ?_
        refine lv_iload hx hb dX8_get_35 (lv_at hl 0 rfl) ?_
        refine pi_X8_33 Cx hI wd_18_2 dX8_get_37 (fun H locs σ7 eσ7 hI => ?_)
        have h := ms_ltE eσ7 h
        refine lv_ldcw hx hb Cx.2.2.2.1 (Cx.2.2.2.2.1 _ wd_39_4) dX8_get_40 ?_
        exact ms_riw Cx hI h dX8_get_43
    · have h := ms_ifT hc h
      refine lv_ldcw hx hb Cx.2.2.2.1 (Cx.2.2.2.2.1 _ wd_39_4) dX8_get_16 ?_
      exact ms_riw Cx hI h dX8_get_19
theorem yvX8_get : ms_YV yX8_get RX8 cX8_get 5 (some .int) 3 := ⟨wd_39_1, wd_39_2, wd_1_5, wd_39_3, rfl, by decide +kernel, by decide +kernel, by decide +kernel⟩
set_option maxHeartbeats 4000000 in
theorem metX8_get (l : Launch) (hDis : ms_Dis a shM.length) {σ : Mm} {p0 : Int32} {p1 : Int32} {p2 : Int32} {out : Int32 × Mm} (h : fX8_get p0 p1 p2 σ = some out) : Met l yX8_get (.code yX8_get cX8_get 5 (some .int) :: wsL_law) rmX8_get (ms_Pc D cA a shM [.ref (a 0), .int p0, .int p1, .int p2] σ) (ms_Qi D cA a shM out.1 out.2) 0 0 (ms_A a shM.length) := by
  refine Met.ofW (cc := cX8_get) (maxL := 5) (ret := (some .int)) (by decide) rfl ?_
  intro p e s m args below meth c s₁ B hml hv
  obtain ⟨rfl, hK, hN, hP⟩ := hv
  have hl := lv_entry ([.ref (a 0), .int p0, .int p1, .int p2]) (n := 5) (Nat.le_of_ble_eq_true rfl)
  rw [lg_entry_eq]
  generalize (lg_sl ([.ref (a 0), .int p0, .int p1, .int p2]) ++ List.replicate (5 - (lg_sl ([.ref (a 0), .int p0, .int p1, .int p2])).length) Slot.unset).toArray = ls at hl ⊢
  exact wX8_get ⟨B.exec, B.bytes, hml, findClass_of_methodNamed B.named, fun w hw => atoms_spec (ws := .code yX8_get cX8_get 5 (some .int) :: wsL_law) B.pre w (List.mem_cons_of_mem _ hw), B.returns, B.notSynchronized, hK, hDis, hN⟩ out p0 p1 p2 σ s.heap [] ls ⟨hP, va_S.rf⟩ hl h
theorem kX8_get (Cx : ms_C p s m args meth c D cA a shM cc nL own ret) {σ : Mm} {H : Heap} {locs : List Loc} (hI : ms_I D cA a shM s σ H locs) {p0 : Int32} {p1 : Int32} {p2 : Int32} {out : Int32 × Mm} (h : fX8_get p0 p1 p2 σ = some out) (hl : Cond.methodLink own idx yX8_get ∈ wsL_law) (hf : 2 + 1 ≤ R.frames) (hlo : 8 + (5 + 11) + 45 ≤ R.locals) (hsz : ls.size = nL) (hW : (rest.map fun v => v.category).sum ≤ 8) (hd : decode cc pc = .ok (.invokevirtual idx, 3)) (kk : ∀ (H1 : Heap) (locs1 : List Loc), ms_I D cA a shM s out.2 H1 locs1 → W p l e R s m args below meth c H1 locs1 0 0 Q (F0 m (pc + 3) ls (.int out.1 :: rest))) : W p l e R s m args below meth c H locs 0 0 Q (F0 m pc ls (.int p2 :: .int p1 :: .int p0 :: .ref (a 0) :: rest)) :=
  ms_ci hI (ms_runV (av := [.int p0, .int p1, .int p2]) Cx hI 0 shM_0 (ci := 8) rfl rfl yvX8_get (metX8_get l Cx.2.2.2.2.2.2.2.2.1  h) ⟨rfl, rfl⟩ hl ⟨hf, hlo⟩ rfl hsz rfl hW ⟨Nat.zero_le _, Nat.zero_le _⟩ hd) kk
/-! X8 copy (IIIII)I -/
theorem dX8_copy_0 : decode cX8_copy 0 = .ok (.iload_n 1, 1) := by decide +kernel
theorem dX8_copy_1 : decode cX8_copy 1 = .ok (.invokestatic 160, 3) := by decide +kernel
theorem dX8_copy_4 : decode cX8_copy 4 = .ok (.ifCond .eq 10, 3) := by decide +kernel
theorem dX8_copy_7 : decode cX8_copy 7 = .ok (.iload_n 3, 1) := by decide +kernel
theorem dX8_copy_8 : decode cX8_copy 8 = .ok (.invokestatic 160, 3) := by decide +kernel
theorem dX8_copy_11 : decode cX8_copy 11 = .ok (.ifCond .ne 6, 3) := by decide +kernel
theorem dX8_copy_14 : decode cX8_copy 14 = .ok (.bipush (-2), 2) := by decide +kernel
theorem dX8_copy_16 : decode cX8_copy 16 = .ok (.ireturn, 1) := by decide +kernel
theorem dX8_copy_17 : decode cX8_copy 17 = .ok (.aload_n 0, 1) := by decide +kernel
theorem dX8_copy_18 : decode cX8_copy 18 = .ok (.getfield 79, 3) := by decide +kernel
theorem dX8_copy_21 : decode cX8_copy 21 = .ok (.iload_n 1, 1) := by decide +kernel
theorem dX8_copy_22 : decode cX8_copy 22 = .ok (.baload, 1) := by decide +kernel
theorem dX8_copy_23 : decode cX8_copy 23 = .ok (.ifCond .eq 12, 3) := by decide +kernel
theorem dX8_copy_26 : decode cX8_copy 26 = .ok (.aload_n 0, 1) := by decide +kernel
theorem dX8_copy_27 : decode cX8_copy 27 = .ok (.getfield 79, 3) := by decide +kernel
theorem dX8_copy_30 : decode cX8_copy 30 = .ok (.iload_n 3, 1) := by decide +kernel
theorem dX8_copy_31 : decode cX8_copy 31 = .ok (.baload, 1) := by decide +kernel
theorem dX8_copy_32 : decode cX8_copy 32 = .ok (.ifCond .ne 9, 3) := by decide +kernel
theorem dX8_copy_35 : decode cX8_copy 35 = .ok (.aload_n 0, 1) := by decide +kernel
theorem dX8_copy_36 : decode cX8_copy 36 = .ok (.iconst 1, 1) := by decide +kernel
theorem dX8_copy_37 : decode cX8_copy 37 = .ok (.invokevirtual 163, 3) := by decide +kernel
theorem dX8_copy_40 : decode cX8_copy 40 = .ok (.ireturn, 1) := by decide +kernel
theorem dX8_copy_41 : decode cX8_copy 41 = .ok (.aload_n 0, 1) := by decide +kernel
theorem dX8_copy_42 : decode cX8_copy 42 = .ok (.getfield 83, 3) := by decide +kernel
theorem dX8_copy_45 : decode cX8_copy 45 = .ok (.iload_n 1, 1) := by decide +kernel
theorem dX8_copy_46 : decode cX8_copy 46 = .ok (.iaload, 1) := by decide +kernel
theorem dX8_copy_47 : decode cX8_copy 47 = .ok (.aload_n 0, 1) := by decide +kernel
theorem dX8_copy_48 : decode cX8_copy 48 = .ok (.getfield 83, 3) := by decide +kernel
theorem dX8_copy_51 : decode cX8_copy 51 = .ok (.iload_n 3, 1) := by decide +kernel
theorem dX8_copy_52 : decode cX8_copy 52 = .ok (.iaload, 1) := by decide +kernel
theorem dX8_copy_53 : decode cX8_copy 53 = .ok (.if_icmp .eq 9, 3) := by decide +kernel
theorem dX8_copy_56 : decode cX8_copy 56 = .ok (.aload_n 0, 1) := by decide +kernel
theorem dX8_copy_57 : decode cX8_copy 57 = .ok (.iconst 4, 1) := by decide +kernel
theorem dX8_copy_58 : decode cX8_copy 58 = .ok (.invokevirtual 163, 3) := by decide +kernel
theorem dX8_copy_61 : decode cX8_copy 61 = .ok (.ireturn, 1) := by decide +kernel
theorem dX8_copy_62 : decode cX8_copy 62 = .ok (.iload_n 2, 1) := by decide +kernel
theorem dX8_copy_63 : decode cX8_copy 63 = .ok (.ifCond .lt 48, 3) := by decide +kernel
theorem dX8_copy_66 : decode cX8_copy 66 = .ok (.iload 4, 2) := by decide +kernel
theorem dX8_copy_68 : decode cX8_copy 68 = .ok (.ifCond .lt 43, 3) := by decide +kernel
theorem dX8_copy_71 : decode cX8_copy 71 = .ok (.iload 5, 2) := by decide +kernel
theorem dX8_copy_73 : decode cX8_copy 73 = .ok (.ifCond .lt 38, 3) := by decide +kernel
theorem dX8_copy_76 : decode cX8_copy 76 = .ok (.iload_n 2, 1) := by decide +kernel
theorem dX8_copy_77 : decode cX8_copy 77 = .ok (.i2l, 1) := by decide +kernel
theorem dX8_copy_78 : decode cX8_copy 78 = .ok (.iload 5, 2) := by decide +kernel
theorem dX8_copy_80 : decode cX8_copy 80 = .ok (.i2l, 1) := by decide +kernel
theorem dX8_copy_81 : decode cX8_copy 81 = .ok (.ladd, 1) := by decide +kernel
theorem dX8_copy_82 : decode cX8_copy 82 = .ok (.aload_n 0, 1) := by decide +kernel
theorem dX8_copy_83 : decode cX8_copy 83 = .ok (.getfield 86, 3) := by decide +kernel
theorem dX8_copy_86 : decode cX8_copy 86 = .ok (.iload_n 1, 1) := by decide +kernel
theorem dX8_copy_87 : decode cX8_copy 87 = .ok (.iaload, 1) := by decide +kernel
theorem dX8_copy_88 : decode cX8_copy 88 = .ok (.i2l, 1) := by decide +kernel
theorem dX8_copy_89 : decode cX8_copy 89 = .ok (.lcmp, 1) := by decide +kernel
theorem dX8_copy_90 : decode cX8_copy 90 = .ok (.ifCond .gt 21, 3) := by decide +kernel
theorem dX8_copy_93 : decode cX8_copy 93 = .ok (.iload 4, 2) := by decide +kernel
theorem dX8_copy_95 : decode cX8_copy 95 = .ok (.i2l, 1) := by decide +kernel
theorem dX8_copy_96 : decode cX8_copy 96 = .ok (.iload 5, 2) := by decide +kernel
theorem dX8_copy_98 : decode cX8_copy 98 = .ok (.i2l, 1) := by decide +kernel
theorem dX8_copy_99 : decode cX8_copy 99 = .ok (.ladd, 1) := by decide +kernel
theorem dX8_copy_100 : decode cX8_copy 100 = .ok (.aload_n 0, 1) := by decide +kernel
theorem dX8_copy_101 : decode cX8_copy 101 = .ok (.getfield 86, 3) := by decide +kernel
theorem dX8_copy_104 : decode cX8_copy 104 = .ok (.iload_n 3, 1) := by decide +kernel
theorem dX8_copy_105 : decode cX8_copy 105 = .ok (.iaload, 1) := by decide +kernel
theorem dX8_copy_106 : decode cX8_copy 106 = .ok (.i2l, 1) := by decide +kernel
theorem dX8_copy_107 : decode cX8_copy 107 = .ok (.lcmp, 1) := by decide +kernel
theorem dX8_copy_108 : decode cX8_copy 108 = .ok (.ifCond .le 9, 3) := by decide +kernel
theorem dX8_copy_111 : decode cX8_copy 111 = .ok (.aload_n 0, 1) := by decide +kernel
theorem dX8_copy_112 : decode cX8_copy 112 = .ok (.iconst 2, 1) := by decide +kernel
theorem dX8_copy_113 : decode cX8_copy 113 = .ok (.invokevirtual 163, 3) := by decide +kernel
theorem dX8_copy_116 : decode cX8_copy 116 = .ok (.ireturn, 1) := by decide +kernel
theorem dX8_copy_117 : decode cX8_copy 117 = .ok (.iconst 0, 1) := by decide +kernel
theorem dX8_copy_118 : decode cX8_copy 118 = .ok (.istore 6, 2) := by decide +kernel
theorem dX8_copy_120 : decode cX8_copy 120 = .ok (.iload 6, 2) := by decide +kernel
theorem dX8_copy_122 : decode cX8_copy 122 = .ok (.iload 5, 2) := by decide +kernel
theorem dX8_copy_124 : decode cX8_copy 124 = .ok (.if_icmp .ge 30, 3) := by decide +kernel
theorem dX8_copy_127 : decode cX8_copy 127 = .ok (.aload_n 0, 1) := by decide +kernel
theorem dX8_copy_128 : decode cX8_copy 128 = .ok (.getfield 92, 3) := by decide +kernel
theorem dX8_copy_131 : decode cX8_copy 131 = .ok (.iload 6, 2) := by decide +kernel
theorem dX8_copy_133 : decode cX8_copy 133 = .ok (.aload_n 0, 1) := by decide +kernel
theorem dX8_copy_134 : decode cX8_copy 134 = .ok (.getfield 89, 3) := by decide +kernel
theorem dX8_copy_137 : decode cX8_copy 137 = .ok (.bipush 48, 2) := by decide +kernel
theorem dX8_copy_139 : decode cX8_copy 139 = .ok (.iload_n 1, 1) := by decide +kernel
theorem dX8_copy_140 : decode cX8_copy 140 = .ok (.imul, 1) := by decide +kernel
theorem dX8_copy_141 : decode cX8_copy 141 = .ok (.iload_n 2, 1) := by decide +kernel
theorem dX8_copy_142 : decode cX8_copy 142 = .ok (.iadd, 1) := by decide +kernel
theorem dX8_copy_143 : decode cX8_copy 143 = .ok (.iload 6, 2) := by decide +kernel
theorem dX8_copy_145 : decode cX8_copy 145 = .ok (.iadd, 1) := by decide +kernel
theorem dX8_copy_146 : decode cX8_copy 146 = .ok (.iaload, 1) := by decide +kernel
theorem dX8_copy_147 : decode cX8_copy 147 = .ok (.iastore, 1) := by decide +kernel
theorem dX8_copy_148 : decode cX8_copy 148 = .ok (.iinc 6 1, 3) := by decide +kernel
theorem dX8_copy_151 : decode cX8_copy 151 = .ok (.goto (-31), 3) := by decide +kernel
theorem dX8_copy_154 : decode cX8_copy 154 = .ok (.iconst 0, 1) := by decide +kernel
theorem dX8_copy_155 : decode cX8_copy 155 = .ok (.istore 6, 2) := by decide +kernel
theorem dX8_copy_157 : decode cX8_copy 157 = .ok (.iload 6, 2) := by decide +kernel
theorem dX8_copy_159 : decode cX8_copy 159 = .ok (.iload 5, 2) := by decide +kernel
theorem dX8_copy_161 : decode cX8_copy 161 = .ok (.if_icmp .ge 31, 3) := by decide +kernel
theorem dX8_copy_164 : decode cX8_copy 164 = .ok (.aload_n 0, 1) := by decide +kernel
theorem dX8_copy_165 : decode cX8_copy 165 = .ok (.getfield 89, 3) := by decide +kernel
theorem dX8_copy_168 : decode cX8_copy 168 = .ok (.bipush 48, 2) := by decide +kernel
theorem dX8_copy_170 : decode cX8_copy 170 = .ok (.iload_n 3, 1) := by decide +kernel
theorem dX8_copy_171 : decode cX8_copy 171 = .ok (.imul, 1) := by decide +kernel
theorem dX8_copy_172 : decode cX8_copy 172 = .ok (.iload 4, 2) := by decide +kernel
theorem dX8_copy_174 : decode cX8_copy 174 = .ok (.iadd, 1) := by decide +kernel
theorem dX8_copy_175 : decode cX8_copy 175 = .ok (.iload 6, 2) := by decide +kernel
theorem dX8_copy_177 : decode cX8_copy 177 = .ok (.iadd, 1) := by decide +kernel
theorem dX8_copy_178 : decode cX8_copy 178 = .ok (.aload_n 0, 1) := by decide +kernel
theorem dX8_copy_179 : decode cX8_copy 179 = .ok (.getfield 92, 3) := by decide +kernel
theorem dX8_copy_182 : decode cX8_copy 182 = .ok (.iload 6, 2) := by decide +kernel
theorem dX8_copy_184 : decode cX8_copy 184 = .ok (.iaload, 1) := by decide +kernel
theorem dX8_copy_185 : decode cX8_copy 185 = .ok (.iastore, 1) := by decide +kernel
theorem dX8_copy_186 : decode cX8_copy 186 = .ok (.iinc 6 1, 3) := by decide +kernel
theorem dX8_copy_189 : decode cX8_copy 189 = .ok (.goto (-32), 3) := by decide +kernel
theorem dX8_copy_192 : decode cX8_copy 192 = .ok (.iconst 1, 1) := by decide +kernel
theorem dX8_copy_193 : decode cX8_copy 193 = .ok (.ireturn, 1) := by decide +kernel
abbrev rmX8_copy : Room := { frames := 2, cells := 0, slots := 0, locals := 42 }
set_option maxHeartbeats 4000000 in
set_option maxRecDepth 100000 in
theorem wX8_copy_35 (Cx : ms_C p s m args meth c D cA a shM cX8_copy 7 RX8 (some .int)) (out : Int32 × Mm) : ∀ (σ : Mm) (H : Heap) (locs : List Loc) (ls : Array Slot), ms_I D cA a shM s σ H locs → lv_has ls 7 [(0, .ref (a 0))] → fX8_copy_35 σ = some out → W p l e rmX8_copy s m args below meth c H locs 0 0 (MQ below (ms_Qi D cA a shM out.1 out.2) args s 0 0 (ms_A a shM.length)) (F0 m 35 ls []) := by
  have hx := Cx.1
  have hb := Cx.2.1
  intro σ H locs ls hI hl h
  unfold fX8_copy_35 at h
  refine lv_aload_n hx hb dX8_copy_35 rfl (lv_at hl 0 rfl) ?_
  refine lv_iconst (v := 1) hx hb dX8_copy_36 rfl ?_
  obtain ⟨⟨r2, σ3⟩, hc1, h⟩ := ms_bdE h
  refine kX8_meets Cx hI hc1 wd_17_22 (Nat.le_of_ble_eq_true rfl) (Nat.le_of_ble_eq_true rfl) hl.1 (Nat.le_of_ble_eq_true rfl) dX8_copy_37 (fun H locs hI => ?_)
  exact ms_riw Cx hI h dX8_copy_40
set_option maxHeartbeats 4000000 in
set_option maxRecDepth 100000 in
theorem wX8_copy_111 (Cx : ms_C p s m args meth c D cA a shM cX8_copy 7 RX8 (some .int)) (out : Int32 × Mm) : ∀ (σ : Mm) (H : Heap) (locs : List Loc) (ls : Array Slot), ms_I D cA a shM s σ H locs → lv_has ls 7 [(0, .ref (a 0))] → fX8_copy_111 σ = some out → W p l e rmX8_copy s m args below meth c H locs 0 0 (MQ below (ms_Qi D cA a shM out.1 out.2) args s 0 0 (ms_A a shM.length)) (F0 m 111 ls []) := by
  have hx := Cx.1
  have hb := Cx.2.1
  intro σ H locs ls hI hl h
  unfold fX8_copy_111 at h
  refine lv_aload_n hx hb dX8_copy_111 rfl (lv_at hl 0 rfl) ?_
  refine lv_iconst (v := 2) hx hb dX8_copy_112 rfl ?_
  obtain ⟨⟨r2, σ3⟩, hc1, h⟩ := ms_bdE h
  refine kX8_meets Cx hI hc1 wd_17_22 (Nat.le_of_ble_eq_true rfl) (Nat.le_of_ble_eq_true rfl) hl.1 (Nat.le_of_ble_eq_true rfl) dX8_copy_113 (fun H locs hI => ?_)
  exact ms_riw Cx hI h dX8_copy_116
set_option maxHeartbeats 4000000 in
set_option maxRecDepth 100000 in
theorem wX8_copy_157 (Cx : ms_C p s m args meth c D cA a shM cX8_copy 7 RX8 (some .int)) (out : Int32 × Mm) : ∀ (n : Nat), ∀ (y1 : Int32) (y2 : Int32) (y3 : Int32) (y4 : Int32) , ∀ (σ : Mm) (H : Heap) (locs : List Loc) (ls : Array Slot), ms_I D cA a shM s σ H locs → lv_has ls 7 [(0, .ref (a 0)), (3, .int y1), (4, .int y2), (5, .int y3), (6, .int y4)] → fX8_copy_157 n y1 y2 y3 y4 σ = some out → W p l e rmX8_copy s m args below meth c H locs 0 0 (MQ below (ms_Qi D cA a shM out.1 out.2) args s 0 0 (ms_A a shM.length)) (F0 m 157 ls []) := by
  have hx := Cx.1
  have hb := Cx.2.1
  intro n
  induction n with
  | zero =>
    intro y1 y2 y3 y4 σ H locs ls hI hl h
    exact nomatch (show none = some out from h)
  | succ n ih =>
    intro y1 y2 y3 y4 σ H locs ls hI hl h
    rw [fX8_copy_157] at h
    refine lv_iload hx hb dX8_copy_157 (lv_at hl 4 rfl) ?_
    refine lv_iload hx hb dX8_copy_159 (lv_at hl 3 rfl) ?_
    refine lv_icmp_ge (tgt := 192) hx hb dX8_copy_161 rfl (fun hc => ?_) (fun hc => ?_)
    · have h := ms_ifT hc h
      refine lv_iconst (v := 1) hx hb dX8_copy_192 rfl ?_
      exact ms_riw Cx hI h dX8_copy_193
    · have h := ms_ifF hc h
      refine lv_aload_n hx hb dX8_copy_164 rfl (lv_at hl 0 rfl) ?_
      refine gr_X8_31 Cx hI wd_7_16 dX8_copy_165 ?_
      refine lv_bipush (v := 48) hx hb dX8_copy_168 rfl ?_
      refine lv_iload_n hx hb dX8_copy_170 rfl (lv_at hl 1 rfl) ?_
      refine lv_imul hx hb dX8_copy_171 ?_
      refine lv_iload hx hb dX8_copy_172 (lv_at hl 2 rfl) ?_
      refine lv_iadd hx hb dX8_copy_174 ?_
      refine lv_iload hx hb dX8_copy_175 (lv_at hl 4 rfl) ?_
      refine lv_iadd hx hb dX8_copy_177 ?_
      refine lv_aload_n hx hb dX8_copy_178 rfl (lv_at hl 0 rfl) ?_
      refine gr_X8_32 Cx hI wd_7_17 dX8_copy_179 ?_
      refine lv_iload hx hb dX8_copy_182 (lv_at hl 4 rfl) ?_
      obtain ⟨hg, h⟩ := ms_gE h
      refine ms_ld Cx hI 28 shM_28 hg dX8_copy_184 ?_
      obtain ⟨hg, h⟩ := ms_gE h
      refine ms_sto Cx hI 27 shM_27 hg dX8_copy_185 (fun H locs σ1 eσ1 hI => ?_)
      have h := ms_ltE eσ1 h
      refine lv_iinc (v := y4 + 1) (lv' := [(6, .int (y4 + 1)), (0, .ref (a 0)), (3, .int y1), (4, .int y2), (5, .int y3)]) hx hb dX8_copy_186 hl (k := 4) rfl rfl (by decide) rfl (fun ls hl => ?_)
      refine lv_goto (tgt := 157) hx hb dX8_copy_189 rfl ?_
      exact ih y1 y2 y3 (y4 + 1) σ1 _ _ _ hI (lv_sub hl [1, 2, 3, 4, 0] rfl) h
set_option maxHeartbeats 4000000 in
set_option maxRecDepth 100000 in
theorem wX8_copy_120 (Cx : ms_C p s m args meth c D cA a shM cX8_copy 7 RX8 (some .int)) (out : Int32 × Mm) : ∀ (n : Nat), ∀ (y1 : Int32) (y2 : Int32) (y3 : Int32) (y4 : Int32) (y5 : Int32) (y6 : Int32) , ∀ (σ : Mm) (H : Heap) (locs : List Loc) (ls : Array Slot), ms_I D cA a shM s σ H locs → lv_has ls 7 [(0, .ref (a 0)), (1, .int y1), (2, .int y2), (3, .int y3), (4, .int y4), (5, .int y5), (6, .int y6)] → fX8_copy_120 n y1 y2 y3 y4 y5 y6 σ = some out → W p l e rmX8_copy s m args below meth c H locs 0 0 (MQ below (ms_Qi D cA a shM out.1 out.2) args s 0 0 (ms_A a shM.length)) (F0 m 120 ls []) := by
  have hx := Cx.1
  have hb := Cx.2.1
  intro n
  induction n with
  | zero =>
    intro y1 y2 y3 y4 y5 y6 σ H locs ls hI hl h
    exact nomatch (show none = some out from h)
  | succ n ih =>
    intro y1 y2 y3 y4 y5 y6 σ H locs ls hI hl h
    rw [fX8_copy_120] at h
    refine lv_iload hx hb dX8_copy_120 (lv_at hl 6 rfl) ?_
    refine lv_iload hx hb dX8_copy_122 (lv_at hl 5 rfl) ?_
    refine lv_icmp_ge (tgt := 154) hx hb dX8_copy_124 rfl (fun hc => ?_) (fun hc => ?_)
    · have h := ms_ifT hc h
      refine lv_iconst (v := 0) hx hb dX8_copy_154 rfl ?_
      refine lv_istore (lv' := [(6, .int 0), (0, .ref (a 0)), (1, .int y1), (2, .int y2), (3, .int y3), (4, .int y4), (5, .int y5)]) hx hb dX8_copy_155 hl (by decide) rfl (fun ls hl => ?_)
      exact wX8_copy_157 Cx out  ms_fu y3 y4 y5 0 σ _ _ _ hI (lv_sub hl [1, 4, 5, 6, 0] rfl) h
    · have h := ms_ifF hc h
      refine lv_aload_n hx hb dX8_copy_127 rfl (lv_at hl 0 rfl) ?_
      refine gr_X8_32 Cx hI wd_7_17 dX8_copy_128 ?_
      refine lv_iload hx hb dX8_copy_131 (lv_at hl 6 rfl) ?_
      refine lv_aload_n hx hb dX8_copy_133 rfl (lv_at hl 0 rfl) ?_
      refine gr_X8_31 Cx hI wd_7_16 dX8_copy_134 ?_
      refine lv_bipush (v := 48) hx hb dX8_copy_137 rfl ?_
      refine lv_iload_n hx hb dX8_copy_139 rfl (lv_at hl 1 rfl) ?_
      refine lv_imul hx hb dX8_copy_140 ?_
      refine lv_iload_n hx hb dX8_copy_141 rfl (lv_at hl 2 rfl) ?_
      refine lv_iadd hx hb dX8_copy_142 ?_
      refine lv_iload hx hb dX8_copy_143 (lv_at hl 6 rfl) ?_
      refine lv_iadd hx hb dX8_copy_145 ?_
      obtain ⟨hg, h⟩ := ms_gE h
      refine ms_ld Cx hI 27 shM_27 hg dX8_copy_146 ?_
      obtain ⟨hg, h⟩ := ms_gE h
      refine ms_sto Cx hI 28 shM_28 hg dX8_copy_147 (fun H locs σ1 eσ1 hI => ?_)
      have h := ms_ltE eσ1 h
      refine lv_iinc (v := y6 + 1) (lv' := [(6, .int (y6 + 1)), (0, .ref (a 0)), (1, .int y1), (2, .int y2), (3, .int y3), (4, .int y4), (5, .int y5)]) hx hb dX8_copy_148 hl (k := 6) rfl rfl (by decide) rfl (fun ls hl => ?_)
      refine lv_goto (tgt := 120) hx hb dX8_copy_151 rfl ?_
      exact ih y1 y2 y3 y4 y5 (y6 + 1) σ1 _ _ _ hI (lv_sub hl [1, 2, 3, 4, 5, 6, 0] rfl) h
set_option maxHeartbeats 4000000 in
set_option maxRecDepth 100000 in
theorem wX8_copy (Cx : ms_C p s m args meth c D cA a shM cX8_copy 7 RX8 (some .int)) (out : Int32 × Mm) : ∀ (p0 : Int32) (p1 : Int32) (p2 : Int32) (p3 : Int32) (p4 : Int32) , ∀ (σ : Mm) (H : Heap) (locs : List Loc) (ls : Array Slot), ms_I D cA a shM s σ H locs → lv_has ls 7 [(0, .ref (a 0)), (1, .int p0), (2, .int p1), (3, .int p2), (4, .int p3), (5, .int p4)] → fX8_copy p0 p1 p2 p3 p4 σ = some out → W p l e rmX8_copy s m args below meth c H locs 0 0 (MQ below (ms_Qi D cA a shM out.1 out.2) args s 0 0 (ms_A a shM.length)) (F0 m 0 ls []) := by
  have hx := Cx.1
  have hb := Cx.2.1
  intro p0 p1 p2 p3 p4 σ H locs ls hI hl h
  unfold fX8_copy at h
  refine lv_iload_n hx hb dX8_copy_0 rfl (lv_at hl 1 rfl) ?_
  obtain ⟨r2, hc1, h⟩ := ms_bdE h
  refine kX8_isSheet Cx hI hc1 (Or.inl wd_17_19) (Nat.le_of_ble_eq_true rfl) (Nat.le_of_ble_eq_true rfl) hl.1 (Nat.le_of_ble_eq_true rfl) dX8_copy_1 (fun H locs hI => ?_)
  refine lv_if_eq (tgt := 14) hx hb dX8_copy_4 rfl (fun hc => ?_) (fun hc => ?_)
  · have h := ms_ifT hc h
    refine lv_bipush (v := -2) hx hb dX8_copy_14 rfl ?_
    exact ms_riw Cx hI h dX8_copy_16
  · have h := ms_ifF hc h
    refine lv_iload_n hx hb dX8_copy_7 rfl (lv_at hl 3 rfl) ?_
    obtain ⟨r4, hc3, h⟩ := ms_bdE h
    refine kX8_isSheet Cx hI hc3 (Or.inl wd_17_19) (Nat.le_of_ble_eq_true rfl) (Nat.le_of_ble_eq_true rfl) hl.1 (Nat.le_of_ble_eq_true rfl) dX8_copy_8 (fun H locs hI => ?_)
    refine lv_if_ne (tgt := 17) hx hb dX8_copy_11 rfl (fun hc => ?_) (fun hc => ?_)
    · have h := ms_ifF hc h
      refine lv_aload_n hx hb dX8_copy_17 rfl (lv_at hl 0 rfl) ?_
      refine gr_X8_28 Cx hI wd_7_13 dX8_copy_18 ?_
      refine lv_iload_n hx hb dX8_copy_21 rfl (lv_at hl 1 rfl) ?_
      obtain ⟨hg, h⟩ := ms_gE h
      refine ms_ldz Cx hI 24 shM_24 hg dX8_copy_22 ?_
      refine lv_if_eq (tgt := 35) hx hb dX8_copy_23 rfl (fun hc => ?_) (fun hc => ?_)
      · have h := ms_ifT hc h
        exact wX8_copy_35 Cx out  σ _ _ _ hI (lv_sub hl [0] rfl) h
      · have h := ms_ifF hc h
        refine lv_aload_n hx hb dX8_copy_26 rfl (lv_at hl 0 rfl) ?_
        refine gr_X8_28 Cx hI wd_7_13 dX8_copy_27 ?_
        refine lv_iload_n hx hb dX8_copy_30 rfl (lv_at hl 3 rfl) ?_
        obtain ⟨hg, h⟩ := ms_gE h
        refine ms_ldz Cx hI 24 shM_24 hg dX8_copy_31 ?_
        refine lv_if_ne (tgt := 41) hx hb dX8_copy_32 rfl (fun hc => ?_) (fun hc => ?_)
        · have h := ms_ifF hc h
          refine lv_aload_n hx hb dX8_copy_41 rfl (lv_at hl 0 rfl) ?_
          refine gr_X8_29 Cx hI wd_7_14 dX8_copy_42 ?_
          refine lv_iload_n hx hb dX8_copy_45 rfl (lv_at hl 1 rfl) ?_
          obtain ⟨hg, h⟩ := ms_gE h
          refine ms_ld Cx hI 25 shM_25 hg dX8_copy_46 ?_
          refine lv_aload_n hx hb dX8_copy_47 rfl (lv_at hl 0 rfl) ?_
          refine gr_X8_29 Cx hI wd_7_14 dX8_copy_48 ?_
          refine lv_iload_n hx hb dX8_copy_51 rfl (lv_at hl 3 rfl) ?_
          obtain ⟨hg, h⟩ := ms_gE h
          refine ms_ld Cx hI 25 shM_25 hg dX8_copy_52 ?_
          refine lv_icmp_eq (tgt := 62) hx hb dX8_copy_53 rfl (fun hc => ?_) (fun hc => ?_)
          · have h := ms_ifT hc h
            refine lv_iload_n hx hb dX8_copy_62 rfl (lv_at hl 2 rfl) ?_
            refine lv_if_lt (tgt := 111) hx hb dX8_copy_63 rfl (fun hc => ?_) (fun hc => ?_)
            · have h := ms_ifT hc h
              exact wX8_copy_111 Cx out  σ _ _ _ hI (lv_sub hl [0] rfl) h
            · have h := ms_ifF hc h
              refine lv_iload hx hb dX8_copy_66 (lv_at hl 4 rfl) ?_
              refine lv_if_lt (tgt := 111) hx hb dX8_copy_68 rfl (fun hc => ?_) (fun hc => ?_)
              · have h := ms_ifT hc h
                exact wX8_copy_111 Cx out  σ _ _ _ hI (lv_sub hl [0] rfl) h
              · have h := ms_ifF hc h
                refine lv_iload hx hb dX8_copy_71 (lv_at hl 5 rfl) ?_
                refine lv_if_lt (tgt := 111) hx hb dX8_copy_73 rfl (fun hc => ?_) (fun hc => ?_)
                · have h := ms_ifT hc h
                  exact wX8_copy_111 Cx out  σ _ _ _ hI (lv_sub hl [0] rfl) h
                · have h := ms_ifF hc h
                  refine lv_iload_n hx hb dX8_copy_76 rfl (lv_at hl 2 rfl) ?_
                  refine lv_i2l hx hb dX8_copy_77 rfl ?_
                  refine lv_iload hx hb dX8_copy_78 (lv_at hl 5 rfl) ?_
                  refine lv_i2l hx hb dX8_copy_80 rfl ?_
                  refine lv_ladd hx hb dX8_copy_81 ?_
                  refine lv_aload_n hx hb dX8_copy_82 rfl (lv_at hl 0 rfl) ?_
                  refine gr_X8_30 Cx hI wd_7_15 dX8_copy_83 ?_
                  refine lv_iload_n hx hb dX8_copy_86 rfl (lv_at hl 1 rfl) ?_
                  obtain ⟨hg, h⟩ := ms_gE h
                  refine ms_ld Cx hI 26 shM_26 hg dX8_copy_87 ?_
                  refine lv_i2l hx hb dX8_copy_88 rfl ?_
                  refine W.lcmp hx hb dX8_copy_89 ?_
                  refine lv_if_gt (tgt := 111) hx hb dX8_copy_90 rfl (fun hc => ?_) (fun hc => ?_)
                  · have h := ms_ifT hc h
                    exact wX8_copy_111 Cx out  σ _ _ _ hI (lv_sub hl [0] rfl) h
                  · have h := ms_ifF hc h
                    refine lv_iload hx hb dX8_copy_93 (lv_at hl 4 rfl) ?_
                    refine lv_i2l hx hb dX8_copy_95 rfl ?_
                    refine lv_iload hx hb dX8_copy_96 (lv_at hl 5 rfl) ?_
                    refine lv_i2l hx hb dX8_copy_98 rfl ?_
                    refine lv_ladd hx hb dX8_copy_99 ?_
                    refine lv_aload_n hx hb dX8_copy_100 rfl (lv_at hl 0 rfl) ?_
                    refine gr_X8_30 Cx hI wd_7_15 dX8_copy_101 ?_
                    refine lv_iload_n hx hb dX8_copy_104 rfl (lv_at hl 3 rfl) ?_
                    obtain ⟨hg, h⟩ := ms_gE h
                    refine ms_ld Cx hI 26 shM_26 hg dX8_copy_105 ?_
                    refine lv_i2l hx hb dX8_copy_106 rfl ?_
                    refine W.lcmp hx hb dX8_copy_107 ?_
                    refine lv_if_le (tgt := 117) hx hb dX8_copy_108 rfl (fun hc => ?_) (fun hc => ?_)
                    · have h := ms_ifT hc h
                      refine lv_iconst (v := 0) hx hb dX8_copy_117 rfl ?_
                      refine lv_istore (lv' := [(6, .int 0), (0, .ref (a 0)), (1, .int p0), (2, .int p1), (3, .int p2), (4, .int p3), (5, .int p4)]) hx hb dX8_copy_118 hl (by decide) rfl (fun ls hl => ?_)
                      exact wX8_copy_120 Cx out  ms_fu p0 p1 p2 p3 p4 0 σ _ _ _ hI (lv_sub hl [1, 2, 3, 4, 5, 6, 0] rfl) h
                    · have h := ms_ifF hc h
                      exact wX8_copy_111 Cx out  σ _ _ _ hI (lv_sub hl [0] rfl) h
          · have h := ms_ifF hc h
            refine lv_aload_n hx hb dX8_copy_56 rfl (lv_at hl 0 rfl) ?_
            refine lv_iconst (v := 4) hx hb dX8_copy_57 rfl ?_
            obtain ⟨⟨r6, σ7⟩, hc5, h⟩ := ms_bdE h
            refine kX8_meets Cx hI hc5 wd_17_22 (Nat.le_of_ble_eq_true rfl) (Nat.le_of_ble_eq_true rfl) hl.1 (Nat.le_of_ble_eq_true rfl) dX8_copy_58 (fun H locs hI => ?_)
            exact ms_riw Cx hI h dX8_copy_61
        · have h := ms_ifT hc h
          exact wX8_copy_35 Cx out  σ _ _ _ hI (lv_sub hl [0] rfl) h
    · have h := ms_ifT hc h
      refine lv_bipush (v := -2) hx hb dX8_copy_14 rfl ?_
      exact ms_riw Cx hI h dX8_copy_16
theorem yvX8_copy : ms_YV yX8_copy RX8 cX8_copy 7 (some .int) 5 := ⟨wd_39_18, wd_39_19, wd_1_5, wd_39_20, rfl, by decide +kernel, by decide +kernel, by decide +kernel⟩
set_option maxHeartbeats 4000000 in
theorem metX8_copy (l : Launch) (hDis : ms_Dis a shM.length) {σ : Mm} {p0 : Int32} {p1 : Int32} {p2 : Int32} {p3 : Int32} {p4 : Int32} {out : Int32 × Mm} (h : fX8_copy p0 p1 p2 p3 p4 σ = some out) : Met l yX8_copy (.code yX8_copy cX8_copy 7 (some .int) :: wsL_law) rmX8_copy (ms_Pc D cA a shM [.ref (a 0), .int p0, .int p1, .int p2, .int p3, .int p4] σ) (ms_Qi D cA a shM out.1 out.2) 0 0 (ms_A a shM.length) := by
  refine Met.ofW (cc := cX8_copy) (maxL := 7) (ret := (some .int)) (by decide) rfl ?_
  intro p e s m args below meth c s₁ B hml hv
  obtain ⟨rfl, hK, hN, hP⟩ := hv
  have hl := lv_entry ([.ref (a 0), .int p0, .int p1, .int p2, .int p3, .int p4]) (n := 7) (Nat.le_of_ble_eq_true rfl)
  rw [lg_entry_eq]
  generalize (lg_sl ([.ref (a 0), .int p0, .int p1, .int p2, .int p3, .int p4]) ++ List.replicate (7 - (lg_sl ([.ref (a 0), .int p0, .int p1, .int p2, .int p3, .int p4])).length) Slot.unset).toArray = ls at hl ⊢
  exact wX8_copy ⟨B.exec, B.bytes, hml, findClass_of_methodNamed B.named, fun w hw => atoms_spec (ws := .code yX8_copy cX8_copy 7 (some .int) :: wsL_law) B.pre w (List.mem_cons_of_mem _ hw), B.returns, B.notSynchronized, hK, hDis, hN⟩ out p0 p1 p2 p3 p4 σ s.heap [] ls ⟨hP, va_S.rf⟩ hl h
theorem kX8_copy (Cx : ms_C p s m args meth c D cA a shM cc nL own ret) {σ : Mm} {H : Heap} {locs : List Loc} (hI : ms_I D cA a shM s σ H locs) {p0 : Int32} {p1 : Int32} {p2 : Int32} {p3 : Int32} {p4 : Int32} {out : Int32 × Mm} (h : fX8_copy p0 p1 p2 p3 p4 σ = some out) (hl : Cond.methodLink own idx yX8_copy ∈ wsL_law) (hf : 2 + 1 ≤ R.frames) (hlo : 8 + (7 + 11) + 42 ≤ R.locals) (hsz : ls.size = nL) (hW : (rest.map fun v => v.category).sum ≤ 8) (hd : decode cc pc = .ok (.invokevirtual idx, 3)) (kk : ∀ (H1 : Heap) (locs1 : List Loc), ms_I D cA a shM s out.2 H1 locs1 → W p l e R s m args below meth c H1 locs1 0 0 Q (F0 m (pc + 3) ls (.int out.1 :: rest))) : W p l e R s m args below meth c H locs 0 0 Q (F0 m pc ls (.int p4 :: .int p3 :: .int p2 :: .int p1 :: .int p0 :: .ref (a 0) :: rest)) :=
  ms_ci hI (ms_runV (av := [.int p0, .int p1, .int p2, .int p3, .int p4]) Cx hI 0 shM_0 (ci := 8) rfl rfl yvX8_copy (metX8_copy l Cx.2.2.2.2.2.2.2.2.1  h) ⟨rfl, rfl⟩ hl ⟨hf, hlo⟩ rfl hsz rfl hW ⟨Nat.zero_le _, Nat.zero_le _⟩ hd) kk
end WK
