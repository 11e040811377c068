/-! ===== the nested constructors ===== -/
theorem dX0_init_0 : decode cX0_init 0 = .ok (.aload_n 0, 1) := by decide +kernel
theorem dX0_init_1 : decode cX0_init 1 = .ok (.invokespecial 3, 3) := by decide +kernel
theorem dX0_init_4 : decode cX0_init 4 = .ok (.aload_n 0, 1) := by decide +kernel
theorem dX0_init_5 : decode cX0_init 5 = .ok (.sipush 240, 3) := by decide +kernel
theorem dX0_init_8 : decode cX0_init 8 = .ok (.newarray .int, 2) := by decide +kernel
theorem dX0_init_10 : decode cX0_init 10 = .ok (.putfield 9, 3) := by decide +kernel
theorem dX0_init_13 : decode cX0_init 13 = .ok (.aload_n 0, 1) := by decide +kernel
theorem dX0_init_14 : decode cX0_init 14 = .ok (.sipush 240, 3) := by decide +kernel
theorem dX0_init_17 : decode cX0_init 17 = .ok (.newarray .int, 2) := by decide +kernel
theorem dX0_init_19 : decode cX0_init 19 = .ok (.putfield 15, 3) := by decide +kernel
theorem dX0_init_22 : decode cX0_init 22 = .ok (.aload_n 0, 1) := by decide +kernel
theorem dX0_init_23 : decode cX0_init 23 = .ok (.sipush 240, 3) := by decide +kernel
theorem dX0_init_26 : decode cX0_init 26 = .ok (.newarray .int, 2) := by decide +kernel
theorem dX0_init_28 : decode cX0_init 28 = .ok (.putfield 18, 3) := by decide +kernel
theorem dX0_init_31 : decode cX0_init 31 = .ok (.aload_n 0, 1) := by decide +kernel
theorem dX0_init_32 : decode cX0_init 32 = .ok (.sipush 240, 3) := by decide +kernel
theorem dX0_init_35 : decode cX0_init 35 = .ok (.newarray .int, 2) := by decide +kernel
theorem dX0_init_37 : decode cX0_init 37 = .ok (.putfield 21, 3) := by decide +kernel
theorem dX0_init_40 : decode cX0_init 40 = .ok (.aload_n 0, 1) := by decide +kernel
theorem dX0_init_41 : decode cX0_init 41 = .ok (.sipush 240, 3) := by decide +kernel
theorem dX0_init_44 : decode cX0_init 44 = .ok (.newarray .int, 2) := by decide +kernel
theorem dX0_init_46 : decode cX0_init 46 = .ok (.putfield 24, 3) := by decide +kernel
theorem dX0_init_49 : decode cX0_init 49 = .ok (.aload_n 0, 1) := by decide +kernel
theorem dX0_init_50 : decode cX0_init 50 = .ok (.iconst 0, 1) := by decide +kernel
theorem dX0_init_51 : decode cX0_init 51 = .ok (.putfield 27, 3) := by decide +kernel
theorem dX0_init_54 : decode cX0_init 54 = .ok (.return_, 1) := by decide +kernel
abbrev rmiX0 : Room := { frames := 1, cells := 5, slots := 1200, locals := 12 }
def wfX0 (cA : Nat → ClassId) (h0  : Nat) (u : Nat → Nat) : va_W := [(h0, .inr (0, [.ref (u 1), .ref (u 2), .ref (u 3), .ref (u 4), .ref (u 5), .int 0])), ((u 1), .inl (cA 0, 240, .inl (fun _ => 0))), ((u 2), .inl (cA 0, 240, .inl (fun _ => 0))), ((u 3), .inl (cA 0, 240, .inl (fun _ => 0))), ((u 4), .inl (cA 0, 240, .inl (fun _ => 0))), ((u 5), .inl (cA 0, 240, .inl (fun _ => 0)))]
theorem ihX0 : yX0_init.cls ≠ "java/lang/invoke/MethodHandle" ∧ yX0_init.cls ≠ "java/lang/invoke/VarHandle" ∧ (parseMethodDescriptor yX0_init.desc).map (fun d => d.parameters.length) = some 0 := ⟨by decide +kernel, by decide +kernel, by decide +kernel⟩
theorem dfX0 : ∀ j, j < 6 → defaultValue (tyX0 j) = vp_V [.null, .null, .null, .null, .null, .int 0] j := by decide +kernel
set_option maxHeartbeats 4000000 in
set_option maxRecDepth 100000 in
theorem iniX0 (l : Launch) (D : va_G) (cA : Nat → ClassId) (h0  sz : Nat) : Met l yX0_init (.code yX0_init cX0_init 1 none :: wsL_law) rmiX0 (in_Pc D cA [.ref h0] [(h0, .inr (0, [.null, .null, .null, .null, .null, .int 0]))] sz (fun _ => True)) (in_Q D (va_A [(h0, .inr (0, [.null, .null, .null, .null, .null, .int 0]))] sz) h0 (wfX0 cA h0)) 5 1200 (va_A [(h0, .inr (0, [.null, .null, .null, .null, .null, .int 0]))] sz) := by
  refine Met.ofW (cc := cX0_init) (maxL := 1) (ret := none) (by decide) rfl ?_
  intro p e s m args below meth c s₁ B hml hv
  obtain ⟨rfl, hsz, hK, hN, hP, hD0, -⟩ := hv
  have Cx : in_C p s m #[.ref h0] meth c D cA cX0_init 1 RX0 := ⟨B.exec, B.bytes, hml, findClass_of_methodNamed B.named, fun w hw => atoms_spec (ws := .code yX0_init cX0_init 1 none :: wsL_law) B.pre w (List.mem_cons_of_mem _ hw), B.returns, B.notSynchronized, hK, hN, (name_of_methodNamed B.named B.method).1⟩
  have hx := Cx.1
  have hb := Cx.2.1
  subst hsz
  have hD := hD0.self (sz := s.heap.size)
  generalize hAe : va_A [(h0, .inr (0, [.null, .null, .null, .null, .null, .int 0]))] s.heap.size = A at hD ⊢
  have hA : ∀ q : Nat, s.heap.size ≤ q → A q := fun q h => by rw [← hAe]; exact Or.inr h
  have hl := lv_entry ([.ref h0]) (n := 1) (Nat.le_of_ble_eq_true rfl)
  rw [lg_entry_eq]
  generalize (lg_sl ([.ref h0]) ++ List.replicate (1 - (lg_sl ([.ref h0])).length) Slot.unset).toArray = ls at hl ⊢
  have hl : lv_has ls 1 [(0, .ref h0)] := hl
  have hI : in_I D A s [(h0, .inr (0, [.null, .null, .null, .null, .null, .int 0]))] s.heap [] := ⟨hP, hD, va_S.rf, hA⟩
  refine lv_aload_n hx hb dX0_init_0 rfl (lv_at hl 0 rfl) ?_
  refine in_obj Cx wd_4_20 hl.1 dX0_init_1 (Nat.le_of_ble_eq_true rfl) (Nat.le_of_ble_eq_true rfl) ?_
  refine lv_aload_n hx hb dX0_init_4 rfl (lv_at hl 0 rfl) ?_
  refine lv_sipush (v := 240) hx hb dX0_init_5 rfl ?_
  refine in_newI Cx hI 240 (by decide) (by decide) (by decide) (Nat.le_of_ble_eq_true rfl) (Nat.le_of_ble_eq_true rfl) dX0_init_8 (fun q1 H hI => ?_)
  have hI : in_I D A s [(h0, .inr (0, [.null, .null, .null, .null, .null, .int 0])), (q1, .inl (cA 0, 240, .inl (fun _ => 0)))] _ _ := hI
  refine W.widen (k := 1) (n := 240) (Nat.le_of_ble_eq_true rfl) (Nat.le_of_ble_eq_true rfl) ?_
  refine in_putF Cx hI 0 0 rfl rfl inlX0 tyX0 tyX0_ok nmX0 (by decide) rfl rfl rfl rfl (Nat.le_of_ble_eq_true rfl) wd_4_21 dX0_init_10 (fun H locs hI => ?_)
  have hI : in_I D A s [(h0, .inr (0, [.ref q1, .null, .null, .null, .null, .int 0])), (q1, .inl (cA 0, 240, .inl (fun _ => 0)))] _ _ := hI
  refine lv_aload_n hx hb dX0_init_13 rfl (lv_at hl 0 rfl) ?_
  refine lv_sipush (v := 240) hx hb dX0_init_14 rfl ?_
  refine in_newI Cx hI 240 (by decide) (by decide) (by decide) (Nat.le_of_ble_eq_true rfl) (Nat.le_of_ble_eq_true rfl) dX0_init_17 (fun q2 H hI => ?_)
  have hI : in_I D A s [(h0, .inr (0, [.ref q1, .null, .null, .null, .null, .int 0])), (q1, .inl (cA 0, 240, .inl (fun _ => 0))), (q2, .inl (cA 0, 240, .inl (fun _ => 0)))] _ _ := hI
  refine W.widen (k := 2) (n := 480) (Nat.le_of_ble_eq_true rfl) (Nat.le_of_ble_eq_true rfl) ?_
  refine in_putF Cx hI 0 1 rfl rfl inlX0 tyX0 tyX0_ok nmX0 (by decide) rfl rfl rfl rfl (Nat.le_of_ble_eq_true rfl) wd_4_22 dX0_init_19 (fun H locs hI => ?_)
  have hI : in_I D A s [(h0, .inr (0, [.ref q1, .ref q2, .null, .null, .null, .int 0])), (q1, .inl (cA 0, 240, .inl (fun _ => 0))), (q2, .inl (cA 0, 240, .inl (fun _ => 0)))] _ _ := hI
  refine lv_aload_n hx hb dX0_init_22 rfl (lv_at hl 0 rfl) ?_
  refine lv_sipush (v := 240) hx hb dX0_init_23 rfl ?_
  refine in_newI Cx hI 240 (by decide) (by decide) (by decide) (Nat.le_of_ble_eq_true rfl) (Nat.le_of_ble_eq_true rfl) dX0_init_26 (fun q3 H hI => ?_)
  have hI : in_I D A s [(h0, .inr (0, [.ref q1, .ref q2, .null, .null, .null, .int 0])), (q1, .inl (cA 0, 240, .inl (fun _ => 0))), (q2, .inl (cA 0, 240, .inl (fun _ => 0))), (q3, .inl (cA 0, 240, .inl (fun _ => 0)))] _ _ := hI
  refine W.widen (k := 3) (n := 720) (Nat.le_of_ble_eq_true rfl) (Nat.le_of_ble_eq_true rfl) ?_
  refine in_putF Cx hI 0 2 rfl rfl inlX0 tyX0 tyX0_ok nmX0 (by decide) rfl rfl rfl rfl (Nat.le_of_ble_eq_true rfl) wd_4_23 dX0_init_28 (fun H locs hI => ?_)
  have hI : in_I D A s [(h0, .inr (0, [.ref q1, .ref q2, .ref q3, .null, .null, .int 0])), (q1, .inl (cA 0, 240, .inl (fun _ => 0))), (q2, .inl (cA 0, 240, .inl (fun _ => 0))), (q3, .inl (cA 0, 240, .inl (fun _ => 0)))] _ _ := hI
  refine lv_aload_n hx hb dX0_init_31 rfl (lv_at hl 0 rfl) ?_
  refine lv_sipush (v := 240) hx hb dX0_init_32 rfl ?_
  refine in_newI Cx hI 240 (by decide) (by decide) (by decide) (Nat.le_of_ble_eq_true rfl) (Nat.le_of_ble_eq_true rfl) dX0_init_35 (fun q4 H hI => ?_)
  have hI : in_I D A s [(h0, .inr (0, [.ref q1, .ref q2, .ref q3, .null, .null, .int 0])), (q1, .inl (cA 0, 240, .inl (fun _ => 0))), (q2, .inl (cA 0, 240, .inl (fun _ => 0))), (q3, .inl (cA 0, 240, .inl (fun _ => 0))), (q4, .inl (cA 0, 240, .inl (fun _ => 0)))] _ _ := hI
  refine W.widen (k := 4) (n := 960) (Nat.le_of_ble_eq_true rfl) (Nat.le_of_ble_eq_true rfl) ?_
  refine in_putF Cx hI 0 3 rfl rfl inlX0 tyX0 tyX0_ok nmX0 (by decide) rfl rfl rfl rfl (Nat.le_of_ble_eq_true rfl) wd_5_0 dX0_init_37 (fun H locs hI => ?_)
  have hI : in_I D A s [(h0, .inr (0, [.ref q1, .ref q2, .ref q3, .ref q4, .null, .int 0])), (q1, .inl (cA 0, 240, .inl (fun _ => 0))), (q2, .inl (cA 0, 240, .inl (fun _ => 0))), (q3, .inl (cA 0, 240, .inl (fun _ => 0))), (q4, .inl (cA 0, 240, .inl (fun _ => 0)))] _ _ := hI
  refine lv_aload_n hx hb dX0_init_40 rfl (lv_at hl 0 rfl) ?_
  refine lv_sipush (v := 240) hx hb dX0_init_41 rfl ?_
  refine in_newI Cx hI 240 (by decide) (by decide) (by decide) (Nat.le_of_ble_eq_true rfl) (Nat.le_of_ble_eq_true rfl) dX0_init_44 (fun q5 H hI => ?_)
  have hI : in_I D A s [(h0, .inr (0, [.ref q1, .ref q2, .ref q3, .ref q4, .null, .int 0])), (q1, .inl (cA 0, 240, .inl (fun _ => 0))), (q2, .inl (cA 0, 240, .inl (fun _ => 0))), (q3, .inl (cA 0, 240, .inl (fun _ => 0))), (q4, .inl (cA 0, 240, .inl (fun _ => 0))), (q5, .inl (cA 0, 240, .inl (fun _ => 0)))] _ _ := hI
  refine W.widen (k := 5) (n := 1200) (Nat.le_of_ble_eq_true rfl) (Nat.le_of_ble_eq_true rfl) ?_
  refine in_putF Cx hI 0 4 rfl rfl inlX0 tyX0 tyX0_ok nmX0 (by decide) rfl rfl rfl rfl (Nat.le_of_ble_eq_true rfl) wd_5_1 dX0_init_46 (fun H locs hI => ?_)
  have hI : in_I D A s [(h0, .inr (0, [.ref q1, .ref q2, .ref q3, .ref q4, .ref q5, .int 0])), (q1, .inl (cA 0, 240, .inl (fun _ => 0))), (q2, .inl (cA 0, 240, .inl (fun _ => 0))), (q3, .inl (cA 0, 240, .inl (fun _ => 0))), (q4, .inl (cA 0, 240, .inl (fun _ => 0))), (q5, .inl (cA 0, 240, .inl (fun _ => 0)))] _ _ := hI
  refine lv_aload_n hx hb dX0_init_49 rfl (lv_at hl 0 rfl) ?_
  refine lv_iconst (v := 0) hx hb dX0_init_50 rfl ?_
  refine in_put Cx hI 0 5 rfl rfl inlX0 tyX0 tyX0_ok nmX0 (by decide) rfl rfl rfl (Nat.le_of_ble_eq_true rfl) wd_5_2 dX0_init_51 (fun H locs hI => ?_)
  have hI : in_I D A s [(h0, .inr (0, [.ref q1, .ref q2, .ref q3, .ref q4, .ref q5, .int 0])), (q1, .inl (cA 0, 240, .inl (fun _ => 0))), (q2, .inl (cA 0, 240, .inl (fun _ => 0))), (q3, .inl (cA 0, 240, .inl (fun _ => 0))), (q4, .inl (cA 0, 240, .inl (fun _ => 0))), (q5, .inl (cA 0, 240, .inl (fun _ => 0)))] _ _ := hI
  exact in_ret (wf := wfX0 cA h0) Cx hI (fun i => ([h0, q1, q2, q3, q4, q5] : List Nat).getD i 0) rfl [0, 1, 2, 3, 4, 5] rfl rfl (by decide) dX0_init_54
theorem dX1_init_0 : decode cX1_init 0 = .ok (.aload_n 0, 1) := by decide +kernel
theorem dX1_init_1 : decode cX1_init 1 = .ok (.invokespecial 3, 3) := by decide +kernel
theorem dX1_init_4 : decode cX1_init 4 = .ok (.aload_n 0, 1) := by decide +kernel
theorem dX1_init_5 : decode cX1_init 5 = .ok (.iconst 3, 1) := by decide +kernel
theorem dX1_init_6 : decode cX1_init 6 = .ok (.newarray .int, 2) := by decide +kernel
theorem dX1_init_8 : decode cX1_init 8 = .ok (.putfield 9, 3) := by decide +kernel
theorem dX1_init_11 : decode cX1_init 11 = .ok (.aload_n 0, 1) := by decide +kernel
theorem dX1_init_12 : decode cX1_init 12 = .ok (.iconst 3, 1) := by decide +kernel
theorem dX1_init_13 : decode cX1_init 13 = .ok (.newarray .int, 2) := by decide +kernel
theorem dX1_init_15 : decode cX1_init 15 = .ok (.putfield 15, 3) := by decide +kernel
theorem dX1_init_18 : decode cX1_init 18 = .ok (.aload_n 0, 1) := by decide +kernel
theorem dX1_init_19 : decode cX1_init 19 = .ok (.bipush 6, 2) := by decide +kernel
theorem dX1_init_21 : decode cX1_init 21 = .ok (.newarray .int, 2) := by decide +kernel
theorem dX1_init_23 : decode cX1_init 23 = .ok (.putfield 18, 3) := by decide +kernel
theorem dX1_init_26 : decode cX1_init 26 = .ok (.aload_n 0, 1) := by decide +kernel
theorem dX1_init_27 : decode cX1_init 27 = .ok (.iconst 0, 1) := by decide +kernel
theorem dX1_init_28 : decode cX1_init 28 = .ok (.putfield 21, 3) := by decide +kernel
theorem dX1_init_31 : decode cX1_init 31 = .ok (.aload_n 0, 1) := by decide +kernel
theorem dX1_init_32 : decode cX1_init 32 = .ok (.iconst 0, 1) := by decide +kernel
theorem dX1_init_33 : decode cX1_init 33 = .ok (.putfield 25, 3) := by decide +kernel
theorem dX1_init_36 : decode cX1_init 36 = .ok (.aload_n 0, 1) := by decide +kernel
theorem dX1_init_37 : decode cX1_init 37 = .ok (.iconst 0, 1) := by decide +kernel
theorem dX1_init_38 : decode cX1_init 38 = .ok (.putfield 28, 3) := by decide +kernel
theorem dX1_init_41 : decode cX1_init 41 = .ok (.aload_n 0, 1) := by decide +kernel
theorem dX1_init_42 : decode cX1_init 42 = .ok (.iconst 0, 1) := by decide +kernel
theorem dX1_init_43 : decode cX1_init 43 = .ok (.putfield 31, 3) := by decide +kernel
theorem dX1_init_46 : decode cX1_init 46 = .ok (.aload_n 0, 1) := by decide +kernel
theorem dX1_init_47 : decode cX1_init 47 = .ok (.iconst 0, 1) := by decide +kernel
theorem dX1_init_48 : decode cX1_init 48 = .ok (.putfield 34, 3) := by decide +kernel
theorem dX1_init_51 : decode cX1_init 51 = .ok (.return_, 1) := by decide +kernel
abbrev rmiX1 : Room := { frames := 1, cells := 3, slots := 12, locals := 12 }
def wfX1 (cA : Nat → ClassId) (h0  : Nat) (u : Nat → Nat) : va_W := [(h0, .inr (1, [.ref (u 1), .ref (u 2), .ref (u 3), .int 0, .int 0, .int 0, .int 0, .int 0])), ((u 1), .inl (cA 0, 3, .inl (fun _ => 0))), ((u 2), .inl (cA 0, 3, .inl (fun _ => 0))), ((u 3), .inl (cA 0, 6, .inl (fun _ => 0)))]
theorem ihX1 : yX1_init.cls ≠ "java/lang/invoke/MethodHandle" ∧ yX1_init.cls ≠ "java/lang/invoke/VarHandle" ∧ (parseMethodDescriptor yX1_init.desc).map (fun d => d.parameters.length) = some 0 := ⟨by decide +kernel, by decide +kernel, by decide +kernel⟩
theorem dfX1 : ∀ j, j < 8 → defaultValue (tyX1 j) = vp_V [.null, .null, .null, .int 0, .int 0, .int 0, .int 0, .int 0] j := by decide +kernel
set_option maxHeartbeats 4000000 in
set_option maxRecDepth 100000 in
theorem iniX1 (l : Launch) (D : va_G) (cA : Nat → ClassId) (h0  sz : Nat) : Met l yX1_init (.code yX1_init cX1_init 1 none :: wsL_law) rmiX1 (in_Pc D cA [.ref h0] [(h0, .inr (1, [.null, .null, .null, .int 0, .int 0, .int 0, .int 0, .int 0]))] sz (fun _ => True)) (in_Q D (va_A [(h0, .inr (1, [.null, .null, .null, .int 0, .int 0, .int 0, .int 0, .int 0]))] sz) h0 (wfX1 cA h0)) 3 12 (va_A [(h0, .inr (1, [.null, .null, .null, .int 0, .int 0, .int 0, .int 0, .int 0]))] sz) := by
  refine Met.ofW (cc := cX1_init) (maxL := 1) (ret := none) (by decide) rfl ?_
  intro p e s m args below meth c s₁ B hml hv
  obtain ⟨rfl, hsz, hK, hN, hP, hD0, -⟩ := hv
  have Cx : in_C p s m #[.ref h0] meth c D cA cX1_init 1 RX1 := ⟨B.exec, B.bytes, hml, findClass_of_methodNamed B.named, fun w hw => atoms_spec (ws := .code yX1_init cX1_init 1 none :: wsL_law) B.pre w (List.mem_cons_of_mem _ hw), B.returns, B.notSynchronized, hK, hN, (name_of_methodNamed B.named B.method).1⟩
  have hx := Cx.1
  have hb := Cx.2.1
  subst hsz
  have hD := hD0.self (sz := s.heap.size)
  generalize hAe : va_A [(h0, .inr (1, [.null, .null, .null, .int 0, .int 0, .int 0, .int 0, .int 0]))] s.heap.size = A at hD ⊢
  have hA : ∀ q : Nat, s.heap.size ≤ q → A q := fun q h => by rw [← hAe]; exact Or.inr h
  have hl := lv_entry ([.ref h0]) (n := 1) (Nat.le_of_ble_eq_true rfl)
  rw [lg_entry_eq]
  generalize (lg_sl ([.ref h0]) ++ List.replicate (1 - (lg_sl ([.ref h0])).length) Slot.unset).toArray = ls at hl ⊢
  have hl : lv_has ls 1 [(0, .ref h0)] := hl
  have hI : in_I D A s [(h0, .inr (1, [.null, .null, .null, .int 0, .int 0, .int 0, .int 0, .int 0]))] s.heap [] := ⟨hP, hD, va_S.rf, hA⟩
  refine lv_aload_n hx hb dX1_init_0 rfl (lv_at hl 0 rfl) ?_
  refine in_obj Cx wd_5_5 hl.1 dX1_init_1 (Nat.le_of_ble_eq_true rfl) (Nat.le_of_ble_eq_true rfl) ?_
  refine lv_aload_n hx hb dX1_init_4 rfl (lv_at hl 0 rfl) ?_
  refine lv_iconst (v := 3) hx hb dX1_init_5 rfl ?_
  refine in_newI Cx hI 3 (by decide) (by decide) (by decide) (Nat.le_of_ble_eq_true rfl) (Nat.le_of_ble_eq_true rfl) dX1_init_6 (fun q1 H hI => ?_)
  have hI : in_I D A s [(h0, .inr (1, [.null, .null, .null, .int 0, .int 0, .int 0, .int 0, .int 0])), (q1, .inl (cA 0, 3, .inl (fun _ => 0)))] _ _ := hI
  refine W.widen (k := 1) (n := 3) (Nat.le_of_ble_eq_true rfl) (Nat.le_of_ble_eq_true rfl) ?_
  refine in_putF Cx hI 0 0 rfl rfl inlX1 tyX1 tyX1_ok nmX1 (by decide) rfl rfl rfl rfl (Nat.le_of_ble_eq_true rfl) wd_5_6 dX1_init_8 (fun H locs hI => ?_)
  have hI : in_I D A s [(h0, .inr (1, [.ref q1, .null, .null, .int 0, .int 0, .int 0, .int 0, .int 0])), (q1, .inl (cA 0, 3, .inl (fun _ => 0)))] _ _ := hI
  refine lv_aload_n hx hb dX1_init_11 rfl (lv_at hl 0 rfl) ?_
  refine lv_iconst (v := 3) hx hb dX1_init_12 rfl ?_
  refine in_newI Cx hI 3 (by decide) (by decide) (by decide) (Nat.le_of_ble_eq_true rfl) (Nat.le_of_ble_eq_true rfl) dX1_init_13 (fun q2 H hI => ?_)
  have hI : in_I D A s [(h0, .inr (1, [.ref q1, .null, .null, .int 0, .int 0, .int 0, .int 0, .int 0])), (q1, .inl (cA 0, 3, .inl (fun _ => 0))), (q2, .inl (cA 0, 3, .inl (fun _ => 0)))] _ _ := hI
  refine W.widen (k := 2) (n := 6) (Nat.le_of_ble_eq_true rfl) (Nat.le_of_ble_eq_true rfl) ?_
  refine in_putF Cx hI 0 1 rfl rfl inlX1 tyX1 tyX1_ok nmX1 (by decide) rfl rfl rfl rfl (Nat.le_of_ble_eq_true rfl) wd_5_7 dX1_init_15 (fun H locs hI => ?_)
  have hI : in_I D A s [(h0, .inr (1, [.ref q1, .ref q2, .null, .int 0, .int 0, .int 0, .int 0, .int 0])), (q1, .inl (cA 0, 3, .inl (fun _ => 0))), (q2, .inl (cA 0, 3, .inl (fun _ => 0)))] _ _ := hI
  refine lv_aload_n hx hb dX1_init_18 rfl (lv_at hl 0 rfl) ?_
  refine lv_bipush (v := 6) hx hb dX1_init_19 rfl ?_
  refine in_newI Cx hI 6 (by decide) (by decide) (by decide) (Nat.le_of_ble_eq_true rfl) (Nat.le_of_ble_eq_true rfl) dX1_init_21 (fun q3 H hI => ?_)
  have hI : in_I D A s [(h0, .inr (1, [.ref q1, .ref q2, .null, .int 0, .int 0, .int 0, .int 0, .int 0])), (q1, .inl (cA 0, 3, .inl (fun _ => 0))), (q2, .inl (cA 0, 3, .inl (fun _ => 0))), (q3, .inl (cA 0, 6, .inl (fun _ => 0)))] _ _ := hI
  refine W.widen (k := 3) (n := 12) (Nat.le_of_ble_eq_true rfl) (Nat.le_of_ble_eq_true rfl) ?_
  refine in_putF Cx hI 0 2 rfl rfl inlX1 tyX1 tyX1_ok nmX1 (by decide) rfl rfl rfl rfl (Nat.le_of_ble_eq_true rfl) wd_5_8 dX1_init_23 (fun H locs hI => ?_)
  have hI : in_I D A s [(h0, .inr (1, [.ref q1, .ref q2, .ref q3, .int 0, .int 0, .int 0, .int 0, .int 0])), (q1, .inl (cA 0, 3, .inl (fun _ => 0))), (q2, .inl (cA 0, 3, .inl (fun _ => 0))), (q3, .inl (cA 0, 6, .inl (fun _ => 0)))] _ _ := hI
  refine lv_aload_n hx hb dX1_init_26 rfl (lv_at hl 0 rfl) ?_
  refine lv_iconst (v := 0) hx hb dX1_init_27 rfl ?_
  refine in_put Cx hI 0 3 rfl rfl inlX1 tyX1 tyX1_ok nmX1 (by decide) rfl rfl rfl (Nat.le_of_ble_eq_true rfl) wd_5_9 dX1_init_28 (fun H locs hI => ?_)
  have hI : in_I D A s [(h0, .inr (1, [.ref q1, .ref q2, .ref q3, .int 0, .int 0, .int 0, .int 0, .int 0])), (q1, .inl (cA 0, 3, .inl (fun _ => 0))), (q2, .inl (cA 0, 3, .inl (fun _ => 0))), (q3, .inl (cA 0, 6, .inl (fun _ => 0)))] _ _ := hI
  refine lv_aload_n hx hb dX1_init_31 rfl (lv_at hl 0 rfl) ?_
  refine lv_iconst (v := 0) hx hb dX1_init_32 rfl ?_
  refine in_put Cx hI 0 4 rfl rfl inlX1 tyX1 tyX1_ok nmX1 (by decide) rfl rfl rfl (Nat.le_of_ble_eq_true rfl) wd_5_10 dX1_init_33 (fun H locs hI => ?_)
  have hI : in_I D A s [(h0, .inr (1, [.ref q1, .ref q2, .ref q3, .int 0, .int 0, .int 0, .int 0, .int 0])), (q1, .inl (cA 0, 3, .inl (fun _ => 0))), (q2, .inl (cA 0, 3, .inl (fun _ => 0))), (q3, .inl (cA 0, 6, .inl (fun _ => 0)))] _ _ := hI
  refine lv_aload_n hx hb dX1_init_36 rfl (lv_at hl 0 rfl) ?_
  refine lv_iconst (v := 0) hx hb dX1_init_37 rfl ?_
  refine in_put Cx hI 0 5 rfl rfl inlX1 tyX1 tyX1_ok nmX1 (by decide) rfl rfl rfl (Nat.le_of_ble_eq_true rfl) wd_5_11 dX1_init_38 (fun H locs hI => ?_)
  have hI : in_I D A s [(h0, .inr (1, [.ref q1, .ref q2, .ref q3, .int 0, .int 0, .int 0, .int 0, .int 0])), (q1, .inl (cA 0, 3, .inl (fun _ => 0))), (q2, .inl (cA 0, 3, .inl (fun _ => 0))), (q3, .inl (cA 0, 6, .inl (fun _ => 0)))] _ _ := hI
  refine lv_aload_n hx hb dX1_init_41 rfl (lv_at hl 0 rfl) ?_
  refine lv_iconst (v := 0) hx hb dX1_init_42 rfl ?_
  refine in_put Cx hI 0 6 rfl rfl inlX1 tyX1 tyX1_ok nmX1 (by decide) rfl rfl rfl (Nat.le_of_ble_eq_true rfl) wd_5_12 dX1_init_43 (fun H locs hI => ?_)
  have hI : in_I D A s [(h0, .inr (1, [.ref q1, .ref q2, .ref q3, .int 0, .int 0, .int 0, .int 0, .int 0])), (q1, .inl (cA 0, 3, .inl (fun _ => 0))), (q2, .inl (cA 0, 3, .inl (fun _ => 0))), (q3, .inl (cA 0, 6, .inl (fun _ => 0)))] _ _ := hI
  refine lv_aload_n hx hb dX1_init_46 rfl (lv_at hl 0 rfl) ?_
  refine lv_iconst (v := 0) hx hb dX1_init_47 rfl ?_
  refine in_put Cx hI 0 7 rfl rfl inlX1 tyX1 tyX1_ok nmX1 (by decide) rfl rfl rfl (Nat.le_of_ble_eq_true rfl) wd_5_13 dX1_init_48 (fun H locs hI => ?_)
  have hI : in_I D A s [(h0, .inr (1, [.ref q1, .ref q2, .ref q3, .int 0, .int 0, .int 0, .int 0, .int 0])), (q1, .inl (cA 0, 3, .inl (fun _ => 0))), (q2, .inl (cA 0, 3, .inl (fun _ => 0))), (q3, .inl (cA 0, 6, .inl (fun _ => 0)))] _ _ := hI
  exact in_ret (wf := wfX1 cA h0) Cx hI (fun i => ([h0, q1, q2, q3] : List Nat).getD i 0) rfl [0, 1, 2, 3] rfl rfl (by decide) dX1_init_51
theorem dX2_init_0 : decode cX2_init 0 = .ok (.aload_n 0, 1) := by decide +kernel
theorem dX2_init_1 : decode cX2_init 1 = .ok (.invokespecial 3, 3) := by decide +kernel
theorem dX2_init_4 : decode cX2_init 4 = .ok (.aload_n 0, 1) := by decide +kernel
theorem dX2_init_5 : decode cX2_init 5 = .ok (.bipush 48, 2) := by decide +kernel
theorem dX2_init_7 : decode cX2_init 7 = .ok (.newarray .int, 2) := by decide +kernel
theorem dX2_init_9 : decode cX2_init 9 = .ok (.putfield 9, 3) := by decide +kernel
theorem dX2_init_12 : decode cX2_init 12 = .ok (.aload_n 0, 1) := by decide +kernel
theorem dX2_init_13 : decode cX2_init 13 = .ok (.iconst 0, 1) := by decide +kernel
theorem dX2_init_14 : decode cX2_init 14 = .ok (.putfield 15, 3) := by decide +kernel
theorem dX2_init_17 : decode cX2_init 17 = .ok (.aload_n 0, 1) := by decide +kernel
theorem dX2_init_18 : decode cX2_init 18 = .ok (.iconst 0, 1) := by decide +kernel
theorem dX2_init_19 : decode cX2_init 19 = .ok (.putfield 19, 3) := by decide +kernel
theorem dX2_init_22 : decode cX2_init 22 = .ok (.aload_n 0, 1) := by decide +kernel
theorem dX2_init_23 : decode cX2_init 23 = .ok (.iconst 1, 1) := by decide +kernel
theorem dX2_init_24 : decode cX2_init 24 = .ok (.putfield 22, 3) := by decide +kernel
theorem dX2_init_27 : decode cX2_init 27 = .ok (.return_, 1) := by decide +kernel
abbrev rmiX2 : Room := { frames := 1, cells := 1, slots := 48, locals := 12 }
def wfX2 (cA : Nat → ClassId) (h0  : Nat) (u : Nat → Nat) : va_W := [(h0, .inr (2, [.ref (u 1), .int 0, .int 0, .int 1])), ((u 1), .inl (cA 0, 48, .inl (fun _ => 0)))]
theorem ihX2 : yX2_init.cls ≠ "java/lang/invoke/MethodHandle" ∧ yX2_init.cls ≠ "java/lang/invoke/VarHandle" ∧ (parseMethodDescriptor yX2_init.desc).map (fun d => d.parameters.length) = some 0 := ⟨by decide +kernel, by decide +kernel, by decide +kernel⟩
theorem dfX2 : ∀ j, j < 4 → defaultValue (tyX2 j) = vp_V [.null, .int 0, .int 0, .int 0] j := by decide +kernel
set_option maxHeartbeats 4000000 in
set_option maxRecDepth 100000 in
theorem iniX2 (l : Launch) (D : va_G) (cA : Nat → ClassId) (h0  sz : Nat) : Met l yX2_init (.code yX2_init cX2_init 1 none :: wsL_law) rmiX2 (in_Pc D cA [.ref h0] [(h0, .inr (2, [.null, .int 0, .int 0, .int 0]))] sz (fun _ => True)) (in_Q D (va_A [(h0, .inr (2, [.null, .int 0, .int 0, .int 0]))] sz) h0 (wfX2 cA h0)) 1 48 (va_A [(h0, .inr (2, [.null, .int 0, .int 0, .int 0]))] sz) := by
  refine Met.ofW (cc := cX2_init) (maxL := 1) (ret := none) (by decide) rfl ?_
  intro p e s m args below meth c s₁ B hml hv
  obtain ⟨rfl, hsz, hK, hN, hP, hD0, -⟩ := hv
  have Cx : in_C p s m #[.ref h0] meth c D cA cX2_init 1 RX2 := ⟨B.exec, B.bytes, hml, findClass_of_methodNamed B.named, fun w hw => atoms_spec (ws := .code yX2_init cX2_init 1 none :: wsL_law) B.pre w (List.mem_cons_of_mem _ hw), B.returns, B.notSynchronized, hK, hN, (name_of_methodNamed B.named B.method).1⟩
  have hx := Cx.1
  have hb := Cx.2.1
  subst hsz
  have hD := hD0.self (sz := s.heap.size)
  generalize hAe : va_A [(h0, .inr (2, [.null, .int 0, .int 0, .int 0]))] s.heap.size = A at hD ⊢
  have hA : ∀ q : Nat, s.heap.size ≤ q → A q := fun q h => by rw [← hAe]; exact Or.inr h
  have hl := lv_entry ([.ref h0]) (n := 1) (Nat.le_of_ble_eq_true rfl)
  rw [lg_entry_eq]
  generalize (lg_sl ([.ref h0]) ++ List.replicate (1 - (lg_sl ([.ref h0])).length) Slot.unset).toArray = ls at hl ⊢
  have hl : lv_has ls 1 [(0, .ref h0)] := hl
  have hI : in_I D A s [(h0, .inr (2, [.null, .int 0, .int 0, .int 0]))] s.heap [] := ⟨hP, hD, va_S.rf, hA⟩
  refine lv_aload_n hx hb dX2_init_0 rfl (lv_at hl 0 rfl) ?_
  refine in_obj Cx wd_6_4 hl.1 dX2_init_1 (Nat.le_of_ble_eq_true rfl) (Nat.le_of_ble_eq_true rfl) ?_
  refine lv_aload_n hx hb dX2_init_4 rfl (lv_at hl 0 rfl) ?_
  refine lv_bipush (v := 48) hx hb dX2_init_5 rfl ?_
  refine in_newI Cx hI 48 (by decide) (by decide) (by decide) (Nat.le_of_ble_eq_true rfl) (Nat.le_of_ble_eq_true rfl) dX2_init_7 (fun q1 H hI => ?_)
  have hI : in_I D A s [(h0, .inr (2, [.null, .int 0, .int 0, .int 0])), (q1, .inl (cA 0, 48, .inl (fun _ => 0)))] _ _ := hI
  refine W.widen (k := 1) (n := 48) (Nat.le_of_ble_eq_true rfl) (Nat.le_of_ble_eq_true rfl) ?_
  refine in_putF Cx hI 0 0 rfl rfl inlX2 tyX2 tyX2_ok nmX2 (by decide) rfl rfl rfl rfl (Nat.le_of_ble_eq_true rfl) wd_6_5 dX2_init_9 (fun H locs hI => ?_)
  have hI : in_I D A s [(h0, .inr (2, [.ref q1, .int 0, .int 0, .int 0])), (q1, .inl (cA 0, 48, .inl (fun _ => 0)))] _ _ := hI
  refine lv_aload_n hx hb dX2_init_12 rfl (lv_at hl 0 rfl) ?_
  refine lv_iconst (v := 0) hx hb dX2_init_13 rfl ?_
  refine in_put Cx hI 0 1 rfl rfl inlX2 tyX2 tyX2_ok nmX2 (by decide) rfl rfl rfl (Nat.le_of_ble_eq_true rfl) wd_6_6 dX2_init_14 (fun H locs hI => ?_)
  have hI : in_I D A s [(h0, .inr (2, [.ref q1, .int 0, .int 0, .int 0])), (q1, .inl (cA 0, 48, .inl (fun _ => 0)))] _ _ := hI
  refine lv_aload_n hx hb dX2_init_17 rfl (lv_at hl 0 rfl) ?_
  refine lv_iconst (v := 0) hx hb dX2_init_18 rfl ?_
  refine in_put Cx hI 0 2 rfl rfl inlX2 tyX2 tyX2_ok nmX2 (by decide) rfl rfl rfl (Nat.le_of_ble_eq_true rfl) wd_6_7 dX2_init_19 (fun H locs hI => ?_)
  have hI : in_I D A s [(h0, .inr (2, [.ref q1, .int 0, .int 0, .int 0])), (q1, .inl (cA 0, 48, .inl (fun _ => 0)))] _ _ := hI
  refine lv_aload_n hx hb dX2_init_22 rfl (lv_at hl 0 rfl) ?_
  refine lv_iconst (v := 1) hx hb dX2_init_23 rfl ?_
  refine in_put Cx hI 0 3 rfl rfl inlX2 tyX2 tyX2_ok nmX2 (by decide) rfl rfl rfl (Nat.le_of_ble_eq_true rfl) wd_6_8 dX2_init_24 (fun H locs hI => ?_)
  have hI : in_I D A s [(h0, .inr (2, [.ref q1, .int 0, .int 0, .int 1])), (q1, .inl (cA 0, 48, .inl (fun _ => 0)))] _ _ := hI
  exact in_ret (wf := wfX2 cA h0) Cx hI (fun i => ([h0, q1] : List Nat).getD i 0) rfl [0, 1] rfl rfl (by decide) dX2_init_27
theorem dX3_init_0 : decode cX3_init 0 = .ok (.aload_n 0, 1) := by decide +kernel
theorem dX3_init_1 : decode cX3_init 1 = .ok (.invokespecial 3, 3) := by decide +kernel
theorem dX3_init_4 : decode cX3_init 4 = .ok (.aload_n 0, 1) := by decide +kernel
theorem dX3_init_5 : decode cX3_init 5 = .ok (.bipush 24, 2) := by decide +kernel
theorem dX3_init_7 : decode cX3_init 7 = .ok (.newarray .int, 2) := by decide +kernel
theorem dX3_init_9 : decode cX3_init 9 = .ok (.putfield 9, 3) := by decide +kernel
theorem dX3_init_12 : decode cX3_init 12 = .ok (.aload_n 0, 1) := by decide +kernel
theorem dX3_init_13 : decode cX3_init 13 = .ok (.bipush 6, 2) := by decide +kernel
theorem dX3_init_15 : decode cX3_init 15 = .ok (.newarray .int, 2) := by decide +kernel
theorem dX3_init_17 : decode cX3_init 17 = .ok (.putfield 15, 3) := by decide +kernel
theorem dX3_init_20 : decode cX3_init 20 = .ok (.aload_n 0, 1) := by decide +kernel
theorem dX3_init_21 : decode cX3_init 21 = .ok (.bipush 6, 2) := by decide +kernel
theorem dX3_init_23 : decode cX3_init 23 = .ok (.newarray .int, 2) := by decide +kernel
theorem dX3_init_25 : decode cX3_init 25 = .ok (.putfield 18, 3) := by decide +kernel
theorem dX3_init_28 : decode cX3_init 28 = .ok (.aload_n 0, 1) := by decide +kernel
theorem dX3_init_29 : decode cX3_init 29 = .ok (.iconst 0, 1) := by decide +kernel
theorem dX3_init_30 : decode cX3_init 30 = .ok (.putfield 21, 3) := by decide +kernel
theorem dX3_init_33 : decode cX3_init 33 = .ok (.aload_n 0, 1) := by decide +kernel
theorem dX3_init_34 : decode cX3_init 34 = .ok (.iconst 0, 1) := by decide +kernel
theorem dX3_init_35 : decode cX3_init 35 = .ok (.putfield 25, 3) := by decide +kernel
theorem dX3_init_38 : decode cX3_init 38 = .ok (.aload_n 0, 1) := by decide +kernel
theorem dX3_init_39 : decode cX3_init 39 = .ok (.iconst 0, 1) := by decide +kernel
theorem dX3_init_40 : decode cX3_init 40 = .ok (.putfield 28, 3) := by decide +kernel
theorem dX3_init_43 : decode cX3_init 43 = .ok (.aload_n 0, 1) := by decide +kernel
theorem dX3_init_44 : decode cX3_init 44 = .ok (.iconst 0, 1) := by decide +kernel
theorem dX3_init_45 : decode cX3_init 45 = .ok (.putfield 31, 3) := by decide +kernel
theorem dX3_init_48 : decode cX3_init 48 = .ok (.aload_n 0, 1) := by decide +kernel
theorem dX3_init_49 : decode cX3_init 49 = .ok (.iconst 0, 1) := by decide +kernel
theorem dX3_init_50 : decode cX3_init 50 = .ok (.putfield 34, 3) := by decide +kernel
theorem dX3_init_53 : decode cX3_init 53 = .ok (.aload_n 0, 1) := by decide +kernel
theorem dX3_init_54 : decode cX3_init 54 = .ok (.iconst 0, 1) := by decide +kernel
theorem dX3_init_55 : decode cX3_init 55 = .ok (.putfield 37, 3) := by decide +kernel
theorem dX3_init_58 : decode cX3_init 58 = .ok (.aload_n 0, 1) := by decide +kernel
theorem dX3_init_59 : decode cX3_init 59 = .ok (.iconst 0, 1) := by decide +kernel
theorem dX3_init_60 : decode cX3_init 60 = .ok (.putfield 40, 3) := by decide +kernel
theorem dX3_init_63 : decode cX3_init 63 = .ok (.aload_n 0, 1) := by decide +kernel
theorem dX3_init_64 : decode cX3_init 64 = .ok (.iconst (-1), 1) := by decide +kernel
theorem dX3_init_65 : decode cX3_init 65 = .ok (.putfield 43, 3) := by decide +kernel
theorem dX3_init_68 : decode cX3_init 68 = .ok (.aload_n 0, 1) := by decide +kernel
theorem dX3_init_69 : decode cX3_init 69 = .ok (.iconst 0, 1) := by decide +kernel
theorem dX3_init_70 : decode cX3_init 70 = .ok (.putfield 46, 3) := by decide +kernel
theorem dX3_init_73 : decode cX3_init 73 = .ok (.aload_n 0, 1) := by decide +kernel
theorem dX3_init_74 : decode cX3_init 74 = .ok (.iconst 0, 1) := by decide +kernel
theorem dX3_init_75 : decode cX3_init 75 = .ok (.putfield 49, 3) := by decide +kernel
theorem dX3_init_78 : decode cX3_init 78 = .ok (.aload_n 0, 1) := by decide +kernel
theorem dX3_init_79 : decode cX3_init 79 = .ok (.iconst 0, 1) := by decide +kernel
theorem dX3_init_80 : decode cX3_init 80 = .ok (.putfield 52, 3) := by decide +kernel
theorem dX3_init_83 : decode cX3_init 83 = .ok (.aload_n 0, 1) := by decide +kernel
theorem dX3_init_84 : decode cX3_init 84 = .ok (.iconst 0, 1) := by decide +kernel
theorem dX3_init_85 : decode cX3_init 85 = .ok (.putfield 55, 3) := by decide +kernel
theorem dX3_init_88 : decode cX3_init 88 = .ok (.aload_n 0, 1) := by decide +kernel
theorem dX3_init_89 : decode cX3_init 89 = .ok (.iconst 0, 1) := by decide +kernel
theorem dX3_init_90 : decode cX3_init 90 = .ok (.putfield 58, 3) := by decide +kernel
theorem dX3_init_93 : decode cX3_init 93 = .ok (.aload_n 0, 1) := by decide +kernel
theorem dX3_init_94 : decode cX3_init 94 = .ok (.iconst 0, 1) := by decide +kernel
theorem dX3_init_95 : decode cX3_init 95 = .ok (.putfield 61, 3) := by decide +kernel
theorem dX3_init_98 : decode cX3_init 98 = .ok (.return_, 1) := by decide +kernel
abbrev rmiX3 : Room := { frames := 1, cells := 3, slots := 36, locals := 12 }
def wfX3 (cA : Nat → ClassId) (h0  : Nat) (u : Nat → Nat) : va_W := [(h0, .inr (3, [.ref (u 1), .ref (u 2), .ref (u 3), .int 0, .int 0, .int 0, .int 0, .int 0, .int 0, .int 0, .int (-1), .int 0, .int 0, .int 0, .int 0, .int 0, .int 0])), ((u 1), .inl (cA 0, 24, .inl (fun _ => 0))), ((u 2), .inl (cA 0, 6, .inl (fun _ => 0))), ((u 3), .inl (cA 0, 6, .inl (fun _ => 0)))]
theorem ihX3 : yX3_init.cls ≠ "java/lang/invoke/MethodHandle" ∧ yX3_init.cls ≠ "java/lang/invoke/VarHandle" ∧ (parseMethodDescriptor yX3_init.desc).map (fun d => d.parameters.length) = some 0 := ⟨by decide +kernel, by decide +kernel, by decide +kernel⟩
theorem dfX3 : ∀ j, j < 17 → defaultValue (tyX3 j) = vp_V [.null, .null, .null, .int 0, .int 0, .int 0, .int 0, .int 0, .int 0, .int 0, .int 0, .int 0, .int 0, .int 0, .int 0, .int 0, .int 0] j := by decide +kernel
set_option maxHeartbeats 4000000 in
set_option maxRecDepth 100000 in
theorem iniX3 (l : Launch) (D : va_G) (cA : Nat → ClassId) (h0  sz : Nat) : Met l yX3_init (.code yX3_init cX3_init 1 none :: wsL_law) rmiX3 (in_Pc D cA [.ref h0] [(h0, .inr (3, [.null, .null, .null, .int 0, .int 0, .int 0, .int 0, .int 0, .int 0, .int 0, .int 0, .int 0, .int 0, .int 0, .int 0, .int 0, .int 0]))] sz (fun _ => True)) (in_Q D (va_A [(h0, .inr (3, [.null, .null, .null, .int 0, .int 0, .int 0, .int 0, .int 0, .int 0, .int 0, .int 0, .int 0, .int 0, .int 0, .int 0, .int 0, .int 0]))] sz) h0 (wfX3 cA h0)) 3 36 (va_A [(h0, .inr (3, [.null, .null, .null, .int 0, .int 0, .int 0, .int 0, .int 0, .int 0, .int 0, .int 0, .int 0, .int 0, .int 0, .int 0, .int 0, .int 0]))] sz) := by
  refine Met.ofW (cc := cX3_init) (maxL := 1) (ret := none) (by decide) rfl ?_
  intro p e s m args below meth c s₁ B hml hv
  obtain ⟨rfl, hsz, hK, hN, hP, hD0, -⟩ := hv
  have Cx : in_C p s m #[.ref h0] meth c D cA cX3_init 1 RX3 := ⟨B.exec, B.bytes, hml, findClass_of_methodNamed B.named, fun w hw => atoms_spec (ws := .code yX3_init cX3_init 1 none :: wsL_law) B.pre w (List.mem_cons_of_mem _ hw), B.returns, B.notSynchronized, hK, hN, (name_of_methodNamed B.named B.method).1⟩
  have hx := Cx.1
  have hb := Cx.2.1
  subst hsz
  have hD := hD0.self (sz := s.heap.size)
  generalize hAe : va_A [(h0, .inr (3, [.null, .null, .null, .int 0, .int 0, .int 0, .int 0, .int 0, .int 0, .int 0, .int 0, .int 0, .int 0, .int 0, .int 0, .int 0, .int 0]))] s.heap.size = A at hD ⊢
  have hA : ∀ q : Nat, s.heap.size ≤ q → A q := fun q h => by rw [← hAe]; exact Or.inr h
  have hl := lv_entry ([.ref h0]) (n := 1) (Nat.le_of_ble_eq_true rfl)
  rw [lg_entry_eq]
  generalize (lg_sl ([.ref h0]) ++ List.replicate (1 - (lg_sl ([.ref h0])).length) Slot.unset).toArray = ls at hl ⊢
  have hl : lv_has ls 1 [(0, .ref h0)] := hl
  have hI : in_I D A s [(h0, .inr (3, [.null, .null, .null, .int 0, .int 0, .int 0, .int 0, .int 0, .int 0, .int 0, .int 0, .int 0, .int 0, .int 0, .int 0, .int 0, .int 0]))] s.heap [] := ⟨hP, hD, va_S.rf, hA⟩
  refine lv_aload_n hx hb dX3_init_0 rfl (lv_at hl 0 rfl) ?_
  refine in_obj Cx wd_4_0 hl.1 dX3_init_1 (Nat.le_of_ble_eq_true rfl) (Nat.le_of_ble_eq_true rfl) ?_
  refine lv_aload_n hx hb dX3_init_4 rfl (lv_at hl 0 rfl) ?_
  refine lv_bipush (v := 24) hx hb dX3_init_5 rfl ?_
  refine in_newI Cx hI 24 (by decide) (by decide) (by decide) (Nat.le_of_ble_eq_true rfl) (Nat.le_of_ble_eq_true rfl) dX3_init_7 (fun q1 H hI => ?_)
  have hI : in_I D A s [(h0, .inr (3, [.null, .null, .null, .int 0, .int 0, .int 0, .int 0, .int 0, .int 0, .int 0, .int 0, .int 0, .int 0, .int 0, .int 0, .int 0, .int 0])), (q1, .inl (cA 0, 24, .inl (fun _ => 0)))] _ _ := hI
  refine W.widen (k := 1) (n := 24) (Nat.le_of_ble_eq_true rfl) (Nat.le_of_ble_eq_true rfl) ?_
  refine in_putF Cx hI 0 0 rfl rfl inlX3 tyX3 tyX3_ok nmX3 (by decide) rfl rfl rfl rfl (Nat.le_of_ble_eq_true rfl) wd_4_1 dX3_init_9 (fun H locs hI => ?_)
  have hI : in_I D A s [(h0, .inr (3, [.ref q1, .null, .null, .int 0, .int 0, .int 0, .int 0, .int 0, .int 0, .int 0, .int 0, .int 0, .int 0, .int 0, .int 0, .int 0, .int 0])), (q1, .inl (cA 0, 24, .inl (fun _ => 0)))] _ _ := hI
  refine lv_aload_n hx hb dX3_init_12 rfl (lv_at hl 0 rfl) ?_
  refine lv_bipush (v := 6) hx hb dX3_init_13 rfl ?_
  refine in_newI Cx hI 6 (by decide) (by decide) (by decide) (Nat.le_of_ble_eq_true rfl) (Nat.le_of_ble_eq_true rfl) dX3_init_15 (fun q2 H hI => ?_)
  have hI : in_I D A s [(h0, .inr (3, [.ref q1, .null, .null, .int 0, .int 0, .int 0, .int 0, .int 0, .int 0, .int 0, .int 0, .int 0, .int 0, .int 0, .int 0, .int 0, .int 0])), (q1, .inl (cA 0, 24, .inl (fun _ => 0))), (q2, .inl (cA 0, 6, .inl (fun _ => 0)))] _ _ := hI
  refine W.widen (k := 2) (n := 30) (Nat.le_of_ble_eq_true rfl) (Nat.le_of_ble_eq_true rfl) ?_
  refine in_putF Cx hI 0 1 rfl rfl inlX3 tyX3 tyX3_ok nmX3 (by decide) rfl rfl rfl rfl (Nat.le_of_ble_eq_true rfl) wd_4_2 dX3_init_17 (fun H locs hI => ?_)
  have hI : in_I D A s [(h0, .inr (3, [.ref q1, .ref q2, .null, .int 0, .int 0, .int 0, .int 0, .int 0, .int 0, .int 0, .int 0, .int 0, .int 0, .int 0, .int 0, .int 0, .int 0])), (q1, .inl (cA 0, 24, .inl (fun _ => 0))), (q2, .inl (cA 0, 6, .inl (fun _ => 0)))] _ _ := hI
  refine lv_aload_n hx hb dX3_init_20 rfl (lv_at hl 0 rfl) ?_
  refine lv_bipush (v := 6) hx hb dX3_init_21 rfl ?_
  refine in_newI Cx hI 6 (by decide) (by decide) (by decide) (Nat.le_of_ble_eq_true rfl) (Nat.le_of_ble_eq_true rfl) dX3_init_23 (fun q3 H hI => ?_)
  have hI : in_I D A s [(h0, .inr (3, [.ref q1, .ref q2, .null, .int 0, .int 0, .int 0, .int 0, .int 0, .int 0, .int 0, .int 0, .int 0, .int 0, .int 0, .int 0, .int 0, .int 0])), (q1, .inl (cA 0, 24, .inl (fun _ => 0))), (q2, .inl (cA 0, 6, .inl (fun _ => 0))), (q3, .inl (cA 0, 6, .inl (fun _ => 0)))] _ _ := hI
  refine W.widen (k := 3) (n := 36) (Nat.le_of_ble_eq_true rfl) (Nat.le_of_ble_eq_true rfl) ?_
  refine in_putF Cx hI 0 2 rfl rfl inlX3 tyX3 tyX3_ok nmX3 (by decide) rfl rfl rfl rfl (Nat.le_of_ble_eq_true rfl) wd_4_3 dX3_init_25 (fun H locs hI => ?_)
  have hI : in_I D A s [(h0, .inr (3, [.ref q1, .ref q2, .ref q3, .int 0, .int 0, .int 0, .int 0, .int 0, .int 0, .int 0, .int 0, .int 0, .int 0, .int 0, .int 0, .int 0, .int 0])), (q1, .inl (cA 0, 24, .inl (fun _ => 0))), (q2, .inl (cA 0, 6, .inl (fun _ => 0))), (q3, .inl (cA 0, 6, .inl (fun _ => 0)))] _ _ := hI
  refine lv_aload_n hx hb dX3_init_28 rfl (lv_at hl 0 rfl) ?_
  refine lv_iconst (v := 0) hx hb dX3_init_29 rfl ?_
  refine in_put Cx hI 0 3 rfl rfl inlX3 tyX3 tyX3_ok nmX3 (by decide) rfl rfl rfl (Nat.le_of_ble_eq_true rfl) wd_4_4 dX3_init_30 (fun H locs hI => ?_)
  have hI : in_I D A s [(h0, .inr (3, [.ref q1, .ref q2, .ref q3, .int 0, .int 0, .int 0, .int 0, .int 0, .int 0, .int 0, .int 0, .int 0, .int 0, .int 0, .int 0, .int 0, .int 0])), (q1, .inl (cA 0, 24, .inl (fun _ => 0))), (q2, .inl (cA 0, 6, .inl (fun _ => 0))), (q3, .inl (cA 0, 6, .inl (fun _ => 0)))] _ _ := hI
  refine lv_aload_n hx hb dX3_init_33 rfl (lv_at hl 0 rfl) ?_
  refine lv_iconst (v := 0) hx hb dX3_init_34 rfl ?_
  refine in_put Cx hI 0 4 rfl rfl inlX3 tyX3 tyX3_ok nmX3 (by decide) rfl rfl rfl (Nat.le_of_ble_eq_true rfl) wd_4_5 dX3_init_35 (fun H locs hI => ?_)
  have hI : in_I D A s [(h0, .inr (3, [.ref q1, .ref q2, .ref q3, .int 0, .int 0, .int 0, .int 0, .int 0, .int 0, .int 0, .int 0, .int 0, .int 0, .int 0, .int 0, .int 0, .int 0])), (q1, .inl (cA 0, 24, .inl (fun _ => 0))), (q2, .inl (cA 0, 6, .inl (fun _ => 0))), (q3, .inl (cA 0, 6, .inl (fun _ => 0)))] _ _ := hI
  refine lv_aload_n hx hb dX3_init_38 rfl (lv_at hl 0 rfl) ?_
  refine lv_iconst (v := 0) hx hb dX3_init_39 rfl ?_
  refine in_put Cx hI 0 5 rfl rfl inlX3 tyX3 tyX3_ok nmX3 (by decide) rfl rfl rfl (Nat.le_of_ble_eq_true rfl) wd_4_6 dX3_init_40 (fun H locs hI => ?_)
  have hI : in_I D A s [(h0, .inr (3, [.ref q1, .ref q2, .ref q3, .int 0, .int 0, .int 0, .int 0, .int 0, .int 0, .int 0, .int 0, .int 0, .int 0, .int 0, .int 0, .int 0, .int 0])), (q1, .inl (cA 0, 24, .inl (fun _ => 0))), (q2, .inl (cA 0, 6, .inl (fun _ => 0))), (q3, .inl (cA 0, 6, .inl (fun _ => 0)))] _ _ := hI
  refine lv_aload_n hx hb dX3_init_43 rfl (lv_at hl 0 rfl) ?_
  refine lv_iconst (v := 0) hx hb dX3_init_44 rfl ?_
  refine in_put Cx hI 0 6 rfl rfl inlX3 tyX3 tyX3_ok nmX3 (by decide) rfl rfl rfl (Nat.le_of_ble_eq_true rfl) wd_4_7 dX3_init_45 (fun H locs hI => ?_)
  have hI : in_I D A s [(h0, .inr (3, [.ref q1, .ref q2, .ref q3, .int 0, .int 0, .int 0, .int 0, .int 0, .int 0, .int 0, .int 0, .int 0, .int 0, .int 0, .int 0, .int 0, .int 0])), (q1, .inl (cA 0, 24, .inl (fun _ => 0))), (q2, .inl (cA 0, 6, .inl (fun _ => 0))), (q3, .inl (cA 0, 6, .inl (fun _ => 0)))] _ _ := hI
  refine lv_aload_n hx hb dX3_init_48 rfl (lv_at hl 0 rfl) ?_
  refine lv_iconst (v := 0) hx hb dX3_init_49 rfl ?_
  refine in_put Cx hI 0 7 rfl rfl inlX3 tyX3 tyX3_ok nmX3 (by decide) rfl rfl rfl (Nat.le_of_ble_eq_true rfl) wd_4_8 dX3_init_50 (fun H locs hI => ?_)
  have hI : in_I D A s [(h0, .inr (3, [.ref q1, .ref q2, .ref q3, .int 0, .int 0, .int 0, .int 0, .int 0, .int 0, .int 0, .int 0, .int 0, .int 0, .int 0, .int 0, .int 0, .int 0])), (q1, .inl (cA 0, 24, .inl (fun _ => 0))), (q2, .inl (cA 0, 6, .inl (fun _ => 0))), (q3, .inl (cA 0, 6, .inl (fun _ => 0)))] _ _ := hI
  refine lv_aload_n hx hb dX3_init_53 rfl (lv_at hl 0 rfl) ?_
  refine lv_iconst (v := 0) hx hb dX3_init_54 rfl ?_
  refine in_put Cx hI 0 8 rfl rfl inlX3 tyX3 tyX3_ok nmX3 (by decide) rfl rfl rfl (Nat.le_of_ble_eq_true rfl) wd_4_9 dX3_init_55 (fun H locs hI => ?_)
  have hI : in_I D A s [(h0, .inr (3, [.ref q1, .ref q2, .ref q3, .int 0, .int 0, .int 0, .int 0, .int 0, .int 0, .int 0, .int 0, .int 0, .int 0, .int 0, .int 0, .int 0, .int 0])), (q1, .inl (cA 0, 24, .inl (fun _ => 0))), (q2, .inl (cA 0, 6, .inl (fun _ => 0))), (q3, .inl (cA 0, 6, .inl (fun _ => 0)))] _ _ := hI
  refine lv_aload_n hx hb dX3_init_58 rfl (lv_at hl 0 rfl) ?_
  refine lv_iconst (v := 0) hx hb dX3_init_59 rfl ?_
  refine in_put Cx hI 0 9 rfl rfl inlX3 tyX3 tyX3_ok nmX3 (by decide) rfl rfl rfl (Nat.le_of_ble_eq_true rfl) wd_4_10 dX3_init_60 (fun H locs hI => ?_)
  have hI : in_I D A s [(h0, .inr (3, [.ref q1, .ref q2, .ref q3, .int 0, .int 0, .int 0, .int 0, .int 0, .int 0, .int 0, .int 0, .int 0, .int 0, .int 0, .int 0, .int 0, .int 0])), (q1, .inl (cA 0, 24, .inl (fun _ => 0))), (q2, .inl (cA 0, 6, .inl (fun _ => 0))), (q3, .inl (cA 0, 6, .inl (fun _ => 0)))] _ _ := hI
  refine lv_aload_n hx hb dX3_init_63 rfl (lv_at hl 0 rfl) ?_
  refine lv_iconst (v := (-1)) hx hb dX3_init_64 rfl ?_
  refine in_put Cx hI 0 10 rfl rfl inlX3 tyX3 tyX3_ok nmX3 (by decide) rfl rfl rfl (Nat.le_of_ble_eq_true rfl) wd_4_11 dX3_init_65 (fun H locs hI => ?_)
  have hI : in_I D A s [(h0, .inr (3, [.ref q1, .ref q2, .ref q3, .int 0, .int 0, .int 0, .int 0, .int 0, .int 0, .int 0, .int (-1), .int 0, .int 0, .int 0, .int 0, .int 0, .int 0])), (q1, .inl (cA 0, 24, .inl (fun _ => 0))), (q2, .inl (cA 0, 6, .inl (fun _ => 0))), (q3, .inl (cA 0, 6, .inl (fun _ => 0)))] _ _ := hI
  refine lv_aload_n hx hb dX3_init_68 rfl (lv_at hl 0 rfl) ?_
  refine lv_iconst (v := 0) hx hb dX3_init_69 rfl ?_
  refine in_put Cx hI 0 11 rfl rfl inlX3 tyX3 tyX3_ok nmX3 (by decide) rfl rfl rfl (Nat.le_of_ble_eq_true rfl) wd_4_12 dX3_init_70 (fun H locs hI => ?_)
  have hI : in_I D A s [(h0, .inr (3, [.ref q1, .ref q2, .ref q3, .int 0, .int 0, .int 0, .int 0, .int 0, .int 0, .int 0, .int (-1), .int 0, .int 0, .int 0, .int 0, .int 0, .int 0])), (q1, .inl (cA 0, 24, .inl (fun _ => 0))), (q2, .inl (cA 0, 6, .inl (fun _ => 0))), (q3, .inl (cA 0, 6, .inl (fun _ => 0)))] _ _ := hI
  refine lv_aload_n hx hb dX3_init_73 rfl (lv_at hl 0 rfl) ?_
  refine lv_iconst (v := 0) hx hb dX3_init_74 rfl ?_
  refine in_put Cx hI 0 12 rfl rfl inlX3 tyX3 tyX3_ok nmX3 (by decide) rfl rfl rfl (Nat.le_of_ble_eq_true rfl) wd_4_13 dX3_init_75 (fun H locs hI => ?_)
  have hI : in_I D A s [(h0, .inr (3, [.ref q1, .ref q2, .ref q3, .int 0, .int 0, .int 0, .int 0, .int 0, .int 0, .int 0, .int (-1), .int 0, .int 0, .int 0, .int 0, .int 0, .int 0])), (q1, .inl (cA 0, 24, .inl (fun _ => 0))), (q2, .inl (cA 0, 6, .inl (fun _ => 0))), (q3, .inl (cA 0, 6, .inl (fun _ => 0)))] _ _ := hI
  refine lv_aload_n hx hb dX3_init_78 rfl (lv_at hl 0 rfl) ?_
  refine lv_iconst (v := 0) hx hb dX3_init_79 rfl ?_
  refine in_put Cx hI 0 13 rfl rfl inlX3 tyX3 tyX3_ok nmX3 (by decide) rfl rfl rfl (Nat.le_of_ble_eq_true rfl) wd_4_14 dX3_init_80 (fun H locs hI => ?_)
  have hI : in_I D A s [(h0, .inr (3, [.ref q1, .ref q2, .ref q3, .int 0, .int 0, .int 0, .int 0, .int 0, .int 0, .int 0, .int (-1), .int 0, .int 0, .int 0, .int 0, .int 0, .int 0])), (q1, .inl (cA 0, 24, .inl (fun _ => 0))), (q2, .inl (cA 0, 6, .inl (fun _ => 0))), (q3, .inl (cA 0, 6, .inl (fun _ => 0)))] _ _ := hI
  refine lv_aload_n hx hb dX3_init_83 rfl (lv_at hl 0 rfl) ?_
  refine lv_iconst (v := 0) hx hb dX3_init_84 rfl ?_
  refine in_put Cx hI 0 14 rfl rfl inlX3 tyX3 tyX3_ok nmX3 (by decide) rfl rfl rfl (Nat.le_of_ble_eq_true rfl) wd_4_15 dX3_init_85 (fun H locs hI => ?_)
  have hI : in_I D A s [(h0, .inr (3, [.ref q1, .ref q2, .ref q3, .int 0, .int 0, .int 0, .int 0, .int 0, .int 0, .int 0, .int (-1), .int 0, .int 0, .int 0, .int 0, .int 0, .int 0])), (q1, .inl (cA 0, 24, .inl (fun _ => 0))), (q2, .inl (cA 0, 6, .inl (fun _ => 0))), (q3, .inl (cA 0, 6, .inl (fun _ => 0)))] _ _ := hI
  refine lv_aload_n hx hb dX3_init_88 rfl (lv_at hl 0 rfl) ?_
  refine lv_iconst (v := 0) hx hb dX3_init_89 rfl ?_
  refine in_put Cx hI 0 15 rfl rfl inlX3 tyX3 tyX3_ok nmX3 (by decide) rfl rfl rfl (Nat.le_of_ble_eq_true rfl) wd_4_16 dX3_init_90 (fun H locs hI => ?_)
  have hI : in_I D A s [(h0, .inr (3, [.ref q1, .ref q2, .ref q3, .int 0, .int 0, .int 0, .int 0, .int 0, .int 0, .int 0, .int (-1), .int 0, .int 0, .int 0, .int 0, .int 0, .int 0])), (q1, .inl (cA 0, 24, .inl (fun _ => 0))), (q2, .inl (cA 0, 6, .inl (fun _ => 0))), (q3, .inl (cA 0, 6, .inl (fun _ => 0)))] _ _ := hI
  refine lv_aload_n hx hb dX3_init_93 rfl (lv_at hl 0 rfl) ?_
  refine lv_iconst (v := 0) hx hb dX3_init_94 rfl ?_
  refine in_put Cx hI 0 16 rfl rfl inlX3 tyX3 tyX3_ok nmX3 (by decide) rfl rfl rfl (Nat.le_of_ble_eq_true rfl) wd_4_17 dX3_init_95 (fun H locs hI => ?_)
  have hI : in_I D A s [(h0, .inr (3, [.ref q1, .ref q2, .ref q3, .int 0, .int 0, .int 0, .int 0, .int 0, .int 0, .int 0, .int (-1), .int 0, .int 0, .int 0, .int 0, .int 0, .int 0])), (q1, .inl (cA 0, 24, .inl (fun _ => 0))), (q2, .inl (cA 0, 6, .inl (fun _ => 0))), (q3, .inl (cA 0, 6, .inl (fun _ => 0)))] _ _ := hI
  exact in_ret (wf := wfX3 cA h0) Cx hI (fun i => ([h0, q1, q2, q3] : List Nat).getD i 0) rfl [0, 1, 2, 3] rfl rfl (by decide) dX3_init_98
theorem dX4_init_0 : decode cX4_init 0 = .ok (.aload_n 0, 1) := by decide +kernel
theorem dX4_init_1 : decode cX4_init 1 = .ok (.invokespecial 3, 3) := by decide +kernel
theorem dX4_init_4 : decode cX4_init 4 = .ok (.aload_n 0, 1) := by decide +kernel
theorem dX4_init_5 : decode cX4_init 5 = .ok (.bipush 100, 2) := by decide +kernel
theorem dX4_init_7 : decode cX4_init 7 = .ok (.newarray .int, 2) := by decide +kernel
theorem dX4_init_9 : decode cX4_init 9 = .ok (.putfield 9, 3) := by decide +kernel
theorem dX4_init_12 : decode cX4_init 12 = .ok (.aload_n 0, 1) := by decide +kernel
theorem dX4_init_13 : decode cX4_init 13 = .ok (.bipush 24, 2) := by decide +kernel
theorem dX4_init_15 : decode cX4_init 15 = .ok (.newarray .int, 2) := by decide +kernel
theorem dX4_init_17 : decode cX4_init 17 = .ok (.putfield 15, 3) := by decide +kernel
theorem dX4_init_20 : decode cX4_init 20 = .ok (.aload_n 0, 1) := by decide +kernel
theorem dX4_init_21 : decode cX4_init 21 = .ok (.bipush 48, 2) := by decide +kernel
theorem dX4_init_23 : decode cX4_init 23 = .ok (.newarray .int, 2) := by decide +kernel
theorem dX4_init_25 : decode cX4_init 25 = .ok (.putfield 18, 3) := by decide +kernel
theorem dX4_init_28 : decode cX4_init 28 = .ok (.aload_n 0, 1) := by decide +kernel
theorem dX4_init_29 : decode cX4_init 29 = .ok (.iconst 0, 1) := by decide +kernel
theorem dX4_init_30 : decode cX4_init 30 = .ok (.putfield 21, 3) := by decide +kernel
theorem dX4_init_33 : decode cX4_init 33 = .ok (.aload_n 0, 1) := by decide +kernel
theorem dX4_init_34 : decode cX4_init 34 = .ok (.iconst 0, 1) := by decide +kernel
theorem dX4_init_35 : decode cX4_init 35 = .ok (.putfield 25, 3) := by decide +kernel
theorem dX4_init_38 : decode cX4_init 38 = .ok (.aload_n 0, 1) := by decide +kernel
theorem dX4_init_39 : decode cX4_init 39 = .ok (.iconst 0, 1) := by decide +kernel
theorem dX4_init_40 : decode cX4_init 40 = .ok (.putfield 28, 3) := by decide +kernel
theorem dX4_init_43 : decode cX4_init 43 = .ok (.aload_n 0, 1) := by decide +kernel
theorem dX4_init_44 : decode cX4_init 44 = .ok (.iconst 0, 1) := by decide +kernel
theorem dX4_init_45 : decode cX4_init 45 = .ok (.putfield 31, 3) := by decide +kernel
theorem dX4_init_48 : decode cX4_init 48 = .ok (.aload_n 0, 1) := by decide +kernel
theorem dX4_init_49 : decode cX4_init 49 = .ok (.iconst (-1), 1) := by decide +kernel
theorem dX4_init_50 : decode cX4_init 50 = .ok (.putfield 34, 3) := by decide +kernel
theorem dX4_init_53 : decode cX4_init 53 = .ok (.aload_n 0, 1) := by decide +kernel
theorem dX4_init_54 : decode cX4_init 54 = .ok (.iconst 0, 1) := by decide +kernel
theorem dX4_init_55 : decode cX4_init 55 = .ok (.putfield 37, 3) := by decide +kernel
theorem dX4_init_58 : decode cX4_init 58 = .ok (.return_, 1) := by decide +kernel
abbrev rmiX4 : Room := { frames := 1, cells := 3, slots := 172, locals := 12 }
def wfX4 (cA : Nat → ClassId) (h0  : Nat) (u : Nat → Nat) : va_W := [(h0, .inr (4, [.ref (u 1), .ref (u 2), .ref (u 3), .int 0, .int 0, .int 0, .int 0, .int (-1), .int 0])), ((u 1), .inl (cA 0, 100, .inl (fun _ => 0))), ((u 2), .inl (cA 0, 24, .inl (fun _ => 0))), ((u 3), .inl (cA 0, 48, .inl (fun _ => 0)))]
theorem ihX4 : yX4_init.cls ≠ "java/lang/invoke/MethodHandle" ∧ yX4_init.cls ≠ "java/lang/invoke/VarHandle" ∧ (parseMethodDescriptor yX4_init.desc).map (fun d => d.parameters.length) = some 0 := ⟨by decide +kernel, by decide +kernel, by decide +kernel⟩
theorem dfX4 : ∀ j, j < 9 → defaultValue (tyX4 j) = vp_V [.null, .null, .null, .int 0, .int 0, .int 0, .int 0, .int 0, .int 0] j := by decide +kernel
set_option maxHeartbeats 4000000 in
set_option maxRecDepth 100000 in
theorem iniX4 (l : Launch) (D : va_G) (cA : Nat → ClassId) (h0  sz : Nat) : Met l yX4_init (.code yX4_init cX4_init 1 none :: wsL_law) rmiX4 (in_Pc D cA [.ref h0] [(h0, .inr (4, [.null, .null, .null, .int 0, .int 0, .int 0, .int 0, .int 0, .int 0]))] sz (fun _ => True)) (in_Q D (va_A [(h0, .inr (4, [.null, .null, .null, .int 0, .int 0, .int 0, .int 0, .int 0, .int 0]))] sz) h0 (wfX4 cA h0)) 3 172 (va_A [(h0, .inr (4, [.null, .null, .null, .int 0, .int 0, .int 0, .int 0, .int 0, .int 0]))] sz) := by
  refine Met.ofW (cc := cX4_init) (maxL := 1) (ret := none) (by decide) rfl ?_
  intro p e s m args below meth c s₁ B hml hv
  obtain ⟨rfl, hsz, hK, hN, hP, hD0, -⟩ := hv
  have Cx : in_C p s m #[.ref h0] meth c D cA cX4_init 1 RX4 := ⟨B.exec, B.bytes, hml, findClass_of_methodNamed B.named, fun w hw => atoms_spec (ws := .code yX4_init cX4_init 1 none :: wsL_law) B.pre w (List.mem_cons_of_mem _ hw), B.returns, B.notSynchronized, hK, hN, (name_of_methodNamed B.named B.method).1⟩
  have hx := Cx.1
  have hb := Cx.2.1
  subst hsz
  have hD := hD0.self (sz := s.heap.size)
  generalize hAe : va_A [(h0, .inr (4, [.null, .null, .null, .int 0, .int 0, .int 0, .int 0, .int 0, .int 0]))] s.heap.size = A at hD ⊢
  have hA : ∀ q : Nat, s.heap.size ≤ q → A q := fun q h => by rw [← hAe]; exact Or.inr h
  have hl := lv_entry ([.ref h0]) (n := 1) (Nat.le_of_ble_eq_true rfl)
  rw [lg_entry_eq]
  generalize (lg_sl ([.ref h0]) ++ List.replicate (1 - (lg_sl ([.ref h0])).length) Slot.unset).toArray = ls at hl ⊢
  have hl : lv_has ls 1 [(0, .ref h0)] := hl
  have hI : in_I D A s [(h0, .inr (4, [.null, .null, .null, .int 0, .int 0, .int 0, .int 0, .int 0, .int 0]))] s.heap [] := ⟨hP, hD, va_S.rf, hA⟩
  refine lv_aload_n hx hb dX4_init_0 rfl (lv_at hl 0 rfl) ?_
  refine in_obj Cx wd_3_6 hl.1 dX4_init_1 (Nat.le_of_ble_eq_true rfl) (Nat.le_of_ble_eq_true rfl) ?_
  refine lv_aload_n hx hb dX4_init_4 rfl (lv_at hl 0 rfl) ?_
  refine lv_bipush (v := 100) hx hb dX4_init_5 rfl ?_
  refine in_newI Cx hI 100 (by decide) (by decide) (by decide) (Nat.le_of_ble_eq_true rfl) (Nat.le_of_ble_eq_true rfl) dX4_init_7 (fun q1 H hI => ?_)
  have hI : in_I D A s [(h0, .inr (4, [.null, .null, .null, .int 0, .int 0, .int 0, .int 0, .int 0, .int 0])), (q1, .inl (cA 0, 100, .inl (fun _ => 0)))] _ _ := hI
  refine W.widen (k := 1) (n := 100) (Nat.le_of_ble_eq_true rfl) (Nat.le_of_ble_eq_true rfl) ?_
  refine in_putF Cx hI 0 0 rfl rfl inlX4 tyX4 tyX4_ok nmX4 (by decide) rfl rfl rfl rfl (Nat.le_of_ble_eq_true rfl) wd_3_7 dX4_init_9 (fun H locs hI => ?_)
  have hI : in_I D A s [(h0, .inr (4, [.ref q1, .null, .null, .int 0, .int 0, .int 0, .int 0, .int 0, .int 0])), (q1, .inl (cA 0, 100, .inl (fun _ => 0)))] _ _ := hI
  refine lv_aload_n hx hb dX4_init_12 rfl (lv_at hl 0 rfl) ?_
  refine lv_bipush (v := 24) hx hb dX4_init_13 rfl ?_
  refine in_newI Cx hI 24 (by decide) (by decide) (by decide) (Nat.le_of_ble_eq_true rfl) (Nat.le_of_ble_eq_true rfl) dX4_init_15 (fun q2 H hI => ?_)
  have hI : in_I D A s [(h0, .inr (4, [.ref q1, .null, .null, .int 0, .int 0, .int 0, .int 0, .int 0, .int 0])), (q1, .inl (cA 0, 100, .inl (fun _ => 0))), (q2, .inl (cA 0, 24, .inl (fun _ => 0)))] _ _ := hI
  refine W.widen (k := 2) (n := 124) (Nat.le_of_ble_eq_true rfl) (Nat.le_of_ble_eq_true rfl) ?_
  refine in_putF Cx hI 0 1 rfl rfl inlX4 tyX4 tyX4_ok nmX4 (by decide) rfl rfl rfl rfl (Nat.le_of_ble_eq_true rfl) wd_3_8 dX4_init_17 (fun H locs hI => ?_)
  have hI : in_I D A s [(h0, .inr (4, [.ref q1, .ref q2, .null, .int 0, .int 0, .int 0, .int 0, .int 0, .int 0])), (q1, .inl (cA 0, 100, .inl (fun _ => 0))), (q2, .inl (cA 0, 24, .inl (fun _ => 0)))] _ _ := hI
  refine lv_aload_n hx hb dX4_init_20 rfl (lv_at hl 0 rfl) ?_
  refine lv_bipush (v := 48) hx hb dX4_init_21 rfl ?_
  refine in_newI Cx hI 48 (by decide) (by decide) (by decide) (Nat.le_of_ble_eq_true rfl) (Nat.le_of_ble_eq_true rfl) dX4_init_23 (fun q3 H hI => ?_)
  have hI : in_I D A s [(h0, .inr (4, [.ref q1, .ref q2, .null, .int 0, .int 0, .int 0, .int 0, .int 0, .int 0])), (q1, .inl (cA 0, 100, .inl (fun _ => 0))), (q2, .inl (cA 0, 24, .inl (fun _ => 0))), (q3, .inl (cA 0, 48, .inl (fun _ => 0)))] _ _ := hI
  refine W.widen (k := 3) (n := 172) (Nat.le_of_ble_eq_true rfl) (Nat.le_of_ble_eq_true rfl) ?_
  refine in_putF Cx hI 0 2 rfl rfl inlX4 tyX4 tyX4_ok nmX4 (by decide) rfl rfl rfl rfl (Nat.le_of_ble_eq_true rfl) wd_3_9 dX4_init_25 (fun H locs hI => ?_)
  have hI : in_I D A s [(h0, .inr (4, [.ref q1, .ref q2, .ref q3, .int 0, .int 0, .int 0, .int 0, .int 0, .int 0])), (q1, .inl (cA 0, 100, .inl (fun _ => 0))), (q2, .inl (cA 0, 24, .inl (fun _ => 0))), (q3, .inl (cA 0, 48, .inl (fun _ => 0)))] _ _ := hI
  refine lv_aload_n hx hb dX4_init_28 rfl (lv_at hl 0 rfl) ?_
  refine lv_iconst (v := 0) hx hb dX4_init_29 rfl ?_
  refine in_put Cx hI 0 3 rfl rfl inlX4 tyX4 tyX4_ok nmX4 (by decide) rfl rfl rfl (Nat.le_of_ble_eq_true rfl) wd_3_10 dX4_init_30 (fun H locs hI => ?_)
  have hI : in_I D A s [(h0, .inr (4, [.ref q1, .ref q2, .ref q3, .int 0, .int 0, .int 0, .int 0, .int 0, .int 0])), (q1, .inl (cA 0, 100, .inl (fun _ => 0))), (q2, .inl (cA 0, 24, .inl (fun _ => 0))), (q3, .inl (cA 0, 48, .inl (fun _ => 0)))] _ _ := hI
  refine lv_aload_n hx hb dX4_init_33 rfl (lv_at hl 0 rfl) ?_
  refine lv_iconst (v := 0) hx hb dX4_init_34 rfl ?_
  refine in_put Cx hI 0 4 rfl rfl inlX4 tyX4 tyX4_ok nmX4 (by decide) rfl rfl rfl (Nat.le_of_ble_eq_true rfl) wd_3_11 dX4_init_35 (fun H locs hI => ?_)
  have hI : in_I D A s [(h0, .inr (4, [.ref q1, .ref q2, .ref q3, .int 0, .int 0, .int 0, .int 0, .int 0, .int 0])), (q1, .inl (cA 0, 100, .inl (fun _ => 0))), (q2, .inl (cA 0, 24, .inl (fun _ => 0))), (q3, .inl (cA 0, 48, .inl (fun _ => 0)))] _ _ := hI
  refine lv_aload_n hx hb dX4_init_38 rfl (lv_at hl 0 rfl) ?_
  refine lv_iconst (v := 0) hx hb dX4_init_39 rfl ?_
  refine in_put Cx hI 0 5 rfl rfl inlX4 tyX4 tyX4_ok nmX4 (by decide) rfl rfl rfl (Nat.le_of_ble_eq_true rfl) wd_3_12 dX4_init_40 (fun H locs hI => ?_)
  have hI : in_I D A s [(h0, .inr (4, [.ref q1, .ref q2, .ref q3, .int 0, .int 0, .int 0, .int 0, .int 0, .int 0])), (q1, .inl (cA 0, 100, .inl (fun _ => 0))), (q2, .inl (cA 0, 24, .inl (fun _ => 0))), (q3, .inl (cA 0, 48, .inl (fun _ => 0)))] _ _ := hI
  refine lv_aload_n hx hb dX4_init_43 rfl (lv_at hl 0 rfl) ?_
  refine lv_iconst (v := 0) hx hb dX4_init_44 rfl ?_
  refine in_put Cx hI 0 6 rfl rfl inlX4 tyX4 tyX4_ok nmX4 (by decide) rfl rfl rfl (Nat.le_of_ble_eq_true rfl) wd_3_13 dX4_init_45 (fun H locs hI => ?_)
  have hI : in_I D A s [(h0, .inr (4, [.ref q1, .ref q2, .ref q3, .int 0, .int 0, .int 0, .int 0, .int 0, .int 0])), (q1, .inl (cA 0, 100, .inl (fun _ => 0))), (q2, .inl (cA 0, 24, .inl (fun _ => 0))), (q3, .inl (cA 0, 48, .inl (fun _ => 0)))] _ _ := hI
  refine lv_aload_n hx hb dX4_init_48 rfl (lv_at hl 0 rfl) ?_
  refine lv_iconst (v := (-1)) hx hb dX4_init_49 rfl ?_
  refine in_put Cx hI 0 7 rfl rfl inlX4 tyX4 tyX4_ok nmX4 (by decide) rfl rfl rfl (Nat.le_of_ble_eq_true rfl) wd_3_14 dX4_init_50 (fun H locs hI => ?_)
  have hI : in_I D A s [(h0, .inr (4, [.ref q1, .ref q2, .ref q3, .int 0, .int 0, .int 0, .int 0, .int (-1), .int 0])), (q1, .inl (cA 0, 100, .inl (fun _ => 0))), (q2, .inl (cA 0, 24, .inl (fun _ => 0))), (q3, .inl (cA 0, 48, .inl (fun _ => 0)))] _ _ := hI
  refine lv_aload_n hx hb dX4_init_53 rfl (lv_at hl 0 rfl) ?_
  refine lv_iconst (v := 0) hx hb dX4_init_54 rfl ?_
  refine in_put Cx hI 0 8 rfl rfl inlX4 tyX4 tyX4_ok nmX4 (by decide) rfl rfl rfl (Nat.le_of_ble_eq_true rfl) wd_3_15 dX4_init_55 (fun H locs hI => ?_)
  have hI : in_I D A s [(h0, .inr (4, [.ref q1, .ref q2, .ref q3, .int 0, .int 0, .int 0, .int 0, .int (-1), .int 0])), (q1, .inl (cA 0, 100, .inl (fun _ => 0))), (q2, .inl (cA 0, 24, .inl (fun _ => 0))), (q3, .inl (cA 0, 48, .inl (fun _ => 0)))] _ _ := hI
  exact in_ret (wf := wfX4 cA h0) Cx hI (fun i => ([h0, q1, q2, q3] : List Nat).getD i 0) rfl [0, 1, 2, 3] rfl rfl (by decide) dX4_init_58
theorem dX5_init_0 : decode cX5_init 0 = .ok (.aload_n 0, 1) := by decide +kernel
theorem dX5_init_1 : decode cX5_init 1 = .ok (.invokespecial 3, 3) := by decide +kernel
theorem dX5_init_4 : decode cX5_init 4 = .ok (.aload_n 0, 1) := by decide +kernel
theorem dX5_init_5 : decode cX5_init 5 = .ok (.bipush 12, 2) := by decide +kernel
theorem dX5_init_7 : decode cX5_init 7 = .ok (.newarray .int, 2) := by decide +kernel
theorem dX5_init_9 : decode cX5_init 9 = .ok (.putfield 9, 3) := by decide +kernel
theorem dX5_init_12 : decode cX5_init 12 = .ok (.aload_n 0, 1) := by decide +kernel
theorem dX5_init_13 : decode cX5_init 13 = .ok (.bipush 12, 2) := by decide +kernel
theorem dX5_init_15 : decode cX5_init 15 = .ok (.newarray .int, 2) := by decide +kernel
theorem dX5_init_17 : decode cX5_init 17 = .ok (.putfield 15, 3) := by decide +kernel
theorem dX5_init_20 : decode cX5_init 20 = .ok (.aload_n 0, 1) := by decide +kernel
theorem dX5_init_21 : decode cX5_init 21 = .ok (.sipush 240, 3) := by decide +kernel
theorem dX5_init_24 : decode cX5_init 24 = .ok (.newarray .int, 2) := by decide +kernel
theorem dX5_init_26 : decode cX5_init 26 = .ok (.putfield 18, 3) := by decide +kernel
theorem dX5_init_29 : decode cX5_init 29 = .ok (.aload_n 0, 1) := by decide +kernel
theorem dX5_init_30 : decode cX5_init 30 = .ok (.iconst 0, 1) := by decide +kernel
theorem dX5_init_31 : decode cX5_init 31 = .ok (.putfield 21, 3) := by decide +kernel
theorem dX5_init_34 : decode cX5_init 34 = .ok (.aload_n 0, 1) := by decide +kernel
theorem dX5_init_35 : decode cX5_init 35 = .ok (.iconst 0, 1) := by decide +kernel
theorem dX5_init_36 : decode cX5_init 36 = .ok (.putfield 25, 3) := by decide +kernel
theorem dX5_init_39 : decode cX5_init 39 = .ok (.aload_n 0, 1) := by decide +kernel
theorem dX5_init_40 : decode cX5_init 40 = .ok (.iconst 0, 1) := by decide +kernel
theorem dX5_init_41 : decode cX5_init 41 = .ok (.putfield 28, 3) := by decide +kernel
theorem dX5_init_44 : decode cX5_init 44 = .ok (.aload_n 0, 1) := by decide +kernel
theorem dX5_init_45 : decode cX5_init 45 = .ok (.iconst 0, 1) := by decide +kernel
theorem dX5_init_46 : decode cX5_init 46 = .ok (.putfield 32, 3) := by decide +kernel
theorem dX5_init_49 : decode cX5_init 49 = .ok (.aload_n 0, 1) := by decide +kernel
theorem dX5_init_50 : decode cX5_init 50 = .ok (.iconst (-1), 1) := by decide +kernel
theorem dX5_init_51 : decode cX5_init 51 = .ok (.putfield 35, 3) := by decide +kernel
theorem dX5_init_54 : decode cX5_init 54 = .ok (.aload_n 0, 1) := by decide +kernel
theorem dX5_init_55 : decode cX5_init 55 = .ok (.iconst 0, 1) := by decide +kernel
theorem dX5_init_56 : decode cX5_init 56 = .ok (.putfield 38, 3) := by decide +kernel
theorem dX5_init_59 : decode cX5_init 59 = .ok (.return_, 1) := by decide +kernel
abbrev rmiX5 : Room := { frames := 1, cells := 3, slots := 264, locals := 12 }
def wfX5 (cA : Nat → ClassId) (h0  : Nat) (u : Nat → Nat) : va_W := [(h0, .inr (5, [.ref (u 1), .ref (u 2), .ref (u 3), .int 0, .int 0, .int 0, .int 0, .int (-1), .int 0])), ((u 1), .inl (cA 0, 12, .inl (fun _ => 0))), ((u 2), .inl (cA 0, 12, .inl (fun _ => 0))), ((u 3), .inl (cA 0, 240, .inl (fun _ => 0)))]
theorem ihX5 : yX5_init.cls ≠ "java/lang/invoke/MethodHandle" ∧ yX5_init.cls ≠ "java/lang/invoke/VarHandle" ∧ (parseMethodDescriptor yX5_init.desc).map (fun d => d.parameters.length) = some 0 := ⟨by decide +kernel, by decide +kernel, by decide +kernel⟩
theorem dfX5 : ∀ j, j < 9 → defaultValue (tyX5 j) = vp_V [.null, .null, .null, .int 0, .int 0, .int 0, .int 0, .int 0, .int 0] j := by decide +kernel
set_option maxHeartbeats 4000000 in
set_option maxRecDepth 100000 in
theorem iniX5 (l : Launch) (D : va_G) (cA : Nat → ClassId) (h0  sz : Nat) : Met l yX5_init (.code yX5_init cX5_init 1 none :: wsL_law) rmiX5 (in_Pc D cA [.ref h0] [(h0, .inr (5, [.null, .null, .null, .int 0, .int 0, .int 0, .int 0, .int 0, .int 0]))] sz (fun _ => True)) (in_Q D (va_A [(h0, .inr (5, [.null, .null, .null, .int 0, .int 0, .int 0, .int 0, .int 0, .int 0]))] sz) h0 (wfX5 cA h0)) 3 264 (va_A [(h0, .inr (5, [.null, .null, .null, .int 0, .int 0, .int 0, .int 0, .int 0, .int 0]))] sz) := by
  refine Met.ofW (cc := cX5_init) (maxL := 1) (ret := none) (by decide) rfl ?_
  intro p e s m args below meth c s₁ B hml hv
  obtain ⟨rfl, hsz, hK, hN, hP, hD0, -⟩ := hv
  have Cx : in_C p s m #[.ref h0] meth c D cA cX5_init 1 RX5 := ⟨B.exec, B.bytes, hml, findClass_of_methodNamed B.named, fun w hw => atoms_spec (ws := .code yX5_init cX5_init 1 none :: wsL_law) B.pre w (List.mem_cons_of_mem _ hw), B.returns, B.notSynchronized, hK, hN, (name_of_methodNamed B.named B.method).1⟩
  have hx := Cx.1
  have hb := Cx.2.1
  subst hsz
  have hD := hD0.self (sz := s.heap.size)
  generalize hAe : va_A [(h0, .inr (5, [.null, .null, .null, .int 0, .int 0, .int 0, .int 0, .int 0, .int 0]))] s.heap.size = A at hD ⊢
  have hA : ∀ q : Nat, s.heap.size ≤ q → A q := fun q h => by rw [← hAe]; exact Or.inr h
  have hl := lv_entry ([.ref h0]) (n := 1) (Nat.le_of_ble_eq_true rfl)
  rw [lg_entry_eq]
  generalize (lg_sl ([.ref h0]) ++ List.replicate (1 - (lg_sl ([.ref h0])).length) Slot.unset).toArray = ls at hl ⊢
  have hl : lv_has ls 1 [(0, .ref h0)] := hl
  have hI : in_I D A s [(h0, .inr (5, [.null, .null, .null, .int 0, .int 0, .int 0, .int 0, .int 0, .int 0]))] s.heap [] := ⟨hP, hD, va_S.rf, hA⟩
  refine lv_aload_n hx hb dX5_init_0 rfl (lv_at hl 0 rfl) ?_
  refine in_obj Cx wd_5_16 hl.1 dX5_init_1 (Nat.le_of_ble_eq_true rfl) (Nat.le_of_ble_eq_true rfl) ?_
  refine lv_aload_n hx hb dX5_init_4 rfl (lv_at hl 0 rfl) ?_
  refine lv_bipush (v := 12) hx hb dX5_init_5 rfl ?_
  refine in_newI Cx hI 12 (by decide) (by decide) (by decide) (Nat.le_of_ble_eq_true rfl) (Nat.le_of_ble_eq_true rfl) dX5_init_7 (fun q1 H hI => ?_)
  have hI : in_I D A s [(h0, .inr (5, [.null, .null, .null, .int 0, .int 0, .int 0, .int 0, .int 0, .int 0])), (q1, .inl (cA 0, 12, .inl (fun _ => 0)))] _ _ := hI
  refine W.widen (k := 1) (n := 12) (Nat.le_of_ble_eq_true rfl) (Nat.le_of_ble_eq_true rfl) ?_
  refine in_putF Cx hI 0 0 rfl rfl inlX5 tyX5 tyX5_ok nmX5 (by decide) rfl rfl rfl rfl (Nat.le_of_ble_eq_true rfl) wd_5_17 dX5_init_9 (fun H locs hI => ?_)
  have hI : in_I D A s [(h0, .inr (5, [.ref q1, .null, .null, .int 0, .int 0, .int 0, .int 0, .int 0, .int 0])), (q1, .inl (cA 0, 12, .inl (fun _ => 0)))] _ _ := hI
  refine lv_aload_n hx hb dX5_init_12 rfl (lv_at hl 0 rfl) ?_
  refine lv_bipush (v := 12) hx hb dX5_init_13 rfl ?_
  refine in_newI Cx hI 12 (by decide) (by decide) (by decide) (Nat.le_of_ble_eq_true rfl) (Nat.le_of_ble_eq_true rfl) dX5_init_15 (fun q2 H hI => ?_)
  have hI : in_I D A s [(h0, .inr (5, [.ref q1, .null, .null, .int 0, .int 0, .int 0, .int 0, .int 0, .int 0])), (q1, .inl (cA 0, 12, .inl (fun _ => 0))), (q2, .inl (cA 0, 12, .inl (fun _ => 0)))] _ _ := hI
  refine W.widen (k := 2) (n := 24) (Nat.le_of_ble_eq_true rfl) (Nat.le_of_ble_eq_true rfl) ?_
  refine in_putF Cx hI 0 1 rfl rfl inlX5 tyX5 tyX5_ok nmX5 (by decide) rfl rfl rfl rfl (Nat.le_of_ble_eq_true rfl) wd_5_18 dX5_init_17 (fun H locs hI => ?_)
  have hI : in_I D A s [(h0, .inr (5, [.ref q1, .ref q2, .null, .int 0, .int 0, .int 0, .int 0, .int 0, .int 0])), (q1, .inl (cA 0, 12, .inl (fun _ => 0))), (q2, .inl (cA 0, 12, .inl (fun _ => 0)))] _ _ := hI
  refine lv_aload_n hx hb dX5_init_20 rfl (lv_at hl 0 rfl) ?_
  refine lv_sipush (v := 240) hx hb dX5_init_21 rfl ?_
  refine in_newI Cx hI 240 (by decide) (by decide) (by decide) (Nat.le_of_ble_eq_true rfl) (Nat.le_of_ble_eq_true rfl) dX5_init_24 (fun q3 H hI => ?_)
  have hI : in_I D A s [(h0, .inr (5, [.ref q1, .ref q2, .null, .int 0, .int 0, .int 0, .int 0, .int 0, .int 0])), (q1, .inl (cA 0, 12, .inl (fun _ => 0))), (q2, .inl (cA 0, 12, .inl (fun _ => 0))), (q3, .inl (cA 0, 240, .inl (fun _ => 0)))] _ _ := hI
  refine W.widen (k := 3) (n := 264) (Nat.le_of_ble_eq_true rfl) (Nat.le_of_ble_eq_true rfl) ?_
  refine in_putF Cx hI 0 2 rfl rfl inlX5 tyX5 tyX5_ok nmX5 (by decide) rfl rfl rfl rfl (Nat.le_of_ble_eq_true rfl) wd_5_19 dX5_init_26 (fun H locs hI => ?_)
  have hI : in_I D A s [(h0, .inr (5, [.ref q1, .ref q2, .ref q3, .int 0, .int 0, .int 0, .int 0, .int 0, .int 0])), (q1, .inl (cA 0, 12, .inl (fun _ => 0))), (q2, .inl (cA 0, 12, .inl (fun _ => 0))), (q3, .inl (cA 0, 240, .inl (fun _ => 0)))] _ _ := hI
  refine lv_aload_n hx hb dX5_init_29 rfl (lv_at hl 0 rfl) ?_
  refine lv_iconst (v := 0) hx hb dX5_init_30 rfl ?_
  refine in_put Cx hI 0 3 rfl rfl inlX5 tyX5 tyX5_ok nmX5 (by decide) rfl rfl rfl (Nat.le_of_ble_eq_true rfl) wd_5_20 dX5_init_31 (fun H locs hI => ?_)
  have hI : in_I D A s [(h0, .inr (5, [.ref q1, .ref q2, .ref q3, .int 0, .int 0, .int 0, .int 0, .int 0, .int 0])), (q1, .inl (cA 0, 12, .inl (fun _ => 0))), (q2, .inl (cA 0, 12, .inl (fun _ => 0))), (q3, .inl (cA 0, 240, .inl (fun _ => 0)))] _ _ := hI
  refine lv_aload_n hx hb dX5_init_34 rfl (lv_at hl 0 rfl) ?_
  refine lv_iconst (v := 0) hx hb dX5_init_35 rfl ?_
  refine in_put Cx hI 0 4 rfl rfl inlX5 tyX5 tyX5_ok nmX5 (by decide) rfl rfl rfl (Nat.le_of_ble_eq_true rfl) wd_5_21 dX5_init_36 (fun H locs hI => ?_)
  have hI : in_I D A s [(h0, .inr (5, [.ref q1, .ref q2, .ref q3, .int 0, .int 0, .int 0, .int 0, .int 0, .int 0])), (q1, .inl (cA 0, 12, .inl (fun _ => 0))), (q2, .inl (cA 0, 12, .inl (fun _ => 0))), (q3, .inl (cA 0, 240, .inl (fun _ => 0)))] _ _ := hI
  refine lv_aload_n hx hb dX5_init_39 rfl (lv_at hl 0 rfl) ?_
  refine lv_iconst (v := 0) hx hb dX5_init_40 rfl ?_
  refine in_put Cx hI 0 5 rfl rfl inlX5 tyX5 tyX5_ok nmX5 (by decide) rfl rfl rfl (Nat.le_of_ble_eq_true rfl) wd_5_22 dX5_init_41 (fun H locs hI => ?_)
  have hI : in_I D A s [(h0, .inr (5, [.ref q1, .ref q2, .ref q3, .int 0, .int 0, .int 0, .int 0, .int 0, .int 0])), (q1, .inl (cA 0, 12, .inl (fun _ => 0))), (q2, .inl (cA 0, 12, .inl (fun _ => 0))), (q3, .inl (cA 0, 240, .inl (fun _ => 0)))] _ _ := hI
  refine lv_aload_n hx hb dX5_init_44 rfl (lv_at hl 0 rfl) ?_
  refine lv_iconst (v := 0) hx hb dX5_init_45 rfl ?_
  refine in_put Cx hI 0 6 rfl rfl inlX5 tyX5 tyX5_ok nmX5 (by decide) rfl rfl rfl (Nat.le_of_ble_eq_true rfl) wd_5_23 dX5_init_46 (fun H locs hI => ?_)
  have hI : in_I D A s [(h0, .inr (5, [.ref q1, .ref q2, .ref q3, .int 0, .int 0, .int 0, .int 0, .int 0, .int 0])), (q1, .inl (cA 0, 12, .inl (fun _ => 0))), (q2, .inl (cA 0, 12, .inl (fun _ => 0))), (q3, .inl (cA 0, 240, .inl (fun _ => 0)))] _ _ := hI
  refine lv_aload_n hx hb dX5_init_49 rfl (lv_at hl 0 rfl) ?_
  refine lv_iconst (v := (-1)) hx hb dX5_init_50 rfl ?_
  refine in_put Cx hI 0 7 rfl rfl inlX5 tyX5 tyX5_ok nmX5 (by decide) rfl rfl rfl (Nat.le_of_ble_eq_true rfl) wd_6_0 dX5_init_51 (fun H locs hI => ?_)
  have hI : in_I D A s [(h0, .inr (5, [.ref q1, .ref q2, .ref q3, .int 0, .int 0, .int 0, .int 0, .int (-1), .int 0])), (q1, .inl (cA 0, 12, .inl (fun _ => 0))), (q2, .inl (cA 0, 12, .inl (fun _ => 0))), (q3, .inl (cA 0, 240, .inl (fun _ => 0)))] _ _ := hI
  refine lv_aload_n hx hb dX5_init_54 rfl (lv_at hl 0 rfl) ?_
  refine lv_iconst (v := 0) hx hb dX5_init_55 rfl ?_
  refine in_put Cx hI 0 8 rfl rfl inlX5 tyX5 tyX5_ok nmX5 (by decide) rfl rfl rfl (Nat.le_of_ble_eq_true rfl) wd_6_1 dX5_init_56 (fun H locs hI => ?_)
  have hI : in_I D A s [(h0, .inr (5, [.ref q1, .ref q2, .ref q3, .int 0, .int 0, .int 0, .int 0, .int (-1), .int 0])), (q1, .inl (cA 0, 12, .inl (fun _ => 0))), (q2, .inl (cA 0, 12, .inl (fun _ => 0))), (q3, .inl (cA 0, 240, .inl (fun _ => 0)))] _ _ := hI
  exact in_ret (wf := wfX5 cA h0) Cx hI (fun i => ([h0, q1, q2, q3] : List Nat).getD i 0) rfl [0, 1, 2, 3] rfl rfl (by decide) dX5_init_59
theorem dX6_init_0 : decode cX6_init 0 = .ok (.aload_n 0, 1) := by decide +kernel
theorem dX6_init_1 : decode cX6_init 1 = .ok (.invokespecial 3, 3) := by decide +kernel
theorem dX6_init_4 : decode cX6_init 4 = .ok (.aload_n 0, 1) := by decide +kernel
theorem dX6_init_5 : decode cX6_init 5 = .ok (.aload_n 1, 1) := by decide +kernel
theorem dX6_init_6 : decode cX6_init 6 = .ok (.putfield 9, 3) := by decide +kernel
theorem dX6_init_9 : decode cX6_init 9 = .ok (.aload_n 0, 1) := by decide +kernel
theorem dX6_init_10 : decode cX6_init 10 = .ok (.aload_n 2, 1) := by decide +kernel
theorem dX6_init_11 : decode cX6_init 11 = .ok (.putfield 15, 3) := by decide +kernel
theorem dX6_init_14 : decode cX6_init 14 = .ok (.return_, 1) := by decide +kernel
abbrev rmiX6 : Room := { frames := 1, cells := 0, slots := 0, locals := 12 }
def wfX6 (cA : Nat → ClassId) (h0 p1 p2 : Nat) (u : Nat → Nat) : va_W := [(h0, .inr (6, [.ref p1, .ref p2]))]
theorem ihX6 : yX6_init.cls ≠ "java/lang/invoke/MethodHandle" ∧ yX6_init.cls ≠ "java/lang/invoke/VarHandle" ∧ (parseMethodDescriptor yX6_init.desc).map (fun d => d.parameters.length) = some 2 := ⟨by decide +kernel, by decide +kernel, by decide +kernel⟩
theorem dfX6 : ∀ j, j < 2 → defaultValue (tyX6 j) = vp_V [.null, .null] j := by decide +kernel
set_option maxHeartbeats 4000000 in
set_option maxRecDepth 100000 in
theorem iniX6 (l : Launch) (D : va_G) (cA : Nat → ClassId) (h0 p1 p2 sz : Nat) : Met l yX6_init (.code yX6_init cX6_init 3 none :: wsL_law) rmiX6 (in_Pc D cA [.ref h0, .ref p1, .ref p2] [(h0, .inr (6, [.null, .null]))] sz (fun _ => True)) (in_Q D (va_A [(h0, .inr (6, [.null, .null]))] sz) h0 (wfX6 cA h0 p1 p2)) 0 0 (va_A [(h0, .inr (6, [.null, .null]))] sz) := by
  refine Met.ofW (cc := cX6_init) (maxL := 3) (ret := none) (by decide) rfl ?_
  intro p e s m args below meth c s₁ B hml hv
  obtain ⟨rfl, hsz, hK, hN, hP, hD0, -⟩ := hv
  have Cx : in_C p s m #[.ref h0, .ref p1, .ref p2] meth c D cA cX6_init 3 RX6 := ⟨B.exec, B.bytes, hml, findClass_of_methodNamed B.named, fun w hw => atoms_spec (ws := .code yX6_init cX6_init 3 none :: wsL_law) B.pre w (List.mem_cons_of_mem _ hw), B.returns, B.notSynchronized, hK, hN, (name_of_methodNamed B.named B.method).1⟩
  have hx := Cx.1
  have hb := Cx.2.1
  subst hsz
  have hD := hD0.self (sz := s.heap.size)
  generalize hAe : va_A [(h0, .inr (6, [.null, .null]))] s.heap.size = A at hD ⊢
  have hA : ∀ q : Nat, s.heap.size ≤ q → A q := fun q h => by rw [← hAe]; exact Or.inr h
  have hl := lv_entry ([.ref h0, .ref p1, .ref p2]) (n := 3) (Nat.le_of_ble_eq_true rfl)
  rw [lg_entry_eq]
  generalize (lg_sl ([.ref h0, .ref p1, .ref p2]) ++ List.replicate (3 - (lg_sl ([.ref h0, .ref p1, .ref p2])).length) Slot.unset).toArray = ls at hl ⊢
  have hl : lv_has ls 3 [(0, .ref h0), (1, .ref p1), (2, .ref p2)] := hl
  have hI : in_I D A s [(h0, .inr (6, [.null, .null]))] s.heap [] := ⟨hP, hD, va_S.rf, hA⟩
  refine lv_aload_n hx hb dX6_init_0 rfl (lv_at hl 0 rfl) ?_
  refine in_obj Cx wd_3_19 hl.1 dX6_init_1 (Nat.le_of_ble_eq_true rfl) (Nat.le_of_ble_eq_true rfl) ?_
  refine lv_aload_n hx hb dX6_init_4 rfl (lv_at hl 0 rfl) ?_
  refine lv_aload_n hx hb dX6_init_5 rfl (lv_at hl 1 rfl) ?_
  refine in_putF Cx hI 0 0 rfl rfl inlX6 tyX6 tyX6_ok nmX6 (by decide) rfl rfl rfl rfl (Nat.le_of_ble_eq_true rfl) wd_3_20 dX6_init_6 (fun H locs hI => ?_)
  have hI : in_I D A s [(h0, .inr (6, [.ref p1, .null]))] _ _ := hI
  refine lv_aload_n hx hb dX6_init_9 rfl (lv_at hl 0 rfl) ?_
  refine lv_aload_n hx hb dX6_init_10 rfl (lv_at hl 2 rfl) ?_
  refine in_putF Cx hI 0 1 rfl rfl inlX6 tyX6 tyX6_ok nmX6 (by decide) rfl rfl rfl rfl (Nat.le_of_ble_eq_true rfl) wd_3_21 dX6_init_11 (fun H locs hI => ?_)
  have hI : in_I D A s [(h0, .inr (6, [.ref p1, .ref p2]))] _ _ := hI
  exact in_ret (wf := wfX6 cA h0 p1 p2) Cx hI (fun i => ([h0] : List Nat).getD i 0) rfl [0] rfl rfl (by decide) dX6_init_14
