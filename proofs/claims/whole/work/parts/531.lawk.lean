/-! ===== the law's cases ===== -/
set_option maxHeartbeats 4000000 in
set_option maxRecDepth 100000 in
/-- type -/
theorem la_k0 {p : Program} {l : Launch} {e : Env} {s : State} {m : MethodId} {below : List Frame} {meth : Method} {c : Code} {Q : State → Prop} {D : va_G} {cA : Nat → ClassId} {aX aM : Nat → Nat} {b L i : Nat} {xs : Nat → Int32} {σ τ : Mm} {H : Heap} {locs : List Loc} {ls : Array Slot} (Cx : la_C p s m meth c b D cA aX aM L xs) (hI : la_I D cA aX aM s σ τ H locs) (hR : Rel σ τ) (hi : i + 6 ≤ L) (hl : lv_has ls 4 [(0, .ref b), (1, .ref (aX 0)), (2, .ref (aM 0)), (3, .int (nI i))]) (kk : ∀ (σ τ : Mm) (H : Heap) (locs : List Loc), Rel σ τ → la_I D cA aX aM s σ τ H locs → W p l e room_1 s m #[Value.ref b] below meth c H locs 600000 7302250 Q (F0 m 1211 ls [])) : W p l e room_1 s m #[Value.ref b] below meth c H locs 600000 7302250 Q (F0 m 192 ls []) := by
  have hx := Cx.1
  have hb := Cx.2.1
  have hDX := Cx.2.2.2.2.2.2.2.2.2.1
  have hDM := Cx.2.2.2.2.2.2.2.2.2.2.1
  obtain ⟨r, σ1, τ1, f1, f2, hR1⟩ := s_type hR (xs (i + 1))
  refine lv_aload_n hx hb dL_law_192 rfl (lv_at hl 1 rfl) ?_
  refine la_arg Cx hI hl 1 (by omega) rfl dL_law_193 dL_law_194 dL_law_195 dL_law_196 dL_law_197 ?_
  refine la_cX (av := [.int (xs (i + 1))]) (r := r) (u := σ1) Cx hI yvX7_type (metX7_type l hDX f1) ms_blind (la_pX Cx hI _) ⟨rfl, rfl⟩ wd_7_18 ⟨(Nat.le_of_ble_eq_true rfl), (Nat.le_of_ble_eq_true rfl)⟩ rfl hl.1 rfl (Nat.le_of_ble_eq_true rfl) ⟨(Nat.le_of_ble_eq_true rfl), (Nat.le_of_ble_eq_true rfl)⟩ dL_law_198 (fun H locs hI => ?_)
  refine lv_aload_n hx hb dL_law_201 rfl (lv_at hl 2 rfl) ?_
  refine la_arg Cx hI hl 1 (by omega) rfl dL_law_202 dL_law_203 dL_law_204 dL_law_205 dL_law_206 ?_
  refine la_cM (av := [.int (xs (i + 1))]) (r := r) (u := τ1) Cx hI yvX8_type (metX8_type l hDM f2) ms_blind (la_pM Cx hI _) ⟨rfl, rfl⟩ wd_10_15 ⟨(Nat.le_of_ble_eq_true rfl), (Nat.le_of_ble_eq_true rfl)⟩ rfl hl.1 rfl (Nat.le_of_ble_eq_true rfl) ⟨(Nat.le_of_ble_eq_true rfl), (Nat.le_of_ble_eq_true rfl)⟩ dL_law_207 (fun H locs hI => ?_)
  exact lv_icmp_eq (tgt := 1211) hx hb dL_law_210 rfl (fun _ => kk σ1 τ1 H locs hR1 hI) (fun hc => absurd rfl hc)
set_option maxHeartbeats 4000000 in
set_option maxRecDepth 100000 in
/-- wipe -/
theorem la_k1 {p : Program} {l : Launch} {e : Env} {s : State} {m : MethodId} {below : List Frame} {meth : Method} {c : Code} {Q : State → Prop} {D : va_G} {cA : Nat → ClassId} {aX aM : Nat → Nat} {b L i : Nat} {xs : Nat → Int32} {σ τ : Mm} {H : Heap} {locs : List Loc} {ls : Array Slot} (Cx : la_C p s m meth c b D cA aX aM L xs) (hI : la_I D cA aX aM s σ τ H locs) (hR : Rel σ τ) (hi : i + 6 ≤ L) (hl : lv_has ls 4 [(0, .ref b), (1, .ref (aX 0)), (2, .ref (aM 0)), (3, .int (nI i))]) (kk : ∀ (σ τ : Mm) (H : Heap) (locs : List Loc), Rel σ τ → la_I D cA aX aM s σ τ H locs → W p l e room_1 s m #[Value.ref b] below meth c H locs 600000 7302250 Q (F0 m 1211 ls [])) : W p l e room_1 s m #[Value.ref b] below meth c H locs 600000 7302250 Q (F0 m 215 ls []) := by
  have hx := Cx.1
  have hb := Cx.2.1
  have hDX := Cx.2.2.2.2.2.2.2.2.2.1
  have hDM := Cx.2.2.2.2.2.2.2.2.2.2.1
  obtain ⟨r, σ1, τ1, f1, f2, hR1⟩ := s_wipe hR 
  refine lv_aload_n hx hb dL_law_215 rfl (lv_at hl 1 rfl) ?_
  refine la_cX (av := []) (r := r) (u := σ1) Cx hI yvX7_wipe (metX7_wipe l hDX f1) ms_blind (la_pX Cx hI _) ⟨rfl, rfl⟩ wd_10_23 ⟨(Nat.le_of_ble_eq_true rfl), (Nat.le_of_ble_eq_true rfl)⟩ rfl hl.1 rfl (Nat.le_of_ble_eq_true rfl) ⟨(Nat.le_of_ble_eq_true rfl), (Nat.le_of_ble_eq_true rfl)⟩ dL_law_216 (fun H locs hI => ?_)
  refine lv_aload_n hx hb dL_law_219 rfl (lv_at hl 2 rfl) ?_
  refine la_cM (av := []) (r := r) (u := τ1) Cx hI yvX8_wipe (metX8_wipe l hDM f2) ms_blind (la_pM Cx hI _) ⟨rfl, rfl⟩ wd_11_3 ⟨(Nat.le_of_ble_eq_true rfl), (Nat.le_of_ble_eq_true rfl)⟩ rfl hl.1 rfl (Nat.le_of_ble_eq_true rfl) ⟨(Nat.le_of_ble_eq_true rfl), (Nat.le_of_ble_eq_true rfl)⟩ dL_law_220 (fun H locs hI => ?_)
  exact lv_icmp_eq (tgt := 1211) hx hb dL_law_223 rfl (fun _ => kk σ1 τ1 H locs hR1 hI) (fun hc => absurd rfl hc)
set_option maxHeartbeats 4000000 in
set_option maxRecDepth 100000 in
/-- fault -/
theorem la_k2 {p : Program} {l : Launch} {e : Env} {s : State} {m : MethodId} {below : List Frame} {meth : Method} {c : Code} {Q : State → Prop} {D : va_G} {cA : Nat → ClassId} {aX aM : Nat → Nat} {b L i : Nat} {xs : Nat → Int32} {σ τ : Mm} {H : Heap} {locs : List Loc} {ls : Array Slot} (Cx : la_C p s m meth c b D cA aX aM L xs) (hI : la_I D cA aX aM s σ τ H locs) (hR : Rel σ τ) (hi : i + 6 ≤ L) (hl : lv_has ls 4 [(0, .ref b), (1, .ref (aX 0)), (2, .ref (aM 0)), (3, .int (nI i))]) (kk : ∀ (σ τ : Mm) (H : Heap) (locs : List Loc), Rel σ τ → la_I D cA aX aM s σ τ H locs → W p l e room_1 s m #[Value.ref b] below meth c H locs 600000 7302250 Q (F0 m 1211 ls [])) : W p l e room_1 s m #[Value.ref b] below meth c H locs 600000 7302250 Q (F0 m 228 ls []) := by
  have hx := Cx.1
  have hb := Cx.2.1
  have hDX := Cx.2.2.2.2.2.2.2.2.2.1
  have hDM := Cx.2.2.2.2.2.2.2.2.2.2.1
  obtain ⟨r, τ1, f1, f2, hR1⟩ := s_fault hR 
  refine lv_aload_n hx hb dL_law_228 rfl (lv_at hl 1 rfl) ?_
  refine la_cX (av := []) (r := r) (u := σ) Cx hI yvX7_fault (metX7_fault l hDX f1) ms_blind (la_pX Cx hI _) ⟨rfl, rfl⟩ wd_11_7 ⟨(Nat.le_of_ble_eq_true rfl), (Nat.le_of_ble_eq_true rfl)⟩ rfl hl.1 rfl (Nat.le_of_ble_eq_true rfl) ⟨(Nat.le_of_ble_eq_true rfl), (Nat.le_of_ble_eq_true rfl)⟩ dL_law_229 (fun H locs hI => ?_)
  refine lv_aload_n hx hb dL_law_232 rfl (lv_at hl 2 rfl) ?_
  refine la_cM (av := []) (r := r) (u := τ1) Cx hI yvX8_fault (metX8_fault l hDM f2) ms_blind (la_pM Cx hI _) ⟨rfl, rfl⟩ wd_11_12 ⟨(Nat.le_of_ble_eq_true rfl), (Nat.le_of_ble_eq_true rfl)⟩ rfl hl.1 rfl (Nat.le_of_ble_eq_true rfl) ⟨(Nat.le_of_ble_eq_true rfl), (Nat.le_of_ble_eq_true rfl)⟩ dL_law_233 (fun H locs hI => ?_)
  exact lv_icmp_eq (tgt := 1211) hx hb dL_law_236 rfl (fun _ => kk σ τ1 H locs hR1 hI) (fun hc => absurd rfl hc)
set_option maxHeartbeats 4000000 in
set_option maxRecDepth 100000 in
/-- thing -/
theorem la_k3 {p : Program} {l : Launch} {e : Env} {s : State} {m : MethodId} {below : List Frame} {meth : Method} {c : Code} {Q : State → Prop} {D : va_G} {cA : Nat → ClassId} {aX aM : Nat → Nat} {b L i : Nat} {xs : Nat → Int32} {σ τ : Mm} {H : Heap} {locs : List Loc} {ls : Array Slot} (Cx : la_C p s m meth c b D cA aX aM L xs) (hI : la_I D cA aX aM s σ τ H locs) (hR : Rel σ τ) (hi : i + 6 ≤ L) (hl : lv_has ls 4 [(0, .ref b), (1, .ref (aX 0)), (2, .ref (aM 0)), (3, .int (nI i))]) (kk : ∀ (σ τ : Mm) (H : Heap) (locs : List Loc), Rel σ τ → la_I D cA aX aM s σ τ H locs → W p l e room_1 s m #[Value.ref b] below meth c H locs 600000 7302250 Q (F0 m 1211 ls [])) : W p l e room_1 s m #[Value.ref b] below meth c H locs 600000 7302250 Q (F0 m 241 ls []) := by
  have hx := Cx.1
  have hb := Cx.2.1
  have hDX := Cx.2.2.2.2.2.2.2.2.2.1
  have hDM := Cx.2.2.2.2.2.2.2.2.2.2.1
  obtain ⟨r, τ1, f1, f2, hR1⟩ := s_thing hR (xs (i + 1)) (xs (i + 2))
  refine lv_aload_n hx hb dL_law_241 rfl (lv_at hl 1 rfl) ?_
  refine la_arg Cx hI hl 1 (by omega) rfl dL_law_242 dL_law_243 dL_law_244 dL_law_245 dL_law_246 ?_
  refine la_arg Cx hI hl 2 (by omega) rfl dL_law_247 dL_law_248 dL_law_249 dL_law_250 dL_law_251 ?_
  refine la_cX (av := [.int (xs (i + 1)), .int (xs (i + 2))]) (r := r) (u := σ) Cx hI yvX7_thing (metX7_thing l hDX f1) ms_blind (la_pX Cx hI _) ⟨rfl, rfl⟩ wd_13_6 ⟨(Nat.le_of_ble_eq_true rfl), (Nat.le_of_ble_eq_true rfl)⟩ rfl hl.1 rfl (Nat.le_of_ble_eq_true rfl) ⟨(Nat.le_of_ble_eq_true rfl), (Nat.le_of_ble_eq_true rfl)⟩ dL_law_252 (fun H locs hI => ?_)
  refine lv_aload_n hx hb dL_law_255 rfl (lv_at hl 2 rfl) ?_
  refine la_arg Cx hI hl 1 (by omega) rfl dL_law_256 dL_law_257 dL_law_258 dL_law_259 dL_law_260 ?_
  refine la_arg Cx hI hl 2 (by omega) rfl dL_law_261 dL_law_262 dL_law_263 dL_law_264 dL_law_265 ?_
  refine la_cM (av := [.int (xs (i + 1)), .int (xs (i + 2))]) (r := r) (u := τ1) Cx hI yvX8_thing (metX8_thing l hDM f2) ms_blind (la_pM Cx hI _) ⟨rfl, rfl⟩ wd_13_19 ⟨(Nat.le_of_ble_eq_true rfl), (Nat.le_of_ble_eq_true rfl)⟩ rfl hl.1 rfl (Nat.le_of_ble_eq_true rfl) ⟨(Nat.le_of_ble_eq_true rfl), (Nat.le_of_ble_eq_true rfl)⟩ dL_law_266 (fun H locs hI => ?_)
  exact lv_icmp_eq (tgt := 1211) hx hb dL_law_269 rfl (fun _ => kk σ τ1 H locs hR1 hI) (fun hc => absurd rfl hc)
set_option maxHeartbeats 4000000 in
set_option maxRecDepth 100000 in
/-- handle -/
theorem la_k4 {p : Program} {l : Launch} {e : Env} {s : State} {m : MethodId} {below : List Frame} {meth : Method} {c : Code} {Q : State → Prop} {D : va_G} {cA : Nat → ClassId} {aX aM : Nat → Nat} {b L i : Nat} {xs : Nat → Int32} {σ τ : Mm} {H : Heap} {locs : List Loc} {ls : Array Slot} (Cx : la_C p s m meth c b D cA aX aM L xs) (hI : la_I D cA aX aM s σ τ H locs) (hR : Rel σ τ) (hi : i + 6 ≤ L) (hl : lv_has ls 4 [(0, .ref b), (1, .ref (aX 0)), (2, .ref (aM 0)), (3, .int (nI i))]) (kk : ∀ (σ τ : Mm) (H : Heap) (locs : List Loc), Rel σ τ → la_I D cA aX aM s σ τ H locs → W p l e room_1 s m #[Value.ref b] below meth c H locs 600000 7302250 Q (F0 m 1211 ls [])) : W p l e room_1 s m #[Value.ref b] below meth c H locs 600000 7302250 Q (F0 m 274 ls []) := by
  have hx := Cx.1
  have hb := Cx.2.1
  have hDX := Cx.2.2.2.2.2.2.2.2.2.1
  have hDM := Cx.2.2.2.2.2.2.2.2.2.2.1
  obtain ⟨r, τ1, f1, f2, hR1⟩ := s_handle hR (xs (i + 1))
  refine lv_aload_n hx hb dL_law_274 rfl (lv_at hl 1 rfl) ?_
  refine la_arg Cx hI hl 1 (by omega) rfl dL_law_275 dL_law_276 dL_law_277 dL_law_278 dL_law_279 ?_
  refine la_cX (av := [.int (xs (i + 1))]) (r := r) (u := σ) Cx hI yvX7_handle (metX7_handle l hDX f1) ms_blind (la_pX Cx hI _) ⟨rfl, rfl⟩ wd_14_7 ⟨(Nat.le_of_ble_eq_true rfl), (Nat.le_of_ble_eq_true rfl)⟩ rfl hl.1 rfl (Nat.le_of_ble_eq_true rfl) ⟨(Nat.le_of_ble_eq_true rfl), (Nat.le_of_ble_eq_true rfl)⟩ dL_law_280 (fun H locs hI => ?_)
  refine lv_aload_n hx hb dL_law_283 rfl (lv_at hl 2 rfl) ?_
  refine la_arg Cx hI hl 1 (by omega) rfl dL_law_284 dL_law_285 dL_law_286 dL_law_287 dL_law_288 ?_
  refine la_cM (av := [.int (xs (i + 1))]) (r := r) (u := τ1) Cx hI yvX8_handle (metX8_handle l hDM f2) ms_blind (la_pM Cx hI _) ⟨rfl, rfl⟩ wd_14_12 ⟨(Nat.le_of_ble_eq_true rfl), (Nat.le_of_ble_eq_true rfl)⟩ rfl hl.1 rfl (Nat.le_of_ble_eq_true rfl) ⟨(Nat.le_of_ble_eq_true rfl), (Nat.le_of_ble_eq_true rfl)⟩ dL_law_289 (fun H locs hI => ?_)
  exact lv_icmp_eq (tgt := 1211) hx hb dL_law_292 rfl (fun _ => kk σ τ1 H locs hR1 hI) (fun hc => absurd rfl hc)
set_option maxHeartbeats 4000000 in
set_option maxRecDepth 100000 in
/-- group -/
theorem la_k5 {p : Program} {l : Launch} {e : Env} {s : State} {m : MethodId} {below : List Frame} {meth : Method} {c : Code} {Q : State → Prop} {D : va_G} {cA : Nat → ClassId} {aX aM : Nat → Nat} {b L i : Nat} {xs : Nat → Int32} {σ τ : Mm} {H : Heap} {locs : List Loc} {ls : Array Slot} (Cx : la_C p s m meth c b D cA aX aM L xs) (hI : la_I D cA aX aM s σ τ H locs) (hR : Rel σ τ) (hi : i + 6 ≤ L) (hl : lv_has ls 4 [(0, .ref b), (1, .ref (aX 0)), (2, .ref (aM 0)), (3, .int (nI i))]) (kk : ∀ (σ τ : Mm) (H : Heap) (locs : List Loc), Rel σ τ → la_I D cA aX aM s σ τ H locs → W p l e room_1 s m #[Value.ref b] below meth c H locs 600000 7302250 Q (F0 m 1211 ls [])) : W p l e room_1 s m #[Value.ref b] below meth c H locs 600000 7302250 Q (F0 m 297 ls []) := by
  have hx := Cx.1
  have hb := Cx.2.1
  have hDX := Cx.2.2.2.2.2.2.2.2.2.1
  have hDM := Cx.2.2.2.2.2.2.2.2.2.2.1
  obtain ⟨r, τ1, f1, f2, hR1⟩ := s_group hR (xs (i + 1)) (xs (i + 2))
  refine lv_aload_n hx hb dL_law_297 rfl (lv_at hl 1 rfl) ?_
  refine la_arg Cx hI hl 1 (by omega) rfl dL_law_298 dL_law_299 dL_law_300 dL_law_301 dL_law_302 ?_
  refine la_arg Cx hI hl 2 (by omega) rfl dL_law_303 dL_law_304 dL_law_305 dL_law_306 dL_law_307 ?_
  refine la_cX (av := [.int (xs (i + 1)), .int (xs (i + 2))]) (r := r) (u := σ) Cx hI yvX7_group (metX7_group l hDX f1) ms_blind (la_pX Cx hI _) ⟨rfl, rfl⟩ wd_14_20 ⟨(Nat.le_of_ble_eq_true rfl), (Nat.le_of_ble_eq_true rfl)⟩ rfl hl.1 rfl (Nat.le_of_ble_eq_true rfl) ⟨(Nat.le_of_ble_eq_true rfl), (Nat.le_of_ble_eq_true rfl)⟩ dL_law_308 (fun H locs hI => ?_)
  refine lv_aload_n hx hb dL_law_311 rfl (lv_at hl 2 rfl) ?_
  refine la_arg Cx hI hl 1 (by omega) rfl dL_law_312 dL_law_313 dL_law_314 dL_law_315 dL_law_316 ?_
  refine la_arg Cx hI hl 2 (by omega) rfl dL_law_317 dL_law_318 dL_law_319 dL_law_320 dL_law_321 ?_
  refine la_cM (av := [.int (xs (i + 1)), .int (xs (i + 2))]) (r := r) (u := τ1) Cx hI yvX8_group (metX8_group l hDM f2) ms_blind (la_pM Cx hI _) ⟨rfl, rfl⟩ wd_15_8 ⟨(Nat.le_of_ble_eq_true rfl), (Nat.le_of_ble_eq_true rfl)⟩ rfl hl.1 rfl (Nat.le_of_ble_eq_true rfl) ⟨(Nat.le_of_ble_eq_true rfl), (Nat.le_of_ble_eq_true rfl)⟩ dL_law_322 (fun H locs hI => ?_)
  exact lv_icmp_eq (tgt := 1211) hx hb dL_law_325 rfl (fun _ => kk σ τ1 H locs hR1 hI) (fun hc => absurd rfl hc)
set_option maxHeartbeats 4000000 in
set_option maxRecDepth 100000 in
/-- set -/
theorem la_k6 {p : Program} {l : Launch} {e : Env} {s : State} {m : MethodId} {below : List Frame} {meth : Method} {c : Code} {Q : State → Prop} {D : va_G} {cA : Nat → ClassId} {aX aM : Nat → Nat} {b L i : Nat} {xs : Nat → Int32} {σ τ : Mm} {H : Heap} {locs : List Loc} {ls : Array Slot} (Cx : la_C p s m meth c b D cA aX aM L xs) (hI : la_I D cA aX aM s σ τ H locs) (hR : Rel σ τ) (hi : i + 6 ≤ L) (hl : lv_has ls 4 [(0, .ref b), (1, .ref (aX 0)), (2, .ref (aM 0)), (3, .int (nI i))]) (kk : ∀ (σ τ : Mm) (H : Heap) (locs : List Loc), Rel σ τ → la_I D cA aX aM s σ τ H locs → W p l e room_1 s m #[Value.ref b] below meth c H locs 600000 7302250 Q (F0 m 1211 ls [])) : W p l e room_1 s m #[Value.ref b] below meth c H locs 600000 7302250 Q (F0 m 330 ls []) := by
  have hx := Cx.1
  have hb := Cx.2.1
  have hDX := Cx.2.2.2.2.2.2.2.2.2.1
  have hDM := Cx.2.2.2.2.2.2.2.2.2.2.1
  obtain ⟨r, σ1, τ1, f1, f2, hR1⟩ := s_set hR (xs (i + 1)) (xs (i + 2))
  refine lv_aload_n hx hb dL_law_330 rfl (lv_at hl 1 rfl) ?_
  refine la_arg Cx hI hl 1 (by omega) rfl dL_law_331 dL_law_332 dL_law_333 dL_law_334 dL_law_335 ?_
  refine la_arg Cx hI hl 2 (by omega) rfl dL_law_336 dL_law_337 dL_law_338 dL_law_339 dL_law_340 ?_
  refine la_cX (av := [.int (xs (i + 1)), .int (xs (i + 2))]) (r := r) (u := σ1) Cx hI yvX7_set (metX7_set l hDX f1) la_bZ (la_pZ Cx hI _) ⟨rfl, rfl⟩ wd_15_16 ⟨(Nat.le_of_ble_eq_true rfl), (Nat.le_of_ble_eq_true rfl)⟩ rfl hl.1 rfl (Nat.le_of_ble_eq_true rfl) ⟨(Nat.le_of_ble_eq_true rfl), (Nat.le_of_ble_eq_true rfl)⟩ dL_law_341 (fun H locs hI => ?_)
  refine lv_aload_n hx hb dL_law_344 rfl (lv_at hl 2 rfl) ?_
  refine la_arg Cx hI hl 1 (by omega) rfl dL_law_345 dL_law_346 dL_law_347 dL_law_348 dL_law_349 ?_
  refine la_arg Cx hI hl 2 (by omega) rfl dL_law_350 dL_law_351 dL_law_352 dL_law_353 dL_law_354 ?_
  refine la_cM (av := [.int (xs (i + 1)), .int (xs (i + 2))]) (r := r) (u := τ1) Cx hI yvX8_set (metX8_set l hDM f2) ms_blind (la_pM Cx hI _) ⟨rfl, rfl⟩ wd_15_22 ⟨(Nat.le_of_ble_eq_true rfl), (Nat.le_of_ble_eq_true rfl)⟩ rfl hl.1 rfl (Nat.le_of_ble_eq_true rfl) ⟨(Nat.le_of_ble_eq_true rfl), (Nat.le_of_ble_eq_true rfl)⟩ dL_law_355 (fun H locs hI => ?_)
  exact lv_icmp_eq (tgt := 1211) hx hb dL_law_358 rfl (fun _ => kk σ1 τ1 H locs hR1 hI) (fun hc => absurd rfl hc)
set_option maxHeartbeats 4000000 in
set_option maxRecDepth 100000 in
/-- shut -/
theorem la_k7 {p : Program} {l : Launch} {e : Env} {s : State} {m : MethodId} {below : List Frame} {meth : Method} {c : Code} {Q : State → Prop} {D : va_G} {cA : Nat → ClassId} {aX aM : Nat → Nat} {b L i : Nat} {xs : Nat → Int32} {σ τ : Mm} {H : Heap} {locs : List Loc} {ls : Array Slot} (Cx : la_C p s m meth c b D cA aX aM L xs) (hI : la_I D cA aX aM s σ τ H locs) (hR : Rel σ τ) (hi : i + 6 ≤ L) (hl : lv_has ls 4 [(0, .ref b), (1, .ref (aX 0)), (2, .ref (aM 0)), (3, .int (nI i))]) (kk : ∀ (σ τ : Mm) (H : Heap) (locs : List Loc), Rel σ τ → la_I D cA aX aM s σ τ H locs → W p l e room_1 s m #[Value.ref b] below meth c H locs 600000 7302250 Q (F0 m 1211 ls [])) : W p l e room_1 s m #[Value.ref b] below meth c H locs 600000 7302250 Q (F0 m 363 ls []) := by
  have hx := Cx.1
  have hb := Cx.2.1
  have hDX := Cx.2.2.2.2.2.2.2.2.2.1
  have hDM := Cx.2.2.2.2.2.2.2.2.2.2.1
  obtain ⟨r, σ1, τ1, f1, f2, hR1⟩ := s_shut hR (xs (i + 1)) (xs (i + 2))
  refine lv_aload_n hx hb dL_law_363 rfl (lv_at hl 1 rfl) ?_
  refine la_arg Cx hI hl 1 (by omega) rfl dL_law_364 dL_law_365 dL_law_366 dL_law_367 dL_law_368 ?_
  refine la_arg Cx hI hl 2 (by omega) rfl dL_law_369 dL_law_370 dL_law_371 dL_law_372 dL_law_373 ?_
  refine la_cX (av := [.int (xs (i + 1)), .int (xs (i + 2))]) (r := r) (u := σ1) Cx hI yvX7_shut (metX7_shut l hDX f1) ms_blind (la_pX Cx hI _) ⟨rfl, rfl⟩ wd_16_5 ⟨(Nat.le_of_ble_eq_true rfl), (Nat.le_of_ble_eq_true rfl)⟩ rfl hl.1 rfl (Nat.le_of_ble_eq_true rfl) ⟨(Nat.le_of_ble_eq_true rfl), (Nat.le_of_ble_eq_true rfl)⟩ dL_law_374 (fun H locs hI => ?_)
  refine lv_aload_n hx hb dL_law_377 rfl (lv_at hl 2 rfl) ?_
  refine la_arg Cx hI hl 1 (by omega) rfl dL_law_378 dL_law_379 dL_law_380 dL_law_381 dL_law_382 ?_
  refine la_arg Cx hI hl 2 (by omega) rfl dL_law_383 dL_law_384 dL_law_385 dL_law_386 dL_law_387 ?_
  refine la_cM (av := [.int (xs (i + 1)), .int (xs (i + 2))]) (r := r) (u := τ1) Cx hI yvX8_shut (metX8_shut l hDM f2) ms_blind (la_pM Cx hI _) ⟨rfl, rfl⟩ wd_16_9 ⟨(Nat.le_of_ble_eq_true rfl), (Nat.le_of_ble_eq_true rfl)⟩ rfl hl.1 rfl (Nat.le_of_ble_eq_true rfl) ⟨(Nat.le_of_ble_eq_true rfl), (Nat.le_of_ble_eq_true rfl)⟩ dL_law_388 (fun H locs hI => ?_)
  exact lv_icmp_eq (tgt := 1211) hx hb dL_law_391 rfl (fun _ => kk σ1 τ1 H locs hR1 hI) (fun hc => absurd rfl hc)
set_option maxHeartbeats 4000000 in
set_option maxRecDepth 100000 in
/-- shift -/
theorem la_k8 {p : Program} {l : Launch} {e : Env} {s : State} {m : MethodId} {below : List Frame} {meth : Method} {c : Code} {Q : State → Prop} {D : va_G} {cA : Nat → ClassId} {aX aM : Nat → Nat} {b L i : Nat} {xs : Nat → Int32} {σ τ : Mm} {H : Heap} {locs : List Loc} {ls : Array Slot} (Cx : la_C p s m meth c b D cA aX aM L xs) (hI : la_I D cA aX aM s σ τ H locs) (hR : Rel σ τ) (hi : i + 6 ≤ L) (hl : lv_has ls 4 [(0, .ref b), (1, .ref (aX 0)), (2, .ref (aM 0)), (3, .int (nI i))]) (kk : ∀ (σ τ : Mm) (H : Heap) (locs : List Loc), Rel σ τ → la_I D cA aX aM s σ τ H locs → W p l e room_1 s m #[Value.ref b] below meth c H locs 600000 7302250 Q (F0 m 1211 ls [])) : W p l e room_1 s m #[Value.ref b] below meth c H locs 600000 7302250 Q (F0 m 396 ls []) := by
  have hx := Cx.1
  have hb := Cx.2.1
  have hDX := Cx.2.2.2.2.2.2.2.2.2.1
  have hDM := Cx.2.2.2.2.2.2.2.2.2.2.1
  obtain ⟨r, σ1, τ1, f1, f2, hR1⟩ := s_shift hR (xs (i + 1)) (xs (i + 2))
  refine lv_aload_n hx hb dL_law_396 rfl (lv_at hl 1 rfl) ?_
  refine la_arg Cx hI hl 1 (by omega) rfl dL_law_397 dL_law_398 dL_law_399 dL_law_400 dL_law_401 ?_
  refine la_arg Cx hI hl 2 (by omega) rfl dL_law_402 dL_law_403 dL_law_404 dL_law_405 dL_law_406 ?_
  refine la_cX (av := [.int (xs (i + 1)), .int (xs (i + 2))]) (r := r) (u := σ1) Cx hI yvX7_shift (metX7_shift l hDX f1) ms_blind (la_pX Cx hI _) ⟨rfl, rfl⟩ wd_16_13 ⟨(Nat.le_of_ble_eq_true rfl), (Nat.le_of_ble_eq_true rfl)⟩ rfl hl.1 rfl (Nat.le_of_ble_eq_true rfl) ⟨(Nat.le_of_ble_eq_true rfl), (Nat.le_of_ble_eq_true rfl)⟩ dL_law_407 (fun H locs hI => ?_)
  refine lv_aload_n hx hb dL_law_410 rfl (lv_at hl 2 rfl) ?_
  refine la_arg Cx hI hl 1 (by omega) rfl dL_law_411 dL_law_412 dL_law_413 dL_law_414 dL_law_415 ?_
  refine la_arg Cx hI hl 2 (by omega) rfl dL_law_416 dL_law_417 dL_law_418 dL_law_419 dL_law_420 ?_
  refine la_cM (av := [.int (xs (i + 1)), .int (xs (i + 2))]) (r := r) (u := τ1) Cx hI yvX8_shift (metX8_shift l hDM f2) ms_blind (la_pM Cx hI _) ⟨rfl, rfl⟩ wd_16_17 ⟨(Nat.le_of_ble_eq_true rfl), (Nat.le_of_ble_eq_true rfl)⟩ rfl hl.1 rfl (Nat.le_of_ble_eq_true rfl) ⟨(Nat.le_of_ble_eq_true rfl), (Nat.le_of_ble_eq_true rfl)⟩ dL_law_421 (fun H locs hI => ?_)
  exact lv_icmp_eq (tgt := 1211) hx hb dL_law_424 rfl (fun _ => kk σ1 τ1 H locs hR1 hI) (fun hc => absurd rfl hc)
set_option maxHeartbeats 4000000 in
set_option maxRecDepth 100000 in
/-- read -/
theorem la_k9 {p : Program} {l : Launch} {e : Env} {s : State} {m : MethodId} {below : List Frame} {meth : Method} {c : Code} {Q : State → Prop} {D : va_G} {cA : Nat → ClassId} {aX aM : Nat → Nat} {b L i : Nat} {xs : Nat → Int32} {σ τ : Mm} {H : Heap} {locs : List Loc} {ls : Array Slot} (Cx : la_C p s m meth c b D cA aX aM L xs) (hI : la_I D cA aX aM s σ τ H locs) (hR : Rel σ τ) (hi : i + 6 ≤ L) (hl : lv_has ls 4 [(0, .ref b), (1, .ref (aX 0)), (2, .ref (aM 0)), (3, .int (nI i))]) (kk : ∀ (σ τ : Mm) (H : Heap) (locs : List Loc), Rel σ τ → la_I D cA aX aM s σ τ H locs → W p l e room_1 s m #[Value.ref b] below meth c H locs 600000 7302250 Q (F0 m 1211 ls [])) : W p l e room_1 s m #[Value.ref b] below meth c H locs 600000 7302250 Q (F0 m 429 ls []) := by
  have hx := Cx.1
  have hb := Cx.2.1
  have hDX := Cx.2.2.2.2.2.2.2.2.2.1
  have hDM := Cx.2.2.2.2.2.2.2.2.2.2.1
  obtain ⟨r, σ1, τ1, f1, f2, hR1⟩ := s_read hR (xs (i + 1))
  refine lv_aload_n hx hb dL_law_429 rfl (lv_at hl 1 rfl) ?_
  refine la_arg Cx hI hl 1 (by omega) rfl dL_law_430 dL_law_431 dL_law_432 dL_law_433 dL_law_434 ?_
  refine la_cX (av := [.int (xs (i + 1))]) (r := r) (u := σ1) Cx hI yvX7_read (metX7_read l hDX f1) ms_blind (la_pX Cx hI _) ⟨rfl, rfl⟩ wd_16_21 ⟨(Nat.le_of_ble_eq_true rfl), (Nat.le_of_ble_eq_true rfl)⟩ rfl hl.1 rfl (Nat.le_of_ble_eq_true rfl) ⟨(Nat.le_of_ble_eq_true rfl), (Nat.le_of_ble_eq_true rfl)⟩ dL_law_435 (fun H locs hI => ?_)
  refine lv_aload_n hx hb dL_law_438 rfl (lv_at hl 2 rfl) ?_
  refine la_arg Cx hI hl 1 (by omega) rfl dL_law_439 dL_law_440 dL_law_441 dL_law_442 dL_law_443 ?_
  refine la_cM (av := [.int (xs (i + 1))]) (r := r) (u := τ1) Cx hI yvX8_read (metX8_read l hDM f2) ms_blind (la_pM Cx hI _) ⟨rfl, rfl⟩ wd_17_15 ⟨(Nat.le_of_ble_eq_true rfl), (Nat.le_of_ble_eq_true rfl)⟩ rfl hl.1 rfl (Nat.le_of_ble_eq_true rfl) ⟨(Nat.le_of_ble_eq_true rfl), (Nat.le_of_ble_eq_true rfl)⟩ dL_law_444 (fun H locs hI => ?_)
  exact lv_icmp_eq (tgt := 1211) hx hb dL_law_447 rfl (fun _ => kk σ1 τ1 H locs hR1 hI) (fun hc => absurd rfl hc)
set_option maxHeartbeats 4000000 in
set_option maxRecDepth 100000 in
/-- goes -/
theorem la_k10 {p : Program} {l : Launch} {e : Env} {s : State} {m : MethodId} {below : List Frame} {meth : Method} {c : Code} {Q : State → Prop} {D : va_G} {cA : Nat → ClassId} {aX aM : Nat → Nat} {b L i : Nat} {xs : Nat → Int32} {σ τ : Mm} {H : Heap} {locs : List Loc} {ls : Array Slot} (Cx : la_C p s m meth c b D cA aX aM L xs) (hI : la_I D cA aX aM s σ τ H locs) (hR : Rel σ τ) (hi : i + 6 ≤ L) (hl : lv_has ls 4 [(0, .ref b), (1, .ref (aX 0)), (2, .ref (aM 0)), (3, .int (nI i))]) (kk : ∀ (σ τ : Mm) (H : Heap) (locs : List Loc), Rel σ τ → la_I D cA aX aM s σ τ H locs → W p l e room_1 s m #[Value.ref b] below meth c H locs 600000 7302250 Q (F0 m 1211 ls [])) : W p l e room_1 s m #[Value.ref b] below meth c H locs 600000 7302250 Q (F0 m 452 ls []) := by
  have hx := Cx.1
  have hb := Cx.2.1
  have hDX := Cx.2.2.2.2.2.2.2.2.2.1
  have hDM := Cx.2.2.2.2.2.2.2.2.2.2.1
  obtain ⟨r, τ1, f1, f2, hR1⟩ := s_goes hR (xs (i + 1))
  refine lv_aload_n hx hb dL_law_452 rfl (lv_at hl 1 rfl) ?_
  refine la_arg Cx hI hl 1 (by omega) rfl dL_law_453 dL_law_454 dL_law_455 dL_law_456 dL_law_457 ?_
  refine la_cX (av := [.int (xs (i + 1))]) (r := r) (u := σ) Cx hI yvX7_goes (metX7_goes l hDX f1) ms_blind (la_pX Cx hI _) ⟨rfl, rfl⟩ wd_18_3 ⟨(Nat.le_of_ble_eq_true rfl), (Nat.le_of_ble_eq_true rfl)⟩ rfl hl.1 rfl (Nat.le_of_ble_eq_true rfl) ⟨(Nat.le_of_ble_eq_true rfl), (Nat.le_of_ble_eq_true rfl)⟩ dL_law_458 (fun H locs hI => ?_)
  refine lv_aload_n hx hb dL_law_461 rfl (lv_at hl 2 rfl) ?_
  refine la_arg Cx hI hl 1 (by omega) rfl dL_law_462 dL_law_463 dL_law_464 dL_law_465 dL_law_466 ?_
  refine la_cM (av := [.int (xs (i + 1))]) (r := r) (u := τ1) Cx hI yvX8_goes (metX8_goes l hDM f2) ms_blind (la_pM Cx hI _) ⟨rfl, rfl⟩ wd_18_12 ⟨(Nat.le_of_ble_eq_true rfl), (Nat.le_of_ble_eq_true rfl)⟩ rfl hl.1 rfl (Nat.le_of_ble_eq_true rfl) ⟨(Nat.le_of_ble_eq_true rfl), (Nat.le_of_ble_eq_true rfl)⟩ dL_law_467 (fun H locs hI => ?_)
  exact lv_icmp_eq (tgt := 1211) hx hb dL_law_470 rfl (fun _ => kk σ τ1 H locs hR1 hI) (fun hc => absurd rfl hc)
set_option maxHeartbeats 4000000 in
set_option maxRecDepth 100000 in
/-- toil -/
theorem la_k11 {p : Program} {l : Launch} {e : Env} {s : State} {m : MethodId} {below : List Frame} {meth : Method} {c : Code} {Q : State → Prop} {D : va_G} {cA : Nat → ClassId} {aX aM : Nat → Nat} {b L i : Nat} {xs : Nat → Int32} {σ τ : Mm} {H : Heap} {locs : List Loc} {ls : Array Slot} (Cx : la_C p s m meth c b D cA aX aM L xs) (hI : la_I D cA aX aM s σ τ H locs) (hR : Rel σ τ) (hi : i + 6 ≤ L) (hl : lv_has ls 4 [(0, .ref b), (1, .ref (aX 0)), (2, .ref (aM 0)), (3, .int (nI i))]) (kk : ∀ (σ τ : Mm) (H : Heap) (locs : List Loc), Rel σ τ → la_I D cA aX aM s σ τ H locs → W p l e room_1 s m #[Value.ref b] below meth c H locs 600000 7302250 Q (F0 m 1211 ls [])) : W p l e room_1 s m #[Value.ref b] below meth c H locs 600000 7302250 Q (F0 m 475 ls []) := by
  have hx := Cx.1
  have hb := Cx.2.1
  have hDX := Cx.2.2.2.2.2.2.2.2.2.1
  have hDM := Cx.2.2.2.2.2.2.2.2.2.2.1
  obtain ⟨r, τ1, f1, f2, hR1⟩ := s_toil hR (xs (i + 1))
  refine lv_aload_n hx hb dL_law_475 rfl (lv_at hl 1 rfl) ?_
  refine la_arg Cx hI hl 1 (by omega) rfl dL_law_476 dL_law_477 dL_law_478 dL_law_479 dL_law_480 ?_
  refine la_cX (av := [.int (xs (i + 1))]) (r := r) (u := σ) Cx hI yvX7_toil (metX7_toil l hDX f1) ms_blind (la_pX Cx hI _) ⟨rfl, rfl⟩ wd_19_4 ⟨(Nat.le_of_ble_eq_true rfl), (Nat.le_of_ble_eq_true rfl)⟩ rfl hl.1 rfl (Nat.le_of_ble_eq_true rfl) ⟨(Nat.le_of_ble_eq_true rfl), (Nat.le_of_ble_eq_true rfl)⟩ dL_law_481 (fun H locs hI => ?_)
  refine lv_aload_n hx hb dL_law_484 rfl (lv_at hl 2 rfl) ?_
  refine la_arg Cx hI hl 1 (by omega) rfl dL_law_485 dL_law_486 dL_law_487 dL_law_488 dL_law_489 ?_
  refine la_cM (av := [.int (xs (i + 1))]) (r := r) (u := τ1) Cx hI yvX8_toil (metX8_toil l hDM f2) ms_blind (la_pM Cx hI _) ⟨rfl, rfl⟩ wd_19_14 ⟨(Nat.le_of_ble_eq_true rfl), (Nat.le_of_ble_eq_true rfl)⟩ rfl hl.1 rfl (Nat.le_of_ble_eq_true rfl) ⟨(Nat.le_of_ble_eq_true rfl), (Nat.le_of_ble_eq_true rfl)⟩ dL_law_490 (fun H locs hI => ?_)
  exact lv_icmp_eq (tgt := 1211) hx hb dL_law_493 rfl (fun _ => kk σ τ1 H locs hR1 hI) (fun hc => absurd rfl hc)
set_option maxHeartbeats 4000000 in
set_option maxRecDepth 100000 in
/-- wound -/
theorem la_k12 {p : Program} {l : Launch} {e : Env} {s : State} {m : MethodId} {below : List Frame} {meth : Method} {c : Code} {Q : State → Prop} {D : va_G} {cA : Nat → ClassId} {aX aM : Nat → Nat} {b L i : Nat} {xs : Nat → Int32} {σ τ : Mm} {H : Heap} {locs : List Loc} {ls : Array Slot} (Cx : la_C p s m meth c b D cA aX aM L xs) (hI : la_I D cA aX aM s σ τ H locs) (hR : Rel σ τ) (hi : i + 6 ≤ L) (hl : lv_has ls 4 [(0, .ref b), (1, .ref (aX 0)), (2, .ref (aM 0)), (3, .int (nI i))]) (kk : ∀ (σ τ : Mm) (H : Heap) (locs : List Loc), Rel σ τ → la_I D cA aX aM s σ τ H locs → W p l e room_1 s m #[Value.ref b] below meth c H locs 600000 7302250 Q (F0 m 1211 ls [])) : W p l e room_1 s m #[Value.ref b] below meth c H locs 600000 7302250 Q (F0 m 498 ls []) := by
  have hx := Cx.1
  have hb := Cx.2.1
  have hDX := Cx.2.2.2.2.2.2.2.2.2.1
  have hDM := Cx.2.2.2.2.2.2.2.2.2.2.1
  obtain ⟨r, τ1, f1, f2, hR1⟩ := s_wound hR (xs (i + 1))
  refine lv_aload_n hx hb dL_law_498 rfl (lv_at hl 1 rfl) ?_
  refine la_arg Cx hI hl 1 (by omega) rfl dL_law_499 dL_law_500 dL_law_501 dL_law_502 dL_law_503 ?_
  refine la_cX (av := [.int (xs (i + 1))]) (r := r) (u := σ) Cx hI yvX7_wound (metX7_wound l hDX f1) ms_blind (la_pX Cx hI _) ⟨rfl, rfl⟩ wd_19_22 ⟨(Nat.le_of_ble_eq_true rfl), (Nat.le_of_ble_eq_true rfl)⟩ rfl hl.1 rfl (Nat.le_of_ble_eq_true rfl) ⟨(Nat.le_of_ble_eq_true rfl), (Nat.le_of_ble_eq_true rfl)⟩ dL_law_504 (fun H locs hI => ?_)
  refine lv_aload_n hx hb dL_law_507 rfl (lv_at hl 2 rfl) ?_
  refine la_arg Cx hI hl 1 (by omega) rfl dL_law_508 dL_law_509 dL_law_510 dL_law_511 dL_law_512 ?_
  refine la_cM (av := [.int (xs (i + 1))]) (r := r) (u := τ1) Cx hI yvX8_wound (metX8_wound l hDM f2) ms_blind (la_pM Cx hI _) ⟨rfl, rfl⟩ wd_20_10 ⟨(Nat.le_of_ble_eq_true rfl), (Nat.le_of_ble_eq_true rfl)⟩ rfl hl.1 rfl (Nat.le_of_ble_eq_true rfl) ⟨(Nat.le_of_ble_eq_true rfl), (Nat.le_of_ble_eq_true rfl)⟩ dL_law_513 (fun H locs hI => ?_)
  exact lv_icmp_eq (tgt := 1211) hx hb dL_law_516 rfl (fun _ => kk σ τ1 H locs hR1 hI) (fun hc => absurd rfl hc)
set_option maxHeartbeats 4000000 in
set_option maxRecDepth 100000 in
/-- level -/
theorem la_k13 {p : Program} {l : Launch} {e : Env} {s : State} {m : MethodId} {below : List Frame} {meth : Method} {c : Code} {Q : State → Prop} {D : va_G} {cA : Nat → ClassId} {aX aM : Nat → Nat} {b L i : Nat} {xs : Nat → Int32} {σ τ : Mm} {H : Heap} {locs : List Loc} {ls : Array Slot} (Cx : la_C p s m meth c b D cA aX aM L xs) (hI : la_I D cA aX aM s σ τ H locs) (hR : Rel σ τ) (hi : i + 6 ≤ L) (hl : lv_has ls 4 [(0, .ref b), (1, .ref (aX 0)), (2, .ref (aM 0)), (3, .int (nI i))]) (kk : ∀ (σ τ : Mm) (H : Heap) (locs : List Loc), Rel σ τ → la_I D cA aX aM s σ τ H locs → W p l e room_1 s m #[Value.ref b] below meth c H locs 600000 7302250 Q (F0 m 1211 ls [])) : W p l e room_1 s m #[Value.ref b] below meth c H locs 600000 7302250 Q (F0 m 521 ls []) := by
  have hx := Cx.1
  have hb := Cx.2.1
  have hDX := Cx.2.2.2.2.2.2.2.2.2.1
  have hDM := Cx.2.2.2.2.2.2.2.2.2.2.1
  obtain ⟨r, σ1, τ1, f1, f2, hR1⟩ := s_level hR (xs (i + 1)) (xs (i + 2))
  refine lv_aload_n hx hb dL_law_521 rfl (lv_at hl 1 rfl) ?_
  refine la_arg Cx hI hl 1 (by omega) rfl dL_law_522 dL_law_523 dL_law_524 dL_law_525 dL_law_526 ?_
  refine la_arg Cx hI hl 2 (by omega) rfl dL_law_527 dL_law_528 dL_law_529 dL_law_530 dL_law_531 ?_
  refine la_cX (av := [.int (xs (i + 1)), .int (xs (i + 2))]) (r := r) (u := σ1) Cx hI yvX7_level (metX7_level l hDX f1) ms_blind (la_pX Cx hI _) ⟨rfl, rfl⟩ wd_20_18 ⟨(Nat.le_of_ble_eq_true rfl), (Nat.le_of_ble_eq_true rfl)⟩ rfl hl.1 rfl (Nat.le_of_ble_eq_true rfl) ⟨(Nat.le_of_ble_eq_true rfl), (Nat.le_of_ble_eq_true rfl)⟩ dL_law_532 (fun H locs hI => ?_)
  refine lv_aload_n hx hb dL_law_535 rfl (lv_at hl 2 rfl) ?_
  refine la_arg Cx hI hl 1 (by omega) rfl dL_law_536 dL_law_537 dL_law_538 dL_law_539 dL_law_540 ?_
  refine la_arg Cx hI hl 2 (by omega) rfl dL_law_541 dL_law_542 dL_law_543 dL_law_544 dL_law_545 ?_
  refine la_cM (av := [.int (xs (i + 1)), .int (xs (i + 2))]) (r := r) (u := τ1) Cx hI yvX8_level (metX8_level l hDM f2) ms_blind (la_pM Cx hI _) ⟨rfl, rfl⟩ wd_23_16 ⟨(Nat.le_of_ble_eq_true rfl), (Nat.le_of_ble_eq_true rfl)⟩ rfl hl.1 rfl (Nat.le_of_ble_eq_true rfl) ⟨(Nat.le_of_ble_eq_true rfl), (Nat.le_of_ble_eq_true rfl)⟩ dL_law_546 (fun H locs hI => ?_)
  exact lv_icmp_eq (tgt := 1211) hx hb dL_law_549 rfl (fun _ => kk σ1 τ1 H locs hR1 hI) (fun hc => absurd rfl hc)
set_option maxHeartbeats 4000000 in
set_option maxRecDepth 100000 in
/-- stands -/
theorem la_k14 {p : Program} {l : Launch} {e : Env} {s : State} {m : MethodId} {below : List Frame} {meth : Method} {c : Code} {Q : State → Prop} {D : va_G} {cA : Nat → ClassId} {aX aM : Nat → Nat} {b L i : Nat} {xs : Nat → Int32} {σ τ : Mm} {H : Heap} {locs : List Loc} {ls : Array Slot} (Cx : la_C p s m meth c b D cA aX aM L xs) (hI : la_I D cA aX aM s σ τ H locs) (hR : Rel σ τ) (hi : i + 6 ≤ L) (hl : lv_has ls 4 [(0, .ref b), (1, .ref (aX 0)), (2, .ref (aM 0)), (3, .int (nI i))]) (kk : ∀ (σ τ : Mm) (H : Heap) (locs : List Loc), Rel σ τ → la_I D cA aX aM s σ τ H locs → W p l e room_1 s m #[Value.ref b] below meth c H locs 600000 7302250 Q (F0 m 1211 ls [])) : W p l e room_1 s m #[Value.ref b] below meth c H locs 600000 7302250 Q (F0 m 554 ls []) := by
  have hx := Cx.1
  have hb := Cx.2.1
  have hDX := Cx.2.2.2.2.2.2.2.2.2.1
  have hDM := Cx.2.2.2.2.2.2.2.2.2.2.1
  obtain ⟨r, σ1, τ1, f1, f2, hR1⟩ := s_stands hR (xs (i + 1)) (xs (i + 2))
  refine lv_aload_n hx hb dL_law_554 rfl (lv_at hl 1 rfl) ?_
  refine la_arg Cx hI hl 1 (by omega) rfl dL_law_555 dL_law_556 dL_law_557 dL_law_558 dL_law_559 ?_
  refine la_arg Cx hI hl 2 (by omega) rfl dL_law_560 dL_law_561 dL_law_562 dL_law_563 dL_law_564 ?_
  refine la_cX (av := [.int (xs (i + 1)), .int (xs (i + 2))]) (r := r) (u := σ1) Cx hI yvX7_stands (metX7_stands l hDX f1) ms_blind (la_pX Cx hI _) ⟨rfl, rfl⟩ wd_24_19 ⟨(Nat.le_of_ble_eq_true rfl), (Nat.le_of_ble_eq_true rfl)⟩ rfl hl.1 rfl (Nat.le_of_ble_eq_true rfl) ⟨(Nat.le_of_ble_eq_true rfl), (Nat.le_of_ble_eq_true rfl)⟩ dL_law_565 (fun H locs hI => ?_)
  refine lv_aload_n hx hb dL_law_568 rfl (lv_at hl 2 rfl) ?_
  refine la_arg Cx hI hl 1 (by omega) rfl dL_law_569 dL_law_570 dL_law_571 dL_law_572 dL_law_573 ?_
  refine la_arg Cx hI hl 2 (by omega) rfl dL_law_574 dL_law_575 dL_law_576 dL_law_577 dL_law_578 ?_
  refine la_cM (av := [.int (xs (i + 1)), .int (xs (i + 2))]) (r := r) (u := τ1) Cx hI yvX8_stands (metX8_stands l hDM f2) ms_blind (la_pM Cx hI _) ⟨rfl, rfl⟩ wd_25_0 ⟨(Nat.le_of_ble_eq_true rfl), (Nat.le_of_ble_eq_true rfl)⟩ rfl hl.1 rfl (Nat.le_of_ble_eq_true rfl) ⟨(Nat.le_of_ble_eq_true rfl), (Nat.le_of_ble_eq_true rfl)⟩ dL_law_579 (fun H locs hI => ?_)
  exact lv_icmp_eq (tgt := 1211) hx hb dL_law_582 rfl (fun _ => kk σ1 τ1 H locs hR1 hI) (fun hc => absurd rfl hc)
set_option maxHeartbeats 4000000 in
set_option maxRecDepth 100000 in
/-- stood -/
theorem la_k15 {p : Program} {l : Launch} {e : Env} {s : State} {m : MethodId} {below : List Frame} {meth : Method} {c : Code} {Q : State → Prop} {D : va_G} {cA : Nat → ClassId} {aX aM : Nat → Nat} {b L i : Nat} {xs : Nat → Int32} {σ τ : Mm} {H : Heap} {locs : List Loc} {ls : Array Slot} (Cx : la_C p s m meth c b D cA aX aM L xs) (hI : la_I D cA aX aM s σ τ H locs) (hR : Rel σ τ) (hi : i + 6 ≤ L) (hl : lv_has ls 4 [(0, .ref b), (1, .ref (aX 0)), (2, .ref (aM 0)), (3, .int (nI i))]) (kk : ∀ (σ τ : Mm) (H : Heap) (locs : List Loc), Rel σ τ → la_I D cA aX aM s σ τ H locs → W p l e room_1 s m #[Value.ref b] below meth c H locs 600000 7302250 Q (F0 m 1211 ls [])) : W p l e room_1 s m #[Value.ref b] below meth c H locs 600000 7302250 Q (F0 m 587 ls []) := by
  have hx := Cx.1
  have hb := Cx.2.1
  have hDX := Cx.2.2.2.2.2.2.2.2.2.1
  have hDM := Cx.2.2.2.2.2.2.2.2.2.2.1
  obtain ⟨r, σ1, τ1, f1, f2, hR1⟩ := s_stood hR (xs (i + 1)) (xs (i + 2))
  refine lv_aload_n hx hb dL_law_587 rfl (lv_at hl 1 rfl) ?_
  refine la_arg Cx hI hl 1 (by omega) rfl dL_law_588 dL_law_589 dL_law_590 dL_law_591 dL_law_592 ?_
  refine la_arg Cx hI hl 2 (by omega) rfl dL_law_593 dL_law_594 dL_law_595 dL_law_596 dL_law_597 ?_
  refine la_cX (av := [.int (xs (i + 1)), .int (xs (i + 2))]) (r := r) (u := σ1) Cx hI yvX7_stood (metX7_stood l hDX f1) ms_blind (la_pX Cx hI _) ⟨rfl, rfl⟩ wd_25_4 ⟨(Nat.le_of_ble_eq_true rfl), (Nat.le_of_ble_eq_true rfl)⟩ rfl hl.1 rfl (Nat.le_of_ble_eq_true rfl) ⟨(Nat.le_of_ble_eq_true rfl), (Nat.le_of_ble_eq_true rfl)⟩ dL_law_598 (fun H locs hI => ?_)
  refine lv_aload_n hx hb dL_law_601 rfl (lv_at hl 2 rfl) ?_
  refine la_arg Cx hI hl 1 (by omega) rfl dL_law_602 dL_law_603 dL_law_604 dL_law_605 dL_law_606 ?_
  refine la_arg Cx hI hl 2 (by omega) rfl dL_law_607 dL_law_608 dL_law_609 dL_law_610 dL_law_611 ?_
  refine la_cM (av := [.int (xs (i + 1)), .int (xs (i + 2))]) (r := r) (u := τ1) Cx hI yvX8_stood (metX8_stood l hDM f2) ms_blind (la_pM Cx hI _) ⟨rfl, rfl⟩ wd_25_15 ⟨(Nat.le_of_ble_eq_true rfl), (Nat.le_of_ble_eq_true rfl)⟩ rfl hl.1 rfl (Nat.le_of_ble_eq_true rfl) ⟨(Nat.le_of_ble_eq_true rfl), (Nat.le_of_ble_eq_true rfl)⟩ dL_law_612 (fun H locs hI => ?_)
  exact lv_icmp_eq (tgt := 1211) hx hb dL_law_615 rfl (fun _ => kk σ1 τ1 H locs hR1 hI) (fun hc => absurd rfl hc)
set_option maxHeartbeats 4000000 in
set_option maxRecDepth 100000 in
/-- lost -/
theorem la_k16 {p : Program} {l : Launch} {e : Env} {s : State} {m : MethodId} {below : List Frame} {meth : Method} {c : Code} {Q : State → Prop} {D : va_G} {cA : Nat → ClassId} {aX aM : Nat → Nat} {b L i : Nat} {xs : Nat → Int32} {σ τ : Mm} {H : Heap} {locs : List Loc} {ls : Array Slot} (Cx : la_C p s m meth c b D cA aX aM L xs) (hI : la_I D cA aX aM s σ τ H locs) (hR : Rel σ τ) (hi : i + 6 ≤ L) (hl : lv_has ls 4 [(0, .ref b), (1, .ref (aX 0)), (2, .ref (aM 0)), (3, .int (nI i))]) (kk : ∀ (σ τ : Mm) (H : Heap) (locs : List Loc), Rel σ τ → la_I D cA aX aM s σ τ H locs → W p l e room_1 s m #[Value.ref b] below meth c H locs 600000 7302250 Q (F0 m 1211 ls [])) : W p l e room_1 s m #[Value.ref b] below meth c H locs 600000 7302250 Q (F0 m 620 ls []) := by
  have hx := Cx.1
  have hb := Cx.2.1
  have hDX := Cx.2.2.2.2.2.2.2.2.2.1
  have hDM := Cx.2.2.2.2.2.2.2.2.2.2.1
  obtain ⟨r, σ1, τ1, f1, f2, hR1⟩ := s_lost hR (xs (i + 1))
  refine lv_aload_n hx hb dL_law_620 rfl (lv_at hl 1 rfl) ?_
  refine la_arg Cx hI hl 1 (by omega) rfl dL_law_621 dL_law_622 dL_law_623 dL_law_624 dL_law_625 ?_
  refine la_cX (av := [.int (xs (i + 1))]) (r := r) (u := σ1) Cx hI yvX7_lost (metX7_lost l hDX f1) ms_blind (la_pX Cx hI _) ⟨rfl, rfl⟩ wd_26_6 ⟨(Nat.le_of_ble_eq_true rfl), (Nat.le_of_ble_eq_true rfl)⟩ rfl hl.1 rfl (Nat.le_of_ble_eq_true rfl) ⟨(Nat.le_of_ble_eq_true rfl), (Nat.le_of_ble_eq_true rfl)⟩ dL_law_626 (fun H locs hI => ?_)
  refine lv_aload_n hx hb dL_law_629 rfl (lv_at hl 2 rfl) ?_
  refine la_arg Cx hI hl 1 (by omega) rfl dL_law_630 dL_law_631 dL_law_632 dL_law_633 dL_law_634 ?_
  refine la_cM (av := [.int (xs (i + 1))]) (r := r) (u := τ1) Cx hI yvX8_lost (metX8_lost l hDM f2) ms_blind (la_pM Cx hI _) ⟨rfl, rfl⟩ wd_26_14 ⟨(Nat.le_of_ble_eq_true rfl), (Nat.le_of_ble_eq_true rfl)⟩ rfl hl.1 rfl (Nat.le_of_ble_eq_true rfl) ⟨(Nat.le_of_ble_eq_true rfl), (Nat.le_of_ble_eq_true rfl)⟩ dL_law_635 (fun H locs hI => ?_)
  exact lv_icmp_eq (tgt := 1211) hx hb dL_law_638 rfl (fun _ => kk σ1 τ1 H locs hR1 hI) (fun hc => absurd rfl hc)
set_option maxHeartbeats 4000000 in
set_option maxRecDepth 100000 in
/-- flow -/
theorem la_k17 {p : Program} {l : Launch} {e : Env} {s : State} {m : MethodId} {below : List Frame} {meth : Method} {c : Code} {Q : State → Prop} {D : va_G} {cA : Nat → ClassId} {aX aM : Nat → Nat} {b L i : Nat} {xs : Nat → Int32} {σ τ : Mm} {H : Heap} {locs : List Loc} {ls : Array Slot} (Cx : la_C p s m meth c b D cA aX aM L xs) (hI : la_I D cA aX aM s σ τ H locs) (hR : Rel σ τ) (hi : i + 6 ≤ L) (hl : lv_has ls 4 [(0, .ref b), (1, .ref (aX 0)), (2, .ref (aM 0)), (3, .int (nI i))]) (kk : ∀ (σ τ : Mm) (H : Heap) (locs : List Loc), Rel σ τ → la_I D cA aX aM s σ τ H locs → W p l e room_1 s m #[Value.ref b] below meth c H locs 600000 7302250 Q (F0 m 1211 ls [])) : W p l e room_1 s m #[Value.ref b] below meth c H locs 600000 7302250 Q (F0 m 643 ls []) := by
  have hx := Cx.1
  have hb := Cx.2.1
  have hDX := Cx.2.2.2.2.2.2.2.2.2.1
  have hDM := Cx.2.2.2.2.2.2.2.2.2.2.1
  obtain ⟨r, σ1, τ1, f1, f2, hR1⟩ := s_flow hR (xs (i + 1))
  refine lv_aload_n hx hb dL_law_643 rfl (lv_at hl 1 rfl) ?_
  refine la_arg Cx hI hl 1 (by omega) rfl dL_law_644 dL_law_645 dL_law_646 dL_law_647 dL_law_648 ?_
  refine la_cX (av := [.int (xs (i + 1))]) (r := r) (u := σ1) Cx hI yvX7_flow (metX7_flow l hDX f1) ms_blind (la_pX Cx hI _) ⟨rfl, rfl⟩ wd_26_22 ⟨(Nat.le_of_ble_eq_true rfl), (Nat.le_of_ble_eq_true rfl)⟩ rfl hl.1 rfl (Nat.le_of_ble_eq_true rfl) ⟨(Nat.le_of_ble_eq_true rfl), (Nat.le_of_ble_eq_true rfl)⟩ dL_law_649 (fun H locs hI => ?_)
  refine lv_aload_n hx hb dL_law_652 rfl (lv_at hl 2 rfl) ?_
  refine la_arg Cx hI hl 1 (by omega) rfl dL_law_653 dL_law_654 dL_law_655 dL_law_656 dL_law_657 ?_
  refine la_cM (av := [.int (xs (i + 1))]) (r := r) (u := τ1) Cx hI yvX8_flow (metX8_flow l hDM f2) ms_blind (la_pM Cx hI _) ⟨rfl, rfl⟩ wd_27_3 ⟨(Nat.le_of_ble_eq_true rfl), (Nat.le_of_ble_eq_true rfl)⟩ rfl hl.1 rfl (Nat.le_of_ble_eq_true rfl) ⟨(Nat.le_of_ble_eq_true rfl), (Nat.le_of_ble_eq_true rfl)⟩ dL_law_658 (fun H locs hI => ?_)
  exact lv_icmp_eq (tgt := 1211) hx hb dL_law_661 rfl (fun _ => kk σ1 τ1 H locs hR1 hI) (fun hc => absurd rfl hc)
set_option maxHeartbeats 4000000 in
set_option maxRecDepth 100000 in
/-- worst -/
theorem la_k18 {p : Program} {l : Launch} {e : Env} {s : State} {m : MethodId} {below : List Frame} {meth : Method} {c : Code} {Q : State → Prop} {D : va_G} {cA : Nat → ClassId} {aX aM : Nat → Nat} {b L i : Nat} {xs : Nat → Int32} {σ τ : Mm} {H : Heap} {locs : List Loc} {ls : Array Slot} (Cx : la_C p s m meth c b D cA aX aM L xs) (hI : la_I D cA aX aM s σ τ H locs) (hR : Rel σ τ) (hi : i + 6 ≤ L) (hl : lv_has ls 4 [(0, .ref b), (1, .ref (aX 0)), (2, .ref (aM 0)), (3, .int (nI i))]) (kk : ∀ (σ τ : Mm) (H : Heap) (locs : List Loc), Rel σ τ → la_I D cA aX aM s σ τ H locs → W p l e room_1 s m #[Value.ref b] below meth c H locs 600000 7302250 Q (F0 m 1211 ls [])) : W p l e room_1 s m #[Value.ref b] below meth c H locs 600000 7302250 Q (F0 m 666 ls []) := by
  have hx := Cx.1
  have hb := Cx.2.1
  have hDX := Cx.2.2.2.2.2.2.2.2.2.1
  have hDM := Cx.2.2.2.2.2.2.2.2.2.2.1
  obtain ⟨r, σ1, τ1, f1, f2, hR1⟩ := s_worst hR (xs (i + 1)) (xs (i + 2))
  refine lv_aload_n hx hb dL_law_666 rfl (lv_at hl 1 rfl) ?_
  refine la_arg Cx hI hl 1 (by omega) rfl dL_law_667 dL_law_668 dL_law_669 dL_law_670 dL_law_671 ?_
  refine la_arg Cx hI hl 2 (by omega) rfl dL_law_672 dL_law_673 dL_law_674 dL_law_675 dL_law_676 ?_
  refine la_cX (av := [.int (xs (i + 1)), .int (xs (i + 2))]) (r := r) (u := σ1) Cx hI yvX7_worst (metX7_worst l hDX f1) ms_blind (la_pX Cx hI _) ⟨rfl, rfl⟩ wd_27_11 ⟨(Nat.le_of_ble_eq_true rfl), (Nat.le_of_ble_eq_true rfl)⟩ rfl hl.1 rfl (Nat.le_of_ble_eq_true rfl) ⟨(Nat.le_of_ble_eq_true rfl), (Nat.le_of_ble_eq_true rfl)⟩ dL_law_677 (fun H locs hI => ?_)
  refine lv_aload_n hx hb dL_law_680 rfl (lv_at hl 2 rfl) ?_
  refine la_arg Cx hI hl 1 (by omega) rfl dL_law_681 dL_law_682 dL_law_683 dL_law_684 dL_law_685 ?_
  refine la_arg Cx hI hl 2 (by omega) rfl dL_law_686 dL_law_687 dL_law_688 dL_law_689 dL_law_690 ?_
  refine la_cM (av := [.int (xs (i + 1)), .int (xs (i + 2))]) (r := r) (u := τ1) Cx hI yvX8_worst (metX8_worst l hDM f2) ms_blind (la_pM Cx hI _) ⟨rfl, rfl⟩ wd_27_19 ⟨(Nat.le_of_ble_eq_true rfl), (Nat.le_of_ble_eq_true rfl)⟩ rfl hl.1 rfl (Nat.le_of_ble_eq_true rfl) ⟨(Nat.le_of_ble_eq_true rfl), (Nat.le_of_ble_eq_true rfl)⟩ dL_law_691 (fun H locs hI => ?_)
  exact lv_icmp_eq (tgt := 1211) hx hb dL_law_694 rfl (fun _ => kk σ1 τ1 H locs hR1 hI) (fun hc => absurd rfl hc)
set_option maxHeartbeats 4000000 in
set_option maxRecDepth 100000 in
/-- fewest -/
theorem la_k19 {p : Program} {l : Launch} {e : Env} {s : State} {m : MethodId} {below : List Frame} {meth : Method} {c : Code} {Q : State → Prop} {D : va_G} {cA : Nat → ClassId} {aX aM : Nat → Nat} {b L i : Nat} {xs : Nat → Int32} {σ τ : Mm} {H : Heap} {locs : List Loc} {ls : Array Slot} (Cx : la_C p s m meth c b D cA aX aM L xs) (hI : la_I D cA aX aM s σ τ H locs) (hR : Rel σ τ) (hi : i + 6 ≤ L) (hl : lv_has ls 4 [(0, .ref b), (1, .ref (aX 0)), (2, .ref (aM 0)), (3, .int (nI i))]) (kk : ∀ (σ τ : Mm) (H : Heap) (locs : List Loc), Rel σ τ → la_I D cA aX aM s σ τ H locs → W p l e room_1 s m #[Value.ref b] below meth c H locs 600000 7302250 Q (F0 m 1211 ls [])) : W p l e room_1 s m #[Value.ref b] below meth c H locs 600000 7302250 Q (F0 m 699 ls []) := by
  have hx := Cx.1
  have hb := Cx.2.1
  have hDX := Cx.2.2.2.2.2.2.2.2.2.1
  have hDM := Cx.2.2.2.2.2.2.2.2.2.2.1
  obtain ⟨r, σ1, τ1, f1, f2, hR1⟩ := s_fewest hR (xs (i + 1))
  refine lv_aload_n hx hb dL_law_699 rfl (lv_at hl 1 rfl) ?_
  refine la_arg Cx hI hl 1 (by omega) rfl dL_law_700 dL_law_701 dL_law_702 dL_law_703 dL_law_704 ?_
  refine la_cX (av := [.int (xs (i + 1))]) (r := r) (u := σ1) Cx hI yvX7_fewest (metX7_fewest l hDX f1) ms_blind (la_pX Cx hI _) ⟨rfl, rfl⟩ wd_28_7 ⟨(Nat.le_of_ble_eq_true rfl), (Nat.le_of_ble_eq_true rfl)⟩ rfl hl.1 rfl (Nat.le_of_ble_eq_true rfl) ⟨(Nat.le_of_ble_eq_true rfl), (Nat.le_of_ble_eq_true rfl)⟩ dL_law_705 (fun H locs hI => ?_)
  refine lv_aload_n hx hb dL_law_708 rfl (lv_at hl 2 rfl) ?_
  refine la_arg Cx hI hl 1 (by omega) rfl dL_law_709 dL_law_710 dL_law_711 dL_law_712 dL_law_713 ?_
  refine la_cM (av := [.int (xs (i + 1))]) (r := r) (u := τ1) Cx hI yvX8_fewest (metX8_fewest l hDM f2) ms_blind (la_pM Cx hI _) ⟨rfl, rfl⟩ wd_29_0 ⟨(Nat.le_of_ble_eq_true rfl), (Nat.le_of_ble_eq_true rfl)⟩ rfl hl.1 rfl (Nat.le_of_ble_eq_true rfl) ⟨(Nat.le_of_ble_eq_true rfl), (Nat.le_of_ble_eq_true rfl)⟩ dL_law_714 (fun H locs hI => ?_)
  exact lv_icmp_eq (tgt := 1211) hx hb dL_law_717 rfl (fun _ => kk σ1 τ1 H locs hR1 hI) (fun hc => absurd rfl hc)
set_option maxHeartbeats 4000000 in
set_option maxRecDepth 100000 in
/-- place -/
theorem la_k20 {p : Program} {l : Launch} {e : Env} {s : State} {m : MethodId} {below : List Frame} {meth : Method} {c : Code} {Q : State → Prop} {D : va_G} {cA : Nat → ClassId} {aX aM : Nat → Nat} {b L i : Nat} {xs : Nat → Int32} {σ τ : Mm} {H : Heap} {locs : List Loc} {ls : Array Slot} (Cx : la_C p s m meth c b D cA aX aM L xs) (hI : la_I D cA aX aM s σ τ H locs) (hR : Rel σ τ) (hi : i + 6 ≤ L) (hl : lv_has ls 4 [(0, .ref b), (1, .ref (aX 0)), (2, .ref (aM 0)), (3, .int (nI i))]) (kk : ∀ (σ τ : Mm) (H : Heap) (locs : List Loc), Rel σ τ → la_I D cA aX aM s σ τ H locs → W p l e room_1 s m #[Value.ref b] below meth c H locs 600000 7302250 Q (F0 m 1211 ls [])) : W p l e room_1 s m #[Value.ref b] below meth c H locs 600000 7302250 Q (F0 m 722 ls []) := by
  have hx := Cx.1
  have hb := Cx.2.1
  have hDX := Cx.2.2.2.2.2.2.2.2.2.1
  have hDM := Cx.2.2.2.2.2.2.2.2.2.2.1
  obtain ⟨r, σ1, τ1, f1, f2, hR1⟩ := s_place hR (xs (i + 1)) (xs (i + 2))
  refine lv_aload_n hx hb dL_law_722 rfl (lv_at hl 1 rfl) ?_
  refine la_arg Cx hI hl 1 (by omega) rfl dL_law_723 dL_law_724 dL_law_725 dL_law_726 dL_law_727 ?_
  refine la_arg Cx hI hl 2 (by omega) rfl dL_law_728 dL_law_729 dL_law_730 dL_law_731 dL_law_732 ?_
  refine la_cX (av := [.int (xs (i + 1)), .int (xs (i + 2))]) (r := r) (u := σ1) Cx hI yvX7_place (metX7_place l hDX f1) ms_blind (la_pX Cx hI _) ⟨rfl, rfl⟩ wd_29_11 ⟨(Nat.le_of_ble_eq_true rfl), (Nat.le_of_ble_eq_true rfl)⟩ rfl hl.1 rfl (Nat.le_of_ble_eq_true rfl) ⟨(Nat.le_of_ble_eq_true rfl), (Nat.le_of_ble_eq_true rfl)⟩ dL_law_733 (fun H locs hI => ?_)
  refine lv_aload_n hx hb dL_law_736 rfl (lv_at hl 2 rfl) ?_
  refine la_arg Cx hI hl 1 (by omega) rfl dL_law_737 dL_law_738 dL_law_739 dL_law_740 dL_law_741 ?_
  refine la_arg Cx hI hl 2 (by omega) rfl dL_law_742 dL_law_743 dL_law_744 dL_law_745 dL_law_746 ?_
  refine la_cM (av := [.int (xs (i + 1)), .int (xs (i + 2))]) (r := r) (u := τ1) Cx hI yvX8_place (metX8_place l hDM f2) ms_blind (la_pM Cx hI _) ⟨rfl, rfl⟩ wd_29_19 ⟨(Nat.le_of_ble_eq_true rfl), (Nat.le_of_ble_eq_true rfl)⟩ rfl hl.1 rfl (Nat.le_of_ble_eq_true rfl) ⟨(Nat.le_of_ble_eq_true rfl), (Nat.le_of_ble_eq_true rfl)⟩ dL_law_747 (fun H locs hI => ?_)
  exact lv_icmp_eq (tgt := 1211) hx hb dL_law_750 rfl (fun _ => kk σ1 τ1 H locs hR1 hI) (fun hc => absurd rfl hc)
set_option maxHeartbeats 4000000 in
set_option maxRecDepth 100000 in
/-- best -/
theorem la_k21 {p : Program} {l : Launch} {e : Env} {s : State} {m : MethodId} {below : List Frame} {meth : Method} {c : Code} {Q : State → Prop} {D : va_G} {cA : Nat → ClassId} {aX aM : Nat → Nat} {b L i : Nat} {xs : Nat → Int32} {σ τ : Mm} {H : Heap} {locs : List Loc} {ls : Array Slot} (Cx : la_C p s m meth c b D cA aX aM L xs) (hI : la_I D cA aX aM s σ τ H locs) (hR : Rel σ τ) (hi : i + 6 ≤ L) (hl : lv_has ls 4 [(0, .ref b), (1, .ref (aX 0)), (2, .ref (aM 0)), (3, .int (nI i))]) (kk : ∀ (σ τ : Mm) (H : Heap) (locs : List Loc), Rel σ τ → la_I D cA aX aM s σ τ H locs → W p l e room_1 s m #[Value.ref b] below meth c H locs 600000 7302250 Q (F0 m 1211 ls [])) : W p l e room_1 s m #[Value.ref b] below meth c H locs 600000 7302250 Q (F0 m 755 ls []) := by
  have hx := Cx.1
  have hb := Cx.2.1
  have hDX := Cx.2.2.2.2.2.2.2.2.2.1
  have hDM := Cx.2.2.2.2.2.2.2.2.2.2.1
  obtain ⟨r, σ1, τ1, f1, f2, hR1⟩ := s_best hR (xs (i + 1))
  refine lv_aload_n hx hb dL_law_755 rfl (lv_at hl 1 rfl) ?_
  refine la_arg Cx hI hl 1 (by omega) rfl dL_law_756 dL_law_757 dL_law_758 dL_law_759 dL_law_760 ?_
  refine la_cX (av := [.int (xs (i + 1))]) (r := r) (u := σ1) Cx hI yvX7_best (metX7_best l hDX f1) ms_blind (la_pX Cx hI _) ⟨rfl, rfl⟩ wd_30_3 ⟨(Nat.le_of_ble_eq_true rfl), (Nat.le_of_ble_eq_true rfl)⟩ rfl hl.1 rfl (Nat.le_of_ble_eq_true rfl) ⟨(Nat.le_of_ble_eq_true rfl), (Nat.le_of_ble_eq_true rfl)⟩ dL_law_761 (fun H locs hI => ?_)
  refine lv_aload_n hx hb dL_law_764 rfl (lv_at hl 2 rfl) ?_
  refine la_arg Cx hI hl 1 (by omega) rfl dL_law_765 dL_law_766 dL_law_767 dL_law_768 dL_law_769 ?_
  refine la_cM (av := [.int (xs (i + 1))]) (r := r) (u := τ1) Cx hI yvX8_best (metX8_best l hDM f2) ms_blind (la_pM Cx hI _) ⟨rfl, rfl⟩ wd_32_0 ⟨(Nat.le_of_ble_eq_true rfl), (Nat.le_of_ble_eq_true rfl)⟩ rfl hl.1 rfl (Nat.le_of_ble_eq_true rfl) ⟨(Nat.le_of_ble_eq_true rfl), (Nat.le_of_ble_eq_true rfl)⟩ dL_law_770 (fun H locs hI => ?_)
  exact lv_icmp_eq (tgt := 1211) hx hb dL_law_773 rfl (fun _ => kk σ1 τ1 H locs hR1 hI) (fun hc => absurd rfl hc)
set_option maxHeartbeats 4000000 in
set_option maxRecDepth 100000 in
/-- lasts -/
theorem la_k22 {p : Program} {l : Launch} {e : Env} {s : State} {m : MethodId} {below : List Frame} {meth : Method} {c : Code} {Q : State → Prop} {D : va_G} {cA : Nat → ClassId} {aX aM : Nat → Nat} {b L i : Nat} {xs : Nat → Int32} {σ τ : Mm} {H : Heap} {locs : List Loc} {ls : Array Slot} (Cx : la_C p s m meth c b D cA aX aM L xs) (hI : la_I D cA aX aM s σ τ H locs) (hR : Rel σ τ) (hi : i + 6 ≤ L) (hl : lv_has ls 4 [(0, .ref b), (1, .ref (aX 0)), (2, .ref (aM 0)), (3, .int (nI i))]) (kk : ∀ (σ τ : Mm) (H : Heap) (locs : List Loc), Rel σ τ → la_I D cA aX aM s σ τ H locs → W p l e room_1 s m #[Value.ref b] below meth c H locs 600000 7302250 Q (F0 m 1211 ls [])) : W p l e room_1 s m #[Value.ref b] below meth c H locs 600000 7302250 Q (F0 m 778 ls []) := by
  have hx := Cx.1
  have hb := Cx.2.1
  have hDX := Cx.2.2.2.2.2.2.2.2.2.1
  have hDM := Cx.2.2.2.2.2.2.2.2.2.2.1
  obtain ⟨r, σ1, τ1, f1, f2, hR1⟩ := s_lasts hR 
  refine lv_aload_n hx hb dL_law_778 rfl (lv_at hl 1 rfl) ?_
  refine la_cX (av := []) (r := r) (u := σ1) Cx hI yvX7_lasts (metX7_lasts l hDX f1) ms_blind (la_pX Cx hI _) ⟨rfl, rfl⟩ wd_32_8 ⟨(Nat.le_of_ble_eq_true rfl), (Nat.le_of_ble_eq_true rfl)⟩ rfl hl.1 rfl (Nat.le_of_ble_eq_true rfl) ⟨(Nat.le_of_ble_eq_true rfl), (Nat.le_of_ble_eq_true rfl)⟩ dL_law_779 (fun H locs hI => ?_)
  refine lv_aload_n hx hb dL_law_782 rfl (lv_at hl 2 rfl) ?_
  refine la_cM (av := []) (r := r) (u := τ1) Cx hI yvX8_lasts (metX8_lasts l hDM f2) ms_blind (la_pM Cx hI _) ⟨rfl, rfl⟩ wd_32_16 ⟨(Nat.le_of_ble_eq_true rfl), (Nat.le_of_ble_eq_true rfl)⟩ rfl hl.1 rfl (Nat.le_of_ble_eq_true rfl) ⟨(Nat.le_of_ble_eq_true rfl), (Nat.le_of_ble_eq_true rfl)⟩ dL_law_783 (fun H locs hI => ?_)
  exact lv_icmp_eq (tgt := 1211) hx hb dL_law_786 rfl (fun _ => kk σ1 τ1 H locs hR1 hI) (fun hc => absurd rfl hc)
set_option maxHeartbeats 4000000 in
set_option maxRecDepth 100000 in
/-- seen -/
theorem la_k23 {p : Program} {l : Launch} {e : Env} {s : State} {m : MethodId} {below : List Frame} {meth : Method} {c : Code} {Q : State → Prop} {D : va_G} {cA : Nat → ClassId} {aX aM : Nat → Nat} {b L i : Nat} {xs : Nat → Int32} {σ τ : Mm} {H : Heap} {locs : List Loc} {ls : Array Slot} (Cx : la_C p s m meth c b D cA aX aM L xs) (hI : la_I D cA aX aM s σ τ H locs) (hR : Rel σ τ) (hi : i + 6 ≤ L) (hl : lv_has ls 4 [(0, .ref b), (1, .ref (aX 0)), (2, .ref (aM 0)), (3, .int (nI i))]) (kk : ∀ (σ τ : Mm) (H : Heap) (locs : List Loc), Rel σ τ → la_I D cA aX aM s σ τ H locs → W p l e room_1 s m #[Value.ref b] below meth c H locs 600000 7302250 Q (F0 m 1211 ls [])) : W p l e room_1 s m #[Value.ref b] below meth c H locs 600000 7302250 Q (F0 m 791 ls []) := by
  have hx := Cx.1
  have hb := Cx.2.1
  have hDX := Cx.2.2.2.2.2.2.2.2.2.1
  have hDM := Cx.2.2.2.2.2.2.2.2.2.2.1
  obtain ⟨r, σ1, τ1, f1, f2, hR1⟩ := s_seen hR (xs (i + 1)) (xs (i + 2))
  refine lv_aload_n hx hb dL_law_791 rfl (lv_at hl 1 rfl) ?_
  refine la_arg Cx hI hl 1 (by omega) rfl dL_law_792 dL_law_793 dL_law_794 dL_law_795 dL_law_796 ?_
  refine la_arg Cx hI hl 2 (by omega) rfl dL_law_797 dL_law_798 dL_law_799 dL_law_800 dL_law_801 ?_
  refine la_cX (av := [.int (xs (i + 1)), .int (xs (i + 2))]) (r := r) (u := σ1) Cx hI yvX7_seen (metX7_seen l hDX f1) ms_blind (la_pX Cx hI _) ⟨rfl, rfl⟩ wd_33_0 ⟨(Nat.le_of_ble_eq_true rfl), (Nat.le_of_ble_eq_true rfl)⟩ rfl hl.1 rfl (Nat.le_of_ble_eq_true rfl) ⟨(Nat.le_of_ble_eq_true rfl), (Nat.le_of_ble_eq_true rfl)⟩ dL_law_802 (fun H locs hI => ?_)
  refine lv_aload_n hx hb dL_law_805 rfl (lv_at hl 2 rfl) ?_
  refine la_arg Cx hI hl 1 (by omega) rfl dL_law_806 dL_law_807 dL_law_808 dL_law_809 dL_law_810 ?_
  refine la_arg Cx hI hl 2 (by omega) rfl dL_law_811 dL_law_812 dL_law_813 dL_law_814 dL_law_815 ?_
  refine la_cM (av := [.int (xs (i + 1)), .int (xs (i + 2))]) (r := r) (u := τ1) Cx hI yvX8_seen (metX8_seen l hDM f2) ms_blind (la_pM Cx hI _) ⟨rfl, rfl⟩ wd_33_9 ⟨(Nat.le_of_ble_eq_true rfl), (Nat.le_of_ble_eq_true rfl)⟩ rfl hl.1 rfl (Nat.le_of_ble_eq_true rfl) ⟨(Nat.le_of_ble_eq_true rfl), (Nat.le_of_ble_eq_true rfl)⟩ dL_law_816 (fun H locs hI => ?_)
  exact lv_icmp_eq (tgt := 1211) hx hb dL_law_819 rfl (fun _ => kk σ1 τ1 H locs hR1 hI) (fun hc => absurd rfl hc)
set_option maxHeartbeats 4000000 in
set_option maxRecDepth 100000 in
/-- forget -/
theorem la_k24 {p : Program} {l : Launch} {e : Env} {s : State} {m : MethodId} {below : List Frame} {meth : Method} {c : Code} {Q : State → Prop} {D : va_G} {cA : Nat → ClassId} {aX aM : Nat → Nat} {b L i : Nat} {xs : Nat → Int32} {σ τ : Mm} {H : Heap} {locs : List Loc} {ls : Array Slot} (Cx : la_C p s m meth c b D cA aX aM L xs) (hI : la_I D cA aX aM s σ τ H locs) (hR : Rel σ τ) (hi : i + 6 ≤ L) (hl : lv_has ls 4 [(0, .ref b), (1, .ref (aX 0)), (2, .ref (aM 0)), (3, .int (nI i))]) (kk : ∀ (σ τ : Mm) (H : Heap) (locs : List Loc), Rel σ τ → la_I D cA aX aM s σ τ H locs → W p l e room_1 s m #[Value.ref b] below meth c H locs 600000 7302250 Q (F0 m 1211 ls [])) : W p l e room_1 s m #[Value.ref b] below meth c H locs 600000 7302250 Q (F0 m 824 ls []) := by
  have hx := Cx.1
  have hb := Cx.2.1
  have hDX := Cx.2.2.2.2.2.2.2.2.2.1
  have hDM := Cx.2.2.2.2.2.2.2.2.2.2.1
  obtain ⟨r, σ1, τ1, f1, f2, hR1⟩ := s_forget hR 
  refine lv_aload_n hx hb dL_law_824 rfl (lv_at hl 1 rfl) ?_
  refine la_cX (av := []) (r := r) (u := σ1) Cx hI yvX7_forget (metX7_forget l hDX f1) ms_blind (la_pX Cx hI _) ⟨rfl, rfl⟩ wd_33_14 ⟨(Nat.le_of_ble_eq_true rfl), (Nat.le_of_ble_eq_true rfl)⟩ rfl hl.1 rfl (Nat.le_of_ble_eq_true rfl) ⟨(Nat.le_of_ble_eq_true rfl), (Nat.le_of_ble_eq_true rfl)⟩ dL_law_825 (fun H locs hI => ?_)
  refine lv_aload_n hx hb dL_law_828 rfl (lv_at hl 2 rfl) ?_
  refine la_cM (av := []) (r := r) (u := τ1) Cx hI yvX8_forget (metX8_forget l hDM f2) ms_blind (la_pM Cx hI _) ⟨rfl, rfl⟩ wd_33_22 ⟨(Nat.le_of_ble_eq_true rfl), (Nat.le_of_ble_eq_true rfl)⟩ rfl hl.1 rfl (Nat.le_of_ble_eq_true rfl) ⟨(Nat.le_of_ble_eq_true rfl), (Nat.le_of_ble_eq_true rfl)⟩ dL_law_829 (fun H locs hI => ?_)
  exact lv_icmp_eq (tgt := 1211) hx hb dL_law_832 rfl (fun _ => kk σ1 τ1 H locs hR1 hI) (fun hc => absurd rfl hc)
set_option maxHeartbeats 4000000 in
set_option maxRecDepth 100000 in
/-- unlike -/
theorem la_k25 {p : Program} {l : Launch} {e : Env} {s : State} {m : MethodId} {below : List Frame} {meth : Method} {c : Code} {Q : State → Prop} {D : va_G} {cA : Nat → ClassId} {aX aM : Nat → Nat} {b L i : Nat} {xs : Nat → Int32} {σ τ : Mm} {H : Heap} {locs : List Loc} {ls : Array Slot} (Cx : la_C p s m meth c b D cA aX aM L xs) (hI : la_I D cA aX aM s σ τ H locs) (hR : Rel σ τ) (hi : i + 6 ≤ L) (hl : lv_has ls 4 [(0, .ref b), (1, .ref (aX 0)), (2, .ref (aM 0)), (3, .int (nI i))]) (kk : ∀ (σ τ : Mm) (H : Heap) (locs : List Loc), Rel σ τ → la_I D cA aX aM s σ τ H locs → W p l e room_1 s m #[Value.ref b] below meth c H locs 600000 7302250 Q (F0 m 1211 ls [])) : W p l e room_1 s m #[Value.ref b] below meth c H locs 600000 7302250 Q (F0 m 837 ls []) := by
  have hx := Cx.1
  have hb := Cx.2.1
  have hDX := Cx.2.2.2.2.2.2.2.2.2.1
  have hDM := Cx.2.2.2.2.2.2.2.2.2.2.1
  obtain ⟨r, σ1, τ1, f1, f2, hR1⟩ := s_unlike hR 
  refine lv_aload_n hx hb dL_law_837 rfl (lv_at hl 1 rfl) ?_
  refine la_cX (av := []) (r := r) (u := σ1) Cx hI yvX7_unlike (metX7_unlike l hDX f1) ms_blind (la_pX Cx hI _) ⟨rfl, rfl⟩ wd_34_2 ⟨(Nat.le_of_ble_eq_true rfl), (Nat.le_of_ble_eq_true rfl)⟩ rfl hl.1 rfl (Nat.le_of_ble_eq_true rfl) ⟨(Nat.le_of_ble_eq_true rfl), (Nat.le_of_ble_eq_true rfl)⟩ dL_law_838 (fun H locs hI => ?_)
  refine lv_aload_n hx hb dL_law_841 rfl (lv_at hl 2 rfl) ?_
  refine la_cM (av := []) (r := r) (u := τ1) Cx hI yvX8_unlike (metX8_unlike l hDM f2) ms_blind (la_pM Cx hI _) ⟨rfl, rfl⟩ wd_34_10 ⟨(Nat.le_of_ble_eq_true rfl), (Nat.le_of_ble_eq_true rfl)⟩ rfl hl.1 rfl (Nat.le_of_ble_eq_true rfl) ⟨(Nat.le_of_ble_eq_true rfl), (Nat.le_of_ble_eq_true rfl)⟩ dL_law_842 (fun H locs hI => ?_)
  exact lv_icmp_eq (tgt := 1211) hx hb dL_law_845 rfl (fun _ => kk σ1 τ1 H locs hR1 hI) (fun hc => absurd rfl hc)
set_option maxHeartbeats 4000000 in
set_option maxRecDepth 100000 in
/-- thief -/
theorem la_k26 {p : Program} {l : Launch} {e : Env} {s : State} {m : MethodId} {below : List Frame} {meth : Method} {c : Code} {Q : State → Prop} {D : va_G} {cA : Nat → ClassId} {aX aM : Nat → Nat} {b L i : Nat} {xs : Nat → Int32} {σ τ : Mm} {H : Heap} {locs : List Loc} {ls : Array Slot} (Cx : la_C p s m meth c b D cA aX aM L xs) (hI : la_I D cA aX aM s σ τ H locs) (hR : Rel σ τ) (hi : i + 6 ≤ L) (hl : lv_has ls 4 [(0, .ref b), (1, .ref (aX 0)), (2, .ref (aM 0)), (3, .int (nI i))]) (kk : ∀ (σ τ : Mm) (H : Heap) (locs : List Loc), Rel σ τ → la_I D cA aX aM s σ τ H locs → W p l e room_1 s m #[Value.ref b] below meth c H locs 600000 7302250 Q (F0 m 1211 ls [])) : W p l e room_1 s m #[Value.ref b] below meth c H locs 600000 7302250 Q (F0 m 850 ls []) := by
  have hx := Cx.1
  have hb := Cx.2.1
  have hDX := Cx.2.2.2.2.2.2.2.2.2.1
  have hDM := Cx.2.2.2.2.2.2.2.2.2.2.1
  obtain ⟨r, σ1, τ1, f1, f2, hR1⟩ := s_thief hR (xs (i + 1))
  refine lv_aload_n hx hb dL_law_850 rfl (lv_at hl 1 rfl) ?_
  refine la_arg Cx hI hl 1 (by omega) rfl dL_law_851 dL_law_852 dL_law_853 dL_law_854 dL_law_855 ?_
  refine la_cX (av := [.int (xs (i + 1))]) (r := r) (u := σ1) Cx hI yvX7_thief (metX7_thief l hDX f1) ms_blind (la_pX Cx hI _) ⟨rfl, rfl⟩ wd_34_22 ⟨(Nat.le_of_ble_eq_true rfl), (Nat.le_of_ble_eq_true rfl)⟩ rfl hl.1 rfl (Nat.le_of_ble_eq_true rfl) ⟨(Nat.le_of_ble_eq_true rfl), (Nat.le_of_ble_eq_true rfl)⟩ dL_law_856 (fun H locs hI => ?_)
  refine lv_aload_n hx hb dL_law_859 rfl (lv_at hl 2 rfl) ?_
  refine la_arg Cx hI hl 1 (by omega) rfl dL_law_860 dL_law_861 dL_law_862 dL_law_863 dL_law_864 ?_
  refine la_cM (av := [.int (xs (i + 1))]) (r := r) (u := τ1) Cx hI yvX8_thief (metX8_thief l hDM f2) ms_blind (la_pM Cx hI _) ⟨rfl, rfl⟩ wd_36_0 ⟨(Nat.le_of_ble_eq_true rfl), (Nat.le_of_ble_eq_true rfl)⟩ rfl hl.1 rfl (Nat.le_of_ble_eq_true rfl) ⟨(Nat.le_of_ble_eq_true rfl), (Nat.le_of_ble_eq_true rfl)⟩ dL_law_865 (fun H locs hI => ?_)
  exact lv_icmp_eq (tgt := 1211) hx hb dL_law_868 rfl (fun _ => kk σ1 τ1 H locs hR1 hI) (fun hc => absurd rfl hc)
set_option maxHeartbeats 4000000 in
set_option maxRecDepth 100000 in
/-- robbed -/
theorem la_k27 {p : Program} {l : Launch} {e : Env} {s : State} {m : MethodId} {below : List Frame} {meth : Method} {c : Code} {Q : State → Prop} {D : va_G} {cA : Nat → ClassId} {aX aM : Nat → Nat} {b L i : Nat} {xs : Nat → Int32} {σ τ : Mm} {H : Heap} {locs : List Loc} {ls : Array Slot} (Cx : la_C p s m meth c b D cA aX aM L xs) (hI : la_I D cA aX aM s σ τ H locs) (hR : Rel σ τ) (hi : i + 6 ≤ L) (hl : lv_has ls 4 [(0, .ref b), (1, .ref (aX 0)), (2, .ref (aM 0)), (3, .int (nI i))]) (kk : ∀ (σ τ : Mm) (H : Heap) (locs : List Loc), Rel σ τ → la_I D cA aX aM s σ τ H locs → W p l e room_1 s m #[Value.ref b] below meth c H locs 600000 7302250 Q (F0 m 1211 ls [])) : W p l e room_1 s m #[Value.ref b] below meth c H locs 600000 7302250 Q (F0 m 873 ls []) := by
  have hx := Cx.1
  have hb := Cx.2.1
  have hDX := Cx.2.2.2.2.2.2.2.2.2.1
  have hDM := Cx.2.2.2.2.2.2.2.2.2.2.1
  obtain ⟨r, σ1, τ1, f1, f2, hR1⟩ := s_robbed hR (xs (i + 1)) (xs (i + 2)) (xs (i + 3))
  refine lv_aload_n hx hb dL_law_873 rfl (lv_at hl 1 rfl) ?_
  refine la_arg Cx hI hl 1 (by omega) rfl dL_law_874 dL_law_875 dL_law_876 dL_law_877 dL_law_878 ?_
  refine la_arg Cx hI hl 2 (by omega) rfl dL_law_879 dL_law_880 dL_law_881 dL_law_882 dL_law_883 ?_
  refine la_arg Cx hI hl 3 (by omega) rfl dL_law_884 dL_law_885 dL_law_886 dL_law_887 dL_law_888 ?_
  refine la_cX (av := [.int (xs (i + 1)), .int (xs (i + 2)), .int (xs (i + 3))]) (r := r) (u := σ1) Cx hI yvX7_robbed (metX7_robbed l hDX f1) ms_blind (la_pX Cx hI _) ⟨rfl, rfl⟩ wd_36_4 ⟨(Nat.le_of_ble_eq_true rfl), (Nat.le_of_ble_eq_true rfl)⟩ rfl hl.1 rfl (Nat.le_of_ble_eq_true rfl) ⟨(Nat.le_of_ble_eq_true rfl), (Nat.le_of_ble_eq_true rfl)⟩ dL_law_889 (fun H locs hI => ?_)
  refine lv_aload_n hx hb dL_law_892 rfl (lv_at hl 2 rfl) ?_
  refine la_arg Cx hI hl 1 (by omega) rfl dL_law_893 dL_law_894 dL_law_895 dL_law_896 dL_law_897 ?_
  refine la_arg Cx hI hl 2 (by omega) rfl dL_law_898 dL_law_899 dL_law_900 dL_law_901 dL_law_902 ?_
  refine la_arg Cx hI hl 3 (by omega) rfl dL_law_903 dL_law_904 dL_law_905 dL_law_906 dL_law_907 ?_
  refine la_cM (av := [.int (xs (i + 1)), .int (xs (i + 2)), .int (xs (i + 3))]) (r := r) (u := τ1) Cx hI yvX8_robbed (metX8_robbed l hDM f2) ms_blind (la_pM Cx hI _) ⟨rfl, rfl⟩ wd_36_11 ⟨(Nat.le_of_ble_eq_true rfl), (Nat.le_of_ble_eq_true rfl)⟩ rfl hl.1 rfl (Nat.le_of_ble_eq_true rfl) ⟨(Nat.le_of_ble_eq_true rfl), (Nat.le_of_ble_eq_true rfl)⟩ dL_law_908 (fun H locs hI => ?_)
  exact lv_icmp_eq (tgt := 1211) hx hb dL_law_911 rfl (fun _ => kk σ1 τ1 H locs hR1 hI) (fun hc => absurd rfl hc)
set_option maxHeartbeats 4000000 in
set_option maxRecDepth 100000 in
/-- sheet -/
theorem la_k28 {p : Program} {l : Launch} {e : Env} {s : State} {m : MethodId} {below : List Frame} {meth : Method} {c : Code} {Q : State → Prop} {D : va_G} {cA : Nat → ClassId} {aX aM : Nat → Nat} {b L i : Nat} {xs : Nat → Int32} {σ τ : Mm} {H : Heap} {locs : List Loc} {ls : Array Slot} (Cx : la_C p s m meth c b D cA aX aM L xs) (hI : la_I D cA aX aM s σ τ H locs) (hR : Rel σ τ) (hi : i + 6 ≤ L) (hl : lv_has ls 4 [(0, .ref b), (1, .ref (aX 0)), (2, .ref (aM 0)), (3, .int (nI i))]) (kk : ∀ (σ τ : Mm) (H : Heap) (locs : List Loc), Rel σ τ → la_I D cA aX aM s σ τ H locs → W p l e room_1 s m #[Value.ref b] below meth c H locs 600000 7302250 Q (F0 m 1211 ls [])) : W p l e room_1 s m #[Value.ref b] below meth c H locs 600000 7302250 Q (F0 m 916 ls []) := by
  have hx := Cx.1
  have hb := Cx.2.1
  have hDX := Cx.2.2.2.2.2.2.2.2.2.1
  have hDM := Cx.2.2.2.2.2.2.2.2.2.2.1
  obtain ⟨r, σ1, τ1, f1, f2, hR1⟩ := s_sheet hR (xs (i + 1)) (xs (i + 2)) (xs (i + 3))
  refine lv_aload_n hx hb dL_law_916 rfl (lv_at hl 1 rfl) ?_
  refine la_arg Cx hI hl 1 (by omega) rfl dL_law_917 dL_law_918 dL_law_919 dL_law_920 dL_law_921 ?_
  refine la_arg Cx hI hl 2 (by omega) rfl dL_law_922 dL_law_923 dL_law_924 dL_law_925 dL_law_926 ?_
  refine la_arg Cx hI hl 3 (by omega) rfl dL_law_927 dL_law_928 dL_law_929 dL_law_930 dL_law_931 ?_
  refine la_cX (av := [.int (xs (i + 1)), .int (xs (i + 2)), .int (xs (i + 3))]) (r := r) (u := σ1) Cx hI yvX7_sheet (metX7_sheet l hDX f1) ms_blind (la_pX Cx hI _) ⟨rfl, rfl⟩ wd_36_19 ⟨(Nat.le_of_ble_eq_true rfl), (Nat.le_of_ble_eq_true rfl)⟩ rfl hl.1 rfl (Nat.le_of_ble_eq_true rfl) ⟨(Nat.le_of_ble_eq_true rfl), (Nat.le_of_ble_eq_true rfl)⟩ dL_law_932 (fun H locs hI => ?_)
  refine lv_aload_n hx hb dL_law_935 rfl (lv_at hl 2 rfl) ?_
  refine la_arg Cx hI hl 1 (by omega) rfl dL_law_936 dL_law_937 dL_law_938 dL_law_939 dL_law_940 ?_
  refine la_arg Cx hI hl 2 (by omega) rfl dL_law_941 dL_law_942 dL_law_943 dL_law_944 dL_law_945 ?_
  refine la_arg Cx hI hl 3 (by omega) rfl dL_law_946 dL_law_947 dL_law_948 dL_law_949 dL_law_950 ?_
  refine la_cM (av := [.int (xs (i + 1)), .int (xs (i + 2)), .int (xs (i + 3))]) (r := r) (u := τ1) Cx hI yvX8_sheet (metX8_sheet l hDM f2) ms_blind (la_pM Cx hI _) ⟨rfl, rfl⟩ wd_37_7 ⟨(Nat.le_of_ble_eq_true rfl), (Nat.le_of_ble_eq_true rfl)⟩ rfl hl.1 rfl (Nat.le_of_ble_eq_true rfl) ⟨(Nat.le_of_ble_eq_true rfl), (Nat.le_of_ble_eq_true rfl)⟩ dL_law_951 (fun H locs hI => ?_)
  exact lv_icmp_eq (tgt := 1211) hx hb dL_law_954 rfl (fun _ => kk σ1 τ1 H locs hR1 hI) (fun hc => absurd rfl hc)
set_option maxHeartbeats 4000000 in
set_option maxRecDepth 100000 in
/-- lose -/
theorem la_k29 {p : Program} {l : Launch} {e : Env} {s : State} {m : MethodId} {below : List Frame} {meth : Method} {c : Code} {Q : State → Prop} {D : va_G} {cA : Nat → ClassId} {aX aM : Nat → Nat} {b L i : Nat} {xs : Nat → Int32} {σ τ : Mm} {H : Heap} {locs : List Loc} {ls : Array Slot} (Cx : la_C p s m meth c b D cA aX aM L xs) (hI : la_I D cA aX aM s σ τ H locs) (hR : Rel σ τ) (hi : i + 6 ≤ L) (hl : lv_has ls 4 [(0, .ref b), (1, .ref (aX 0)), (2, .ref (aM 0)), (3, .int (nI i))]) (kk : ∀ (σ τ : Mm) (H : Heap) (locs : List Loc), Rel σ τ → la_I D cA aX aM s σ τ H locs → W p l e room_1 s m #[Value.ref b] below meth c H locs 600000 7302250 Q (F0 m 1211 ls [])) : W p l e room_1 s m #[Value.ref b] below meth c H locs 600000 7302250 Q (F0 m 959 ls []) := by
  have hx := Cx.1
  have hb := Cx.2.1
  have hDX := Cx.2.2.2.2.2.2.2.2.2.1
  have hDM := Cx.2.2.2.2.2.2.2.2.2.2.1
  obtain ⟨r, σ1, τ1, f1, f2, hR1⟩ := s_lose hR (xs (i + 1))
  refine lv_aload_n hx hb dL_law_959 rfl (lv_at hl 1 rfl) ?_
  refine la_arg Cx hI hl 1 (by omega) rfl dL_law_960 dL_law_961 dL_law_962 dL_law_963 dL_law_964 ?_
  refine la_cX (av := [.int (xs (i + 1))]) (r := r) (u := σ1) Cx hI yvX7_lose (metX7_lose l hDX f1) ms_blind (la_pX Cx hI _) ⟨rfl, rfl⟩ wd_37_11 ⟨(Nat.le_of_ble_eq_true rfl), (Nat.le_of_ble_eq_true rfl)⟩ rfl hl.1 rfl (Nat.le_of_ble_eq_true rfl) ⟨(Nat.le_of_ble_eq_true rfl), (Nat.le_of_ble_eq_true rfl)⟩ dL_law_965 (fun H locs hI => ?_)
  refine lv_aload_n hx hb dL_law_968 rfl (lv_at hl 2 rfl) ?_
  refine la_arg Cx hI hl 1 (by omega) rfl dL_law_969 dL_law_970 dL_law_971 dL_law_972 dL_law_973 ?_
  refine la_cM (av := [.int (xs (i + 1))]) (r := r) (u := τ1) Cx hI yvX8_lose (metX8_lose l hDM f2) ms_blind (la_pM Cx hI _) ⟨rfl, rfl⟩ wd_37_15 ⟨(Nat.le_of_ble_eq_true rfl), (Nat.le_of_ble_eq_true rfl)⟩ rfl hl.1 rfl (Nat.le_of_ble_eq_true rfl) ⟨(Nat.le_of_ble_eq_true rfl), (Nat.le_of_ble_eq_true rfl)⟩ dL_law_974 (fun H locs hI => ?_)
  exact lv_icmp_eq (tgt := 1211) hx hb dL_law_977 rfl (fun _ => kk σ1 τ1 H locs hR1 hI) (fun hc => absurd rfl hc)
set_option maxHeartbeats 4000000 in
set_option maxRecDepth 100000 in
/-- put -/
theorem la_k30 {p : Program} {l : Launch} {e : Env} {s : State} {m : MethodId} {below : List Frame} {meth : Method} {c : Code} {Q : State → Prop} {D : va_G} {cA : Nat → ClassId} {aX aM : Nat → Nat} {b L i : Nat} {xs : Nat → Int32} {σ τ : Mm} {H : Heap} {locs : List Loc} {ls : Array Slot} (Cx : la_C p s m meth c b D cA aX aM L xs) (hI : la_I D cA aX aM s σ τ H locs) (hR : Rel σ τ) (hi : i + 6 ≤ L) (hl : lv_has ls 4 [(0, .ref b), (1, .ref (aX 0)), (2, .ref (aM 0)), (3, .int (nI i))]) (kk : ∀ (σ τ : Mm) (H : Heap) (locs : List Loc), Rel σ τ → la_I D cA aX aM s σ τ H locs → W p l e room_1 s m #[Value.ref b] below meth c H locs 600000 7302250 Q (F0 m 1211 ls [])) : W p l e room_1 s m #[Value.ref b] below meth c H locs 600000 7302250 Q (F0 m 982 ls []) := by
  have hx := Cx.1
  have hb := Cx.2.1
  have hDX := Cx.2.2.2.2.2.2.2.2.2.1
  have hDM := Cx.2.2.2.2.2.2.2.2.2.2.1
  obtain ⟨r, σ1, τ1, f1, f2, hR1⟩ := s_put hR (xs (i + 1)) (xs (i + 2)) (xs (i + 3)) (xs (i + 4))
  refine lv_aload_n hx hb dL_law_982 rfl (lv_at hl 1 rfl) ?_
  refine la_arg Cx hI hl 1 (by omega) rfl dL_law_983 dL_law_984 dL_law_985 dL_law_986 dL_law_987 ?_
  refine la_arg Cx hI hl 2 (by omega) rfl dL_law_988 dL_law_989 dL_law_990 dL_law_991 dL_law_992 ?_
  refine la_arg Cx hI hl 3 (by omega) rfl dL_law_993 dL_law_994 dL_law_995 dL_law_996 dL_law_997 ?_
  refine la_arg Cx hI hl 4 (by omega) rfl dL_law_998 dL_law_999 dL_law_1000 dL_law_1001 dL_law_1002 ?_
  refine la_cX (av := [.int (xs (i + 1)), .int (xs (i + 2)), .int (xs (i + 3)), .int (xs (i + 4))]) (r := r) (u := σ1) Cx hI yvX7_put (metX7_put l hDX f1) ms_blind (la_pX Cx hI _) ⟨rfl, rfl⟩ wd_37_19 ⟨(Nat.le_of_ble_eq_true rfl), (Nat.le_of_ble_eq_true rfl)⟩ rfl hl.1 rfl (Nat.le_of_ble_eq_true rfl) ⟨(Nat.le_of_ble_eq_true rfl), (Nat.le_of_ble_eq_true rfl)⟩ dL_law_1003 (fun H locs hI => ?_)
  refine lv_aload_n hx hb dL_law_1006 rfl (lv_at hl 2 rfl) ?_
  refine la_arg Cx hI hl 1 (by omega) rfl dL_law_1007 dL_law_1008 dL_law_1009 dL_law_1010 dL_law_1011 ?_
  refine la_arg Cx hI hl 2 (by omega) rfl dL_law_1012 dL_law_1013 dL_law_1014 dL_law_1015 dL_law_1016 ?_
  refine la_arg Cx hI hl 3 (by omega) rfl dL_law_1017 dL_law_1018 dL_law_1019 dL_law_1020 dL_law_1021 ?_
  refine la_arg Cx hI hl 4 (by omega) rfl dL_law_1022 dL_law_1023 dL_law_1024 dL_law_1025 dL_law_1026 ?_
  refine la_cM (av := [.int (xs (i + 1)), .int (xs (i + 2)), .int (xs (i + 3)), .int (xs (i + 4))]) (r := r) (u := τ1) Cx hI yvX8_put (metX8_put l hDM f2) ms_blind (la_pM Cx hI _) ⟨rfl, rfl⟩ wd_38_7 ⟨(Nat.le_of_ble_eq_true rfl), (Nat.le_of_ble_eq_true rfl)⟩ rfl hl.1 rfl (Nat.le_of_ble_eq_true rfl) ⟨(Nat.le_of_ble_eq_true rfl), (Nat.le_of_ble_eq_true rfl)⟩ dL_law_1027 (fun H locs hI => ?_)
  exact lv_icmp_eq (tgt := 1211) hx hb dL_law_1030 rfl (fun _ => kk σ1 τ1 H locs hR1 hI) (fun hc => absurd rfl hc)
set_option maxHeartbeats 4000000 in
set_option maxRecDepth 100000 in
/-- get -/
theorem la_k31 {p : Program} {l : Launch} {e : Env} {s : State} {m : MethodId} {below : List Frame} {meth : Method} {c : Code} {Q : State → Prop} {D : va_G} {cA : Nat → ClassId} {aX aM : Nat → Nat} {b L i : Nat} {xs : Nat → Int32} {σ τ : Mm} {H : Heap} {locs : List Loc} {ls : Array Slot} (Cx : la_C p s m meth c b D cA aX aM L xs) (hI : la_I D cA aX aM s σ τ H locs) (hR : Rel σ τ) (hi : i + 6 ≤ L) (hl : lv_has ls 4 [(0, .ref b), (1, .ref (aX 0)), (2, .ref (aM 0)), (3, .int (nI i))]) (kk : ∀ (σ τ : Mm) (H : Heap) (locs : List Loc), Rel σ τ → la_I D cA aX aM s σ τ H locs → W p l e room_1 s m #[Value.ref b] below meth c H locs 600000 7302250 Q (F0 m 1211 ls [])) : W p l e room_1 s m #[Value.ref b] below meth c H locs 600000 7302250 Q (F0 m 1035 ls []) := by
  have hx := Cx.1
  have hb := Cx.2.1
  have hDX := Cx.2.2.2.2.2.2.2.2.2.1
  have hDM := Cx.2.2.2.2.2.2.2.2.2.2.1
  obtain ⟨r, σ1, τ1, f1, f2, hR1⟩ := s_get hR (xs (i + 1)) (xs (i + 2)) (xs (i + 3))
  refine lv_aload_n hx hb dL_law_1035 rfl (lv_at hl 1 rfl) ?_
  refine la_arg Cx hI hl 1 (by omega) rfl dL_law_1036 dL_law_1037 dL_law_1038 dL_law_1039 dL_law_1040 ?_
  refine la_arg Cx hI hl 2 (by omega) rfl dL_law_1041 dL_law_1042 dL_law_1043 dL_law_1044 dL_law_1045 ?_
  refine la_arg Cx hI hl 3 (by omega) rfl dL_law_1046 dL_law_1047 dL_law_1048 dL_law_1049 dL_law_1050 ?_
  refine la_cX (av := [.int (xs (i + 1)), .int (xs (i + 2)), .int (xs (i + 3))]) (r := r) (u := σ1) Cx hI yvX7_get (metX7_get l hDX f1) ms_blind (la_pX Cx hI _) ⟨rfl, rfl⟩ wd_38_19 ⟨(Nat.le_of_ble_eq_true rfl), (Nat.le_of_ble_eq_true rfl)⟩ rfl hl.1 rfl (Nat.le_of_ble_eq_true rfl) ⟨(Nat.le_of_ble_eq_true rfl), (Nat.le_of_ble_eq_true rfl)⟩ dL_law_1051 (fun H locs hI => ?_)
  refine lv_aload_n hx hb dL_law_1054 rfl (lv_at hl 2 rfl) ?_
  refine la_arg Cx hI hl 1 (by omega) rfl dL_law_1055 dL_law_1056 dL_law_1057 dL_law_1058 dL_law_1059 ?_
  refine la_arg Cx hI hl 2 (by omega) rfl dL_law_1060 dL_law_1061 dL_law_1062 dL_law_1063 dL_law_1064 ?_
  refine la_arg Cx hI hl 3 (by omega) rfl dL_law_1065 dL_law_1066 dL_law_1067 dL_law_1068 dL_law_1069 ?_
  refine la_cM (av := [.int (xs (i + 1)), .int (xs (i + 2)), .int (xs (i + 3))]) (r := r) (u := τ1) Cx hI yvX8_get (metX8_get l hDM f2) ms_blind (la_pM Cx hI _) ⟨rfl, rfl⟩ wd_39_0 ⟨(Nat.le_of_ble_eq_true rfl), (Nat.le_of_ble_eq_true rfl)⟩ rfl hl.1 rfl (Nat.le_of_ble_eq_true rfl) ⟨(Nat.le_of_ble_eq_true rfl), (Nat.le_of_ble_eq_true rfl)⟩ dL_law_1070 (fun H locs hI => ?_)
  exact lv_icmp_eq (tgt := 1211) hx hb dL_law_1073 rfl (fun _ => kk σ1 τ1 H locs hR1 hI) (fun hc => absurd rfl hc)
set_option maxHeartbeats 4000000 in
set_option maxRecDepth 100000 in
/-- copy -/
theorem la_k32 {p : Program} {l : Launch} {e : Env} {s : State} {m : MethodId} {below : List Frame} {meth : Method} {c : Code} {Q : State → Prop} {D : va_G} {cA : Nat → ClassId} {aX aM : Nat → Nat} {b L i : Nat} {xs : Nat → Int32} {σ τ : Mm} {H : Heap} {locs : List Loc} {ls : Array Slot} (Cx : la_C p s m meth c b D cA aX aM L xs) (hI : la_I D cA aX aM s σ τ H locs) (hR : Rel σ τ) (hi : i + 6 ≤ L) (hl : lv_has ls 4 [(0, .ref b), (1, .ref (aX 0)), (2, .ref (aM 0)), (3, .int (nI i))]) (kk : ∀ (σ τ : Mm) (H : Heap) (locs : List Loc), Rel σ τ → la_I D cA aX aM s σ τ H locs → W p l e room_1 s m #[Value.ref b] below meth c H locs 600000 7302250 Q (F0 m 1211 ls [])) : W p l e room_1 s m #[Value.ref b] below meth c H locs 600000 7302250 Q (F0 m 1078 ls []) := by
  have hx := Cx.1
  have hb := Cx.2.1
  have hDX := Cx.2.2.2.2.2.2.2.2.2.1
  have hDM := Cx.2.2.2.2.2.2.2.2.2.2.1
  obtain ⟨r, σ1, τ1, f1, f2, hR1⟩ := s_copy hR (xs (i + 1)) (xs (i + 2)) (xs (i + 3)) (xs (i + 4)) (xs (i + 5))
  refine lv_aload_n hx hb dL_law_1078 rfl (lv_at hl 1 rfl) ?_
  refine la_arg Cx hI hl 1 (by omega) rfl dL_law_1079 dL_law_1080 dL_law_1081 dL_law_1082 dL_law_1083 ?_
  refine la_arg Cx hI hl 2 (by omega) rfl dL_law_1084 dL_law_1085 dL_law_1086 dL_law_1087 dL_law_1088 ?_
  refine la_arg Cx hI hl 3 (by omega) rfl dL_law_1089 dL_law_1090 dL_law_1091 dL_law_1092 dL_law_1093 ?_
  refine la_arg Cx hI hl 4 (by omega) rfl dL_law_1094 dL_law_1095 dL_law_1096 dL_law_1097 dL_law_1098 ?_
  refine la_arg Cx hI hl 5 (by omega) rfl dL_law_1099 dL_law_1100 dL_law_1101 dL_law_1102 dL_law_1103 ?_
  refine la_cX (av := [.int (xs (i + 1)), .int (xs (i + 2)), .int (xs (i + 3)), .int (xs (i + 4)), .int (xs (i + 5))]) (r := r) (u := σ1) Cx hI yvX7_copy (metX7_copy l hDX f1) ms_blind (la_pX Cx hI _) ⟨rfl, rfl⟩ wd_39_5 ⟨(Nat.le_of_ble_eq_true rfl), (Nat.le_of_ble_eq_true rfl)⟩ rfl hl.1 rfl (Nat.le_of_ble_eq_true rfl) ⟨(Nat.le_of_ble_eq_true rfl), (Nat.le_of_ble_eq_true rfl)⟩ dL_law_1104 (fun H locs hI => ?_)
  refine lv_aload_n hx hb dL_law_1107 rfl (lv_at hl 2 rfl) ?_
  refine la_arg Cx hI hl 1 (by omega) rfl dL_law_1108 dL_law_1109 dL_law_1110 dL_law_1111 dL_law_1112 ?_
  refine la_arg Cx hI hl 2 (by omega) rfl dL_law_1113 dL_law_1114 dL_law_1115 dL_law_1116 dL_law_1117 ?_
  refine la_arg Cx hI hl 3 (by omega) rfl dL_law_1118 dL_law_1119 dL_law_1120 dL_law_1121 dL_law_1122 ?_
  refine la_arg Cx hI hl 4 (by omega) rfl dL_law_1123 dL_law_1124 dL_law_1125 dL_law_1126 dL_law_1127 ?_
  refine la_arg Cx hI hl 5 (by omega) rfl dL_law_1128 dL_law_1129 dL_law_1130 dL_law_1131 dL_law_1132 ?_
  refine la_cM (av := [.int (xs (i + 1)), .int (xs (i + 2)), .int (xs (i + 3)), .int (xs (i + 4)), .int (xs (i + 5))]) (r := r) (u := τ1) Cx hI yvX8_copy (metX8_copy l hDM f2) ms_blind (la_pM Cx hI _) ⟨rfl, rfl⟩ wd_39_17 ⟨(Nat.le_of_ble_eq_true rfl), (Nat.le_of_ble_eq_true rfl)⟩ rfl hl.1 rfl (Nat.le_of_ble_eq_true rfl) ⟨(Nat.le_of_ble_eq_true rfl), (Nat.le_of_ble_eq_true rfl)⟩ dL_law_1133 (fun H locs hI => ?_)
  exact lv_icmp_eq (tgt := 1211) hx hb dL_law_1136 rfl (fun _ => kk σ1 τ1 H locs hR1 hI) (fun hc => absurd rfl hc)
set_option maxHeartbeats 4000000 in
set_option maxRecDepth 100000 in
/-- write -/
theorem la_k33 {p : Program} {l : Launch} {e : Env} {s : State} {m : MethodId} {below : List Frame} {meth : Method} {c : Code} {Q : State → Prop} {D : va_G} {cA : Nat → ClassId} {aX aM : Nat → Nat} {b L i : Nat} {xs : Nat → Int32} {σ τ : Mm} {H : Heap} {locs : List Loc} {ls : Array Slot} (Cx : la_C p s m meth c b D cA aX aM L xs) (hI : la_I D cA aX aM s σ τ H locs) (hR : Rel σ τ) (hi : i + 6 ≤ L) (hl : lv_has ls 4 [(0, .ref b), (1, .ref (aX 0)), (2, .ref (aM 0)), (3, .int (nI i))]) (kk : ∀ (σ τ : Mm) (H : Heap) (locs : List Loc), Rel σ τ → la_I D cA aX aM s σ τ H locs → W p l e room_1 s m #[Value.ref b] below meth c H locs 600000 7302250 Q (F0 m 1211 ls [])) : W p l e room_1 s m #[Value.ref b] below meth c H locs 600000 7302250 Q (F0 m 1141 ls []) := by
  have hx := Cx.1
  have hb := Cx.2.1
  have hDX := Cx.2.2.2.2.2.2.2.2.2.1
  have hDM := Cx.2.2.2.2.2.2.2.2.2.2.1
  obtain ⟨r, σ1, τ1, f1, f2, hR1⟩ := s_write hR (xs (i + 1)) (xs (i + 2))
  refine lv_aload_n hx hb dL_law_1141 rfl (lv_at hl 1 rfl) ?_
  refine la_arg Cx hI hl 1 (by omega) rfl dL_law_1142 dL_law_1143 dL_law_1144 dL_law_1145 dL_law_1146 ?_
  refine la_arg Cx hI hl 2 (by omega) rfl dL_law_1147 dL_law_1148 dL_law_1149 dL_law_1150 dL_law_1151 ?_
  refine la_cX (av := [.int (xs (i + 1)), .int (xs (i + 2))]) (r := r) (u := σ1) Cx hI yvX7_write (metX7_write l hDX f1) ms_blind (la_pX Cx hI _) ⟨rfl, rfl⟩ wd_39_21 ⟨(Nat.le_of_ble_eq_true rfl), (Nat.le_of_ble_eq_true rfl)⟩ rfl hl.1 rfl (Nat.le_of_ble_eq_true rfl) ⟨(Nat.le_of_ble_eq_true rfl), (Nat.le_of_ble_eq_true rfl)⟩ dL_law_1152 (fun H locs hI => ?_)
  refine lv_aload_n hx hb dL_law_1155 rfl (lv_at hl 2 rfl) ?_
  refine la_arg Cx hI hl 1 (by omega) rfl dL_law_1156 dL_law_1157 dL_law_1158 dL_law_1159 dL_law_1160 ?_
  refine la_arg Cx hI hl 2 (by omega) rfl dL_law_1161 dL_law_1162 dL_law_1163 dL_law_1164 dL_law_1165 ?_
  refine la_cM (av := [.int (xs (i + 1)), .int (xs (i + 2))]) (r := r) (u := τ1) Cx hI yvX8_write (metX8_write l hDM f2) ms_blind (la_pM Cx hI _) ⟨rfl, rfl⟩ wd_40_1 ⟨(Nat.le_of_ble_eq_true rfl), (Nat.le_of_ble_eq_true rfl)⟩ rfl hl.1 rfl (Nat.le_of_ble_eq_true rfl) ⟨(Nat.le_of_ble_eq_true rfl), (Nat.le_of_ble_eq_true rfl)⟩ dL_law_1166 (fun H locs hI => ?_)
  exact lv_icmp_eq (tgt := 1211) hx hb dL_law_1169 rfl (fun _ => kk σ1 τ1 H locs hR1 hI) (fun hc => absurd rfl hc)
set_option maxHeartbeats 4000000 in
set_option maxRecDepth 100000 in
/-- count -/
theorem la_k34 {p : Program} {l : Launch} {e : Env} {s : State} {m : MethodId} {below : List Frame} {meth : Method} {c : Code} {Q : State → Prop} {D : va_G} {cA : Nat → ClassId} {aX aM : Nat → Nat} {b L i : Nat} {xs : Nat → Int32} {σ τ : Mm} {H : Heap} {locs : List Loc} {ls : Array Slot} (Cx : la_C p s m meth c b D cA aX aM L xs) (hI : la_I D cA aX aM s σ τ H locs) (hR : Rel σ τ) (hi : i + 6 ≤ L) (hl : lv_has ls 4 [(0, .ref b), (1, .ref (aX 0)), (2, .ref (aM 0)), (3, .int (nI i))]) (kk : ∀ (σ τ : Mm) (H : Heap) (locs : List Loc), Rel σ τ → la_I D cA aX aM s σ τ H locs → W p l e room_1 s m #[Value.ref b] below meth c H locs 600000 7302250 Q (F0 m 1211 ls [])) : W p l e room_1 s m #[Value.ref b] below meth c H locs 600000 7302250 Q (F0 m 1174 ls []) := by
  have hx := Cx.1
  have hb := Cx.2.1
  have hDX := Cx.2.2.2.2.2.2.2.2.2.1
  have hDM := Cx.2.2.2.2.2.2.2.2.2.2.1
  obtain ⟨r, τ1, f1, f2, hR1⟩ := s_count hR (xs (i + 1))
  refine lv_aload_n hx hb dL_law_1174 rfl (lv_at hl 1 rfl) ?_
  refine la_arg Cx hI hl 1 (by omega) rfl dL_law_1175 dL_law_1176 dL_law_1177 dL_law_1178 dL_law_1179 ?_
  refine la_cX (av := [.int (xs (i + 1))]) (r := r) (u := σ) Cx hI yvX7_count (metX7_count l hDX f1) ms_blind (la_pX Cx hI _) ⟨rfl, rfl⟩ wd_40_5 ⟨(Nat.le_of_ble_eq_true rfl), (Nat.le_of_ble_eq_true rfl)⟩ rfl hl.1 rfl (Nat.le_of_ble_eq_true rfl) ⟨(Nat.le_of_ble_eq_true rfl), (Nat.le_of_ble_eq_true rfl)⟩ dL_law_1180 (fun H locs hI => ?_)
  refine lv_aload_n hx hb dL_law_1183 rfl (lv_at hl 2 rfl) ?_
  refine la_arg Cx hI hl 1 (by omega) rfl dL_law_1184 dL_law_1185 dL_law_1186 dL_law_1187 dL_law_1188 ?_
  refine la_cM (av := [.int (xs (i + 1))]) (r := r) (u := τ1) Cx hI yvX8_count (metX8_count l hDM f2) ms_blind (la_pM Cx hI _) ⟨rfl, rfl⟩ wd_40_19 ⟨(Nat.le_of_ble_eq_true rfl), (Nat.le_of_ble_eq_true rfl)⟩ rfl hl.1 rfl (Nat.le_of_ble_eq_true rfl) ⟨(Nat.le_of_ble_eq_true rfl), (Nat.le_of_ble_eq_true rfl)⟩ dL_law_1189 (fun H locs hI => ?_)
  exact lv_icmp_eq (tgt := 1211) hx hb dL_law_1192 rfl (fun _ => kk σ τ1 H locs hR1 hI) (fun hc => absurd rfl hc)
set_option maxHeartbeats 4000000 in
set_option maxRecDepth 100000 in
/-- digest -/
theorem la_k35 {p : Program} {l : Launch} {e : Env} {s : State} {m : MethodId} {below : List Frame} {meth : Method} {c : Code} {Q : State → Prop} {D : va_G} {cA : Nat → ClassId} {aX aM : Nat → Nat} {b L i : Nat} {xs : Nat → Int32} {σ τ : Mm} {H : Heap} {locs : List Loc} {ls : Array Slot} (Cx : la_C p s m meth c b D cA aX aM L xs) (hI : la_I D cA aX aM s σ τ H locs) (hR : Rel σ τ) (hi : i + 6 ≤ L) (hl : lv_has ls 4 [(0, .ref b), (1, .ref (aX 0)), (2, .ref (aM 0)), (3, .int (nI i))]) (kk : ∀ (σ τ : Mm) (H : Heap) (locs : List Loc), Rel σ τ → la_I D cA aX aM s σ τ H locs → W p l e room_1 s m #[Value.ref b] below meth c H locs 600000 7302250 Q (F0 m 1211 ls [])) : W p l e room_1 s m #[Value.ref b] below meth c H locs 600000 7302250 Q (F0 m 1197 ls []) := by
  have hx := Cx.1
  have hb := Cx.2.1
  have hDX := Cx.2.2.2.2.2.2.2.2.2.1
  have hDM := Cx.2.2.2.2.2.2.2.2.2.2.1
  obtain ⟨r, σ1, τ1, f1, f2, hR1⟩ := s_digest hR 
  refine lv_aload_n hx hb dL_law_1197 rfl (lv_at hl 1 rfl) ?_
  refine la_cXl (av := []) (r := r) (u := σ1) Cx hI yvX7_digest (metX7_digest l hDX f1) la_bZ (la_pZ Cx hI _) ⟨rfl, rfl⟩ wd_41_3 ⟨(Nat.le_of_ble_eq_true rfl), (Nat.le_of_ble_eq_true rfl)⟩ rfl hl.1 rfl (Nat.le_of_ble_eq_true rfl) ⟨(Nat.le_of_ble_eq_true rfl), (Nat.le_of_ble_eq_true rfl)⟩ dL_law_1198 (fun H locs hI => ?_)
  refine lv_aload_n hx hb dL_law_1201 rfl (lv_at hl 2 rfl) ?_
  refine la_cMl (av := []) (r := r) (u := τ1) Cx hI yvX8_digest (metX8_digest l hDM f2) ms_blind (la_pM Cx hI _) ⟨rfl, rfl⟩ wd_42_1 ⟨(Nat.le_of_ble_eq_true rfl), (Nat.le_of_ble_eq_true rfl)⟩ rfl hl.1 rfl (Nat.le_of_ble_eq_true rfl) ⟨(Nat.le_of_ble_eq_true rfl), (Nat.le_of_ble_eq_true rfl)⟩ dL_law_1202 (fun H locs hI => ?_)
  refine W.lcmp hx hb dL_law_1205 ?_
  exact lv_if_eq (tgt := 1211) hx hb dL_law_1206 rfl (fun _ => kk σ1 τ1 H locs hR1 hI) (fun hc => absurd ((lg_cmp_eq r r).mpr rfl) hc)
def la_tg : List Nat := [192, 215, 228, 241, 274, 297, 330, 363, 396, 429, 452, 475, 498, 521, 554, 587, 620, 643, 666, 699, 722, 755, 778, 791, 824, 837, 850, 873, 916, 959, 982, 1035, 1078, 1141, 1174, 1197]
theorem la_all {p : Program} {l : Launch} {e : Env} {s : State} {m : MethodId} {below : List Frame} {meth : Method} {c : Code} {Q : State → Prop} {D : va_G} {cA : Nat → ClassId} {aX aM : Nat → Nat} {b L i : Nat} {xs : Nat → Int32} {σ τ : Mm} {H : Heap} {locs : List Loc} {ls : Array Slot} (Cx : la_C p s m meth c b D cA aX aM L xs) (hI : la_I D cA aX aM s σ τ H locs) (hR : Rel σ τ) (hi : i + 6 ≤ L) (hl : lv_has ls 4 [(0, .ref b), (1, .ref (aX 0)), (2, .ref (aM 0)), (3, .int (nI i))]) (kk : ∀ (σ τ : Mm) (H : Heap) (locs : List Loc), Rel σ τ → la_I D cA aX aM s σ τ H locs → W p l e room_1 s m #[Value.ref b] below meth c H locs 600000 7302250 Q (F0 m 1211 ls [])) : ∀ k, k < 36 → W p l e room_1 s m #[Value.ref b] below meth c H locs 600000 7302250 Q (F0 m (la_tg.getD k 0) ls []) := by
  intro k hk
  match k, hk with
  | 0, _ => exact la_k0 Cx hI hR hi hl kk
  | 1, _ => exact la_k1 Cx hI hR hi hl kk
  | 2, _ => exact la_k2 Cx hI hR hi hl kk
  | 3, _ => exact la_k3 Cx hI hR hi hl kk
  | 4, _ => exact la_k4 Cx hI hR hi hl kk
  | 5, _ => exact la_k5 Cx hI hR hi hl kk
  | 6, _ => exact la_k6 Cx hI hR hi hl kk
  | 7, _ => exact la_k7 Cx hI hR hi hl kk
  | 8, _ => exact la_k8 Cx hI hR hi hl kk
  | 9, _ => exact la_k9 Cx hI hR hi hl kk
  | 10, _ => exact la_k10 Cx hI hR hi hl kk
  | 11, _ => exact la_k11 Cx hI hR hi hl kk
  | 12, _ => exact la_k12 Cx hI hR hi hl kk
  | 13, _ => exact la_k13 Cx hI hR hi hl kk
  | 14, _ => exact la_k14 Cx hI hR hi hl kk
  | 15, _ => exact la_k15 Cx hI hR hi hl kk
  | 16, _ => exact la_k16 Cx hI hR hi hl kk
  | 17, _ => exact la_k17 Cx hI hR hi hl kk
  | 18, _ => exact la_k18 Cx hI hR hi hl kk
  | 19, _ => exact la_k19 Cx hI hR hi hl kk
  | 20, _ => exact la_k20 Cx hI hR hi hl kk
  | 21, _ => exact la_k21 Cx hI hR hi hl kk
  | 22, _ => exact la_k22 Cx hI hR hi hl kk
  | 23, _ => exact la_k23 Cx hI hR hi hl kk
  | 24, _ => exact la_k24 Cx hI hR hi hl kk
  | 25, _ => exact la_k25 Cx hI hR hi hl kk
  | 26, _ => exact la_k26 Cx hI hR hi hl kk
  | 27, _ => exact la_k27 Cx hI hR hi hl kk
  | 28, _ => exact la_k28 Cx hI hR hi hl kk
  | 29, _ => exact la_k29 Cx hI hR hi hl kk
  | 30, _ => exact la_k30 Cx hI hR hi hl kk
  | 31, _ => exact la_k31 Cx hI hR hi hl kk
  | 32, _ => exact la_k32 Cx hI hR hi hl kk
  | 33, _ => exact la_k33 Cx hI hR hi hl kk
  | 34, _ => exact la_k34 Cx hI hR hi hl kk
  | 35, _ => exact la_k35 Cx hI hR hi hl kk
  | k + 36, h => exact absurd h (by omega)
