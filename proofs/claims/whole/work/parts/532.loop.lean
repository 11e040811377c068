/-! ===== the law's loop ===== -/
theorem la_6s : ∀ L, L < 6 → ∀ i, i < 6 → (nI L - 6 < nI i ∨ ¬ i ≤ L) := by decide
theorem la_6 {L i : Nat} (hL : L < 2 ^ 31) (hi : i ≤ L) (h : ¬ nI L - 6 < nI i) : i + 6 ≤ L := by
  rcases Nat.lt_or_ge L 6 with q | q
  · rcases la_6s L q i (by omega) with z | z
    · exact absurd z h
    · exact absurd hi z
  · have e1 := nI_add (L - 6) 6
    rw [Nat.sub_add_cancel q] at e1
    have e2 : nI L - 6 = nI (L - 6) := by
      rw [← e1]
      exact Int32.add_sub_cancel _ _
    rw [e2] at h
    rcases Nat.lt_or_ge (L - 6) i with z | z
    · exact absurd (nI_lt z (by omega)) h
    · omega
theorem la_offs : ∀ k, k < 36 → (#[159, 182, 195, 208, 241, 264, 297, 330, 363, 396, 419, 442, 465, 488, 521, 554, 587, 610, 633, 666, 689, 722, 745, 758, 791, 804, 817, 840, 883, 926, 949, 1002, 1045, 1108, 1141, 1164] : Array Int)[k]? = some (((la_tg.getD k 0 : Nat) : Int) - 33) := by decide
section LOOP
variable {p : Program} {l : Launch} {e : Env} {s : State} {m : MethodId} {below : List Frame} {meth : Method} {c : Code} {D : va_G} {cA : Nat → ClassId} {aX aM : Nat → Nat} {b L : Nat} {xs : Nat → Int32}
theorem la_sw {R : Room} {args : Array Value} {H : Heap} {locs : List Loc} {cells slots : Nat} {Q : State → Prop} {ls : Array Slot} (hx : p.tables.exec = Jvm.exec) (hb : c.code = code) (x : Int32) (kall : ∀ k, k < 36 → W p l e R s m args below meth c H locs cells slots Q (F0 m (la_tg.getD k 0) ls [])) (kdef : W p l e R s m args below meth c H locs cells slots Q (F0 m 1211 ls [])) : W p l e R s m args below meth c H locs cells slots Q (F0 m 33 ls [.int x]) := by
  by_cases hq : 0 ≤ x.toInt ∧ x.toInt ≤ 35
  · obtain ⟨k, hk, ek⟩ : ∃ k : Nat, k < 36 ∧ x.toInt = (k : Int) := ⟨x.toInt.toNat, by omega, by omega⟩
    refine lv_tableIn (off := ((la_tg.getD k 0 : Nat) : Int) - 33) (tgt := la_tg.getD k 0) hx hb dL_law_33 (by omega) (by omega) ?_ (by omega) (kall k hk)
    rw [show (x.toInt - 0).toNat = k by omega]
    exact la_offs k hk
  · exact lv_tableOut (tgt := 1211) hx hb dL_law_33 (by omega) rfl kdef
set_option maxHeartbeats 4000000 in
theorem la_loop (Cx : la_C p s m meth c b D cA aX aM L xs) (hr : meth.sig.returnType = ret) (hlocks : meth.locks = false) : ∀ (n i : Nat), L + 1 ≤ i + n → i ≤ L → ∀ (σ τ : Mm) (H : Heap) (locs : List Loc) (ls : Array Slot), Rel σ τ → la_I D cA aX aM s σ τ H locs → lv_has ls 4 [(0, .ref b), (1, .ref (aX 0)), (2, .ref (aM 0)), (3, .int (nI i))] → W p l e room_1 s m #[Value.ref b] below meth c H locs 600000 7302250 (lw_Z below #[Value.ref b] s) (F0 m 18 ls []) := by
  have hx := Cx.1
  have hb := Cx.2.1
  have hX := Cx.2.2.2.2.2.1
  have hbl := Cx.2.2.2.2.2.2.1
  have hL := Cx.2.2.2.2.2.2.2.2.2.2.2.2.2.2.1
  have hbA : ¬ la_A s b := Nat.not_le.mpr hbl
  intro n
  induction n with
  | zero =>
    intro i h1 h2
    exact absurd h1 (by omega)
  | succ n ih =>
    intro i h1 hi σ τ H locs ls hR hI hl
    refine lv_iload_n hx hb dL_law_18 rfl (lv_at hl 3 rfl) ?_
    refine lv_aload_n hx hb dL_law_19 rfl (lv_at hl 0 rfl) ?_
    refine va_slen hx hb hX hbl hbA hI.2.2 dL_law_20 ?_
    refine lv_bipush (v := 6) hx hb dL_law_21 rfl ?_
    refine lv_isub hx hb dL_law_23 ?_
    refine lv_icmp_gt (tgt := 1217) hx hb dL_law_24 rfl (fun hc => ?_) (fun hc => ?_)
    · refine lv_iconst (v := 1) hx hb dL_law_1217 rfl ?_
      refine va_forget (fun q hq => hI.2.2.2.2 q hq) ?_
      exact lw_ret hx hb hr hlocks dL_law_1218
    · have h6 : i + 6 ≤ L := la_6 hL hi hc
      refine lv_aload_n hx hb dL_law_27 rfl (lv_at hl 0 rfl) ?_
      refine lv_iload_n hx hb dL_law_28 rfl (lv_at hl 3 rfl) ?_
      refine va_sld hx hb hX hbl hbA hI.2.2 (vp_in_nI (show i < L by omega) hL) dL_law_29 ?_
      refine lv_bipush (v := 63) hx hb dL_law_30 rfl ?_
      refine lv_iand hx hb dL_law_32 ?_
      have step : ∀ (σ τ : Mm) (H : Heap) (locs : List Loc), Rel σ τ → la_I D cA aX aM s σ τ H locs → W p l e room_1 s m #[Value.ref b] below meth c H locs 600000 7302250 (lw_Z below #[Value.ref b] s) (F0 m 1211 ls []) := by
        intro σ τ H locs hR hI
        refine lv_iinc (v := nI (i + 6)) (lv' := [(3, .int (nI (i + 6))), (0, .ref b), (1, .ref (aX 0)), (2, .ref (aM 0))]) hx hb dL_law_1211 hl (k := 3) rfl (nI_add i 6) (by decide) rfl (fun ls hl => ?_)
        refine lv_goto (tgt := 18) hx hb dL_law_1214 rfl ?_
        exact ih (i + 6) (by omega) h6 σ τ H locs ls hR hI (lv_sub hl [1, 2, 3, 0] rfl)
      exact la_sw hx hb _ (la_all Cx hI hR h6 hl step) (step σ τ H locs hR hI)
end LOOP
/-- a new object and a new reference are alike -/
theorem la_rel0 : Rel ms_s0 ms_m0 := by
  refine rel0 rfl rfl rfl rfl rfl rfl rfl rfl (fun _ _ => rfl) (fun _ _ => rfl) (fun _ _ => rfl) rfl rfl rfl rfl (fun _ _ => rfl) (fun _ _ => rfl) (fun s hs => ?_) rfl rfl rfl (fun _ _ => rfl) ?_ (fun _ _ => rfl) (fun _ _ => rfl) (fun _ _ => rfl) (fun _ _ => rfl) (fun _ _ => ⟨rfl, rfl, rfl⟩) (fun _ _ => rfl)
  · rcases (show s = 0 ∨ s = 1 ∨ s = 2 ∨ s = 3 by omega) with rfl | rfl | rfl | rfl
    · exact ⟨rfl, rfl, rfl, fun _ _ => rfl⟩
    · exact ⟨rfl, rfl, rfl, fun _ _ => rfl⟩
    · exact ⟨rfl, rfl, rfl, fun _ _ => rfl⟩
    · exact ⟨rfl, rfl, rfl, fun _ _ => rfl⟩
  · decide
/-- two worlds side by side, apart -/
theorem ms_wl_len (a : Nat → Nat) (cA : Nat → ClassId) (σ : Mm) : ∀ (sh : List ms_Sh) (b : Nat), (ms_wl a cA σ b sh).length = sh.length
  | [], _ => rfl
  | _ :: r, b => by
    show (ms_wl a cA σ (b + 1) r).length + 1 = _
    rw [ms_wl_len a cA σ r (b + 1)]
    rfl
theorem la_ent (a : Nat → Nat) (cA : Nat → ClassId) (σ : Mm) (sh : List ms_Sh) {i : Nat} (hi : i < sh.length) : ∃ e, (ms_wl a cA σ 0 sh)[i]? = some (a i, e) := by
  have h := ms_wl_get a cA σ sh 0 i (x := sh[i]) (List.getElem?_eq_getElem hi)
  rw [Nat.zero_add] at h
  exact ⟨_, h⟩
theorem la_parts {D : va_G} {cA : Nat → ClassId} {a a' : Nat → Nat} {σ τ : Mm} {sh sh' : List ms_Sh} {A : Nat → Prop} {H : Heap} (hP : va_P D vwCl (ms_wl a cA σ 0 sh ++ ms_wl a' cA τ 0 sh') H) (hD : va_D A (ms_wl a cA σ 0 sh ++ ms_wl a' cA τ 0 sh')) :
    va_P D vwCl (ms_wl a cA σ 0 sh) H ∧ va_P D vwCl (ms_wl a' cA τ 0 sh') H ∧ ms_Dis a sh.length ∧ ms_Dis a' sh'.length ∧ (∀ i j, i < sh.length → j < sh'.length → a i ≠ a' j) ∧ (∀ i, i < sh.length → A (a i)) ∧ ∀ i, i < sh'.length → A (a' i) := by
  have hlen := ms_wl_len a cA σ sh 0
  have hl : ∀ {i : Nat} {q : Nat × va_E}, (ms_wl a cA σ 0 sh)[i]? = some q → (ms_wl a cA σ 0 sh ++ ms_wl a' cA τ 0 sh')[i]? = some q := fun {i q} h => by
    rw [List.getElem?_append_left (List.getElem?_eq_some_iff.mp h).1]
    exact h
  have hr : ∀ {i : Nat} {q : Nat × va_E}, (ms_wl a' cA τ 0 sh')[i]? = some q → (ms_wl a cA σ 0 sh ++ ms_wl a' cA τ 0 sh')[sh.length + i]? = some q := fun {i q} h => by
    rw [List.getElem?_append_right (by omega), hlen, Nat.add_sub_cancel_left]
    exact h
  refine ⟨fun k q hk => hP k q (hl hk), fun k q hk => hP _ q (hr hk), fun i j hi hj e => ?_, fun i j hi hj e => ?_, fun i j hi hj e => ?_, fun i hi => ?_, fun i hi => ?_⟩
  · obtain ⟨e1, h1⟩ := la_ent a cA σ sh hi
    obtain ⟨e2, h2⟩ := la_ent a cA σ sh hj
    exact hD.1 i j _ _ (hl h1) (hl h2) e
  · obtain ⟨e1, h1⟩ := la_ent a' cA τ sh' hi
    obtain ⟨e2, h2⟩ := la_ent a' cA τ sh' hj
    have := hD.1 _ _ _ _ (hr h1) (hr h2) e
    omega
  · obtain ⟨e1, h1⟩ := la_ent a cA σ sh hi
    obtain ⟨e2, h2⟩ := la_ent a' cA τ sh' hj
    have := hD.1 _ _ _ _ (hl h1) (hr h2) e
    omega
  · obtain ⟨e1, h1⟩ := la_ent a cA σ sh hi
    exact hD.2 i _ (hl h1)
  · obtain ⟨e1, h1⟩ := la_ent a' cA τ sh' hi
    exact hD.2 _ _ (hr h1)
