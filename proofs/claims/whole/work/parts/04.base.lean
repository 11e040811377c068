/-! ===== the memory of an object graph that never changes its shape: cell k, place i ===== -/
abbrev Mm : Type := Nat → Nat → Int32
def ms_st (σ : Mm) (k i : Nat) (v : Int32) : Mm := fun k' => if k' = k then upd (σ k') i v else σ k'
theorem ms_st_s (σ : Mm) (k i : Nat) (v : Int32) : ms_st σ k i v k = upd (σ k) i v := by simp [ms_st]
theorem ms_st_n (σ : Mm) {k j : Nat} (i : Nat) (v : Int32) (h : j ≠ k) : ms_st σ k i v j = σ j := by simp [ms_st, h]
/-- a row of numbers as a whole -/
def ms_row (σ : Mm) (k : Nat) (f : Nat → Int32) : Mm := fun k' => if k' = k then f else σ k'
theorem ms_row_s (σ : Mm) (k : Nat) (f : Nat → Int32) : ms_row σ k f k = f := by simp [ms_row]
theorem ms_row_n (σ : Mm) {k j : Nat} (f : Nat → Int32) (h : j ≠ k) : ms_row σ k f j = σ j := by simp [ms_row, h]
/-- shapes: an array (its type's number, its length, of references: the first cell), or an object (its kind, its fields: a cell, or a number) -/
abbrev ms_Sh : Type := (Nat × Nat × Nat) ⊕ (Nat × List (Option Nat))
def ms_fl (a : Nat → Nat) (f : Nat → Int32) : Nat → List (Option Nat) → List Value
  | _, [] => []
  | i, some j :: L => .ref (a j) :: ms_fl a f (i + 1) L
  | i, none :: L => .int (f i) :: ms_fl a f (i + 1) L
theorem ms_fl_len (a : Nat → Nat) (f : Nat → Int32) : ∀ (L : List (Option Nat)) (b : Nat), (ms_fl a f b L).length = L.length
  | [], _ => rfl
  | some j :: L, b => by show (ms_fl a f (b + 1) L).length + 1 = _; rw [ms_fl_len a f L (b + 1)]; rfl
  | none :: L, b => by show (ms_fl a f (b + 1) L).length + 1 = _; rw [ms_fl_len a f L (b + 1)]; rfl
theorem ms_fl_i (a : Nat → Nat) (f : Nat → Int32) : ∀ (L : List (Option Nat)) (b i : Nat), L[i]? = some none → (ms_fl a f b L)[i]? = some (.int (f (b + i)))
  | [], _, i, h => by simp at h
  | none :: L, b, 0, _ => rfl
  | some j :: L, b, 0, h => by simp at h
  | none :: L, b, i + 1, h => by
    have := ms_fl_i a f L (b + 1) i (by simpa using h)
    show (ms_fl a f (b + 1) L)[i]? = _
    rw [this, show b + 1 + i = b + (i + 1) by omega]
  | some j :: L, b, i + 1, h => by
    have := ms_fl_i a f L (b + 1) i (by simpa using h)
    show (ms_fl a f (b + 1) L)[i]? = _
    rw [this, show b + 1 + i = b + (i + 1) by omega]
theorem ms_fl_r (a : Nat → Nat) (f : Nat → Int32) : ∀ (L : List (Option Nat)) (b i : Nat) {j : Nat}, L[i]? = some (some j) → (ms_fl a f b L)[i]? = some (.ref (a j))
  | [], _, i, _, h => by simp at h
  | none :: L, b, 0, _, h => by simp at h
  | some j :: L, b, 0, j', h => by
    have : j = j' := by simpa using h
    subst this; rfl
  | none :: L, b, i + 1, _, h => ms_fl_r a f L (b + 1) i (by simpa using h)
  | some j :: L, b, i + 1, _, h => ms_fl_r a f L (b + 1) i (by simpa using h)
theorem ms_fl_same (a : Nat → Nat) {f g : Nat → Int32} : ∀ (L : List (Option Nat)) (b : Nat), (∀ j, b ≤ j → f j = g j) → ms_fl a f b L = ms_fl a g b L
  | [], _, _ => rfl
  | some j :: L, b, h => by
    show _ :: ms_fl a f (b + 1) L = _ :: ms_fl a g (b + 1) L
    rw [ms_fl_same a L (b + 1) (fun j hj => h j (by omega))]
  | none :: L, b, h => by
    show .int (f b) :: ms_fl a f (b + 1) L = .int (g b) :: ms_fl a g (b + 1) L
    rw [ms_fl_same a L (b + 1) (fun j hj => h j (by omega)), h b (Nat.le_refl b)]
theorem ms_fl_set (a : Nat → Nat) (f : Nat → Int32) (v : Int32) : ∀ (L : List (Option Nat)) (b i : Nat), L[i]? = some none → (ms_fl a f b L).set i (.int v) = ms_fl a (upd f (b + i) v) b L
  | [], _, i, h => by simp at h
  | none :: L, b, 0, _ => by
    show .int v :: ms_fl a f (b + 1) L = .int (upd f (b + 0) v b) :: ms_fl a (upd f (b + 0) v) (b + 1) L
    rw [ms_fl_same a (g := upd f (b + 0) v) L (b + 1) (fun j hj => by simp [upd]; omega)]
    simp [upd]
  | some j :: L, b, 0, h => by simp at h
  | none :: L, b, i + 1, h => by
    have := ms_fl_set a f v L (b + 1) i (by simpa using h)
    show .int (f b) :: (ms_fl a f (b + 1) L).set i (.int v) = .int (upd f (b + (i + 1)) v b) :: ms_fl a (upd f (b + (i + 1)) v) (b + 1) L
    rw [this, show b + 1 + i = b + (i + 1) by omega]
    have e : upd f (b + (i + 1)) v b = f b := by simp [upd]
    rw [e]
  | some j :: L, b, i + 1, h => by
    have := ms_fl_set a f v L (b + 1) i (by simpa using h)
    show _ :: (ms_fl a f (b + 1) L).set i (.int v) = _ :: ms_fl a (upd f (b + (i + 1)) v) (b + 1) L
    rw [this, show b + 1 + i = b + (i + 1) by omega]
def ms_ent (a : Nat → Nat) (cA : Nat → ClassId) (f : Nat → Int32) : ms_Sh → va_E
  | .inl (t, n, b) => if t = 2 then .inl (cA 2, n, .inr (.inr (.inr (.inr (fun i => some (a (b + 2 * i))))))) else .inl (cA t, n, .inl f)
  | .inr (ci, L) => .inr (ci, ms_fl a f 0 L)
def ms_wl (a : Nat → Nat) (cA : Nat → ClassId) (σ : Mm) : Nat → List ms_Sh → va_W
  | _, [] => []
  | k, x :: r => (a k, ms_ent a cA (σ k) x) :: ms_wl a cA σ (k + 1) r
theorem ms_wl_get (a : Nat → Nat) (cA : Nat → ClassId) (σ : Mm) : ∀ (sh : List ms_Sh) (b k : Nat) {x : ms_Sh}, sh[k]? = some x → (ms_wl a cA σ b sh)[k]? = some (a (b + k), ms_ent a cA (σ (b + k)) x)
  | [], _, k, _, h => by simp at h
  | y :: r, b, 0, x, h => by
    have : y = x := by simpa using h
    subst this; rfl
  | y :: r, b, k + 1, x, h => by
    have := ms_wl_get a cA σ r (b + 1) k (x := x) (by simpa using h)
    show (ms_wl a cA σ (b + 1) r)[k]? = _
    rw [this, show b + 1 + k = b + (k + 1) by omega]
theorem ms_wl_none (a : Nat → Nat) (cA : Nat → ClassId) (σ : Mm) : ∀ (sh : List ms_Sh) (b k : Nat) {q : Nat × va_E}, (ms_wl a cA σ b sh)[k]? = some q → k < sh.length ∧ q.1 = a (b + k)
  | [], _, k, q, h => by simp [ms_wl] at h
  | y :: r, b, 0, q, h => by
    have : (a b, ms_ent a cA (σ b) y) = q := by simpa [ms_wl] using h
    subst this
    exact ⟨by simp, rfl⟩
  | y :: r, b, k + 1, q, h => by
    have := ms_wl_none a cA σ r (b + 1) k (q := q) (by simpa [ms_wl] using h)
    refine ⟨by simpa using this.1, ?_⟩
    rw [this.2, show b + 1 + k = b + (k + 1) by omega]
theorem ms_wl_same (a : Nat → Nat) (cA : Nat → ClassId) {σ σ' : Mm} : ∀ (sh : List ms_Sh) (b : Nat), (∀ j, b ≤ j → σ j = σ' j) → ms_wl a cA σ b sh = ms_wl a cA σ' b sh
  | [], _, _ => rfl
  | y :: r, b, h => by
    show (a b, ms_ent a cA (σ b) y) :: ms_wl a cA σ (b + 1) r = (a b, ms_ent a cA (σ' b) y) :: ms_wl a cA σ' (b + 1) r
    rw [h b (Nat.le_refl b), ms_wl_same a cA r (b + 1) (fun j hj => h j (by omega))]
theorem ms_wl_set (a : Nat → Nat) (cA : Nat → ClassId) {σ σ' : Mm} : ∀ (sh : List ms_Sh) (b k : Nat) {x : ms_Sh}, sh[k]? = some x → (∀ j, j ≠ b + k → σ' j = σ j) → (ms_wl a cA σ b sh).set k (a (b + k), ms_ent a cA (σ' (b + k)) x) = ms_wl a cA σ' b sh
  | [], _, k, _, h, _ => by simp at h
  | y :: r, b, 0, x, h, hs => by
    have : y = x := by simpa using h
    subst this
    show (a (b + 0), ms_ent a cA (σ' (b + 0)) y) :: ms_wl a cA σ (b + 1) r = (a b, ms_ent a cA (σ' b) y) :: ms_wl a cA σ' (b + 1) r
    rw [ms_wl_same a cA r (b + 1) (fun j hj => (hs j (by omega)).symm)]
    rfl
  | y :: r, b, k + 1, x, h, hs => by
    have := ms_wl_set a cA (σ := σ) (σ' := σ') r (b + 1) k (x := x) (by simpa using h) (fun j hj => hs j (by omega))
    show (a b, ms_ent a cA (σ b) y) :: (ms_wl a cA σ (b + 1) r).set k (a (b + (k + 1)), ms_ent a cA (σ' (b + (k + 1))) x) = (a b, ms_ent a cA (σ' b) y) :: ms_wl a cA σ' (b + 1) r
    rw [show b + (k + 1) = b + 1 + k by omega, this, hs b (by omega)]
def ms_A (a : Nat → Nat) (n : Nat) : Nat → Prop := fun q => ∃ k, k < n ∧ a k = q
def ms_Dis (a : Nat → Nat) (n : Nat) : Prop := ∀ i j, i < n → j < n → a i = a j → i = j
theorem ms_D {a : Nat → Nat} {cA : Nat → ClassId} {σ : Mm} {sh : List ms_Sh} (h : ms_Dis a sh.length) : va_D (ms_A a sh.length) (ms_wl a cA σ 0 sh) := by
  refine ⟨fun i j p q hi hj e => ?_, fun k q hk => ?_⟩
  · obtain ⟨i1, i2⟩ := ms_wl_none a cA σ sh 0 i hi
    obtain ⟨j1, j2⟩ := ms_wl_none a cA σ sh 0 j hj
    rw [i2, j2, Nat.zero_add, Nat.zero_add] at e
    exact h i j i1 j1 e
  · obtain ⟨i1, i2⟩ := ms_wl_none a cA σ sh 0 k hk
    exact ⟨k, i1, by rw [i2, Nat.zero_add]⟩
def ms_tys (cA : Nat → ClassId) : List (ClassId × FieldType) := [(cA 0, .int), (cA 1, .boolean), (cA 2, .object RX2)]
/-- the nest mates' links -/
def ms_NW (U : State) : Prop := ∀ q ∈ ms_nq, va_Nw (.methodLinkNest q.1 q.2.1 q.2.2 "MarketSpring") U
theorem ms_NW.warm {s U : State} (hW : s.WarmedH U.vm) (h : ms_NW s) : ms_NW U := fun q hq => va_Nw.warmM hW (h q hq)
theorem ms_NW.same {s U : State} (e : s.vm = U.vm) (h : ms_NW s) : ms_NW U := fun q hq => va_Nw.same rfl e (h q hq)
def ms_C (p : Program) (s : State) (m : MethodId) (args : Array Value) (meth : Method) (c : Code) (D : va_G) (cA : Nat → ClassId) (a : Nat → Nat) (sh : List ms_Sh) (cc : ByteArray) (nL : Nat) (own : String) (ret : Option FieldType) : Prop :=
  p.tables.exec = Jvm.exec ∧ c.code = cc ∧ c.maxLocals = nL ∧ s.vm.findClass own = some m.cls ∧ (∀ w ∈ wsL_law, w.before args s = true) ∧ meth.sig.returnType = ret ∧ meth.locks = false ∧ va_K D vwCl (ms_tys cA) s ∧ ms_Dis a sh.length ∧ ms_NW s
def ms_I (D : va_G) (cA : Nat → ClassId) (a : Nat → Nat) (sh : List ms_Sh) (s : State) (σ : Mm) (H : Heap) (locs : List Loc) : Prop := va_P D vwCl (ms_wl a cA σ 0 sh) H ∧ va_S (ms_A a sh.length) s.heap H locs
def ms_Pc (D : va_G) (cA : Nat → ClassId) (a : Nat → Nat) (sh : List ms_Sh) (av : List Value) (σ : Mm) : Array Value → State → Prop := va_Pc av (fun U => va_K D vwCl (ms_tys cA) U ∧ ms_NW U ∧ va_P D vwCl (ms_wl a cA σ 0 sh) U.heap)
def ms_B (D : va_G) (cA : Nat → ClassId) (a : Nat → Nat) (sh : List ms_Sh) (u : Mm) (t : State) : Prop := va_P D vwCl (ms_wl a cA u 0 sh) t.heap
abbrev ms_Qi (D : va_G) (cA : Nat → ClassId) (a : Nat → Nat) (sh : List ms_Sh) (r : Int32) (u : Mm) : Array Value → State → Outcome → State → Prop := va_Qi (fun (r' : Int32) (u' : Mm) => r' = r ∧ u' = u) (ms_B D cA a sh) (ms_A a sh.length)
abbrev ms_Ql (D : va_G) (cA : Nat → ClassId) (a : Nat → Nat) (sh : List ms_Sh) (r : Int64) (u : Mm) : Array Value → State → Outcome → State → Prop := va_Ql (fun (r' : Int64) (u' : Mm) => r' = r ∧ u' = u) (ms_B D cA a sh) (ms_A a sh.length)
abbrev ms_Qv (D : va_G) (cA : Nat → ClassId) (a : Nat → Nat) (sh : List ms_Sh) (u : Mm) : Array Value → State → Outcome → State → Prop := va_Qv (fun (u' : Mm) => u' = u) (ms_B D cA a sh) (ms_A a sh.length)
theorem ms_blind {D : va_G} {cA : Nat → ClassId} {a : Nat → Nat} {sh : List ms_Sh} {av : List Value} {σ : Mm} : FrameBlind (ms_Pc D cA a sh av σ) := fun b U g mk q => by
  obtain ⟨q0, qK, qN, qP⟩ := q
  exact ⟨q0, va_K.moved (u := U) (U := U.calling g mk b) (Vm.Alike.refl U.vm) qK, ms_NW.same (s := U) (U := U.calling g mk b) rfl qN, qP⟩
/-! ===== partial functions: a guard, a name, a call ===== -/
def ms_g {β : Type} (c : Prop) [Decidable c] (x : Option β) : Option β := if c then x else none
theorem ms_gE {β : Type} {c : Prop} [Decidable c] {x : Option β} {y : β} (h : ms_g c x = some y) : c ∧ x = some y := by
  unfold ms_g at h
  split at h
  · exact ⟨‹c›, h⟩
  · cases h
theorem ms_g_t {β : Type} {c : Prop} [Decidable c] {x : Option β} (h : c) : ms_g c x = x := if_pos h
def ms_lt {α β : Type} (e : α) (k : α → Option β) : Option β := k e
theorem ms_ltE {α β : Type} {e x : α} {k : α → Option β} {y : β} (hx : x = e) (h : ms_lt e k = some y) : k x = some y := by rw [hx]; exact h
theorem ms_bdE {α β : Type} {o : Option α} {k : α → Option β} {y : β} (h : o.bind k = some y) : ∃ x, o = some x ∧ k x = some y := by
  cases o with
  | none => cases h
  | some x => exact ⟨x, rfl, h⟩
theorem ms_ifT {β : Type} {c : Prop} [Decidable c] {x y : Option β} {z : β} (hc : c) (h : (if c then x else y) = some z) : x = some z := by rwa [if_pos hc] at h
theorem ms_ifF {β : Type} {c : Prop} [Decidable c] {x y : Option β} {z : β} (hc : ¬ c) (h : (if c then x else y) = some z) : y = some z := by rwa [if_neg hc] at h
abbrev ms_in (i : Int32) (n : Nat) : Prop := 0 ≤ i.toInt ∧ i.toInt < n
theorem ms_inV {i : Int32} {n : Nat} (h : ms_in i n) : vp_in i n := vp_in_iff.mpr h
def ms_ix (i : Int32) : Nat := i.toNatClampNeg
def ms_fu : Nat := 20000
theorem ms_nb {x : Int32} (h : x = 0 ∨ x = 1) : narrow .boolean (.int x) = .int x := by rcases h with rfl | rfl <;> rfl
theorem ms_fb {x : Int32} (h : x = 0 ∨ x = 1) : fits .boolean (.int x) = true := by rcases h with rfl | rfl <;> rfl
theorem ms_vb {x : Int32} (h : x = 0 ∨ x = 1) : vp_nar .boolean x = x := by rcases h with rfl | rfl <;> rfl
