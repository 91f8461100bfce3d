/-! G: a method at a place: the world's values σ, the listed locals, the stack; X holds all that stays -/
abbrev gX : Type := Program × Launch × Env × Room × State × MethodId × Array Value × List Frame × Method × Code × (State → Prop) × (Nat → Prop) × Heap × gK × (Option Value → gS → Prop)
abbrev xp (X : gX) : Program := X.1
abbrev xl (X : gX) : Launch := X.2.1
abbrev xe (X : gX) : Env := X.2.2.1
abbrev xR (X : gX) : Room := X.2.2.2.1
abbrev xs (X : gX) : State := X.2.2.2.2.1
abbrev xm (X : gX) : MethodId := X.2.2.2.2.2.1
abbrev xa (X : gX) : Array Value := X.2.2.2.2.2.2.1
abbrev xb (X : gX) : List Frame := X.2.2.2.2.2.2.2.1
abbrev xme (X : gX) : Method := X.2.2.2.2.2.2.2.2.1
abbrev xc (X : gX) : Code := X.2.2.2.2.2.2.2.2.2.1
abbrev xQ (X : gX) : State → Prop := X.2.2.2.2.2.2.2.2.2.2.1
abbrev xA (X : gX) : Nat → Prop := X.2.2.2.2.2.2.2.2.2.2.2.1
abbrev xH (X : gX) : Heap := X.2.2.2.2.2.2.2.2.2.2.2.2.1
abbrev xK (X : gX) : gK := X.2.2.2.2.2.2.2.2.2.2.2.2.2.1
abbrev xF (X : gX) : Option Value → gS → Prop := X.2.2.2.2.2.2.2.2.2.2.2.2.2.2
/-- the private methods that other classes of the nest call, and constructors -/
def nws : List Cond := [.methodLinkNest RX0 98 yX6_magnitude RX6, .methodLinkNest RX0 105 yX6_notBelowZero RX6, .methodLinkNest RX3 38 yX6_magnitude RX6, .methodLinkNest RX3 28 yX6_notBelowZero RX6]
theorem nws_warm {s U : State} (hW : s.WarmedH U.vm) (h : ∀ w ∈ nws, va_Nw w s) : ∀ w ∈ nws, va_Nw w U := by
  intro w hw
  have h0 := h w hw
  simp only [nws, List.mem_cons, List.not_mem_nil, or_false] at hw
  rcases hw with rfl | rfl | rfl | rfl <;> exact va_Nw.warmM hW h0
theorem nws_same {s U : State} (e : s.vm = U.vm) (h : ∀ w ∈ nws, va_Nw w s) : ∀ w ∈ nws, va_Nw w U := by
  intro w hw
  have h0 := h w hw
  simp only [nws, List.mem_cons, List.not_mem_nil, or_false] at hw
  rcases hw with rfl | rfl | rfl | rfl <;> exact va_Nw.same rfl e h0
/-- no two places are one cell -/
def gD (K : gK) : Prop := ∀ i j : Nat, i < 55 → j < 55 → K.2.2 i = K.2.2 j → i = j
/-- what a method may change -/
def gR (K : gK) (sz : Nat) : Nat → Prop := fun q => (∃ k, k < 55 ∧ q = K.2.2 k) ∨ sz ≤ q
theorem gD.va {K : gK} (h : gD K) {A : Nat → Prop} (hA : ∀ k, k < 55 → A (K.2.2 k)) (σ : gS) : va_D A (wld K σ) := by
  refine ⟨fun i j p q hi hj e => ?_, fun k q hk => ?_⟩
  · obtain ⟨h1, h2⟩ := wl_at hi
    obtain ⟨h3, h4⟩ := wl_at hj
    exact h i j h1 h3 (by rw [← h2, ← h4, e])
  · obtain ⟨h1, h2⟩ := wl_at hk
    rw [h2]; exact hA k h1
def gB (K : gK) (σ : gS) (sz : Nat) : State → Prop := fun U => U.heap.size = sz ∧ va_P K.1 vwCl (wld K σ) U.heap ∧ va_K K.1 vwCl (tyK K) U ∧ ∀ w ∈ nws, va_Nw w U
def gQ (K : gK) (Rf : Option Value → gS → Prop) (sz : Nat) : Array Value → State → Outcome → State → Prop := fun _ st oc t => (∃ (rv : Option Value) (σ' : gS), oc = .returned rv ∧ Rf rv σ' ∧ va_P K.1 vwCl (wld K σ') t.heap) ∧ va_F (gR K sz) st t
/-- a contract: from σ, with these arguments, it returns rv and leaves σ' with Rf rv σ' -/
def Ct (l : Launch) (y : MethodName) (ws : List Cond) (rm : Room) (K : gK) (As : List Value) (σ : gS) (Rf : Option Value → gS → Prop) : Prop := ∀ sz : Nat, Met l y ws rm (va_Pc As (gB K σ sz)) (gQ K Rf sz) rm.cells rm.slots (gR K sz)
def G (X : gX) (nL k n : Nat) (σ : gS) (lv : List (Nat × Value)) (pc : Nat) (st : List Value) : Prop :=
  ∀ (H : Heap) (locs : List Loc) (ls : Array Slot), va_P (xK X).1 vwCl (wld (xK X) σ) H → va_S (xA X) (xH X) H locs → lv_has ls nL lv → W (xp X) (xl X) (xe X) (xR X) (xs X) (xm X) (xa X) (xb X) (xme X) (xc X) H locs k n (xQ X) (F0 (xm X) pc ls st)
/-- what stays through a method's body -/
def gC (X : gX) (nL : Nat) (cc : ByteArray) (own : String) (Ts : List Cond) (ret : Option FieldType) (rm : Room) : Prop :=
  (xp X).tables.exec = Jvm.exec ∧ (xc X).code = cc ∧ (xc X).maxLocals = nL ∧ (xs X).vm.findClass own = some (xm X).cls ∧ (∀ w ∈ Ts, w.before (xa X) (xs X) = true) ∧ va_K (xK X).1 vwCl (tyK (xK X)) (xs X) ∧ (∀ w ∈ nws, va_Nw w (xs X)) ∧ gD (xK X) ∧ (∀ q, gR (xK X) (xH X).size q → xA X q) ∧ xR X = rm ∧ (xme X).sig.returnType = ret ∧ (xme X).locks = false ∧
  ∃ (Qc : Array Value → State → Outcome → State → Prop) (free : Addr → Prop), (∀ (rv : Option Value) (σ' : gS) (H : Heap) (locs : List Loc) (t : State), xF X rv σ' → va_P (xK X).1 vwCl (wld (xK X) σ') H → va_S (xA X) (xH X) H locs → t.heap = H → Qc (xa X) (xs X) (.returned rv) t) ∧ (∀ q, xA X q → free q) ∧
    ∀ (H : Heap) (locs : List Loc) (g : JFrame), W (xp X) (xl X) (xe X) (xR X) (xs X) (xm X) (xa X) (xb X) (xme X) (xc X) H locs rm.cells rm.slots (MQ (xb X) Qc (xa X) (xs X) rm.cells rm.slots free) g → W (xp X) (xl X) (xe X) (xR X) (xs X) (xm X) (xa X) (xb X) (xme X) (xc X) H locs rm.cells rm.slots (xQ X) g
section GC
variable {X : gX} {nL : Nat} {cc : ByteArray} {own : String} {Ts : List Cond} {ret : Option FieldType} {rm : Room}
theorem gC.hx (C : gC X nL cc own Ts ret rm) : (xp X).tables.exec = Jvm.exec := C.1
theorem gC.hb (C : gC X nL cc own Ts ret rm) : (xc X).code = cc := C.2.1
theorem gC.hml (C : gC X nL cc own Ts ret rm) : (xc X).maxLocals = nL := C.2.2.1
theorem gC.hown (C : gC X nL cc own Ts ret rm) : (xs X).vm.findClass own = some (xm X).cls := C.2.2.2.1
theorem gC.hts (C : gC X nL cc own Ts ret rm) : ∀ w ∈ Ts, w.before (xa X) (xs X) = true := C.2.2.2.2.1
theorem gC.hK (C : gC X nL cc own Ts ret rm) : va_K (xK X).1 vwCl (tyK (xK X)) (xs X) := C.2.2.2.2.2.1
theorem gC.hN (C : gC X nL cc own Ts ret rm) : ∀ w ∈ nws, va_Nw w (xs X) := C.2.2.2.2.2.2.1
theorem gC.hD (C : gC X nL cc own Ts ret rm) : gD (xK X) := C.2.2.2.2.2.2.2.1
theorem gC.hA (C : gC X nL cc own Ts ret rm) : ∀ q, gR (xK X) (xH X).size q → xA X q := C.2.2.2.2.2.2.2.2.1
theorem gC.hR (C : gC X nL cc own Ts ret rm) : xR X = rm := C.2.2.2.2.2.2.2.2.2.1
theorem gC.hr (C : gC X nL cc own Ts ret rm) : (xme X).sig.returnType = ret := C.2.2.2.2.2.2.2.2.2.2.1
theorem gC.hlocks (C : gC X nL cc own Ts ret rm) : (xme X).locks = false := C.2.2.2.2.2.2.2.2.2.2.2.1
theorem gC.vaD (C : gC X nL cc own Ts ret rm) (σ : gS) : va_D (xA X) (wld (xK X) σ) := C.hD.va (fun k hk => C.hA _ (Or.inl ⟨k, hk, rfl⟩)) σ
theorem gC.w (C : gC X nL cc own Ts ret rm) (i : Nat) {w : Cond} (h : Ts[i]? = some w) : w.before (xa X) (xs X) = true := C.hts w (List.mem_of_getElem? h)
end GC
theorem gB_blind {K : gK} {σ : gS} {sz : Nat} {As : List Value} : FrameBlind (va_Pc As (gB K σ sz)) := by
  intro a U g mk h
  obtain ⟨h1, h2, h3, h4, h5⟩ := h
  exact ⟨h1, h2, h3, va_K.moved (u := U) (U := U.calling g mk a) (Vm.Alike.refl U.vm) h4, nws_same (s := U) (U := U.calling g mk a) rfl h5⟩
theorem Ct.of {l : Launch} {y : MethodName} {ws ws' : List Cond} {rm : Room} {K : gK} {As : List Value} {σ : gS} {Rf : Option Value → gS → Prop} {cc : ByteArray} {maxL : Nat} {ret : Option FieldType} (hD : gD K) (hy : plainName y.cls = true) (hw : ws = Cond.code y cc maxL ret :: ws') (hl : (lg_sl As).length ≤ maxL)
    (body : ∀ X : gX, xl X = l → xK X = K → xF X = Rf → gC X maxL cc y.cls ws ret rm → G X maxL 0 0 σ (lv_args 0 As) 0 []) : Ct l y ws rm K As σ Rf := by
  intro sz
  refine Met.ofW (cc := cc) (maxL := maxL) (ret := ret) hy hw ?_
  intro p e s m args below meth c s₁ B hml hv
  obtain ⟨rfl, hsz, hP, hK, hN⟩ := hv
  subst hsz
  have hts := atoms_spec (ws := ws) B.pre
  have hown : s.vm.findClass y.cls = some m.cls := findClass_of_methodNamed B.named
  have hlv := lv_entry As (n := maxL) hl
  have b := body (p, l, e, (headSpec ws rm).room, s, m, As.toArray, below, meth, c, MQ below (gQ K Rf s.heap.size) As.toArray s rm.cells rm.slots (gR K s.heap.size), gR K s.heap.size, s.heap, K, Rf) rfl rfl rfl
    ⟨B.exec, B.bytes, hml, hown, hts, hK, hN, hD, fun _ h => h, rfl, B.returns, B.notSynchronized, gQ K Rf s.heap.size, gR K s.heap.size, fun rv σ' H locs t h1 h2 h3 h4 => ⟨⟨rv, σ', rfl, h1, by rw [h4]; exact h2⟩, h3.F h4⟩, fun _ h => h, fun _ _ _ h => h⟩
  rw [lg_entry_eq]
  exact b s.heap [] _ hP va_S.rf hlv
section GR
variable {X : gX} {nL : Nat} {cc : ByteArray} {own : String} {Ts : List Cond} {ret : Option FieldType} {rm : Room} {k n : Nat} {σ : gS} {lv : List (Nat × Value)} {pc : Nat} {st : List Value}
theorem g_eq {lv2 : List (Nat × Value)} {st2 : List Value} {σ2 : gS} (h1 : σ = σ2) (h2 : lv = lv2) (h3 : st = st2) (kk : G X nL k n σ2 lv2 pc st2) : G X nL k n σ lv pc st := by
  subst h1; subst h2; subst h3; exact kk
theorem g_lv (ks : List Nat) {lv2 : List (Nat × Value)} (h : lv_pick lv ks = lv2) (kk : G X nL k n σ lv2 pc st) : G X nL k n σ lv pc st := fun H locs ls hP hS hl => kk H locs ls hP hS (lv_sub hl ks h)
theorem g_widen {k2 n2 : Nat} (h1 : k ≤ k2) (h2 : n ≤ n2) (kk : G X nL k2 n2 σ lv pc st) : G X nL k n σ lv pc st := fun H locs ls hP hS hl => W.widen h1 h2 (kk H locs ls hP hS hl)
theorem g_iload (C : gC X nL cc own Ts ret rm) {i : Nat} {x : Int32} (hdg : decode cc pc = .ok (.iload i, 2)) (j : Nat) (h : lv[j]? = some (i, .int x)) (kk : G X nL k n σ lv (pc + 2) (.int x :: st)) : G X nL k n σ lv pc st := fun H locs ls hP hS hl => lv_iload C.hx C.hb hdg (lv_at hl j h) (kk H locs ls hP hS hl)
theorem g_iload_n (C : gC X nL cc own Ts ret rm) {q : Fin 4} {i : Nat} {x : Int32} (hdg : decode cc pc = .ok (.iload_n q, 1)) (j : Nat) (h : lv[j]? = some (i, .int x)) (hi : (q : Nat) = i) (kk : G X nL k n σ lv (pc + 1) (.int x :: st)) : G X nL k n σ lv pc st := fun H locs ls hP hS hl => lv_iload_n C.hx C.hb hdg hi (lv_at hl j h) (kk H locs ls hP hS hl)
theorem g_istore (C : gC X nL cc own Ts ret rm) {i : Nat} {x : Int32} {lv' : List (Nat × Value)} (hdg : decode cc pc = .ok (.istore i, 2)) (hn : i < nL) (h : (i, Value.int x) :: lv.filter (fun q => !(q.1 == i) && !(q.1 + 1 == i && q.2.category == 2)) = lv') (kk : G X nL k n σ lv' (pc + 2) st) : G X nL k n σ lv pc (.int x :: st) := fun H locs ls hP hS hl => lv_istore C.hx C.hb hdg hl hn h (fun ls2 hl2 => kk H locs ls2 hP hS hl2)
theorem g_istore_n (C : gC X nL cc own Ts ret rm) {q : Fin 4} {i : Nat} {x : Int32} {lv' : List (Nat × Value)} (hdg : decode cc pc = .ok (.istore_n q, 1)) (hi : (q : Nat) = i) (hn : i < nL) (h : (i, Value.int x) :: lv.filter (fun q => !(q.1 == i) && !(q.1 + 1 == i && q.2.category == 2)) = lv') (kk : G X nL k n σ lv' (pc + 1) st) : G X nL k n σ lv pc (.int x :: st) := fun H locs ls hP hS hl => lv_istore_n C.hx C.hb hdg hi hl hn h (fun ls2 hl2 => kk H locs ls2 hP hS hl2)
theorem g_aload (C : gC X nL cc own Ts ret rm) {i : Nat} {x : Nat} (hdg : decode cc pc = .ok (.aload i, 2)) (j : Nat) (h : lv[j]? = some (i, .ref x)) (kk : G X nL k n σ lv (pc + 2) (.ref x :: st)) : G X nL k n σ lv pc st := fun H locs ls hP hS hl => lv_aload C.hx C.hb hdg (lv_at hl j h) (kk H locs ls hP hS hl)
theorem g_aload_n (C : gC X nL cc own Ts ret rm) {q : Fin 4} {i : Nat} {x : Nat} (hdg : decode cc pc = .ok (.aload_n q, 1)) (j : Nat) (h : lv[j]? = some (i, .ref x)) (hi : (q : Nat) = i) (kk : G X nL k n σ lv (pc + 1) (.ref x :: st)) : G X nL k n σ lv pc st := fun H locs ls hP hS hl => lv_aload_n C.hx C.hb hdg hi (lv_at hl j h) (kk H locs ls hP hS hl)
theorem g_astore (C : gC X nL cc own Ts ret rm) {i : Nat} {x : Nat} {lv' : List (Nat × Value)} (hdg : decode cc pc = .ok (.astore i, 2)) (hn : i < nL) (h : (i, Value.ref x) :: lv.filter (fun q => !(q.1 == i) && !(q.1 + 1 == i && q.2.category == 2)) = lv') (kk : G X nL k n σ lv' (pc + 2) st) : G X nL k n σ lv pc (.ref x :: st) := fun H locs ls hP hS hl => lv_astore C.hx C.hb hdg hl hn h (fun ls2 hl2 => kk H locs ls2 hP hS hl2)
theorem g_astore_n (C : gC X nL cc own Ts ret rm) {q : Fin 4} {i : Nat} {x : Nat} {lv' : List (Nat × Value)} (hdg : decode cc pc = .ok (.astore_n q, 1)) (hi : (q : Nat) = i) (hn : i < nL) (h : (i, Value.ref x) :: lv.filter (fun q => !(q.1 == i) && !(q.1 + 1 == i && q.2.category == 2)) = lv') (kk : G X nL k n σ lv' (pc + 1) st) : G X nL k n σ lv pc (.ref x :: st) := fun H locs ls hP hS hl => lv_astore_n C.hx C.hb hdg hi hl hn h (fun ls2 hl2 => kk H locs ls2 hP hS hl2)
theorem g_dload (C : gC X nL cc own Ts ret rm) {i : Nat} {x : UInt64} (hdg : decode cc pc = .ok (.dload i, 2)) (j : Nat) (h : lv[j]? = some (i, .double x)) (kk : G X nL k n σ lv (pc + 2) (.double x :: st)) : G X nL k n σ lv pc st := fun H locs ls hP hS hl => lv_dload C.hx C.hb hdg (lv_at hl j h) (kk H locs ls hP hS hl)
theorem g_dload_n (C : gC X nL cc own Ts ret rm) {q : Fin 4} {i : Nat} {x : UInt64} (hdg : decode cc pc = .ok (.dload_n q, 1)) (j : Nat) (h : lv[j]? = some (i, .double x)) (hi : (q : Nat) = i) (kk : G X nL k n σ lv (pc + 1) (.double x :: st)) : G X nL k n σ lv pc st := fun H locs ls hP hS hl => lv_dload_n C.hx C.hb hdg hi (lv_at hl j h) (kk H locs ls hP hS hl)
theorem g_dstore (C : gC X nL cc own Ts ret rm) {i : Nat} {x : UInt64} {lv' : List (Nat × Value)} (hdg : decode cc pc = .ok (.dstore i, 2)) (hn : i + 1 < nL) (h : (i, Value.double x) :: lv.filter (fun q => !(q.1 == i) && (!(q.1 == i + 1) && !(q.1 + 1 == i && q.2.category == 2))) = lv') (kk : G X nL k n σ lv' (pc + 2) st) : G X nL k n σ lv pc (.double x :: st) := fun H locs ls hP hS hl => lv_dstore C.hx C.hb hdg hl hn h (fun ls2 hl2 => kk H locs ls2 hP hS hl2)
theorem g_dstore_n (C : gC X nL cc own Ts ret rm) {q : Fin 4} {i : Nat} {x : UInt64} {lv' : List (Nat × Value)} (hdg : decode cc pc = .ok (.dstore_n q, 1)) (hi : (q : Nat) = i) (hn : i + 1 < nL) (h : (i, Value.double x) :: lv.filter (fun q => !(q.1 == i) && (!(q.1 == i + 1) && !(q.1 + 1 == i && q.2.category == 2))) = lv') (kk : G X nL k n σ lv' (pc + 1) st) : G X nL k n σ lv pc (.double x :: st) := fun H locs ls hP hS hl => lv_dstore_n C.hx C.hb hdg hi hl hn h (fun ls2 hl2 => kk H locs ls2 hP hS hl2)
theorem g_iinc (C : gC X nL cc own Ts ret rm) {i : Nat} {z : Int} {x v : Int32} {lv' : List (Nat × Value)} (hdg : decode cc pc = .ok (.iinc i z, 3)) (j : Nat) (hj : lv[j]? = some (i, .int x)) (hv : x + Int32.ofInt z = v) (hn : i < nL) (h : (i, Value.int v) :: lv.filter (fun q => !(q.1 == i) && !(q.1 + 1 == i && q.2.category == 2)) = lv') (kk : G X nL k n σ lv' (pc + 3) st) : G X nL k n σ lv pc st := fun H locs ls hP hS hl => lv_iinc C.hx C.hb hdg hl hj hv hn h (fun ls2 hl2 => kk H locs ls2 hP hS hl2)
theorem g_iconst (C : gC X nL cc own Ts ret rm) {z : Int} {v : Int32} (hdg : decode cc pc = .ok (.iconst z, 1)) (hv : Int32.ofInt z = v) (kk : G X nL k n σ lv (pc + 1) (.int v :: st)) : G X nL k n σ lv pc st := fun H locs ls hP hS hl => lv_iconst C.hx C.hb hdg hv (kk H locs ls hP hS hl)
theorem g_bipush (C : gC X nL cc own Ts ret rm) {z : Int} {v : Int32} (hdg : decode cc pc = .ok (.bipush z, 2)) (hv : (Int8.ofInt z).toInt32 = v) (kk : G X nL k n σ lv (pc + 2) (.int v :: st)) : G X nL k n σ lv pc st := fun H locs ls hP hS hl => lv_bipush C.hx C.hb hdg hv (kk H locs ls hP hS hl)
theorem g_lconst (C : gC X nL cc own Ts ret rm) {z : Fin 2} {v : Int64} (hdg : decode cc pc = .ok (.lconst z, 1)) (hv : Int64.ofNat (z : Nat) = v) (kk : G X nL k n σ lv (pc + 1) (.long v :: st)) : G X nL k n σ lv pc st := fun H locs ls hP hS hl => lv_lconst C.hx C.hb hdg hv (kk H locs ls hP hS hl)
theorem g_dconst0 (C : gC X nL cc own Ts ret rm)  (hdg : decode cc pc = .ok (.dconst 0, 1)) (kk : G X nL k n σ lv (pc + 1) (.double FP.dconst0 :: st)) : G X nL k n σ lv pc st := fun H locs ls hP hS hl => lv_dconst0 C.hx C.hb hdg (kk H locs ls hP hS hl)
theorem g_dconst1 (C : gC X nL cc own Ts ret rm)  (hdg : decode cc pc = .ok (.dconst 1, 1)) (kk : G X nL k n σ lv (pc + 1) (.double FP.dconst1 :: st)) : G X nL k n σ lv pc st := fun H locs ls hP hS hl => lv_dconst1 C.hx C.hb hdg (kk H locs ls hP hS hl)
theorem g_ldc2d (C : gC X nL cc own Ts ret rm) {index : Nat} {v : UInt64} (hdg : decode cc pc = .ok (.ldc2_w index, 3)) (j : Nat) (hw : Ts[j]? = some (.constantDouble own index v)) (kk : G X nL k n σ lv (pc + 3) (.double v :: st)) : G X nL k n σ lv pc st := fun H locs ls hP hS hl => lv_ldc2d C.hx C.hb C.hown (C.w j hw) hdg (kk H locs ls hP hS hl)
theorem g_ldc (C : gC X nL cc own Ts ret rm) {index : Nat} {v : Int32} (hdg : decode cc pc = .ok (.ldc index, 2)) (j : Nat) (hw : Ts[j]? = some (.constant own index v)) (kk : G X nL k n σ lv (pc + 2) (.int v :: st)) : G X nL k n σ lv pc st := fun H locs ls hP hS hl => lv_ldc C.hx C.hb C.hown (C.w j hw) hdg (kk H locs ls hP hS hl)
theorem g_iadd (C : gC X nL cc own Ts ret rm) {x y : Int32} (hdg : decode cc pc = .ok (.iadd, 1)) (kk : G X nL k n σ lv (pc + 1) (.int (x + y) :: st)) : G X nL k n σ lv pc (.int y :: .int x :: st) := fun H locs ls hP hS hl => lv_iadd C.hx C.hb hdg (kk H locs ls hP hS hl)
theorem g_isub (C : gC X nL cc own Ts ret rm) {x y : Int32} (hdg : decode cc pc = .ok (.isub, 1)) (kk : G X nL k n σ lv (pc + 1) (.int (x - y) :: st)) : G X nL k n σ lv pc (.int y :: .int x :: st) := fun H locs ls hP hS hl => lv_isub C.hx C.hb hdg (kk H locs ls hP hS hl)
theorem g_imul (C : gC X nL cc own Ts ret rm) {x y : Int32} (hdg : decode cc pc = .ok (.imul, 1)) (kk : G X nL k n σ lv (pc + 1) (.int (x * y) :: st)) : G X nL k n σ lv pc (.int y :: .int x :: st) := fun H locs ls hP hS hl => lv_imul C.hx C.hb hdg (kk H locs ls hP hS hl)
theorem g_iand (C : gC X nL cc own Ts ret rm) {x y : Int32} (hdg : decode cc pc = .ok (.iand, 1)) (kk : G X nL k n σ lv (pc + 1) (.int (x &&& y) :: st)) : G X nL k n σ lv pc (.int y :: .int x :: st) := fun H locs ls hP hS hl => lv_iand C.hx C.hb hdg (kk H locs ls hP hS hl)
theorem g_ior (C : gC X nL cc own Ts ret rm) {x y : Int32} (hdg : decode cc pc = .ok (.ior, 1)) (kk : G X nL k n σ lv (pc + 1) (.int (x ||| y) :: st)) : G X nL k n σ lv pc (.int y :: .int x :: st) := fun H locs ls hP hS hl => lv_ior C.hx C.hb hdg (kk H locs ls hP hS hl)
theorem g_ixor (C : gC X nL cc own Ts ret rm) {x y : Int32} (hdg : decode cc pc = .ok (.ixor, 1)) (kk : G X nL k n σ lv (pc + 1) (.int (x ^^^ y) :: st)) : G X nL k n σ lv pc (.int y :: .int x :: st) := fun H locs ls hP hS hl => lv_ixor C.hx C.hb hdg (kk H locs ls hP hS hl)
theorem g_ishl (C : gC X nL cc own Ts ret rm) {x y : Int32} (hdg : decode cc pc = .ok (.ishl, 1)) (kk : G X nL k n σ lv (pc + 1) (.int (x <<< (y &&& 31)) :: st)) : G X nL k n σ lv pc (.int y :: .int x :: st) := fun H locs ls hP hS hl => lv_ishl C.hx C.hb hdg (kk H locs ls hP hS hl)
theorem g_ishr (C : gC X nL cc own Ts ret rm) {x y : Int32} (hdg : decode cc pc = .ok (.ishr, 1)) (kk : G X nL k n σ lv (pc + 1) (.int (x >>> (y &&& 31)) :: st)) : G X nL k n σ lv pc (.int y :: .int x :: st) := fun H locs ls hP hS hl => lv_ishr C.hx C.hb hdg (kk H locs ls hP hS hl)
theorem g_dadd (C : gC X nL cc own Ts ret rm) {x y : UInt64} (hdg : decode cc pc = .ok (.dadd, 1)) (hne : vf_n64 (FP.dadd x y)) (kk : G X nL k n σ lv (pc + 1) (.double (FP.dadd x y) :: st)) : G X nL k n σ lv pc (.double y :: .double x :: st) := fun H locs ls hP hS hl => lv_dadd C.hx C.hb hdg hne (kk H locs ls hP hS hl)
theorem g_dsub (C : gC X nL cc own Ts ret rm) {x y : UInt64} (hdg : decode cc pc = .ok (.dsub, 1)) (hne : vf_n64 (FP.dsub x y)) (kk : G X nL k n σ lv (pc + 1) (.double (FP.dsub x y) :: st)) : G X nL k n σ lv pc (.double y :: .double x :: st) := fun H locs ls hP hS hl => lv_dsub C.hx C.hb hdg hne (kk H locs ls hP hS hl)
theorem g_dmul (C : gC X nL cc own Ts ret rm) {x y : UInt64} (hdg : decode cc pc = .ok (.dmul, 1)) (hne : vf_n64 (FP.dmul x y)) (kk : G X nL k n σ lv (pc + 1) (.double (FP.dmul x y) :: st)) : G X nL k n σ lv pc (.double y :: .double x :: st) := fun H locs ls hP hS hl => lv_dmul C.hx C.hb hdg hne (kk H locs ls hP hS hl)
theorem g_ddiv (C : gC X nL cc own Ts ret rm) {x y : UInt64} (hdg : decode cc pc = .ok (.ddiv, 1)) (hne : vf_n64 (FP.ddiv x y)) (kk : G X nL k n σ lv (pc + 1) (.double (FP.ddiv x y) :: st)) : G X nL k n σ lv pc (.double y :: .double x :: st) := fun H locs ls hP hS hl => lv_ddiv C.hx C.hb hdg hne (kk H locs ls hP hS hl)
theorem g_dneg (C : gC X nL cc own Ts ret rm) {x : UInt64} (hdg : decode cc pc = .ok (.dneg, 1)) (kk : G X nL k n σ lv (pc + 1) (.double (FP.dneg x) :: st)) : G X nL k n σ lv pc (.double x :: st) := fun H locs ls hP hS hl => lv_dneg C.hx C.hb hdg (kk H locs ls hP hS hl)
theorem g_dcmp (C : gC X nL cc own Ts ret rm) {x y : UInt64} {op : CmpOp} (hdg : decode cc pc = .ok (.dcmp op, 1)) (kk : G X nL k n σ lv (pc + 1) (.int (Op.cmpValue (FP.dcmp x y) op) :: st)) : G X nL k n σ lv pc (.double y :: .double x :: st) := fun H locs ls hP hS hl => lv_dcmp C.hx C.hb hdg (kk H locs ls hP hS hl)
theorem g_i2d (C : gC X nL cc own Ts ret rm) {x : Int32} (hdg : decode cc pc = .ok (.i2d, 1)) (kk : G X nL k n σ lv (pc + 1) (.double (FP.i2d x) :: st)) : G X nL k n σ lv pc (.int x :: st) := fun H locs ls hP hS hl => lv_i2d C.hx C.hb hdg (kk H locs ls hP hS hl)
theorem g_i2l (C : gC X nL cc own Ts ret rm) {x : Int32} (hdg : decode cc pc = .ok (.i2l, 1)) (kk : G X nL k n σ lv (pc + 1) (.long x.toInt64 :: st)) : G X nL k n σ lv pc (.int x :: st) := fun H locs ls hP hS hl => lv_i2l C.hx C.hb hdg rfl (kk H locs ls hP hS hl)
theorem g_dup (C : gC X nL cc own Ts ret rm) {va : Value} (hdg : decode cc pc = .ok (.dup, 1)) (hva : va.category = 1) (kk : G X nL k n σ lv (pc + 1) (va :: va :: st)) : G X nL k n σ lv pc (va :: st) := fun H locs ls hP hS hl => lv_dup C.hx C.hb hdg hva (kk H locs ls hP hS hl)
theorem g_dup2 (C : gC X nL cc own Ts ret rm) {va vb : Value} (hdg : decode cc pc = .ok (.dup2, 1)) (hva : va.category = 1) (hvb : vb.category = 1) (kk : G X nL k n σ lv (pc + 1) (va :: vb :: va :: vb :: st)) : G X nL k n σ lv pc (va :: vb :: st) := fun H locs ls hP hS hl => lv_dup2_11 C.hx C.hb hdg hva hvb (kk H locs ls hP hS hl)
theorem g_goto (C : gC X nL cc own Ts ret rm) {off : Int} {tgt : Nat} (hdg : decode cc pc = .ok (.goto off, 3)) (ht : (pc : Int) + off = (tgt : Int)) (kk : G X nL k n σ lv tgt st) : G X nL k n σ lv pc st := fun H locs ls hP hS hl => lv_goto C.hx C.hb hdg ht (kk H locs ls hP hS hl)
theorem g_lcmp (C : gC X nL cc own Ts ret rm) {x y : Int64} (hdg : decode cc pc = .ok (.lcmp, 1)) (kk : G X nL k n σ lv (pc + 1) (.int (lg_cmp x y) :: st)) : G X nL k n σ lv pc (.long y :: .long x :: st) := fun H locs ls hP hS hl => W.lcmp C.hx C.hb hdg (kk H locs ls hP hS hl)
theorem g_if_eq (C : gC X nL cc own Ts ret rm) {x : Int32} {off : Int} {tgt : Nat} (hdg : decode cc pc = .ok (.ifCond .eq off, 3)) (ht : (pc : Int) + off = (tgt : Int)) (kt : x = 0 → G X nL k n σ lv tgt st) (kf : ¬ x = 0 → G X nL k n σ lv (pc + 3) st) : G X nL k n σ lv pc (.int x :: st) := fun H locs ls hP hS hl => lv_if_eq C.hx C.hb hdg ht (fun h => kt h H locs ls hP hS hl) (fun h => kf h H locs ls hP hS hl)
theorem g_if_ne (C : gC X nL cc own Ts ret rm) {x : Int32} {off : Int} {tgt : Nat} (hdg : decode cc pc = .ok (.ifCond .ne off, 3)) (ht : (pc : Int) + off = (tgt : Int)) (kt : ¬ x = 0 → G X nL k n σ lv tgt st) (kf : x = 0 → G X nL k n σ lv (pc + 3) st) : G X nL k n σ lv pc (.int x :: st) := fun H locs ls hP hS hl => lv_if_ne C.hx C.hb hdg ht (fun h => kt h H locs ls hP hS hl) (fun h => kf h H locs ls hP hS hl)
theorem g_if_lt (C : gC X nL cc own Ts ret rm) {x : Int32} {off : Int} {tgt : Nat} (hdg : decode cc pc = .ok (.ifCond .lt off, 3)) (ht : (pc : Int) + off = (tgt : Int)) (kt : x < 0 → G X nL k n σ lv tgt st) (kf : ¬ x < 0 → G X nL k n σ lv (pc + 3) st) : G X nL k n σ lv pc (.int x :: st) := fun H locs ls hP hS hl => lv_if_lt C.hx C.hb hdg ht (fun h => kt h H locs ls hP hS hl) (fun h => kf h H locs ls hP hS hl)
theorem g_if_ge (C : gC X nL cc own Ts ret rm) {x : Int32} {off : Int} {tgt : Nat} (hdg : decode cc pc = .ok (.ifCond .ge off, 3)) (ht : (pc : Int) + off = (tgt : Int)) (kt : 0 ≤ x → G X nL k n σ lv tgt st) (kf : ¬ 0 ≤ x → G X nL k n σ lv (pc + 3) st) : G X nL k n σ lv pc (.int x :: st) := fun H locs ls hP hS hl => lv_if_ge C.hx C.hb hdg ht (fun h => kt h H locs ls hP hS hl) (fun h => kf h H locs ls hP hS hl)
theorem g_if_gt (C : gC X nL cc own Ts ret rm) {x : Int32} {off : Int} {tgt : Nat} (hdg : decode cc pc = .ok (.ifCond .gt off, 3)) (ht : (pc : Int) + off = (tgt : Int)) (kt : 0 < x → G X nL k n σ lv tgt st) (kf : ¬ 0 < x → G X nL k n σ lv (pc + 3) st) : G X nL k n σ lv pc (.int x :: st) := fun H locs ls hP hS hl => lv_if_gt C.hx C.hb hdg ht (fun h => kt h H locs ls hP hS hl) (fun h => kf h H locs ls hP hS hl)
theorem g_if_le (C : gC X nL cc own Ts ret rm) {x : Int32} {off : Int} {tgt : Nat} (hdg : decode cc pc = .ok (.ifCond .le off, 3)) (ht : (pc : Int) + off = (tgt : Int)) (kt : x ≤ 0 → G X nL k n σ lv tgt st) (kf : ¬ x ≤ 0 → G X nL k n σ lv (pc + 3) st) : G X nL k n σ lv pc (.int x :: st) := fun H locs ls hP hS hl => lv_if_le C.hx C.hb hdg ht (fun h => kt h H locs ls hP hS hl) (fun h => kf h H locs ls hP hS hl)
theorem g_icmp_eq (C : gC X nL cc own Ts ret rm) {x y : Int32} {off : Int} {tgt : Nat} (hdg : decode cc pc = .ok (.if_icmp .eq off, 3)) (ht : (pc : Int) + off = (tgt : Int)) (kt : x = y → G X nL k n σ lv tgt st) (kf : ¬ x = y → G X nL k n σ lv (pc + 3) st) : G X nL k n σ lv pc (.int y :: .int x :: st) := fun H locs ls hP hS hl => lv_icmp_eq C.hx C.hb hdg ht (fun h => kt h H locs ls hP hS hl) (fun h => kf h H locs ls hP hS hl)
theorem g_icmp_ne (C : gC X nL cc own Ts ret rm) {x y : Int32} {off : Int} {tgt : Nat} (hdg : decode cc pc = .ok (.if_icmp .ne off, 3)) (ht : (pc : Int) + off = (tgt : Int)) (kt : ¬ x = y → G X nL k n σ lv tgt st) (kf : x = y → G X nL k n σ lv (pc + 3) st) : G X nL k n σ lv pc (.int y :: .int x :: st) := fun H locs ls hP hS hl => lv_icmp_ne C.hx C.hb hdg ht (fun h => kt h H locs ls hP hS hl) (fun h => kf h H locs ls hP hS hl)
theorem g_icmp_lt (C : gC X nL cc own Ts ret rm) {x y : Int32} {off : Int} {tgt : Nat} (hdg : decode cc pc = .ok (.if_icmp .lt off, 3)) (ht : (pc : Int) + off = (tgt : Int)) (kt : x < y → G X nL k n σ lv tgt st) (kf : ¬ x < y → G X nL k n σ lv (pc + 3) st) : G X nL k n σ lv pc (.int y :: .int x :: st) := fun H locs ls hP hS hl => lv_icmp_lt C.hx C.hb hdg ht (fun h => kt h H locs ls hP hS hl) (fun h => kf h H locs ls hP hS hl)
theorem g_icmp_ge (C : gC X nL cc own Ts ret rm) {x y : Int32} {off : Int} {tgt : Nat} (hdg : decode cc pc = .ok (.if_icmp .ge off, 3)) (ht : (pc : Int) + off = (tgt : Int)) (kt : y ≤ x → G X nL k n σ lv tgt st) (kf : ¬ y ≤ x → G X nL k n σ lv (pc + 3) st) : G X nL k n σ lv pc (.int y :: .int x :: st) := fun H locs ls hP hS hl => lv_icmp_ge C.hx C.hb hdg ht (fun h => kt h H locs ls hP hS hl) (fun h => kf h H locs ls hP hS hl)
theorem g_icmp_gt (C : gC X nL cc own Ts ret rm) {x y : Int32} {off : Int} {tgt : Nat} (hdg : decode cc pc = .ok (.if_icmp .gt off, 3)) (ht : (pc : Int) + off = (tgt : Int)) (kt : y < x → G X nL k n σ lv tgt st) (kf : ¬ y < x → G X nL k n σ lv (pc + 3) st) : G X nL k n σ lv pc (.int y :: .int x :: st) := fun H locs ls hP hS hl => lv_icmp_gt C.hx C.hb hdg ht (fun h => kt h H locs ls hP hS hl) (fun h => kf h H locs ls hP hS hl)
theorem g_icmp_le (C : gC X nL cc own Ts ret rm) {x y : Int32} {off : Int} {tgt : Nat} (hdg : decode cc pc = .ok (.if_icmp .le off, 3)) (ht : (pc : Int) + off = (tgt : Int)) (kt : x ≤ y → G X nL k n σ lv tgt st) (kf : ¬ x ≤ y → G X nL k n σ lv (pc + 3) st) : G X nL k n σ lv pc (.int y :: .int x :: st) := fun H locs ls hP hS hl => lv_icmp_le C.hx C.hb hdg ht (fun h => kt h H locs ls hP hS hl) (fun h => kf h H locs ls hP hS hl)
theorem g_tableIn (C : gC X nL cc own Ts ret rm) {dflt lo hi : Int} {offs : Array Int} {len : Nat} {x : Int32} {off : Int} {tgt : Nat} (hdg : decode cc pc = .ok (.tableswitch dflt lo hi offs, len)) (h1 : ¬ x.toInt < lo) (h2 : ¬ hi < x.toInt) (ho : offs[(x.toInt - lo).toNat]? = some off) (ht : (pc : Int) + off = (tgt : Int)) (kk : G X nL k n σ lv tgt st) : G X nL k n σ lv pc (.int x :: st) := fun H locs ls hP hS hl => lv_tableIn C.hx C.hb hdg h1 h2 ho ht (kk H locs ls hP hS hl)
theorem g_tableOut (C : gC X nL cc own Ts ret rm) {dflt lo hi : Int} {offs : Array Int} {len : Nat} {x : Int32} {tgt : Nat} (hdg : decode cc pc = .ok (.tableswitch dflt lo hi offs, len)) (h : x.toInt < lo ∨ hi < x.toInt) (ht : (pc : Int) + dflt = (tgt : Int)) (kk : G X nL k n σ lv tgt st) : G X nL k n σ lv pc (.int x :: st) := fun H locs ls hP hS hl => lv_tableOut C.hx C.hb hdg h ht (kk H locs ls hP hS hl)
theorem g_get (C : gC X nL cc own Ts ret rm) {ref Cn : String} {T : u_T} {N ci index a q0 : Nat} {fs : List Value} {v : Value} (hdg : decode cc pc = .ok (.getfield index, 3)) (he : (wld (xK X) σ)[q0]? = some (a, .inr (ci, fs))) (hc : vwCl[ci]? = some (Cn, T, N)) (f : Nat) (hf : f < N) (j : Nat) (hw : Ts[j]? = some (.fieldLink own index ref (T f).2.1 (T f).2.2.1)) (hrf : (T f).1 = ref) (hv : fs[f]? = some v) (hin : ∀ w ∈ u_ws Cn T N, w ∈ Ts) (kk : G X nL k n σ lv (pc + 3) (v :: st)) : G X nL k n σ lv pc (.ref a :: st) := fun H locs ls hP hS hl => va_get C.hx C.hb C.hts hin C.hown C.hK hP q0 he hc f hf (C.w j hw) (fun _ h => by rw [← hrf]; exact h) hv hdg (kk H locs ls hP hS hl)
theorem g_put (C : gC X nL cc own Ts ret rm) {ref Cn : String} {T : u_T} {N ci index a q0 : Nat} {fs : List Value} {v : Value} {ty : FieldType} {ty0 : Nat → FieldType} {σ' : gS} (hdg : decode cc pc = .ok (.putfield index, 3)) (he : (wld (xK X) σ)[q0]? = some (a, .inr (ci, fs))) (hc : vwCl[ci]? = some (Cn, T, N)) (f : Nat) (hf : f < N) (j : Nat) (hw : Ts[j]? = some (.fieldLink own index ref (T f).2.1 (T f).2.2.1)) (hrf : (T f).1 = ref) (hin : ∀ w ∈ u_ws Cn T N, w ∈ Ts) (hty : ∀ k, k < N → parseFieldDescriptor (T k).2.2.1 = some (ty0 k)) (hnm : ∀ a, a < N → ∀ b, b < N → a ≠ b → (T a).2.1 ≠ (T b).2.1) (hfin : (T f).2.2.2 = false) (hd : parseFieldDescriptor (T f).2.2.1 = some ty) (hn : narrow ty v = v) (hfit : fits ty v = true) (hlen : f < fs.length) (hset : (wld (xK X) σ).set q0 (a, .inr (ci, fs.set f v)) = wld (xK X) σ') (kk : G X nL k n σ' lv (pc + 3) st) : G X nL k n σ lv pc (v :: .ref a :: st) := fun H locs ls hP hS hl => va_put C.hx C.hb C.hts hin ty0 hty hnm C.hown C.hK hP (C.vaD σ) hS q0 he hc f hf (C.w j hw) (fun _ h => by rw [← hrf]; exact h) hfin hd hn hfit hlen hdg (fun H1 locs1 hP1 _ hS1 => kk H1 locs1 ls (by rw [hset] at hP1; exact hP1) hS1 hl)
theorem g_iald (C : gC X nL cc own Ts ret rm) {a q0 N j : Nat} {f : Nat → Int32} {i : Int32} (hdg : decode cc pc = .ok (.iaload, 1)) (he : (wld (xK X) σ)[q0]? = some (a, .inl ((xK X).2.1 1, N, .inl f))) (hi : i = nI j) (hj : j < N) (hN : N < 2 ^ 31) (kk : G X nL k n σ lv (pc + 1) (.int (f j) :: st)) : G X nL k n σ lv pc (.int i :: .ref a :: st) := by
  subst hi
  intro H locs ls hP hS hl
  refine va_iald C.hx C.hb C.hK hP q0 1 he rfl (vp_in_nI hj hN) hdg ?_
  rw [nI_clamp (Nat.lt_trans hj hN)]
  exact kk H locs ls hP hS hl
theorem g_zald (C : gC X nL cc own Ts ret rm) {a q0 N j : Nat} {f : Nat → Int32} {i : Int32} (hdg : decode cc pc = .ok (.baload, 1)) (he : (wld (xK X) σ)[q0]? = some (a, .inl ((xK X).2.1 2, N, .inl f))) (hi : i = nI j) (hj : j < N) (hN : N < 2 ^ 31) (kk : G X nL k n σ lv (pc + 1) (.int (f j) :: st)) : G X nL k n σ lv pc (.int i :: .ref a :: st) := by
  subst hi
  intro H locs ls hP hS hl
  refine va_zald C.hx C.hb C.hK hP q0 2 he rfl (vp_in_nI hj hN) hdg ?_
  rw [nI_clamp (Nat.lt_trans hj hN)]
  exact kk H locs ls hP hS hl
theorem g_dald (C : gC X nL cc own Ts ret rm) {a q0 N j : Nat} {f : Nat → UInt64} {i : Int32} (hdg : decode cc pc = .ok (.daload, 1)) (he : (wld (xK X) σ)[q0]? = some (a, .inl ((xK X).2.1 0, N, .inr (.inr (.inr (.inl f)))))) (hi : i = nI j) (hj : j < N) (hN : N < 2 ^ 31) (kk : G X nL k n σ lv (pc + 1) (.double (f j) :: st)) : G X nL k n σ lv pc (.int i :: .ref a :: st) := by
  subst hi
  intro H locs ls hP hS hl
  refine va_dald C.hx C.hb C.hK hP q0 0 he rfl (vp_in_nI hj hN) hdg ?_
  rw [nI_clamp (Nat.lt_trans hj hN)]
  exact kk H locs ls hP hS hl
theorem g_lald (C : gC X nL cc own Ts ret rm) {a q0 N j : Nat} {f : Nat → Int64} {i : Int32} (hdg : decode cc pc = .ok (.laload, 1)) (he : (wld (xK X) σ)[q0]? = some (a, .inl ((xK X).2.1 4, N, .inr (.inl f)))) (hi : i = nI j) (hj : j < N) (hN : N < 2 ^ 31) (kk : G X nL k n σ lv (pc + 1) (.long (f j) :: st)) : G X nL k n σ lv pc (.int i :: .ref a :: st) := by
  subst hi
  intro H locs ls hP hS hl
  refine va_lald C.hx C.hb C.hK hP q0 4 he rfl (vp_in_nI hj hN) hdg ?_
  rw [nI_clamp (Nat.lt_trans hj hN)]
  exact kk H locs ls hP hS hl
theorem g_iast (C : gC X nL cc own Ts ret rm) {a q0 N j : Nat} {f : Nat → Int32} {i : Int32} {x : Int32} {σ' : gS} (hdg : decode cc pc = .ok (.iastore, 1)) (he : (wld (xK X) σ)[q0]? = some (a, .inl ((xK X).2.1 1, N, .inl f))) (hi : i = nI j) (hj : j < N) (hN : N < 2 ^ 31) (hset : (wld (xK X) σ).set q0 (a, .inl ((xK X).2.1 1, N, .inl (upd f j x))) = wld (xK X) σ') (kk : G X nL k n σ' lv (pc + 1) st) : G X nL k n σ lv pc (.int x :: .int i :: .ref a :: st) := by
  subst hi
  intro H locs ls hP hS hl
  refine va_iast C.hx C.hb C.hK hP (C.vaD σ) hS q0 1 he rfl (vp_in_nI hj hN) hdg (fun H1 locs1 hP1 _ hS1 => ?_)
  rw [nI_clamp (Nat.lt_trans hj hN), hset] at hP1
  exact kk H1 locs1 ls hP1 hS1 hl
theorem g_zast (C : gC X nL cc own Ts ret rm) {a q0 N j : Nat} {f : Nat → Int32} {i : Int32} {x : Int32} {σ' : gS} (hdg : decode cc pc = .ok (.bastore, 1)) (he : (wld (xK X) σ)[q0]? = some (a, .inl ((xK X).2.1 2, N, .inl f))) (hi : i = nI j) (hj : j < N) (hN : N < 2 ^ 31) (hset : (wld (xK X) σ).set q0 (a, .inl ((xK X).2.1 2, N, .inl (upd f j (vp_nar .boolean x)))) = wld (xK X) σ') (kk : G X nL k n σ' lv (pc + 1) st) : G X nL k n σ lv pc (.int x :: .int i :: .ref a :: st) := by
  subst hi
  intro H locs ls hP hS hl
  refine va_zast C.hx C.hb C.hK hP (C.vaD σ) hS q0 2 he rfl (vp_in_nI hj hN) hdg (fun H1 locs1 hP1 _ hS1 => ?_)
  rw [nI_clamp (Nat.lt_trans hj hN), hset] at hP1
  exact kk H1 locs1 ls hP1 hS1 hl
theorem g_dast (C : gC X nL cc own Ts ret rm) {a q0 N j : Nat} {f : Nat → UInt64} {i : Int32} {x : UInt64} {σ' : gS} (hdg : decode cc pc = .ok (.dastore, 1)) (he : (wld (xK X) σ)[q0]? = some (a, .inl ((xK X).2.1 0, N, .inr (.inr (.inr (.inl f)))))) (hi : i = nI j) (hj : j < N) (hN : N < 2 ^ 31) (hset : (wld (xK X) σ).set q0 (a, .inl ((xK X).2.1 0, N, .inr (.inr (.inr (.inl (vf_upd f j x)))))) = wld (xK X) σ') (kk : G X nL k n σ' lv (pc + 1) st) : G X nL k n σ lv pc (.double x :: .int i :: .ref a :: st) := by
  subst hi
  intro H locs ls hP hS hl
  refine va_dast C.hx C.hb C.hK hP (C.vaD σ) hS q0 0 he rfl (vp_in_nI hj hN) hdg (fun H1 locs1 hP1 _ hS1 => ?_)
  rw [nI_clamp (Nat.lt_trans hj hN), hset] at hP1
  exact kk H1 locs1 ls hP1 hS1 hl
theorem g_last (C : gC X nL cc own Ts ret rm) {a q0 N j : Nat} {f : Nat → Int64} {i : Int32} {x : Int64} {σ' : gS} (hdg : decode cc pc = .ok (.lastore, 1)) (he : (wld (xK X) σ)[q0]? = some (a, .inl ((xK X).2.1 4, N, .inr (.inl f)))) (hi : i = nI j) (hj : j < N) (hN : N < 2 ^ 31) (hset : (wld (xK X) σ).set q0 (a, .inl ((xK X).2.1 4, N, .inr (.inl (vp_updL f j x)))) = wld (xK X) σ') (kk : G X nL k n σ' lv (pc + 1) st) : G X nL k n σ lv pc (.long x :: .int i :: .ref a :: st) := by
  subst hi
  intro H locs ls hP hS hl
  refine va_last C.hx C.hb C.hK hP (C.vaD σ) hS q0 4 he rfl (vp_in_nI hj hN) hdg (fun H1 locs1 hP1 _ hS1 => ?_)
  rw [nI_clamp (Nat.lt_trans hj hN), hset] at hP1
  exact kk H1 locs1 ls hP1 hS1 hl
theorem g_rald (C : gC X nL cc own Ts ret rm) {j : Nat} {i : Int32} (hdg : decode cc pc = .ok (.aaload, 1)) (hi : i = nI j) (hj : j < 10) (kk : G X nL k n σ lv (pc + 1) (.ref ((xK X).2.2 (45 + j)) :: st)) : G X nL k n σ lv pc (.int i :: .ref ((xK X).2.2 14) :: st) := by
  subst hi
  intro H locs ls hP hS hl
  have hv : gRows (xK X) j = some ((xK X).2.2 (45 + j)) := if_pos hj
  have e : va_rf (gRows (xK X) j) = .ref ((xK X).2.2 (45 + j)) := by rw [hv]; rfl
  exact W.aald (v := .ref ((xK X).2.2 (45 + j))) (ty := .array .int) C.hx C.hb (hP 14 _ wl14) ((C.hK.2 3 _ rfl).1 10 (fun j => va_rf (gRows (xK X) j))) rfl (fun q => by cases q) (by show ¬ (_ ∨ (arrV _ _ _).slots.size ≤ _); rw [arrV_size]; exact vp_in_nI (N := 10) hj (by decide)) (by show (arrV _ _ _).slots[_]? = _; rw [nI_clamp (by omega), arrV_read _ _ hj, e]) rfl rfl hdg (kk H locs ls hP hS hl)
theorem g_topi {x y : Int32} (h : x = y) (kk : G X nL k n σ lv pc (.int y :: st)) : G X nL k n σ lv pc (.int x :: st) := by subst h; exact kk
theorem g_topd {x y : UInt64} (h : x = y) (kk : G X nL k n σ lv pc (.double y :: st)) : G X nL k n σ lv pc (.double x :: st) := by subst h; exact kk
theorem g_topl {x y : Int64} (h : x = y) (kk : G X nL k n σ lv pc (.long y :: st)) : G X nL k n σ lv pc (.long x :: st) := by subst h; exact kk
theorem g_iret (C : gC X nL cc own Ts ret rm) {v : Int32} (hdg : decode cc pc = .ok (.ireturn, 1)) (hr : ret = some .int) (hk : k ≤ rm.cells ∧ n ≤ rm.slots) (h : xF X (some (.int v)) σ) : G X nL k n σ lv pc [.int v] := by
  obtain ⟨Qc, free, e1, e2, e3⟩ := C.2.2.2.2.2.2.2.2.2.2.2.2
  exact fun H locs ls hP hS hl => W.widen hk.1 hk.2 (e3 H locs _ (W.iret C.hx C.hb (C.hr.trans hr) (fun t ht _ => e1 _ σ H locs t h hP hS ht) (fun q hq => e2 _ (hS.2.2 q hq)) hdg C.hlocks))
theorem g_zret (C : gC X nL cc own Ts ret rm) {v : Int32} (hdg : decode cc pc = .ok (.ireturn, 1)) (hr : ret = some .boolean) (hn : narrow .boolean (.int v) = .int v) (hk : k ≤ rm.cells ∧ n ≤ rm.slots) (h : xF X (some (.int v)) σ) : G X nL k n σ lv pc [.int v] := by
  obtain ⟨Qc, free, e1, e2, e3⟩ := C.2.2.2.2.2.2.2.2.2.2.2.2
  exact fun H locs ls hP hS hl => W.widen hk.1 hk.2 (e3 H locs _ (W.zret C.hx C.hb (C.hr.trans hr) hn (fun t ht _ => e1 _ σ H locs t h hP hS ht) (fun q hq => e2 _ (hS.2.2 q hq)) hdg C.hlocks))
theorem g_dret (C : gC X nL cc own Ts ret rm) {v : UInt64} (hdg : decode cc pc = .ok (.dreturn, 1)) (hr : ret = some .double) (hk : k ≤ rm.cells ∧ n ≤ rm.slots) (h : xF X (some (.double v)) σ) : G X nL k n σ lv pc [.double v] := by
  obtain ⟨Qc, free, e1, e2, e3⟩ := C.2.2.2.2.2.2.2.2.2.2.2.2
  have hlk := C.hlocks
  exact fun H locs ls hP hS hl => W.widen hk.1 hk.2 (e3 H locs _ (W.dret C.hx C.hb (C.hr.trans hr) (fun t ht _ => e1 _ σ H locs t h hP hS ht) (fun q hq => e2 _ (hS.2.2 q hq)) hdg hlk))
theorem g_vret (C : gC X nL cc own Ts ret rm) (hdg : decode cc pc = .ok (.return_, 1)) (hr : ret = none) (hk : k ≤ rm.cells ∧ n ≤ rm.slots) (h : xF X none σ) : G X nL k n σ lv pc [] := by
  obtain ⟨Qc, free, e1, e2, e3⟩ := C.2.2.2.2.2.2.2.2.2.2.2.2
  exact fun H locs ls hP hS hl => W.widen hk.1 hk.2 (e3 H locs _ (W.vret C.hx C.hb (C.hr.trans hr) (fun t ht _ => e1 _ σ H locs t h hP hS ht) (fun q hq => e2 _ (hS.2.2 q hq)) hdg C.hlocks))
theorem g_run (C : gC X nL cc own Ts ret rm) {H : Heap} {locs : List Loc} {ls : Array Slot} {mc ms : Nat} {rest st0 : List Value} {a : Array Value} {Rf : Option Value → gS → Prop} (hS : va_S (xA X) (xH X) H locs) (hl : lv_has ls nL lv)
    (hr : va_Run (xp X) (xl X) (xe X) (xR X) (xs X) (xm X) (xa X) (xb X) (xme X) (xc X) H locs k n mc ms (F0 (xm X) pc ls st0) rest (gQ (xK X) Rf H.size a) (gR (xK X) H.size))
    (kk : ∀ (rv : Option Value) (σ' : gS), Rf rv σ' → G X nL (k + mc) (n + ms) σ' lv (pc + 3) (rv.toList ++ rest)) : W (xp X) (xl X) (xe X) (xR X) (xs X) (xm X) (xa X) (xb X) (xme X) (xc X) H locs k n (xQ X) (F0 (xm X) pc ls st0) := by
  have hA : ∀ q, gR (xK X) H.size q → xA X q := fun q h => C.hA q (h.elim Or.inl fun h => Or.inr (Nat.le_trans hS.1 h))
  intro T hT Y
  obtain ⟨v, st₀, t, T', L, h0, Y', hL, e1, e2, ⟨⟨rv, σ', hv, hp, hP1⟩, hz, hk⟩, stp⟩ := hr T hT Y
  cases hv
  rw [h0] at hz hk
  obtain ⟨t2, a1, b1⟩ := kk v σ' hp T'.heap (locs ++ L) ls (by rw [e1]; exact hP1)
    ⟨Nat.le_trans hS.1 (by rw [e1]; exact hz), fun q h1 h2 => by rw [e1, hk q (Nat.lt_of_lt_of_le h1 hS.1) (fun z => h2 (hA q z))]; exact hS.2.1 q h1 h2, fun q hq => by
      rcases List.mem_append.mp hq with h | h
      · exact hS.2.2 q h
      · exact hA _ (hL q h)⟩ hl T' rfl Y'
  exact ⟨t2, stp t2 a1, b1⟩
theorem gC.pre (C : gC X nL cc own Ts ret rm) {H : Heap} (hP : va_P (xK X).1 vwCl (wld (xK X) σ) H) {As : List Value} : ∀ U : State, U.heap = H → (xs X).WarmedH U.vm → va_Pc As (gB (xK X) σ H.size) As.toArray U := fun U hU hW => ⟨rfl, by rw [hU], by rw [hU]; exact hP, va_K.moved hW.alike C.hK, nws_warm hW C.hN⟩
theorem g_callV (C : gC X nL cc own Ts ret rm) {y : MethodName} {wsy ws' : List Cond} {by_ : ByteArray} {maxL : Nat} {rty : Option FieldType} {rmy : Room} {index b : Nat} {As rest : List Value} {Rf : Option Value → gS → Prop} {Cn : String} {T : u_T} {N ci q0 : Nat} {fs : List Value}
    (hdg : decode cc pc = .ok (.invokevirtual index, 3)) (hM : Ct (xl X) y wsy rmy (xK X) (.ref b :: As) σ Rf) (he : (wld (xK X) σ)[q0]? = some (b, .inr (ci, fs))) (hc : vwCl[ci]? = some (Cn, T, N)) (np : Nat) (hG : GoodIn Ts (wsV own index Cn y wsy)) (hw : wsy = Cond.code y by_ maxL rty :: ws')
    (hd : y.cls = Cn ∧ y.cls ≠ "java/lang/invoke/MethodHandle" ∧ y.cls ≠ "java/lang/invoke/VarHandle" ∧ (parseMethodDescriptor y.desc).map (fun d => d.parameters.length) = some np) (hR : rmy.frames + 1 ≤ rm.frames ∧ 8 + (maxL + 11) + rmy.locals ≤ rm.locals) (hcs : k + rmy.cells ≤ rm.cells ∧ n + rmy.slots ≤ rm.slots) (hnp : As.length = np) (hst : st = As.reverse ++ .ref b :: rest) (hcat : (rest.map fun v => v.category).sum ≤ 8)
    (kk : ∀ (rv : Option Value) (σ' : gS), Rf rv σ' → G X nL (k + rmy.cells) (n + rmy.slots) σ' lv (pc + 3) (rv.toList ++ rest)) : G X nL k n σ lv pc st := by
  subst hst
  intro H locs ls hP hS hl
  exact g_run C hS hl (va_runV (As := As) (rest := rest) ⟨C.hx, C.hb, C.hml, C.hown, C.hts⟩ (hM H.size) (cwV np C.hts hG hw rfl rfl hd (by rw [C.hR]; exact hR)) ⟨gB_blind, va_recv C.hK hP hc he, C.pre hP⟩ rfl hnp hl.1 rfl (lv_room hcat) hdg (by rw [C.hR]; exact hcs)) kk
theorem g_callS (C : gC X nL cc own Ts ret rm) {y : MethodName} {wsy ws' : List Cond} {by_ : ByteArray} {maxL : Nat} {rty : Option FieldType} {rmy : Room} {index : Nat} {As rest : List Value} {Rf : Option Value → gS → Prop}
    (hdg : decode cc pc = .ok (.invokestatic index, 3)) (hM : Ct (xl X) y wsy rmy (xK X) As σ Rf) (np : Nat) (hG : GoodIn Ts (va_wsS own index y wsy)) (hw : wsy = Cond.code y by_ maxL rty :: ws')
    (hd : y.cls ≠ "java/lang/invoke/MethodHandle" ∧ y.cls ≠ "java/lang/invoke/VarHandle" ∧ (parseMethodDescriptor y.desc).map (fun d => d.parameters.length) = some np) (hR : rmy.frames + 1 ≤ rm.frames ∧ 8 + (maxL + 11) + rmy.locals ≤ rm.locals) (hcs : k + rmy.cells ≤ rm.cells ∧ n + rmy.slots ≤ rm.slots) (hnp : As.length = np) (hst : st = As.reverse ++ rest) (hcat : (rest.map fun v => v.category).sum ≤ 8)
    (kk : ∀ (rv : Option Value) (σ' : gS), Rf rv σ' → G X nL (k + rmy.cells) (n + rmy.slots) σ' lv (pc + 3) (rv.toList ++ rest)) : G X nL k n σ lv pc st := by
  subst hst
  intro H locs ls hP hS hl
  exact g_run C hS hl (va_runS (As := As) (rest := rest) ⟨C.hx, C.hb, C.hml, C.hown, C.hts⟩ (hM H.size) (va_cwS np C.hts hG hw rfl rfl hd (by rw [C.hR]; exact hR)) ⟨gB_blind, C.pre hP⟩ rfl hnp hl.1 rfl (lv_room hcat) hdg (by rw [C.hR]; exact hcs)) kk
theorem g_callSN (C : gC X nL cc own Ts ret rm) {y : MethodName} {host : String} {wsy ws' : List Cond} {by_ : ByteArray} {maxL : Nat} {rty : Option FieldType} {rmy : Room} {index : Nat} {As rest : List Value} {Rf : Option Value → gS → Prop}
    (hdg : decode cc pc = .ok (.invokestatic index, 3)) (hM : Ct (xl X) y wsy rmy (xK X) As σ Rf) (np : Nat) (hG : GoodIn Ts wsy) (hw : wsy = Cond.code y by_ maxL rty :: ws') (jn : Nat) (hnw : nws[jn]? = some (.methodLinkNest own index y host)) (ji : Nat) (hini : Ts[ji]? = some (.initialized y.cls)) (js : Nat) (hsta : Ts[js]? = some (.static y))
    (hd : y.cls ≠ "java/lang/invoke/MethodHandle" ∧ y.cls ≠ "java/lang/invoke/VarHandle" ∧ (parseMethodDescriptor y.desc).map (fun d => d.parameters.length) = some np) (hR : rmy.frames + 1 ≤ rm.frames ∧ 8 + (maxL + 11) + rmy.locals ≤ rm.locals) (hcs : k + rmy.cells ≤ rm.cells ∧ n + rmy.slots ≤ rm.slots) (hnp : As.length = np) (hst : st = As.reverse ++ rest) (hcat : (rest.map fun v => v.category).sum ≤ 8)
    (kk : ∀ (rv : Option Value) (σ' : gS), Rf rv σ' → G X nL (k + rmy.cells) (n + rmy.slots) σ' lv (pc + 3) (rv.toList ++ rest)) : G X nL k n σ lv pc st := by
  subst hst
  intro H locs ls hP hS hl
  exact g_run C hS hl (va_runSN (As := As) (rest := rest) ⟨C.hx, C.hb, C.hml, C.hown, C.hts⟩ (hM H.size) ⟨va_cnB np C.hts hG hw rfl rfl (C.hN _ (List.mem_of_getElem? hnw)) (C.w ji hini) hd (by rw [C.hR]; exact hR), C.w js hsta, trivial⟩ ⟨gB_blind, C.pre hP⟩ rfl hnp hl.1 rfl (lv_room hcat) hdg (by rw [C.hR]; exact hcs)) kk
end GR
