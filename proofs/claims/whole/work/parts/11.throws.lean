/-! methods that throw: what they need of the start, their contracts, throws that go on and that are caught -/
def eI : String := "java/lang/IndexOutOfBoundsException"
def eA : String := "java/lang/IllegalArgumentException"
def eS : String := "java/lang/IllegalStateException"
def xnm : List String := ["java/lang/RuntimeException", "java/lang/Exception"]
def xws : List Cond := [.declares (Bundle.initS "java/lang/RuntimeException"), .declares (Bundle.initS "java/lang/Exception"), .declares (Bundle.initS "java/lang/Throwable"), .castable eI eI, .castable eA eA, .castable eS eS]
def xns : List (String × String) := [(eI, eA), (eI, eS), (eA, eI), (eA, eS), (eS, eI), (eS, eA)]
theorem xws_warm {s U : State} (hW : s.WarmedH U.vm) (h : ∀ w ∈ xws, va_Nw w s) : ∀ w ∈ xws, va_Nw w U := by
  intro w hw
  have h0 := h w hw
  simp only [xws, List.mem_cons, List.not_mem_nil, or_false] at hw
  rcases hw with rfl | rfl | rfl | rfl | rfl | rfl
  · exact va_Nw.warmD hW h0
  · exact va_Nw.warmD hW h0
  · exact va_Nw.warmD hW h0
  · exact va_Nw.warmC hW h0
  · exact va_Nw.warmC hW h0
  · exact va_Nw.warmC hW h0
theorem xws_tab : ∀ w ∈ xws, w.onTables = true := by decide +kernel
/-- the texts, the exceptions' classes -/
def eV (U : State) : Prop := (∃ a, vk_R RX6 174 "there is no such thing" a U) ∧ (∃ a, vk_R RX6 181 "a number is not as said" a U) ∧ (∃ a, vk_R RX6 186 "there is no room, or it is not solved" a U) ∧ (∀ w ∈ xws, va_Nw w U) ∧ ∀ q ∈ xns, va_Nc q.1 q.2 U
theorem eV.warm {s U : State} (hW : s.WarmedH U.vm) (h : eV s) : eV U := by
  obtain ⟨⟨a, h1⟩, ⟨b, h2⟩, ⟨c, h3⟩, h4, h5⟩ := h
  exact ⟨⟨a, h1.warm hW⟩, ⟨b, h2.warm hW⟩, ⟨c, h3.warm hW⟩, xws_warm hW h4, fun q hq => (h5 q hq).moved hW.alike⟩
theorem eV.same {s U : State} (e : s.vm = U.vm) (h : eV s) : eV U := by
  obtain ⟨⟨a, h1⟩, ⟨b, h2⟩, ⟨c, h3⟩, h4, h5⟩ := h
  exact ⟨⟨a, h1.same e.symm⟩, ⟨b, h2.same e.symm⟩, ⟨c, h3.same e.symm⟩, fun w hw => va_Nw.same (xws_tab w hw) e (h4 w hw), fun q hq => (h5 q hq).moved (e ▸ Vm.Alike.refl s.vm)⟩
/-- two statics of Throwable, off the cells that may change -/
def eH (A : Nat → Prop) (U : State) (H : Heap) : Prop := vx_Zq Bundle.tN "UNASSIGNED_STACK" Bundle.steD A U H ∧ vx_Zq Bundle.tN "SUPPRESSED_SENTINEL" Bundle.listD A U H
def gBX (K : gK) (σ : gS) (sz : Nat) : State → Prop := fun U => gB K σ sz U ∧ eV U ∧ eH (gR K sz) U U.heap
def gXC (K : gK) (Tf : String → gS → Prop) (sz : Nat) : String → State → State → Prop := fun E st t => (∃ σ', Tf E σ' ∧ va_P K.1 vwCl (wld K σ') t.heap) ∧ va_F (gR K sz) st t
/-- a contract of a method that may throw: then E and σ' with Tf E σ' -/
def CtX (l : Launch) (y : MethodName) (ws : List Cond) (rm : Room) (K : gK) (As : List Value) (σ : gS) (Rf : Option Value → gS → Prop) (Tf : String → gS → Prop) : Prop := ∀ sz : Nat, vx_Met l y ws rm (va_Pc As (gBX K σ sz)) (gQ K Rf sz) (gXC K Tf sz) rm.cells rm.slots (gR K sz)
/-- what a body that may throw has at hand -/
def gE (X : gX) (rm : Room) (hh : List (Nat × Nat × Nat × Nat)) (Tf : String → gS → Prop) : Prop :=
  xH X = (xs X).heap ∧ (xl X).stackTraces = false ∧ eV (xs X) ∧ eH (xA X) (xs X) (xs X).heap ∧ (xc X).exceptionTable.toList = tableOf hh ∧
  ∃ (Qc : Array Value → State → Outcome → State → Prop) (XC : String → State → State → Prop) (free : Addr → Prop), xQ X = vx_MQ (xb X) Qc XC (xa X) (xs X) rm.cells rm.slots free ∧ (∀ q, xA X q → free q) ∧
    ∀ (E : String) (σ' : gS) (H : Heap) (locs : List Loc) (t : State), Tf E σ' → va_P (xK X).1 vwCl (wld (xK X) σ') t.heap → va_S (xA X) (xH X) H locs → H.size ≤ t.heap.size → (∀ q : Nat, q < H.size → t.heap[q]? = H[q]?) → XC E (xs X) t
/-- thrown at a place: E, over the frame -/
def GX (X : gX) (nL k n : Nat) (σ : gS) (lv : List (Nat × Value)) (pc : Nat) (st : List Value) (E : String) : Prop :=
  ∀ (H : Heap) (locs : List Loc) (ls : Array Slot) (q : Addr) (ce : Cell), va_P (xK X).1 vwCl (wld (xK X) σ) H → va_S (xA X) (xH X) H locs → lv_has ls nL lv → H[q]? = some ce → ce.vm = .none → (xs X).vm.findClass E = some ce.cls → vx_W (xp X) (xl X) (xe X) (xR X) (xs X) (xm X) (xa X) (xb X) (xme X) (xc X) H locs k n (xQ X) (F0 (xm X) pc ls st) q
theorem eH.to {X : gX} {H : Heap} {locs : List Loc} (h0 : xH X = (xs X).heap) (h : eH (xA X) (xs X) (xs X).heap) (hS : va_S (xA X) (xH X) H locs) {B : Nat → Prop} (hB : ∀ q, B q → xA X q) {U : State} (hU : U.heap = H) (hvm : (xs X).vm.Alike U.vm) : eH B U U.heap := by
  rw [h0] at hS
  rw [hU]
  exact ⟨((h.1.kept hS.2.1).narrow hB).moved hvm, ((h.2.kept hS.2.1).narrow hB).moved hvm⟩
theorem gBX_blind {K : gK} {σ : gS} {sz : Nat} {As : List Value} : FrameBlind (va_Pc As (gBX K σ sz)) := by
  intro a U g mk h
  obtain ⟨h1, ⟨h2, h3, h4, h5⟩, h6, h7, h8⟩ := h
  refine ⟨h1, ⟨h2, h3, va_K.moved (u := U) (U := U.calling g mk a) (Vm.Alike.refl U.vm) h4, nws_same (s := U) (U := U.calling g mk a) rfl h5⟩, eV.same (s := U) (U := U.calling g mk a) rfl h6, ?_, ?_⟩
  · exact vx_Zq.moved (u := U) (U := U.calling g mk a) (Vm.Alike.refl U.vm) h7
  · exact vx_Zq.moved (u := U) (U := U.calling g mk a) (Vm.Alike.refl U.vm) h8
theorem gP_up {K : gK} {σ : gS} {H H1 : Heap} (hP : va_P K.1 vwCl (wld K σ) H) (hk : ∀ q : Nat, q < H.size → H1[q]? = H[q]?) : va_P K.1 vwCl (wld K σ) H1 := hP.kept (fun k q hq => hk q.1 (vx_lt hP hq))
theorem CtX.of_aux {l : Launch} {K : gK} {As : List Value} {σ : gS} {Rf : Option Value → gS → Prop} {Tf : String → gS → Prop} {y : MethodName} {ws : List Cond} {rm : Room} {cc : ByteArray} {maxL : Nat} {ret : Option FieldType} {hh : List (Nat × Nat × Nat × Nat)} (hl0 : l.stackTraces = false) (hD : gD K) (hl : (lg_sl As).length ≤ maxL)
    (body : ∀ X : gX, xl X = l → xK X = K → xF X = Rf → gC X maxL cc y.cls ws ret rm → gE X rm hh Tf → G X maxL 0 0 σ (lv_args 0 As) 0 [])
    {sz : Nat} {p : Program} {e : Env} {s : State} {m : MethodId} {args : Array Value} {below : List Frame} {meth : Method} {c : Code} {s₁ : State} (B : BodyLoose p l y (headSpec ws rm) cc maxL ret e s m args below meth c s₁) (hml : c.maxLocals = maxL) (htab : c.exceptionTable.toList = tableOf hh) (hv : va_Pc As (gBX K σ sz) args s) :
    W p l e (headSpec ws rm).room s m args below meth c s.heap [] 0 0 (vx_MQ below (gQ K Rf sz) (gXC K Tf sz) args s rm.cells rm.slots (gR K sz)) (entryFrame m args maxL) := by
  obtain ⟨rfl, ⟨hsz, hP, hK, hN⟩, hV, hH⟩ := hv
  subst hsz
  have hts := atoms_spec (ws := ws) B.pre
  have hown : s.vm.findClass y.cls = some m.cls := findClass_of_methodNamed B.named
  have hlv := lv_entry As (n := maxL) hl
  have b := body (p, l, e, (headSpec ws rm).room, s, m, As.toArray, below, meth, c, vx_MQ below (gQ K Rf s.heap.size) (gXC K Tf s.heap.size) As.toArray s rm.cells rm.slots (gR K s.heap.size), gR K s.heap.size, s.heap, K, Rf) rfl rfl rfl
    ⟨B.exec, B.bytes, hml, hown, hts, hK, hN, hD, fun _ h => h, rfl, B.returns, B.notSynchronized, gQ K Rf s.heap.size, gR K s.heap.size, fun rv σ' H locs t h1 h2 h3 h4 => ⟨⟨rv, σ', rfl, h1, by rw [h4]; exact h2⟩, h3.F h4⟩, fun _ h => h, fun _ _ _ h => vx_ret h⟩
    ⟨rfl, hl0, hV, hH, htab, gQ K Rf s.heap.size, gXC K Tf s.heap.size, gR K s.heap.size, rfl, fun _ h => h, fun E σ' H locs t h1 h2 h3 h4 h5 => ⟨⟨σ', h1, h2⟩, Nat.le_trans h3.1 h4, fun q hq hA => (h5 q (Nat.lt_of_lt_of_le hq h3.1)).trans (h3.2.1 q hq hA)⟩⟩
  rw [lg_entry_eq]
  exact b s.heap [] _ hP va_S.rf hlv
theorem CtX.of {l : Launch} {y : MethodName} {ws ws' : List Cond} {rm : Room} {K : gK} {As : List Value} {σ : gS} {Rf : Option Value → gS → Prop} {Tf : String → gS → Prop} {cc : ByteArray} {maxL : Nat} {ret : Option FieldType} (hl0 : l.stackTraces = false) (hD : gD K) (hy : plainName y.cls = true) (hw : ws = Cond.code y cc maxL ret :: ws') (hl : (lg_sl As).length ≤ maxL)
    (body : ∀ X : gX, xl X = l → xK X = K → xF X = Rf → gC X maxL cc y.cls ws ret rm → gE X rm [] Tf → G X maxL 0 0 σ (lv_args 0 As) 0 []) : CtX l y ws rm K As σ Rf Tf := by
  intro sz
  refine vx_ofW (cc := cc) (maxL := maxL) (ret := ret) hy hw ?_
  intro p e s m args below meth c s₁ B hml htab hv
  refine CtX.of_aux (hh := []) hl0 hD hl body B hml ?_ hv
  cases e : c.exceptionTable.toList with
  | nil => rfl
  | cons a r => exact (htab a (by rw [e]; exact List.mem_cons_self)).elim
theorem CtX.ofH {l : Launch} {y : MethodName} {ws ws' : List Cond} {rm : Room} {K : gK} {As : List Value} {σ : gS} {Rf : Option Value → gS → Prop} {Tf : String → gS → Prop} {cc : ByteArray} {maxL : Nat} {ret : Option FieldType} {hh : List (Nat × Nat × Nat × Nat)} (hl0 : l.stackTraces = false) (hD : gD K) (hy : plainName y.cls = true) (hw : ws = Cond.codeWith y cc maxL ret hh :: ws') (hl : (lg_sl As).length ≤ maxL)
    (body : ∀ X : gX, xl X = l → xK X = K → xF X = Rf → gC X maxL cc y.cls ws ret rm → gE X rm hh Tf → G X maxL 0 0 σ (lv_args 0 As) 0 []) : CtX l y ws rm K As σ Rf Tf := by
  intro sz
  refine vx_ofWH (cc := cc) (maxL := maxL) (ret := ret) hy hw ?_
  intro p e s m args below meth c s₁ B hml hv
  exact CtX.of_aux hl0 hD hl body B hml (vx_table (x := y) B (atoms_spec (ws := ws) B.pre _ (by rw [hw]; exact List.mem_cons_self))) hv
section GXR
variable {X : gX} {nL : Nat} {cc : ByteArray} {own : String} {Ts : List Cond} {ret : Option FieldType} {rm : Room} {hh : List (Nat × Nat × Nat × Nat)} {Tf : String → gS → Prop} {k n : Nat} {σ : gS} {lv : List (Nat × Value)} {pc : Nat} {st : List Value}
/-- not caught: it leaves the method -/
theorem gx_out (C : gC X nL cc own Ts ret rm) (E : gE X rm [] Tf) {Ec : String} (hk : k ≤ rm.cells ∧ n ≤ rm.slots) (h : Tf Ec σ) : GX X nL k n σ lv pc st Ec := by
  obtain ⟨e0, e1, e2, e3, e4, Qc, XC, free, e5, e6, e7⟩ := E
  intro H locs ls q ce hP hS hl h1 h2 h3
  rw [e5]
  exact vx_out (by rw [e4]; intro x hx; cases hx) C.hlocks h1 h2 h3 (fun t ht _ => e7 Ec σ H locs t h (by rw [ht]; exact hP) hS (by rw [ht]; exact Nat.le_refl _) (fun q _ => by rw [ht])) (fun z hz => e6 _ (hS.2.2 z hz)) hk.1 hk.2
/-- caught by a row of the table -/
theorem gx_catch (C : gC X nL cc own Ts ret rm) (E : gE X rm hh Tf) {Ec name : String} (pre : List ExceptionTableEntry) (x : ExceptionTableEntry) (suf : List ExceptionTableEntry) (hsplit : tableOf hh = pre ++ x :: suf)
    (hpass : ∀ z ∈ pre, z.catchType ≠ 0 ∧ ∃ (j : Nat) (nm : String), Ts[j]? = some (.classLink own z.catchType nm) ∧ (Ec, nm) ∈ xns) (hx : covers x pc = true) (h0 : x.catchType ≠ 0) (j : Nat) (hlink : Ts[j]? = some (.classLink own x.catchType name)) (hcast : .castable Ec name ∈ xws)
    (kk : ∀ q : Nat, G X nL k n σ lv x.handlerPc [.ref q]) : GX X nL k n σ lv pc st Ec := by
  obtain ⟨e0, e1, e2, e3, e4, -⟩ := E
  intro H locs ls q ce hP hS hl h1 h2 h3
  refine vx_catch (own := own) (name := name) C.hown pre x suf (e4.trans hsplit) (fun z hz => Or.inr ?_) hx h0 (C.w j hlink) (va_Nw.use (xws_tab _ hcast) (e2.2.2.2.1 _ hcast)) h1 h2 h3 (kk q H locs ls hP hS hl)
  obtain ⟨g1, j9, nm, g2, g3⟩ := hpass z hz
  exact ⟨g1, nm, C.w j9 g2, e2.2.2.2.2 _ g3⟩
/-- 'throw new E("text")' of the class's own three -/
theorem g_throwS (C : gC X nL cc own Ts ret rm) (E : gE X rm [] Tf) {ik is ic : Nat} {cls text : String} (d0 : decode cc pc = .ok (.new ik, 3)) (d3 : decode cc (pc + 3) = .ok (.dup, 1)) (d4 : decode cc (pc + 4) = .ok (.ldc is, 2)) (d6 : decode cc (pc + 6) = .ok (.invokespecial ic, 3)) (d9 : decode cc (pc + 9) = .ok (.athrow, 1))
    (hcls : Bundle.fit cls = true) (j1 : Nat) (hk : Ts[j1]? = some (.classLink own ik cls)) (j2 : Nat) (hini : Ts[j2]? = some (.initialized cls)) (hstr : eV (xs X) → ∃ a, vk_R own is text a (xs X)) (hg : ∀ w ∈ (vx_atS own ic cls xnm).filter goodWord, w ∈ Ts) (hb : ∀ w ∈ (vx_atS own ic cls xnm).filter (fun w => !goodWord w), w ∈ xws)
    (hgood : ∀ w ∈ Cond.classLink own ik cls :: Cond.initialized cls :: vx_atS own ic cls xnm, vx_ot w = true) (hF : 5 < rm.frames ∧ (st.map fun v => v.category).sum + 82 ≤ rm.locals) (hcs : k + 1 ≤ rm.cells ∧ n + 6 ≤ rm.slots) (hT : Tf cls σ) : G X nL k n σ lv pc st := by
  obtain ⟨e0, e1, e2, e3, e4, Qc, XC, free, e5, e6, e7⟩ := E
  intro H locs ls hP hS hl
  obtain ⟨sa, hsa⟩ := hstr e2
  rw [e5]
  have hS2 := hS
  rw [e0] at hS2
  refine vx_throwS (A := xA X) (names := xnm) C.hx C.hb e1 C.hown hcls (by decide) (C.w j1 hk) (C.w j2 hini) hsa (vx_hat (fun w h => C.hts w (hg w h)) hb (fun w h => va_Nw.use (xws_tab w h) (e2.2.2.2.1 w h))) hgood e3.1 e3.2 hS2 (hl.1.trans C.hml.symm) d0 d3 d4 d6 d9 (by rw [e4]; intro x hx; cases hx) (by rw [C.hR]; exact hF.1) (by rw [C.hR]; exact hF.2) (by rw [C.hR]; exact hcs.1) (by rw [C.hR]; exact hcs.2) C.hlocks (fun t ht h1 h2 => e7 cls σ H locs t hT (gP_up hP h2) hS h1 h2) (fun z hz => e6 _ (hS.2.2 z hz)) hcs.1 hcs.2
theorem gx_run (C : gC X nL cc own Ts ret rm) {H : Heap} {locs : List Loc} {ls : Array Slot} {mc ms : Nat} {rest st0 : List Value} {a : Array Value} {Rf : Option Value → gS → Prop} {Ty : String → gS → Prop} (hS : va_S (xA X) (xH X) H locs) (hl : lv_has ls nL lv)
    (hr : vx_Run (xp X) (xl X) (xe X) (xR X) (xs X) (xm X) (xa X) (xb X) (xme X) (xc X) H locs k n mc ms (F0 (xm X) pc ls st0) rest (gQ (xK X) Rf H.size a) (gXC (xK X) Ty H.size) (gR (xK X) H.size))
    (kk : ∀ (rv : Option Value) (σ' : gS), Rf rv σ' → G X nL (k + mc) (n + ms) σ' lv (pc + 3) (rv.toList ++ rest)) (kx : ∀ (Ec : String) (σ' : gS), Ty Ec σ' → GX X nL (k + mc) (n + ms) σ' lv pc rest Ec) : W (xp X) (xl X) (xe X) (xR X) (xs X) (xm X) (xa X) (xb X) (xme X) (xc X) H locs k n (xQ X) (F0 (xm X) pc ls st0) := by
  have hA : ∀ q, gR (xK X) H.size q → xA X q := fun q h => C.hA q (h.elim Or.inl fun h => Or.inr (Nat.le_trans hS.1 h))
  have keep : ∀ {T' : State} {L : List Loc} {st₀ t : State}, st₀.heap = H → T'.heap = t.heap → (∀ q ∈ L, gR (xK X) H.size q.base) → va_F (gR (xK X) H.size) st₀ t → va_S (xA X) (xH X) T'.heap (locs ++ L) := by
    intro T' L st₀ t h0 e1 hL hF
    obtain ⟨hz, hk⟩ := hF
    rw [h0] at hz hk
    exact ⟨Nat.le_trans hS.1 (by rw [e1]; exact hz), fun q h1 h2 => by rw [e1, hk q (Nat.lt_of_lt_of_le h1 hS.1) (fun z => h2 (hA q z))]; exact hS.2.1 q h1 h2, fun q hq => by
      rcases List.mem_append.mp hq with h | h
      · exact hS.2.2 q h
      · exact hA _ (hL q h)⟩
  intro T hT Y
  rcases hr T hT Y with ⟨v, st₀, t, T', L, h0, Y', hL, e1, e2, ⟨⟨rv, σ', hv, hp, hP1⟩, hF⟩, stp⟩ | ⟨q, st₀, t, T', L, Ec, ce, h0, Y', hL, e1, e2, ⟨⟨σ', hp, hP1⟩, hF⟩, hce, hcv, hcl, stp⟩
  · cases hv
    obtain ⟨t2, a1, b1⟩ := kk v σ' hp T'.heap (locs ++ L) ls (by rw [e1]; exact hP1) (keep h0 e1 hL hF) hl T' rfl Y'
    exact ⟨t2, stp t2 a1, b1⟩
  · obtain ⟨t2, a1, b1⟩ := kx Ec σ' hp T'.heap (locs ++ L) ls q ce (by rw [e1]; exact hP1) (keep h0 e1 hL hF) hl (by rw [e1]; exact hce) hcv hcl T' rfl Y'
    exact ⟨t2, stp.trans a1, b1⟩
theorem gC.preX (C : gC X nL cc own Ts ret rm) (E : gE X rm hh Tf) {H : Heap} {locs : List Loc} (hP : va_P (xK X).1 vwCl (wld (xK X) σ) H) (hS : va_S (xA X) (xH X) H locs) {As : List Value} : ∀ U : State, U.heap = H → (xs X).WarmedH U.vm → va_Pc As (gBX (xK X) σ H.size) As.toArray U := fun U hU hW => ⟨rfl, ⟨by rw [hU], by rw [hU]; exact hP, va_K.moved hW.alike C.hK, nws_warm hW C.hN⟩, eV.warm hW E.2.2.1, eH.to E.1 E.2.2.2.1 hS (fun q h => C.hA q (h.elim Or.inl fun h => Or.inr (Nat.le_trans hS.1 h))) hU hW.alike⟩
theorem g_callSX (C : gC X nL cc own Ts ret rm) (E : gE X rm hh Tf) {y : MethodName} {wsy ws' : List Cond} {by_ : ByteArray} {maxL : Nat} {rty : Option FieldType} {rmy : Room} {index : Nat} {As rest : List Value} {Rf : Option Value → gS → Prop} {Ty : String → gS → Prop}
    (hdg : decode cc pc = .ok (.invokestatic index, 3)) (hM : CtX (xl X) y wsy rmy (xK X) As σ Rf Ty) (np : Nat) (hG : GoodIn Ts (va_wsS own index y wsy)) (hw : wsy = Cond.code y by_ maxL rty :: ws')
    (hd : y.cls ≠ "java/lang/invoke/MethodHandle" ∧ y.cls ≠ "java/lang/invoke/VarHandle" ∧ (parseMethodDescriptor y.desc).map (fun d => d.parameters.length) = some np) (hR : rmy.frames + 1 ≤ rm.frames ∧ 8 + (maxL + 11) + rmy.locals ≤ rm.locals) (hcs : k + rmy.cells ≤ rm.cells ∧ n + rmy.slots ≤ rm.slots) (hnp : As.length = np) (hst : st = As.reverse ++ rest) (hcat : (rest.map fun v => v.category).sum ≤ 8)
    (kx : ∀ (Ec : String) (σ' : gS), Ty Ec σ' → GX X nL (k + rmy.cells) (n + rmy.slots) σ' lv pc rest Ec) (kk : ∀ (rv : Option Value) (σ' : gS), Rf rv σ' → G X nL (k + rmy.cells) (n + rmy.slots) σ' lv (pc + 3) (rv.toList ++ rest)) : G X nL k n σ lv pc st := by
  subst hst
  intro H locs ls hP hS hl
  exact gx_run C hS hl (vx_runS (As := As) (rest := rest) ⟨C.hx, C.hb, C.hml, C.hown, C.hts⟩ (hM H.size) (va_cwS np C.hts hG hw rfl rfl hd (by rw [C.hR]; exact hR)) ⟨gBX_blind, C.preX E hP hS⟩ rfl hnp hl.1 rfl (lv_room hcat) hdg (by rw [C.hR]; exact hcs)) kk kx
theorem g_callSH (C : gC X nL cc own Ts ret rm) (E : gE X rm hh Tf) {y : MethodName} {wsy ws' : List Cond} {by_ : ByteArray} {maxL : Nat} {rty : Option FieldType} {hy : List (Nat × Nat × Nat × Nat)} {rmy : Room} {index : Nat} {As rest : List Value} {Rf : Option Value → gS → Prop} {Ty : String → gS → Prop}
    (hdg : decode cc pc = .ok (.invokestatic index, 3)) (hM : CtX (xl X) y wsy rmy (xK X) As σ Rf Ty) (np : Nat) (hG : GoodIn Ts (va_wsS own index y wsy)) (hw : wsy = Cond.codeWith y by_ maxL rty hy :: ws')
    (hd : y.cls ≠ "java/lang/invoke/MethodHandle" ∧ y.cls ≠ "java/lang/invoke/VarHandle" ∧ (parseMethodDescriptor y.desc).map (fun d => d.parameters.length) = some np) (hR : rmy.frames + 1 ≤ rm.frames ∧ 8 + (maxL + 11) + rmy.locals ≤ rm.locals) (hcs : k + rmy.cells ≤ rm.cells ∧ n + rmy.slots ≤ rm.slots) (hnp : As.length = np) (hst : st = As.reverse ++ rest) (hcat : (rest.map fun v => v.category).sum ≤ 8)
    (kx : ∀ (Ec : String) (σ' : gS), Ty Ec σ' → GX X nL (k + rmy.cells) (n + rmy.slots) σ' lv pc rest Ec) (kk : ∀ (rv : Option Value) (σ' : gS), Rf rv σ' → G X nL (k + rmy.cells) (n + rmy.slots) σ' lv (pc + 3) (rv.toList ++ rest)) : G X nL k n σ lv pc st := by
  subst hst
  intro H locs ls hP hS hl
  exact gx_run C hS hl (vx_runSX (As := As) (rest := rest) ⟨C.hx, C.hb, C.hml, C.hown, C.hts⟩ (hM H.size) (vx_cwSW np C.hts hG hw rfl rfl hd (by rw [C.hR]; exact hR)) ⟨gBX_blind, C.preX E hP hS⟩ rfl hnp hl.1 rfl (lv_room hcat) hdg (by rw [C.hR]; exact hcs)) kk kx
theorem g_callVX (C : gC X nL cc own Ts ret rm) (E : gE X rm hh Tf) {y : MethodName} {wsy ws' : List Cond} {by_ : ByteArray} {maxL : Nat} {rty : Option FieldType} {rmy : Room} {index b : Nat} {As rest : List Value} {Rf : Option Value → gS → Prop} {Ty : String → gS → Prop} {Cn : String} {T : u_T} {N ci q0 : Nat} {fs : List Value}
    (hdg : decode cc pc = .ok (.invokevirtual index, 3)) (hM : CtX (xl X) y wsy rmy (xK X) (.ref b :: As) σ Rf Ty) (he : (wld (xK X) σ)[q0]? = some (b, .inr (ci, fs))) (hc : vwCl[ci]? = some (Cn, T, N)) (np : Nat) (hG : GoodIn Ts (wsV own index Cn y wsy)) (hw : wsy = Cond.code y by_ maxL rty :: ws')
    (hd : y.cls = Cn ∧ y.cls ≠ "java/lang/invoke/MethodHandle" ∧ y.cls ≠ "java/lang/invoke/VarHandle" ∧ (parseMethodDescriptor y.desc).map (fun d => d.parameters.length) = some np) (hR : rmy.frames + 1 ≤ rm.frames ∧ 8 + (maxL + 11) + rmy.locals ≤ rm.locals) (hcs : k + rmy.cells ≤ rm.cells ∧ n + rmy.slots ≤ rm.slots) (hnp : As.length = np) (hst : st = As.reverse ++ .ref b :: rest) (hcat : (rest.map fun v => v.category).sum ≤ 8)
    (kx : ∀ (Ec : String) (σ' : gS), Ty Ec σ' → GX X nL (k + rmy.cells) (n + rmy.slots) σ' lv pc rest Ec) (kk : ∀ (rv : Option Value) (σ' : gS), Rf rv σ' → G X nL (k + rmy.cells) (n + rmy.slots) σ' lv (pc + 3) (rv.toList ++ rest)) : G X nL k n σ lv pc st := by
  subst hst
  intro H locs ls hP hS hl
  exact gx_run C hS hl (vx_runV (As := As) (rest := rest) ⟨C.hx, C.hb, C.hml, C.hown, C.hts⟩ (hM H.size) (cwV np C.hts hG hw rfl rfl hd (by rw [C.hR]; exact hR)) ⟨gBX_blind, va_recv C.hK hP hc he, C.preX E hP hS⟩ rfl hnp hl.1 rfl (lv_room hcat) hdg (by rw [C.hR]; exact hcs)) kk kx
end GXR
/-! the three checks -/
theorem xhb_I : ∀ w ∈ (vx_atS RX6 176 eI xnm).filter (fun w => !goodWord w), w ∈ xws := by decide +kernel
theorem xhb_A : ∀ w ∈ (vx_atS RX6 183 eA xnm).filter (fun w => !goodWord w), w ∈ xws := by decide +kernel
theorem xhb_S : ∀ w ∈ (vx_atS RX6 188 eS xnm).filter (fun w => !goodWord w), w ∈ xws := by decide +kernel
theorem xgd_I : ∀ w ∈ Cond.classLink RX6 172 eI :: Cond.initialized eI :: vx_atS RX6 176 eI xnm, vx_ot w = true := by decide +kernel
theorem xgd_A : ∀ w ∈ Cond.classLink RX6 179 eA :: Cond.initialized eA :: vx_atS RX6 183 eA xnm, vx_ot w = true := by decide +kernel
theorem xgd_S : ∀ w ∈ Cond.classLink RX6 184 eS :: Cond.initialized eS :: vx_atS RX6 188 eS xnm, vx_ot w = true := by decide +kernel
set_option maxHeartbeats 4000000 in
set_option maxRecDepth 100000 in
/-- checkIndex(i, b): returns where 0 <= i < b, else IndexOutOfBoundsException -/
theorem kX6_checkIndex (l : Launch) (hl0 : l.stackTraces = false) (K : gK) (hD : gD K) (σ : gS) (i b : Int32) : CtX l yX6_checkIndex wsX6_checkIndex { frames := 6, cells := 1, slots := 6, locals := 82 } K [.int i, .int b] σ (fun r t => r = none ∧ t = σ ∧ ¬ i < 0 ∧ i < b) (fun E t => E = eI ∧ t = σ ∧ ¬ (¬ i < 0 ∧ i < b)) := by
  refine CtX.of hl0 hD (by decide) rfl (Nat.le_of_ble_eq_true rfl) ?_
  intro X hL hK hF C E
  subst hL; subst hK
  refine g_eq (σ2 := σ) (lv2 := [(0, .int i), (1, .int b)]) (st2 := []) rfl rfl rfl ?_
  refine g_iload_n C dX6_checkIndex_0 0 rfl rfl ?_
  have thr : ¬ (¬ i < 0 ∧ i < b) → G X 2 0 0 σ [(0, .int i), (1, .int b)] 9 [] := fun h => g_throwS C E dX6_checkIndex_9 dX6_checkIndex_12 dX6_checkIndex_13 dX6_checkIndex_15 dX6_checkIndex_18 (by decide) 1 rfl 2 rfl (fun h => h.1) (fun w hw => List.mem_cons_of_mem _ (List.mem_append_right _ hw)) xhb_I xgd_I ⟨Nat.le_of_ble_eq_true rfl, Nat.le_of_ble_eq_true rfl⟩ ⟨Nat.le_of_ble_eq_true rfl, Nat.le_of_ble_eq_true rfl⟩ ⟨rfl, rfl, h⟩
  refine g_if_lt (tgt := 9) C dX6_checkIndex_1 (by decide) (fun c => thr (fun h => h.1 c)) (fun c => ?_)
  refine g_iload_n C dX6_checkIndex_4 0 rfl rfl ?_
  refine g_iload_n C dX6_checkIndex_5 1 rfl rfl ?_
  refine g_icmp_lt (tgt := 19) C dX6_checkIndex_6 (by decide) (fun c2 => ?_) (fun c2 => thr (fun h => c2 h.2))
  refine g_vret C dX6_checkIndex_19 rfl ⟨Nat.le_of_ble_eq_true rfl, Nat.le_of_ble_eq_true rfl⟩ ?_
  rw [hF]
  exact ⟨rfl, rfl, c, c2⟩
set_option maxHeartbeats 4000000 in
set_option maxRecDepth 100000 in
/-- checkArgument(b): returns where b holds, else java/lang/IllegalArgumentException -/
theorem kX6_checkArgument (l : Launch) (hl0 : l.stackTraces = false) (K : gK) (hD : gD K) (σ : gS) (b : Bool) : CtX l yX6_checkArgument wsX6_checkArgument { frames := 6, cells := 1, slots := 6, locals := 82 } K [.int (bI b)] σ (fun r t => r = none ∧ t = σ ∧ b = true) (fun E t => E = eA ∧ t = σ ∧ b = false) := by
  refine CtX.of hl0 hD (by decide) rfl (Nat.le_of_ble_eq_true rfl) ?_
  intro X hL hK hF C E
  subst hL; subst hK
  refine g_eq (σ2 := σ) (lv2 := [(0, .int (bI b))]) (st2 := []) rfl rfl rfl ?_
  refine g_iload_n C dX6_checkArgument_0 0 rfl rfl ?_
  refine g_if_ne (tgt := 14) C dX6_checkArgument_1 (by decide) (fun c => ?_) (fun c => ?_)
  · refine g_vret C dX6_checkArgument_14 rfl ⟨Nat.le_of_ble_eq_true rfl, Nat.le_of_ble_eq_true rfl⟩ ?_
    rw [hF]
    refine ⟨rfl, rfl, ?_⟩
    cases b with
    | true => rfl
    | false => exact absurd rfl c
  · exact g_throwS C E dX6_checkArgument_4 dX6_checkArgument_7 dX6_checkArgument_8 dX6_checkArgument_10 dX6_checkArgument_13 (by decide) 1 rfl 2 rfl (fun h => h.2.1) (fun w hw => List.mem_cons_of_mem _ (List.mem_append_right _ hw)) xhb_A xgd_A ⟨Nat.le_of_ble_eq_true rfl, Nat.le_of_ble_eq_true rfl⟩ ⟨Nat.le_of_ble_eq_true rfl, Nat.le_of_ble_eq_true rfl⟩ ⟨rfl, rfl, (bI_ne b).mp c⟩
set_option maxHeartbeats 4000000 in
set_option maxRecDepth 100000 in
/-- checkState(b): returns where b holds, else java/lang/IllegalStateException -/
theorem kX6_checkState (l : Launch) (hl0 : l.stackTraces = false) (K : gK) (hD : gD K) (σ : gS) (b : Bool) : CtX l yX6_checkState wsX6_checkState { frames := 6, cells := 1, slots := 6, locals := 82 } K [.int (bI b)] σ (fun r t => r = none ∧ t = σ ∧ b = true) (fun E t => E = eS ∧ t = σ ∧ b = false) := by
  refine CtX.of hl0 hD (by decide) rfl (Nat.le_of_ble_eq_true rfl) ?_
  intro X hL hK hF C E
  subst hL; subst hK
  refine g_eq (σ2 := σ) (lv2 := [(0, .int (bI b))]) (st2 := []) rfl rfl rfl ?_
  refine g_iload_n C dX6_checkState_0 0 rfl rfl ?_
  refine g_if_ne (tgt := 14) C dX6_checkState_1 (by decide) (fun c => ?_) (fun c => ?_)
  · refine g_vret C dX6_checkState_14 rfl ⟨Nat.le_of_ble_eq_true rfl, Nat.le_of_ble_eq_true rfl⟩ ?_
    rw [hF]
    refine ⟨rfl, rfl, ?_⟩
    cases b with
    | true => rfl
    | false => exact absurd rfl c
  · exact g_throwS C E dX6_checkState_4 dX6_checkState_7 dX6_checkState_8 dX6_checkState_10 dX6_checkState_13 (by decide) 1 rfl 2 rfl (fun h => h.2.2.1) (fun w hw => List.mem_cons_of_mem _ (List.mem_append_right _ hw)) xhb_S xgd_S ⟨Nat.le_of_ble_eq_true rfl, Nat.le_of_ble_eq_true rfl⟩ ⟨Nat.le_of_ble_eq_true rfl, Nat.le_of_ble_eq_true rfl⟩ ⟨rfl, rfl, (bI_ne b).mp c⟩
