/-! constructors: the leaves -/
theorem RA_one {U : State} {a b : ClassId} {ty : FieldType} (h : ∀ C, ty ≠ .object C) (h1 : va_RA U a ty) (h2 : va_RA U b ty) : a = b := by
  cases ty with
  | object C => exact absurd rfl (h C)
  | _ => exact Option.some.inj (h1.symm.trans h2)
def tyI (ids : Nat → ClassId) : List (ClassId × FieldType) := [(ids 0, .double), (ids 1, .int), (ids 2, .boolean), (ids 3, .array .int), (ids 4, .long)]
theorem tyI_one {D : va_G} {ids : Nat → ClassId} {s : State} {cA : ClassId} {ty : FieldType} (k : Nat) (hk : (tyI ids)[k]? = some (ids k, ty)) (h : ∀ C, ty ≠ .object C) (hK : va_K D vwCl (tyI ids ++ [(cA, ty)]) s) : cA = ids k ∧ va_K D vwCl (tyI ids) s := by
  have h1 := (hK.2 k (ids k, ty) (by rw [List.getElem?_append_left (by exact (List.getElem?_eq_some_iff.mp hk).1)]; exact hk)).2
  have h2 := (hK.2 5 (cA, ty) rfl).2
  exact ⟨RA_one h h2 h1, hK.sub [0, 1, 2, 3, 4] rfl⟩

theorem inX2_init : ∀ w ∈ u_ws RX2 TX2 3, w ∈ wsX2_init := by decide +kernel
def at_X2 (dC : Nat → ClassId) (dI : Nat → Nat → Nat) (ids : Nat → ClassId) (A : Nat → Prop) (h0 : Nat) (_ : Unit) (t : State) : Prop := va_P (dC, dI) vwCl [(h0, .inr (2, [.double 4634204016564240384, .double 4598175219545276416, .double FP.dconst0]))] t.heap ∧ va_K (dC, dI) vwCl (tyI ids) t ∧ va_D A [(h0, .inr (2, [.double 4634204016564240384, .double 4598175219545276416, .double FP.dconst0]))]
set_option maxHeartbeats 4000000 in
set_option maxRecDepth 100000 in
theorem c_X2_init (l : Launch) (dC : Nat → ClassId) (dI : Nat → Nat → Nat) (ids : Nat → ClassId) (h0 sz : Nat) : Met l yX2_init wsX2_init { frames := 1, cells := 0, slots := 0, locals := 12 } (va_Pc [.ref h0] (fun U => U.heap.size = sz ∧ va_P (dC, dI) vwCl [(h0, .inr (2, [.double 0, .double 0, .double 0]))] U.heap ∧ va_K (dC, dI) vwCl (tyI ids) U ∧ va_D (fun _ => True) [(h0, .inr (2, [.double 0, .double 0, .double 0]))])) (va_Qv (fun _ : Unit => True) (at_X2 dC dI ids (va_A [(h0, .inr (2, [.double 0, .double 0, .double 0]))] sz) h0) (va_A [(h0, .inr (2, [.double 0, .double 0, .double 0]))] sz)) 0 0 (va_A [(h0, .inr (2, [.double 0, .double 0, .double 0]))] sz) := by
  refine Met.ofW (cc := cX2_init) (maxL := 1) (ret := none) (by decide) rfl ?_
  intro p e s m args below meth c s₁ B hml hv
  obtain ⟨rfl, hsz, hP, hK, hD0⟩ := hv
  have hx := B.exec
  have hb := B.bytes
  have hr := B.returns
  have hts := atoms_spec (ws := wsX2_init) B.pre
  have hown : s.vm.findClass RX2 = some m.cls := findClass_of_methodNamed B.named
  have hlocks := B.notSynchronized
  have hin : meth.name = "<init>" := (name_of_methodNamed B.named B.method).1
  subst hsz
  have hD := hD0.self (sz := s.heap.size)
  generalize hAe : va_A [(h0, .inr (2, [.double 0, .double 0, .double 0]))] s.heap.size = A at hD ⊢
  have hA : ∀ q : Nat, s.heap.size ≤ q → A q := fun q h => by rw [← hAe]; exact Or.inr h
  have hS : va_S A s.heap s.heap [] := va_S.rf
  have hP : va_P (dC, dI) vwCl [(h0, .inr (2, [.double 0, .double 0, .double 0]))] s.heap := hP
  have hl := lv_entry ([.ref h0]) (n := 1) (Nat.le_of_ble_eq_true rfl)
  rw [lg_entry_eq]
  generalize (lg_sl ([.ref h0]) ++ List.replicate (1 - (lg_sl ([.ref h0])).length) Slot.unset).toArray = ls at hl ⊢
  have hl : lv_has ls 1 [(0, .ref h0)] := hl
  refine lv_aload_n hx hb dX2_init_0 rfl (lv_at hl 0 rfl) ?_
  refine W.objInit hx hb hown (hts _ (List.mem_of_getElem? (i := 1) rfl)) (hts _ (List.mem_of_getElem? (i := 2) rfl)) (hts _ (List.mem_of_getElem? (i := 3) rfl)) rfl (by rw [hml]; exact hl.1) rfl dX2_init_1 (Nat.le_of_ble_eq_true rfl) (Nat.le_of_ble_eq_true rfl) ?_
  refine W.eq (g2 := F0 m 4 ls []) rfl ?_
  refine lv_aload_n hx hb dX2_init_4 rfl (lv_at hl 0 rfl) ?_
  refine lv_ldc2d hx hb hown (hts _ (List.mem_of_getElem? (i := 4) rfl)) dX2_init_5 ?_
  refine va_put (D := (dC, dI)) (ci := 2) (v := .double 4634204016564240384) (ty := .double) (C := RX2) (T := TX2) (N := 3) hx hb hts inX2_init tyX2 tyX2_ok nmX2 hown hK hP hD hS 0 rfl rfl 0 (by decide) (hts _ (List.mem_of_getElem? (i := 5) rfl)) (fun _ h9 => h9) rfl (by decide +kernel) rfl rfl (Nat.le_of_ble_eq_true rfl) dX2_init_8 (fun H locs hP hD hS => ?_)
  have hP : va_P (dC, dI) vwCl [(h0, .inr (2, [.double 4634204016564240384, .double 0, .double 0]))] H := hP
  have hD : va_D A [(h0, .inr (2, [.double 4634204016564240384, .double 0, .double 0]))] := hD
  refine lv_aload_n hx hb dX2_init_11 rfl (lv_at hl 0 rfl) ?_
  refine lv_ldc2d hx hb hown (hts _ (List.mem_of_getElem? (i := 6) rfl)) dX2_init_12 ?_
  refine va_put (D := (dC, dI)) (ci := 2) (v := .double 4598175219545276416) (ty := .double) (C := RX2) (T := TX2) (N := 3) hx hb hts inX2_init tyX2 tyX2_ok nmX2 hown hK hP hD hS 0 rfl rfl 1 (by decide) (hts _ (List.mem_of_getElem? (i := 7) rfl)) (fun _ h9 => h9) rfl (by decide +kernel) rfl rfl (Nat.le_of_ble_eq_true rfl) dX2_init_15 (fun H locs hP hD hS => ?_)
  have hP : va_P (dC, dI) vwCl [(h0, .inr (2, [.double 4634204016564240384, .double 4598175219545276416, .double 0]))] H := hP
  have hD : va_D A [(h0, .inr (2, [.double 4634204016564240384, .double 4598175219545276416, .double 0]))] := hD
  refine lv_aload_n hx hb dX2_init_18 rfl (lv_at hl 0 rfl) ?_
  refine lv_dconst0 hx hb dX2_init_19 ?_
  refine va_put (D := (dC, dI)) (ci := 2) (v := .double FP.dconst0) (ty := .double) (C := RX2) (T := TX2) (N := 3) hx hb hts inX2_init tyX2 tyX2_ok nmX2 hown hK hP hD hS 0 rfl rfl 2 (by decide) (hts _ (List.mem_of_getElem? (i := 8) rfl)) (fun _ h9 => h9) rfl (by decide +kernel) rfl rfl (Nat.le_of_ble_eq_true rfl) dX2_init_20 (fun H locs hP hD hS => ?_)
  have hP : va_P (dC, dI) vwCl [(h0, .inr (2, [.double 4634204016564240384, .double 4598175219545276416, .double FP.dconst0]))] H := hP
  have hD : va_D A [(h0, .inr (2, [.double 4634204016564240384, .double 4598175219545276416, .double FP.dconst0]))] := hD
  exact W.vret hx hb hr (fun t ht hW => ⟨⟨(), rfl, trivial, by rw [ht]; exact hP, va_K.moved hW.alike hK, hD⟩, hS.F ht⟩) hS.2.2 dX2_init_23

theorem inX3_init : ∀ w ∈ u_ws RX3 TX3 3, w ∈ wsX3_init := by decide +kernel
def at_X3 (dC : Nat → ClassId) (dI : Nat → Nat → Nat) (ids : Nat → ClassId) (A : Nat → Prop) (h0 : Nat) (_ : Unit) (t : State) : Prop := ∃ q0 : Nat, ∃ q1 : Nat, ∃ q2 : Nat, va_P (dC, dI) vwCl [(h0, .inr (3, [.ref q0, .ref q1, .ref q2])), (q0, .inl (ids 0, 16, .inr (.inr (.inr (.inl (fun _ => FP.dconst0)))))), (q1, .inl (ids 0, 16, .inr (.inr (.inr (.inl (fun _ => FP.dconst0)))))), (q2, .inl (ids 2, 16, .inl (fun _ => 0)))] t.heap ∧ va_K (dC, dI) vwCl (tyI ids) t ∧ va_D A [(h0, .inr (3, [.ref q0, .ref q1, .ref q2])), (q0, .inl (ids 0, 16, .inr (.inr (.inr (.inl (fun _ => FP.dconst0)))))), (q1, .inl (ids 0, 16, .inr (.inr (.inr (.inl (fun _ => FP.dconst0)))))), (q2, .inl (ids 2, 16, .inl (fun _ => 0)))]
set_option maxHeartbeats 4000000 in
set_option maxRecDepth 100000 in
theorem c_X3_init (l : Launch) (dC : Nat → ClassId) (dI : Nat → Nat → Nat) (ids : Nat → ClassId) (h0 sz : Nat) : Met l yX3_init wsX3_init { frames := 1, cells := 3, slots := 48, locals := 12 } (va_Pc [.ref h0] (fun U => U.heap.size = sz ∧ va_P (dC, dI) vwCl [(h0, .inr (3, [.null, .null, .null]))] U.heap ∧ va_K (dC, dI) vwCl (tyI ids) U ∧ va_D (fun _ => True) [(h0, .inr (3, [.null, .null, .null]))])) (va_Qv (fun _ : Unit => True) (at_X3 dC dI ids (va_A [(h0, .inr (3, [.null, .null, .null]))] sz) h0) (va_A [(h0, .inr (3, [.null, .null, .null]))] sz)) 3 48 (va_A [(h0, .inr (3, [.null, .null, .null]))] sz) := by
  refine Met.ofW (cc := cX3_init) (maxL := 1) (ret := none) (by decide) rfl ?_
  intro p e s m args below meth c s₁ B hml hv
  obtain ⟨rfl, hsz, hP, hK, hD0⟩ := hv
  have hx := B.exec
  have hb := B.bytes
  have hr := B.returns
  have hts := atoms_spec (ws := wsX3_init) B.pre
  have hown : s.vm.findClass RX3 = some m.cls := findClass_of_methodNamed B.named
  have hlocks := B.notSynchronized
  have hin : meth.name = "<init>" := (name_of_methodNamed B.named B.method).1
  subst hsz
  have hD := hD0.self (sz := s.heap.size)
  generalize hAe : va_A [(h0, .inr (3, [.null, .null, .null]))] s.heap.size = A at hD ⊢
  have hA : ∀ q : Nat, s.heap.size ≤ q → A q := fun q h => by rw [← hAe]; exact Or.inr h
  have hS : va_S A s.heap s.heap [] := va_S.rf
  have hP : va_P (dC, dI) vwCl [(h0, .inr (3, [.null, .null, .null]))] s.heap := hP
  have hl := lv_entry ([.ref h0]) (n := 1) (Nat.le_of_ble_eq_true rfl)
  rw [lg_entry_eq]
  generalize (lg_sl ([.ref h0]) ++ List.replicate (1 - (lg_sl ([.ref h0])).length) Slot.unset).toArray = ls at hl ⊢
  have hl : lv_has ls 1 [(0, .ref h0)] := hl
  refine lv_aload_n hx hb dX3_init_0 rfl (lv_at hl 0 rfl) ?_
  refine W.objInit hx hb hown (hts _ (List.mem_of_getElem? (i := 1) rfl)) (hts _ (List.mem_of_getElem? (i := 2) rfl)) (hts _ (List.mem_of_getElem? (i := 3) rfl)) rfl (by rw [hml]; exact hl.1) rfl dX3_init_1 (Nat.le_of_ble_eq_true rfl) (Nat.le_of_ble_eq_true rfl) ?_
  refine W.eq (g2 := F0 m 4 ls []) rfl ?_
  refine lv_aload_n hx hb dX3_init_4 rfl (lv_at hl 0 rfl) ?_
  refine lv_bipush (v := 16) hx hb dX3_init_5 (by decide +kernel) ?_
  refine va_newa (atype := .double) (a0 := (16, .inr (.inr (.inr (.inl (fun _ => FP.dconst0)))))) hx hb (hts _ (List.mem_of_getElem? (i := 4) rfl)) rfl hK hP hD hS hA (fun _ => rfl) (by decide) (by decide) (Nat.le_of_ble_eq_true rfl) (Nat.le_of_ble_eq_true rfl) (Nat.le_of_ble_eq_true rfl) dX3_init_7 (fun q0 cA H hK hP hD hS => ?_)
  obtain ⟨ec, hK⟩ := tyI_one 0 rfl (by intro C h; cases h) hK
  rw [ec] at hP hD
  have hP : va_P (dC, dI) vwCl [(h0, .inr (3, [.null, .null, .null])), (q0, .inl (ids 0, 16, .inr (.inr (.inr (.inl (fun _ => FP.dconst0))))))] H := hP
  have hD : va_D A [(h0, .inr (3, [.null, .null, .null])), (q0, .inl (ids 0, 16, .inr (.inr (.inr (.inl (fun _ => FP.dconst0))))))] := hD
  refine va_putF (D := (dC, dI)) (ci := 3) (v := .ref q0) (ty := (.array .double)) (C := RX3) (T := TX3) (N := 3) hx hb hts inX3_init tyX3 tyX3_ok nmX3 hown hK hP hD hS 0 rfl rfl 0 (by decide) (hts _ (List.mem_of_getElem? (i := 5) rfl)) (fun _ h9 => h9) rfl hin rfl (by decide +kernel) rfl rfl (Nat.le_of_ble_eq_true rfl) dX3_init_9 (fun H locs hP hD hS => ?_)
  have hP : va_P (dC, dI) vwCl [(h0, .inr (3, [.ref q0, .null, .null])), (q0, .inl (ids 0, 16, .inr (.inr (.inr (.inl (fun _ => FP.dconst0))))))] H := hP
  have hD : va_D A [(h0, .inr (3, [.ref q0, .null, .null])), (q0, .inl (ids 0, 16, .inr (.inr (.inr (.inl (fun _ => FP.dconst0))))))] := hD
  refine lv_aload_n hx hb dX3_init_12 rfl (lv_at hl 0 rfl) ?_
  refine lv_bipush (v := 16) hx hb dX3_init_13 (by decide +kernel) ?_
  refine va_newa (atype := .double) (a0 := (16, .inr (.inr (.inr (.inl (fun _ => FP.dconst0)))))) hx hb (hts _ (List.mem_of_getElem? (i := 4) rfl)) rfl hK hP hD hS hA (fun _ => rfl) (by decide) (by decide) (Nat.le_of_ble_eq_true rfl) (Nat.le_of_ble_eq_true rfl) (Nat.le_of_ble_eq_true rfl) dX3_init_15 (fun q1 cA H hK hP hD hS => ?_)
  obtain ⟨ec, hK⟩ := tyI_one 0 rfl (by intro C h; cases h) hK
  rw [ec] at hP hD
  have hP : va_P (dC, dI) vwCl [(h0, .inr (3, [.ref q0, .null, .null])), (q0, .inl (ids 0, 16, .inr (.inr (.inr (.inl (fun _ => FP.dconst0)))))), (q1, .inl (ids 0, 16, .inr (.inr (.inr (.inl (fun _ => FP.dconst0))))))] H := hP
  have hD : va_D A [(h0, .inr (3, [.ref q0, .null, .null])), (q0, .inl (ids 0, 16, .inr (.inr (.inr (.inl (fun _ => FP.dconst0)))))), (q1, .inl (ids 0, 16, .inr (.inr (.inr (.inl (fun _ => FP.dconst0))))))] := hD
  refine va_putF (D := (dC, dI)) (ci := 3) (v := .ref q1) (ty := (.array .double)) (C := RX3) (T := TX3) (N := 3) hx hb hts inX3_init tyX3 tyX3_ok nmX3 hown hK hP hD hS 0 rfl rfl 1 (by decide) (hts _ (List.mem_of_getElem? (i := 6) rfl)) (fun _ h9 => h9) rfl hin rfl (by decide +kernel) rfl rfl (Nat.le_of_ble_eq_true rfl) dX3_init_17 (fun H locs hP hD hS => ?_)
  have hP : va_P (dC, dI) vwCl [(h0, .inr (3, [.ref q0, .ref q1, .null])), (q0, .inl (ids 0, 16, .inr (.inr (.inr (.inl (fun _ => FP.dconst0)))))), (q1, .inl (ids 0, 16, .inr (.inr (.inr (.inl (fun _ => FP.dconst0))))))] H := hP
  have hD : va_D A [(h0, .inr (3, [.ref q0, .ref q1, .null])), (q0, .inl (ids 0, 16, .inr (.inr (.inr (.inl (fun _ => FP.dconst0)))))), (q1, .inl (ids 0, 16, .inr (.inr (.inr (.inl (fun _ => FP.dconst0))))))] := hD
  refine lv_aload_n hx hb dX3_init_20 rfl (lv_at hl 0 rfl) ?_
  refine lv_bipush (v := 16) hx hb dX3_init_21 (by decide +kernel) ?_
  refine va_newa (atype := .boolean) (a0 := (16, .inl (fun _ => 0))) hx hb (hts _ (List.mem_of_getElem? (i := 7) rfl)) rfl hK hP hD hS hA (fun _ => rfl) (by decide) (by decide) (Nat.le_of_ble_eq_true rfl) (Nat.le_of_ble_eq_true rfl) (Nat.le_of_ble_eq_true rfl) dX3_init_23 (fun q2 cA H hK hP hD hS => ?_)
  obtain ⟨ec, hK⟩ := tyI_one 2 rfl (by intro C h; cases h) hK
  rw [ec] at hP hD
  have hP : va_P (dC, dI) vwCl [(h0, .inr (3, [.ref q0, .ref q1, .null])), (q0, .inl (ids 0, 16, .inr (.inr (.inr (.inl (fun _ => FP.dconst0)))))), (q1, .inl (ids 0, 16, .inr (.inr (.inr (.inl (fun _ => FP.dconst0)))))), (q2, .inl (ids 2, 16, .inl (fun _ => 0)))] H := hP
  have hD : va_D A [(h0, .inr (3, [.ref q0, .ref q1, .null])), (q0, .inl (ids 0, 16, .inr (.inr (.inr (.inl (fun _ => FP.dconst0)))))), (q1, .inl (ids 0, 16, .inr (.inr (.inr (.inl (fun _ => FP.dconst0)))))), (q2, .inl (ids 2, 16, .inl (fun _ => 0)))] := hD
  refine va_putF (D := (dC, dI)) (ci := 3) (v := .ref q2) (ty := (.array .boolean)) (C := RX3) (T := TX3) (N := 3) hx hb hts inX3_init tyX3 tyX3_ok nmX3 hown hK hP hD hS 0 rfl rfl 2 (by decide) (hts _ (List.mem_of_getElem? (i := 8) rfl)) (fun _ h9 => h9) rfl hin rfl (by decide +kernel) rfl rfl (Nat.le_of_ble_eq_true rfl) dX3_init_25 (fun H locs hP hD hS => ?_)
  have hP : va_P (dC, dI) vwCl [(h0, .inr (3, [.ref q0, .ref q1, .ref q2])), (q0, .inl (ids 0, 16, .inr (.inr (.inr (.inl (fun _ => FP.dconst0)))))), (q1, .inl (ids 0, 16, .inr (.inr (.inr (.inl (fun _ => FP.dconst0)))))), (q2, .inl (ids 2, 16, .inl (fun _ => 0)))] H := hP
  have hD : va_D A [(h0, .inr (3, [.ref q0, .ref q1, .ref q2])), (q0, .inl (ids 0, 16, .inr (.inr (.inr (.inl (fun _ => FP.dconst0)))))), (q1, .inl (ids 0, 16, .inr (.inr (.inr (.inl (fun _ => FP.dconst0)))))), (q2, .inl (ids 2, 16, .inl (fun _ => 0)))] := hD
  exact W.vret hx hb hr (fun t ht hW => ⟨⟨(), rfl, trivial, q0, q1, q2, by rw [ht]; exact hP, va_K.moved hW.alike hK, hD⟩, hS.F ht⟩) hS.2.2 dX3_init_28
