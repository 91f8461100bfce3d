/-! the class of arrays over arrays stays where classes stay alike -/
theorem kinds_alike {v w : Vm} (h : v.Alike w) : w.classes.map (fun k => k.kind) = v.classes.map (fun k => k.kind) := by
  apply Array.ext_getElem?
  intro i
  rw [Array.getElem?_map, Array.getElem?_map]
  cases e : v.classes[i]? with
  | some k =>
    obtain ⟨k', h1, h2⟩ := h.2.2 i k e
    rw [h1, h2]
    rfl
  | none =>
    have h1 : v.classes.size ≤ i := Array.getElem?_eq_none_iff.mp e
    have h2 : w.classes[i]? = none := Array.getElem?_eq_none_iff.mpr (by rw [h.2.1]; exact h1)
    rw [h2]
theorem findK_alike {v w : Vm} (h : v.Alike w) (P : Kind → Bool) : w.classes.findIdx? (fun k => P k.kind) = v.classes.findIdx? (fun k => P k.kind) := by
  have h1 := Array.findIdx?_map (f := fun k : Class => k.kind) (xs := w.classes) (p := P)
  have h2 := Array.findIdx?_map (f := fun k : Class => k.kind) (xs := v.classes) (p := P)
  rw [kinds_alike h] at h1
  exact h1.symm.trans h2
theorem va_AOA.alike {t : FieldType} {u U : State} (hv : u.vm.Alike U.vm) (h : va_AOA t u) : va_AOA t U := by
  intro a
  have h0 := h a
  have hf : ∀ n : String, U.vm.findClass n = u.vm.findClass n := fun n => hv.findClass n none
  have e : (Cond.arrayOver (.array t)).before a U = (Cond.arrayOver (.array t)).before a u := by
    show (((U.vm.findClass (FieldType.array t).toString).bind fun comp => (U.vm.classes.findIdx? fun (x : Class) => match x.kind with | .array component _ => component == comp | _ => false).bind fun c => (U.vm.classes[c]?).map fun (k : Class) => match k.kind with
      | .array _ ty => decide (ty = .array t) && decide (U.vm.findClass ("[" ++ (FieldType.array t).toString) = some c)
      | _ => false) == some true) = (((u.vm.findClass (FieldType.array t).toString).bind fun comp => (u.vm.classes.findIdx? fun (x : Class) => match x.kind with | .array component _ => component == comp | _ => false).bind fun c => (u.vm.classes[c]?).map fun (k : Class) => match k.kind with
      | .array _ ty => decide (ty = .array t) && decide (u.vm.findClass ("[" ++ (FieldType.array t).toString) = some c)
      | _ => false) == some true)
    rw [hf, hf]
    refine congrArg (fun z : Option Bool => z == some true) ?_
    cases u.vm.findClass (FieldType.array t).toString with
    | none => rfl
    | some comp =>
      show Option.bind (U.vm.classes.findIdx? _) _ = Option.bind (u.vm.classes.findIdx? _) _
      rw [findK_alike hv (fun k => match k with | .array component _ => component == comp | _ => false)]
      cases u.vm.classes.findIdx? (fun (x : Class) => match x.kind with | .array component _ => component == comp | _ => false) with
      | none => rfl
      | some c =>
        show Option.map _ U.vm.classes[c]? = Option.map _ u.vm.classes[c]?
        have hk := congrArg (fun z => z[c]?) (kinds_alike hv)
        simp only [Array.getElem?_map] at hk
        cases e1 : U.vm.classes[c]? with
        | none =>
          rw [e1] at hk
          cases e2 : u.vm.classes[c]? with
          | none => rfl
          | some k2 => rw [e2] at hk; cases hk
        | some k1 =>
          rw [e1] at hk
          cases e2 : u.vm.classes[c]? with
          | none => rw [e2] at hk; cases hk
          | some k2 =>
            rw [e2] at hk
            have hk : k1.kind = k2.kind := Option.some.inj hk
            dsimp only [Option.map_some]
            rw [hk]
  rw [e]
  exact h0
