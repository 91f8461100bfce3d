/-! the start: what the Statement's words give -/
theorem tb_at {s : State} {b : Nat} (hts : ∀ w ∈ lw_tbl, w.before #[Value.ref b] s = true) (i : Nat) {w : Cond} (h : tables_1[i]? = some w) : w.before #[Value.ref b] s = true := hts w (List.mem_append_right (k2_sels lw_privs) (List.mem_of_getElem? h))
theorem st_nws {s : State} {b : Nat} (hts : ∀ w ∈ lw_tbl, w.before #[Value.ref b] s = true) : ∀ w ∈ nws, va_Nw w s := by
  intro w hw
  simp only [nws, List.mem_cons, List.not_mem_nil, or_false] at hw
  rcases hw with rfl | rfl | rfl | rfl
  · exact va_Nw.of rfl (tb_at hts 431 (by decide +kernel))
  · exact va_Nw.of rfl (tb_at hts 438 (by decide +kernel))
  · exact va_Nw.of rfl (tb_at hts 551 (by decide +kernel))
  · exact va_Nw.of rfl (tb_at hts 553 (by decide +kernel))
theorem st_nwI {s : State} {b : Nat} (hts : ∀ w ∈ lw_tbl, w.before #[Value.ref b] s = true) : ∀ w ∈ nwI, va_Nw w s := by
  intro w hw
  simp only [nwI, List.mem_cons, List.not_mem_nil, or_false] at hw
  rcases hw with rfl | rfl | rfl | rfl | rfl | rfl
  · exact va_Nw.of rfl (tb_at hts 31 (by decide +kernel))
  · exact va_Nw.of rfl (tb_at hts 75 (by decide +kernel))
  · exact va_Nw.of rfl (tb_at hts 108 (by decide +kernel))
  · exact va_Nw.of rfl (tb_at hts 25 (by decide +kernel))
  · exact va_Nw.of rfl (tb_at hts 149 (by decide +kernel))
  · exact va_Nw.of rfl (tb_at hts 168 (by decide +kernel))
theorem st_aoa {s : State} {b : Nat} (hts : ∀ w ∈ lw_tbl, w.before #[Value.ref b] s = true) : va_AOA .int s := fun _ => tb_at hts 36 (w := .arrayOver (.array .int)) (by decide +kernel)
theorem st_arr {s : State} {A : Array Value} {ty : FieldType} (hne : ∀ C, ty ≠ .object C) (h : (Cond.arrayClass ty).before A s = true) : ∃ c, ArrOfT s c ty ∧ va_RA s c ty := by
  obtain ⟨c, k, comp, h1, h2, h3⟩ := Cond.arrayClass_spec h
  refine ⟨c, fun n z => ⟨fun q hq => (by cases hq), k, h2, comp, h3⟩, ?_⟩
  cases ty with
  | object C => exact absurd rfl (hne C)
  | _ => exact h1
theorem st_arr2 {s : State} {A : Array Value} {ty : FieldType} (h : (Cond.arrayOver (.array ty)).before A s = true) : ∃ c, ArrOfT s c (.array ty) ∧ va_RA s c (.array ty) := by
  have h : (((s.vm.findClass (FieldType.array ty).toString).bind fun comp => (s.vm.classes.findIdx? fun (x : Class) => match x.kind with | .array component _ => component == comp | _ => false).bind fun c => (s.vm.classes[c]?).map fun (k : Class) => match k.kind with
      | .array _ t => decide (t = .array ty) && decide (s.vm.findClass ("[" ++ (FieldType.array ty).toString) = some c)
      | _ => false) == some true) = true := h
  rw [beq_iff_eq, Option.bind_eq_some_iff] at h
  obtain ⟨comp, -, h⟩ := h
  rw [Option.bind_eq_some_iff] at h
  obtain ⟨c, -, h⟩ := h
  rw [Option.map_eq_some_iff] at h
  obtain ⟨k, hk, h⟩ := h
  cases e : k.kind with
  | array cm t =>
    rw [e] at h
    dsimp only at h
    rw [Bool.and_eq_true, decide_eq_true_eq, decide_eq_true_eq] at h
    obtain ⟨rfl, h5⟩ := h
    exact ⟨c, fun n z => ⟨fun q hq => (by cases hq), k, hk, cm, e⟩, h5⟩
  | _ =>
    rw [e] at h
    cases h
theorem st_K {s : State} {b : Nat} (hts : ∀ w ∈ lw_tbl, w.before #[Value.ref b] s = true) : ∃ (dC : Nat → ClassId) (dI : Nat → Nat → Nat) (ids : Nat → ClassId), va_K (dC, dI) vwCl (tyI ids) s := by
  obtain ⟨c0, i0, h0⟩ := u_known (C := RX0) (T := TX0) (N := 5) (n := 5) hts inX0 (tb_at hts 24 (by decide +kernel))
  obtain ⟨c1, i1, h1⟩ := u_known (C := RX1) (T := TX1) (N := 8) (n := 8) hts inX1 (tb_at hts 30 (by decide +kernel))
  obtain ⟨c2, i2, h2⟩ := u_known (C := RX2) (T := TX2) (N := 3) (n := 3) hts inX2 (tb_at hts 107 (by decide +kernel))
  obtain ⟨c3, i3, h3⟩ := u_known (C := RX3) (T := TX3) (N := 3) (n := 3) hts inX3 (tb_at hts 148 (by decide +kernel))
  obtain ⟨c4, i4, h4⟩ := u_known (C := RX4) (T := TX4) (N := 6) (n := 6) hts inX4 (tb_at hts 74 (by decide +kernel))
  obtain ⟨c5, i5, h5⟩ := u_known (C := RX5) (T := TX5) (N := 4) (n := 4) hts inX5 (tb_at hts 167 (by decide +kernel))
  obtain ⟨c6, i6, h6⟩ := u_known (C := RX6) (T := TX6) (N := 7) (n := 7) hts inX6 (tb_at hts 16 (by decide +kernel))
  obtain ⟨c7, i7, h7⟩ := u_known (C := RX7) (T := TX7) (N := 24) (n := 24) hts inX7 (tb_at hts 566 (by decide +kernel))
  obtain ⟨a0, g0⟩ := st_arr (ty := .double) (by intro C h; cases h) (tb_at hts 72 (by decide +kernel))
  obtain ⟨a1, g1⟩ := st_arr (ty := .int) (by intro C h; cases h) (tb_at hts 71 (by decide +kernel))
  obtain ⟨a2, g2⟩ := st_arr (ty := .boolean) (by intro C h; cases h) (tb_at hts 105 (by decide +kernel))
  obtain ⟨a3, g3⟩ := st_arr2 (ty := .int) (tb_at hts 36 (by decide +kernel))
  obtain ⟨a4, g4⟩ := st_arr (ty := .long) (by intro C h; cases h) (tb_at hts 786 (by decide +kernel))
  refine ⟨fun k => [c0, c1, c2, c3, c4, c5, c6, c7].getD k c0, fun k => [i0, i1, i2, i3, i4, i5, i6, i7].getD k i0, fun k => [a0, a1, a2, a3, a4].getD k a0, fun k q hq => ?_, fun k q hq => ?_⟩
  · match k, hq with
    | 0, hq => cases hq; exact h0
    | 1, hq => cases hq; exact h1
    | 2, hq => cases hq; exact h2
    | 3, hq => cases hq; exact h3
    | 4, hq => cases hq; exact h4
    | 5, hq => cases hq; exact h5
    | 6, hq => cases hq; exact h6
    | 7, hq => cases hq; exact h7
    | k + 8, hq => simp [vwCl] at hq
  · match k, hq with
    | 0, hq => cases hq; exact g0
    | 1, hq => cases hq; exact g1
    | 2, hq => cases hq; exact g2
    | 3, hq => cases hq; exact g3
    | 4, hq => cases hq; exact g4
    | k + 5, hq => simp [tyI] at hq
theorem st_str {s : State} {A : Array Value} {own tx : String} {k : Nat} (h : (Cond.stringRef own k tx).before A s = true) : ∃ a, vk_R own k tx a s := by
  have hcur : ∃ cur, s.vm.findClass own = some cur := by
    have h1 := h
    simp only [Cond.before, Cond.holds, Cond.value] at h1
    cases hc : s.vm.findClass own with
    | none => simp [hc] at h1
    | some cur => exact ⟨cur, rfl⟩
  obtain ⟨cur, hcur⟩ := hcur
  obtain ⟨-, -, -, a, -, -, -, -, -, hev⟩ := Cond.stringRef_spec hcur h
  exact ⟨a, vk_R.of h hev⟩
theorem st_eV {s : State} {b : Nat} (hts : ∀ w ∈ lw_tbl, w.before #[Value.ref b] s = true) (hgv : (Jvm.Cond.and given_1 narrow_1).before #[Value.ref b] s = true) : eV s := by
  have hs := flat_of_before _ hgv
  refine ⟨st_str (tb_at hts 310 (by decide +kernel)), st_str (tb_at hts 334 (by decide +kernel)), st_str (tb_at hts 262 (by decide +kernel)), ?_, ?_⟩
  · intro w hw
    simp only [xws, List.mem_cons, List.not_mem_nil, or_false] at hw
    rcases hw with rfl | rfl | rfl | rfl | rfl | rfl
    · exact va_Nw.of rfl (tb_at hts 225 (by decide +kernel))
    · exact va_Nw.of rfl (tb_at hts 227 (by decide +kernel))
    · exact va_Nw.of rfl (tb_at hts 229 (by decide +kernel))
    · exact va_Nw.of rfl (tb_at hts 303 (by decide +kernel))
    · exact va_Nw.of rfl (tb_at hts 327 (by decide +kernel))
    · exact va_Nw.of rfl (tb_at hts 223 (by decide +kernel))
  · intro q hq
    simp only [xns, List.mem_cons, List.not_mem_nil, or_false] at hq
    rcases hq with rfl | rfl | rfl | rfl | rfl | rfl
    · exact va_Nc.of (hs _ (by decide +kernel))
    · exact va_Nc.of (hs _ (by decide +kernel))
    · exact va_Nc.of (hs _ (by decide +kernel))
    · exact va_Nc.of (hs _ (by decide +kernel))
    · exact va_Nc.of (hs _ (by decide +kernel))
    · exact va_Nc.of (hs _ (by decide +kernel))
theorem st_eH {s : State} {b : Nat} (hts : ∀ w ∈ lw_tbl, w.before #[Value.ref b] s = true) (hgv : (Jvm.Cond.and given_1 narrow_1).before #[Value.ref b] s = true) : eH (fun q : Nat => s.heap.size ≤ q) s s.heap := by
  have hs := flat_of_before _ hgv
  exact ⟨vx_Zqof (tb_at hts 248 (by decide +kernel)) (tb_at hts 9 (by decide +kernel)) (hs _ (by decide +kernel)) (fun a h => Nat.not_le.mpr h), vx_Zqof (tb_at hts 250 (by decide +kernel)) (tb_at hts 9 (by decide +kernel)) (hs _ (by decide +kernel)) (fun a h => Nat.not_le.mpr h)⟩
/-! places and addresses -/
theorem wl_get {K : gK} {σ : gS} {i : Nat} (h : i < 55) : ∃ p, (wld K σ)[i]? = some p ∧ p.1 = K.2.2 i := by
  have h1 : ((wld K σ).map Prod.fst)[i]? = some (K.2.2 i) := by
    rw [wl_adr, List.getElem?_map, List.getElem?_range h]
    rfl
  rw [List.getElem?_map] at h1
  cases e : (wld K σ)[i]? with
  | none => rw [e] at h1; cases h1
  | some p => rw [e] at h1; exact ⟨p, rfl, Option.some.inj h1⟩
theorem gD.ofD {K : gK} {σ : gS} {A : Nat → Prop} (h : va_D A (wld K σ)) : gD K := fun i j hi hj e => by
  obtain ⟨p, h1, h2⟩ := wl_get (K := K) (σ := σ) hi
  obtain ⟨q, h3, h4⟩ := wl_get (K := K) (σ := σ) hj
  exact h.1 i j p q h1 h3 (by rw [h2, h4, e])
theorem gR.inA {K : gK} {σ : gS} {A : Nat → Prop} (h : va_D A (wld K σ)) {k : Nat} (hk : k < 55) : A (K.2.2 k) := by
  obtain ⟨p, h1, h2⟩ := wl_get (K := K) (σ := σ) hk
  rw [← h2]
  exact h.2 k p h1
def adr (L : List Nat) (r : Nat → Nat) (k : Nat) : Nat := if k < 45 then L.getD k 0 else r (k - 45)
theorem adr_rows {D : va_G} {ids : Nat → ClassId} {L : List Nat} {r : Nat → Nat} : (fun i : Nat => if i < 10 then some (r i) else none) = gRows (D, ids, adr L r) := by
  funext i
  show _ = if i < 10 then some (adr L r (45 + i)) else none
  have e : adr L r (45 + i) = r i := by
    unfold adr
    rw [if_neg (by omega), Nat.add_sub_cancel_left]
  rw [e]
