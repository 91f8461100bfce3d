/-! the class's public methods -/
theorem fitB (b : Bool) : fits FieldType.boolean (Value.int (bI b)) = true := by cases b <;> rfl
def Th (σ : gS) (L : List String) (c : Nat) : String → gS → Prop := fun E t => t = σ ∧ ∃ k, c = k + 1 ∧ L[k]? = some E
theorem bIt {b : Bool} (h : ¬ bI b = 0) : b = true := by
  cases b with
  | true => rfl
  | false => exact absurd rfl h
theorem inT {a : Int32} {n : Nat} (h : inR a n) (hn : n < 2 ^ 31) : a = nI (tn a) ∧ tn a < n := by
  obtain ⟨j, hj, e⟩ := inR_of h hn
  have : tn a = j := by rw [e]; exact tn_nI (by omega)
  rw [this]
  exact ⟨e, hj⟩
theorem wi_v {x lo hi : UInt64} (hx : dN x) (hl : dN lo) (hh : dN hi) (h : wiB x lo hi = true) : dv lo ≤ dv x ∧ dv x ≤ dv hi := by
  unfold wiB at h
  rw [Bool.and_eq_true, Bool.not_eq_true', Bool.not_eq_true', decide_eq_false_iff_not, decide_eq_false_iff_not] at h
  have h1 : ¬ dv x < dv lo := fun z => h.1 ((cv_lt hx hl).mpr z)
  have h2 : ¬ dv hi < dv x := fun z => h.2 ((cv_gt hx hh).mpr z)
  omega
theorem k125_v : dN k125 ∧ 8 * dv k125 = (U1 : Int) := by decide +kernel
theorem k100_v : dN k100 ∧ dv k100 ≤ ((2 ^ 7 * U1 : Nat) : Int) := by decide +kernel
theorem k1000_v : dN k1000 ∧ dv k1000 ≤ ((2 ^ 10 * U1 : Nat) : Int) := by decide +kernel
theorem k10000_v : dN k10000 ∧ dv k10000 ≤ ((2 ^ 14 * U1 : Nat) : Int) := by decide +kernel
theorem okW_of {x : UInt64} (hx : dF x) (h : wiB x k125 k100 = true) : okW x := by
  obtain ⟨h1, h2⟩ := wi_v hx.nn k125_v.1 k100_v.1 h
  have h3 := k125_v.2
  have h4 := k100_v.2
  have h0 : 0 ≤ dv x := by omega
  have h5 := dv_pos h0
  refine ⟨Bd.of (by decide) hx.nn (by omega) (by omega), ?_, h0⟩
  omega
theorem okN_of {x : UInt64} (hx : dF x) (h : wiB x k125 k1000 = true) : okN x := by
  obtain ⟨h1, h2⟩ := wi_v hx.nn k125_v.1 k1000_v.1 h
  have h3 := k125_v.2
  have h4 := k1000_v.2
  have h0 : 0 ≤ dv x := by omega
  have h5 := dv_pos h0
  refine ⟨Bd.of (by decide) hx.nn (by omega) (by omega), ?_, h0⟩
  omega
theorem okS_of {x : UInt64} (hx : dF x) (h : wiB x FP.dconst0 k1000 = true) : okS x := by
  obtain ⟨h1, h2⟩ := wi_v hx.nn d0_F.nn k1000_v.1 h
  have h4 := k1000_v.2
  rw [d0_v] at h1
  exact ⟨Bd.of (by decide) hx.nn (by omega) (by omega), h1⟩
theorem okD_of {x : UInt64} (hx : dF x) (h : wiB x FP.dconst0 k10000 = true) : okD x := by
  obtain ⟨h1, h2⟩ := wi_v hx.nn d0_F.nn k10000_v.1 h
  have h4 := k10000_v.2
  rw [d0_v] at h1
  exact ⟨Bd.of (by decide) hx.nn (by omega) (by omega), h1, h2⟩
theorem blN_le {h : Ph} : ∀ {f : Nat} {s : (Nat → UInt64) × UInt64} {g : Nat → UInt64} {R k : Nat}, (blN h f s g R).1 = some k → k ≤ R + 100 * f
  | 0, _, _, R, k, e => by
    have e : some R = some k := e
    cases e
    omega
  | f + 1, s, g, R, k, e => by
    cases e1 : seK h g s with
    | none =>
      rw [blN_none e1] at e
      cases e
    | some j =>
      rw [blN_some e1] at e
      have hj := seK_le e1
      split at e
      · have := blN_le e
        omega
      · have e : some (R + j) = some k := e
        cases e
        omega
theorem sei_no {o : Option Nat} (h : ∀ k, o = some k → k ≤ 1000) (e : sei o = -1) : o.isSome = false := by
  cases o with
  | none => rfl
  | some k =>
    have h1 := h k rfl
    have e : nI k = -1 := e
    exact absurd (by rw [e]; decide) (nI_pos (n := k) (by omega))
theorem sei_yes {o : Option Nat} (e : ¬ sei o = -1) : o.isSome = true := by
  cases o with
  | none => exact absurd rfl e
  | some k => rfl
theorem blA_le (τ : gS) : ∀ k, (blA τ).1 = some k → k ≤ 1000 := fun k h => by
  have := blN_le (h := phC τ) (f := 10) h
  omega
def duR (σ : gS) (a b : Nat) (l w : UInt64) : gS := daS (uN σ 1 (nI 0)) (pD (phC σ)) a b l w (cntC σ a) (cntC σ b)
def atV (σ : gS) (j k : Nat) : UInt64 := if k = 0 then sF σ 7 j else if j = 0 then FP.dconst0 else rsV (phC σ) (sF σ 7) (sF σ 18) j
def ofV (σ : gS) (d : Nat) : Nat → UInt64
  | 0 => flw (phC σ) (sF σ 7) d
  | 1 => spd (phC σ) (sF σ 7) (sF σ 12) d
  | 2 => sF σ 13 d
  | _ => sF σ 21 d
def dsV (σ : gS) (m k : Nat) : UInt64 := if k = 0 then sF σ 18 m else drV (phC σ) (sF σ 7) (sF σ 18) m
def sqV (σ : gS) (lk : Nat → UInt64) : UInt64 := accF FP.dconst0 (irC σ) (fun d => FP.dmul (msV (phC σ) (sF σ 7) (sF σ 22) lk d) (msV (phC σ) (sF σ 7) (sF σ 22) lk d)) 16
def fiV (σ : gS) : Nat → (Nat → UInt64) := fiN (phC σ) (sF σ 7) (sF σ 22) (irC σ) (sF σ 21)
def coV (σ : gS) : Nat → Nat
  | 0 => nJ σ
  | 1 => pD (phC σ)
  | 2 => pM (phC σ)
  | _ => nS σ
def szR (σ : gS) (c : Nat) (r : Option Value) (t : gS) : Prop := (∃ (q : Nat) (τ : gS) (w : Nat → UInt64), q < nS σ ∧ trR σ c q τ ∧ t = trS τ c (odC σ q) w ∧ trK t = true ∧ r = some (.int (nI (odC σ q)))) ∨ (trR σ c (nS σ) t ∧ r = some (.int (-1)))
theorem in4 {b : Int32} (h : inR b 4) : tn b = 0 ∨ tn b = 1 ∨ tn b = 2 ∨ tn b = 3 := by
  have := (inT h (by decide)).2
  omega
theorem trK_0 {t : gS} (h : svC t = false) : trK t = false := by unfold trK; rw [h]; rfl
theorem trK_no {t : gS} (h : allB (srB (phC t) (sF t 7) (sF t 18)) (pM (phC t)) = false) : trK t = false := by unfold trK; rw [h, Bool.and_false]
theorem trK_yes {t : gS} (h0 : svC t = true) (h : allB (srB (phC t) (sF t 7) (sF t 18)) (pM (phC t)) = true) : trK t = true := by unfold trK; rw [h0, h]; rfl
theorem fiV_up (σ : gS) (q : Nat) : uF (uF σ 21 (fiV σ q)) 21 (apN (phC σ) (sF σ 7) (sF σ 22) (irC σ) (fiV σ q) 16) = uF σ 21 (fiV σ (q + 1)) := by rw [uF_uF]; rfl

theorem inX6_joint_X6 : ∀ w ∈ u_ws RX6 TX6 7, w ∈ wsX6_joint := by decide +kernel
set_option maxHeartbeats 4000000 in
set_option maxRecDepth 100000 in
theorem kX6_joint (l : Launch) (hl0 : l.stackTraces = false) (K : gK) (hD : gD K) (σ : gS) (hI : Ic σ) : CtX l yX6_joint wsX6_joint { frames := 7, cells := 1, slots := 6, locals := 102 } K [.ref (K.2.2 0)] σ (fun r t => cdJoint (nJ σ) = 0 ∧ r = some (.int (nI (nJ σ))) ∧ t = uN (uN σ 1 (nI 0)) 0 (nI (nJ σ + 1))) (Th σ [eS] (cdJoint (nJ σ))) := by
  refine CtX.of hl0 hD (by decide) rfl (Nat.le_of_ble_eq_true rfl) ?_
  intro X hL hK hF C E
  subst hL; subst hK
  refine g_eq (σ2 := σ) (lv2 := [(0, .ref ((xK X).2.2 0))]) (st2 := []) rfl rfl rfl ?_
  have h16 := hI.w.nd16
  have h8 := hI.w.nm8
  have hjj := hI.j
  refine g_aload_n C dX6_joint_0 0 rfl rfl ?_
  refine g_get C dX6_joint_1 wl0 rfl 5 (by decide) 1 rfl rfl rfl inX6_joint_X6 ?_
  refine g_topi (y := nI (nJ σ)) hI.j.1 ?_
  refine g_bipush (v := nI 10) C dX6_joint_4 (by decide +kernel) ?_
  refine g_icmp_ge (tgt := 13) C dX6_joint_6 (by decide) (fun c_6 => ?_) (fun c_6 => ?_)
  · have hk : ¬ nJ σ < 10 := by
      have := (nI_leI (a := 10) (b := nJ σ) (by decide) (by omega)).mp c_6
      omega
    refine g_iconst (v := nI 0) C dX6_joint_13 (by decide +kernel) ?_
    refine g_topi (y := bI false) rfl ?_
    refine g_callSX (As := [.int (bI false)]) (rest := []) C E dX6_joint_14 (kX6_checkState (xl X) hl0 (xK X) C.hD σ false) 1 gX6_joint_X6_checkState rfl (by decide +kernel) ⟨Nat.le_of_ble_eq_true rfl, Nat.le_of_ble_eq_true rfl⟩ ⟨Nat.le_of_ble_eq_true rfl, Nat.le_of_ble_eq_true rfl⟩ rfl rfl (Nat.le_of_ble_eq_true rfl) (fun Ec9 σ9 h9 => ?_) (fun rv9 σ9 h9 => ?_)
    · obtain ⟨x1, x2, x3⟩ := h9
      rw [x1, x2]
      exact gx_out C E ⟨Nat.le_of_ble_eq_true rfl, Nat.le_of_ble_eq_true rfl⟩ (⟨rfl, 0, if_neg hk, rfl⟩)
    · have h9c := h9.2.2
      exact absurd h9c (by decide)
  · have hk : nJ σ < 10 := by
      refine Nat.lt_of_not_le fun h => c_6 ?_
      exact nI_le h (by omega)
    refine g_iconst (v := nI 1) C dX6_joint_9 (by decide +kernel) ?_
    refine g_goto (tgt := 14) C dX6_joint_10 (by decide) ?_
    refine g_topi (y := bI true) rfl ?_
    refine g_callSX (As := [.int (bI true)]) (rest := []) C E dX6_joint_14 (kX6_checkState (xl X) hl0 (xK X) C.hD σ true) 1 gX6_joint_X6_checkState rfl (by decide +kernel) ⟨Nat.le_of_ble_eq_true rfl, Nat.le_of_ble_eq_true rfl⟩ ⟨Nat.le_of_ble_eq_true rfl, Nat.le_of_ble_eq_true rfl⟩ rfl rfl (Nat.le_of_ble_eq_true rfl) (fun Ec9 σ9 h9 => ?_) (fun rv9 σ9 h9 => ?_)
    · exact absurd h9.2.2 (by decide)
    · obtain ⟨h9a, h9b, -⟩ := h9
      refine g_eq (σ2 := σ) (lv2 := [(0, .ref ((xK X).2.2 0))]) (st2 := []) h9b rfl (by rw [h9a]; rfl) ?_
      refine g_aload_n C dX6_joint_17 0 rfl rfl ?_
      refine g_iconst (v := nI 0) C dX6_joint_18 (by decide +kernel) ?_
      refine g_put (σ' := uN σ 1 (nI 0)) (ty := .boolean) C dX6_joint_19 wl0 rfl 6 (by decide) 2 rfl rfl inX6_joint_X6 tyX6_ok nmX6 rfl (by decide +kernel) rfl rfl (Nat.le_of_ble_eq_true rfl) wsN1 ?_
      refine g_aload_n C dX6_joint_22 0 rfl rfl ?_
      refine g_dup C dX6_joint_23 rfl ?_
      refine g_get C dX6_joint_24 wl0 rfl 5 (by decide) 1 rfl rfl rfl inX6_joint_X6 ?_
      refine g_topi (y := nI (nJ σ)) hI.j.1 ?_
      refine g_iconst (v := nI 1) C dX6_joint_27 (by decide +kernel) ?_
      refine g_iadd C dX6_joint_28 ?_
      refine g_topi (y := nI (nJ σ + 1)) (nI_add _ 1) ?_
      refine g_put (σ' := uN (uN σ 1 (nI 0)) 0 (nI (nJ σ + 1))) (ty := .int) C dX6_joint_29 wl0 rfl 5 (by decide) 1 rfl rfl inX6_joint_X6 tyX6_ok nmX6 rfl (by decide +kernel) rfl rfl (Nat.le_of_ble_eq_true rfl) wsN0 ?_
      refine g_aload_n C dX6_joint_32 0 rfl rfl ?_
      refine g_get C dX6_joint_33 wl0 rfl 5 (by decide) 1 rfl rfl rfl inX6_joint_X6 ?_
      refine g_topi (y := nI (nJ σ + 1)) rfl ?_
      refine g_iconst (v := nI 1) C dX6_joint_36 (by decide +kernel) ?_
      refine g_isub C dX6_joint_37 ?_
      refine g_topi (y := nI (nJ σ)) (nI_pred _) ?_
      refine g_iret C dX6_joint_38 rfl ⟨Nat.le_of_ble_eq_true rfl, Nat.le_of_ble_eq_true rfl⟩ ?_
      rw [hF]
      exact ⟨if_pos hk, rfl, rfl⟩

theorem inX6_duct_X1 : ∀ w ∈ u_ws RX1 TX1 8, w ∈ wsX6_duct := by decide +kernel
theorem inX6_duct_X6 : ∀ w ∈ u_ws RX6 TX6 7, w ∈ wsX6_duct := by decide +kernel
set_option maxHeartbeats 4000000 in
set_option maxRecDepth 100000 in
theorem kX6_duct (l : Launch) (hl0 : l.stackTraces = false) (K : gK) (hD : gD K) (σ : gS) (hI : Ic σ) (a b : Int32) {ln wd : UInt64} (hl : dF ln) (hw : dF wd) : CtX l yX6_duct wsX6_duct { frames := 7, cells := 4, slots := 24, locals := 103 } K [.ref (K.2.2 0), .int a, .int b, .double ln, .double wd] σ (fun r t => cdDuct (nJ σ) (pD (phC σ)) a b ln wd = 0 ∧ r = some (.int (nI (pD (phC σ)))) ∧ t = duR σ (tn a) (tn b) ln wd) (Th σ [eI, eA, eS] (cdDuct (nJ σ) (pD (phC σ)) a b ln wd)) := by
  refine CtX.of hl0 hD (by decide) rfl (Nat.le_of_ble_eq_true rfl) ?_
  intro X hL hK hF C E
  subst hL; subst hK
  refine g_eq (σ2 := σ) (lv2 := [(0, .ref ((xK X).2.2 0)), (1, .int a), (2, .int b), (3, .double ln), (5, .double wd)]) (st2 := []) rfl rfl rfl ?_
  have h16 := hI.w.nd16
  have h8 := hI.w.nm8
  have hjj := hI.j
  refine g_iload_n C dX6_duct_0 1 rfl rfl ?_
  refine g_aload_n C dX6_duct_1 0 rfl rfl ?_
  refine g_get C dX6_duct_2 wl0 rfl 5 (by decide) 1 rfl rfl rfl inX6_duct_X6 ?_
  refine g_topi (y := nI (nJ σ)) hI.j.1 ?_
  refine g_callSX (As := [.int a, .int (nI (nJ σ))]) (rest := []) C E dX6_duct_5 (kX6_checkIndex (xl X) hl0 (xK X) C.hD σ a (nI (nJ σ))) 2 gX6_duct_X6_checkIndex rfl (by decide +kernel) ⟨Nat.le_of_ble_eq_true rfl, Nat.le_of_ble_eq_true rfl⟩ ⟨Nat.le_of_ble_eq_true rfl, Nat.le_of_ble_eq_true rfl⟩ rfl rfl (Nat.le_of_ble_eq_true rfl) (fun Ec9 σ9 h9 => ?_) (fun rv9 σ9 h9 => ?_)
  · obtain ⟨x1, x2, x3⟩ := h9
    rw [x1, x2]
    exact gx_out C E ⟨Nat.le_of_ble_eq_true rfl, Nat.le_of_ble_eq_true rfl⟩ (⟨rfl, 0, if_pos (fun h => x3 h.1), rfl⟩)
  · obtain ⟨h9a, h9b, h9c, h9d⟩ := h9
    have hia : inR a (nJ σ) := ⟨h9c, h9d⟩
    refine g_eq (σ2 := σ) (lv2 := [(0, .ref ((xK X).2.2 0)), (1, .int a), (2, .int b), (3, .double ln), (5, .double wd)]) (st2 := []) h9b rfl (by rw [h9a]; rfl) ?_
    refine g_iload_n C dX6_duct_8 2 rfl rfl ?_
    refine g_aload_n C dX6_duct_9 0 rfl rfl ?_
    refine g_get C dX6_duct_10 wl0 rfl 5 (by decide) 1 rfl rfl rfl inX6_duct_X6 ?_
    refine g_topi (y := nI (nJ σ)) hI.j.1 ?_
    refine g_callSX (As := [.int b, .int (nI (nJ σ))]) (rest := []) C E dX6_duct_13 (kX6_checkIndex (xl X) hl0 (xK X) C.hD σ b (nI (nJ σ))) 2 gX6_duct_X6_checkIndex rfl (by decide +kernel) ⟨Nat.le_of_ble_eq_true rfl, Nat.le_of_ble_eq_true rfl⟩ ⟨Nat.le_of_ble_eq_true rfl, Nat.le_of_ble_eq_true rfl⟩ rfl rfl (Nat.le_of_ble_eq_true rfl) (fun Ec9 σ9 h9 => ?_) (fun rv9 σ9 h9 => ?_)
    · obtain ⟨x1, x2, x3⟩ := h9
      rw [x1, x2]
      exact gx_out C E ⟨Nat.le_of_ble_eq_true rfl, Nat.le_of_ble_eq_true rfl⟩ (⟨rfl, 0, if_pos (fun h => x3 h.2), rfl⟩)
    · obtain ⟨h9a, h9b, h9c, h9d⟩ := h9
      have hib : inR b (nJ σ) := ⟨h9c, h9d⟩
      refine g_eq (σ2 := σ) (lv2 := [(0, .ref ((xK X).2.2 0)), (1, .int a), (2, .int b), (3, .double ln), (5, .double wd)]) (st2 := []) h9b rfl (by rw [h9a]; rfl) ?_
      refine g_iload_n C dX6_duct_16 1 rfl rfl ?_
      refine g_iload_n C dX6_duct_17 2 rfl rfl ?_
      refine g_icmp_eq (tgt := 52) C dX6_duct_18 (by decide) (fun c_18 => ?_) (fun c_18 => ?_)
      · have hk : ¬ (a ≠ b ∧ wiB ln k125 k100 = true ∧ wiB wd k125 k100 = true) := fun h => h.1 c_18
        refine g_iconst (v := nI 0) C dX6_duct_52 (by decide +kernel) ?_
        refine g_topi (y := bI false) rfl ?_
        refine g_callSX (As := [.int (bI false)]) (rest := []) C E dX6_duct_53 (kX6_checkArgument (xl X) hl0 (xK X) C.hD σ false) 1 gX6_duct_X6_checkArgument rfl (by decide +kernel) ⟨Nat.le_of_ble_eq_true rfl, Nat.le_of_ble_eq_true rfl⟩ ⟨Nat.le_of_ble_eq_true rfl, Nat.le_of_ble_eq_true rfl⟩ rfl rfl (Nat.le_of_ble_eq_true rfl) (fun Ec9 σ9 h9 => ?_) (fun rv9 σ9 h9 => ?_)
        · obtain ⟨x1, x2, x3⟩ := h9
          rw [x1, x2]
          exact gx_out C E ⟨Nat.le_of_ble_eq_true rfl, Nat.le_of_ble_eq_true rfl⟩ (⟨rfl, 1, (if_neg (fun h => h ⟨hia, hib⟩)).trans (if_pos hk), rfl⟩)
        · have h9c := h9.2.2
          exact absurd h9c (by decide)
      · refine g_dload_n C dX6_duct_21 3 rfl rfl ?_
        refine g_ldc2d (v := 4593671619917905920) C dX6_duct_22 2 rfl ?_
        refine g_ldc2d (v := 4636737291354636288) C dX6_duct_25 3 rfl ?_
        refine g_callS (As := [.double ln, .double 4593671619917905920, .double 4636737291354636288]) (rest := []) C dX6_duct_28 (kX6_isWithin (xl X) (xK X) C.hD σ ln k125 k100) 3 gX6_duct_X6_isWithin rfl (by decide +kernel) ⟨Nat.le_of_ble_eq_true rfl, Nat.le_of_ble_eq_true rfl⟩ ⟨Nat.le_of_ble_eq_true rfl, Nat.le_of_ble_eq_true rfl⟩ rfl rfl (Nat.le_of_ble_eq_true rfl) (fun rv9 σ9 h9 => ?_)
        obtain ⟨h9a, h9b⟩ := h9
        refine g_eq (σ2 := σ) (lv2 := [(0, .ref ((xK X).2.2 0)), (1, .int a), (2, .int b), (3, .double ln), (5, .double wd)]) (st2 := [.int (bI (wiB ln k125 k100))]) h9b rfl (by rw [h9a]; rfl) ?_
        refine g_if_eq (tgt := 52) C dX6_duct_31 (by decide) (fun c_31 => ?_) (fun c_31 => ?_)
        · have hw1 := (bI_ne _).mp c_31
          have hk : ¬ (a ≠ b ∧ wiB ln k125 k100 = true ∧ wiB wd k125 k100 = true) := fun h => by
            rw [hw1] at h
            exact absurd h.2.1 (by decide)
          refine g_iconst (v := nI 0) C dX6_duct_52 (by decide +kernel) ?_
          refine g_topi (y := bI false) rfl ?_
          refine g_callSX (As := [.int (bI false)]) (rest := []) C E dX6_duct_53 (kX6_checkArgument (xl X) hl0 (xK X) C.hD σ false) 1 gX6_duct_X6_checkArgument rfl (by decide +kernel) ⟨Nat.le_of_ble_eq_true rfl, Nat.le_of_ble_eq_true rfl⟩ ⟨Nat.le_of_ble_eq_true rfl, Nat.le_of_ble_eq_true rfl⟩ rfl rfl (Nat.le_of_ble_eq_true rfl) (fun Ec9 σ9 h9 => ?_) (fun rv9 σ9 h9 => ?_)
          · obtain ⟨x1, x2, x3⟩ := h9
            rw [x1, x2]
            exact gx_out C E ⟨Nat.le_of_ble_eq_true rfl, Nat.le_of_ble_eq_true rfl⟩ (⟨rfl, 1, (if_neg (fun h => h ⟨hia, hib⟩)).trans (if_pos hk), rfl⟩)
          · have h9c := h9.2.2
            exact absurd h9c (by decide)
        · have hw1 := bIt c_31
          refine g_dload C dX6_duct_34 4 rfl ?_
          refine g_ldc2d (v := 4593671619917905920) C dX6_duct_36 2 rfl ?_
          refine g_ldc2d (v := 4636737291354636288) C dX6_duct_39 3 rfl ?_
          refine g_callS (As := [.double wd, .double 4593671619917905920, .double 4636737291354636288]) (rest := []) C dX6_duct_42 (kX6_isWithin (xl X) (xK X) C.hD σ wd k125 k100) 3 gX6_duct_X6_isWithin rfl (by decide +kernel) ⟨Nat.le_of_ble_eq_true rfl, Nat.le_of_ble_eq_true rfl⟩ ⟨Nat.le_of_ble_eq_true rfl, Nat.le_of_ble_eq_true rfl⟩ rfl rfl (Nat.le_of_ble_eq_true rfl) (fun rv9 σ9 h9 => ?_)
          obtain ⟨h9a, h9b⟩ := h9
          refine g_eq (σ2 := σ) (lv2 := [(0, .ref ((xK X).2.2 0)), (1, .int a), (2, .int b), (3, .double ln), (5, .double wd)]) (st2 := [.int (bI (wiB wd k125 k100))]) h9b rfl (by rw [h9a]; rfl) ?_
          refine g_if_eq (tgt := 52) C dX6_duct_45 (by decide) (fun c_45 => ?_) (fun c_45 => ?_)
          · have hw2 := (bI_ne _).mp c_45
            have hk : ¬ (a ≠ b ∧ wiB ln k125 k100 = true ∧ wiB wd k125 k100 = true) := fun h => by
              rw [hw2] at h
              exact absurd h.2.2 (by decide)
            refine g_iconst (v := nI 0) C dX6_duct_52 (by decide +kernel) ?_
            refine g_topi (y := bI false) rfl ?_
            refine g_callSX (As := [.int (bI false)]) (rest := []) C E dX6_duct_53 (kX6_checkArgument (xl X) hl0 (xK X) C.hD σ false) 1 gX6_duct_X6_checkArgument rfl (by decide +kernel) ⟨Nat.le_of_ble_eq_true rfl, Nat.le_of_ble_eq_true rfl⟩ ⟨Nat.le_of_ble_eq_true rfl, Nat.le_of_ble_eq_true rfl⟩ rfl rfl (Nat.le_of_ble_eq_true rfl) (fun Ec9 σ9 h9 => ?_) (fun rv9 σ9 h9 => ?_)
            · obtain ⟨x1, x2, x3⟩ := h9
              rw [x1, x2]
              exact gx_out C E ⟨Nat.le_of_ble_eq_true rfl, Nat.le_of_ble_eq_true rfl⟩ (⟨rfl, 1, (if_neg (fun h => h ⟨hia, hib⟩)).trans (if_pos hk), rfl⟩)
            · have h9c := h9.2.2
              exact absurd h9c (by decide)
          · have hw2 := bIt c_45
            have hk : a ≠ b ∧ wiB ln k125 k100 = true ∧ wiB wd k125 k100 = true := ⟨c_18, hw1, hw2⟩
            refine g_iconst (v := nI 1) C dX6_duct_48 (by decide +kernel) ?_
            refine g_goto (tgt := 53) C dX6_duct_49 (by decide) ?_
            refine g_topi (y := bI true) rfl ?_
            refine g_callSX (As := [.int (bI true)]) (rest := []) C E dX6_duct_53 (kX6_checkArgument (xl X) hl0 (xK X) C.hD σ true) 1 gX6_duct_X6_checkArgument rfl (by decide +kernel) ⟨Nat.le_of_ble_eq_true rfl, Nat.le_of_ble_eq_true rfl⟩ ⟨Nat.le_of_ble_eq_true rfl, Nat.le_of_ble_eq_true rfl⟩ rfl rfl (Nat.le_of_ble_eq_true rfl) (fun Ec9 σ9 h9 => ?_) (fun rv9 σ9 h9 => ?_)
            · exact absurd h9.2.2 (by decide)
            · obtain ⟨h9a, h9b, -⟩ := h9
              refine g_eq (σ2 := σ) (lv2 := [(0, .ref ((xK X).2.2 0)), (1, .int a), (2, .int b), (3, .double ln), (5, .double wd)]) (st2 := []) h9b rfl (by rw [h9a]; rfl) ?_
              refine g_aload_n C dX6_duct_56 0 rfl rfl ?_
              refine g_get C dX6_duct_57 wl0 rfl 1 (by decide) 4 rfl rfl rfl inX6_duct_X6 ?_
              refine g_get C dX6_duct_60 wl2 rfl 0 (by decide) 5 rfl rfl rfl inX6_duct_X1 ?_
              refine g_topi (y := nI (pD (phC σ))) hI.w.nd ?_
              refine g_bipush (v := nI 16) C dX6_duct_63 (by decide +kernel) ?_
              refine g_icmp_ge (tgt := 72) C dX6_duct_65 (by decide) (fun c_65 => ?_) (fun c_65 => ?_)
              · have hs : ¬ pD (phC σ) < 16 := by
                  have := (nI_leI (a := 16) (b := pD (phC σ)) (by decide) (by omega)).mp c_65
                  omega
                refine g_iconst (v := nI 0) C dX6_duct_72 (by decide +kernel) ?_
                refine g_topi (y := bI false) rfl ?_
                refine g_callSX (As := [.int (bI false)]) (rest := []) C E dX6_duct_73 (kX6_checkState (xl X) hl0 (xK X) C.hD σ false) 1 gX6_duct_X6_checkState rfl (by decide +kernel) ⟨Nat.le_of_ble_eq_true rfl, Nat.le_of_ble_eq_true rfl⟩ ⟨Nat.le_of_ble_eq_true rfl, Nat.le_of_ble_eq_true rfl⟩ rfl rfl (Nat.le_of_ble_eq_true rfl) (fun Ec9 σ9 h9 => ?_) (fun rv9 σ9 h9 => ?_)
                · obtain ⟨x1, x2, x3⟩ := h9
                  rw [x1, x2]
                  exact gx_out C E ⟨Nat.le_of_ble_eq_true rfl, Nat.le_of_ble_eq_true rfl⟩ (⟨rfl, 2, (if_neg (fun h => h ⟨hia, hib⟩)).trans ((if_neg (fun h => h hk)).trans (if_pos hs)), rfl⟩)
                · have h9c := h9.2.2
                  exact absurd h9c (by decide)
              · have hs : pD (phC σ) < 16 := by
                  refine Nat.lt_of_not_le fun h => c_65 ?_
                  exact nI_le h (by omega)
                refine g_iconst (v := nI 1) C dX6_duct_68 (by decide +kernel) ?_
                refine g_goto (tgt := 73) C dX6_duct_69 (by decide) ?_
                refine g_topi (y := bI true) rfl ?_
                refine g_callSX (As := [.int (bI true)]) (rest := []) C E dX6_duct_73 (kX6_checkState (xl X) hl0 (xK X) C.hD σ true) 1 gX6_duct_X6_checkState rfl (by decide +kernel) ⟨Nat.le_of_ble_eq_true rfl, Nat.le_of_ble_eq_true rfl⟩ ⟨Nat.le_of_ble_eq_true rfl, Nat.le_of_ble_eq_true rfl⟩ rfl rfl (Nat.le_of_ble_eq_true rfl) (fun Ec9 σ9 h9 => ?_) (fun rv9 σ9 h9 => ?_)
                · exact absurd h9.2.2 (by decide)
                · obtain ⟨h9a, h9b, -⟩ := h9
                  refine g_eq (σ2 := σ) (lv2 := [(0, .ref ((xK X).2.2 0)), (1, .int a), (2, .int b), (3, .double ln), (5, .double wd)]) (st2 := []) h9b rfl (by rw [h9a]; rfl) ?_
                  have ta := inT hia (by omega)
                  have tb := inT hib (by omega)
                  have tab : tn a ≠ tn b := fun h => hk.1 (by rw [ta.1, tb.1, h])
                  have hI1 : Ic (uN σ 1 (nI 0)) := Ic_N1 hI false
                  have hca : cntC σ (tn a) < 16 := Nat.lt_of_le_of_lt (ctF_le _ _) hs
                  have hcb : cntC σ (tn b) < 16 := Nat.lt_of_le_of_lt (ctF_le _ _) hs
                  refine g_eq (σ2 := σ) (lv2 := [(0, .ref ((xK X).2.2 0)), (1, .int (nI (tn a))), (2, .int b), (3, .double ln), (5, .double wd)]) (st2 := []) rfl (congrArg (fun z9 => ([(0, .ref ((xK X).2.2 0)), (1, .int z9), (2, .int b), (3, .double ln), (5, .double wd)] : List (Nat × Value))) ta.1) rfl ?_
                  refine g_eq (σ2 := σ) (lv2 := [(0, .ref ((xK X).2.2 0)), (1, .int (nI (tn a))), (2, .int (nI (tn b))), (3, .double ln), (5, .double wd)]) (st2 := []) rfl (congrArg (fun z9 => ([(0, .ref ((xK X).2.2 0)), (1, .int (nI (tn a))), (2, .int z9), (3, .double ln), (5, .double wd)] : List (Nat × Value))) tb.1) rfl ?_
                  refine g_aload_n C dX6_duct_76 0 rfl rfl ?_
                  refine g_iconst (v := nI 0) C dX6_duct_77 (by decide +kernel) ?_
                  refine g_put (σ' := uN σ 1 (nI 0)) (ty := .boolean) C dX6_duct_78 wl0 rfl 6 (by decide) 6 rfl rfl inX6_duct_X6 tyX6_ok nmX6 rfl (by decide +kernel) rfl rfl (Nat.le_of_ble_eq_true rfl) wsN1 ?_
                  refine g_aload_n C dX6_duct_81 0 rfl rfl ?_
                  refine g_get C dX6_duct_82 wl0 rfl 1 (by decide) 4 rfl rfl rfl inX6_duct_X6 ?_
                  refine g_iload_n C dX6_duct_85 1 rfl rfl ?_
                  refine g_iload_n C dX6_duct_86 2 rfl rfl ?_
                  refine g_dload_n C dX6_duct_87 3 rfl rfl ?_
                  refine g_dload C dX6_duct_88 4 rfl ?_
                  refine g_callV (As := [.int (nI (tn a)), .int (nI (tn b)), .double ln, .double wd]) (rest := []) C dX6_duct_90 (kX1_add (xl X) (xK X) C.hD (uN σ 1 (nI 0)) (nd := pD (phC σ)) (a := tn a) (b := tn b) (ca := cntC σ (tn a)) (cb := cntC σ (tn b)) (l := ln) (w := wd) hI.w.nd hs (by omega) (by omega) tab hca hcb (hI.w.ct (by omega)) (hI.w.ct (by omega)) (okW_of hl hk.2.1) (okW_of hw hk.2.2)) wl2 rfl 4 gX6_duct_X1_add rfl (by decide +kernel) ⟨Nat.le_of_ble_eq_true rfl, Nat.le_of_ble_eq_true rfl⟩ ⟨Nat.le_of_ble_eq_true rfl, Nat.le_of_ble_eq_true rfl⟩ rfl rfl (Nat.le_of_ble_eq_true rfl) (fun rv9 σ9 h9 => ?_)
                  obtain ⟨h9a, h9b⟩ := h9
                  refine g_eq (σ2 := duR σ (tn a) (tn b) ln wd) (lv2 := [(0, .ref ((xK X).2.2 0)), (1, .int (nI (tn a))), (2, .int (nI (tn b))), (3, .double ln), (5, .double wd)]) (st2 := [.int (nI (pD (phC σ)))]) h9b rfl (by rw [h9a]; rfl) ?_
                  refine g_iret C dX6_duct_93 rfl ⟨Nat.le_of_ble_eq_true rfl, Nat.le_of_ble_eq_true rfl⟩ ?_
                  rw [hF]
                  exact ⟨(if_neg (fun h => h ⟨hia, hib⟩)).trans ((if_neg (fun h => h hk)).trans (if_neg (fun h => h hs))), rfl, rfl⟩

theorem inX6_machine_X4 : ∀ w ∈ u_ws RX4 TX4 6, w ∈ wsX6_machine := by decide +kernel
theorem inX6_machine_X6 : ∀ w ∈ u_ws RX6 TX6 7, w ∈ wsX6_machine := by decide +kernel
set_option maxHeartbeats 4000000 in
set_option maxRecDepth 100000 in
theorem kX6_machine (l : Launch) (hl0 : l.stackTraces = false) (K : gK) (hD : gD K) (σ : gS) (hI : Ic σ) (a : Int32) {nd : UInt64} (hn : dF nd) : CtX l yX6_machine wsX6_machine { frames := 7, cells := 3, slots := 18, locals := 103 } K [.ref (K.2.2 0), .int a, .double nd] σ (fun r t => cdMach (nJ σ) (pM (phC σ)) a nd = 0 ∧ r = some (.int (nI (pM (phC σ)))) ∧ t = maS (uN σ 1 (nI 0)) (pM (phC σ)) (tn a) nd) (Th σ [eI, eA, eS] (cdMach (nJ σ) (pM (phC σ)) a nd)) := by
  refine CtX.of hl0 hD (by decide) rfl (Nat.le_of_ble_eq_true rfl) ?_
  intro X hL hK hF C E
  subst hL; subst hK
  refine g_eq (σ2 := σ) (lv2 := [(0, .ref ((xK X).2.2 0)), (1, .int a), (2, .double nd)]) (st2 := []) rfl rfl rfl ?_
  have h16 := hI.w.nd16
  have h8 := hI.w.nm8
  have hjj := hI.j
  refine g_iload_n C dX6_machine_0 1 rfl rfl ?_
  refine g_aload_n C dX6_machine_1 0 rfl rfl ?_
  refine g_get C dX6_machine_2 wl0 rfl 5 (by decide) 1 rfl rfl rfl inX6_machine_X6 ?_
  refine g_topi (y := nI (nJ σ)) hI.j.1 ?_
  refine g_callSX (As := [.int a, .int (nI (nJ σ))]) (rest := []) C E dX6_machine_5 (kX6_checkIndex (xl X) hl0 (xK X) C.hD σ a (nI (nJ σ))) 2 gX6_machine_X6_checkIndex rfl (by decide +kernel) ⟨Nat.le_of_ble_eq_true rfl, Nat.le_of_ble_eq_true rfl⟩ ⟨Nat.le_of_ble_eq_true rfl, Nat.le_of_ble_eq_true rfl⟩ rfl rfl (Nat.le_of_ble_eq_true rfl) (fun Ec9 σ9 h9 => ?_) (fun rv9 σ9 h9 => ?_)
  · obtain ⟨x1, x2, x3⟩ := h9
    rw [x1, x2]
    exact gx_out C E ⟨Nat.le_of_ble_eq_true rfl, Nat.le_of_ble_eq_true rfl⟩ (⟨rfl, 0, if_pos x3, rfl⟩)
  · obtain ⟨h9a, h9b, h9c, h9d⟩ := h9
    have hia : inR a (nJ σ) := ⟨h9c, h9d⟩
    refine g_eq (σ2 := σ) (lv2 := [(0, .ref ((xK X).2.2 0)), (1, .int a), (2, .double nd)]) (st2 := []) h9b rfl (by rw [h9a]; rfl) ?_
    refine g_iload_n C dX6_machine_8 1 rfl rfl ?_
    refine g_if_eq (tgt := 29) C dX6_machine_9 (by decide) (fun c_9 => ?_) (fun c_9 => ?_)
    · have hk : ¬ (a ≠ 0 ∧ wiB nd k125 k1000 = true) := fun h => h.1 c_9
      refine g_iconst (v := nI 0) C dX6_machine_29 (by decide +kernel) ?_
      refine g_topi (y := bI false) rfl ?_
      refine g_callSX (As := [.int (bI false)]) (rest := []) C E dX6_machine_30 (kX6_checkArgument (xl X) hl0 (xK X) C.hD σ false) 1 gX6_machine_X6_checkArgument rfl (by decide +kernel) ⟨Nat.le_of_ble_eq_true rfl, Nat.le_of_ble_eq_true rfl⟩ ⟨Nat.le_of_ble_eq_true rfl, Nat.le_of_ble_eq_true rfl⟩ rfl rfl (Nat.le_of_ble_eq_true rfl) (fun Ec9 σ9 h9 => ?_) (fun rv9 σ9 h9 => ?_)
      · obtain ⟨x1, x2, x3⟩ := h9
        rw [x1, x2]
        exact gx_out C E ⟨Nat.le_of_ble_eq_true rfl, Nat.le_of_ble_eq_true rfl⟩ (⟨rfl, 1, (if_neg (fun h => h hia)).trans (if_pos hk), rfl⟩)
      · have h9c := h9.2.2
        exact absurd h9c (by decide)
    · refine g_dload_n C dX6_machine_12 2 rfl rfl ?_
      refine g_ldc2d (v := 4593671619917905920) C dX6_machine_13 2 rfl ?_
      refine g_ldc2d (v := 4652007308841189376) C dX6_machine_16 3 rfl ?_
      refine g_callS (As := [.double nd, .double 4593671619917905920, .double 4652007308841189376]) (rest := []) C dX6_machine_19 (kX6_isWithin (xl X) (xK X) C.hD σ nd k125 k1000) 3 gX6_machine_X6_isWithin rfl (by decide +kernel) ⟨Nat.le_of_ble_eq_true rfl, Nat.le_of_ble_eq_true rfl⟩ ⟨Nat.le_of_ble_eq_true rfl, Nat.le_of_ble_eq_true rfl⟩ rfl rfl (Nat.le_of_ble_eq_true rfl) (fun rv9 σ9 h9 => ?_)
      obtain ⟨h9a, h9b⟩ := h9
      refine g_eq (σ2 := σ) (lv2 := [(0, .ref ((xK X).2.2 0)), (1, .int a), (2, .double nd)]) (st2 := [.int (bI (wiB nd k125 k1000))]) h9b rfl (by rw [h9a]; rfl) ?_
      refine g_if_eq (tgt := 29) C dX6_machine_22 (by decide) (fun c_22 => ?_) (fun c_22 => ?_)
      · have hw1 := (bI_ne _).mp c_22
        have hk : ¬ (a ≠ 0 ∧ wiB nd k125 k1000 = true) := fun h => by
          rw [hw1] at h
          exact absurd h.2 (by decide)
        refine g_iconst (v := nI 0) C dX6_machine_29 (by decide +kernel) ?_
        refine g_topi (y := bI false) rfl ?_
        refine g_callSX (As := [.int (bI false)]) (rest := []) C E dX6_machine_30 (kX6_checkArgument (xl X) hl0 (xK X) C.hD σ false) 1 gX6_machine_X6_checkArgument rfl (by decide +kernel) ⟨Nat.le_of_ble_eq_true rfl, Nat.le_of_ble_eq_true rfl⟩ ⟨Nat.le_of_ble_eq_true rfl, Nat.le_of_ble_eq_true rfl⟩ rfl rfl (Nat.le_of_ble_eq_true rfl) (fun Ec9 σ9 h9 => ?_) (fun rv9 σ9 h9 => ?_)
        · obtain ⟨x1, x2, x3⟩ := h9
          rw [x1, x2]
          exact gx_out C E ⟨Nat.le_of_ble_eq_true rfl, Nat.le_of_ble_eq_true rfl⟩ (⟨rfl, 1, (if_neg (fun h => h hia)).trans (if_pos hk), rfl⟩)
        · have h9c := h9.2.2
          exact absurd h9c (by decide)
      · have hk : a ≠ 0 ∧ wiB nd k125 k1000 = true := ⟨c_9, bIt c_22⟩
        refine g_iconst (v := nI 1) C dX6_machine_25 (by decide +kernel) ?_
        refine g_goto (tgt := 30) C dX6_machine_26 (by decide) ?_
        refine g_topi (y := bI true) rfl ?_
        refine g_callSX (As := [.int (bI true)]) (rest := []) C E dX6_machine_30 (kX6_checkArgument (xl X) hl0 (xK X) C.hD σ true) 1 gX6_machine_X6_checkArgument rfl (by decide +kernel) ⟨Nat.le_of_ble_eq_true rfl, Nat.le_of_ble_eq_true rfl⟩ ⟨Nat.le_of_ble_eq_true rfl, Nat.le_of_ble_eq_true rfl⟩ rfl rfl (Nat.le_of_ble_eq_true rfl) (fun Ec9 σ9 h9 => ?_) (fun rv9 σ9 h9 => ?_)
        · exact absurd h9.2.2 (by decide)
        · obtain ⟨h9a, h9b, -⟩ := h9
          refine g_eq (σ2 := σ) (lv2 := [(0, .ref ((xK X).2.2 0)), (1, .int a), (2, .double nd)]) (st2 := []) h9b rfl (by rw [h9a]; rfl) ?_
          refine g_aload_n C dX6_machine_33 0 rfl rfl ?_
          refine g_get C dX6_machine_34 wl0 rfl 2 (by decide) 4 rfl rfl rfl inX6_machine_X6 ?_
          refine g_get C dX6_machine_37 wl3 rfl 0 (by decide) 5 rfl rfl rfl inX6_machine_X4 ?_
          refine g_topi (y := nI (pM (phC σ))) hI.w.nm ?_
          refine g_bipush (v := nI 8) C dX6_machine_40 (by decide +kernel) ?_
          refine g_icmp_ge (tgt := 49) C dX6_machine_42 (by decide) (fun c_42 => ?_) (fun c_42 => ?_)
          · have hs : ¬ pM (phC σ) < 8 := by
              have := (nI_leI (a := 8) (b := pM (phC σ)) (by decide) (by omega)).mp c_42
              omega
            refine g_iconst (v := nI 0) C dX6_machine_49 (by decide +kernel) ?_
            refine g_topi (y := bI false) rfl ?_
            refine g_callSX (As := [.int (bI false)]) (rest := []) C E dX6_machine_50 (kX6_checkState (xl X) hl0 (xK X) C.hD σ false) 1 gX6_machine_X6_checkState rfl (by decide +kernel) ⟨Nat.le_of_ble_eq_true rfl, Nat.le_of_ble_eq_true rfl⟩ ⟨Nat.le_of_ble_eq_true rfl, Nat.le_of_ble_eq_true rfl⟩ rfl rfl (Nat.le_of_ble_eq_true rfl) (fun Ec9 σ9 h9 => ?_) (fun rv9 σ9 h9 => ?_)
            · obtain ⟨x1, x2, x3⟩ := h9
              rw [x1, x2]
              exact gx_out C E ⟨Nat.le_of_ble_eq_true rfl, Nat.le_of_ble_eq_true rfl⟩ (⟨rfl, 2, (if_neg (fun h => h hia)).trans ((if_neg (fun h => h hk)).trans (if_pos hs)), rfl⟩)
            · have h9c := h9.2.2
              exact absurd h9c (by decide)
          · have hs : pM (phC σ) < 8 := by
              refine Nat.lt_of_not_le fun h => c_42 ?_
              exact nI_le h (by omega)
            refine g_iconst (v := nI 1) C dX6_machine_45 (by decide +kernel) ?_
            refine g_goto (tgt := 50) C dX6_machine_46 (by decide) ?_
            refine g_topi (y := bI true) rfl ?_
            refine g_callSX (As := [.int (bI true)]) (rest := []) C E dX6_machine_50 (kX6_checkState (xl X) hl0 (xK X) C.hD σ true) 1 gX6_machine_X6_checkState rfl (by decide +kernel) ⟨Nat.le_of_ble_eq_true rfl, Nat.le_of_ble_eq_true rfl⟩ ⟨Nat.le_of_ble_eq_true rfl, Nat.le_of_ble_eq_true rfl⟩ rfl rfl (Nat.le_of_ble_eq_true rfl) (fun Ec9 σ9 h9 => ?_) (fun rv9 σ9 h9 => ?_)
            · exact absurd h9.2.2 (by decide)
            · obtain ⟨h9a, h9b, -⟩ := h9
              refine g_eq (σ2 := σ) (lv2 := [(0, .ref ((xK X).2.2 0)), (1, .int a), (2, .double nd)]) (st2 := []) h9b rfl (by rw [h9a]; rfl) ?_
              have ta := inT hia (by omega)
              refine g_eq (σ2 := σ) (lv2 := [(0, .ref ((xK X).2.2 0)), (1, .int (nI (tn a))), (2, .double nd)]) (st2 := []) rfl (congrArg (fun z9 => ([(0, .ref ((xK X).2.2 0)), (1, .int z9), (2, .double nd)] : List (Nat × Value))) ta.1) rfl ?_
              refine g_aload_n C dX6_machine_53 0 rfl rfl ?_
              refine g_iconst (v := nI 0) C dX6_machine_54 (by decide +kernel) ?_
              refine g_put (σ' := uN σ 1 (nI 0)) (ty := .boolean) C dX6_machine_55 wl0 rfl 6 (by decide) 6 rfl rfl inX6_machine_X6 tyX6_ok nmX6 rfl (by decide +kernel) rfl rfl (Nat.le_of_ble_eq_true rfl) wsN1 ?_
              refine g_aload_n C dX6_machine_58 0 rfl rfl ?_
              refine g_get C dX6_machine_59 wl0 rfl 2 (by decide) 4 rfl rfl rfl inX6_machine_X6 ?_
              refine g_iload_n C dX6_machine_62 1 rfl rfl ?_
              refine g_dload_n C dX6_machine_63 2 rfl rfl ?_
              refine g_callV (As := [.int (nI (tn a)), .double nd]) (rest := []) C dX6_machine_64 (kX4_add (xl X) (xK X) C.hD (uN σ 1 (nI 0)) (nm := pM (phC σ)) (j := tn a) (need := nd) hI.w.nm hs) wl3 rfl 2 gX6_machine_X4_add rfl (by decide +kernel) ⟨Nat.le_of_ble_eq_true rfl, Nat.le_of_ble_eq_true rfl⟩ ⟨Nat.le_of_ble_eq_true rfl, Nat.le_of_ble_eq_true rfl⟩ rfl rfl (Nat.le_of_ble_eq_true rfl) (fun rv9 σ9 h9 => ?_)
              obtain ⟨h9a, h9b⟩ := h9
              refine g_eq (σ2 := maS (uN σ 1 (nI 0)) (pM (phC σ)) (tn a) nd) (lv2 := [(0, .ref ((xK X).2.2 0)), (1, .int (nI (tn a))), (2, .double nd)]) (st2 := [.int (nI (pM (phC σ)))]) h9b rfl (by rw [h9a]; rfl) ?_
              refine g_iret C dX6_machine_67 rfl ⟨Nat.le_of_ble_eq_true rfl, Nat.le_of_ble_eq_true rfl⟩ ?_
              rw [hF]
              exact ⟨(if_neg (fun h => h hia)).trans ((if_neg (fun h => h hk)).trans (if_neg (fun h => h hs))), rfl, rfl⟩

theorem inX6_use_X4 : ∀ w ∈ u_ws RX4 TX4 6, w ∈ wsX6_use := by decide +kernel
theorem inX6_use_X6 : ∀ w ∈ u_ws RX6 TX6 7, w ∈ wsX6_use := by decide +kernel
set_option maxHeartbeats 4000000 in
set_option maxRecDepth 100000 in
theorem kX6_use (l : Launch) (hl0 : l.stackTraces = false) (K : gK) (hD : gD K) (σ : gS) (hI : Ic σ) (c m : Int32) (on : Bool) : CtX l yX6_use wsX6_use { frames := 7, cells := 2, slots := 12, locals := 103 } K [.ref (K.2.2 0), .int c, .int m, .int (bI on)] σ (fun r t => cdUse (pM (phC σ)) c m = 0 ∧ r = none ∧ t = usS (uN σ 1 (nI 0)) (tn c) (tn m) on) (Th σ [eI] (cdUse (pM (phC σ)) c m)) := by
  refine CtX.of hl0 hD (by decide) rfl (Nat.le_of_ble_eq_true rfl) ?_
  intro X hL hK hF C E
  subst hL; subst hK
  refine g_eq (σ2 := σ) (lv2 := [(0, .ref ((xK X).2.2 0)), (1, .int c), (2, .int m), (3, .int (bI on))]) (st2 := []) rfl rfl rfl ?_
  have h16 := hI.w.nd16
  have h8 := hI.w.nm8
  have hjj := hI.j
  refine g_iload_n C dX6_use_0 1 rfl rfl ?_
  refine g_iconst (v := nI 4) C dX6_use_1 (by decide +kernel) ?_
  refine g_callSX (As := [.int c, .int (nI 4)]) (rest := []) C E dX6_use_2 (kX6_checkIndex (xl X) hl0 (xK X) C.hD σ c (nI 4)) 2 gX6_use_X6_checkIndex rfl (by decide +kernel) ⟨Nat.le_of_ble_eq_true rfl, Nat.le_of_ble_eq_true rfl⟩ ⟨Nat.le_of_ble_eq_true rfl, Nat.le_of_ble_eq_true rfl⟩ rfl rfl (Nat.le_of_ble_eq_true rfl) (fun Ec9 σ9 h9 => ?_) (fun rv9 σ9 h9 => ?_)
  · obtain ⟨x1, x2, x3⟩ := h9
    rw [x1, x2]
    exact gx_out C E ⟨Nat.le_of_ble_eq_true rfl, Nat.le_of_ble_eq_true rfl⟩ (⟨rfl, 0, if_neg (fun h => x3 h.1), rfl⟩)
  · obtain ⟨h9a, h9b, h9c, h9d⟩ := h9
    have hic : inR c 4 := ⟨h9c, h9d⟩
    refine g_eq (σ2 := σ) (lv2 := [(0, .ref ((xK X).2.2 0)), (1, .int c), (2, .int m), (3, .int (bI on))]) (st2 := []) h9b rfl (by rw [h9a]; rfl) ?_
    refine g_iload_n C dX6_use_5 2 rfl rfl ?_
    refine g_aload_n C dX6_use_6 0 rfl rfl ?_
    refine g_get C dX6_use_7 wl0 rfl 2 (by decide) 1 rfl rfl rfl inX6_use_X6 ?_
    refine g_get C dX6_use_10 wl3 rfl 0 (by decide) 2 rfl rfl rfl inX6_use_X4 ?_
    refine g_topi (y := nI (pM (phC σ))) hI.w.nm ?_
    refine g_callSX (As := [.int m, .int (nI (pM (phC σ)))]) (rest := []) C E dX6_use_13 (kX6_checkIndex (xl X) hl0 (xK X) C.hD σ m (nI (pM (phC σ)))) 2 gX6_use_X6_checkIndex rfl (by decide +kernel) ⟨Nat.le_of_ble_eq_true rfl, Nat.le_of_ble_eq_true rfl⟩ ⟨Nat.le_of_ble_eq_true rfl, Nat.le_of_ble_eq_true rfl⟩ rfl rfl (Nat.le_of_ble_eq_true rfl) (fun Ec9 σ9 h9 => ?_) (fun rv9 σ9 h9 => ?_)
    · obtain ⟨x1, x2, x3⟩ := h9
      rw [x1, x2]
      exact gx_out C E ⟨Nat.le_of_ble_eq_true rfl, Nat.le_of_ble_eq_true rfl⟩ (⟨rfl, 0, if_neg (fun h => x3 h.2), rfl⟩)
    · obtain ⟨h9a, h9b, h9c, h9d⟩ := h9
      have him : inR m (pM (phC σ)) := ⟨h9c, h9d⟩
      refine g_eq (σ2 := σ) (lv2 := [(0, .ref ((xK X).2.2 0)), (1, .int c), (2, .int m), (3, .int (bI on))]) (st2 := []) h9b rfl (by rw [h9a]; rfl) ?_
      have tc := inT hic (by decide)
      have tm := inT him (by omega)
      refine g_eq (σ2 := σ) (lv2 := [(0, .ref ((xK X).2.2 0)), (1, .int (nI (tn c))), (2, .int m), (3, .int (bI on))]) (st2 := []) rfl (congrArg (fun z9 => ([(0, .ref ((xK X).2.2 0)), (1, .int z9), (2, .int m), (3, .int (bI on))] : List (Nat × Value))) tc.1) rfl ?_
      refine g_eq (σ2 := σ) (lv2 := [(0, .ref ((xK X).2.2 0)), (1, .int (nI (tn c))), (2, .int (nI (tn m))), (3, .int (bI on))]) (st2 := []) rfl (congrArg (fun z9 => ([(0, .ref ((xK X).2.2 0)), (1, .int (nI (tn c))), (2, .int z9), (3, .int (bI on))] : List (Nat × Value))) tm.1) rfl ?_
      refine g_aload_n C dX6_use_16 0 rfl rfl ?_
      refine g_iconst (v := nI 0) C dX6_use_17 (by decide +kernel) ?_
      refine g_put (σ' := uN σ 1 (nI 0)) (ty := .boolean) C dX6_use_18 wl0 rfl 6 (by decide) 3 rfl rfl inX6_use_X6 tyX6_ok nmX6 rfl (by decide +kernel) rfl rfl (Nat.le_of_ble_eq_true rfl) wsN1 ?_
      refine g_aload_n C dX6_use_21 0 rfl rfl ?_
      refine g_get C dX6_use_22 wl0 rfl 2 (by decide) 1 rfl rfl rfl inX6_use_X6 ?_
      refine g_iload_n C dX6_use_25 1 rfl rfl ?_
      refine g_iload_n C dX6_use_26 2 rfl rfl ?_
      refine g_iload_n C dX6_use_27 3 rfl rfl ?_
      refine g_callV (As := [.int (nI (tn c)), .int (nI (tn m)), .int (bI on)]) (rest := []) C dX6_use_28 (kX4_setUsed (xl X) (xK X) C.hD (uN σ 1 (nI 0)) (c := tn c) (m := tn m) (on := on) (by omega)) wl3 rfl 3 gX6_use_X4_setUsed rfl (by decide +kernel) ⟨Nat.le_of_ble_eq_true rfl, Nat.le_of_ble_eq_true rfl⟩ ⟨Nat.le_of_ble_eq_true rfl, Nat.le_of_ble_eq_true rfl⟩ rfl rfl (Nat.le_of_ble_eq_true rfl) (fun rv9 σ9 h9 => ?_)
      obtain ⟨h9a, h9b⟩ := h9
      refine g_eq (σ2 := usS (uN σ 1 (nI 0)) (tn c) (tn m) on) (lv2 := [(0, .ref ((xK X).2.2 0)), (1, .int (nI (tn c))), (2, .int (nI (tn m))), (3, .int (bI on))]) (st2 := []) h9b rfl (by rw [h9a]; rfl) ?_
      refine g_vret C dX6_use_31 rfl ⟨Nat.le_of_ble_eq_true rfl, Nat.le_of_ble_eq_true rfl⟩ ?_
      rw [hF]
      exact ⟨if_pos ⟨hic, him⟩, rfl, rfl⟩

theorem inX6_fan_X0 : ∀ w ∈ u_ws RX0 TX0 5, w ∈ wsX6_fan := by decide +kernel
theorem inX6_fan_X2 : ∀ w ∈ u_ws RX2 TX2 3, w ∈ wsX6_fan := by decide +kernel
theorem inX6_fan_X6 : ∀ w ∈ u_ws RX6 TX6 7, w ∈ wsX6_fan := by decide +kernel
set_option maxHeartbeats 4000000 in
set_option maxRecDepth 100000 in
theorem kX6_fan (l : Launch) (hl0 : l.stackTraces = false) (K : gK) (hD : gD K) (σ : gS) (s f : UInt64) : CtX l yX6_fan wsX6_fan { frames := 7, cells := 1, slots := 6, locals := 102 } K [.ref (K.2.2 0), .double s, .double f] σ (fun r t => cdFan s f = 0 ∧ r = none ∧ t = uD (uD (uN σ 1 (nI 0)) 0 s) 1 f) (Th σ [eA] (cdFan s f)) := by
  refine CtX.of hl0 hD (by decide) rfl (Nat.le_of_ble_eq_true rfl) ?_
  intro X hL hK hF C E
  subst hL; subst hK
  refine g_eq (σ2 := σ) (lv2 := [(0, .ref ((xK X).2.2 0)), (1, .double s), (3, .double f)]) (st2 := []) rfl rfl rfl ?_
  refine g_dload_n C dX6_fan_0 1 rfl rfl ?_
  refine g_dconst0 C dX6_fan_1 ?_
  refine g_ldc2d (v := 4652007308841189376) C dX6_fan_2 1 rfl ?_
  refine g_callS (As := [.double s, .double FP.dconst0, .double 4652007308841189376]) (rest := []) C dX6_fan_5 (kX6_isWithin (xl X) (xK X) C.hD σ s FP.dconst0 k1000) 3 gX6_fan_X6_isWithin rfl (by decide +kernel) ⟨Nat.le_of_ble_eq_true rfl, Nat.le_of_ble_eq_true rfl⟩ ⟨Nat.le_of_ble_eq_true rfl, Nat.le_of_ble_eq_true rfl⟩ rfl rfl (Nat.le_of_ble_eq_true rfl) (fun rv9 σ9 h9 => ?_)
  obtain ⟨h9a, h9b⟩ := h9
  refine g_eq (σ2 := σ) (lv2 := [(0, .ref ((xK X).2.2 0)), (1, .double s), (3, .double f)]) (st2 := [.int (bI (wiB s FP.dconst0 k1000))]) h9b rfl (by rw [h9a]; rfl) ?_
  refine g_if_eq (tgt := 26) C dX6_fan_8 (by decide) (fun c_8 => ?_) (fun c_8 => ?_)
  · have hw1 := (bI_ne _).mp c_8
    have hk : ¬ (wiB s FP.dconst0 k1000 = true ∧ wiB f FP.dconst0 k1000 = true) := fun h => by
      rw [hw1] at h
      exact absurd h.1 (by decide)
    refine g_iconst (v := nI 0) C dX6_fan_26 (by decide +kernel) ?_
    refine g_topi (y := bI false) rfl ?_
    refine g_callSX (As := [.int (bI false)]) (rest := []) C E dX6_fan_27 (kX6_checkArgument (xl X) hl0 (xK X) C.hD σ false) 1 gX6_fan_X6_checkArgument rfl (by decide +kernel) ⟨Nat.le_of_ble_eq_true rfl, Nat.le_of_ble_eq_true rfl⟩ ⟨Nat.le_of_ble_eq_true rfl, Nat.le_of_ble_eq_true rfl⟩ rfl rfl (Nat.le_of_ble_eq_true rfl) (fun Ec9 σ9 h9 => ?_) (fun rv9 σ9 h9 => ?_)
    · obtain ⟨x1, x2, x3⟩ := h9
      rw [x1, x2]
      exact gx_out C E ⟨Nat.le_of_ble_eq_true rfl, Nat.le_of_ble_eq_true rfl⟩ (⟨rfl, 0, if_neg hk, rfl⟩)
    · have h9c := h9.2.2
      exact absurd h9c (by decide)
  · refine g_dload_n C dX6_fan_11 2 rfl rfl ?_
    refine g_dconst0 C dX6_fan_12 ?_
    refine g_ldc2d (v := 4652007308841189376) C dX6_fan_13 1 rfl ?_
    refine g_callS (As := [.double f, .double FP.dconst0, .double 4652007308841189376]) (rest := []) C dX6_fan_16 (kX6_isWithin (xl X) (xK X) C.hD σ f FP.dconst0 k1000) 3 gX6_fan_X6_isWithin rfl (by decide +kernel) ⟨Nat.le_of_ble_eq_true rfl, Nat.le_of_ble_eq_true rfl⟩ ⟨Nat.le_of_ble_eq_true rfl, Nat.le_of_ble_eq_true rfl⟩ rfl rfl (Nat.le_of_ble_eq_true rfl) (fun rv9 σ9 h9 => ?_)
    obtain ⟨h9a, h9b⟩ := h9
    refine g_eq (σ2 := σ) (lv2 := [(0, .ref ((xK X).2.2 0)), (1, .double s), (3, .double f)]) (st2 := [.int (bI (wiB f FP.dconst0 k1000))]) h9b rfl (by rw [h9a]; rfl) ?_
    refine g_if_eq (tgt := 26) C dX6_fan_19 (by decide) (fun c_19 => ?_) (fun c_19 => ?_)
    · have hw1 := (bI_ne _).mp c_19
      have hk : ¬ (wiB s FP.dconst0 k1000 = true ∧ wiB f FP.dconst0 k1000 = true) := fun h => by
        rw [hw1] at h
        exact absurd h.2 (by decide)
      refine g_iconst (v := nI 0) C dX6_fan_26 (by decide +kernel) ?_
      refine g_topi (y := bI false) rfl ?_
      refine g_callSX (As := [.int (bI false)]) (rest := []) C E dX6_fan_27 (kX6_checkArgument (xl X) hl0 (xK X) C.hD σ false) 1 gX6_fan_X6_checkArgument rfl (by decide +kernel) ⟨Nat.le_of_ble_eq_true rfl, Nat.le_of_ble_eq_true rfl⟩ ⟨Nat.le_of_ble_eq_true rfl, Nat.le_of_ble_eq_true rfl⟩ rfl rfl (Nat.le_of_ble_eq_true rfl) (fun Ec9 σ9 h9 => ?_) (fun rv9 σ9 h9 => ?_)
      · obtain ⟨x1, x2, x3⟩ := h9
        rw [x1, x2]
        exact gx_out C E ⟨Nat.le_of_ble_eq_true rfl, Nat.le_of_ble_eq_true rfl⟩ (⟨rfl, 0, if_neg hk, rfl⟩)
      · have h9c := h9.2.2
        exact absurd h9c (by decide)
    · have hk : wiB s FP.dconst0 k1000 = true ∧ wiB f FP.dconst0 k1000 = true := ⟨bIt c_8, bIt c_19⟩
      refine g_iconst (v := nI 1) C dX6_fan_22 (by decide +kernel) ?_
      refine g_goto (tgt := 27) C dX6_fan_23 (by decide) ?_
      refine g_topi (y := bI true) rfl ?_
      refine g_callSX (As := [.int (bI true)]) (rest := []) C E dX6_fan_27 (kX6_checkArgument (xl X) hl0 (xK X) C.hD σ true) 1 gX6_fan_X6_checkArgument rfl (by decide +kernel) ⟨Nat.le_of_ble_eq_true rfl, Nat.le_of_ble_eq_true rfl⟩ ⟨Nat.le_of_ble_eq_true rfl, Nat.le_of_ble_eq_true rfl⟩ rfl rfl (Nat.le_of_ble_eq_true rfl) (fun Ec9 σ9 h9 => ?_) (fun rv9 σ9 h9 => ?_)
      · exact absurd h9.2.2 (by decide)
      · obtain ⟨h9a, h9b, -⟩ := h9
        refine g_eq (σ2 := σ) (lv2 := [(0, .ref ((xK X).2.2 0)), (1, .double s), (3, .double f)]) (st2 := []) h9b rfl (by rw [h9a]; rfl) ?_
        refine g_aload_n C dX6_fan_30 0 rfl rfl ?_
        refine g_iconst (v := nI 0) C dX6_fan_31 (by decide +kernel) ?_
        refine g_put (σ' := uN σ 1 (nI 0)) (ty := .boolean) C dX6_fan_32 wl0 rfl 6 (by decide) 2 rfl rfl inX6_fan_X6 tyX6_ok nmX6 rfl (by decide +kernel) rfl rfl (Nat.le_of_ble_eq_true rfl) wsN1 ?_
        refine g_aload_n C dX6_fan_35 0 rfl rfl ?_
        refine g_get C dX6_fan_36 wl0 rfl 0 (by decide) 3 rfl rfl rfl inX6_fan_X6 ?_
        refine g_get C dX6_fan_39 wl1 rfl 2 (by decide) 4 rfl rfl rfl inX6_fan_X0 ?_
        refine g_dload_n C dX6_fan_42 1 rfl rfl ?_
        refine g_put (σ' := uD (uN σ 1 (nI 0)) 0 s) (ty := .double) C dX6_fan_43 wl6 rfl 0 (by decide) 5 rfl rfl inX6_fan_X2 tyX2_ok nmX2 rfl (by decide +kernel) rfl rfl (Nat.le_of_ble_eq_true rfl) wsD0 ?_
        refine g_aload_n C dX6_fan_46 0 rfl rfl ?_
        refine g_get C dX6_fan_47 wl0 rfl 0 (by decide) 3 rfl rfl rfl inX6_fan_X6 ?_
        refine g_get C dX6_fan_50 wl1 rfl 2 (by decide) 4 rfl rfl rfl inX6_fan_X0 ?_
        refine g_dload_n C dX6_fan_53 2 rfl rfl ?_
        refine g_put (σ' := uD (uD (uN σ 1 (nI 0)) 0 s) 1 f) (ty := .double) C dX6_fan_54 wl6 rfl 1 (by decide) 6 rfl rfl inX6_fan_X2 tyX2_ok nmX2 rfl (by decide +kernel) rfl rfl (Nat.le_of_ble_eq_true rfl) wsD1 ?_
        refine g_vret C dX6_fan_57 rfl ⟨Nat.le_of_ble_eq_true rfl, Nat.le_of_ble_eq_true rfl⟩ ?_
        rw [hF]
        exact ⟨if_pos hk, rfl, rfl⟩

theorem inX6_solve_X6 : ∀ w ∈ u_ws RX6 TX6 7, w ∈ wsX6_solve := by decide +kernel
set_option maxHeartbeats 4000000 in
set_option maxRecDepth 100000 in
theorem kX6_solve (l : Launch) (hl0 : l.stackTraces = false) (K : gK) (hD : gD K) (σ : gS) (hI : Ic σ) (c : Int32) : CtX l yX6_solve wsX6_solve { frames := 7, cells := 1, slots := 6, locals := 120 } K [.ref (K.2.2 0), .int c] σ (fun r t => cdSolve c = 0 ∧ r = some (.int (sei (blA (opZ σ (tn c))).1)) ∧ ∃ w, t = uN (baS (opZ σ (tn c)) w (blA (opZ σ (tn c))).2.1 (blA (opZ σ (tn c))).2.2) 1 (bI (blA (opZ σ (tn c))).1.isSome)) (Th σ [eI] (cdSolve c)) := by
  refine CtX.of hl0 hD (by decide) rfl (Nat.le_of_ble_eq_true rfl) ?_
  intro X hL hK hF C E
  subst hL; subst hK
  refine g_eq (σ2 := σ) (lv2 := [(0, .ref ((xK X).2.2 0)), (1, .int c)]) (st2 := []) rfl rfl rfl ?_
  have h16 := hI.w.nd16
  have h8 := hI.w.nm8
  have hjj := hI.j
  refine g_iload_n C dX6_solve_0 1 rfl rfl ?_
  refine g_iconst (v := nI 4) C dX6_solve_1 (by decide +kernel) ?_
  refine g_callSX (As := [.int c, .int (nI 4)]) (rest := []) C E dX6_solve_2 (kX6_checkIndex (xl X) hl0 (xK X) C.hD σ c (nI 4)) 2 gX6_solve_X6_checkIndex rfl (by decide +kernel) ⟨Nat.le_of_ble_eq_true rfl, Nat.le_of_ble_eq_true rfl⟩ ⟨Nat.le_of_ble_eq_true rfl, Nat.le_of_ble_eq_true rfl⟩ rfl rfl (Nat.le_of_ble_eq_true rfl) (fun Ec9 σ9 h9 => ?_) (fun rv9 σ9 h9 => ?_)
  · obtain ⟨x1, x2, x3⟩ := h9
    rw [x1, x2]
    exact gx_out C E ⟨Nat.le_of_ble_eq_true rfl, Nat.le_of_ble_eq_true rfl⟩ (⟨rfl, 0, if_neg x3, rfl⟩)
  · obtain ⟨h9a, h9b, h9c, h9d⟩ := h9
    have hic : inR c 4 := ⟨h9c, h9d⟩
    refine g_eq (σ2 := σ) (lv2 := [(0, .ref ((xK X).2.2 0)), (1, .int c)]) (st2 := []) h9b rfl (by rw [h9a]; rfl) ?_
    have tc := inT hic (by decide)
    refine g_eq (σ2 := σ) (lv2 := [(0, .ref ((xK X).2.2 0)), (1, .int (nI (tn c)))]) (st2 := []) rfl (congrArg (fun z9 => ([(0, .ref ((xK X).2.2 0)), (1, .int z9)] : List (Nat × Value))) tc.1) rfl ?_
    refine g_aload_n C dX6_solve_5 0 rfl rfl ?_
    refine g_get C dX6_solve_6 wl0 rfl 0 (by decide) 1 rfl rfl rfl inX6_solve_X6 ?_
    refine g_iload_n C dX6_solve_9 1 rfl rfl ?_
    refine g_callV (As := [.int (nI (tn c))]) (rest := []) C dX6_solve_10 (kX0_balance (xl X) (xK X) C.hD σ hI.w hI.e hI.p (c := tn c) tc.2) wl1 rfl 1 gX6_solve_X0_balance rfl (by decide +kernel) ⟨Nat.le_of_ble_eq_true rfl, Nat.le_of_ble_eq_true rfl⟩ ⟨Nat.le_of_ble_eq_true rfl, Nat.le_of_ble_eq_true rfl⟩ rfl rfl (Nat.le_of_ble_eq_true rfl) (fun rv9 σ9 h9 => ?_)
    obtain ⟨h9a, w9, h9b⟩ := h9
    refine g_eq (σ2 := baS (opZ σ (tn c)) w9 (blA (opZ σ (tn c))).2.1 (blA (opZ σ (tn c))).2.2) (lv2 := [(0, .ref ((xK X).2.2 0)), (1, .int (nI (tn c)))]) (st2 := [.int (sei (blA (opZ σ (tn c))).1)]) h9b rfl (by rw [h9a]; rfl) ?_
    refine g_istore_n (lv' := [(2, .int (sei (blA (opZ σ (tn c))).1)), (0, .ref ((xK X).2.2 0)), (1, .int (nI (tn c)))]) C dX6_solve_13 rfl (by decide) rfl ?_
    refine g_aload_n C dX6_solve_14 1 rfl rfl ?_
    refine g_iload_n C dX6_solve_15 0 rfl rfl ?_
    refine g_iconst (v := (-1)) C dX6_solve_16 (by decide +kernel) ?_
    refine g_icmp_eq (tgt := 24) C dX6_solve_17 (by decide) (fun c_17 => ?_) (fun c_17 => ?_)
    · have hs : (blA (opZ σ (tn c))).1.isSome = false := sei_no (blA_le _) c_17
      refine g_iconst (v := nI 0) C dX6_solve_24 (by decide +kernel) ?_
      refine g_topi (y := bI (blA (opZ σ (tn c))).1.isSome) (by rw [hs]; rfl) ?_
      refine g_put (σ' := uN (baS (opZ σ (tn c)) w9 (blA (opZ σ (tn c))).2.1 (blA (opZ σ (tn c))).2.2) 1 (bI (blA (opZ σ (tn c))).1.isSome)) (ty := .boolean) C dX6_solve_25 wl0 rfl 6 (by decide) 2 rfl rfl inX6_solve_X6 tyX6_ok nmX6 rfl (by decide +kernel) (nar_bI _) (fitB _) (Nat.le_of_ble_eq_true rfl) wsN1 ?_
      refine g_iload_n C dX6_solve_28 0 rfl rfl ?_
      refine g_iret C dX6_solve_29 rfl ⟨Nat.le_of_ble_eq_true rfl, Nat.le_of_ble_eq_true rfl⟩ ?_
      rw [hF]
      exact ⟨if_pos hic, rfl, w9, rfl⟩
    · have hs : (blA (opZ σ (tn c))).1.isSome = true := sei_yes c_17
      refine g_iconst (v := nI 1) C dX6_solve_20 (by decide +kernel) ?_
      refine g_goto (tgt := 25) C dX6_solve_21 (by decide) ?_
      refine g_topi (y := bI (blA (opZ σ (tn c))).1.isSome) (by rw [hs]; rfl) ?_
      refine g_put (σ' := uN (baS (opZ σ (tn c)) w9 (blA (opZ σ (tn c))).2.1 (blA (opZ σ (tn c))).2.2) 1 (bI (blA (opZ σ (tn c))).1.isSome)) (ty := .boolean) C dX6_solve_25 wl0 rfl 6 (by decide) 2 rfl rfl inX6_solve_X6 tyX6_ok nmX6 rfl (by decide +kernel) (nar_bI _) (fitB _) (Nat.le_of_ble_eq_true rfl) wsN1 ?_
      refine g_iload_n C dX6_solve_28 0 rfl rfl ?_
      refine g_iret C dX6_solve_29 rfl ⟨Nat.le_of_ble_eq_true rfl, Nat.le_of_ble_eq_true rfl⟩ ?_
      rw [hF]
      exact ⟨if_pos hic, rfl, w9, rfl⟩

theorem inX6_at_X0 : ∀ w ∈ u_ws RX0 TX0 5, w ∈ wsX6_at := by decide +kernel
theorem inX6_at_X6 : ∀ w ∈ u_ws RX6 TX6 7, w ∈ wsX6_at := by decide +kernel
set_option maxHeartbeats 4000000 in
set_option maxRecDepth 100000 in
theorem kX6_at (l : Launch) (hl0 : l.stackTraces = false) (K : gK) (hD : gD K) (σ : gS) (hI : Ic σ) (a b : Int32) : CtX l yX6_at wsX6_at { frames := 7, cells := 3, slots := 18, locals := 103 } K [.ref (K.2.2 0), .int a, .int b] σ (fun r t => cdQ (nJ σ) 2 (svC σ) a b = 0 ∧ r = some (.double (atV σ (tn a) (tn b))) ∧ t = σ) (Th σ [eI, eS] (cdQ (nJ σ) 2 (svC σ) a b)) := by
  refine CtX.of hl0 hD (by decide) rfl (Nat.le_of_ble_eq_true rfl) ?_
  intro X hL hK hF C E
  subst hL; subst hK
  refine g_eq (σ2 := σ) (lv2 := [(0, .ref ((xK X).2.2 0)), (1, .int a), (2, .int b)]) (st2 := []) rfl rfl rfl ?_
  have h16 := hI.w.nd16
  have h8 := hI.w.nm8
  have hjj := hI.j
  refine g_iload_n C dX6_at_0 1 rfl rfl ?_
  refine g_aload_n C dX6_at_1 0 rfl rfl ?_
  refine g_get C dX6_at_2 wl0 rfl 5 (by decide) 1 rfl rfl rfl inX6_at_X6 ?_
  refine g_topi (y := nI (nJ σ)) hI.j.1 ?_
  refine g_callSX (As := [.int a, .int (nI (nJ σ))]) (rest := []) C E dX6_at_5 (kX6_checkIndex (xl X) hl0 (xK X) C.hD σ a (nI (nJ σ))) 2 gX6_at_X6_checkIndex rfl (by decide +kernel) ⟨Nat.le_of_ble_eq_true rfl, Nat.le_of_ble_eq_true rfl⟩ ⟨Nat.le_of_ble_eq_true rfl, Nat.le_of_ble_eq_true rfl⟩ rfl rfl (Nat.le_of_ble_eq_true rfl) (fun Ec9 σ9 h9 => ?_) (fun rv9 σ9 h9 => ?_)
  · obtain ⟨x1, x2, x3⟩ := h9
    rw [x1, x2]
    exact gx_out C E ⟨Nat.le_of_ble_eq_true rfl, Nat.le_of_ble_eq_true rfl⟩ (⟨rfl, 0, if_pos (fun h => x3 h.1), rfl⟩)
  · obtain ⟨h9a, h9b, h9c, h9d⟩ := h9
    have hia : inR a (nJ σ) := ⟨h9c, h9d⟩
    refine g_eq (σ2 := σ) (lv2 := [(0, .ref ((xK X).2.2 0)), (1, .int a), (2, .int b)]) (st2 := []) h9b rfl (by rw [h9a]; rfl) ?_
    refine g_iload_n C dX6_at_8 2 rfl rfl ?_
    refine g_iconst (v := nI 2) C dX6_at_9 (by decide +kernel) ?_
    refine g_callSX (As := [.int b, .int (nI 2)]) (rest := []) C E dX6_at_10 (kX6_checkIndex (xl X) hl0 (xK X) C.hD σ b (nI 2)) 2 gX6_at_X6_checkIndex rfl (by decide +kernel) ⟨Nat.le_of_ble_eq_true rfl, Nat.le_of_ble_eq_true rfl⟩ ⟨Nat.le_of_ble_eq_true rfl, Nat.le_of_ble_eq_true rfl⟩ rfl rfl (Nat.le_of_ble_eq_true rfl) (fun Ec9 σ9 h9 => ?_) (fun rv9 σ9 h9 => ?_)
    · obtain ⟨x1, x2, x3⟩ := h9
      rw [x1, x2]
      exact gx_out C E ⟨Nat.le_of_ble_eq_true rfl, Nat.le_of_ble_eq_true rfl⟩ (⟨rfl, 0, if_pos (fun h => x3 h.2), rfl⟩)
    · obtain ⟨h9a, h9b, h9c, h9d⟩ := h9
      have hib : inR b 2 := ⟨h9c, h9d⟩
      refine g_eq (σ2 := σ) (lv2 := [(0, .ref ((xK X).2.2 0)), (1, .int a), (2, .int b)]) (st2 := []) h9b rfl (by rw [h9a]; rfl) ?_
      refine g_aload_n C dX6_at_13 0 rfl rfl ?_
      refine g_get C dX6_at_14 wl0 rfl 6 (by decide) 2 rfl rfl rfl inX6_at_X6 ?_
      refine g_topi (y := bI (svC σ)) hI.sv ?_
      refine g_callSX (As := [.int (bI (svC σ))]) (rest := []) C E dX6_at_17 (kX6_checkState (xl X) hl0 (xK X) C.hD σ (svC σ)) 1 gX6_at_X6_checkState rfl (by decide +kernel) ⟨Nat.le_of_ble_eq_true rfl, Nat.le_of_ble_eq_true rfl⟩ ⟨Nat.le_of_ble_eq_true rfl, Nat.le_of_ble_eq_true rfl⟩ rfl rfl (Nat.le_of_ble_eq_true rfl) (fun Ec9 σ9 h9 => ?_) (fun rv9 σ9 h9 => ?_)
      · obtain ⟨x1, x2, x3⟩ := h9
        rw [x1, x2]
        exact gx_out C E ⟨Nat.le_of_ble_eq_true rfl, Nat.le_of_ble_eq_true rfl⟩ (⟨rfl, 1, (if_neg (fun h => h ⟨hia, hib⟩)).trans (if_neg (by rw [x3]; decide)), rfl⟩)
      · obtain ⟨h9a, h9b, hsv⟩ := h9
        refine g_eq (σ2 := σ) (lv2 := [(0, .ref ((xK X).2.2 0)), (1, .int a), (2, .int b)]) (st2 := []) h9b rfl (by rw [h9a]; rfl) ?_
        have ta := inT hia (by omega)
        have tb := inT hib (by decide)
        refine g_eq (σ2 := σ) (lv2 := [(0, .ref ((xK X).2.2 0)), (1, .int (nI (tn a))), (2, .int b)]) (st2 := []) rfl (congrArg (fun z9 => ([(0, .ref ((xK X).2.2 0)), (1, .int z9), (2, .int b)] : List (Nat × Value))) ta.1) rfl ?_
        refine g_eq (σ2 := σ) (lv2 := [(0, .ref ((xK X).2.2 0)), (1, .int (nI (tn a))), (2, .int (nI (tn b)))]) (st2 := []) rfl (congrArg (fun z9 => ([(0, .ref ((xK X).2.2 0)), (1, .int (nI (tn a))), (2, .int z9)] : List (Nat × Value))) tb.1) rfl ?_
        refine g_iload_n C dX6_at_20 2 rfl rfl ?_
        refine g_if_ne (tgt := 36) C dX6_at_21 (by decide) (fun c_21 => ?_) (fun c_21 => ?_)
        · have hb0 : ¬ tn b = 0 := fun h => c_21 (by rw [h]; rfl)
          refine g_aload_n C dX6_at_36 0 rfl rfl ?_
          refine g_get C dX6_at_37 wl0 rfl 0 (by decide) 3 rfl rfl rfl inX6_at_X6 ?_
          refine g_iload_n C dX6_at_40 1 rfl rfl ?_
          refine g_callV (As := [.int (nI (tn a))]) (rest := []) C dX6_at_41 (kX0_residual (xl X) (xK X) C.hD σ hI.w hI.e hI.p hI.P hI.G (j := tn a) (by omega)) wl1 rfl 1 gX6_at_X0_residual rfl (by decide +kernel) ⟨Nat.le_of_ble_eq_true rfl, Nat.le_of_ble_eq_true rfl⟩ ⟨Nat.le_of_ble_eq_true rfl, Nat.le_of_ble_eq_true rfl⟩ rfl rfl (Nat.le_of_ble_eq_true rfl) (fun rv9 σ9 h9 => ?_)
          obtain ⟨h9a, h9b⟩ := h9
          refine g_eq (σ2 := σ) (lv2 := [(0, .ref ((xK X).2.2 0)), (1, .int (nI (tn a))), (2, .int (nI (tn b)))]) (st2 := [.double (if tn a = 0 then FP.dconst0 else rsV (phC σ) (sF σ 7) (sF σ 18) (tn a))]) h9b rfl (by rw [h9a]; rfl) ?_
          refine g_dret C dX6_at_44 rfl ⟨Nat.le_of_ble_eq_true rfl, Nat.le_of_ble_eq_true rfl⟩ ?_
          rw [hF]
          exact ⟨(if_neg (fun h => h ⟨hia, hib⟩)).trans (if_pos hsv), by unfold atV; first | rw [if_pos hb0] | rw [if_neg hb0], rfl⟩
        · have hb0 : tn b = 0 := by
            refine (nI_eq (a := tn b) (b := 0) (by omega) (by decide)).mp ?_
            exact Decidable.byContradiction fun h => absurd c_21 h
          refine g_aload_n C dX6_at_24 0 rfl rfl ?_
          refine g_get C dX6_at_25 wl0 rfl 0 (by decide) 3 rfl rfl rfl inX6_at_X6 ?_
          refine g_get C dX6_at_28 wl1 rfl 3 (by decide) 4 rfl rfl rfl inX6_at_X0 ?_
          refine g_iload_n C dX6_at_31 1 rfl rfl ?_
          refine g_dald (j := (tn a)) C dX6_at_32 wl7 rfl (by omega) (by decide) ?_
          refine g_goto (tgt := 44) C dX6_at_33 (by decide) ?_
          refine g_dret C dX6_at_44 rfl ⟨Nat.le_of_ble_eq_true rfl, Nat.le_of_ble_eq_true rfl⟩ ?_
          rw [hF]
          exact ⟨(if_neg (fun h => h ⟨hia, hib⟩)).trans (if_pos hsv), by unfold atV; first | rw [if_pos hb0] | rw [if_neg hb0], rfl⟩

theorem inX6_draws_X4 : ∀ w ∈ u_ws RX4 TX4 6, w ∈ wsX6_draws := by decide +kernel
theorem inX6_draws_X6 : ∀ w ∈ u_ws RX6 TX6 7, w ∈ wsX6_draws := by decide +kernel
set_option maxHeartbeats 4000000 in
set_option maxRecDepth 100000 in
theorem kX6_draws (l : Launch) (hl0 : l.stackTraces = false) (K : gK) (hD : gD K) (σ : gS) (hI : Ic σ) (a b : Int32) : CtX l yX6_draws wsX6_draws { frames := 7, cells := 3, slots := 18, locals := 103 } K [.ref (K.2.2 0), .int a, .int b] σ (fun r t => cdQ (pM (phC σ)) 2 (svC σ) a b = 0 ∧ r = some (.double (dsV σ (tn a) (tn b))) ∧ t = σ) (Th σ [eI, eS] (cdQ (pM (phC σ)) 2 (svC σ) a b)) := by
  refine CtX.of hl0 hD (by decide) rfl (Nat.le_of_ble_eq_true rfl) ?_
  intro X hL hK hF C E
  subst hL; subst hK
  refine g_eq (σ2 := σ) (lv2 := [(0, .ref ((xK X).2.2 0)), (1, .int a), (2, .int b)]) (st2 := []) rfl rfl rfl ?_
  have h16 := hI.w.nd16
  have h8 := hI.w.nm8
  have hjj := hI.j
  refine g_iload_n C dX6_draws_0 1 rfl rfl ?_
  refine g_aload_n C dX6_draws_1 0 rfl rfl ?_
  refine g_get C dX6_draws_2 wl0 rfl 2 (by decide) 1 rfl rfl rfl inX6_draws_X6 ?_
  refine g_get C dX6_draws_5 wl3 rfl 0 (by decide) 2 rfl rfl rfl inX6_draws_X4 ?_
  refine g_topi (y := nI (pM (phC σ))) hI.w.nm ?_
  refine g_callSX (As := [.int a, .int (nI (pM (phC σ)))]) (rest := []) C E dX6_draws_8 (kX6_checkIndex (xl X) hl0 (xK X) C.hD σ a (nI (pM (phC σ)))) 2 gX6_draws_X6_checkIndex rfl (by decide +kernel) ⟨Nat.le_of_ble_eq_true rfl, Nat.le_of_ble_eq_true rfl⟩ ⟨Nat.le_of_ble_eq_true rfl, Nat.le_of_ble_eq_true rfl⟩ rfl rfl (Nat.le_of_ble_eq_true rfl) (fun Ec9 σ9 h9 => ?_) (fun rv9 σ9 h9 => ?_)
  · obtain ⟨x1, x2, x3⟩ := h9
    rw [x1, x2]
    exact gx_out C E ⟨Nat.le_of_ble_eq_true rfl, Nat.le_of_ble_eq_true rfl⟩ (⟨rfl, 0, if_pos (fun h => x3 h.1), rfl⟩)
  · obtain ⟨h9a, h9b, h9c, h9d⟩ := h9
    have hia : inR a (pM (phC σ)) := ⟨h9c, h9d⟩
    refine g_eq (σ2 := σ) (lv2 := [(0, .ref ((xK X).2.2 0)), (1, .int a), (2, .int b)]) (st2 := []) h9b rfl (by rw [h9a]; rfl) ?_
    refine g_iload_n C dX6_draws_11 2 rfl rfl ?_
    refine g_iconst (v := nI 2) C dX6_draws_12 (by decide +kernel) ?_
    refine g_callSX (As := [.int b, .int (nI 2)]) (rest := []) C E dX6_draws_13 (kX6_checkIndex (xl X) hl0 (xK X) C.hD σ b (nI 2)) 2 gX6_draws_X6_checkIndex rfl (by decide +kernel) ⟨Nat.le_of_ble_eq_true rfl, Nat.le_of_ble_eq_true rfl⟩ ⟨Nat.le_of_ble_eq_true rfl, Nat.le_of_ble_eq_true rfl⟩ rfl rfl (Nat.le_of_ble_eq_true rfl) (fun Ec9 σ9 h9 => ?_) (fun rv9 σ9 h9 => ?_)
    · obtain ⟨x1, x2, x3⟩ := h9
      rw [x1, x2]
      exact gx_out C E ⟨Nat.le_of_ble_eq_true rfl, Nat.le_of_ble_eq_true rfl⟩ (⟨rfl, 0, if_pos (fun h => x3 h.2), rfl⟩)
    · obtain ⟨h9a, h9b, h9c, h9d⟩ := h9
      have hib : inR b 2 := ⟨h9c, h9d⟩
      refine g_eq (σ2 := σ) (lv2 := [(0, .ref ((xK X).2.2 0)), (1, .int a), (2, .int b)]) (st2 := []) h9b rfl (by rw [h9a]; rfl) ?_
      refine g_aload_n C dX6_draws_16 0 rfl rfl ?_
      refine g_get C dX6_draws_17 wl0 rfl 6 (by decide) 3 rfl rfl rfl inX6_draws_X6 ?_
      refine g_topi (y := bI (svC σ)) hI.sv ?_
      refine g_callSX (As := [.int (bI (svC σ))]) (rest := []) C E dX6_draws_20 (kX6_checkState (xl X) hl0 (xK X) C.hD σ (svC σ)) 1 gX6_draws_X6_checkState rfl (by decide +kernel) ⟨Nat.le_of_ble_eq_true rfl, Nat.le_of_ble_eq_true rfl⟩ ⟨Nat.le_of_ble_eq_true rfl, Nat.le_of_ble_eq_true rfl⟩ rfl rfl (Nat.le_of_ble_eq_true rfl) (fun Ec9 σ9 h9 => ?_) (fun rv9 σ9 h9 => ?_)
      · obtain ⟨x1, x2, x3⟩ := h9
        rw [x1, x2]
        exact gx_out C E ⟨Nat.le_of_ble_eq_true rfl, Nat.le_of_ble_eq_true rfl⟩ (⟨rfl, 1, (if_neg (fun h => h ⟨hia, hib⟩)).trans (if_neg (by rw [x3]; decide)), rfl⟩)
      · obtain ⟨h9a, h9b, hsv⟩ := h9
        refine g_eq (σ2 := σ) (lv2 := [(0, .ref ((xK X).2.2 0)), (1, .int a), (2, .int b)]) (st2 := []) h9b rfl (by rw [h9a]; rfl) ?_
        have ta := inT hia (by omega)
        have tb := inT hib (by decide)
        refine g_eq (σ2 := σ) (lv2 := [(0, .ref ((xK X).2.2 0)), (1, .int (nI (tn a))), (2, .int b)]) (st2 := []) rfl (congrArg (fun z9 => ([(0, .ref ((xK X).2.2 0)), (1, .int z9), (2, .int b)] : List (Nat × Value))) ta.1) rfl ?_
        refine g_eq (σ2 := σ) (lv2 := [(0, .ref ((xK X).2.2 0)), (1, .int (nI (tn a))), (2, .int (nI (tn b)))]) (st2 := []) rfl (congrArg (fun z9 => ([(0, .ref ((xK X).2.2 0)), (1, .int (nI (tn a))), (2, .int z9)] : List (Nat × Value))) tb.1) rfl ?_
        refine g_iload_n C dX6_draws_23 2 rfl rfl ?_
        refine g_if_ne (tgt := 39) C dX6_draws_24 (by decide) (fun c_24 => ?_) (fun c_24 => ?_)
        · have hb0 : ¬ tn b = 0 := fun h => c_24 (by rw [h]; rfl)
          refine g_aload_n C dX6_draws_39 0 rfl rfl ?_
          refine g_get C dX6_draws_40 wl0 rfl 0 (by decide) 5 rfl rfl rfl inX6_draws_X6 ?_
          refine g_iload_n C dX6_draws_43 1 rfl rfl ?_
          refine g_callV (As := [.int (nI (tn a))]) (rest := []) C dX6_draws_44 (kX0_draw (xl X) (xK X) C.hD σ hI.w hI.p hI.P hI.G (m := tn a) (by omega)) wl1 rfl 1 gX6_draws_X0_draw rfl (by decide +kernel) ⟨Nat.le_of_ble_eq_true rfl, Nat.le_of_ble_eq_true rfl⟩ ⟨Nat.le_of_ble_eq_true rfl, Nat.le_of_ble_eq_true rfl⟩ rfl rfl (Nat.le_of_ble_eq_true rfl) (fun rv9 σ9 h9 => ?_)
          obtain ⟨h9a, h9b⟩ := h9
          refine g_eq (σ2 := σ) (lv2 := [(0, .ref ((xK X).2.2 0)), (1, .int (nI (tn a))), (2, .int (nI (tn b)))]) (st2 := [.double (drV (phC σ) (sF σ 7) (sF σ 18) (tn a))]) h9b rfl (by rw [h9a]; rfl) ?_
          refine g_dret C dX6_draws_47 rfl ⟨Nat.le_of_ble_eq_true rfl, Nat.le_of_ble_eq_true rfl⟩ ?_
          rw [hF]
          exact ⟨(if_neg (fun h => h ⟨hia, hib⟩)).trans (if_pos hsv), by unfold dsV; first | rw [if_pos hb0] | rw [if_neg hb0], rfl⟩
        · have hb0 : tn b = 0 := by
            refine (nI_eq (a := tn b) (b := 0) (by omega) (by decide)).mp ?_
            exact Decidable.byContradiction fun h => absurd c_24 h
          refine g_aload_n C dX6_draws_27 0 rfl rfl ?_
          refine g_get C dX6_draws_28 wl0 rfl 2 (by decide) 1 rfl rfl rfl inX6_draws_X6 ?_
          refine g_get C dX6_draws_31 wl3 rfl 3 (by decide) 4 rfl rfl rfl inX6_draws_X4 ?_
          refine g_iload_n C dX6_draws_34 1 rfl rfl ?_
          refine g_dald (j := (tn a)) C dX6_draws_35 wl18 rfl (by omega) (by decide) ?_
          refine g_goto (tgt := 47) C dX6_draws_36 (by decide) ?_
          refine g_dret C dX6_draws_47 rfl ⟨Nat.le_of_ble_eq_true rfl, Nat.le_of_ble_eq_true rfl⟩ ?_
          rw [hF]
          exact ⟨(if_neg (fun h => h ⟨hia, hib⟩)).trans (if_pos hsv), by unfold dsV; first | rw [if_pos hb0] | rw [if_neg hb0], rfl⟩

theorem inX6_of_X1 : ∀ w ∈ u_ws RX1 TX1 8, w ∈ wsX6_of := by decide +kernel
theorem inX6_of_X3 : ∀ w ∈ u_ws RX3 TX3 3, w ∈ wsX6_of := by decide +kernel
theorem inX6_of_X6 : ∀ w ∈ u_ws RX6 TX6 7, w ∈ wsX6_of := by decide +kernel
set_option maxHeartbeats 4000000 in
set_option maxRecDepth 100000 in
theorem kX6_of (l : Launch) (hl0 : l.stackTraces = false) (K : gK) (hD : gD K) (σ : gS) (hI : Ic σ) (a b : Int32) : CtX l yX6_of wsX6_of { frames := 7, cells := 3, slots := 18, locals := 103 } K [.ref (K.2.2 0), .int a, .int b] σ (fun r t => cdQ (pD (phC σ)) 4 (svC σ) a b = 0 ∧ r = some (.double (ofV σ (tn a) (tn b))) ∧ t = σ) (Th σ [eI, eS] (cdQ (pD (phC σ)) 4 (svC σ) a b)) := by
  refine CtX.of hl0 hD (by decide) rfl (Nat.le_of_ble_eq_true rfl) ?_
  intro X hL hK hF C E
  subst hL; subst hK
  refine g_eq (σ2 := σ) (lv2 := [(0, .ref ((xK X).2.2 0)), (1, .int a), (2, .int b)]) (st2 := []) rfl rfl rfl ?_
  have h16 := hI.w.nd16
  have h8 := hI.w.nm8
  have hjj := hI.j
  refine g_iload_n C dX6_of_0 1 rfl rfl ?_
  refine g_aload_n C dX6_of_1 0 rfl rfl ?_
  refine g_get C dX6_of_2 wl0 rfl 1 (by decide) 1 rfl rfl rfl inX6_of_X6 ?_
  refine g_get C dX6_of_5 wl2 rfl 0 (by decide) 2 rfl rfl rfl inX6_of_X1 ?_
  refine g_topi (y := nI (pD (phC σ))) hI.w.nd ?_
  refine g_callSX (As := [.int a, .int (nI (pD (phC σ)))]) (rest := []) C E dX6_of_8 (kX6_checkIndex (xl X) hl0 (xK X) C.hD σ a (nI (pD (phC σ)))) 2 gX6_of_X6_checkIndex rfl (by decide +kernel) ⟨Nat.le_of_ble_eq_true rfl, Nat.le_of_ble_eq_true rfl⟩ ⟨Nat.le_of_ble_eq_true rfl, Nat.le_of_ble_eq_true rfl⟩ rfl rfl (Nat.le_of_ble_eq_true rfl) (fun Ec9 σ9 h9 => ?_) (fun rv9 σ9 h9 => ?_)
  · obtain ⟨x1, x2, x3⟩ := h9
    rw [x1, x2]
    exact gx_out C E ⟨Nat.le_of_ble_eq_true rfl, Nat.le_of_ble_eq_true rfl⟩ (⟨rfl, 0, if_pos (fun h => x3 h.1), rfl⟩)
  · obtain ⟨h9a, h9b, h9c, h9d⟩ := h9
    have hia : inR a (pD (phC σ)) := ⟨h9c, h9d⟩
    refine g_eq (σ2 := σ) (lv2 := [(0, .ref ((xK X).2.2 0)), (1, .int a), (2, .int b)]) (st2 := []) h9b rfl (by rw [h9a]; rfl) ?_
    refine g_iload_n C dX6_of_11 2 rfl rfl ?_
    refine g_iconst (v := nI 4) C dX6_of_12 (by decide +kernel) ?_
    refine g_callSX (As := [.int b, .int (nI 4)]) (rest := []) C E dX6_of_13 (kX6_checkIndex (xl X) hl0 (xK X) C.hD σ b (nI 4)) 2 gX6_of_X6_checkIndex rfl (by decide +kernel) ⟨Nat.le_of_ble_eq_true rfl, Nat.le_of_ble_eq_true rfl⟩ ⟨Nat.le_of_ble_eq_true rfl, Nat.le_of_ble_eq_true rfl⟩ rfl rfl (Nat.le_of_ble_eq_true rfl) (fun Ec9 σ9 h9 => ?_) (fun rv9 σ9 h9 => ?_)
    · obtain ⟨x1, x2, x3⟩ := h9
      rw [x1, x2]
      exact gx_out C E ⟨Nat.le_of_ble_eq_true rfl, Nat.le_of_ble_eq_true rfl⟩ (⟨rfl, 0, if_pos (fun h => x3 h.2), rfl⟩)
    · obtain ⟨h9a, h9b, h9c, h9d⟩ := h9
      have hib : inR b 4 := ⟨h9c, h9d⟩
      refine g_eq (σ2 := σ) (lv2 := [(0, .ref ((xK X).2.2 0)), (1, .int a), (2, .int b)]) (st2 := []) h9b rfl (by rw [h9a]; rfl) ?_
      refine g_aload_n C dX6_of_16 0 rfl rfl ?_
      refine g_get C dX6_of_17 wl0 rfl 6 (by decide) 3 rfl rfl rfl inX6_of_X6 ?_
      refine g_topi (y := bI (svC σ)) hI.sv ?_
      refine g_callSX (As := [.int (bI (svC σ))]) (rest := []) C E dX6_of_20 (kX6_checkState (xl X) hl0 (xK X) C.hD σ (svC σ)) 1 gX6_of_X6_checkState rfl (by decide +kernel) ⟨Nat.le_of_ble_eq_true rfl, Nat.le_of_ble_eq_true rfl⟩ ⟨Nat.le_of_ble_eq_true rfl, Nat.le_of_ble_eq_true rfl⟩ rfl rfl (Nat.le_of_ble_eq_true rfl) (fun Ec9 σ9 h9 => ?_) (fun rv9 σ9 h9 => ?_)
      · obtain ⟨x1, x2, x3⟩ := h9
        rw [x1, x2]
        exact gx_out C E ⟨Nat.le_of_ble_eq_true rfl, Nat.le_of_ble_eq_true rfl⟩ (⟨rfl, 1, (if_neg (fun h => h ⟨hia, hib⟩)).trans (if_neg (by rw [x3]; decide)), rfl⟩)
      · obtain ⟨h9a, h9b, hsv⟩ := h9
        refine g_eq (σ2 := σ) (lv2 := [(0, .ref ((xK X).2.2 0)), (1, .int a), (2, .int b)]) (st2 := []) h9b rfl (by rw [h9a]; rfl) ?_
        have ta := inT hia (by omega)
        have tb := inT hib (by decide)
        refine g_eq (σ2 := σ) (lv2 := [(0, .ref ((xK X).2.2 0)), (1, .int (nI (tn a))), (2, .int b)]) (st2 := []) rfl (congrArg (fun z9 => ([(0, .ref ((xK X).2.2 0)), (1, .int z9), (2, .int b)] : List (Nat × Value))) ta.1) rfl ?_
        refine g_eq (σ2 := σ) (lv2 := [(0, .ref ((xK X).2.2 0)), (1, .int (nI (tn a))), (2, .int (nI (tn b)))]) (st2 := []) rfl (congrArg (fun z9 => ([(0, .ref ((xK X).2.2 0)), (1, .int (nI (tn a))), (2, .int z9)] : List (Nat × Value))) tb.1) rfl ?_
        refine g_iload_n C dX6_of_23 2 rfl rfl ?_
        rcases in4 hib with e9 | e9 | e9 | e9
        · refine g_tableIn (off := 28) (tgt := 52) C dX6_of_24 (by rw [e9]; decide) (by rw [e9]; decide) (by rw [e9]; decide) (by decide) ?_
          refine g_aload_n C dX6_of_52 0 rfl rfl ?_
          refine g_get C dX6_of_53 wl0 rfl 0 (by decide) 4 rfl rfl rfl inX6_of_X6 ?_
          refine g_iload_n C dX6_of_56 1 rfl rfl ?_
          refine g_callV (As := [.int (nI (tn a))]) (rest := []) C dX6_of_57 (kX0_flow (xl X) (xK X) C.hD σ hI.w hI.e hI.p hI.P (d := tn a) ta.2) wl1 rfl 1 gX6_of_X0_flow rfl (by decide +kernel) ⟨Nat.le_of_ble_eq_true rfl, Nat.le_of_ble_eq_true rfl⟩ ⟨Nat.le_of_ble_eq_true rfl, Nat.le_of_ble_eq_true rfl⟩ rfl rfl (Nat.le_of_ble_eq_true rfl) (fun rv9 σ9 h9 => ?_)
          obtain ⟨h9a, h9b⟩ := h9
          refine g_eq (σ2 := σ) (lv2 := [(0, .ref ((xK X).2.2 0)), (1, .int (nI (tn a))), (2, .int (nI (tn b)))]) (st2 := [.double (flw (phC σ) (sF σ 7) (tn a))]) h9b rfl (by rw [h9a]; rfl) ?_
          refine g_dret C dX6_of_60 rfl ⟨Nat.le_of_ble_eq_true rfl, Nat.le_of_ble_eq_true rfl⟩ ?_
          rw [hF]
          exact ⟨(if_neg (fun h => h ⟨hia, hib⟩)).trans (if_pos hsv), by rw [e9]; rfl, rfl⟩
        · refine g_tableIn (off := 37) (tgt := 61) C dX6_of_24 (by rw [e9]; decide) (by rw [e9]; decide) (by rw [e9]; decide) (by decide) ?_
          refine g_aload_n C dX6_of_61 0 rfl rfl ?_
          refine g_get C dX6_of_62 wl0 rfl 0 (by decide) 4 rfl rfl rfl inX6_of_X6 ?_
          refine g_iload_n C dX6_of_65 1 rfl rfl ?_
          refine g_callV (As := [.int (nI (tn a))]) (rest := []) C dX6_of_66 (kX0_speed (xl X) (xK X) C.hD σ hI.w hI.e hI.p hI.P (d := tn a) ta.2 (hI.wl _ ta.2).1) wl1 rfl 1 gX6_of_X0_speed rfl (by decide +kernel) ⟨Nat.le_of_ble_eq_true rfl, Nat.le_of_ble_eq_true rfl⟩ ⟨Nat.le_of_ble_eq_true rfl, Nat.le_of_ble_eq_true rfl⟩ rfl rfl (Nat.le_of_ble_eq_true rfl) (fun rv9 σ9 h9 => ?_)
          obtain ⟨h9a, h9b⟩ := h9
          refine g_eq (σ2 := σ) (lv2 := [(0, .ref ((xK X).2.2 0)), (1, .int (nI (tn a))), (2, .int (nI (tn b)))]) (st2 := [.double (spd (phC σ) (sF σ 7) (sF σ 12) (tn a))]) h9b rfl (by rw [h9a]; rfl) ?_
          refine g_dret C dX6_of_69 rfl ⟨Nat.le_of_ble_eq_true rfl, Nat.le_of_ble_eq_true rfl⟩ ?_
          rw [hF]
          exact ⟨(if_neg (fun h => h ⟨hia, hib⟩)).trans (if_pos hsv), by rw [e9]; rfl, rfl⟩
        · refine g_tableIn (off := 46) (tgt := 70) C dX6_of_24 (by rw [e9]; decide) (by rw [e9]; decide) (by rw [e9]; decide) (by decide) ?_
          refine g_aload_n C dX6_of_70 0 rfl rfl ?_
          refine g_get C dX6_of_71 wl0 rfl 1 (by decide) 1 rfl rfl rfl inX6_of_X6 ?_
          refine g_get C dX6_of_74 wl2 rfl 5 (by decide) 5 rfl rfl rfl inX6_of_X1 ?_
          refine g_iload_n C dX6_of_77 1 rfl rfl ?_
          refine g_dald (j := (tn a)) C dX6_of_78 wl13 rfl (by omega) (by decide) ?_
          refine g_dret C dX6_of_79 rfl ⟨Nat.le_of_ble_eq_true rfl, Nat.le_of_ble_eq_true rfl⟩ ?_
          rw [hF]
          exact ⟨(if_neg (fun h => h ⟨hia, hib⟩)).trans (if_pos hsv), by rw [e9]; rfl, rfl⟩
        · refine g_tableOut (tgt := 80) C dX6_of_24 (by rw [e9]; decide) (by decide) ?_
          refine g_aload_n C dX6_of_80 0 rfl rfl ?_
          refine g_get C dX6_of_81 wl0 rfl 3 (by decide) 6 rfl rfl rfl inX6_of_X6 ?_
          refine g_get C dX6_of_84 wl4 rfl 0 (by decide) 7 rfl rfl rfl inX6_of_X3 ?_
          refine g_iload_n C dX6_of_87 1 rfl rfl ?_
          refine g_dald (j := (tn a)) C dX6_of_88 wl21 rfl (by omega) (by decide) ?_
          refine g_dret C dX6_of_89 rfl ⟨Nat.le_of_ble_eq_true rfl, Nat.le_of_ble_eq_true rfl⟩ ?_
          rw [hF]
          exact ⟨(if_neg (fun h => h ⟨hia, hib⟩)).trans (if_pos hsv), by rw [e9]; rfl, rfl⟩

theorem inX6_keeps_X6 : ∀ w ∈ u_ws RX6 TX6 7, w ∈ wsX6_keeps := by decide +kernel
set_option maxHeartbeats 4000000 in
set_option maxRecDepth 100000 in
theorem kX6_keeps (l : Launch) (hl0 : l.stackTraces = false) (K : gK) (hD : gD K) (σ : gS) (hI : Ic σ) (least : UInt64) : CtX l yX6_keeps wsX6_keeps { frames := 7, cells := 2, slots := 12, locals := 102 } K [.ref (K.2.2 0), .double least] σ (fun r t => cdKeeps (svC σ) least = 0 ∧ r = some (.int (bI (allB (kpB (phC σ) (sF σ 7) (sF σ 12) least) (pD (phC σ))))) ∧ t = σ) (Th σ [eA, eS] (cdKeeps (svC σ) least)) := by
  refine CtX.of hl0 hD (by decide) rfl (Nat.le_of_ble_eq_true rfl) ?_
  intro X hL hK hF C E
  subst hL; subst hK
  refine g_eq (σ2 := σ) (lv2 := [(0, .ref ((xK X).2.2 0)), (1, .double least)]) (st2 := []) rfl rfl rfl ?_
  have h16 := hI.w.nd16
  have h8 := hI.w.nm8
  have hjj := hI.j
  refine g_dload_n C dX6_keeps_0 1 rfl rfl ?_
  refine g_dconst0 C dX6_keeps_1 ?_
  refine g_dcmp C dX6_keeps_2 ?_
  refine g_if_lt (tgt := 10) C dX6_keeps_3 (by decide) (fun c_3 => ?_) (fun c_3 => ?_)
  · refine g_iconst (v := nI 0) C dX6_keeps_10 (by decide +kernel) ?_
    refine g_topi (y := bI false) rfl ?_
    refine g_callSX (As := [.int (bI false)]) (rest := []) C E dX6_keeps_11 (kX6_checkArgument (xl X) hl0 (xK X) C.hD σ false) 1 gX6_keeps_X6_checkArgument rfl (by decide +kernel) ⟨Nat.le_of_ble_eq_true rfl, Nat.le_of_ble_eq_true rfl⟩ ⟨Nat.le_of_ble_eq_true rfl, Nat.le_of_ble_eq_true rfl⟩ rfl rfl (Nat.le_of_ble_eq_true rfl) (fun Ec9 σ9 h9 => ?_) (fun rv9 σ9 h9 => ?_)
    · obtain ⟨x1, x2, x3⟩ := h9
      rw [x1, x2]
      exact gx_out C E ⟨Nat.le_of_ble_eq_true rfl, Nat.le_of_ble_eq_true rfl⟩ (⟨rfl, 0, if_pos c_3, rfl⟩)
    · have h9c := h9.2.2
      exact absurd h9c (by decide)
  · refine g_iconst (v := nI 1) C dX6_keeps_6 (by decide +kernel) ?_
    refine g_goto (tgt := 11) C dX6_keeps_7 (by decide) ?_
    refine g_topi (y := bI true) rfl ?_
    refine g_callSX (As := [.int (bI true)]) (rest := []) C E dX6_keeps_11 (kX6_checkArgument (xl X) hl0 (xK X) C.hD σ true) 1 gX6_keeps_X6_checkArgument rfl (by decide +kernel) ⟨Nat.le_of_ble_eq_true rfl, Nat.le_of_ble_eq_true rfl⟩ ⟨Nat.le_of_ble_eq_true rfl, Nat.le_of_ble_eq_true rfl⟩ rfl rfl (Nat.le_of_ble_eq_true rfl) (fun Ec9 σ9 h9 => ?_) (fun rv9 σ9 h9 => ?_)
    · exact absurd h9.2.2 (by decide)
    · obtain ⟨h9a, h9b, -⟩ := h9
      refine g_eq (σ2 := σ) (lv2 := [(0, .ref ((xK X).2.2 0)), (1, .double least)]) (st2 := []) h9b rfl (by rw [h9a]; rfl) ?_
      refine g_aload_n C dX6_keeps_14 0 rfl rfl ?_
      refine g_get C dX6_keeps_15 wl0 rfl 6 (by decide) 1 rfl rfl rfl inX6_keeps_X6 ?_
      refine g_topi (y := bI (svC σ)) hI.sv ?_
      refine g_callSX (As := [.int (bI (svC σ))]) (rest := []) C E dX6_keeps_18 (kX6_checkState (xl X) hl0 (xK X) C.hD σ (svC σ)) 1 gX6_keeps_X6_checkState rfl (by decide +kernel) ⟨Nat.le_of_ble_eq_true rfl, Nat.le_of_ble_eq_true rfl⟩ ⟨Nat.le_of_ble_eq_true rfl, Nat.le_of_ble_eq_true rfl⟩ rfl rfl (Nat.le_of_ble_eq_true rfl) (fun Ec9 σ9 h9 => ?_) (fun rv9 σ9 h9 => ?_)
      · obtain ⟨x1, x2, x3⟩ := h9
        rw [x1, x2]
        exact gx_out C E ⟨Nat.le_of_ble_eq_true rfl, Nat.le_of_ble_eq_true rfl⟩ (⟨rfl, 1, (if_neg c_3).trans (if_neg (by rw [x3]; decide)), rfl⟩)
      · obtain ⟨h9a, h9b, hsv⟩ := h9
        refine g_eq (σ2 := σ) (lv2 := [(0, .ref ((xK X).2.2 0)), (1, .double least)]) (st2 := []) h9b rfl (by rw [h9a]; rfl) ?_
        refine g_aload_n C dX6_keeps_21 0 rfl rfl ?_
        refine g_get C dX6_keeps_22 wl0 rfl 0 (by decide) 2 rfl rfl rfl inX6_keeps_X6 ?_
        refine g_dload_n C dX6_keeps_25 1 rfl rfl ?_
        refine g_callV (As := [.double least]) (rest := []) C dX6_keeps_26 (kX0_isEachSpeedAtLeast (xl X) (xK X) C.hD σ hI.w hI.e hI.p hI.P (fun d hd => (hI.wl d hd).1) least) wl1 rfl 1 gX6_keeps_X0_isEachSpeedAtLeast rfl (by decide +kernel) ⟨Nat.le_of_ble_eq_true rfl, Nat.le_of_ble_eq_true rfl⟩ ⟨Nat.le_of_ble_eq_true rfl, Nat.le_of_ble_eq_true rfl⟩ rfl rfl (Nat.le_of_ble_eq_true rfl) (fun rv9 σ9 h9 => ?_)
        obtain ⟨h9a, h9b⟩ := h9
        refine g_eq (σ2 := σ) (lv2 := [(0, .ref ((xK X).2.2 0)), (1, .double least)]) (st2 := [.int (bI (allB (kpB (phC σ) (sF σ 7) (sF σ 12) least) (pD (phC σ))))]) h9b rfl (by rw [h9a]; rfl) ?_
        refine g_zret C dX6_keeps_29 rfl (nar_bI _) ⟨Nat.le_of_ble_eq_true rfl, Nat.le_of_ble_eq_true rfl⟩ ?_
        rw [hF]
        exact ⟨(if_neg c_3).trans (if_pos hsv), rfl, rfl⟩

theorem inX6_list_X5 : ∀ w ∈ u_ws RX5 TX5 4, w ∈ wsX6_list := by decide +kernel
theorem inX6_list_X6 : ∀ w ∈ u_ws RX6 TX6 7, w ∈ wsX6_list := by decide +kernel
set_option maxHeartbeats 4000000 in
set_option maxRecDepth 100000 in
theorem kX6_list (l : Launch) (hl0 : l.stackTraces = false) (K : gK) (hD : gD K) (σ : gS) (hI : Ic σ) (wd : UInt64) (x : Int32) : CtX l yX6_list wsX6_list { frames := 7, cells := 2, slots := 12, locals := 102 } K [.ref (K.2.2 0), .double wd, .int x] σ (fun r t => cdList (nS σ) wd x = 0 ∧ r = some (.int (nI (nS σ))) ∧ t = siS σ (nS σ) wd x) (Th σ [eA, eS] (cdList (nS σ) wd x)) := by
  refine CtX.of hl0 hD (by decide) rfl (Nat.le_of_ble_eq_true rfl) ?_
  intro X hL hK hF C E
  subst hL; subst hK
  refine g_eq (σ2 := σ) (lv2 := [(0, .ref ((xK X).2.2 0)), (1, .double wd), (3, .int x)]) (st2 := []) rfl rfl rfl ?_
  refine g_dload_n C dX6_list_0 1 rfl rfl ?_
  refine g_ldc2d (v := 4593671619917905920) C dX6_list_1 1 rfl ?_
  refine g_ldc2d (v := 4636737291354636288) C dX6_list_4 2 rfl ?_
  refine g_callS (As := [.double wd, .double 4593671619917905920, .double 4636737291354636288]) (rest := []) C dX6_list_7 (kX6_isWithin (xl X) (xK X) C.hD σ wd k125 k100) 3 gX6_list_X6_isWithin rfl (by decide +kernel) ⟨Nat.le_of_ble_eq_true rfl, Nat.le_of_ble_eq_true rfl⟩ ⟨Nat.le_of_ble_eq_true rfl, Nat.le_of_ble_eq_true rfl⟩ rfl rfl (Nat.le_of_ble_eq_true rfl) (fun rv9 σ9 h9 => ?_)
  obtain ⟨h9a, h9b⟩ := h9
  refine g_eq (σ2 := σ) (lv2 := [(0, .ref ((xK X).2.2 0)), (1, .double wd), (3, .int x)]) (st2 := [.int (bI (wiB wd k125 k100))]) h9b rfl (by rw [h9a]; rfl) ?_
  refine g_if_eq (tgt := 27) C dX6_list_10 (by decide) (fun c_10 => ?_) (fun c_10 => ?_)
  · have hw1 := (bI_ne _).mp c_10
    have hk : ¬ (wiB wd k125 k100 = true ∧ ¬ x < 0 ∧ x ≤ 1000000) := fun h => by
      rw [hw1] at h
      exact absurd h.1 (by decide)
    refine g_iconst (v := nI 0) C dX6_list_27 (by decide +kernel) ?_
    refine g_topi (y := bI false) rfl ?_
    refine g_callSX (As := [.int (bI false)]) (rest := []) C E dX6_list_28 (kX6_checkArgument (xl X) hl0 (xK X) C.hD σ false) 1 gX6_list_X6_checkArgument rfl (by decide +kernel) ⟨Nat.le_of_ble_eq_true rfl, Nat.le_of_ble_eq_true rfl⟩ ⟨Nat.le_of_ble_eq_true rfl, Nat.le_of_ble_eq_true rfl⟩ rfl rfl (Nat.le_of_ble_eq_true rfl) (fun Ec9 σ9 h9 => ?_) (fun rv9 σ9 h9 => ?_)
    · obtain ⟨x1, x2, x3⟩ := h9
      rw [x1, x2]
      exact gx_out C E ⟨Nat.le_of_ble_eq_true rfl, Nat.le_of_ble_eq_true rfl⟩ (⟨rfl, 0, if_pos hk, rfl⟩)
    · have h9c := h9.2.2
      exact absurd h9c (by decide)
  · refine g_iload_n C dX6_list_13 2 rfl rfl ?_
    refine g_if_lt (tgt := 27) C dX6_list_14 (by decide) (fun c_14 => ?_) (fun c_14 => ?_)
    · have hk : ¬ (wiB wd k125 k100 = true ∧ ¬ x < 0 ∧ x ≤ 1000000) := fun h => h.2.1 c_14
      refine g_iconst (v := nI 0) C dX6_list_27 (by decide +kernel) ?_
      refine g_topi (y := bI false) rfl ?_
      refine g_callSX (As := [.int (bI false)]) (rest := []) C E dX6_list_28 (kX6_checkArgument (xl X) hl0 (xK X) C.hD σ false) 1 gX6_list_X6_checkArgument rfl (by decide +kernel) ⟨Nat.le_of_ble_eq_true rfl, Nat.le_of_ble_eq_true rfl⟩ ⟨Nat.le_of_ble_eq_true rfl, Nat.le_of_ble_eq_true rfl⟩ rfl rfl (Nat.le_of_ble_eq_true rfl) (fun Ec9 σ9 h9 => ?_) (fun rv9 σ9 h9 => ?_)
      · obtain ⟨x1, x2, x3⟩ := h9
        rw [x1, x2]
        exact gx_out C E ⟨Nat.le_of_ble_eq_true rfl, Nat.le_of_ble_eq_true rfl⟩ (⟨rfl, 0, if_pos hk, rfl⟩)
      · have h9c := h9.2.2
        exact absurd h9c (by decide)
    · refine g_iload_n C dX6_list_17 2 rfl rfl ?_
      refine g_ldc (v := 1000000) C dX6_list_18 3 rfl ?_
      refine g_icmp_gt (tgt := 27) C dX6_list_20 (by decide) (fun c_20 => ?_) (fun c_20 => ?_)
      · have hk : ¬ (wiB wd k125 k100 = true ∧ ¬ x < 0 ∧ x ≤ 1000000) := fun h => absurd h.2.2 (Int32.not_le.mpr c_20)
        refine g_iconst (v := nI 0) C dX6_list_27 (by decide +kernel) ?_
        refine g_topi (y := bI false) rfl ?_
        refine g_callSX (As := [.int (bI false)]) (rest := []) C E dX6_list_28 (kX6_checkArgument (xl X) hl0 (xK X) C.hD σ false) 1 gX6_list_X6_checkArgument rfl (by decide +kernel) ⟨Nat.le_of_ble_eq_true rfl, Nat.le_of_ble_eq_true rfl⟩ ⟨Nat.le_of_ble_eq_true rfl, Nat.le_of_ble_eq_true rfl⟩ rfl rfl (Nat.le_of_ble_eq_true rfl) (fun Ec9 σ9 h9 => ?_) (fun rv9 σ9 h9 => ?_)
        · obtain ⟨x1, x2, x3⟩ := h9
          rw [x1, x2]
          exact gx_out C E ⟨Nat.le_of_ble_eq_true rfl, Nat.le_of_ble_eq_true rfl⟩ (⟨rfl, 0, if_pos hk, rfl⟩)
        · have h9c := h9.2.2
          exact absurd h9c (by decide)
      · have hk : wiB wd k125 k100 = true ∧ ¬ x < 0 ∧ x ≤ 1000000 := ⟨bIt c_10, c_14, Int32.not_lt.mp c_20⟩
        refine g_iconst (v := nI 1) C dX6_list_23 (by decide +kernel) ?_
        refine g_goto (tgt := 28) C dX6_list_24 (by decide) ?_
        refine g_topi (y := bI true) rfl ?_
        refine g_callSX (As := [.int (bI true)]) (rest := []) C E dX6_list_28 (kX6_checkArgument (xl X) hl0 (xK X) C.hD σ true) 1 gX6_list_X6_checkArgument rfl (by decide +kernel) ⟨Nat.le_of_ble_eq_true rfl, Nat.le_of_ble_eq_true rfl⟩ ⟨Nat.le_of_ble_eq_true rfl, Nat.le_of_ble_eq_true rfl⟩ rfl rfl (Nat.le_of_ble_eq_true rfl) (fun Ec9 σ9 h9 => ?_) (fun rv9 σ9 h9 => ?_)
        · exact absurd h9.2.2 (by decide)
        · obtain ⟨h9a, h9b, -⟩ := h9
          refine g_eq (σ2 := σ) (lv2 := [(0, .ref ((xK X).2.2 0)), (1, .double wd), (3, .int x)]) (st2 := []) h9b rfl (by rw [h9a]; rfl) ?_
          refine g_aload_n C dX6_list_31 0 rfl rfl ?_
          refine g_get C dX6_list_32 wl0 rfl 4 (by decide) 4 rfl rfl rfl inX6_list_X6 ?_
          refine g_get C dX6_list_35 wl5 rfl 0 (by decide) 5 rfl rfl rfl inX6_list_X5 ?_
          refine g_topi (y := nI (nS σ)) hI.s.1 ?_
          refine g_bipush (v := nI 6) C dX6_list_38 (by decide +kernel) ?_
          refine g_icmp_ge (tgt := 47) C dX6_list_40 (by decide) (fun c_40 => ?_) (fun c_40 => ?_)
          · have hs : ¬ nS σ < 6 := by
              have := hI.s.2
              have := (nI_leI (a := 6) (b := nS σ) (by decide) (by omega)).mp c_40
              omega
            refine g_iconst (v := nI 0) C dX6_list_47 (by decide +kernel) ?_
            refine g_topi (y := bI false) rfl ?_
            refine g_callSX (As := [.int (bI false)]) (rest := []) C E dX6_list_48 (kX6_checkState (xl X) hl0 (xK X) C.hD σ false) 1 gX6_list_X6_checkState rfl (by decide +kernel) ⟨Nat.le_of_ble_eq_true rfl, Nat.le_of_ble_eq_true rfl⟩ ⟨Nat.le_of_ble_eq_true rfl, Nat.le_of_ble_eq_true rfl⟩ rfl rfl (Nat.le_of_ble_eq_true rfl) (fun Ec9 σ9 h9 => ?_) (fun rv9 σ9 h9 => ?_)
            · obtain ⟨x1, x2, x3⟩ := h9
              rw [x1, x2]
              exact gx_out C E ⟨Nat.le_of_ble_eq_true rfl, Nat.le_of_ble_eq_true rfl⟩ (⟨rfl, 1, (if_neg (fun h => h hk)).trans (if_neg hs), rfl⟩)
            · have h9c := h9.2.2
              exact absurd h9c (by decide)
          · have hs : nS σ < 6 := by
              have := hI.s.2
              refine Nat.lt_of_not_le fun h => c_40 ?_
              exact nI_le h (by omega)
            refine g_iconst (v := nI 1) C dX6_list_43 (by decide +kernel) ?_
            refine g_goto (tgt := 48) C dX6_list_44 (by decide) ?_
            refine g_topi (y := bI true) rfl ?_
            refine g_callSX (As := [.int (bI true)]) (rest := []) C E dX6_list_48 (kX6_checkState (xl X) hl0 (xK X) C.hD σ true) 1 gX6_list_X6_checkState rfl (by decide +kernel) ⟨Nat.le_of_ble_eq_true rfl, Nat.le_of_ble_eq_true rfl⟩ ⟨Nat.le_of_ble_eq_true rfl, Nat.le_of_ble_eq_true rfl⟩ rfl rfl (Nat.le_of_ble_eq_true rfl) (fun Ec9 σ9 h9 => ?_) (fun rv9 σ9 h9 => ?_)
            · exact absurd h9.2.2 (by decide)
            · obtain ⟨h9a, h9b, -⟩ := h9
              refine g_eq (σ2 := σ) (lv2 := [(0, .ref ((xK X).2.2 0)), (1, .double wd), (3, .int x)]) (st2 := []) h9b rfl (by rw [h9a]; rfl) ?_
              refine g_aload_n C dX6_list_51 0 rfl rfl ?_
              refine g_get C dX6_list_52 wl0 rfl 4 (by decide) 4 rfl rfl rfl inX6_list_X6 ?_
              refine g_dload_n C dX6_list_55 1 rfl rfl ?_
              refine g_iload_n C dX6_list_56 2 rfl rfl ?_
              refine g_callV (As := [.double wd, .int x]) (rest := []) C dX6_list_57 (kX5_add (xl X) (xK X) C.hD σ (n := nS σ) (w := wd) (x := x) hI.s.1 hs (fun q hq => ⟨(hI.od q hq).1, Nat.lt_trans (hI.od q hq).2 hs⟩)) wl5 rfl 2 gX6_list_X5_add rfl (by decide +kernel) ⟨Nat.le_of_ble_eq_true rfl, Nat.le_of_ble_eq_true rfl⟩ ⟨Nat.le_of_ble_eq_true rfl, Nat.le_of_ble_eq_true rfl⟩ rfl rfl (Nat.le_of_ble_eq_true rfl) (fun rv9 σ9 h9 => ?_)
              obtain ⟨h9a, h9b⟩ := h9
              refine g_eq (σ2 := siS σ (nS σ) wd x) (lv2 := [(0, .ref ((xK X).2.2 0)), (1, .double wd), (3, .int x)]) (st2 := [.int (nI (nS σ))]) h9b rfl (by rw [h9a]; rfl) ?_
              refine g_iret C dX6_list_60 rfl ⟨Nat.le_of_ble_eq_true rfl, Nat.le_of_ble_eq_true rfl⟩ ?_
              rw [hF]
              exact ⟨(if_neg (fun h => h hk)).trans (if_pos hs), rfl, rfl⟩

theorem inX6_size_X5 : ∀ w ∈ u_ws RX5 TX5 4, w ∈ wsX6_size := by decide +kernel
theorem inX6_size_X6 : ∀ w ∈ u_ws RX6 TX6 7, w ∈ wsX6_size := by decide +kernel
set_option maxHeartbeats 4000000 in
set_option maxRecDepth 100000 in
theorem kX6_size (l : Launch) (hl0 : l.stackTraces = false) (K : gK) (hD : gD K) (σ : gS) (hI : Ic σ) (c : Int32) : CtX l yX6_size wsX6_size { frames := 7, cells := 2, slots := 12, locals := 120 } K [.ref (K.2.2 0), .int c] σ (fun r t => cdSize (nS σ) c = 0 ∧ szR σ (tn c) r t) (Th σ [eI, eS] (cdSize (nS σ) c)) := by
  refine CtX.of hl0 hD (by decide) rfl (Nat.le_of_ble_eq_true rfl) ?_
  intro X hL hK hF C E
  subst hL; subst hK
  refine g_eq (σ2 := σ) (lv2 := [(0, .ref ((xK X).2.2 0)), (1, .int c)]) (st2 := []) rfl rfl rfl ?_
  have hs6 := hI.s.2
  refine g_iload_n C dX6_size_0 1 rfl rfl ?_
  refine g_iconst (v := nI 4) C dX6_size_1 (by decide +kernel) ?_
  refine g_callSX (As := [.int c, .int (nI 4)]) (rest := []) C E dX6_size_2 (kX6_checkIndex (xl X) hl0 (xK X) C.hD σ c (nI 4)) 2 gX6_size_X6_checkIndex rfl (by decide +kernel) ⟨Nat.le_of_ble_eq_true rfl, Nat.le_of_ble_eq_true rfl⟩ ⟨Nat.le_of_ble_eq_true rfl, Nat.le_of_ble_eq_true rfl⟩ rfl rfl (Nat.le_of_ble_eq_true rfl) (fun Ec9 σ9 h9 => ?_) (fun rv9 σ9 h9 => ?_)
  · obtain ⟨x1, x2, x3⟩ := h9
    rw [x1, x2]
    exact gx_out C E ⟨Nat.le_of_ble_eq_true rfl, Nat.le_of_ble_eq_true rfl⟩ (⟨rfl, 0, if_pos x3, rfl⟩)
  · obtain ⟨h9a, h9b, h9c, h9d⟩ := h9
    have hic : inR c 4 := ⟨h9c, h9d⟩
    refine g_eq (σ2 := σ) (lv2 := [(0, .ref ((xK X).2.2 0)), (1, .int c)]) (st2 := []) h9b rfl (by rw [h9a]; rfl) ?_
    refine g_aload_n C dX6_size_5 0 rfl rfl ?_
    refine g_get C dX6_size_6 wl0 rfl 4 (by decide) 1 rfl rfl rfl inX6_size_X6 ?_
    refine g_get C dX6_size_9 wl5 rfl 0 (by decide) 2 rfl rfl rfl inX6_size_X5 ?_
    refine g_topi (y := nI (nS σ)) hI.s.1 ?_
    refine g_if_le (tgt := 19) C dX6_size_12 (by decide) (fun c_12 => ?_) (fun c_12 => ?_)
    · have hs : ¬ 0 < nS σ := fun h => absurd c_12 (nI_nle h (by omega))
      refine g_iconst (v := nI 0) C dX6_size_19 (by decide +kernel) ?_
      refine g_topi (y := bI false) rfl ?_
      refine g_callSX (As := [.int (bI false)]) (rest := []) C E dX6_size_20 (kX6_checkState (xl X) hl0 (xK X) C.hD σ false) 1 gX6_size_X6_checkState rfl (by decide +kernel) ⟨Nat.le_of_ble_eq_true rfl, Nat.le_of_ble_eq_true rfl⟩ ⟨Nat.le_of_ble_eq_true rfl, Nat.le_of_ble_eq_true rfl⟩ rfl rfl (Nat.le_of_ble_eq_true rfl) (fun Ec9 σ9 h9 => ?_) (fun rv9 σ9 h9 => ?_)
      · obtain ⟨x1, x2, x3⟩ := h9
        rw [x1, x2]
        exact gx_out C E ⟨Nat.le_of_ble_eq_true rfl, Nat.le_of_ble_eq_true rfl⟩ (⟨rfl, 1, (if_neg (fun h => h hic)).trans (if_neg hs), rfl⟩)
      · have h9c := h9.2.2
        exact absurd h9c (by decide)
    · have hs : 0 < nS σ := by
        refine Nat.pos_of_ne_zero fun h => c_12 ?_
        rw [h]
        decide
      refine g_iconst (v := nI 1) C dX6_size_15 (by decide +kernel) ?_
      refine g_goto (tgt := 20) C dX6_size_16 (by decide) ?_
      refine g_topi (y := bI true) rfl ?_
      refine g_callSX (As := [.int (bI true)]) (rest := []) C E dX6_size_20 (kX6_checkState (xl X) hl0 (xK X) C.hD σ true) 1 gX6_size_X6_checkState rfl (by decide +kernel) ⟨Nat.le_of_ble_eq_true rfl, Nat.le_of_ble_eq_true rfl⟩ ⟨Nat.le_of_ble_eq_true rfl, Nat.le_of_ble_eq_true rfl⟩ rfl rfl (Nat.le_of_ble_eq_true rfl) (fun Ec9 σ9 h9 => ?_) (fun rv9 σ9 h9 => ?_)
      · exact absurd h9.2.2 (by decide)
      · obtain ⟨h9a, h9b, -⟩ := h9
        refine g_eq (σ2 := σ) (lv2 := [(0, .ref ((xK X).2.2 0)), (1, .int c)]) (st2 := []) h9b rfl (by rw [h9a]; rfl) ?_
        have tc := inT hic (by decide)
        have hs6 := hI.s.2
        have hs0 := hs
        refine g_eq (σ2 := σ) (lv2 := [(0, .ref ((xK X).2.2 0)), (1, .int (nI (tn c)))]) (st2 := []) rfl (congrArg (fun z9 => ([(0, .ref ((xK X).2.2 0)), (1, .int z9)] : List (Nat × Value))) tc.1) rfl ?_
        refine g_iconst (v := nI 0) C dX6_size_23 (by decide +kernel) ?_
        refine g_istore_n (lv' := [(2, .int (nI 0)), (0, .ref ((xK X).2.2 0)), (1, .int (nI (tn c)))]) C dX6_size_24 rfl (by decide) rfl ?_
        have loop25 : ∀ (r9 : Nat) (q : Nat) (τ : gS), nS σ - q < r9 → (q ≤ nS σ) → (trR σ (tn c) q τ) → G X 4 (0 + 1 + 1) (0 + 6 + 6) τ [(0, .ref ((xK X).2.2 0)), (1, .int (nI (tn c))), (2, .int (nI q))] 25 [] := by
          intro r9
          induction r9 with
          | zero => intro q τ h9; exact absurd h9 (Nat.not_lt_zero _)
          | succ r9 ih25 =>
            intro q τ hm25 hq ht
            obtain ⟨hIt, hs1, hs2, hs3, hs4⟩ := trR_ok hI hq ht
            refine g_iload_n C dX6_size_25 2 rfl rfl ?_
            refine g_aload_n C dX6_size_26 0 rfl rfl ?_
            refine g_get C dX6_size_27 wl0 rfl 4 (by decide) 1 rfl rfl rfl inX6_size_X6 ?_
            refine g_get C dX6_size_30 wl5 rfl 0 (by decide) 2 rfl rfl rfl inX6_size_X5 ?_
            refine g_topi (y := nI (nS σ)) (by rw [hIt.s.1, hs1]) ?_
            refine g_icmp_ge (tgt := 108) C dX6_size_33 (by decide) (fun c_33 => ?_) (fun c_33 => ?_)
            · have hqe : q = nS σ := by
                have h9 := (nI_leI (by  omega) (by  omega)).mp c_33
                omega
              refine g_iconst (v := (-1)) C dX6_size_108 (by decide +kernel) ?_
              refine g_iret C dX6_size_109 rfl ⟨Nat.le_of_ble_eq_true rfl, Nat.le_of_ble_eq_true rfl⟩ ?_
              rw [hF]
              exact ⟨(if_neg (fun h => h hic)).trans (if_pos hs0), Or.inr ⟨by rw [hqe] at ht; exact ht, rfl⟩⟩
            · have hqt : q < nS σ := by
                refine Nat.lt_of_not_le fun h => c_33 ?_
                exact (nI_leI (by  omega) (by  omega)).mpr (by omega)
              have hod := (hI.od q hqt).2
              have hw9 : okW (sF τ 24 (odC σ q)) := hIt.sw _ (by omega)
              have hI1 := Ic_sw hIt hw9
              refine g_aload_n C dX6_size_36 0 rfl rfl ?_
              refine g_get C dX6_size_37 wl0 rfl 4 (by decide) 1 rfl rfl rfl inX6_size_X6 ?_
              refine g_get C dX6_size_40 wl5 rfl 3 (by decide) 3 rfl rfl rfl inX6_size_X5 ?_
              refine g_iload_n C dX6_size_43 2 rfl rfl ?_
              refine g_iald (j := q) C dX6_size_44 wl26 rfl (by omega) (by decide) ?_
              refine g_topi (y := nI (odC σ q)) (by rw [hs2]; exact (hI.od q hqt).1) ?_
              refine g_istore_n (lv' := [(3, .int (nI (odC σ q))), (0, .ref ((xK X).2.2 0)), (1, .int (nI (tn c))), (2, .int (nI q))]) C dX6_size_45 rfl (by decide) rfl ?_
              refine g_aload_n C dX6_size_46 1 rfl rfl ?_
              refine g_get C dX6_size_47 wl0 rfl 1 (by decide) 4 rfl rfl rfl inX6_size_X6 ?_
              refine g_aload_n C dX6_size_50 1 rfl rfl ?_
              refine g_get C dX6_size_51 wl0 rfl 4 (by decide) 1 rfl rfl rfl inX6_size_X6 ?_
              refine g_get C dX6_size_54 wl5 rfl 1 (by decide) 5 rfl rfl rfl inX6_size_X5 ?_
              refine g_iload_n C dX6_size_57 0 rfl rfl ?_
              refine g_dald (j := (odC σ q)) C dX6_size_58 wl24 rfl (by omega) (by decide) ?_
              refine g_callV (As := [.double (sF τ 24 (odC σ q))]) (rest := []) C dX6_size_59 (kX1_setWidths (xl X) (xK X) C.hD τ hIt.w (w := sF τ 24 (odC σ q)) hw9 (fun d hd => (hIt.wl d hd).2)) wl2 rfl 1 gX6_size_X1_setWidths rfl (by decide +kernel) ⟨Nat.le_of_ble_eq_true rfl, Nat.le_of_ble_eq_true rfl⟩ ⟨Nat.le_of_ble_eq_true rfl, Nat.le_of_ble_eq_true rfl⟩ rfl rfl (Nat.le_of_ble_eq_true rfl) (fun rv9 σ9 h9 => ?_)
              obtain ⟨h9a, h9b⟩ := h9
              refine g_eq (σ2 := swS τ (sF τ 24 (odC σ q)) (pD (phC τ))) (lv2 := [(3, .int (nI (odC σ q))), (0, .ref ((xK X).2.2 0)), (1, .int (nI (tn c))), (2, .int (nI q))]) (st2 := []) h9b rfl (by rw [h9a]; rfl) ?_
              refine g_aload_n C dX6_size_62 1 rfl rfl ?_
              refine g_aload_n C dX6_size_63 1 rfl rfl ?_
              refine g_get C dX6_size_64 wl0 rfl 0 (by decide) 6 rfl rfl rfl inX6_size_X6 ?_
              refine g_iload_n C dX6_size_67 2 rfl rfl ?_
              refine g_callV (As := [.int (nI (tn c))]) (rest := [.ref ((xK X).2.2 0)]) C dX6_size_68 (kX0_balance (xl X) (xK X) C.hD (swS τ (sF τ 24 (odC σ q)) (pD (phC τ))) hI1.w hI1.e hI1.p (c := tn c) tc.2) wl1 rfl 1 gX6_size_X0_balance rfl (by decide +kernel) ⟨Nat.le_of_ble_eq_true rfl, Nat.le_of_ble_eq_true rfl⟩ ⟨Nat.le_of_ble_eq_true rfl, Nat.le_of_ble_eq_true rfl⟩ rfl rfl (Nat.le_of_ble_eq_true rfl) (fun rv9 σ9 h9 => ?_)
              obtain ⟨h9a, w9, h9b⟩ := h9
              refine g_eq (σ2 := baS (trT τ (tn c) (odC σ q)) w9 (blA (trT τ (tn c) (odC σ q))).2.1 (blA (trT τ (tn c) (odC σ q))).2.2) (lv2 := [(3, .int (nI (odC σ q))), (0, .ref ((xK X).2.2 0)), (1, .int (nI (tn c))), (2, .int (nI q))]) (st2 := [.int (sei (blA (trT τ (tn c) (odC σ q))).1), .ref ((xK X).2.2 0)]) h9b rfl (by rw [h9a]; rfl) ?_
              refine g_iconst (v := (-1)) C dX6_size_71 (by decide +kernel) ?_
              refine g_icmp_eq (tgt := 79) C dX6_size_72 (by decide) (fun c_72 => ?_) (fun c_72 => ?_)
              · have hs : (blA (trT τ (tn c) (odC σ q))).1.isSome = false := sei_no (blA_le _) c_72
                refine g_iconst (v := nI 0) C dX6_size_79 (by decide +kernel) ?_
                refine g_topi (y := bI (blA (trT τ (tn c) (odC σ q))).1.isSome) (by rw [hs]; rfl) ?_
                refine g_put (σ' := uN (baS (trT τ (tn c) (odC σ q)) w9 (blA (trT τ (tn c) (odC σ q))).2.1 (blA (trT τ (tn c) (odC σ q))).2.2) 1 (bI (blA (trT τ (tn c) (odC σ q))).1.isSome)) (ty := .boolean) C dX6_size_80 wl0 rfl 6 (by decide) 7 rfl rfl inX6_size_X6 tyX6_ok nmX6 rfl (by decide +kernel) (nar_bI _) (fitB _) (Nat.le_of_ble_eq_true rfl) wsN1 ?_
                refine g_eq (σ2 := trS τ (tn c) (odC σ q) w9) (lv2 := [(3, .int (nI (odC σ q))), (0, .ref ((xK X).2.2 0)), (1, .int (nI (tn c))), (2, .int (nI q))]) (st2 := []) rfl rfl rfl ?_
                have hI2 : Ic (trS τ (tn c) (odC σ q) w9) := Ic_tr hIt (by omega) w9
                refine g_aload_n C dX6_size_83 1 rfl rfl ?_
                refine g_get C dX6_size_84 wl0 rfl 6 (by decide) 7 rfl rfl rfl inX6_size_X6 ?_
                refine g_topi (y := bI (svC (trS τ (tn c) (odC σ q) w9))) hI2.sv ?_
                refine g_if_eq (tgt := 102) C dX6_size_87 (by decide) (fun c_87 => ?_) (fun c_87 => ?_)
                · have hk := trK_0 ((bI_ne _).mp c_87)
                  refine g_iinc (v := nI (q + 1)) (lv' := [(2, .int (nI (q + 1))), (3, .int (nI (odC σ q))), (0, .ref ((xK X).2.2 0)), (1, .int (nI (tn c)))]) C dX6_size_102 3 rfl (nI_1 q) (by decide) rfl ?_
                  refine g_goto (tgt := 25) C dX6_size_105 (by decide) ?_
                  refine g_lv [2, 3, 0] rfl ?_
                  exact ih25 (q + 1) (trS τ (tn c) (odC σ q) w9) (by omega) (by omega) ⟨τ, w9, ht, rfl, hk⟩
                · have hsv := bIt c_87
                  refine g_aload_n C dX6_size_90 1 rfl rfl ?_
                  refine g_get C dX6_size_91 wl0 rfl 0 (by decide) 6 rfl rfl rfl inX6_size_X6 ?_
                  refine g_callV (As := []) (rest := []) C dX6_size_94 (kX0_isEachMachineServed (xl X) (xK X) C.hD (trS τ (tn c) (odC σ q) w9) hI2.w hI2.p hI2.P hI2.G) wl1 rfl 0 gX6_size_X0_isEachMachineServed rfl (by decide +kernel) ⟨Nat.le_of_ble_eq_true rfl, Nat.le_of_ble_eq_true rfl⟩ ⟨Nat.le_of_ble_eq_true rfl, Nat.le_of_ble_eq_true rfl⟩ rfl rfl (Nat.le_of_ble_eq_true rfl) (fun rv9 σ9 h9 => ?_)
                  obtain ⟨h9a, h9b⟩ := h9
                  refine g_eq (σ2 := trS τ (tn c) (odC σ q) w9) (lv2 := [(3, .int (nI (odC σ q))), (0, .ref ((xK X).2.2 0)), (1, .int (nI (tn c))), (2, .int (nI q))]) (st2 := [.int (bI (allB (srB (phC (trS τ (tn c) (odC σ q) w9)) (sF (trS τ (tn c) (odC σ q) w9) 7) (sF (trS τ (tn c) (odC σ q) w9) 18)) (pM (phC (trS τ (tn c) (odC σ q) w9)))))]) h9b rfl (by rw [h9a]; rfl) ?_
                  refine g_if_eq (tgt := 102) C dX6_size_97 (by decide) (fun c_97 => ?_) (fun c_97 => ?_)
                  · have hk := trK_no ((bI_ne _).mp c_97)
                    refine g_iinc (v := nI (q + 1)) (lv' := [(2, .int (nI (q + 1))), (3, .int (nI (odC σ q))), (0, .ref ((xK X).2.2 0)), (1, .int (nI (tn c)))]) C dX6_size_102 3 rfl (nI_1 q) (by decide) rfl ?_
                    refine g_goto (tgt := 25) C dX6_size_105 (by decide) ?_
                    refine g_lv [2, 3, 0] rfl ?_
                    exact ih25 (q + 1) (trS τ (tn c) (odC σ q) w9) (by omega) (by omega) ⟨τ, w9, ht, rfl, hk⟩
                  · have hk := trK_yes hsv (bIt c_97)
                    refine g_iload_n C dX6_size_100 0 rfl rfl ?_
                    refine g_iret C dX6_size_101 rfl ⟨Nat.le_of_ble_eq_true rfl, Nat.le_of_ble_eq_true rfl⟩ ?_
                    rw [hF]
                    exact ⟨(if_neg (fun h => h hic)).trans (if_pos hs0), Or.inl ⟨q, τ, w9, hqt, ht, rfl, hk, rfl⟩⟩
              · have hs : (blA (trT τ (tn c) (odC σ q))).1.isSome = true := sei_yes c_72
                refine g_iconst (v := nI 1) C dX6_size_75 (by decide +kernel) ?_
                refine g_goto (tgt := 80) C dX6_size_76 (by decide) ?_
                refine g_topi (y := bI (blA (trT τ (tn c) (odC σ q))).1.isSome) (by rw [hs]; rfl) ?_
                refine g_put (σ' := uN (baS (trT τ (tn c) (odC σ q)) w9 (blA (trT τ (tn c) (odC σ q))).2.1 (blA (trT τ (tn c) (odC σ q))).2.2) 1 (bI (blA (trT τ (tn c) (odC σ q))).1.isSome)) (ty := .boolean) C dX6_size_80 wl0 rfl 6 (by decide) 7 rfl rfl inX6_size_X6 tyX6_ok nmX6 rfl (by decide +kernel) (nar_bI _) (fitB _) (Nat.le_of_ble_eq_true rfl) wsN1 ?_
                refine g_eq (σ2 := trS τ (tn c) (odC σ q) w9) (lv2 := [(3, .int (nI (odC σ q))), (0, .ref ((xK X).2.2 0)), (1, .int (nI (tn c))), (2, .int (nI q))]) (st2 := []) rfl rfl rfl ?_
                have hI2 : Ic (trS τ (tn c) (odC σ q) w9) := Ic_tr hIt (by omega) w9
                refine g_aload_n C dX6_size_83 1 rfl rfl ?_
                refine g_get C dX6_size_84 wl0 rfl 6 (by decide) 7 rfl rfl rfl inX6_size_X6 ?_
                refine g_topi (y := bI (svC (trS τ (tn c) (odC σ q) w9))) hI2.sv ?_
                refine g_if_eq (tgt := 102) C dX6_size_87 (by decide) (fun c_87 => ?_) (fun c_87 => ?_)
                · have hk := trK_0 ((bI_ne _).mp c_87)
                  refine g_iinc (v := nI (q + 1)) (lv' := [(2, .int (nI (q + 1))), (3, .int (nI (odC σ q))), (0, .ref ((xK X).2.2 0)), (1, .int (nI (tn c)))]) C dX6_size_102 3 rfl (nI_1 q) (by decide) rfl ?_
                  refine g_goto (tgt := 25) C dX6_size_105 (by decide) ?_
                  refine g_lv [2, 3, 0] rfl ?_
                  exact ih25 (q + 1) (trS τ (tn c) (odC σ q) w9) (by omega) (by omega) ⟨τ, w9, ht, rfl, hk⟩
                · have hsv := bIt c_87
                  refine g_aload_n C dX6_size_90 1 rfl rfl ?_
                  refine g_get C dX6_size_91 wl0 rfl 0 (by decide) 6 rfl rfl rfl inX6_size_X6 ?_
                  refine g_callV (As := []) (rest := []) C dX6_size_94 (kX0_isEachMachineServed (xl X) (xK X) C.hD (trS τ (tn c) (odC σ q) w9) hI2.w hI2.p hI2.P hI2.G) wl1 rfl 0 gX6_size_X0_isEachMachineServed rfl (by decide +kernel) ⟨Nat.le_of_ble_eq_true rfl, Nat.le_of_ble_eq_true rfl⟩ ⟨Nat.le_of_ble_eq_true rfl, Nat.le_of_ble_eq_true rfl⟩ rfl rfl (Nat.le_of_ble_eq_true rfl) (fun rv9 σ9 h9 => ?_)
                  obtain ⟨h9a, h9b⟩ := h9
                  refine g_eq (σ2 := trS τ (tn c) (odC σ q) w9) (lv2 := [(3, .int (nI (odC σ q))), (0, .ref ((xK X).2.2 0)), (1, .int (nI (tn c))), (2, .int (nI q))]) (st2 := [.int (bI (allB (srB (phC (trS τ (tn c) (odC σ q) w9)) (sF (trS τ (tn c) (odC σ q) w9) 7) (sF (trS τ (tn c) (odC σ q) w9) 18)) (pM (phC (trS τ (tn c) (odC σ q) w9)))))]) h9b rfl (by rw [h9a]; rfl) ?_
                  refine g_if_eq (tgt := 102) C dX6_size_97 (by decide) (fun c_97 => ?_) (fun c_97 => ?_)
                  · have hk := trK_no ((bI_ne _).mp c_97)
                    refine g_iinc (v := nI (q + 1)) (lv' := [(2, .int (nI (q + 1))), (3, .int (nI (odC σ q))), (0, .ref ((xK X).2.2 0)), (1, .int (nI (tn c)))]) C dX6_size_102 3 rfl (nI_1 q) (by decide) rfl ?_
                    refine g_goto (tgt := 25) C dX6_size_105 (by decide) ?_
                    refine g_lv [2, 3, 0] rfl ?_
                    exact ih25 (q + 1) (trS τ (tn c) (odC σ q) w9) (by omega) (by omega) ⟨τ, w9, ht, rfl, hk⟩
                  · have hk := trK_yes hsv (bIt c_97)
                    refine g_iload_n C dX6_size_100 0 rfl rfl ?_
                    refine g_iret C dX6_size_101 rfl ⟨Nat.le_of_ble_eq_true rfl, Nat.le_of_ble_eq_true rfl⟩ ?_
                    rw [hF]
                    exact ⟨(if_neg (fun h => h hic)).trans (if_pos hs0), Or.inl ⟨q, τ, w9, hqt, ht, rfl, hk, rfl⟩⟩
        refine g_lv [1, 2, 0] rfl ?_
        exact loop25 (nS σ + 1) 0 σ (by omega) (Nat.zero_le _) rfl

theorem inX6_read_X1 : ∀ w ∈ u_ws RX1 TX1 8, w ∈ wsX6_read := by decide +kernel
theorem inX6_read_X3 : ∀ w ∈ u_ws RX3 TX3 3, w ∈ wsX6_read := by decide +kernel
theorem inX6_read_X6 : ∀ w ∈ u_ws RX6 TX6 7, w ∈ wsX6_read := by decide +kernel
set_option maxHeartbeats 4000000 in
set_option maxRecDepth 100000 in
theorem kX6_read (l : Launch) (hl0 : l.stackTraces = false) (K : gK) (hD : gD K) (σ : gS) (hI : Ic σ) (a : Int32) (v : UInt64) : CtX l yX6_read wsX6_read { frames := 7, cells := 2, slots := 12, locals := 103 } K [.ref (K.2.2 0), .int a, .double v] σ (fun r t => cdRead (pD (phC σ)) a v = 0 ∧ r = none ∧ t = uI (uF σ 22 (vf_upd (sF σ 22) (tn a) v)) 23 (upd (sI σ 23) (tn a) (nI 1))) (Th σ [eI, eA] (cdRead (pD (phC σ)) a v)) := by
  refine CtX.of hl0 hD (by decide) rfl (Nat.le_of_ble_eq_true rfl) ?_
  intro X hL hK hF C E
  subst hL; subst hK
  refine g_eq (σ2 := σ) (lv2 := [(0, .ref ((xK X).2.2 0)), (1, .int a), (2, .double v)]) (st2 := []) rfl rfl rfl ?_
  have h16 := hI.w.nd16
  have h8 := hI.w.nm8
  have hjj := hI.j
  refine g_iload_n C dX6_read_0 1 rfl rfl ?_
  refine g_aload_n C dX6_read_1 0 rfl rfl ?_
  refine g_get C dX6_read_2 wl0 rfl 1 (by decide) 1 rfl rfl rfl inX6_read_X6 ?_
  refine g_get C dX6_read_5 wl2 rfl 0 (by decide) 2 rfl rfl rfl inX6_read_X1 ?_
  refine g_topi (y := nI (pD (phC σ))) hI.w.nd ?_
  refine g_callSX (As := [.int a, .int (nI (pD (phC σ)))]) (rest := []) C E dX6_read_8 (kX6_checkIndex (xl X) hl0 (xK X) C.hD σ a (nI (pD (phC σ)))) 2 gX6_read_X6_checkIndex rfl (by decide +kernel) ⟨Nat.le_of_ble_eq_true rfl, Nat.le_of_ble_eq_true rfl⟩ ⟨Nat.le_of_ble_eq_true rfl, Nat.le_of_ble_eq_true rfl⟩ rfl rfl (Nat.le_of_ble_eq_true rfl) (fun Ec9 σ9 h9 => ?_) (fun rv9 σ9 h9 => ?_)
  · obtain ⟨x1, x2, x3⟩ := h9
    rw [x1, x2]
    exact gx_out C E ⟨Nat.le_of_ble_eq_true rfl, Nat.le_of_ble_eq_true rfl⟩ (⟨rfl, 0, if_pos x3, rfl⟩)
  · obtain ⟨h9a, h9b, h9c, h9d⟩ := h9
    have hia : inR a (pD (phC σ)) := ⟨h9c, h9d⟩
    refine g_eq (σ2 := σ) (lv2 := [(0, .ref ((xK X).2.2 0)), (1, .int a), (2, .double v)]) (st2 := []) h9b rfl (by rw [h9a]; rfl) ?_
    refine g_dload_n C dX6_read_11 2 rfl rfl ?_
    refine g_dconst0 C dX6_read_12 ?_
    refine g_ldc2d (v := 4666723172467343360) C dX6_read_13 3 rfl ?_
    refine g_callS (As := [.double v, .double FP.dconst0, .double 4666723172467343360]) (rest := []) C dX6_read_16 (kX6_isWithin (xl X) (xK X) C.hD σ v FP.dconst0 k10000) 3 gX6_read_X6_isWithin rfl (by decide +kernel) ⟨Nat.le_of_ble_eq_true rfl, Nat.le_of_ble_eq_true rfl⟩ ⟨Nat.le_of_ble_eq_true rfl, Nat.le_of_ble_eq_true rfl⟩ rfl rfl (Nat.le_of_ble_eq_true rfl) (fun rv9 σ9 h9 => ?_)
    obtain ⟨h9a, h9b⟩ := h9
    refine g_eq (σ2 := σ) (lv2 := [(0, .ref ((xK X).2.2 0)), (1, .int a), (2, .double v)]) (st2 := [.int (bI (wiB v FP.dconst0 k10000))]) h9b rfl (by rw [h9a]; rfl) ?_
    refine g_callSX (As := [.int (bI (wiB v FP.dconst0 k10000))]) (rest := []) C E dX6_read_19 (kX6_checkArgument (xl X) hl0 (xK X) C.hD σ (wiB v FP.dconst0 k10000)) 1 gX6_read_X6_checkArgument rfl (by decide +kernel) ⟨Nat.le_of_ble_eq_true rfl, Nat.le_of_ble_eq_true rfl⟩ ⟨Nat.le_of_ble_eq_true rfl, Nat.le_of_ble_eq_true rfl⟩ rfl rfl (Nat.le_of_ble_eq_true rfl) (fun Ec9 σ9 h9 => ?_) (fun rv9 σ9 h9 => ?_)
    · obtain ⟨x1, x2, x3⟩ := h9
      rw [x1, x2]
      exact gx_out C E ⟨Nat.le_of_ble_eq_true rfl, Nat.le_of_ble_eq_true rfl⟩ (⟨rfl, 1, (if_neg (fun h => h hia)).trans (if_neg (by rw [x3]; decide)), rfl⟩)
    · obtain ⟨h9a, h9b, hk⟩ := h9
      refine g_eq (σ2 := σ) (lv2 := [(0, .ref ((xK X).2.2 0)), (1, .int a), (2, .double v)]) (st2 := []) h9b rfl (by rw [h9a]; rfl) ?_
      have ta := inT hia (by omega)
      refine g_eq (σ2 := σ) (lv2 := [(0, .ref ((xK X).2.2 0)), (1, .int (nI (tn a))), (2, .double v)]) (st2 := []) rfl (congrArg (fun z9 => ([(0, .ref ((xK X).2.2 0)), (1, .int z9), (2, .double v)] : List (Nat × Value))) ta.1) rfl ?_
      refine g_aload_n C dX6_read_22 0 rfl rfl ?_
      refine g_get C dX6_read_23 wl0 rfl 3 (by decide) 4 rfl rfl rfl inX6_read_X6 ?_
      refine g_get C dX6_read_26 wl4 rfl 1 (by decide) 5 rfl rfl rfl inX6_read_X3 ?_
      refine g_iload_n C dX6_read_29 1 rfl rfl ?_
      refine g_dload_n C dX6_read_30 2 rfl rfl ?_
      refine g_dast (j := (tn a)) (σ' := uF σ 22 (vf_upd (sF σ 22) (tn a) v)) C dX6_read_31 wl22 rfl (by omega) (by decide) wsA22 ?_
      refine g_aload_n C dX6_read_32 0 rfl rfl ?_
      refine g_get C dX6_read_33 wl0 rfl 3 (by decide) 4 rfl rfl rfl inX6_read_X6 ?_
      refine g_get C dX6_read_36 wl4 rfl 2 (by decide) 6 rfl rfl rfl inX6_read_X3 ?_
      refine g_iload_n C dX6_read_39 1 rfl rfl ?_
      refine g_iconst (v := nI 1) C dX6_read_40 (by decide +kernel) ?_
      refine g_topi (y := bI true) rfl ?_
      refine g_zast (j := (tn a)) (σ' := uI (uF σ 22 (vf_upd (sF σ 22) (tn a) v)) 23 (upd (sI (uF σ 22 (vf_upd (sF σ 22) (tn a) v)) 23) (tn a) (vp_nar .boolean (bI true)))) C dX6_read_41 wl23 rfl (by omega) (by decide) wsA23 ?_
      refine g_vret C dX6_read_42 rfl ⟨Nat.le_of_ble_eq_true rfl, Nat.le_of_ble_eq_true rfl⟩ ?_
      rw [hF]
      exact ⟨(if_neg (fun h => h hia)).trans (if_pos hk), rfl, rfl⟩

theorem inX6_fit_X6 : ∀ w ∈ u_ws RX6 TX6 7, w ∈ wsX6_fit := by decide +kernel
set_option maxHeartbeats 4000000 in
set_option maxRecDepth 100000 in
theorem kX6_fit (l : Launch) (hl0 : l.stackTraces = false) (K : gK) (hD : gD K) (σ : gS) (hI : Ic σ) (r : Int32) : CtX l yX6_fit wsX6_fit { frames := 7, cells := 2, slots := 12, locals := 102 } K [.ref (K.2.2 0), .int r] σ (fun o t => cdFit (svC σ) r = 0 ∧ o = some (.double (sqV σ (fiV σ (tn r)))) ∧ t = uF σ 21 (fiV σ (tn r))) (Th σ [eA, eS] (cdFit (svC σ) r)) := by
  refine CtX.of hl0 hD (by decide) rfl (Nat.le_of_ble_eq_true rfl) ?_
  intro X hL hK hF C E
  subst hL; subst hK
  refine g_eq (σ2 := σ) (lv2 := [(0, .ref ((xK X).2.2 0)), (1, .int r)]) (st2 := []) rfl rfl rfl ?_
  refine g_iload_n C dX6_fit_0 1 rfl rfl ?_
  refine g_if_lt (tgt := 14) C dX6_fit_1 (by decide) (fun c_1 => ?_) (fun c_1 => ?_)
  · have hk : ¬ (¬ r < 0 ∧ r ≤ nI 50) := fun h => h.1 c_1
    refine g_iconst (v := nI 0) C dX6_fit_14 (by decide +kernel) ?_
    refine g_topi (y := bI false) rfl ?_
    refine g_callSX (As := [.int (bI false)]) (rest := []) C E dX6_fit_15 (kX6_checkArgument (xl X) hl0 (xK X) C.hD σ false) 1 gX6_fit_X6_checkArgument rfl (by decide +kernel) ⟨Nat.le_of_ble_eq_true rfl, Nat.le_of_ble_eq_true rfl⟩ ⟨Nat.le_of_ble_eq_true rfl, Nat.le_of_ble_eq_true rfl⟩ rfl rfl (Nat.le_of_ble_eq_true rfl) (fun Ec9 σ9 h9 => ?_) (fun rv9 σ9 h9 => ?_)
    · obtain ⟨x1, x2, x3⟩ := h9
      rw [x1, x2]
      exact gx_out C E ⟨Nat.le_of_ble_eq_true rfl, Nat.le_of_ble_eq_true rfl⟩ (⟨rfl, 0, if_pos hk, rfl⟩)
    · have h9c := h9.2.2
      exact absurd h9c (by decide)
  · refine g_iload_n C dX6_fit_4 1 rfl rfl ?_
    refine g_bipush (v := nI 50) C dX6_fit_5 (by decide +kernel) ?_
    refine g_icmp_gt (tgt := 14) C dX6_fit_7 (by decide) (fun c_7 => ?_) (fun c_7 => ?_)
    · have hk : ¬ (¬ r < 0 ∧ r ≤ nI 50) := fun h => absurd h.2 (Int32.not_le.mpr c_7)
      refine g_iconst (v := nI 0) C dX6_fit_14 (by decide +kernel) ?_
      refine g_topi (y := bI false) rfl ?_
      refine g_callSX (As := [.int (bI false)]) (rest := []) C E dX6_fit_15 (kX6_checkArgument (xl X) hl0 (xK X) C.hD σ false) 1 gX6_fit_X6_checkArgument rfl (by decide +kernel) ⟨Nat.le_of_ble_eq_true rfl, Nat.le_of_ble_eq_true rfl⟩ ⟨Nat.le_of_ble_eq_true rfl, Nat.le_of_ble_eq_true rfl⟩ rfl rfl (Nat.le_of_ble_eq_true rfl) (fun Ec9 σ9 h9 => ?_) (fun rv9 σ9 h9 => ?_)
      · obtain ⟨x1, x2, x3⟩ := h9
        rw [x1, x2]
        exact gx_out C E ⟨Nat.le_of_ble_eq_true rfl, Nat.le_of_ble_eq_true rfl⟩ (⟨rfl, 0, if_pos hk, rfl⟩)
      · have h9c := h9.2.2
        exact absurd h9c (by decide)
    · have hk : ¬ r < 0 ∧ r ≤ nI 50 := ⟨c_1, Int32.not_lt.mp c_7⟩
      refine g_iconst (v := nI 1) C dX6_fit_10 (by decide +kernel) ?_
      refine g_goto (tgt := 15) C dX6_fit_11 (by decide) ?_
      refine g_topi (y := bI true) rfl ?_
      refine g_callSX (As := [.int (bI true)]) (rest := []) C E dX6_fit_15 (kX6_checkArgument (xl X) hl0 (xK X) C.hD σ true) 1 gX6_fit_X6_checkArgument rfl (by decide +kernel) ⟨Nat.le_of_ble_eq_true rfl, Nat.le_of_ble_eq_true rfl⟩ ⟨Nat.le_of_ble_eq_true rfl, Nat.le_of_ble_eq_true rfl⟩ rfl rfl (Nat.le_of_ble_eq_true rfl) (fun Ec9 σ9 h9 => ?_) (fun rv9 σ9 h9 => ?_)
      · exact absurd h9.2.2 (by decide)
      · obtain ⟨h9a, h9b, -⟩ := h9
        refine g_eq (σ2 := σ) (lv2 := [(0, .ref ((xK X).2.2 0)), (1, .int r)]) (st2 := []) h9b rfl (by rw [h9a]; rfl) ?_
        refine g_aload_n C dX6_fit_18 0 rfl rfl ?_
        refine g_get C dX6_fit_19 wl0 rfl 6 (by decide) 1 rfl rfl rfl inX6_fit_X6 ?_
        refine g_topi (y := bI (svC σ)) hI.sv ?_
        refine g_callSX (As := [.int (bI (svC σ))]) (rest := []) C E dX6_fit_22 (kX6_checkState (xl X) hl0 (xK X) C.hD σ (svC σ)) 1 gX6_fit_X6_checkState rfl (by decide +kernel) ⟨Nat.le_of_ble_eq_true rfl, Nat.le_of_ble_eq_true rfl⟩ ⟨Nat.le_of_ble_eq_true rfl, Nat.le_of_ble_eq_true rfl⟩ rfl rfl (Nat.le_of_ble_eq_true rfl) (fun Ec9 σ9 h9 => ?_) (fun rv9 σ9 h9 => ?_)
        · obtain ⟨x1, x2, x3⟩ := h9
          rw [x1, x2]
          exact gx_out C E ⟨Nat.le_of_ble_eq_true rfl, Nat.le_of_ble_eq_true rfl⟩ (⟨rfl, 1, (if_neg (fun h => h hk)).trans (if_neg (by rw [x3]; decide)), rfl⟩)
        · obtain ⟨h9a, h9b, hsv⟩ := h9
          refine g_eq (σ2 := σ) (lv2 := [(0, .ref ((xK X).2.2 0)), (1, .int r)]) (st2 := []) h9b rfl (by rw [h9a]; rfl) ?_
          have tr : r = nI (tn r) ∧ tn r ≤ 50 := by
            obtain ⟨j, hj, e⟩ := nI_of2 (n := 50) (by decide) hk.1 hk.2
            have : tn r = j := by rw [e]; exact tn_nI (by omega)
            rw [this]
            exact ⟨e, hj⟩
          have tr2 := tr.2
          refine g_eq (σ2 := σ) (lv2 := [(0, .ref ((xK X).2.2 0)), (1, .int (nI (tn r)))]) (st2 := []) rfl (congrArg (fun z9 => ([(0, .ref ((xK X).2.2 0)), (1, .int z9)] : List (Nat × Value))) tr.1) rfl ?_
          refine g_iconst (v := nI 0) C dX6_fit_25 (by decide +kernel) ?_
          refine g_istore_n (lv' := [(2, .int (nI 0)), (0, .ref ((xK X).2.2 0)), (1, .int (nI (tn r)))]) C dX6_fit_26 rfl (by decide) rfl ?_
          refine g_eq (σ2 := uF σ 21 (fiV σ 0)) (lv2 := [(2, .int (nI 0)), (0, .ref ((xK X).2.2 0)), (1, .int (nI (tn r)))]) (st2 := []) ((uF_self σ 21).symm) rfl rfl ?_
          have loop27 : ∀ (r9 : Nat) (q : Nat), tn r - q < r9 → (q ≤ tn r) → G X 3 (0 + 1 + 1) (0 + 6 + 6) (uF σ 21 (fiV σ q)) [(0, .ref ((xK X).2.2 0)), (1, .int (nI (tn r))), (2, .int (nI q))] 27 [] := by
            intro r9
            induction r9 with
            | zero => intro q h9; exact absurd h9 (Nat.not_lt_zero _)
            | succ r9 ih27 =>
              intro q hm27 hq
              refine g_iload_n C dX6_fit_27 2 rfl rfl ?_
              refine g_iload_n C dX6_fit_28 1 rfl rfl ?_
              refine g_icmp_ge (tgt := 49) C dX6_fit_29 (by decide) (fun c_29 => ?_) (fun c_29 => ?_)
              · have hqe : q = tn r := by
                  have h9 := (nI_leI (by  omega) (by  omega)).mp c_29
                  omega
                refine g_aload_n C dX6_fit_49 0 rfl rfl ?_
                refine g_get C dX6_fit_50 wl0 rfl 3 (by decide) 2 rfl rfl rfl inX6_fit_X6 ?_
                refine g_aload_n C dX6_fit_53 0 rfl rfl ?_
                refine g_get C dX6_fit_54 wl0 rfl 0 (by decide) 3 rfl rfl rfl inX6_fit_X6 ?_
                refine g_callV (As := [.ref ((xK X).2.2 1)]) (rest := []) C dX6_fit_57 (kX3_sumOfSquares (xl X) (xK X) C.hD (uF σ 21 (fiV σ q)) hI.w hI.e hI.p hI.P hI.ir (fiN_ok hI.p hI.P hI.ir hI.lk q)) wl4 rfl 1 gX6_fit_X3_sumOfSquares rfl (by decide +kernel) ⟨Nat.le_of_ble_eq_true rfl, Nat.le_of_ble_eq_true rfl⟩ ⟨Nat.le_of_ble_eq_true rfl, Nat.le_of_ble_eq_true rfl⟩ rfl rfl (Nat.le_of_ble_eq_true rfl) (fun rv9 σ9 h9 => ?_)
                obtain ⟨h9a, h9b⟩ := h9
                refine g_eq (σ2 := uF σ 21 (fiV σ q)) (lv2 := [(0, .ref ((xK X).2.2 0)), (1, .int (nI (tn r))), (2, .int (nI q))]) (st2 := [.double (sqV σ (fiV σ q))]) h9b rfl (by rw [h9a]; rfl) ?_
                refine g_dret C dX6_fit_60 rfl ⟨Nat.le_of_ble_eq_true rfl, Nat.le_of_ble_eq_true rfl⟩ ?_
                rw [hF]
                exact ⟨(if_neg (fun h => h hk)).trans (if_pos hsv), by rw [← hqe], by rw [← hqe]⟩
              · have hqt : q < tn r := by
                  refine Nat.lt_of_not_le fun h => c_29 ?_
                  exact (nI_leI (by  omega) (by  omega)).mpr (by omega)
                refine g_aload_n C dX6_fit_32 0 rfl rfl ?_
                refine g_get C dX6_fit_33 wl0 rfl 3 (by decide) 2 rfl rfl rfl inX6_fit_X6 ?_
                refine g_aload_n C dX6_fit_36 0 rfl rfl ?_
                refine g_get C dX6_fit_37 wl0 rfl 0 (by decide) 3 rfl rfl rfl inX6_fit_X6 ?_
                refine g_callV (As := [.ref ((xK X).2.2 1)]) (rest := []) C dX6_fit_40 (kX3_approach (xl X) (xK X) C.hD (uF σ 21 (fiV σ q)) hI.w hI.e hI.p hI.P hI.ir (fiN_ok hI.p hI.P hI.ir hI.lk q)) wl4 rfl 1 gX6_fit_X3_approach rfl (by decide +kernel) ⟨Nat.le_of_ble_eq_true rfl, Nat.le_of_ble_eq_true rfl⟩ ⟨Nat.le_of_ble_eq_true rfl, Nat.le_of_ble_eq_true rfl⟩ rfl rfl (Nat.le_of_ble_eq_true rfl) (fun rv9 σ9 h9 => ?_)
                obtain ⟨h9a, h9b⟩ := h9
                refine g_eq (σ2 := uF σ 21 (fiV σ (q + 1))) (lv2 := [(0, .ref ((xK X).2.2 0)), (1, .int (nI (tn r))), (2, .int (nI q))]) (st2 := []) (h9b.trans (fiV_up σ q)) rfl (by rw [h9a]; rfl) ?_
                refine g_iinc (v := nI (q + 1)) (lv' := [(2, .int (nI (q + 1))), (0, .ref ((xK X).2.2 0)), (1, .int (nI (tn r)))]) C dX6_fit_43 2 rfl (nI_1 q) (by decide) rfl ?_
                refine g_goto (tgt := 27) C dX6_fit_46 (by decide) ?_
                refine g_lv [1, 2, 0] rfl ?_
                exact ih27 (q + 1) (by omega) (by omega)
          refine g_lv [1, 2, 0] rfl ?_
          exact loop27 (tn r + 1) 0 (by omega) (Nat.zero_le _)

theorem inX6_count_X1 : ∀ w ∈ u_ws RX1 TX1 8, w ∈ wsX6_count := by decide +kernel
theorem inX6_count_X4 : ∀ w ∈ u_ws RX4 TX4 6, w ∈ wsX6_count := by decide +kernel
theorem inX6_count_X5 : ∀ w ∈ u_ws RX5 TX5 4, w ∈ wsX6_count := by decide +kernel
theorem inX6_count_X6 : ∀ w ∈ u_ws RX6 TX6 7, w ∈ wsX6_count := by decide +kernel
set_option maxHeartbeats 4000000 in
set_option maxRecDepth 100000 in
theorem kX6_count (l : Launch) (hl0 : l.stackTraces = false) (K : gK) (hD : gD K) (σ : gS) (hI : Ic σ) (b : Int32) : CtX l yX6_count wsX6_count { frames := 7, cells := 1, slots := 6, locals := 103 } K [.ref (K.2.2 0), .int b] σ (fun r t => cdCount b = 0 ∧ r = some (.int (nI (coV σ (tn b)))) ∧ t = σ) (Th σ [eI] (cdCount b)) := by
  refine CtX.of hl0 hD (by decide) rfl (Nat.le_of_ble_eq_true rfl) ?_
  intro X hL hK hF C E
  subst hL; subst hK
  refine g_eq (σ2 := σ) (lv2 := [(0, .ref ((xK X).2.2 0)), (1, .int b)]) (st2 := []) rfl rfl rfl ?_
  refine g_iload_n C dX6_count_0 1 rfl rfl ?_
  refine g_iconst (v := nI 4) C dX6_count_1 (by decide +kernel) ?_
  refine g_callSX (As := [.int b, .int (nI 4)]) (rest := []) C E dX6_count_2 (kX6_checkIndex (xl X) hl0 (xK X) C.hD σ b (nI 4)) 2 gX6_count_X6_checkIndex rfl (by decide +kernel) ⟨Nat.le_of_ble_eq_true rfl, Nat.le_of_ble_eq_true rfl⟩ ⟨Nat.le_of_ble_eq_true rfl, Nat.le_of_ble_eq_true rfl⟩ rfl rfl (Nat.le_of_ble_eq_true rfl) (fun Ec9 σ9 h9 => ?_) (fun rv9 σ9 h9 => ?_)
  · obtain ⟨x1, x2, x3⟩ := h9
    rw [x1, x2]
    exact gx_out C E ⟨Nat.le_of_ble_eq_true rfl, Nat.le_of_ble_eq_true rfl⟩ (⟨rfl, 0, if_neg x3, rfl⟩)
  · obtain ⟨h9a, h9b, h9c, h9d⟩ := h9
    have hib : inR b 4 := ⟨h9c, h9d⟩
    refine g_eq (σ2 := σ) (lv2 := [(0, .ref ((xK X).2.2 0)), (1, .int b)]) (st2 := []) h9b rfl (by rw [h9a]; rfl) ?_
    have tb := inT hib (by decide)
    refine g_eq (σ2 := σ) (lv2 := [(0, .ref ((xK X).2.2 0)), (1, .int (nI (tn b)))]) (st2 := []) rfl (congrArg (fun z9 => ([(0, .ref ((xK X).2.2 0)), (1, .int z9)] : List (Nat × Value))) tb.1) rfl ?_
    refine g_iload_n C dX6_count_5 1 rfl rfl ?_
    rcases in4 hib with e9 | e9 | e9 | e9
    · refine g_tableIn (off := 26) (tgt := 32) C dX6_count_6 (by rw [e9]; decide) (by rw [e9]; decide) (by rw [e9]; decide) (by decide) ?_
      refine g_aload_n C dX6_count_32 0 rfl rfl ?_
      refine g_get C dX6_count_33 wl0 rfl 5 (by decide) 1 rfl rfl rfl inX6_count_X6 ?_
      refine g_topi (y := nI (nJ σ)) hI.j.1 ?_
      refine g_iret C dX6_count_36 rfl ⟨Nat.le_of_ble_eq_true rfl, Nat.le_of_ble_eq_true rfl⟩ ?_
      rw [hF]
      exact ⟨if_pos hib, by rw [e9]; rfl, rfl⟩
    · refine g_tableIn (off := 31) (tgt := 37) C dX6_count_6 (by rw [e9]; decide) (by rw [e9]; decide) (by rw [e9]; decide) (by decide) ?_
      refine g_aload_n C dX6_count_37 0 rfl rfl ?_
      refine g_get C dX6_count_38 wl0 rfl 1 (by decide) 2 rfl rfl rfl inX6_count_X6 ?_
      refine g_get C dX6_count_41 wl2 rfl 0 (by decide) 3 rfl rfl rfl inX6_count_X1 ?_
      refine g_topi (y := nI (pD (phC σ))) hI.w.nd ?_
      refine g_iret C dX6_count_44 rfl ⟨Nat.le_of_ble_eq_true rfl, Nat.le_of_ble_eq_true rfl⟩ ?_
      rw [hF]
      exact ⟨if_pos hib, by rw [e9]; rfl, rfl⟩
    · refine g_tableIn (off := 39) (tgt := 45) C dX6_count_6 (by rw [e9]; decide) (by rw [e9]; decide) (by rw [e9]; decide) (by decide) ?_
      refine g_aload_n C dX6_count_45 0 rfl rfl ?_
      refine g_get C dX6_count_46 wl0 rfl 2 (by decide) 4 rfl rfl rfl inX6_count_X6 ?_
      refine g_get C dX6_count_49 wl3 rfl 0 (by decide) 5 rfl rfl rfl inX6_count_X4 ?_
      refine g_topi (y := nI (pM (phC σ))) hI.w.nm ?_
      refine g_iret C dX6_count_52 rfl ⟨Nat.le_of_ble_eq_true rfl, Nat.le_of_ble_eq_true rfl⟩ ?_
      rw [hF]
      exact ⟨if_pos hib, by rw [e9]; rfl, rfl⟩
    · refine g_tableOut (tgt := 53) C dX6_count_6 (by rw [e9]; decide) (by decide) ?_
      refine g_aload_n C dX6_count_53 0 rfl rfl ?_
      refine g_get C dX6_count_54 wl0 rfl 4 (by decide) 6 rfl rfl rfl inX6_count_X6 ?_
      refine g_get C dX6_count_57 wl5 rfl 0 (by decide) 7 rfl rfl rfl inX6_count_X5 ?_
      refine g_topi (y := nI (nS σ)) hI.s.1 ?_
      refine g_iret C dX6_count_60 rfl ⟨Nat.le_of_ble_eq_true rfl, Nat.le_of_ble_eq_true rfl⟩ ?_
      rw [hF]
      exact ⟨if_pos hib, by rw [e9]; rfl, rfl⟩
