/-! the class: telling ducts, machines, sizes; residuals; ranges -/
def hgS (σ : gS) (j n d : Nat) : gS := uI (uI σ (45 + j) (upd (sI σ (45 + j)) n (nI d))) 15 (upd (sI σ 15) j (nI (n + 1)))
def daS (σ : gS) (nd a b : Nat) (l w : UInt64) (ca cb : Nat) : gS := hgS (hgS (wiS (uF (uI (uI (uN σ 2 (nI (nd + 1))) 9 (upd (sI σ 9) nd (nI a))) 10 (upd (sI σ 10) nd (nI b))) 11 (vf_upd (sF σ 11) nd l)) nd w) a ca nd) b cb nd
def maS (σ : gS) (nm j : Nat) (need : UInt64) : gS := uF (uI (uN σ 3 (nI (nm + 1))) 16 (upd (sI σ 16) nm (nI j))) 17 (vf_upd (sF σ 17) nm need)
def usV (σ : gS) (c m : Nat) (on : Bool) : Int32 := if on then sI σ 20 m ||| (nI 1 <<< (nI c &&& 31)) else sI σ 20 m &&& ((nI 1 <<< (nI c &&& 31)) ^^^ (-1))
def usS (σ : gS) (c m : Nat) (on : Bool) : gS := uI σ 20 (upd (sI σ 20) m (usV σ c m on))
def rsV (h : Ph) (P g : Nat → UInt64) (j : Nat) : UInt64 := accF (floV h P j) (opAt h j) (drV h P g) (pM h)
theorem insP_no {c : Nat → Int32} {x : Int32} {o : Nat → Int32} {p : Nat} (h : ¬ x < c (tn (o p))) : insP c x o (p + 1) = (p + 1, o) := if_neg h
theorem insP_yes {c : Nat → Int32} {x : Int32} {o : Nat → Int32} {p : Nat} (h : x < c (tn (o p))) : insP c x o (p + 1) = insP c x (upd o (p + 1) (o p)) p := if_pos h
/-- a size more: its width, cents, its place in the order -/
def siS (σ : gS) (n : Nat) (w : UInt64) (x : Int32) : gS :=
  uN (uI (uI (uF σ 24 (vf_upd (sF σ 24) n w)) 25 (upd (sI σ 25) n x)) 26 (upd (insP (upd (sI σ 25) n x) x (sI σ 26) n).2 (insP (upd (sI σ 25) n x) x (sI σ 26) n).1 (nI n))) 4 (nI (n + 1))

theorem inX1_add_X1 : ∀ w ∈ u_ws RX1 TX1 8, w ∈ wsX1_add := by decide +kernel
set_option maxHeartbeats 4000000 in
set_option maxRecDepth 100000 in
theorem kX1_add (l0 : Launch) (K : gK) (hD : gD K) (σ : gS) {nd a b ca cb : Nat} {l w : UInt64} (hn : sN σ 2 = nI nd) (hnd : nd < 16) (ha : a < 10) (hb : b < 10) (hab : a ≠ b) (hca16 : ca < 16) (hcb16 : cb < 16) (hca : sI σ 15 a = nI ca) (hcb : sI σ 15 b = nI cb) (hl : okW l) (hw : okW w) : Ct l0 yX1_add wsX1_add { frames := 1, cells := 0, slots := 0, locals := 23 } K [.ref (K.2.2 2), .int (nI a), .int (nI b), .double l, .double w] σ (fun r t => r = some (.int (nI nd)) ∧ t = daS σ nd a b l w ca cb) := by
  refine Ct.of hD (by decide) rfl (Nat.le_of_ble_eq_true rfl) ?_
  intro X hL hK hF C
  subst hL; subst hK
  refine g_eq (σ2 := σ) (lv2 := [(0, .ref ((xK X).2.2 2)), (1, .int (nI a)), (2, .int (nI b)), (3, .double l), (5, .double w)]) (st2 := []) rfl rfl rfl ?_
  refine g_aload_n C dX1_add_0 0 rfl rfl ?_
  refine g_get C dX1_add_1 wl2 rfl 0 (by decide) 1 rfl rfl rfl inX1_add_X1 ?_
  refine g_topi (y := nI nd) hn ?_
  refine g_istore (lv' := [(7, .int (nI nd)), (0, .ref ((xK X).2.2 2)), (1, .int (nI a)), (2, .int (nI b)), (3, .double l), (5, .double w)]) C dX1_add_4 (by decide) rfl ?_
  refine g_aload_n C dX1_add_6 1 rfl rfl ?_
  refine g_dup C dX1_add_7 rfl ?_
  refine g_get C dX1_add_8 wl2 rfl 0 (by decide) 1 rfl rfl rfl inX1_add_X1 ?_
  refine g_topi (y := nI nd) hn ?_
  refine g_iconst (v := nI 1) C dX1_add_11 (by decide +kernel) ?_
  refine g_iadd C dX1_add_12 ?_
  refine g_topi (y := nI (nd + 1)) (nI_add nd 1) ?_
  refine g_put (σ' := uN σ 2 (nI (nd + 1))) (ty := .int) C dX1_add_13 wl2 rfl 0 (by decide) 1 rfl rfl inX1_add_X1 tyX1_ok nmX1 rfl (by decide +kernel) rfl rfl (Nat.le_of_ble_eq_true rfl) wsN2 ?_
  refine g_aload_n C dX1_add_16 1 rfl rfl ?_
  refine g_get C dX1_add_17 wl2 rfl 1 (by decide) 2 rfl rfl rfl inX1_add_X1 ?_
  refine g_iload C dX1_add_20 0 rfl ?_
  refine g_iload_n C dX1_add_22 2 rfl rfl ?_
  refine g_iast (j := nd) (σ' := uI (uN σ 2 (nI (nd + 1))) 9 (upd (sI (uN σ 2 (nI (nd + 1))) 9) nd (nI a))) C dX1_add_23 wl9 rfl (by omega) (by decide) wsA9 ?_
  refine g_aload_n C dX1_add_24 1 rfl rfl ?_
  refine g_get C dX1_add_25 wl2 rfl 2 (by decide) 3 rfl rfl rfl inX1_add_X1 ?_
  refine g_iload C dX1_add_28 0 rfl ?_
  refine g_iload_n C dX1_add_30 3 rfl rfl ?_
  refine g_iast (j := nd) (σ' := uI (uI (uN σ 2 (nI (nd + 1))) 9 (upd (sI (uN σ 2 (nI (nd + 1))) 9) nd (nI a))) 10 (upd (sI (uI (uN σ 2 (nI (nd + 1))) 9 (upd (sI (uN σ 2 (nI (nd + 1))) 9) nd (nI a))) 10) nd (nI b))) C dX1_add_31 wl10 rfl (by omega) (by decide) wsA10 ?_
  refine g_aload_n C dX1_add_32 1 rfl rfl ?_
  refine g_get C dX1_add_33 wl2 rfl 3 (by decide) 4 rfl rfl rfl inX1_add_X1 ?_
  refine g_iload C dX1_add_36 0 rfl ?_
  refine g_dload_n C dX1_add_38 4 rfl rfl ?_
  refine g_dast (j := nd) (σ' := uF (uI (uI (uN σ 2 (nI (nd + 1))) 9 (upd (sI (uN σ 2 (nI (nd + 1))) 9) nd (nI a))) 10 (upd (sI (uI (uN σ 2 (nI (nd + 1))) 9 (upd (sI (uN σ 2 (nI (nd + 1))) 9) nd (nI a))) 10) nd (nI b))) 11 (vf_upd (sF (uI (uI (uN σ 2 (nI (nd + 1))) 9 (upd (sI (uN σ 2 (nI (nd + 1))) 9) nd (nI a))) 10 (upd (sI (uI (uN σ 2 (nI (nd + 1))) 9 (upd (sI (uN σ 2 (nI (nd + 1))) 9) nd (nI a))) 10) nd (nI b))) 11) nd l)) C dX1_add_39 wl11 rfl (by omega) (by decide) wsA11 ?_
  refine g_eq (σ2 := uF (uI (uI (uN σ 2 (nI (nd + 1))) 9 (upd (sI σ 9) nd (nI a))) 10 (upd (sI σ 10) nd (nI b))) 11 (vf_upd (sF σ 11) nd l)) (lv2 := [(7, .int (nI nd)), (0, .ref ((xK X).2.2 2)), (1, .int (nI a)), (2, .int (nI b)), (3, .double l), (5, .double w)]) (st2 := []) rfl rfl rfl ?_
  refine g_aload_n C dX1_add_40 1 rfl rfl ?_
  refine g_iload C dX1_add_41 0 rfl ?_
  refine g_dload C dX1_add_43 5 rfl ?_
  refine g_callV (As := [.int (nI nd), .double w]) (rest := []) C dX1_add_45 (kX1_setWidth (xl X) (xK X) C.hD (uF (uI (uI (uN σ 2 (nI (nd + 1))) 9 (upd (sI σ 9) nd (nI a))) 10 (upd (sI σ 10) nd (nI b))) 11 (vf_upd (sF σ 11) nd l)) (d := nd) hnd hw (by show okW (vf_upd _ _ _ _); rw [vf_at]; exact hl)) wl2 rfl 2 gX1_add_X1_setWidth rfl (by decide +kernel) ⟨Nat.le_of_ble_eq_true rfl, Nat.le_of_ble_eq_true rfl⟩ ⟨Nat.le_of_ble_eq_true rfl, Nat.le_of_ble_eq_true rfl⟩ rfl rfl (Nat.le_of_ble_eq_true rfl) (fun rv9 σ9 h9 => ?_)
  obtain ⟨h9a, h9b⟩ := h9
  refine g_eq (σ2 := wiS (uF (uI (uI (uN σ 2 (nI (nd + 1))) 9 (upd (sI σ 9) nd (nI a))) 10 (upd (sI σ 10) nd (nI b))) 11 (vf_upd (sF σ 11) nd l)) nd w) (lv2 := [(7, .int (nI nd)), (0, .ref ((xK X).2.2 2)), (1, .int (nI a)), (2, .int (nI b)), (3, .double l), (5, .double w)]) (st2 := []) h9b rfl (by rw [h9a]; rfl) ?_
  refine g_aload_n C dX1_add_48 1 rfl rfl ?_
  refine g_iload_n C dX1_add_49 2 rfl rfl ?_
  refine g_iload C dX1_add_50 0 rfl ?_
  refine g_callV (As := [.int (nI a), .int (nI nd)]) (rest := []) C dX1_add_52 (kX1_hangOn (xl X) (xK X) C.hD (wiS (uF (uI (uI (uN σ 2 (nI (nd + 1))) 9 (upd (sI σ 9) nd (nI a))) 10 (upd (sI σ 10) nd (nI b))) 11 (vf_upd (sF σ 11) nd l)) nd w) (n := ca) (d := nd) ha hca16 hca) wl2 rfl 2 gX1_add_X1_hangOn rfl (by decide +kernel) ⟨Nat.le_of_ble_eq_true rfl, Nat.le_of_ble_eq_true rfl⟩ ⟨Nat.le_of_ble_eq_true rfl, Nat.le_of_ble_eq_true rfl⟩ rfl rfl (Nat.le_of_ble_eq_true rfl) (fun rv9 σ9 h9 => ?_)
  obtain ⟨h9a, h9b⟩ := h9
  refine g_eq (σ2 := hgS (wiS (uF (uI (uI (uN σ 2 (nI (nd + 1))) 9 (upd (sI σ 9) nd (nI a))) 10 (upd (sI σ 10) nd (nI b))) 11 (vf_upd (sF σ 11) nd l)) nd w) a ca nd) (lv2 := [(7, .int (nI nd)), (0, .ref ((xK X).2.2 2)), (1, .int (nI a)), (2, .int (nI b)), (3, .double l), (5, .double w)]) (st2 := []) h9b rfl (by rw [h9a]; rfl) ?_
  refine g_aload_n C dX1_add_55 1 rfl rfl ?_
  refine g_iload_n C dX1_add_56 3 rfl rfl ?_
  refine g_iload C dX1_add_57 0 rfl ?_
  refine g_callV (As := [.int (nI b), .int (nI nd)]) (rest := []) C dX1_add_59 (kX1_hangOn (xl X) (xK X) C.hD (hgS (wiS (uF (uI (uI (uN σ 2 (nI (nd + 1))) 9 (upd (sI σ 9) nd (nI a))) 10 (upd (sI σ 10) nd (nI b))) 11 (vf_upd (sF σ 11) nd l)) nd w) a ca nd) (n := cb) (d := nd) hb hcb16 (by show upd _ _ _ _ = _; unfold upd; rw [if_neg (Ne.symm hab)]; exact hcb)) wl2 rfl 2 gX1_add_X1_hangOn rfl (by decide +kernel) ⟨Nat.le_of_ble_eq_true rfl, Nat.le_of_ble_eq_true rfl⟩ ⟨Nat.le_of_ble_eq_true rfl, Nat.le_of_ble_eq_true rfl⟩ rfl rfl (Nat.le_of_ble_eq_true rfl) (fun rv9 σ9 h9 => ?_)
  obtain ⟨h9a, h9b⟩ := h9
  refine g_eq (σ2 := hgS (hgS (wiS (uF (uI (uI (uN σ 2 (nI (nd + 1))) 9 (upd (sI σ 9) nd (nI a))) 10 (upd (sI σ 10) nd (nI b))) 11 (vf_upd (sF σ 11) nd l)) nd w) a ca nd) b cb nd) (lv2 := [(7, .int (nI nd)), (0, .ref ((xK X).2.2 2)), (1, .int (nI a)), (2, .int (nI b)), (3, .double l), (5, .double w)]) (st2 := []) h9b rfl (by rw [h9a]; rfl) ?_
  refine g_iload C dX1_add_62 0 rfl ?_
  refine g_iret C dX1_add_64 rfl ⟨Nat.le_of_ble_eq_true rfl, Nat.le_of_ble_eq_true rfl⟩ ?_
  rw [hF]
  exact ⟨rfl, rfl⟩

theorem inX4_add_X4 : ∀ w ∈ u_ws RX4 TX4 6, w ∈ wsX4_add := by decide +kernel
set_option maxHeartbeats 4000000 in
set_option maxRecDepth 100000 in
theorem kX4_add (l : Launch) (K : gK) (hD : gD K) (σ : gS) {nm j : Nat} {need : UInt64} (hn : sN σ 3 = nI nm) (hnm : nm < 8) : Ct l yX4_add wsX4_add { frames := 0, cells := 0, slots := 0, locals := 0 } K [.ref (K.2.2 3), .int (nI j), .double need] σ (fun r t => r = some (.int (nI nm)) ∧ t = maS σ nm j need) := by
  refine Ct.of hD (by decide) rfl (Nat.le_of_ble_eq_true rfl) ?_
  intro X hL hK hF C
  subst hL; subst hK
  refine g_eq (σ2 := σ) (lv2 := [(0, .ref ((xK X).2.2 3)), (1, .int (nI j)), (2, .double need)]) (st2 := []) rfl rfl rfl ?_
  refine g_aload_n C dX4_add_0 0 rfl rfl ?_
  refine g_get C dX4_add_1 wl3 rfl 0 (by decide) 1 rfl rfl rfl inX4_add_X4 ?_
  refine g_topi (y := nI nm) hn ?_
  refine g_istore (lv' := [(4, .int (nI nm)), (0, .ref ((xK X).2.2 3)), (1, .int (nI j)), (2, .double need)]) C dX4_add_4 (by decide) rfl ?_
  refine g_aload_n C dX4_add_6 1 rfl rfl ?_
  refine g_dup C dX4_add_7 rfl ?_
  refine g_get C dX4_add_8 wl3 rfl 0 (by decide) 1 rfl rfl rfl inX4_add_X4 ?_
  refine g_topi (y := nI nm) hn ?_
  refine g_iconst (v := nI 1) C dX4_add_11 (by decide +kernel) ?_
  refine g_iadd C dX4_add_12 ?_
  refine g_topi (y := nI (nm + 1)) (nI_add nm 1) ?_
  refine g_put (σ' := uN σ 3 (nI (nm + 1))) (ty := .int) C dX4_add_13 wl3 rfl 0 (by decide) 1 rfl rfl inX4_add_X4 tyX4_ok nmX4 rfl (by decide +kernel) rfl rfl (Nat.le_of_ble_eq_true rfl) wsN3 ?_
  refine g_aload_n C dX4_add_16 1 rfl rfl ?_
  refine g_get C dX4_add_17 wl3 rfl 1 (by decide) 2 rfl rfl rfl inX4_add_X4 ?_
  refine g_iload C dX4_add_20 0 rfl ?_
  refine g_iload_n C dX4_add_22 2 rfl rfl ?_
  refine g_iast (j := nm) (σ' := uI (uN σ 3 (nI (nm + 1))) 16 (upd (sI (uN σ 3 (nI (nm + 1))) 16) nm (nI j))) C dX4_add_23 wl16 rfl (by omega) (by decide) wsA16 ?_
  refine g_aload_n C dX4_add_24 1 rfl rfl ?_
  refine g_get C dX4_add_25 wl3 rfl 2 (by decide) 3 rfl rfl rfl inX4_add_X4 ?_
  refine g_iload C dX4_add_28 0 rfl ?_
  refine g_dload_n C dX4_add_30 3 rfl rfl ?_
  refine g_dast (j := nm) (σ' := uF (uI (uN σ 3 (nI (nm + 1))) 16 (upd (sI (uN σ 3 (nI (nm + 1))) 16) nm (nI j))) 17 (vf_upd (sF (uI (uN σ 3 (nI (nm + 1))) 16 (upd (sI (uN σ 3 (nI (nm + 1))) 16) nm (nI j))) 17) nm need)) C dX4_add_31 wl17 rfl (by omega) (by decide) wsA17 ?_
  refine g_iload C dX4_add_32 0 rfl ?_
  refine g_iret C dX4_add_34 rfl ⟨Nat.le_of_ble_eq_true rfl, Nat.le_of_ble_eq_true rfl⟩ ?_
  rw [hF]
  exact ⟨rfl, rfl⟩

theorem inX4_setUsed_X4 : ∀ w ∈ u_ws RX4 TX4 6, w ∈ wsX4_setUsed := by decide +kernel
set_option maxHeartbeats 4000000 in
set_option maxRecDepth 100000 in
theorem kX4_setUsed (l : Launch) (K : gK) (hD : gD K) (σ : gS) {c m : Nat} {on : Bool} (hm : m < 8) : Ct l yX4_setUsed wsX4_setUsed { frames := 0, cells := 0, slots := 0, locals := 0 } K [.ref (K.2.2 3), .int (nI c), .int (nI m), .int (bI on)] σ (fun r t => r = none ∧ t = usS σ c m on) := by
  refine Ct.of hD (by decide) rfl (Nat.le_of_ble_eq_true rfl) ?_
  intro X hL hK hF C
  subst hL; subst hK
  refine g_eq (σ2 := σ) (lv2 := [(0, .ref ((xK X).2.2 3)), (1, .int (nI c)), (2, .int (nI m)), (3, .int (bI on))]) (st2 := []) rfl rfl rfl ?_
  refine g_iconst (v := nI 1) C dX4_setUsed_0 (by decide +kernel) ?_
  refine g_iload_n C dX4_setUsed_1 1 rfl rfl ?_
  refine g_ishl C dX4_setUsed_2 ?_
  refine g_istore (lv' := [(4, .int ((nI 1) <<< ((nI c) &&& 31))), (0, .ref ((xK X).2.2 3)), (1, .int (nI c)), (2, .int (nI m)), (3, .int (bI on))]) C dX4_setUsed_3 (by decide) rfl ?_
  refine g_aload_n C dX4_setUsed_5 1 rfl rfl ?_
  refine g_get C dX4_setUsed_6 wl3 rfl 5 (by decide) 1 rfl rfl rfl inX4_setUsed_X4 ?_
  refine g_iload_n C dX4_setUsed_9 3 rfl rfl ?_
  refine g_iload_n C dX4_setUsed_10 4 rfl rfl ?_
  refine g_if_eq (tgt := 26) C dX4_setUsed_11 (by decide) (fun c_11 => ?_) (fun c_11 => ?_)
  · refine g_aload_n C dX4_setUsed_26 1 rfl rfl ?_
    refine g_get C dX4_setUsed_27 wl3 rfl 5 (by decide) 1 rfl rfl rfl inX4_setUsed_X4 ?_
    refine g_iload_n C dX4_setUsed_30 3 rfl rfl ?_
    refine g_iald (j := m) C dX4_setUsed_31 wl20 rfl (by omega) (by decide) ?_
    refine g_iload C dX4_setUsed_32 0 rfl ?_
    refine g_iconst (v := (-1)) C dX4_setUsed_34 (by decide +kernel) ?_
    refine g_ixor C dX4_setUsed_35 ?_
    refine g_iand C dX4_setUsed_36 ?_
    refine g_iast (j := m) (σ' := uI σ 20 (upd (sI σ 20) m ((sI σ 20 m) &&& (((nI 1) <<< ((nI c) &&& 31)) ^^^ (-1))))) C dX4_setUsed_37 wl20 rfl (by omega) (by decide) wsA20 ?_
    refine g_vret C dX4_setUsed_38 rfl ⟨Nat.le_of_ble_eq_true rfl, Nat.le_of_ble_eq_true rfl⟩ ?_
    rw [hF]
    refine ⟨rfl, ?_⟩
    unfold usS usV
    cases on with
      | true => first | rfl | exact absurd c_11 (by decide)
      | false => first | rfl | exact absurd rfl c_11
  · refine g_aload_n C dX4_setUsed_14 1 rfl rfl ?_
    refine g_get C dX4_setUsed_15 wl3 rfl 5 (by decide) 1 rfl rfl rfl inX4_setUsed_X4 ?_
    refine g_iload_n C dX4_setUsed_18 3 rfl rfl ?_
    refine g_iald (j := m) C dX4_setUsed_19 wl20 rfl (by omega) (by decide) ?_
    refine g_iload C dX4_setUsed_20 0 rfl ?_
    refine g_ior C dX4_setUsed_22 ?_
    refine g_goto (tgt := 37) C dX4_setUsed_23 (by decide) ?_
    refine g_iast (j := m) (σ' := uI σ 20 (upd (sI σ 20) m ((sI σ 20 m) ||| ((nI 1) <<< ((nI c) &&& 31))))) C dX4_setUsed_37 wl20 rfl (by omega) (by decide) wsA20 ?_
    refine g_vret C dX4_setUsed_38 rfl ⟨Nat.le_of_ble_eq_true rfl, Nat.le_of_ble_eq_true rfl⟩ ?_
    rw [hF]
    refine ⟨rfl, ?_⟩
    unfold usS usV
    cases on with
      | true => first | rfl | exact absurd c_11 (by decide)
      | false => first | rfl | exact absurd rfl c_11

set_option maxHeartbeats 4000000 in
set_option maxRecDepth 100000 in
theorem kX6_isWithin (l : Launch) (K : gK) (hD : gD K) (σ : gS) (x lo hi : UInt64) : Ct l yX6_isWithin wsX6_isWithin { frames := 0, cells := 0, slots := 0, locals := 0 } K [.double x, .double lo, .double hi] σ (fun r t => r = some (.int (bI (wiB x lo hi))) ∧ t = σ) := by
  refine Ct.of hD (by decide) rfl (Nat.le_of_ble_eq_true rfl) ?_
  intro X hL hK hF C
  subst hL; subst hK
  refine g_eq (σ2 := σ) (lv2 := [(0, .double x), (2, .double lo), (4, .double hi)]) (st2 := []) rfl rfl rfl ?_
  refine g_dload_n C dX6_isWithin_0 0 rfl rfl ?_
  refine g_dload_n C dX6_isWithin_1 1 rfl rfl ?_
  refine g_dcmp C dX6_isWithin_2 ?_
  refine g_if_lt (tgt := 17) C dX6_isWithin_3 (by decide) (fun c_3 => ?_) (fun c_3 => ?_)
  · refine g_iconst (v := nI 0) C dX6_isWithin_17 (by decide +kernel) ?_
    refine g_zret C dX6_isWithin_18 rfl rfl ⟨Nat.le_of_ble_eq_true rfl, Nat.le_of_ble_eq_true rfl⟩ ?_
    rw [hF]
    refine ⟨?_, rfl⟩
    unfold wiB
    first
      | (rw [decide_eq_true c_3]; rfl)
      | (rw [decide_eq_false c_3, decide_eq_true c_10]; rfl)
      | (rw [decide_eq_false c_3, decide_eq_false c_10]; rfl)
  · refine g_dload_n C dX6_isWithin_6 0 rfl rfl ?_
    refine g_dload C dX6_isWithin_7 2 rfl ?_
    refine g_dcmp C dX6_isWithin_9 ?_
    refine g_if_gt (tgt := 17) C dX6_isWithin_10 (by decide) (fun c_10 => ?_) (fun c_10 => ?_)
    · refine g_iconst (v := nI 0) C dX6_isWithin_17 (by decide +kernel) ?_
      refine g_zret C dX6_isWithin_18 rfl rfl ⟨Nat.le_of_ble_eq_true rfl, Nat.le_of_ble_eq_true rfl⟩ ?_
      rw [hF]
      refine ⟨?_, rfl⟩
      unfold wiB
      first
        | (rw [decide_eq_true c_3]; rfl)
        | (rw [decide_eq_false c_3, decide_eq_true c_10]; rfl)
        | (rw [decide_eq_false c_3, decide_eq_false c_10]; rfl)
    · refine g_iconst (v := nI 1) C dX6_isWithin_13 (by decide +kernel) ?_
      refine g_goto (tgt := 18) C dX6_isWithin_14 (by decide) ?_
      refine g_zret C dX6_isWithin_18 rfl rfl ⟨Nat.le_of_ble_eq_true rfl, Nat.le_of_ble_eq_true rfl⟩ ?_
      rw [hF]
      refine ⟨?_, rfl⟩
      unfold wiB
      first
        | (rw [decide_eq_true c_3]; rfl)
        | (rw [decide_eq_false c_3, decide_eq_true c_10]; rfl)
        | (rw [decide_eq_false c_3, decide_eq_false c_10]; rfl)

theorem inX0_residual_X0 : ∀ w ∈ u_ws RX0 TX0 5, w ∈ wsX0_residual := by decide +kernel
theorem inX0_residual_X4 : ∀ w ∈ u_ws RX4 TX4 6, w ∈ wsX0_residual := by decide +kernel
set_option maxHeartbeats 4000000 in
set_option maxRecDepth 100000 in
theorem kX0_residual (l : Launch) (K : gK) (hD : gD K) (σ : gS) (hW : Wc σ) (hE : Ec σ) (hp : PhF (phC σ)) (hP : Pc_ σ) (hg : Gc_ σ) {j : Nat} (hj : j < 10) : Ct l yX0_residual wsX0_residual { frames := 2, cells := 0, slots := 0, locals := 47 } K [.ref (K.2.2 1), .int (nI j)] σ (fun r t => r = some (.double (if j = 0 then FP.dconst0 else rsV (phC σ) (sF σ 7) (sF σ 18) j)) ∧ t = σ) := by
  refine Ct.of hD (by decide) rfl (Nat.le_of_ble_eq_true rfl) ?_
  intro X hL hK hF C
  subst hL; subst hK
  refine g_eq (σ2 := σ) (lv2 := [(0, .ref ((xK X).2.2 1)), (1, .int (nI j))]) (st2 := []) rfl rfl rfl ?_
  refine g_iload_n C dX0_residual_0 1 rfl rfl ?_
  refine g_if_ne (tgt := 6) C dX0_residual_1 (by decide) (fun c_1 => ?_) (fun c_1 => ?_)
  · refine g_aload_n C dX0_residual_6 0 rfl rfl ?_
    refine g_iload_n C dX0_residual_7 1 rfl rfl ?_
    refine g_callV (As := [.int (nI j)]) (rest := []) C dX0_residual_8 (kX0_flowsTo (xl X) (xK X) C.hD σ hW hE hp hP hj) wl1 rfl 1 gX0_residual_X0_flowsTo rfl (by decide +kernel) ⟨Nat.le_of_ble_eq_true rfl, Nat.le_of_ble_eq_true rfl⟩ ⟨Nat.le_of_ble_eq_true rfl, Nat.le_of_ble_eq_true rfl⟩ rfl rfl (Nat.le_of_ble_eq_true rfl) (fun rv9 σ9 h9 => ?_)
    obtain ⟨h9a, h9b⟩ := h9
    refine g_eq (σ2 := σ) (lv2 := [(0, .ref ((xK X).2.2 1)), (1, .int (nI j))]) (st2 := [.double (floV (phC σ) (sF σ 7) j)]) h9b rfl (by rw [h9a]; rfl) ?_
    refine g_dstore_n (lv' := [(2, .double (floV (phC σ) (sF σ 7) j)), (0, .ref ((xK X).2.2 1)), (1, .int (nI j))]) C dX0_residual_11 rfl (by decide) rfl ?_
    refine g_iconst (v := nI 0) C dX0_residual_12 (by decide +kernel) ?_
    refine g_istore (lv' := [(4, .int (nI 0)), (2, .double (floV (phC σ) (sF σ 7) j)), (0, .ref ((xK X).2.2 1)), (1, .int (nI j))]) C dX0_residual_13 (by decide) rfl ?_
    have loop15 : ∀ (r9 : Nat) (m : Nat), pM (phC σ) - m < r9 → (m ≤ pM (phC σ)) → G X 5 0 0 σ [(0, .ref ((xK X).2.2 1)), (1, .int (nI j)), (2, .double (accF (floV (phC σ) (sF σ 7) j) (opAt (phC σ) j) (drV (phC σ) (sF σ 7) (sF σ 18)) m)), (4, .int (nI m))] 15 [] := by
      intro r9
      induction r9 with
      | zero => intro m h9; exact absurd h9 (Nat.not_lt_zero _)
      | succ r9 ih15 =>
        intro m hm15 hm
        refine g_iload C dX0_residual_15 3 rfl ?_
        refine g_aload_n C dX0_residual_17 0 rfl rfl ?_
        refine g_get C dX0_residual_18 wl1 rfl 1 (by decide) 1 rfl rfl rfl inX0_residual_X0 ?_
        refine g_get C dX0_residual_21 wl3 rfl 0 (by decide) 2 rfl rfl rfl inX0_residual_X4 ?_
        refine g_topi (y := nI (pM (phC σ))) hW.nm ?_
        refine g_icmp_ge (tgt := 55) C dX0_residual_24 (by decide) (fun c_24 => ?_) (fun c_24 => ?_)
        · have hme : m = pM (phC σ) := by
            have h9 := (nI_leI (by have := hW.nm8; omega) (by have := hW.nm8; omega)).mp c_24
            omega
          refine g_dload_n C dX0_residual_55 2 rfl rfl ?_
          refine g_dret C dX0_residual_56 rfl ⟨Nat.le_of_ble_eq_true rfl, Nat.le_of_ble_eq_true rfl⟩ ?_
          rw [hF]
          exact ⟨by rw [if_neg (fun h => c_1 (by rw [h]; rfl)), hme]; rfl, rfl⟩
        · have hmt : m < pM (phC σ) := by
            refine Nat.lt_of_not_le fun h => c_24 ?_
            exact (nI_leI (by have := hW.nm8; omega) (by have := hW.nm8; omega)).mpr (by omega)
          refine g_aload_n C dX0_residual_27 0 rfl rfl ?_
          refine g_get C dX0_residual_28 wl1 rfl 1 (by decide) 1 rfl rfl rfl inX0_residual_X0 ?_
          refine g_iload C dX0_residual_31 3 rfl ?_
          refine g_iload_n C dX0_residual_33 1 rfl rfl ?_
          refine g_callV (As := [.int (nI m), .int (nI j)]) (rest := []) C dX0_residual_34 (kX4_isOpenAt (xl X) (xK X) C.hD σ hW hmt hj) wl3 rfl 2 gX0_residual_X4_isOpenAt rfl (by decide +kernel) ⟨Nat.le_of_ble_eq_true rfl, Nat.le_of_ble_eq_true rfl⟩ ⟨Nat.le_of_ble_eq_true rfl, Nat.le_of_ble_eq_true rfl⟩ rfl rfl (Nat.le_of_ble_eq_true rfl) (fun rv9 σ9 h9 => ?_)
          obtain ⟨h9a, h9b⟩ := h9
          refine g_eq (σ2 := σ) (lv2 := [(0, .ref ((xK X).2.2 1)), (1, .int (nI j)), (2, .double (accF (floV (phC σ) (sF σ 7) j) (opAt (phC σ) j) (drV (phC σ) (sF σ 7) (sF σ 18)) m)), (4, .int (nI m))]) (st2 := [.int (bI (opAt (phC σ) j m))]) h9b rfl (by rw [h9a]; rfl) ?_
          refine g_if_eq (tgt := 49) C dX0_residual_37 (by decide) (fun c_37 => ?_) (fun c_37 => ?_)
          · have hb : opAt (phC σ) j m = false := (bI_ne _).mp c_37
            refine g_eq (σ2 := σ) (lv2 := [(0, .ref ((xK X).2.2 1)), (1, .int (nI j)), (2, .double (accF (floV (phC σ) (sF σ 7) j) (opAt (phC σ) j) (drV (phC σ) (sF σ 7) (sF σ 18)) (m + 1))), (4, .int (nI m))]) (st2 := []) rfl (congrArg (fun z9 => ([(0, .ref ((xK X).2.2 1)), (1, .int (nI j)), (2, .double z9), (4, .int (nI m))] : List (Nat × Value))) ((accF_no hb).symm)) rfl ?_
            refine g_iinc (v := nI (m + 1)) (lv' := [(4, .int (nI (m + 1))), (0, .ref ((xK X).2.2 1)), (1, .int (nI j)), (2, .double (accF (floV (phC σ) (sF σ 7) j) (opAt (phC σ) j) (drV (phC σ) (sF σ 7) (sF σ 18)) (m + 1)))]) C dX0_residual_49 3 rfl (nI_1 m) (by decide) rfl ?_
            refine g_goto (tgt := 15) C dX0_residual_52 (by decide) ?_
            refine g_lv [1, 2, 3, 0] rfl ?_
            exact ih15 (m + 1) (by omega) (by omega)
          · have hb : opAt (phC σ) j m = true := by
              cases h : opAt (phC σ) j m with
              | true => rfl
              | false => exact absurd ((bI_ne _).mpr h) c_37
            refine g_dload_n C dX0_residual_40 2 rfl rfl ?_
            refine g_aload_n C dX0_residual_41 0 rfl rfl ?_
            refine g_iload C dX0_residual_42 3 rfl ?_
            refine g_callV (As := [.int (nI m)]) (rest := [.double (accF (floV (phC σ) (sF σ 7) j) (opAt (phC σ) j) (drV (phC σ) (sF σ 7) (sF σ 18)) m)]) C dX0_residual_44 (kX0_draw (xl X) (xK X) C.hD σ hW hp hP hg hmt) wl1 rfl 1 gX0_residual_X0_draw rfl (by decide +kernel) ⟨Nat.le_of_ble_eq_true rfl, Nat.le_of_ble_eq_true rfl⟩ ⟨Nat.le_of_ble_eq_true rfl, Nat.le_of_ble_eq_true rfl⟩ rfl rfl (Nat.le_of_ble_eq_true rfl) (fun rv9 σ9 h9 => ?_)
            obtain ⟨h9a, h9b⟩ := h9
            refine g_eq (σ2 := σ) (lv2 := [(0, .ref ((xK X).2.2 1)), (1, .int (nI j)), (2, .double (accF (floV (phC σ) (sF σ 7) j) (opAt (phC σ) j) (drV (phC σ) (sF σ 7) (sF σ 18)) m)), (4, .int (nI m))]) (st2 := [.double (drV (phC σ) (sF σ 7) (sF σ 18) m), .double (accF (floV (phC σ) (sF σ 7) j) (opAt (phC σ) j) (drV (phC σ) (sF σ 7) (sF σ 18)) m)]) h9b rfl (by rw [h9a]; rfl) ?_
            refine g_dadd C dX0_residual_47 (accF_ok (floV_B hp hP hj) (n := pM (phC σ)) (by have := hW.nm8; omega) hmt (p := opAt (phC σ) j) (g := drV (phC σ) (sF σ 7) (sF σ 18)) (fun i hi _ => (drV_B hp hP hg hi).2.2.1.mono (by decide)) hb) ?_
            refine g_topd (y := accF (floV (phC σ) (sF σ 7) j) (opAt (phC σ) j) (drV (phC σ) (sF σ 7) (sF σ 18)) (m + 1)) ((accF_yes hb).symm) ?_
            refine g_dstore_n (lv' := [(2, .double (accF (floV (phC σ) (sF σ 7) j) (opAt (phC σ) j) (drV (phC σ) (sF σ 7) (sF σ 18)) (m + 1))), (0, .ref ((xK X).2.2 1)), (1, .int (nI j)), (4, .int (nI m))]) C dX0_residual_48 rfl (by decide) rfl ?_
            refine g_iinc (v := nI (m + 1)) (lv' := [(4, .int (nI (m + 1))), (2, .double (accF (floV (phC σ) (sF σ 7) j) (opAt (phC σ) j) (drV (phC σ) (sF σ 7) (sF σ 18)) (m + 1))), (0, .ref ((xK X).2.2 1)), (1, .int (nI j))]) C dX0_residual_49 3 rfl (nI_1 m) (by decide) rfl ?_
            refine g_goto (tgt := 15) C dX0_residual_52 (by decide) ?_
            refine g_lv [2, 3, 1, 0] rfl ?_
            exact ih15 (m + 1) (by omega) (by omega)
    refine g_lv [2, 3, 1, 0] rfl ?_
    exact loop15 (pM (phC σ) + 1) 0 (by omega) (Nat.zero_le _)
  · refine g_dconst0 C dX0_residual_4 ?_
    refine g_dret C dX0_residual_5 rfl ⟨Nat.le_of_ble_eq_true rfl, Nat.le_of_ble_eq_true rfl⟩ ?_
    rw [hF]
    exact ⟨by rw [if_pos ((nI_eq (a := j) (b := 0) (by omega) (by decide)).mp (show nI j = nI 0 from c_1))], rfl⟩

theorem inX5_add_X5 : ∀ w ∈ u_ws RX5 TX5 4, w ∈ wsX5_add := by decide +kernel
set_option maxHeartbeats 4000000 in
set_option maxRecDepth 100000 in
theorem kX5_add (l : Launch) (K : gK) (hD : gD K) (σ : gS) {n : Nat} {w : UInt64} {x : Int32} (hn : sN σ 4 = nI n) (hn6 : n < 6) (hod : ∀ q, q < n → sI σ 26 q = nI (tn (sI σ 26 q)) ∧ tn (sI σ 26 q) < 6) : Ct l yX5_add wsX5_add { frames := 0, cells := 0, slots := 0, locals := 0 } K [.ref (K.2.2 5), .double w, .int x] σ (fun r t => r = some (.int (nI n)) ∧ t = siS σ n w x) := by
  refine Ct.of hD (by decide) rfl (Nat.le_of_ble_eq_true rfl) ?_
  intro X hL hK hF C
  subst hL; subst hK
  refine g_eq (σ2 := σ) (lv2 := [(0, .ref ((xK X).2.2 5)), (1, .double w), (3, .int x)]) (st2 := []) rfl rfl rfl ?_
  refine g_aload_n C dX5_add_0 0 rfl rfl ?_
  refine g_get C dX5_add_1 wl5 rfl 0 (by decide) 1 rfl rfl rfl inX5_add_X5 ?_
  refine g_topi (y := nI n) hn ?_
  refine g_istore (lv' := [(4, .int (nI n)), (0, .ref ((xK X).2.2 5)), (1, .double w), (3, .int x)]) C dX5_add_4 (by decide) rfl ?_
  refine g_aload_n C dX5_add_6 1 rfl rfl ?_
  refine g_get C dX5_add_7 wl5 rfl 1 (by decide) 2 rfl rfl rfl inX5_add_X5 ?_
  refine g_iload C dX5_add_10 0 rfl ?_
  refine g_dload_n C dX5_add_12 2 rfl rfl ?_
  refine g_dast (j := n) (σ' := uF σ 24 (vf_upd (sF σ 24) n w)) C dX5_add_13 wl24 rfl (by omega) (by decide) wsA24 ?_
  refine g_aload_n C dX5_add_14 1 rfl rfl ?_
  refine g_get C dX5_add_15 wl5 rfl 2 (by decide) 3 rfl rfl rfl inX5_add_X5 ?_
  refine g_iload C dX5_add_18 0 rfl ?_
  refine g_iload_n C dX5_add_20 3 rfl rfl ?_
  refine g_iast (j := n) (σ' := uI (uF σ 24 (vf_upd (sF σ 24) n w)) 25 (upd (sI (uF σ 24 (vf_upd (sF σ 24) n w)) 25) n x)) C dX5_add_21 wl25 rfl (by omega) (by decide) wsA25 ?_
  refine g_iload C dX5_add_22 0 rfl ?_
  refine g_istore (lv' := [(5, .int (nI n)), (4, .int (nI n)), (0, .ref ((xK X).2.2 5)), (1, .double w), (3, .int x)]) C dX5_add_24 (by decide) rfl ?_
  refine g_eq (σ2 := uI (uI (uF σ 24 (vf_upd (sF σ 24) n w)) 25 (upd (sI σ 25) n x)) 26 (sI σ 26)) (lv2 := [(5, .int (nI n)), (4, .int (nI n)), (0, .ref ((xK X).2.2 5)), (1, .double w), (3, .int x)]) (st2 := []) ((uI_self _ 26).symm) rfl rfl ?_
  have loop26 : ∀ (r9 : Nat) (p : Nat) (o : Nat → Int32), p < r9 → (p ≤ n) → (insP (upd (sI σ 25) n x) x o p = insP (upd (sI σ 25) n x) x (sI σ 26) n) → (∀ q, q < p → o q = nI (tn (o q)) ∧ tn (o q) < 6) → G X 6 0 0 (uI (uI (uF σ 24 (vf_upd (sF σ 24) n w)) 25 (upd (sI σ 25) n x)) 26 o) [(0, .ref ((xK X).2.2 5)), (1, .double w), (3, .int x), (4, .int (nI n)), (5, .int (nI p))] 26 [] := by
    intro r9
    induction r9 with
    | zero => intro p o h9; exact absurd h9 (Nat.not_lt_zero _)
    | succ r9 ih26 =>
      intro p o hm26 hp ho hoq
      refine g_iload C dX5_add_26 4 rfl ?_
      refine g_if_le (tgt := 71) C dX5_add_28 (by decide) (fun c_28 => ?_) (fun c_28 => ?_)
      · have hp0 : p = 0 := by
          refine Nat.eq_zero_of_not_pos fun h => ?_
          exact absurd c_28 (nI_nle h (by omega))
        have hres : insP (upd (sI σ 25) n x) x (sI σ 26) n = (p, o) := by rw [← ho, hp0]; rfl
        refine g_aload_n C dX5_add_71 0 rfl rfl ?_
        refine g_get C dX5_add_72 wl5 rfl 3 (by decide) 4 rfl rfl rfl inX5_add_X5 ?_
        refine g_iload C dX5_add_75 4 rfl ?_
        refine g_iload C dX5_add_77 3 rfl ?_
        refine g_iast (j := p) (σ' := uI (uI (uI (uF σ 24 (vf_upd (sF σ 24) n w)) 25 (upd (sI σ 25) n x)) 26 o) 26 (upd (sI (uI (uI (uF σ 24 (vf_upd (sF σ 24) n w)) 25 (upd (sI σ 25) n x)) 26 o) 26) p (nI n))) C dX5_add_79 wl26 rfl (by omega) (by decide) wsA26 ?_
        refine g_eq (σ2 := uI (uI (uF σ 24 (vf_upd (sF σ 24) n w)) 25 (upd (sI σ 25) n x)) 26 (upd (insP (upd (sI σ 25) n x) x (sI σ 26) n).2 (insP (upd (sI σ 25) n x) x (sI σ 26) n).1 (nI n))) (lv2 := [(0, .ref ((xK X).2.2 5)), (1, .double w), (3, .int x), (4, .int (nI n)), (5, .int (nI p))]) (st2 := []) (by rw [sI_self, uI_uI, hres]) rfl rfl ?_
        refine g_aload_n C dX5_add_80 0 rfl rfl ?_
        refine g_dup C dX5_add_81 rfl ?_
        refine g_get C dX5_add_82 wl5 rfl 0 (by decide) 1 rfl rfl rfl inX5_add_X5 ?_
        refine g_topi (y := nI n) hn ?_
        refine g_iconst (v := nI 1) C dX5_add_85 (by decide +kernel) ?_
        refine g_iadd C dX5_add_86 ?_
        refine g_topi (y := nI (n + 1)) (nI_add n 1) ?_
        refine g_put (σ' := uN (uI (uI (uF σ 24 (vf_upd (sF σ 24) n w)) 25 (upd (sI σ 25) n x)) 26 (upd (insP (upd (sI σ 25) n x) x (sI σ 26) n).2 (insP (upd (sI σ 25) n x) x (sI σ 26) n).1 (nI n))) 4 (nI (n + 1))) (ty := .int) C dX5_add_87 wl5 rfl 0 (by decide) 1 rfl rfl inX5_add_X5 tyX5_ok nmX5 rfl (by decide +kernel) rfl rfl (Nat.le_of_ble_eq_true rfl) wsN4 ?_
        refine g_iload C dX5_add_90 3 rfl ?_
        refine g_iret C dX5_add_92 rfl ⟨Nat.le_of_ble_eq_true rfl, Nat.le_of_ble_eq_true rfl⟩ ?_
        rw [hF]
        exact ⟨rfl, rfl⟩
      · obtain ⟨p1, hp1⟩ : ∃ p1, p = p1 + 1 := by
          refine ⟨p - 1, ?_⟩
          have : p ≠ 0 := fun h => c_28 (by rw [h]; decide)
          omega
        subst hp1
        have ho1 := hoq p1 (by omega)
        refine g_eq (σ2 := uI (uI (uF σ 24 (vf_upd (sF σ 24) n w)) 25 (upd (sI σ 25) n x)) 26 o) (lv2 := [(0, .ref ((xK X).2.2 5)), (1, .double w), (3, .int x), (4, .int (nI n)), (5, .int (nI (p1 + 1)))]) (st2 := []) rfl rfl rfl ?_
        refine g_aload_n C dX5_add_31 0 rfl rfl ?_
        refine g_get C dX5_add_32 wl5 rfl 2 (by decide) 3 rfl rfl rfl inX5_add_X5 ?_
        refine g_aload_n C dX5_add_35 0 rfl rfl ?_
        refine g_get C dX5_add_36 wl5 rfl 3 (by decide) 4 rfl rfl rfl inX5_add_X5 ?_
        refine g_iload C dX5_add_39 4 rfl ?_
        refine g_iconst (v := nI 1) C dX5_add_41 (by decide +kernel) ?_
        refine g_isub C dX5_add_42 ?_
        refine g_topi (y := nI p1) (by show nI (p1 + 1) - 1 = nI p1; exact nI_pred p1) ?_
        refine g_iald (j := p1) C dX5_add_43 wl26 rfl (by omega) (by decide) ?_
        refine g_topi (y := o p1) rfl ?_
        refine g_iald (j := (tn (o p1))) C dX5_add_44 wl25 ho1.1 ho1.2 (by decide) ?_
        refine g_topi (y := (upd (sI σ 25) n x) (tn (o p1))) rfl ?_
        refine g_iload_n C dX5_add_45 2 rfl rfl ?_
        refine g_icmp_le (tgt := 71) C dX5_add_46 (by decide) (fun c_46 => ?_) (fun c_46 => ?_)
        · have hres : insP (upd (sI σ 25) n x) x (sI σ 26) n = (p1 + 1, o) := by rw [← ho]; exact insP_no (by rw [Int32.not_lt]; exact c_46)
          refine g_aload_n C dX5_add_71 0 rfl rfl ?_
          refine g_get C dX5_add_72 wl5 rfl 3 (by decide) 4 rfl rfl rfl inX5_add_X5 ?_
          refine g_iload C dX5_add_75 4 rfl ?_
          refine g_iload C dX5_add_77 3 rfl ?_
          refine g_iast (j := (p1 + 1)) (σ' := uI (uI (uI (uF σ 24 (vf_upd (sF σ 24) n w)) 25 (upd (sI σ 25) n x)) 26 o) 26 (upd (sI (uI (uI (uF σ 24 (vf_upd (sF σ 24) n w)) 25 (upd (sI σ 25) n x)) 26 o) 26) (p1 + 1) (nI n))) C dX5_add_79 wl26 rfl (by omega) (by decide) wsA26 ?_
          refine g_eq (σ2 := uI (uI (uF σ 24 (vf_upd (sF σ 24) n w)) 25 (upd (sI σ 25) n x)) 26 (upd (insP (upd (sI σ 25) n x) x (sI σ 26) n).2 (insP (upd (sI σ 25) n x) x (sI σ 26) n).1 (nI n))) (lv2 := [(0, .ref ((xK X).2.2 5)), (1, .double w), (3, .int x), (4, .int (nI n)), (5, .int (nI (p1 + 1)))]) (st2 := []) (by rw [sI_self, uI_uI, hres]) rfl rfl ?_
          refine g_aload_n C dX5_add_80 0 rfl rfl ?_
          refine g_dup C dX5_add_81 rfl ?_
          refine g_get C dX5_add_82 wl5 rfl 0 (by decide) 1 rfl rfl rfl inX5_add_X5 ?_
          refine g_topi (y := nI n) hn ?_
          refine g_iconst (v := nI 1) C dX5_add_85 (by decide +kernel) ?_
          refine g_iadd C dX5_add_86 ?_
          refine g_topi (y := nI (n + 1)) (nI_add n 1) ?_
          refine g_put (σ' := uN (uI (uI (uF σ 24 (vf_upd (sF σ 24) n w)) 25 (upd (sI σ 25) n x)) 26 (upd (insP (upd (sI σ 25) n x) x (sI σ 26) n).2 (insP (upd (sI σ 25) n x) x (sI σ 26) n).1 (nI n))) 4 (nI (n + 1))) (ty := .int) C dX5_add_87 wl5 rfl 0 (by decide) 1 rfl rfl inX5_add_X5 tyX5_ok nmX5 rfl (by decide +kernel) rfl rfl (Nat.le_of_ble_eq_true rfl) wsN4 ?_
          refine g_iload C dX5_add_90 3 rfl ?_
          refine g_iret C dX5_add_92 rfl ⟨Nat.le_of_ble_eq_true rfl, Nat.le_of_ble_eq_true rfl⟩ ?_
          rw [hF]
          exact ⟨rfl, rfl⟩
        · have hcc : x < (upd (sI σ 25) n x) (tn (o p1)) := by rw [← Int32.not_le]; exact c_46
          refine g_aload_n C dX5_add_49 0 rfl rfl ?_
          refine g_get C dX5_add_50 wl5 rfl 3 (by decide) 4 rfl rfl rfl inX5_add_X5 ?_
          refine g_iload C dX5_add_53 4 rfl ?_
          refine g_aload_n C dX5_add_55 0 rfl rfl ?_
          refine g_get C dX5_add_56 wl5 rfl 3 (by decide) 4 rfl rfl rfl inX5_add_X5 ?_
          refine g_iload C dX5_add_59 4 rfl ?_
          refine g_iconst (v := nI 1) C dX5_add_61 (by decide +kernel) ?_
          refine g_isub C dX5_add_62 ?_
          refine g_topi (y := nI p1) (by show nI (p1 + 1) - 1 = nI p1; exact nI_pred p1) ?_
          refine g_iald (j := p1) C dX5_add_63 wl26 rfl (by omega) (by decide) ?_
          refine g_topi (y := o p1) rfl ?_
          refine g_iast (j := (p1 + 1)) (σ' := uI (uI (uI (uF σ 24 (vf_upd (sF σ 24) n w)) 25 (upd (sI σ 25) n x)) 26 o) 26 (upd (sI (uI (uI (uF σ 24 (vf_upd (sF σ 24) n w)) 25 (upd (sI σ 25) n x)) 26 o) 26) (p1 + 1) (o p1))) C dX5_add_64 wl26 rfl (by omega) (by decide) wsA26 ?_
          refine g_eq (σ2 := uI (uI (uF σ 24 (vf_upd (sF σ 24) n w)) 25 (upd (sI σ 25) n x)) 26 (upd o (p1 + 1) (o p1))) (lv2 := [(0, .ref ((xK X).2.2 5)), (1, .double w), (3, .int x), (4, .int (nI n)), (5, .int (nI (p1 + 1)))]) (st2 := []) (by rw [sI_self, uI_uI]) rfl rfl ?_
          refine g_iinc (v := nI p1) (lv' := [(5, .int (nI p1)), (0, .ref ((xK X).2.2 5)), (1, .double w), (3, .int x), (4, .int (nI n))]) C dX5_add_65 4 rfl (by show nI (p1 + 1) + Int32.ofInt (-1) = nI p1; rw [show (Int32.ofInt (-1)) = -1 by decide, ← Int32.sub_eq_add_neg]; exact nI_pred p1) (by decide) rfl ?_
          refine g_goto (tgt := 26) C dX5_add_68 (by decide) ?_
          refine g_lv [1, 2, 3, 4, 0] rfl ?_
          exact ih26 p1 _ (by omega) (by omega) ((insP_yes hcc).symm.trans ho) (fun q hq => by rw [show upd o (p1 + 1) (o p1) q = o q from if_neg (by omega)]; exact hoq q (by omega))
  refine g_lv [2, 3, 4, 1, 0] rfl ?_
  exact loop26 (n + 1) n (sI σ 26) (by omega) (Nat.le_refl _) rfl hod
