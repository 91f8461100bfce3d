/-! the law's own methods: a call of the class, its exceptions as a code -/
def outL (τ : gS) (v : Int64) : gS := uL τ (vp_updL (sL τ) 0 v)
def outF (τ : gS) (v : UInt64) : gS := uF τ 44 (vf_upd (sF τ 44) 0 v)
def bL (b : Bool) : Int64 := if b then 1 else 0
def Wr (σ : gS) (cd : Nat) (P : gS → Prop) : Option Value → gS → Prop := fun r t => r = some (.int (nI cd)) ∧ (cd = 0 → P t) ∧ (cd ≠ 0 → t = σ)

set_option maxHeartbeats 4000000 in
set_option maxRecDepth 100000 in
theorem kL_joint (l : Launch) (hl0 : l.stackTraces = false) (K : gK) (hD : gD K) (σ : gS) (hI : Ic σ) : CtX l yL_joint wsL_joint { frames := 8, cells := 1, slots := 6, locals := 122 } K [.ref (K.2.2 0), .ref (K.2.2 43)] σ (Wr σ (cdJoint (nJ σ)) (fun t => t = outL (uN (uN σ 1 (nI 0)) 0 (nI (nJ σ + 1))) (nI (nJ σ)).toInt64)) (fun _ _ => False) := by
  refine CtX.ofH hl0 hD (by decide) rfl (Nat.le_of_ble_eq_true rfl) ?_
  intro X hL hK hF C E
  subst hL; subst hK
  refine g_eq (σ2 := σ) (lv2 := [(0, .ref ((xK X).2.2 0)), (1, .ref ((xK X).2.2 43))]) (st2 := []) rfl rfl rfl ?_
  refine g_aload_n C dL_joint_0 1 rfl rfl ?_
  refine g_iconst (v := nI 0) C dL_joint_1 (by decide +kernel) ?_
  refine g_aload_n C dL_joint_2 0 rfl rfl ?_
  refine g_callVX (As := []) (rest := [.int (nI 0), .ref ((xK X).2.2 43)]) C E dL_joint_3 (kX6_joint (xl X) hl0 (xK X) C.hD σ hI) wl0 rfl 0 gL_joint_X6_joint rfl (by decide +kernel) ⟨Nat.le_of_ble_eq_true rfl, Nat.le_of_ble_eq_true rfl⟩ ⟨Nat.le_of_ble_eq_true rfl, Nat.le_of_ble_eq_true rfl⟩ rfl rfl (Nat.le_of_ble_eq_true rfl) (fun Ec9 σ9 h9 => ?_) (fun rv9 σ9 h9 => ?_)
  · obtain ⟨x1, k9, x2, x3⟩ := h9
    rw [x1]
    rcases k9 with _ | k9
    · have x3 : some eS = some Ec9 := x3
      rw [← Option.some.inj x3]
      refine gx_catch C E (name := eS) [] ⟨0, 8, 11, 13⟩ [] rfl (fun z hz => ?_) (by decide) (by decide) 1 rfl (List.mem_of_getElem? (i := 5) rfl) (fun q9 => ?_)
      · exact absurd hz List.not_mem_nil
      · refine g_astore_n (lv' := [(2, .ref q9), (0, .ref ((xK X).2.2 0)), (1, .ref ((xK X).2.2 43))]) C dL_joint_11 rfl (by decide) rfl ?_
        refine g_iconst (v := nI 1) C dL_joint_12 (by decide +kernel) ?_
        refine g_iret C dL_joint_13 rfl ⟨Nat.le_of_ble_eq_true rfl, Nat.le_of_ble_eq_true rfl⟩ ?_
        rw [hF]
        exact ⟨by rw [x2], fun h => absurd (x2.symm.trans h) (by decide), fun _ => rfl⟩
    · have x3 : none = some Ec9 := x3
      cases x3
  · obtain ⟨hcd, h9a, h9b⟩ := h9
    refine g_eq (σ2 := uN (uN σ 1 (nI 0)) 0 (nI (nJ σ + 1))) (lv2 := [(0, .ref ((xK X).2.2 0)), (1, .ref ((xK X).2.2 43))]) (st2 := [.int (nI (nJ σ)), .int (nI 0), .ref ((xK X).2.2 43)]) h9b rfl (by rw [h9a]; rfl) ?_
    refine g_i2l C dL_joint_6 ?_
    refine g_last (j := 0) (σ' := uL (uN (uN σ 1 (nI 0)) 0 (nI (nJ σ + 1))) (vp_updL (sL (uN (uN σ 1 (nI 0)) 0 (nI (nJ σ + 1)))) 0 ((nI (nJ σ)).toInt64))) C dL_joint_7 wl43 rfl (by decide) (by decide) wsA43 ?_
    refine g_goto (tgt := 14) C dL_joint_8 (by decide) ?_
    refine g_iconst (v := nI 0) C dL_joint_14 (by decide +kernel) ?_
    refine g_iret C dL_joint_15 rfl ⟨Nat.le_of_ble_eq_true rfl, Nat.le_of_ble_eq_true rfl⟩ ?_
    rw [hF]
    exact ⟨by rw [hcd], fun _ => rfl, fun h => absurd hcd h⟩

set_option maxHeartbeats 4000000 in
set_option maxRecDepth 100000 in
theorem kL_duct (l : Launch) (hl0 : l.stackTraces = false) (K : gK) (hD : gD K) (σ : gS) (hI : Ic σ) (a b : Int32) {ln wd : UInt64} (hl : dF ln) (hw : dF wd) : CtX l yL_duct wsL_duct { frames := 8, cells := 4, slots := 24, locals := 129 } K [.ref (K.2.2 0), .int a, .int b, .double ln, .double wd, .ref (K.2.2 43)] σ (Wr σ (cdDuct (nJ σ) (pD (phC σ)) a b ln wd) (fun t => t = outL (duR σ (tn a) (tn b) ln wd) (nI (pD (phC σ))).toInt64)) (fun _ _ => False) := by
  refine CtX.ofH hl0 hD (by decide) rfl (Nat.le_of_ble_eq_true rfl) ?_
  intro X hL hK hF C E
  subst hL; subst hK
  refine g_eq (σ2 := σ) (lv2 := [(0, .ref ((xK X).2.2 0)), (1, .int a), (2, .int b), (3, .double ln), (5, .double wd), (7, .ref ((xK X).2.2 43))]) (st2 := []) rfl rfl rfl ?_
  refine g_aload C dL_duct_0 5 rfl ?_
  refine g_iconst (v := nI 0) C dL_duct_2 (by decide +kernel) ?_
  refine g_aload_n C dL_duct_3 0 rfl rfl ?_
  refine g_iload_n C dL_duct_4 1 rfl rfl ?_
  refine g_iload_n C dL_duct_5 2 rfl rfl ?_
  refine g_dload_n C dL_duct_6 3 rfl rfl ?_
  refine g_dload C dL_duct_7 4 rfl ?_
  refine g_callVX (As := [.int a, .int b, .double ln, .double wd]) (rest := [.int (nI 0), .ref ((xK X).2.2 43)]) C E dL_duct_9 (kX6_duct (xl X) hl0 (xK X) C.hD σ hI a b hl hw) wl0 rfl 4 gL_duct_X6_duct rfl (by decide +kernel) ⟨Nat.le_of_ble_eq_true rfl, Nat.le_of_ble_eq_true rfl⟩ ⟨Nat.le_of_ble_eq_true rfl, Nat.le_of_ble_eq_true rfl⟩ rfl rfl (Nat.le_of_ble_eq_true rfl) (fun Ec9 σ9 h9 => ?_) (fun rv9 σ9 h9 => ?_)
  · obtain ⟨x1, k9, x2, x3⟩ := h9
    rw [x1]
    rcases k9 with _ | _ | _ | k9
    · have x3 : some eI = some Ec9 := x3
      rw [← Option.some.inj x3]
      refine gx_catch C E (name := eI) [] ⟨0, 14, 17, 19⟩ [⟨0, 14, 21, 21⟩, ⟨0, 14, 25, 13⟩] rfl (fun z hz => ?_) (by decide) (by decide) 1 rfl (List.mem_of_getElem? (i := 3) rfl) (fun q9 => ?_)
      · exact absurd hz List.not_mem_nil
      · refine g_astore (lv' := [(8, .ref q9), (0, .ref ((xK X).2.2 0)), (1, .int a), (2, .int b), (3, .double ln), (5, .double wd), (7, .ref ((xK X).2.2 43))]) C dL_duct_17 (by decide) rfl ?_
        refine g_iconst (v := nI 1) C dL_duct_19 (by decide +kernel) ?_
        refine g_iret C dL_duct_20 rfl ⟨Nat.le_of_ble_eq_true rfl, Nat.le_of_ble_eq_true rfl⟩ ?_
        rw [hF]
        exact ⟨by rw [x2], fun h => absurd (x2.symm.trans h) (by decide), fun _ => rfl⟩
    · have x3 : some eA = some Ec9 := x3
      rw [← Option.some.inj x3]
      refine gx_catch C E (name := eA) [⟨0, 14, 17, 19⟩] ⟨0, 14, 21, 21⟩ [⟨0, 14, 25, 13⟩] rfl (fun z hz => ?_) (by decide) (by decide) 2 rfl (List.mem_of_getElem? (i := 4) rfl) (fun q9 => ?_)
      · simp only [List.mem_cons, List.not_mem_nil, or_false] at hz
        subst hz
        exact ⟨by decide, 1, eI, rfl, by decide +kernel⟩
      · refine g_astore (lv' := [(8, .ref q9), (0, .ref ((xK X).2.2 0)), (1, .int a), (2, .int b), (3, .double ln), (5, .double wd), (7, .ref ((xK X).2.2 43))]) C dL_duct_21 (by decide) rfl ?_
        refine g_iconst (v := nI 2) C dL_duct_23 (by decide +kernel) ?_
        refine g_iret C dL_duct_24 rfl ⟨Nat.le_of_ble_eq_true rfl, Nat.le_of_ble_eq_true rfl⟩ ?_
        rw [hF]
        exact ⟨by rw [x2], fun h => absurd (x2.symm.trans h) (by decide), fun _ => rfl⟩
    · have x3 : some eS = some Ec9 := x3
      rw [← Option.some.inj x3]
      refine gx_catch C E (name := eS) [⟨0, 14, 17, 19⟩, ⟨0, 14, 21, 21⟩] ⟨0, 14, 25, 13⟩ [] rfl (fun z hz => ?_) (by decide) (by decide) 3 rfl (List.mem_of_getElem? (i := 5) rfl) (fun q9 => ?_)
      · simp only [List.mem_cons, List.not_mem_nil, or_false] at hz
        rcases hz with rfl | rfl
        · exact ⟨by decide, 1, eI, rfl, by decide +kernel⟩
        · exact ⟨by decide, 2, eA, rfl, by decide +kernel⟩
      · refine g_astore (lv' := [(8, .ref q9), (0, .ref ((xK X).2.2 0)), (1, .int a), (2, .int b), (3, .double ln), (5, .double wd), (7, .ref ((xK X).2.2 43))]) C dL_duct_25 (by decide) rfl ?_
        refine g_iconst (v := nI 3) C dL_duct_27 (by decide +kernel) ?_
        refine g_iret C dL_duct_28 rfl ⟨Nat.le_of_ble_eq_true rfl, Nat.le_of_ble_eq_true rfl⟩ ?_
        rw [hF]
        exact ⟨by rw [x2], fun h => absurd (x2.symm.trans h) (by decide), fun _ => rfl⟩
    · have x3 : none = some Ec9 := x3
      cases x3
  · obtain ⟨hcd, h9a, h9b⟩ := h9
    refine g_eq (σ2 := duR σ (tn a) (tn b) ln wd) (lv2 := [(0, .ref ((xK X).2.2 0)), (1, .int a), (2, .int b), (3, .double ln), (5, .double wd), (7, .ref ((xK X).2.2 43))]) (st2 := [.int (nI (pD (phC σ))), .int (nI 0), .ref ((xK X).2.2 43)]) h9b rfl (by rw [h9a]; rfl) ?_
    refine g_i2l C dL_duct_12 ?_
    refine g_last (j := 0) (σ' := uL (duR σ (tn a) (tn b) ln wd) (vp_updL (sL (duR σ (tn a) (tn b) ln wd)) 0 ((nI (pD (phC σ))).toInt64))) C dL_duct_13 wl43 rfl (by decide) (by decide) wsA43 ?_
    refine g_goto (tgt := 29) C dL_duct_14 (by decide) ?_
    refine g_iconst (v := nI 0) C dL_duct_29 (by decide +kernel) ?_
    refine g_iret C dL_duct_30 rfl ⟨Nat.le_of_ble_eq_true rfl, Nat.le_of_ble_eq_true rfl⟩ ?_
    rw [hF]
    exact ⟨by rw [hcd], fun _ => rfl, fun h => absurd hcd h⟩

set_option maxHeartbeats 4000000 in
set_option maxRecDepth 100000 in
theorem kL_machine (l : Launch) (hl0 : l.stackTraces = false) (K : gK) (hD : gD K) (σ : gS) (hI : Ic σ) (a : Int32) {nd : UInt64} (hn : dF nd) : CtX l yL_machine wsL_machine { frames := 8, cells := 3, slots := 18, locals := 126 } K [.ref (K.2.2 0), .int a, .double nd, .ref (K.2.2 43)] σ (Wr σ (cdMach (nJ σ) (pM (phC σ)) a nd) (fun t => t = outL (maS (uN σ 1 (nI 0)) (pM (phC σ)) (tn a) nd) (nI (pM (phC σ))).toInt64)) (fun _ _ => False) := by
  refine CtX.ofH hl0 hD (by decide) rfl (Nat.le_of_ble_eq_true rfl) ?_
  intro X hL hK hF C E
  subst hL; subst hK
  refine g_eq (σ2 := σ) (lv2 := [(0, .ref ((xK X).2.2 0)), (1, .int a), (2, .double nd), (4, .ref ((xK X).2.2 43))]) (st2 := []) rfl rfl rfl ?_
  refine g_aload C dL_machine_0 3 rfl ?_
  refine g_iconst (v := nI 0) C dL_machine_2 (by decide +kernel) ?_
  refine g_aload_n C dL_machine_3 0 rfl rfl ?_
  refine g_iload_n C dL_machine_4 1 rfl rfl ?_
  refine g_dload_n C dL_machine_5 2 rfl rfl ?_
  refine g_callVX (As := [.int a, .double nd]) (rest := [.int (nI 0), .ref ((xK X).2.2 43)]) C E dL_machine_6 (kX6_machine (xl X) hl0 (xK X) C.hD σ hI a hn) wl0 rfl 2 gL_machine_X6_machine rfl (by decide +kernel) ⟨Nat.le_of_ble_eq_true rfl, Nat.le_of_ble_eq_true rfl⟩ ⟨Nat.le_of_ble_eq_true rfl, Nat.le_of_ble_eq_true rfl⟩ rfl rfl (Nat.le_of_ble_eq_true rfl) (fun Ec9 σ9 h9 => ?_) (fun rv9 σ9 h9 => ?_)
  · obtain ⟨x1, k9, x2, x3⟩ := h9
    rw [x1]
    rcases k9 with _ | _ | _ | k9
    · have x3 : some eI = some Ec9 := x3
      rw [← Option.some.inj x3]
      refine gx_catch C E (name := eI) [] ⟨0, 11, 14, 19⟩ [⟨0, 11, 18, 21⟩, ⟨0, 11, 22, 13⟩] rfl (fun z hz => ?_) (by decide) (by decide) 1 rfl (List.mem_of_getElem? (i := 3) rfl) (fun q9 => ?_)
      · exact absurd hz List.not_mem_nil
      · refine g_astore (lv' := [(5, .ref q9), (0, .ref ((xK X).2.2 0)), (1, .int a), (2, .double nd), (4, .ref ((xK X).2.2 43))]) C dL_machine_14 (by decide) rfl ?_
        refine g_iconst (v := nI 1) C dL_machine_16 (by decide +kernel) ?_
        refine g_iret C dL_machine_17 rfl ⟨Nat.le_of_ble_eq_true rfl, Nat.le_of_ble_eq_true rfl⟩ ?_
        rw [hF]
        exact ⟨by rw [x2], fun h => absurd (x2.symm.trans h) (by decide), fun _ => rfl⟩
    · have x3 : some eA = some Ec9 := x3
      rw [← Option.some.inj x3]
      refine gx_catch C E (name := eA) [⟨0, 11, 14, 19⟩] ⟨0, 11, 18, 21⟩ [⟨0, 11, 22, 13⟩] rfl (fun z hz => ?_) (by decide) (by decide) 2 rfl (List.mem_of_getElem? (i := 4) rfl) (fun q9 => ?_)
      · simp only [List.mem_cons, List.not_mem_nil, or_false] at hz
        subst hz
        exact ⟨by decide, 1, eI, rfl, by decide +kernel⟩
      · refine g_astore (lv' := [(5, .ref q9), (0, .ref ((xK X).2.2 0)), (1, .int a), (2, .double nd), (4, .ref ((xK X).2.2 43))]) C dL_machine_18 (by decide) rfl ?_
        refine g_iconst (v := nI 2) C dL_machine_20 (by decide +kernel) ?_
        refine g_iret C dL_machine_21 rfl ⟨Nat.le_of_ble_eq_true rfl, Nat.le_of_ble_eq_true rfl⟩ ?_
        rw [hF]
        exact ⟨by rw [x2], fun h => absurd (x2.symm.trans h) (by decide), fun _ => rfl⟩
    · have x3 : some eS = some Ec9 := x3
      rw [← Option.some.inj x3]
      refine gx_catch C E (name := eS) [⟨0, 11, 14, 19⟩, ⟨0, 11, 18, 21⟩] ⟨0, 11, 22, 13⟩ [] rfl (fun z hz => ?_) (by decide) (by decide) 3 rfl (List.mem_of_getElem? (i := 5) rfl) (fun q9 => ?_)
      · simp only [List.mem_cons, List.not_mem_nil, or_false] at hz
        rcases hz with rfl | rfl
        · exact ⟨by decide, 1, eI, rfl, by decide +kernel⟩
        · exact ⟨by decide, 2, eA, rfl, by decide +kernel⟩
      · refine g_astore (lv' := [(5, .ref q9), (0, .ref ((xK X).2.2 0)), (1, .int a), (2, .double nd), (4, .ref ((xK X).2.2 43))]) C dL_machine_22 (by decide) rfl ?_
        refine g_iconst (v := nI 3) C dL_machine_24 (by decide +kernel) ?_
        refine g_iret C dL_machine_25 rfl ⟨Nat.le_of_ble_eq_true rfl, Nat.le_of_ble_eq_true rfl⟩ ?_
        rw [hF]
        exact ⟨by rw [x2], fun h => absurd (x2.symm.trans h) (by decide), fun _ => rfl⟩
    · have x3 : none = some Ec9 := x3
      cases x3
  · obtain ⟨hcd, h9a, h9b⟩ := h9
    refine g_eq (σ2 := maS (uN σ 1 (nI 0)) (pM (phC σ)) (tn a) nd) (lv2 := [(0, .ref ((xK X).2.2 0)), (1, .int a), (2, .double nd), (4, .ref ((xK X).2.2 43))]) (st2 := [.int (nI (pM (phC σ))), .int (nI 0), .ref ((xK X).2.2 43)]) h9b rfl (by rw [h9a]; rfl) ?_
    refine g_i2l C dL_machine_9 ?_
    refine g_last (j := 0) (σ' := uL (maS (uN σ 1 (nI 0)) (pM (phC σ)) (tn a) nd) (vp_updL (sL (maS (uN σ 1 (nI 0)) (pM (phC σ)) (tn a) nd)) 0 ((nI (pM (phC σ))).toInt64))) C dL_machine_10 wl43 rfl (by decide) (by decide) wsA43 ?_
    refine g_goto (tgt := 26) C dL_machine_11 (by decide) ?_
    refine g_iconst (v := nI 0) C dL_machine_26 (by decide +kernel) ?_
    refine g_iret C dL_machine_27 rfl ⟨Nat.le_of_ble_eq_true rfl, Nat.le_of_ble_eq_true rfl⟩ ?_
    rw [hF]
    exact ⟨by rw [hcd], fun _ => rfl, fun h => absurd hcd h⟩

set_option maxHeartbeats 4000000 in
set_option maxRecDepth 100000 in
theorem kL_use (l : Launch) (hl0 : l.stackTraces = false) (K : gK) (hD : gD K) (σ : gS) (hI : Ic σ) (c m : Int32) (on : Bool) : CtX l yL_use wsL_use { frames := 8, cells := 2, slots := 12, locals := 126 } K [.ref (K.2.2 0), .int c, .int m, .int (bI on)] σ (Wr σ (cdUse (pM (phC σ)) c m) (fun t => t = usS (uN σ 1 (nI 0)) (tn c) (tn m) on)) (fun _ _ => False) := by
  refine CtX.ofH hl0 hD (by decide) rfl (Nat.le_of_ble_eq_true rfl) ?_
  intro X hL hK hF C E
  subst hL; subst hK
  refine g_eq (σ2 := σ) (lv2 := [(0, .ref ((xK X).2.2 0)), (1, .int c), (2, .int m), (3, .int (bI on))]) (st2 := []) rfl rfl rfl ?_
  refine g_aload_n C dL_use_0 0 rfl rfl ?_
  refine g_iload_n C dL_use_1 1 rfl rfl ?_
  refine g_iload_n C dL_use_2 2 rfl rfl ?_
  refine g_iload_n C dL_use_3 3 rfl rfl ?_
  refine g_callVX (As := [.int c, .int m, .int (bI on)]) (rest := []) C E dL_use_4 (kX6_use (xl X) hl0 (xK X) C.hD σ hI c m on) wl0 rfl 3 gL_use_X6_use rfl (by decide +kernel) ⟨Nat.le_of_ble_eq_true rfl, Nat.le_of_ble_eq_true rfl⟩ ⟨Nat.le_of_ble_eq_true rfl, Nat.le_of_ble_eq_true rfl⟩ rfl rfl (Nat.le_of_ble_eq_true rfl) (fun Ec9 σ9 h9 => ?_) (fun rv9 σ9 h9 => ?_)
  · obtain ⟨x1, k9, x2, x3⟩ := h9
    rw [x1]
    rcases k9 with _ | k9
    · have x3 : some eI = some Ec9 := x3
      rw [← Option.some.inj x3]
      refine gx_catch C E (name := eI) [] ⟨0, 7, 10, 19⟩ [] rfl (fun z hz => ?_) (by decide) (by decide) 1 rfl (List.mem_of_getElem? (i := 3) rfl) (fun q9 => ?_)
      · exact absurd hz List.not_mem_nil
      · refine g_astore (lv' := [(4, .ref q9), (0, .ref ((xK X).2.2 0)), (1, .int c), (2, .int m), (3, .int (bI on))]) C dL_use_10 (by decide) rfl ?_
        refine g_iconst (v := nI 1) C dL_use_12 (by decide +kernel) ?_
        refine g_iret C dL_use_13 rfl ⟨Nat.le_of_ble_eq_true rfl, Nat.le_of_ble_eq_true rfl⟩ ?_
        rw [hF]
        exact ⟨by rw [x2], fun h => absurd (x2.symm.trans h) (by decide), fun _ => rfl⟩
    · have x3 : none = some Ec9 := x3
      cases x3
  · obtain ⟨hcd, h9a, h9b⟩ := h9
    refine g_eq (σ2 := usS (uN σ 1 (nI 0)) (tn c) (tn m) on) (lv2 := [(0, .ref ((xK X).2.2 0)), (1, .int c), (2, .int m), (3, .int (bI on))]) (st2 := []) h9b rfl (by rw [h9a]; rfl) ?_
    refine g_goto (tgt := 14) C dL_use_7 (by decide) ?_
    refine g_iconst (v := nI 0) C dL_use_14 (by decide +kernel) ?_
    refine g_iret C dL_use_15 rfl ⟨Nat.le_of_ble_eq_true rfl, Nat.le_of_ble_eq_true rfl⟩ ?_
    rw [hF]
    exact ⟨by rw [hcd], fun _ => rfl, fun h => absurd hcd h⟩

set_option maxHeartbeats 4000000 in
set_option maxRecDepth 100000 in
theorem kL_fan (l : Launch) (hl0 : l.stackTraces = false) (K : gK) (hD : gD K) (σ : gS) (s f : UInt64) : CtX l yL_fan wsL_fan { frames := 8, cells := 1, slots := 6, locals := 126 } K [.ref (K.2.2 0), .double s, .double f] σ (Wr σ (cdFan s f) (fun t => t = uD (uD (uN σ 1 (nI 0)) 0 s) 1 f)) (fun _ _ => False) := by
  refine CtX.ofH hl0 hD (by decide) rfl (Nat.le_of_ble_eq_true rfl) ?_
  intro X hL hK hF C E
  subst hL; subst hK
  refine g_eq (σ2 := σ) (lv2 := [(0, .ref ((xK X).2.2 0)), (1, .double s), (3, .double f)]) (st2 := []) rfl rfl rfl ?_
  refine g_aload_n C dL_fan_0 0 rfl rfl ?_
  refine g_dload_n C dL_fan_1 1 rfl rfl ?_
  refine g_dload_n C dL_fan_2 2 rfl rfl ?_
  refine g_callVX (As := [.double s, .double f]) (rest := []) C E dL_fan_3 (kX6_fan (xl X) hl0 (xK X) C.hD σ s f) wl0 rfl 2 gL_fan_X6_fan rfl (by decide +kernel) ⟨Nat.le_of_ble_eq_true rfl, Nat.le_of_ble_eq_true rfl⟩ ⟨Nat.le_of_ble_eq_true rfl, Nat.le_of_ble_eq_true rfl⟩ rfl rfl (Nat.le_of_ble_eq_true rfl) (fun Ec9 σ9 h9 => ?_) (fun rv9 σ9 h9 => ?_)
  · obtain ⟨x1, k9, x2, x3⟩ := h9
    rw [x1]
    rcases k9 with _ | k9
    · have x3 : some eA = some Ec9 := x3
      rw [← Option.some.inj x3]
      refine gx_catch C E (name := eA) [] ⟨0, 6, 9, 21⟩ [] rfl (fun z hz => ?_) (by decide) (by decide) 1 rfl (List.mem_of_getElem? (i := 4) rfl) (fun q9 => ?_)
      · exact absurd hz List.not_mem_nil
      · refine g_astore (lv' := [(5, .ref q9), (0, .ref ((xK X).2.2 0)), (1, .double s), (3, .double f)]) C dL_fan_9 (by decide) rfl ?_
        refine g_iconst (v := nI 1) C dL_fan_11 (by decide +kernel) ?_
        refine g_iret C dL_fan_12 rfl ⟨Nat.le_of_ble_eq_true rfl, Nat.le_of_ble_eq_true rfl⟩ ?_
        rw [hF]
        exact ⟨by rw [x2], fun h => absurd (x2.symm.trans h) (by decide), fun _ => rfl⟩
    · have x3 : none = some Ec9 := x3
      cases x3
  · obtain ⟨hcd, h9a, h9b⟩ := h9
    refine g_eq (σ2 := uD (uD (uN σ 1 (nI 0)) 0 s) 1 f) (lv2 := [(0, .ref ((xK X).2.2 0)), (1, .double s), (3, .double f)]) (st2 := []) h9b rfl (by rw [h9a]; rfl) ?_
    refine g_goto (tgt := 13) C dL_fan_6 (by decide) ?_
    refine g_iconst (v := nI 0) C dL_fan_13 (by decide +kernel) ?_
    refine g_iret C dL_fan_14 rfl ⟨Nat.le_of_ble_eq_true rfl, Nat.le_of_ble_eq_true rfl⟩ ?_
    rw [hF]
    exact ⟨by rw [hcd], fun _ => rfl, fun h => absurd hcd h⟩

set_option maxHeartbeats 4000000 in
set_option maxRecDepth 100000 in
theorem kL_solve (l : Launch) (hl0 : l.stackTraces = false) (K : gK) (hD : gD K) (σ : gS) (hI : Ic σ) (c : Int32) : CtX l yL_solve wsL_solve { frames := 8, cells := 1, slots := 6, locals := 142 } K [.ref (K.2.2 0), .int c, .ref (K.2.2 43)] σ (Wr σ (cdSolve c) (fun t => ∃ w, t = outL (uN (baS (opZ σ (tn c)) w (blA (opZ σ (tn c))).2.1 (blA (opZ σ (tn c))).2.2) 1 (bI (blA (opZ σ (tn c))).1.isSome)) (sei (blA (opZ σ (tn c))).1).toInt64)) (fun _ _ => False) := by
  refine CtX.ofH hl0 hD (by decide) rfl (Nat.le_of_ble_eq_true rfl) ?_
  intro X hL hK hF C E
  subst hL; subst hK
  refine g_eq (σ2 := σ) (lv2 := [(0, .ref ((xK X).2.2 0)), (1, .int c), (2, .ref ((xK X).2.2 43))]) (st2 := []) rfl rfl rfl ?_
  refine g_aload_n C dL_solve_0 2 rfl rfl ?_
  refine g_iconst (v := nI 0) C dL_solve_1 (by decide +kernel) ?_
  refine g_aload_n C dL_solve_2 0 rfl rfl ?_
  refine g_iload_n C dL_solve_3 1 rfl rfl ?_
  refine g_callVX (As := [.int c]) (rest := [.int (nI 0), .ref ((xK X).2.2 43)]) C E dL_solve_4 (kX6_solve (xl X) hl0 (xK X) C.hD σ hI c) wl0 rfl 1 gL_solve_X6_solve rfl (by decide +kernel) ⟨Nat.le_of_ble_eq_true rfl, Nat.le_of_ble_eq_true rfl⟩ ⟨Nat.le_of_ble_eq_true rfl, Nat.le_of_ble_eq_true rfl⟩ rfl rfl (Nat.le_of_ble_eq_true rfl) (fun Ec9 σ9 h9 => ?_) (fun rv9 σ9 h9 => ?_)
  · obtain ⟨x1, k9, x2, x3⟩ := h9
    rw [x1]
    rcases k9 with _ | k9
    · have x3 : some eI = some Ec9 := x3
      rw [← Option.some.inj x3]
      refine gx_catch C E (name := eI) [] ⟨0, 9, 12, 19⟩ [] rfl (fun z hz => ?_) (by decide) (by decide) 1 rfl (List.mem_of_getElem? (i := 3) rfl) (fun q9 => ?_)
      · exact absurd hz List.not_mem_nil
      · refine g_astore_n (lv' := [(3, .ref q9), (0, .ref ((xK X).2.2 0)), (1, .int c), (2, .ref ((xK X).2.2 43))]) C dL_solve_12 rfl (by decide) rfl ?_
        refine g_iconst (v := nI 1) C dL_solve_13 (by decide +kernel) ?_
        refine g_iret C dL_solve_14 rfl ⟨Nat.le_of_ble_eq_true rfl, Nat.le_of_ble_eq_true rfl⟩ ?_
        rw [hF]
        exact ⟨by rw [x2], fun h => absurd (x2.symm.trans h) (by decide), fun _ => rfl⟩
    · have x3 : none = some Ec9 := x3
      cases x3
  · obtain ⟨hcd, h9a, w9, h9b⟩ := h9
    refine g_eq (σ2 := uN (baS (opZ σ (tn c)) w9 (blA (opZ σ (tn c))).2.1 (blA (opZ σ (tn c))).2.2) 1 (bI (blA (opZ σ (tn c))).1.isSome)) (lv2 := [(0, .ref ((xK X).2.2 0)), (1, .int c), (2, .ref ((xK X).2.2 43))]) (st2 := [.int (sei (blA (opZ σ (tn c))).1), .int (nI 0), .ref ((xK X).2.2 43)]) h9b rfl (by rw [h9a]; rfl) ?_
    refine g_i2l C dL_solve_7 ?_
    refine g_last (j := 0) (σ' := uL (uN (baS (opZ σ (tn c)) w9 (blA (opZ σ (tn c))).2.1 (blA (opZ σ (tn c))).2.2) 1 (bI (blA (opZ σ (tn c))).1.isSome)) (vp_updL (sL (uN (baS (opZ σ (tn c)) w9 (blA (opZ σ (tn c))).2.1 (blA (opZ σ (tn c))).2.2) 1 (bI (blA (opZ σ (tn c))).1.isSome))) 0 ((sei (blA (opZ σ (tn c))).1).toInt64))) C dL_solve_8 wl43 rfl (by decide) (by decide) wsA43 ?_
    refine g_goto (tgt := 15) C dL_solve_9 (by decide) ?_
    refine g_iconst (v := nI 0) C dL_solve_15 (by decide +kernel) ?_
    refine g_iret C dL_solve_16 rfl ⟨Nat.le_of_ble_eq_true rfl, Nat.le_of_ble_eq_true rfl⟩ ?_
    rw [hF]
    exact ⟨by rw [hcd], fun _ => ⟨w9, rfl⟩, fun h => absurd hcd h⟩

set_option maxHeartbeats 4000000 in
set_option maxRecDepth 100000 in
theorem kL_at (l : Launch) (hl0 : l.stackTraces = false) (K : gK) (hD : gD K) (σ : gS) (hI : Ic σ) (a b : Int32) : CtX l yL_at wsL_at { frames := 8, cells := 3, slots := 18, locals := 125 } K [.ref (K.2.2 0), .int a, .int b, .ref (K.2.2 44)] σ (Wr σ (cdQ (nJ σ) 2 (svC σ) a b) (fun t => t = outF (σ) (atV σ (tn a) (tn b)))) (fun _ _ => False) := by
  refine CtX.ofH hl0 hD (by decide) rfl (Nat.le_of_ble_eq_true rfl) ?_
  intro X hL hK hF C E
  subst hL; subst hK
  refine g_eq (σ2 := σ) (lv2 := [(0, .ref ((xK X).2.2 0)), (1, .int a), (2, .int b), (3, .ref ((xK X).2.2 44))]) (st2 := []) rfl rfl rfl ?_
  refine g_aload_n C dL_at_0 3 rfl rfl ?_
  refine g_iconst (v := nI 0) C dL_at_1 (by decide +kernel) ?_
  refine g_aload_n C dL_at_2 0 rfl rfl ?_
  refine g_iload_n C dL_at_3 1 rfl rfl ?_
  refine g_iload_n C dL_at_4 2 rfl rfl ?_
  refine g_callVX (As := [.int a, .int b]) (rest := [.int (nI 0), .ref ((xK X).2.2 44)]) C E dL_at_5 (kX6_at (xl X) hl0 (xK X) C.hD σ hI a b) wl0 rfl 2 gL_at_X6_at rfl (by decide +kernel) ⟨Nat.le_of_ble_eq_true rfl, Nat.le_of_ble_eq_true rfl⟩ ⟨Nat.le_of_ble_eq_true rfl, Nat.le_of_ble_eq_true rfl⟩ rfl rfl (Nat.le_of_ble_eq_true rfl) (fun Ec9 σ9 h9 => ?_) (fun rv9 σ9 h9 => ?_)
  · obtain ⟨x1, k9, x2, x3⟩ := h9
    rw [x1]
    rcases k9 with _ | _ | k9
    · have x3 : some eI = some Ec9 := x3
      rw [← Option.some.inj x3]
      refine gx_catch C E (name := eI) [] ⟨0, 9, 12, 19⟩ [⟨0, 9, 16, 13⟩] rfl (fun z hz => ?_) (by decide) (by decide) 1 rfl (List.mem_of_getElem? (i := 3) rfl) (fun q9 => ?_)
      · exact absurd hz List.not_mem_nil
      · refine g_astore (lv' := [(4, .ref q9), (0, .ref ((xK X).2.2 0)), (1, .int a), (2, .int b), (3, .ref ((xK X).2.2 44))]) C dL_at_12 (by decide) rfl ?_
        refine g_iconst (v := nI 1) C dL_at_14 (by decide +kernel) ?_
        refine g_iret C dL_at_15 rfl ⟨Nat.le_of_ble_eq_true rfl, Nat.le_of_ble_eq_true rfl⟩ ?_
        rw [hF]
        exact ⟨by rw [x2], fun h => absurd (x2.symm.trans h) (by decide), fun _ => rfl⟩
    · have x3 : some eS = some Ec9 := x3
      rw [← Option.some.inj x3]
      refine gx_catch C E (name := eS) [⟨0, 9, 12, 19⟩] ⟨0, 9, 16, 13⟩ [] rfl (fun z hz => ?_) (by decide) (by decide) 2 rfl (List.mem_of_getElem? (i := 5) rfl) (fun q9 => ?_)
      · simp only [List.mem_cons, List.not_mem_nil, or_false] at hz
        subst hz
        exact ⟨by decide, 1, eI, rfl, by decide +kernel⟩
      · refine g_astore (lv' := [(4, .ref q9), (0, .ref ((xK X).2.2 0)), (1, .int a), (2, .int b), (3, .ref ((xK X).2.2 44))]) C dL_at_16 (by decide) rfl ?_
        refine g_iconst (v := nI 2) C dL_at_18 (by decide +kernel) ?_
        refine g_iret C dL_at_19 rfl ⟨Nat.le_of_ble_eq_true rfl, Nat.le_of_ble_eq_true rfl⟩ ?_
        rw [hF]
        exact ⟨by rw [x2], fun h => absurd (x2.symm.trans h) (by decide), fun _ => rfl⟩
    · have x3 : none = some Ec9 := x3
      cases x3
  · obtain ⟨hcd, h9a, h9b⟩ := h9
    refine g_eq (σ2 := σ) (lv2 := [(0, .ref ((xK X).2.2 0)), (1, .int a), (2, .int b), (3, .ref ((xK X).2.2 44))]) (st2 := [.double (atV σ (tn a) (tn b)), .int (nI 0), .ref ((xK X).2.2 44)]) h9b rfl (by rw [h9a]; rfl) ?_
    refine g_dast (j := 0) (σ' := uF σ 44 (vf_upd (sF σ 44) 0 (atV σ (tn a) (tn b)))) C dL_at_8 wl44 rfl (by decide) (by decide) wsA44 ?_
    refine g_goto (tgt := 20) C dL_at_9 (by decide) ?_
    refine g_iconst (v := nI 0) C dL_at_20 (by decide +kernel) ?_
    refine g_iret C dL_at_21 rfl ⟨Nat.le_of_ble_eq_true rfl, Nat.le_of_ble_eq_true rfl⟩ ?_
    rw [hF]
    exact ⟨by rw [hcd], fun _ => rfl, fun h => absurd hcd h⟩

set_option maxHeartbeats 4000000 in
set_option maxRecDepth 100000 in
theorem kL_of (l : Launch) (hl0 : l.stackTraces = false) (K : gK) (hD : gD K) (σ : gS) (hI : Ic σ) (a b : Int32) : CtX l yL_of wsL_of { frames := 8, cells := 3, slots := 18, locals := 125 } K [.ref (K.2.2 0), .int a, .int b, .ref (K.2.2 44)] σ (Wr σ (cdQ (pD (phC σ)) 4 (svC σ) a b) (fun t => t = outF (σ) (ofV σ (tn a) (tn b)))) (fun _ _ => False) := by
  refine CtX.ofH hl0 hD (by decide) rfl (Nat.le_of_ble_eq_true rfl) ?_
  intro X hL hK hF C E
  subst hL; subst hK
  refine g_eq (σ2 := σ) (lv2 := [(0, .ref ((xK X).2.2 0)), (1, .int a), (2, .int b), (3, .ref ((xK X).2.2 44))]) (st2 := []) rfl rfl rfl ?_
  refine g_aload_n C dL_of_0 3 rfl rfl ?_
  refine g_iconst (v := nI 0) C dL_of_1 (by decide +kernel) ?_
  refine g_aload_n C dL_of_2 0 rfl rfl ?_
  refine g_iload_n C dL_of_3 1 rfl rfl ?_
  refine g_iload_n C dL_of_4 2 rfl rfl ?_
  refine g_callVX (As := [.int a, .int b]) (rest := [.int (nI 0), .ref ((xK X).2.2 44)]) C E dL_of_5 (kX6_of (xl X) hl0 (xK X) C.hD σ hI a b) wl0 rfl 2 gL_of_X6_of rfl (by decide +kernel) ⟨Nat.le_of_ble_eq_true rfl, Nat.le_of_ble_eq_true rfl⟩ ⟨Nat.le_of_ble_eq_true rfl, Nat.le_of_ble_eq_true rfl⟩ rfl rfl (Nat.le_of_ble_eq_true rfl) (fun Ec9 σ9 h9 => ?_) (fun rv9 σ9 h9 => ?_)
  · obtain ⟨x1, k9, x2, x3⟩ := h9
    rw [x1]
    rcases k9 with _ | _ | k9
    · have x3 : some eI = some Ec9 := x3
      rw [← Option.some.inj x3]
      refine gx_catch C E (name := eI) [] ⟨0, 9, 12, 19⟩ [⟨0, 9, 16, 13⟩] rfl (fun z hz => ?_) (by decide) (by decide) 1 rfl (List.mem_of_getElem? (i := 3) rfl) (fun q9 => ?_)
      · exact absurd hz List.not_mem_nil
      · refine g_astore (lv' := [(4, .ref q9), (0, .ref ((xK X).2.2 0)), (1, .int a), (2, .int b), (3, .ref ((xK X).2.2 44))]) C dL_of_12 (by decide) rfl ?_
        refine g_iconst (v := nI 1) C dL_of_14 (by decide +kernel) ?_
        refine g_iret C dL_of_15 rfl ⟨Nat.le_of_ble_eq_true rfl, Nat.le_of_ble_eq_true rfl⟩ ?_
        rw [hF]
        exact ⟨by rw [x2], fun h => absurd (x2.symm.trans h) (by decide), fun _ => rfl⟩
    · have x3 : some eS = some Ec9 := x3
      rw [← Option.some.inj x3]
      refine gx_catch C E (name := eS) [⟨0, 9, 12, 19⟩] ⟨0, 9, 16, 13⟩ [] rfl (fun z hz => ?_) (by decide) (by decide) 2 rfl (List.mem_of_getElem? (i := 5) rfl) (fun q9 => ?_)
      · simp only [List.mem_cons, List.not_mem_nil, or_false] at hz
        subst hz
        exact ⟨by decide, 1, eI, rfl, by decide +kernel⟩
      · refine g_astore (lv' := [(4, .ref q9), (0, .ref ((xK X).2.2 0)), (1, .int a), (2, .int b), (3, .ref ((xK X).2.2 44))]) C dL_of_16 (by decide) rfl ?_
        refine g_iconst (v := nI 2) C dL_of_18 (by decide +kernel) ?_
        refine g_iret C dL_of_19 rfl ⟨Nat.le_of_ble_eq_true rfl, Nat.le_of_ble_eq_true rfl⟩ ?_
        rw [hF]
        exact ⟨by rw [x2], fun h => absurd (x2.symm.trans h) (by decide), fun _ => rfl⟩
    · have x3 : none = some Ec9 := x3
      cases x3
  · obtain ⟨hcd, h9a, h9b⟩ := h9
    refine g_eq (σ2 := σ) (lv2 := [(0, .ref ((xK X).2.2 0)), (1, .int a), (2, .int b), (3, .ref ((xK X).2.2 44))]) (st2 := [.double (ofV σ (tn a) (tn b)), .int (nI 0), .ref ((xK X).2.2 44)]) h9b rfl (by rw [h9a]; rfl) ?_
    refine g_dast (j := 0) (σ' := uF σ 44 (vf_upd (sF σ 44) 0 (ofV σ (tn a) (tn b)))) C dL_of_8 wl44 rfl (by decide) (by decide) wsA44 ?_
    refine g_goto (tgt := 20) C dL_of_9 (by decide) ?_
    refine g_iconst (v := nI 0) C dL_of_20 (by decide +kernel) ?_
    refine g_iret C dL_of_21 rfl ⟨Nat.le_of_ble_eq_true rfl, Nat.le_of_ble_eq_true rfl⟩ ?_
    rw [hF]
    exact ⟨by rw [hcd], fun _ => rfl, fun h => absurd hcd h⟩

set_option maxHeartbeats 4000000 in
set_option maxRecDepth 100000 in
theorem kL_draws (l : Launch) (hl0 : l.stackTraces = false) (K : gK) (hD : gD K) (σ : gS) (hI : Ic σ) (a b : Int32) : CtX l yL_draws wsL_draws { frames := 8, cells := 3, slots := 18, locals := 125 } K [.ref (K.2.2 0), .int a, .int b, .ref (K.2.2 44)] σ (Wr σ (cdQ (pM (phC σ)) 2 (svC σ) a b) (fun t => t = outF (σ) (dsV σ (tn a) (tn b)))) (fun _ _ => False) := by
  refine CtX.ofH hl0 hD (by decide) rfl (Nat.le_of_ble_eq_true rfl) ?_
  intro X hL hK hF C E
  subst hL; subst hK
  refine g_eq (σ2 := σ) (lv2 := [(0, .ref ((xK X).2.2 0)), (1, .int a), (2, .int b), (3, .ref ((xK X).2.2 44))]) (st2 := []) rfl rfl rfl ?_
  refine g_aload_n C dL_draws_0 3 rfl rfl ?_
  refine g_iconst (v := nI 0) C dL_draws_1 (by decide +kernel) ?_
  refine g_aload_n C dL_draws_2 0 rfl rfl ?_
  refine g_iload_n C dL_draws_3 1 rfl rfl ?_
  refine g_iload_n C dL_draws_4 2 rfl rfl ?_
  refine g_callVX (As := [.int a, .int b]) (rest := [.int (nI 0), .ref ((xK X).2.2 44)]) C E dL_draws_5 (kX6_draws (xl X) hl0 (xK X) C.hD σ hI a b) wl0 rfl 2 gL_draws_X6_draws rfl (by decide +kernel) ⟨Nat.le_of_ble_eq_true rfl, Nat.le_of_ble_eq_true rfl⟩ ⟨Nat.le_of_ble_eq_true rfl, Nat.le_of_ble_eq_true rfl⟩ rfl rfl (Nat.le_of_ble_eq_true rfl) (fun Ec9 σ9 h9 => ?_) (fun rv9 σ9 h9 => ?_)
  · obtain ⟨x1, k9, x2, x3⟩ := h9
    rw [x1]
    rcases k9 with _ | _ | k9
    · have x3 : some eI = some Ec9 := x3
      rw [← Option.some.inj x3]
      refine gx_catch C E (name := eI) [] ⟨0, 9, 12, 19⟩ [⟨0, 9, 16, 13⟩] rfl (fun z hz => ?_) (by decide) (by decide) 1 rfl (List.mem_of_getElem? (i := 3) rfl) (fun q9 => ?_)
      · exact absurd hz List.not_mem_nil
      · refine g_astore (lv' := [(4, .ref q9), (0, .ref ((xK X).2.2 0)), (1, .int a), (2, .int b), (3, .ref ((xK X).2.2 44))]) C dL_draws_12 (by decide) rfl ?_
        refine g_iconst (v := nI 1) C dL_draws_14 (by decide +kernel) ?_
        refine g_iret C dL_draws_15 rfl ⟨Nat.le_of_ble_eq_true rfl, Nat.le_of_ble_eq_true rfl⟩ ?_
        rw [hF]
        exact ⟨by rw [x2], fun h => absurd (x2.symm.trans h) (by decide), fun _ => rfl⟩
    · have x3 : some eS = some Ec9 := x3
      rw [← Option.some.inj x3]
      refine gx_catch C E (name := eS) [⟨0, 9, 12, 19⟩] ⟨0, 9, 16, 13⟩ [] rfl (fun z hz => ?_) (by decide) (by decide) 2 rfl (List.mem_of_getElem? (i := 5) rfl) (fun q9 => ?_)
      · simp only [List.mem_cons, List.not_mem_nil, or_false] at hz
        subst hz
        exact ⟨by decide, 1, eI, rfl, by decide +kernel⟩
      · refine g_astore (lv' := [(4, .ref q9), (0, .ref ((xK X).2.2 0)), (1, .int a), (2, .int b), (3, .ref ((xK X).2.2 44))]) C dL_draws_16 (by decide) rfl ?_
        refine g_iconst (v := nI 2) C dL_draws_18 (by decide +kernel) ?_
        refine g_iret C dL_draws_19 rfl ⟨Nat.le_of_ble_eq_true rfl, Nat.le_of_ble_eq_true rfl⟩ ?_
        rw [hF]
        exact ⟨by rw [x2], fun h => absurd (x2.symm.trans h) (by decide), fun _ => rfl⟩
    · have x3 : none = some Ec9 := x3
      cases x3
  · obtain ⟨hcd, h9a, h9b⟩ := h9
    refine g_eq (σ2 := σ) (lv2 := [(0, .ref ((xK X).2.2 0)), (1, .int a), (2, .int b), (3, .ref ((xK X).2.2 44))]) (st2 := [.double (dsV σ (tn a) (tn b)), .int (nI 0), .ref ((xK X).2.2 44)]) h9b rfl (by rw [h9a]; rfl) ?_
    refine g_dast (j := 0) (σ' := uF σ 44 (vf_upd (sF σ 44) 0 (dsV σ (tn a) (tn b)))) C dL_draws_8 wl44 rfl (by decide) (by decide) wsA44 ?_
    refine g_goto (tgt := 20) C dL_draws_9 (by decide) ?_
    refine g_iconst (v := nI 0) C dL_draws_20 (by decide +kernel) ?_
    refine g_iret C dL_draws_21 rfl ⟨Nat.le_of_ble_eq_true rfl, Nat.le_of_ble_eq_true rfl⟩ ?_
    rw [hF]
    exact ⟨by rw [hcd], fun _ => rfl, fun h => absurd hcd h⟩

set_option maxHeartbeats 4000000 in
set_option maxRecDepth 100000 in
theorem kL_keeps (l : Launch) (hl0 : l.stackTraces = false) (K : gK) (hD : gD K) (σ : gS) (hI : Ic σ) (least : UInt64) : CtX l yL_keeps wsL_keeps { frames := 8, cells := 2, slots := 12, locals := 124 } K [.ref (K.2.2 0), .double least, .ref (K.2.2 43)] σ (Wr σ (cdKeeps (svC σ) least) (fun t => t = outL σ (bL (allB (kpB (phC σ) (sF σ 7) (sF σ 12) least) (pD (phC σ)))))) (fun _ _ => False) := by
  refine CtX.ofH hl0 hD (by decide) rfl (Nat.le_of_ble_eq_true rfl) ?_
  intro X hL hK hF C E
  subst hL; subst hK
  refine g_eq (σ2 := σ) (lv2 := [(0, .ref ((xK X).2.2 0)), (1, .double least), (3, .ref ((xK X).2.2 43))]) (st2 := []) rfl rfl rfl ?_
  refine g_aload_n C dL_keeps_0 2 rfl rfl ?_
  refine g_iconst (v := nI 0) C dL_keeps_1 (by decide +kernel) ?_
  refine g_aload_n C dL_keeps_2 0 rfl rfl ?_
  refine g_dload_n C dL_keeps_3 1 rfl rfl ?_
  refine g_callVX (As := [.double least]) (rest := [.int (nI 0), .ref ((xK X).2.2 43)]) C E dL_keeps_4 (kX6_keeps (xl X) hl0 (xK X) C.hD σ hI least) wl0 rfl 1 gL_keeps_X6_keeps rfl (by decide +kernel) ⟨Nat.le_of_ble_eq_true rfl, Nat.le_of_ble_eq_true rfl⟩ ⟨Nat.le_of_ble_eq_true rfl, Nat.le_of_ble_eq_true rfl⟩ rfl rfl (Nat.le_of_ble_eq_true rfl) (fun Ec9 σ9 h9 => ?_) (fun rv9 σ9 h9 => ?_)
  · obtain ⟨x1, k9, x2, x3⟩ := h9
    rw [x1]
    rcases k9 with _ | _ | k9
    · have x3 : some eA = some Ec9 := x3
      rw [← Option.some.inj x3]
      refine gx_catch C E (name := eA) [] ⟨0, 16, 19, 21⟩ [⟨0, 16, 23, 13⟩] rfl (fun z hz => ?_) (by decide) (by decide) 1 rfl (List.mem_of_getElem? (i := 4) rfl) (fun q9 => ?_)
      · exact absurd hz List.not_mem_nil
      · refine g_astore (lv' := [(4, .ref q9), (0, .ref ((xK X).2.2 0)), (1, .double least), (3, .ref ((xK X).2.2 43))]) C dL_keeps_19 (by decide) rfl ?_
        refine g_iconst (v := nI 1) C dL_keeps_21 (by decide +kernel) ?_
        refine g_iret C dL_keeps_22 rfl ⟨Nat.le_of_ble_eq_true rfl, Nat.le_of_ble_eq_true rfl⟩ ?_
        rw [hF]
        exact ⟨by rw [x2], fun h => absurd (x2.symm.trans h) (by decide), fun _ => rfl⟩
    · have x3 : some eS = some Ec9 := x3
      rw [← Option.some.inj x3]
      refine gx_catch C E (name := eS) [⟨0, 16, 19, 21⟩] ⟨0, 16, 23, 13⟩ [] rfl (fun z hz => ?_) (by decide) (by decide) 2 rfl (List.mem_of_getElem? (i := 5) rfl) (fun q9 => ?_)
      · simp only [List.mem_cons, List.not_mem_nil, or_false] at hz
        subst hz
        exact ⟨by decide, 1, eA, rfl, by decide +kernel⟩
      · refine g_astore (lv' := [(4, .ref q9), (0, .ref ((xK X).2.2 0)), (1, .double least), (3, .ref ((xK X).2.2 43))]) C dL_keeps_23 (by decide) rfl ?_
        refine g_iconst (v := nI 2) C dL_keeps_25 (by decide +kernel) ?_
        refine g_iret C dL_keeps_26 rfl ⟨Nat.le_of_ble_eq_true rfl, Nat.le_of_ble_eq_true rfl⟩ ?_
        rw [hF]
        exact ⟨by rw [x2], fun h => absurd (x2.symm.trans h) (by decide), fun _ => rfl⟩
    · have x3 : none = some Ec9 := x3
      cases x3
  · obtain ⟨hcd, h9a, h9b⟩ := h9
    refine g_eq (σ2 := σ) (lv2 := [(0, .ref ((xK X).2.2 0)), (1, .double least), (3, .ref ((xK X).2.2 43))]) (st2 := [.int (bI (allB (kpB (phC σ) (sF σ 7) (sF σ 12) least) (pD (phC σ)))), .int (nI 0), .ref ((xK X).2.2 43)]) h9b rfl (by rw [h9a]; rfl) ?_
    refine g_if_eq (tgt := 14) C dL_keeps_7 (by decide) (fun c_7 => ?_) (fun c_7 => ?_)
    · have hb := (bI_ne _).mp c_7
      refine g_lconst (v := 0) C dL_keeps_14 (by decide +kernel) ?_
      refine g_topl (y := bL (allB (kpB (phC σ) (sF σ 7) (sF σ 12) least) (pD (phC σ)))) (by rw [hb]; rfl) ?_
      refine g_last (j := 0) (σ' := uL σ (vp_updL (sL σ) 0 (bL (allB (kpB (phC σ) (sF σ 7) (sF σ 12) least) (pD (phC σ)))))) C dL_keeps_15 wl43 rfl (by decide) (by decide) wsA43 ?_
      refine g_goto (tgt := 27) C dL_keeps_16 (by decide) ?_
      refine g_iconst (v := nI 0) C dL_keeps_27 (by decide +kernel) ?_
      refine g_iret C dL_keeps_28 rfl ⟨Nat.le_of_ble_eq_true rfl, Nat.le_of_ble_eq_true rfl⟩ ?_
      rw [hF]
      exact ⟨by rw [hcd], fun _ => rfl, fun h => absurd hcd h⟩
    · have hb := bIt c_7
      refine g_lconst (v := 1) C dL_keeps_10 (by decide +kernel) ?_
      refine g_goto (tgt := 15) C dL_keeps_11 (by decide) ?_
      refine g_topl (y := bL (allB (kpB (phC σ) (sF σ 7) (sF σ 12) least) (pD (phC σ)))) (by rw [hb]; rfl) ?_
      refine g_last (j := 0) (σ' := uL σ (vp_updL (sL σ) 0 (bL (allB (kpB (phC σ) (sF σ 7) (sF σ 12) least) (pD (phC σ)))))) C dL_keeps_15 wl43 rfl (by decide) (by decide) wsA43 ?_
      refine g_goto (tgt := 27) C dL_keeps_16 (by decide) ?_
      refine g_iconst (v := nI 0) C dL_keeps_27 (by decide +kernel) ?_
      refine g_iret C dL_keeps_28 rfl ⟨Nat.le_of_ble_eq_true rfl, Nat.le_of_ble_eq_true rfl⟩ ?_
      rw [hF]
      exact ⟨by rw [hcd], fun _ => rfl, fun h => absurd hcd h⟩

set_option maxHeartbeats 4000000 in
set_option maxRecDepth 100000 in
theorem kL_list (l : Launch) (hl0 : l.stackTraces = false) (K : gK) (hD : gD K) (σ : gS) (hI : Ic σ) (wd : UInt64) (x : Int32) : CtX l yL_list wsL_list { frames := 8, cells := 2, slots := 12, locals := 125 } K [.ref (K.2.2 0), .double wd, .int x, .ref (K.2.2 43)] σ (Wr σ (cdList (nS σ) wd x) (fun t => t = outL (siS σ (nS σ) wd x) (nI (nS σ)).toInt64)) (fun _ _ => False) := by
  refine CtX.ofH hl0 hD (by decide) rfl (Nat.le_of_ble_eq_true rfl) ?_
  intro X hL hK hF C E
  subst hL; subst hK
  refine g_eq (σ2 := σ) (lv2 := [(0, .ref ((xK X).2.2 0)), (1, .double wd), (3, .int x), (4, .ref ((xK X).2.2 43))]) (st2 := []) rfl rfl rfl ?_
  refine g_aload C dL_list_0 3 rfl ?_
  refine g_iconst (v := nI 0) C dL_list_2 (by decide +kernel) ?_
  refine g_aload_n C dL_list_3 0 rfl rfl ?_
  refine g_dload_n C dL_list_4 1 rfl rfl ?_
  refine g_iload_n C dL_list_5 2 rfl rfl ?_
  refine g_callVX (As := [.double wd, .int x]) (rest := [.int (nI 0), .ref ((xK X).2.2 43)]) C E dL_list_6 (kX6_list (xl X) hl0 (xK X) C.hD σ hI wd x) wl0 rfl 2 gL_list_X6_list rfl (by decide +kernel) ⟨Nat.le_of_ble_eq_true rfl, Nat.le_of_ble_eq_true rfl⟩ ⟨Nat.le_of_ble_eq_true rfl, Nat.le_of_ble_eq_true rfl⟩ rfl rfl (Nat.le_of_ble_eq_true rfl) (fun Ec9 σ9 h9 => ?_) (fun rv9 σ9 h9 => ?_)
  · obtain ⟨x1, k9, x2, x3⟩ := h9
    rw [x1]
    rcases k9 with _ | _ | k9
    · have x3 : some eA = some Ec9 := x3
      rw [← Option.some.inj x3]
      refine gx_catch C E (name := eA) [] ⟨0, 11, 14, 21⟩ [⟨0, 11, 18, 13⟩] rfl (fun z hz => ?_) (by decide) (by decide) 1 rfl (List.mem_of_getElem? (i := 4) rfl) (fun q9 => ?_)
      · exact absurd hz List.not_mem_nil
      · refine g_astore (lv' := [(5, .ref q9), (0, .ref ((xK X).2.2 0)), (1, .double wd), (3, .int x), (4, .ref ((xK X).2.2 43))]) C dL_list_14 (by decide) rfl ?_
        refine g_iconst (v := nI 1) C dL_list_16 (by decide +kernel) ?_
        refine g_iret C dL_list_17 rfl ⟨Nat.le_of_ble_eq_true rfl, Nat.le_of_ble_eq_true rfl⟩ ?_
        rw [hF]
        exact ⟨by rw [x2], fun h => absurd (x2.symm.trans h) (by decide), fun _ => rfl⟩
    · have x3 : some eS = some Ec9 := x3
      rw [← Option.some.inj x3]
      refine gx_catch C E (name := eS) [⟨0, 11, 14, 21⟩] ⟨0, 11, 18, 13⟩ [] rfl (fun z hz => ?_) (by decide) (by decide) 2 rfl (List.mem_of_getElem? (i := 5) rfl) (fun q9 => ?_)
      · simp only [List.mem_cons, List.not_mem_nil, or_false] at hz
        subst hz
        exact ⟨by decide, 1, eA, rfl, by decide +kernel⟩
      · refine g_astore (lv' := [(5, .ref q9), (0, .ref ((xK X).2.2 0)), (1, .double wd), (3, .int x), (4, .ref ((xK X).2.2 43))]) C dL_list_18 (by decide) rfl ?_
        refine g_iconst (v := nI 2) C dL_list_20 (by decide +kernel) ?_
        refine g_iret C dL_list_21 rfl ⟨Nat.le_of_ble_eq_true rfl, Nat.le_of_ble_eq_true rfl⟩ ?_
        rw [hF]
        exact ⟨by rw [x2], fun h => absurd (x2.symm.trans h) (by decide), fun _ => rfl⟩
    · have x3 : none = some Ec9 := x3
      cases x3
  · obtain ⟨hcd, h9a, h9b⟩ := h9
    refine g_eq (σ2 := siS σ (nS σ) wd x) (lv2 := [(0, .ref ((xK X).2.2 0)), (1, .double wd), (3, .int x), (4, .ref ((xK X).2.2 43))]) (st2 := [.int (nI (nS σ)), .int (nI 0), .ref ((xK X).2.2 43)]) h9b rfl (by rw [h9a]; rfl) ?_
    refine g_i2l C dL_list_9 ?_
    refine g_last (j := 0) (σ' := uL (siS σ (nS σ) wd x) (vp_updL (sL (siS σ (nS σ) wd x)) 0 ((nI (nS σ)).toInt64))) C dL_list_10 wl43 rfl (by decide) (by decide) wsA43 ?_
    refine g_goto (tgt := 22) C dL_list_11 (by decide) ?_
    refine g_iconst (v := nI 0) C dL_list_22 (by decide +kernel) ?_
    refine g_iret C dL_list_23 rfl ⟨Nat.le_of_ble_eq_true rfl, Nat.le_of_ble_eq_true rfl⟩ ?_
    rw [hF]
    exact ⟨by rw [hcd], fun _ => rfl, fun h => absurd hcd h⟩

set_option maxHeartbeats 4000000 in
set_option maxRecDepth 100000 in
theorem kL_size (l : Launch) (hl0 : l.stackTraces = false) (K : gK) (hD : gD K) (σ : gS) (hI : Ic σ) (c : Int32) : CtX l yL_size wsL_size { frames := 8, cells := 2, slots := 12, locals := 143 } K [.ref (K.2.2 0), .int c, .ref (K.2.2 43)] σ (Wr σ (cdSize (nS σ) c) (fun t => ∃ (v : Int32) (τ : gS), szR σ (tn c) (some (.int v)) τ ∧ t = outL τ v.toInt64)) (fun _ _ => False) := by
  refine CtX.ofH hl0 hD (by decide) rfl (Nat.le_of_ble_eq_true rfl) ?_
  intro X hL hK hF C E
  subst hL; subst hK
  refine g_eq (σ2 := σ) (lv2 := [(0, .ref ((xK X).2.2 0)), (1, .int c), (2, .ref ((xK X).2.2 43))]) (st2 := []) rfl rfl rfl ?_
  refine g_aload_n C dL_size_0 2 rfl rfl ?_
  refine g_iconst (v := nI 0) C dL_size_1 (by decide +kernel) ?_
  refine g_aload_n C dL_size_2 0 rfl rfl ?_
  refine g_iload_n C dL_size_3 1 rfl rfl ?_
  refine g_callVX (As := [.int c]) (rest := [.int (nI 0), .ref ((xK X).2.2 43)]) C E dL_size_4 (kX6_size (xl X) hl0 (xK X) C.hD σ hI c) wl0 rfl 1 gL_size_X6_size rfl (by decide +kernel) ⟨Nat.le_of_ble_eq_true rfl, Nat.le_of_ble_eq_true rfl⟩ ⟨Nat.le_of_ble_eq_true rfl, Nat.le_of_ble_eq_true rfl⟩ rfl rfl (Nat.le_of_ble_eq_true rfl) (fun Ec9 σ9 h9 => ?_) (fun rv9 σ9 h9 => ?_)
  · obtain ⟨x1, k9, x2, x3⟩ := h9
    rw [x1]
    rcases k9 with _ | _ | k9
    · have x3 : some eI = some Ec9 := x3
      rw [← Option.some.inj x3]
      refine gx_catch C E (name := eI) [] ⟨0, 9, 12, 19⟩ [⟨0, 9, 15, 13⟩] rfl (fun z hz => ?_) (by decide) (by decide) 1 rfl (List.mem_of_getElem? (i := 3) rfl) (fun q9 => ?_)
      · exact absurd hz List.not_mem_nil
      · refine g_astore_n (lv' := [(3, .ref q9), (0, .ref ((xK X).2.2 0)), (1, .int c), (2, .ref ((xK X).2.2 43))]) C dL_size_12 rfl (by decide) rfl ?_
        refine g_iconst (v := nI 1) C dL_size_13 (by decide +kernel) ?_
        refine g_iret C dL_size_14 rfl ⟨Nat.le_of_ble_eq_true rfl, Nat.le_of_ble_eq_true rfl⟩ ?_
        rw [hF]
        exact ⟨by rw [x2], fun h => absurd (x2.symm.trans h) (by decide), fun _ => rfl⟩
    · have x3 : some eS = some Ec9 := x3
      rw [← Option.some.inj x3]
      refine gx_catch C E (name := eS) [⟨0, 9, 12, 19⟩] ⟨0, 9, 15, 13⟩ [] rfl (fun z hz => ?_) (by decide) (by decide) 2 rfl (List.mem_of_getElem? (i := 5) rfl) (fun q9 => ?_)
      · simp only [List.mem_cons, List.not_mem_nil, or_false] at hz
        subst hz
        exact ⟨by decide, 1, eI, rfl, by decide +kernel⟩
      · refine g_astore_n (lv' := [(3, .ref q9), (0, .ref ((xK X).2.2 0)), (1, .int c), (2, .ref ((xK X).2.2 43))]) C dL_size_15 rfl (by decide) rfl ?_
        refine g_iconst (v := nI 2) C dL_size_16 (by decide +kernel) ?_
        refine g_iret C dL_size_17 rfl ⟨Nat.le_of_ble_eq_true rfl, Nat.le_of_ble_eq_true rfl⟩ ?_
        rw [hF]
        exact ⟨by rw [x2], fun h => absurd (x2.symm.trans h) (by decide), fun _ => rfl⟩
    · have x3 : none = some Ec9 := x3
      cases x3
  · obtain ⟨hcd, h9z⟩ := h9
    obtain ⟨v9, h9a⟩ : ∃ v, rv9 = some (.int v) := by
      rcases h9z with ⟨q, τ, w, _, _, _, _, e⟩ | ⟨_, e⟩
      · exact ⟨_, e⟩
      · exact ⟨_, e⟩
    refine g_eq (σ2 := σ9) (lv2 := [(0, .ref ((xK X).2.2 0)), (1, .int c), (2, .ref ((xK X).2.2 43))]) (st2 := [.int v9, .int (nI 0), .ref ((xK X).2.2 43)]) rfl rfl (by rw [h9a]; rfl) ?_
    refine g_i2l C dL_size_7 ?_
    refine g_last (j := 0) (σ' := uL σ9 (vp_updL (sL σ9) 0 v9.toInt64)) C dL_size_8 wl43 rfl (by decide) (by decide) wsA43 ?_
    refine g_goto (tgt := 18) C dL_size_9 (by decide) ?_
    refine g_iconst (v := nI 0) C dL_size_18 (by decide +kernel) ?_
    refine g_iret C dL_size_19 rfl ⟨Nat.le_of_ble_eq_true rfl, Nat.le_of_ble_eq_true rfl⟩ ?_
    rw [hF]
    exact ⟨by rw [hcd], fun _ => ⟨v9, σ9, by rw [← h9a]; exact h9z, rfl⟩, fun h => absurd hcd h⟩

set_option maxHeartbeats 4000000 in
set_option maxRecDepth 100000 in
theorem kL_read (l : Launch) (hl0 : l.stackTraces = false) (K : gK) (hD : gD K) (σ : gS) (hI : Ic σ) (a : Int32) (v : UInt64) : CtX l yL_read wsL_read { frames := 8, cells := 2, slots := 12, locals := 126 } K [.ref (K.2.2 0), .int a, .double v] σ (Wr σ (cdRead (pD (phC σ)) a v) (fun t => t = uI (uF σ 22 (vf_upd (sF σ 22) (tn a) v)) 23 (upd (sI σ 23) (tn a) (nI 1)))) (fun _ _ => False) := by
  refine CtX.ofH hl0 hD (by decide) rfl (Nat.le_of_ble_eq_true rfl) ?_
  intro X hL hK hF C E
  subst hL; subst hK
  refine g_eq (σ2 := σ) (lv2 := [(0, .ref ((xK X).2.2 0)), (1, .int a), (2, .double v)]) (st2 := []) rfl rfl rfl ?_
  refine g_aload_n C dL_read_0 0 rfl rfl ?_
  refine g_iload_n C dL_read_1 1 rfl rfl ?_
  refine g_dload_n C dL_read_2 2 rfl rfl ?_
  refine g_callVX (As := [.int a, .double v]) (rest := []) C E dL_read_3 (kX6_read (xl X) hl0 (xK X) C.hD σ hI a v) wl0 rfl 2 gL_read_X6_read rfl (by decide +kernel) ⟨Nat.le_of_ble_eq_true rfl, Nat.le_of_ble_eq_true rfl⟩ ⟨Nat.le_of_ble_eq_true rfl, Nat.le_of_ble_eq_true rfl⟩ rfl rfl (Nat.le_of_ble_eq_true rfl) (fun Ec9 σ9 h9 => ?_) (fun rv9 σ9 h9 => ?_)
  · obtain ⟨x1, k9, x2, x3⟩ := h9
    rw [x1]
    rcases k9 with _ | _ | k9
    · have x3 : some eI = some Ec9 := x3
      rw [← Option.some.inj x3]
      refine gx_catch C E (name := eI) [] ⟨0, 6, 9, 19⟩ [⟨0, 6, 13, 21⟩] rfl (fun z hz => ?_) (by decide) (by decide) 1 rfl (List.mem_of_getElem? (i := 3) rfl) (fun q9 => ?_)
      · exact absurd hz List.not_mem_nil
      · refine g_astore (lv' := [(4, .ref q9), (0, .ref ((xK X).2.2 0)), (1, .int a), (2, .double v)]) C dL_read_9 (by decide) rfl ?_
        refine g_iconst (v := nI 1) C dL_read_11 (by decide +kernel) ?_
        refine g_iret C dL_read_12 rfl ⟨Nat.le_of_ble_eq_true rfl, Nat.le_of_ble_eq_true rfl⟩ ?_
        rw [hF]
        exact ⟨by rw [x2], fun h => absurd (x2.symm.trans h) (by decide), fun _ => rfl⟩
    · have x3 : some eA = some Ec9 := x3
      rw [← Option.some.inj x3]
      refine gx_catch C E (name := eA) [⟨0, 6, 9, 19⟩] ⟨0, 6, 13, 21⟩ [] rfl (fun z hz => ?_) (by decide) (by decide) 2 rfl (List.mem_of_getElem? (i := 4) rfl) (fun q9 => ?_)
      · simp only [List.mem_cons, List.not_mem_nil, or_false] at hz
        subst hz
        exact ⟨by decide, 1, eI, rfl, by decide +kernel⟩
      · refine g_astore (lv' := [(4, .ref q9), (0, .ref ((xK X).2.2 0)), (1, .int a), (2, .double v)]) C dL_read_13 (by decide) rfl ?_
        refine g_iconst (v := nI 2) C dL_read_15 (by decide +kernel) ?_
        refine g_iret C dL_read_16 rfl ⟨Nat.le_of_ble_eq_true rfl, Nat.le_of_ble_eq_true rfl⟩ ?_
        rw [hF]
        exact ⟨by rw [x2], fun h => absurd (x2.symm.trans h) (by decide), fun _ => rfl⟩
    · have x3 : none = some Ec9 := x3
      cases x3
  · obtain ⟨hcd, h9a, h9b⟩ := h9
    refine g_eq (σ2 := uI (uF σ 22 (vf_upd (sF σ 22) (tn a) v)) 23 (upd (sI σ 23) (tn a) (nI 1))) (lv2 := [(0, .ref ((xK X).2.2 0)), (1, .int a), (2, .double v)]) (st2 := []) h9b rfl (by rw [h9a]; rfl) ?_
    refine g_goto (tgt := 17) C dL_read_6 (by decide) ?_
    refine g_iconst (v := nI 0) C dL_read_17 (by decide +kernel) ?_
    refine g_iret C dL_read_18 rfl ⟨Nat.le_of_ble_eq_true rfl, Nat.le_of_ble_eq_true rfl⟩ ?_
    rw [hF]
    exact ⟨by rw [hcd], fun _ => rfl, fun h => absurd hcd h⟩

set_option maxHeartbeats 4000000 in
set_option maxRecDepth 100000 in
theorem kL_fit (l : Launch) (hl0 : l.stackTraces = false) (K : gK) (hD : gD K) (σ : gS) (hI : Ic σ) (r : Int32) : CtX l yL_fit wsL_fit { frames := 8, cells := 2, slots := 12, locals := 124 } K [.ref (K.2.2 0), .int r, .ref (K.2.2 44)] σ (Wr σ (cdFit (svC σ) r) (fun t => t = outF (uF σ 21 (fiV σ (tn r))) (sqV σ (fiV σ (tn r))))) (fun _ _ => False) := by
  refine CtX.ofH hl0 hD (by decide) rfl (Nat.le_of_ble_eq_true rfl) ?_
  intro X hL hK hF C E
  subst hL; subst hK
  refine g_eq (σ2 := σ) (lv2 := [(0, .ref ((xK X).2.2 0)), (1, .int r), (2, .ref ((xK X).2.2 44))]) (st2 := []) rfl rfl rfl ?_
  refine g_aload_n C dL_fit_0 2 rfl rfl ?_
  refine g_iconst (v := nI 0) C dL_fit_1 (by decide +kernel) ?_
  refine g_aload_n C dL_fit_2 0 rfl rfl ?_
  refine g_iload_n C dL_fit_3 1 rfl rfl ?_
  refine g_callVX (As := [.int r]) (rest := [.int (nI 0), .ref ((xK X).2.2 44)]) C E dL_fit_4 (kX6_fit (xl X) hl0 (xK X) C.hD σ hI r) wl0 rfl 1 gL_fit_X6_fit rfl (by decide +kernel) ⟨Nat.le_of_ble_eq_true rfl, Nat.le_of_ble_eq_true rfl⟩ ⟨Nat.le_of_ble_eq_true rfl, Nat.le_of_ble_eq_true rfl⟩ rfl rfl (Nat.le_of_ble_eq_true rfl) (fun Ec9 σ9 h9 => ?_) (fun rv9 σ9 h9 => ?_)
  · obtain ⟨x1, k9, x2, x3⟩ := h9
    rw [x1]
    rcases k9 with _ | _ | k9
    · have x3 : some eA = some Ec9 := x3
      rw [← Option.some.inj x3]
      refine gx_catch C E (name := eA) [] ⟨0, 8, 11, 21⟩ [⟨0, 8, 14, 13⟩] rfl (fun z hz => ?_) (by decide) (by decide) 1 rfl (List.mem_of_getElem? (i := 4) rfl) (fun q9 => ?_)
      · exact absurd hz List.not_mem_nil
      · refine g_astore_n (lv' := [(3, .ref q9), (0, .ref ((xK X).2.2 0)), (1, .int r), (2, .ref ((xK X).2.2 44))]) C dL_fit_11 rfl (by decide) rfl ?_
        refine g_iconst (v := nI 1) C dL_fit_12 (by decide +kernel) ?_
        refine g_iret C dL_fit_13 rfl ⟨Nat.le_of_ble_eq_true rfl, Nat.le_of_ble_eq_true rfl⟩ ?_
        rw [hF]
        exact ⟨by rw [x2], fun h => absurd (x2.symm.trans h) (by decide), fun _ => rfl⟩
    · have x3 : some eS = some Ec9 := x3
      rw [← Option.some.inj x3]
      refine gx_catch C E (name := eS) [⟨0, 8, 11, 21⟩] ⟨0, 8, 14, 13⟩ [] rfl (fun z hz => ?_) (by decide) (by decide) 2 rfl (List.mem_of_getElem? (i := 5) rfl) (fun q9 => ?_)
      · simp only [List.mem_cons, List.not_mem_nil, or_false] at hz
        subst hz
        exact ⟨by decide, 1, eA, rfl, by decide +kernel⟩
      · refine g_astore_n (lv' := [(3, .ref q9), (0, .ref ((xK X).2.2 0)), (1, .int r), (2, .ref ((xK X).2.2 44))]) C dL_fit_14 rfl (by decide) rfl ?_
        refine g_iconst (v := nI 2) C dL_fit_15 (by decide +kernel) ?_
        refine g_iret C dL_fit_16 rfl ⟨Nat.le_of_ble_eq_true rfl, Nat.le_of_ble_eq_true rfl⟩ ?_
        rw [hF]
        exact ⟨by rw [x2], fun h => absurd (x2.symm.trans h) (by decide), fun _ => rfl⟩
    · have x3 : none = some Ec9 := x3
      cases x3
  · obtain ⟨hcd, h9a, h9b⟩ := h9
    refine g_eq (σ2 := uF σ 21 (fiV σ (tn r))) (lv2 := [(0, .ref ((xK X).2.2 0)), (1, .int r), (2, .ref ((xK X).2.2 44))]) (st2 := [.double (sqV σ (fiV σ (tn r))), .int (nI 0), .ref ((xK X).2.2 44)]) h9b rfl (by rw [h9a]; rfl) ?_
    refine g_dast (j := 0) (σ' := uF (uF σ 21 (fiV σ (tn r))) 44 (vf_upd (sF (uF σ 21 (fiV σ (tn r))) 44) 0 (sqV σ (fiV σ (tn r))))) C dL_fit_7 wl44 rfl (by decide) (by decide) wsA44 ?_
    refine g_goto (tgt := 17) C dL_fit_8 (by decide) ?_
    refine g_iconst (v := nI 0) C dL_fit_17 (by decide +kernel) ?_
    refine g_iret C dL_fit_18 rfl ⟨Nat.le_of_ble_eq_true rfl, Nat.le_of_ble_eq_true rfl⟩ ?_
    rw [hF]
    exact ⟨by rw [hcd], fun _ => rfl, fun h => absurd hcd h⟩

set_option maxHeartbeats 4000000 in
set_option maxRecDepth 100000 in
theorem kL_count (l : Launch) (hl0 : l.stackTraces = false) (K : gK) (hD : gD K) (σ : gS) (hI : Ic σ) (b : Int32) : CtX l yL_count wsL_count { frames := 8, cells := 1, slots := 6, locals := 124 } K [.ref (K.2.2 0), .int b, .ref (K.2.2 43)] σ (Wr σ (cdCount b) (fun t => t = outL (σ) (nI (coV σ (tn b))).toInt64)) (fun _ _ => False) := by
  refine CtX.ofH hl0 hD (by decide) rfl (Nat.le_of_ble_eq_true rfl) ?_
  intro X hL hK hF C E
  subst hL; subst hK
  refine g_eq (σ2 := σ) (lv2 := [(0, .ref ((xK X).2.2 0)), (1, .int b), (2, .ref ((xK X).2.2 43))]) (st2 := []) rfl rfl rfl ?_
  refine g_aload_n C dL_count_0 2 rfl rfl ?_
  refine g_iconst (v := nI 0) C dL_count_1 (by decide +kernel) ?_
  refine g_aload_n C dL_count_2 0 rfl rfl ?_
  refine g_iload_n C dL_count_3 1 rfl rfl ?_
  refine g_callVX (As := [.int b]) (rest := [.int (nI 0), .ref ((xK X).2.2 43)]) C E dL_count_4 (kX6_count (xl X) hl0 (xK X) C.hD σ hI b) wl0 rfl 1 gL_count_X6_count rfl (by decide +kernel) ⟨Nat.le_of_ble_eq_true rfl, Nat.le_of_ble_eq_true rfl⟩ ⟨Nat.le_of_ble_eq_true rfl, Nat.le_of_ble_eq_true rfl⟩ rfl rfl (Nat.le_of_ble_eq_true rfl) (fun Ec9 σ9 h9 => ?_) (fun rv9 σ9 h9 => ?_)
  · obtain ⟨x1, k9, x2, x3⟩ := h9
    rw [x1]
    rcases k9 with _ | k9
    · have x3 : some eI = some Ec9 := x3
      rw [← Option.some.inj x3]
      refine gx_catch C E (name := eI) [] ⟨0, 9, 12, 19⟩ [] rfl (fun z hz => ?_) (by decide) (by decide) 1 rfl (List.mem_of_getElem? (i := 3) rfl) (fun q9 => ?_)
      · exact absurd hz List.not_mem_nil
      · refine g_astore_n (lv' := [(3, .ref q9), (0, .ref ((xK X).2.2 0)), (1, .int b), (2, .ref ((xK X).2.2 43))]) C dL_count_12 rfl (by decide) rfl ?_
        refine g_iconst (v := nI 1) C dL_count_13 (by decide +kernel) ?_
        refine g_iret C dL_count_14 rfl ⟨Nat.le_of_ble_eq_true rfl, Nat.le_of_ble_eq_true rfl⟩ ?_
        rw [hF]
        exact ⟨by rw [x2], fun h => absurd (x2.symm.trans h) (by decide), fun _ => rfl⟩
    · have x3 : none = some Ec9 := x3
      cases x3
  · obtain ⟨hcd, h9a, h9b⟩ := h9
    refine g_eq (σ2 := σ) (lv2 := [(0, .ref ((xK X).2.2 0)), (1, .int b), (2, .ref ((xK X).2.2 43))]) (st2 := [.int (nI (coV σ (tn b))), .int (nI 0), .ref ((xK X).2.2 43)]) h9b rfl (by rw [h9a]; rfl) ?_
    refine g_i2l C dL_count_7 ?_
    refine g_last (j := 0) (σ' := uL σ (vp_updL (sL σ) 0 ((nI (coV σ (tn b))).toInt64))) C dL_count_8 wl43 rfl (by decide) (by decide) wsA43 ?_
    refine g_goto (tgt := 15) C dL_count_9 (by decide) ?_
    refine g_iconst (v := nI 0) C dL_count_15 (by decide +kernel) ?_
    refine g_iret C dL_count_16 rfl ⟨Nat.le_of_ble_eq_true rfl, Nat.le_of_ble_eq_true rfl⟩ ?_
    rw [hF]
    exact ⟨by rw [hcd], fun _ => rfl, fun h => absurd hcd h⟩
