/-! the class: its words for the state, its leaves -/
def phC (σ : gS) : Ph := (tn (sN σ 2), tn (sN σ 3), fun d => tn (sI σ 9 d), fun d => tn (sI σ 10 d), fun d => eas (sF σ 12 d) (sF σ 11 d), fun m => tn (sI σ 16 m), fun m => decide (¬ sI σ 19 m = 0), sF σ 17, sD σ 0, sD σ 1)
def cntC (σ : gS) (j : Nat) : Nat := ctF (atj (phC σ) j) (pD (phC σ))
def duC (σ : gS) (j t : Nat) : Nat := tn (sI σ (45 + j) t)
/-- the class's whole numbers stand -/
def Wc (σ : gS) : Prop := sN σ 2 = nI (pD (phC σ)) ∧ pD (phC σ) ≤ 16 ∧ sN σ 3 = nI (pM (phC σ)) ∧ pM (phC σ) ≤ 8 ∧
  (∀ d, d < pD (phC σ) → (sI σ 9 d = nI (pA (phC σ) d) ∧ pA (phC σ) d < 10) ∧ (sI σ 10 d = nI (pB (phC σ) d) ∧ pB (phC σ) d < 10) ∧ pA (phC σ) d ≠ pB (phC σ) d) ∧
  (∀ m, m < pM (phC σ) → sI σ 16 m = nI (pJ (phC σ) m) ∧ pJ (phC σ) m < 10 ∧ pJ (phC σ) m ≠ 0) ∧
  (∀ j, j < 10 → sI σ 15 j = nI (cntC σ j) ∧ ∀ d, d < pD (phC σ) → atj (phC σ) j d = true → sI σ (45 + j) (ctF (atj (phC σ) j) d) = nI d)
theorem Wc.nd {σ : gS} (h : Wc σ) : sN σ 2 = nI (pD (phC σ)) := h.1
theorem Wc.nd16 {σ : gS} (h : Wc σ) : pD (phC σ) ≤ 16 := h.2.1
theorem Wc.nm {σ : gS} (h : Wc σ) : sN σ 3 = nI (pM (phC σ)) := h.2.2.1
theorem Wc.nm8 {σ : gS} (h : Wc σ) : pM (phC σ) ≤ 8 := h.2.2.2.1
theorem Wc.fr {σ : gS} (h : Wc σ) {d : Nat} (hd : d < pD (phC σ)) : sI σ 9 d = nI (pA (phC σ) d) ∧ pA (phC σ) d < 10 := (h.2.2.2.2.1 d hd).1
theorem Wc.to {σ : gS} (h : Wc σ) {d : Nat} (hd : d < pD (phC σ)) : sI σ 10 d = nI (pB (phC σ) d) ∧ pB (phC σ) d < 10 := (h.2.2.2.2.1 d hd).2.1
theorem Wc.mj {σ : gS} (h : Wc σ) {m : Nat} (hm : m < pM (phC σ)) : sI σ 16 m = nI (pJ (phC σ) m) ∧ pJ (phC σ) m < 10 ∧ pJ (phC σ) m ≠ 0 := h.2.2.2.2.2.1 m hm
theorem Wc.ct {σ : gS} (h : Wc σ) {j : Nat} (hj : j < 10) : sI σ 15 j = nI (cntC σ j) := (h.2.2.2.2.2.2 j hj).1
theorem cntC_le {σ : gS} (h : Wc σ) (j : Nat) : cntC σ j ≤ 16 := Nat.le_trans (ctF_le _ _) h.nd16
theorem Wc.du {σ : gS} (h : Wc σ) {j : Nat} (hj : j < 10) : ∀ d, d < pD (phC σ) → atj (phC σ) j d = true → duC σ j (ctF (atj (phC σ) j) d) = d := by
  intro d hd ha
  unfold duC
  rw [(h.2.2.2.2.2.2 j hj).2 d hd ha]
  exact tn_nI (by have := h.nd16; omega)
theorem Wc.row {σ : gS} (h : Wc σ) {j t : Nat} (hj : j < 10) (ht : t < cntC σ j) : sI σ (45 + j) t = nI (duC σ j t) ∧ duC σ j t < pD (phC σ) ∧ atj (phC σ) j (duC σ j t) = true := by
  obtain ⟨h1, h2, h3⟩ := du_at (h.du hj) t ht
  refine ⟨?_, h1, h2⟩
  have h4 := (h.2.2.2.2.2.2 j hj).2 (duC σ j t) h1 h2
  rw [h3] at h4
  exact h4
def Ec (σ : gS) : Prop := ∀ d, d < pD (phC σ) → sF σ 13 d = pE (phC σ) d
def Pc_ (σ : gS) : Prop := ∀ j, j < 10 → okP (sF σ 7 j)
def Gc_ (σ : gS) : Prop := ∀ m, m < pM (phC σ) → okG (sF σ 18 m)
def flw (h : Ph) (P : Nat → UInt64) (d : Nat) : UInt64 := FP.dmul (pE h d) (FP.dsub (P (pA h d)) (P (pB h d)))

set_option maxHeartbeats 4000000 in
set_option maxRecDepth 100000 in
theorem kX6_magnitude (l : Launch) (K : gK) (hD : gD K) (σ : gS) (x : UInt64) : Ct l yX6_magnitude wsX6_magnitude { frames := 0, cells := 0, slots := 0, locals := 0 } K [.double x] σ (fun r t => r = some (.double (mg x)) ∧ t = σ) := by
  refine Ct.of hD (by decide) rfl (Nat.le_of_ble_eq_true rfl) ?_
  intro X hL hK hF C
  subst hL; subst hK
  refine g_eq (σ2 := σ) (lv2 := [(0, .double x)]) (st2 := []) rfl rfl rfl ?_
  refine g_dload_n C dX6_magnitude_0 0 rfl rfl ?_
  refine g_dconst0 C dX6_magnitude_1 ?_
  refine g_dcmp C dX6_magnitude_2 ?_
  refine g_if_ge (tgt := 11) C dX6_magnitude_3 (by decide) (fun c_3 => ?_) (fun c_3 => ?_)
  · refine g_dload_n C dX6_magnitude_11 0 rfl rfl ?_
    refine g_dret C dX6_magnitude_12 rfl ⟨Nat.le_of_ble_eq_true rfl, Nat.le_of_ble_eq_true rfl⟩ ?_
    rw [hF]
    exact ⟨by unfold mg; first | rw [if_pos (by assumption)] | rw [if_neg (by assumption)], rfl⟩
  · refine g_dload_n C dX6_magnitude_6 0 rfl rfl ?_
    refine g_dneg C dX6_magnitude_7 ?_
    refine g_goto (tgt := 12) C dX6_magnitude_8 (by decide) ?_
    refine g_dret C dX6_magnitude_12 rfl ⟨Nat.le_of_ble_eq_true rfl, Nat.le_of_ble_eq_true rfl⟩ ?_
    rw [hF]
    exact ⟨by unfold mg; first | rw [if_pos (by assumption)] | rw [if_neg (by assumption)], rfl⟩

set_option maxHeartbeats 4000000 in
set_option maxRecDepth 100000 in
theorem kX6_notBelowZero (l : Launch) (K : gK) (hD : gD K) (σ : gS) (x : UInt64) : Ct l yX6_notBelowZero wsX6_notBelowZero { frames := 0, cells := 0, slots := 0, locals := 0 } K [.double x] σ (fun r t => r = some (.double (nb x)) ∧ t = σ) := by
  refine Ct.of hD (by decide) rfl (Nat.le_of_ble_eq_true rfl) ?_
  intro X hL hK hF C
  subst hL; subst hK
  refine g_eq (σ2 := σ) (lv2 := [(0, .double x)]) (st2 := []) rfl rfl rfl ?_
  refine g_dload_n C dX6_notBelowZero_0 0 rfl rfl ?_
  refine g_dconst0 C dX6_notBelowZero_1 ?_
  refine g_dcmp C dX6_notBelowZero_2 ?_
  refine g_if_ge (tgt := 10) C dX6_notBelowZero_3 (by decide) (fun c_3 => ?_) (fun c_3 => ?_)
  · refine g_dload_n C dX6_notBelowZero_10 0 rfl rfl ?_
    refine g_dret C dX6_notBelowZero_11 rfl ⟨Nat.le_of_ble_eq_true rfl, Nat.le_of_ble_eq_true rfl⟩ ?_
    rw [hF]
    exact ⟨by unfold nb; first | rw [if_pos (by assumption)] | rw [if_neg (by assumption)], rfl⟩
  · refine g_dconst0 C dX6_notBelowZero_6 ?_
    refine g_goto (tgt := 11) C dX6_notBelowZero_7 (by decide) ?_
    refine g_dret C dX6_notBelowZero_11 rfl ⟨Nat.le_of_ble_eq_true rfl, Nat.le_of_ble_eq_true rfl⟩ ?_
    rw [hF]
    exact ⟨by unfold nb; first | rw [if_pos (by assumption)] | rw [if_neg (by assumption)], rfl⟩

theorem inX4_isOpenAt_X4 : ∀ w ∈ u_ws RX4 TX4 6, w ∈ wsX4_isOpenAt := by decide +kernel
set_option maxHeartbeats 4000000 in
set_option maxRecDepth 100000 in
theorem kX4_isOpenAt (l : Launch) (K : gK) (hD : gD K) (σ : gS) (hW : Wc σ) {m j : Nat} (hm : m < pM (phC σ)) (hj : j < 10) : Ct l yX4_isOpenAt wsX4_isOpenAt { frames := 0, cells := 0, slots := 0, locals := 0 } K [.ref (K.2.2 3), .int (nI m), .int (nI j)] σ (fun r t => r = some (.int (bI (opAt (phC σ) j m))) ∧ t = σ) := by
  refine Ct.of hD (by decide) rfl (Nat.le_of_ble_eq_true rfl) ?_
  intro X hL hK hF C
  subst hL; subst hK
  refine g_eq (σ2 := σ) (lv2 := [(0, .ref ((xK X).2.2 3)), (1, .int (nI m)), (2, .int (nI j))]) (st2 := []) rfl rfl rfl ?_
  have h8 : m < 8 := by have := hW.nm8; omega
  refine g_aload_n C dX4_isOpenAt_0 0 rfl rfl ?_
  refine g_get C dX4_isOpenAt_1 wl3 rfl 4 (by decide) 1 rfl rfl rfl inX4_isOpenAt_X4 ?_
  refine g_iload_n C dX4_isOpenAt_4 1 rfl rfl ?_
  refine g_zald (j := m) C dX4_isOpenAt_5 wl19 rfl (by omega) (by decide) ?_
  refine g_if_eq (tgt := 23) C dX4_isOpenAt_6 (by decide) (fun c_6 => ?_) (fun c_6 => ?_)
  · refine g_iconst (v := nI 0) C dX4_isOpenAt_23 (by decide +kernel) ?_
    refine g_zret C dX4_isOpenAt_24 rfl rfl ⟨Nat.le_of_ble_eq_true rfl, Nat.le_of_ble_eq_true rfl⟩ ?_
    rw [hF]
    refine ⟨?_, rfl⟩
    have hh := (hW.mj hm).1
    have hk := (hW.mj hm).2.1
    have ho : pO (phC σ) m = decide (¬ sI σ 19 m = 0) := rfl
    unfold opAt
    rw [ho]
    simp_all [bI, nI_eq (show pJ (phC σ) m < 2 ^ 31 by omega) (show j < 2 ^ 31 by omega)]
  · refine g_aload_n C dX4_isOpenAt_9 0 rfl rfl ?_
    refine g_get C dX4_isOpenAt_10 wl3 rfl 1 (by decide) 2 rfl rfl rfl inX4_isOpenAt_X4 ?_
    refine g_iload_n C dX4_isOpenAt_13 1 rfl rfl ?_
    refine g_iald (j := m) C dX4_isOpenAt_14 wl16 rfl (by omega) (by decide) ?_
    refine g_iload_n C dX4_isOpenAt_15 2 rfl rfl ?_
    refine g_icmp_ne (tgt := 23) C dX4_isOpenAt_16 (by decide) (fun c_16 => ?_) (fun c_16 => ?_)
    · refine g_iconst (v := nI 0) C dX4_isOpenAt_23 (by decide +kernel) ?_
      refine g_zret C dX4_isOpenAt_24 rfl rfl ⟨Nat.le_of_ble_eq_true rfl, Nat.le_of_ble_eq_true rfl⟩ ?_
      rw [hF]
      refine ⟨?_, rfl⟩
      have hh := (hW.mj hm).1
      have hk := (hW.mj hm).2.1
      have ho : pO (phC σ) m = decide (¬ sI σ 19 m = 0) := rfl
      unfold opAt
      rw [ho]
      simp_all [bI, nI_eq (show pJ (phC σ) m < 2 ^ 31 by omega) (show j < 2 ^ 31 by omega)]
    · refine g_iconst (v := nI 1) C dX4_isOpenAt_19 (by decide +kernel) ?_
      refine g_goto (tgt := 24) C dX4_isOpenAt_20 (by decide) ?_
      refine g_zret C dX4_isOpenAt_24 rfl rfl ⟨Nat.le_of_ble_eq_true rfl, Nat.le_of_ble_eq_true rfl⟩ ?_
      rw [hF]
      refine ⟨?_, rfl⟩
      have hh := (hW.mj hm).1
      have hk := (hW.mj hm).2.1
      have ho : pO (phC σ) m = decide (¬ sI σ 19 m = 0) := rfl
      unfold opAt
      rw [ho]
      simp_all [bI, nI_eq (show pJ (phC σ) m < 2 ^ 31 by omega) (show j < 2 ^ 31 by omega)]

theorem inX1_otherEnd_X1 : ∀ w ∈ u_ws RX1 TX1 8, w ∈ wsX1_otherEnd := by decide +kernel
set_option maxHeartbeats 4000000 in
set_option maxRecDepth 100000 in
theorem kX1_otherEnd (l : Launch) (K : gK) (hD : gD K) (σ : gS) (hW : Wc σ) {d j : Nat} (hd : d < pD (phC σ)) (hj : j < 10) : Ct l yX1_otherEnd wsX1_otherEnd { frames := 0, cells := 0, slots := 0, locals := 0 } K [.ref (K.2.2 2), .int (nI d), .int (nI j)] σ (fun r t => r = some (.int (nI (oth (phC σ) j d))) ∧ t = σ) := by
  refine Ct.of hD (by decide) rfl (Nat.le_of_ble_eq_true rfl) ?_
  intro X hL hK hF C
  subst hL; subst hK
  refine g_eq (σ2 := σ) (lv2 := [(0, .ref ((xK X).2.2 2)), (1, .int (nI d)), (2, .int (nI j))]) (st2 := []) rfl rfl rfl ?_
  have h16 : d < 16 := by have := hW.nd16; omega
  refine g_aload_n C dX1_otherEnd_0 0 rfl rfl ?_
  refine g_get C dX1_otherEnd_1 wl2 rfl 1 (by decide) 1 rfl rfl rfl inX1_otherEnd_X1 ?_
  refine g_iload_n C dX1_otherEnd_4 1 rfl rfl ?_
  refine g_iald (j := d) C dX1_otherEnd_5 wl9 rfl (by omega) (by decide) ?_
  refine g_iload_n C dX1_otherEnd_6 2 rfl rfl ?_
  refine g_icmp_ne (tgt := 19) C dX1_otherEnd_7 (by decide) (fun c_7 => ?_) (fun c_7 => ?_)
  · refine g_aload_n C dX1_otherEnd_19 0 rfl rfl ?_
    refine g_get C dX1_otherEnd_20 wl2 rfl 1 (by decide) 1 rfl rfl rfl inX1_otherEnd_X1 ?_
    refine g_iload_n C dX1_otherEnd_23 1 rfl rfl ?_
    refine g_iald (j := d) C dX1_otherEnd_24 wl9 rfl (by omega) (by decide) ?_
    refine g_iret C dX1_otherEnd_25 rfl ⟨Nat.le_of_ble_eq_true rfl, Nat.le_of_ble_eq_true rfl⟩ ?_
    rw [hF]
    refine ⟨?_, rfl⟩
    have h1 := (hW.fr hd).1
    have h2 := (hW.to hd).1
    have h3 := (hW.fr hd).2
    unfold oth
    first
      | rw [if_pos (by simp_all [nI_eq (show pA (phC σ) d < 2 ^ 31 by omega) (show j < 2 ^ 31 by omega)]), h2]
      | rw [if_neg (by simp_all [nI_eq (show pA (phC σ) d < 2 ^ 31 by omega) (show j < 2 ^ 31 by omega)]), h1]
  · refine g_aload_n C dX1_otherEnd_10 0 rfl rfl ?_
    refine g_get C dX1_otherEnd_11 wl2 rfl 2 (by decide) 2 rfl rfl rfl inX1_otherEnd_X1 ?_
    refine g_iload_n C dX1_otherEnd_14 1 rfl rfl ?_
    refine g_iald (j := d) C dX1_otherEnd_15 wl10 rfl (by omega) (by decide) ?_
    refine g_goto (tgt := 25) C dX1_otherEnd_16 (by decide) ?_
    refine g_iret C dX1_otherEnd_25 rfl ⟨Nat.le_of_ble_eq_true rfl, Nat.le_of_ble_eq_true rfl⟩ ?_
    rw [hF]
    refine ⟨?_, rfl⟩
    have h1 := (hW.fr hd).1
    have h2 := (hW.to hd).1
    have h3 := (hW.fr hd).2
    unfold oth
    first
      | rw [if_pos (by simp_all [nI_eq (show pA (phC σ) d < 2 ^ 31 by omega) (show j < 2 ^ 31 by omega)]), h2]
      | rw [if_neg (by simp_all [nI_eq (show pA (phC σ) d < 2 ^ 31 by omega) (show j < 2 ^ 31 by omega)]), h1]

theorem inX2_hold_X2 : ∀ w ∈ u_ws RX2 TX2 3, w ∈ wsX2_hold := by decide +kernel
set_option maxHeartbeats 4000000 in
set_option maxRecDepth 100000 in
theorem kX2_hold (l : Launch) (K : gK) (hD : gD K) (σ : gS) (hp : PhF (phC σ)) (hq : okQ (sD σ 2)) : Ct l yX2_hold wsX2_hold { frames := 0, cells := 0, slots := 0, locals := 0 } K [.ref (K.2.2 6)] σ (fun r t => r = some (.double (na (hldV (phC σ) (sD σ 2)))) ∧ t = σ) := by
  refine Ct.of hD (by decide) rfl (Nat.le_of_ble_eq_true rfl) ?_
  intro X hL hK hF C
  subst hL; subst hK
  refine g_eq (σ2 := σ) (lv2 := [(0, .ref ((xK X).2.2 6))]) (st2 := []) rfl rfl rfl ?_
  refine g_dconst0 C dX2_hold_0 ?_
  refine g_aload_n C dX2_hold_1 0 rfl rfl ?_
  refine g_get C dX2_hold_2 wl6 rfl 0 (by decide) 1 rfl rfl rfl inX2_hold_X2 ?_
  refine g_aload_n C dX2_hold_5 0 rfl rfl ?_
  refine g_get C dX2_hold_6 wl6 rfl 1 (by decide) 2 rfl rfl rfl inX2_hold_X2 ?_
  refine g_aload_n C dX2_hold_9 0 rfl rfl ?_
  refine g_get C dX2_hold_10 wl6 rfl 2 (by decide) 3 rfl rfl rfl inX2_hold_X2 ?_
  refine g_dmul C dX2_hold_13 ((hld_ok hp hq).1.F.ok) ?_
  refine g_dsub C dX2_hold_14 ((hld_ok hp hq).2.1.F.ok) ?_
  refine g_dsub C dX2_hold_15 ((hld_ok hp hq).2.2.1.F.ok) ?_
  refine g_dstore_n (lv' := [(1, .double (FP.dsub FP.dconst0 (FP.dsub (sD σ 0) (FP.dmul (sD σ 1) (sD σ 2))))), (0, .ref ((xK X).2.2 6))]) C dX2_hold_16 rfl (by decide) rfl ?_
  refine g_dload_n C dX2_hold_17 0 rfl rfl ?_
  refine g_dconst0 C dX2_hold_18 ?_
  refine g_dcmp C dX2_hold_19 ?_
  refine g_if_le (tgt := 27) C dX2_hold_20 (by decide) (fun c_20 => ?_) (fun c_20 => ?_)
  · refine g_dload_n C dX2_hold_27 0 rfl rfl ?_
    refine g_dret C dX2_hold_28 rfl ⟨Nat.le_of_ble_eq_true rfl, Nat.le_of_ble_eq_true rfl⟩ ?_
    rw [hF]
    exact ⟨by unfold na; first | rw [if_pos (by assumption)]; rfl | rw [if_neg (by assumption)], rfl⟩
  · refine g_dconst0 C dX2_hold_23 ?_
    refine g_goto (tgt := 28) C dX2_hold_24 (by decide) ?_
    refine g_dret C dX2_hold_28 rfl ⟨Nat.le_of_ble_eq_true rfl, Nat.le_of_ble_eq_true rfl⟩ ?_
    rw [hF]
    exact ⟨by unfold na; first | rw [if_pos (by assumption)]; rfl | rw [if_neg (by assumption)], rfl⟩

theorem inX0_flow_X0 : ∀ w ∈ u_ws RX0 TX0 5, w ∈ wsX0_flow := by decide +kernel
theorem inX0_flow_X1 : ∀ w ∈ u_ws RX1 TX1 8, w ∈ wsX0_flow := by decide +kernel
set_option maxHeartbeats 4000000 in
set_option maxRecDepth 100000 in
theorem kX0_flow (l : Launch) (K : gK) (hD : gD K) (σ : gS) (hW : Wc σ) (hE : Ec σ) (hp : PhF (phC σ)) (hP : Pc_ σ) {d : Nat} (hd : d < pD (phC σ)) : Ct l yX0_flow wsX0_flow { frames := 0, cells := 0, slots := 0, locals := 0 } K [.ref (K.2.2 1), .int (nI d)] σ (fun r t => r = some (.double (flw (phC σ) (sF σ 7) d)) ∧ t = σ) := by
  refine Ct.of hD (by decide) rfl (Nat.le_of_ble_eq_true rfl) ?_
  intro X hL hK hF C
  subst hL; subst hK
  refine g_eq (σ2 := σ) (lv2 := [(0, .ref ((xK X).2.2 1)), (1, .int (nI d))]) (st2 := []) rfl rfl rfl ?_
  have h16 : d < 16 := by have := hW.nd16; omega
  refine g_aload_n C dX0_flow_0 0 rfl rfl ?_
  refine g_get C dX0_flow_1 wl1 rfl 0 (by decide) 1 rfl rfl rfl inX0_flow_X0 ?_
  refine g_get C dX0_flow_4 wl2 rfl 5 (by decide) 2 rfl rfl rfl inX0_flow_X1 ?_
  refine g_iload_n C dX0_flow_7 1 rfl rfl ?_
  refine g_dald (j := d) C dX0_flow_8 wl13 rfl (by omega) (by decide) ?_
  refine g_topd (y := pE (phC σ) d) (hE d hd) ?_
  refine g_aload_n C dX0_flow_9 0 rfl rfl ?_
  refine g_get C dX0_flow_10 wl1 rfl 3 (by decide) 3 rfl rfl rfl inX0_flow_X0 ?_
  refine g_aload_n C dX0_flow_13 0 rfl rfl ?_
  refine g_get C dX0_flow_14 wl1 rfl 0 (by decide) 1 rfl rfl rfl inX0_flow_X0 ?_
  refine g_get C dX0_flow_17 wl2 rfl 1 (by decide) 4 rfl rfl rfl inX0_flow_X1 ?_
  refine g_iload_n C dX0_flow_20 1 rfl rfl ?_
  refine g_iald (j := d) C dX0_flow_21 wl9 rfl (by omega) (by decide) ?_
  refine g_dald (j := pA (phC σ) d) C dX0_flow_22 wl7 ((hW.fr hd).1) ((hW.fr hd).2) (by decide) ?_
  refine g_aload_n C dX0_flow_23 0 rfl rfl ?_
  refine g_get C dX0_flow_24 wl1 rfl 3 (by decide) 3 rfl rfl rfl inX0_flow_X0 ?_
  refine g_aload_n C dX0_flow_27 0 rfl rfl ?_
  refine g_get C dX0_flow_28 wl1 rfl 0 (by decide) 1 rfl rfl rfl inX0_flow_X0 ?_
  refine g_get C dX0_flow_31 wl2 rfl 2 (by decide) 5 rfl rfl rfl inX0_flow_X1 ?_
  refine g_iload_n C dX0_flow_34 1 rfl rfl ?_
  refine g_iald (j := d) C dX0_flow_35 wl10 rfl (by omega) (by decide) ?_
  refine g_dald (j := pB (phC σ) d) C dX0_flow_36 wl7 ((hW.to hd).1) ((hW.to hd).2) (by decide) ?_
  refine g_dsub C dX0_flow_37 ((flo_s (h := phC σ) hP (hW.fr hd).2 (hW.to hd).2).F.ok) ?_
  refine g_dmul C dX0_flow_38 ((flo_g hp hP hd (hW.fr hd).2 (hW.to hd).2).F.ok) ?_
  refine g_dret C dX0_flow_39 rfl ⟨Nat.le_of_ble_eq_true rfl, Nat.le_of_ble_eq_true rfl⟩ ?_
  rw [hF]
  exact ⟨rfl, rfl⟩

def spd (h : Ph) (P w : Nat → UInt64) (d : Nat) : UInt64 := FP.ddiv (mg (flw h P d)) (FP.dmul (w d) (w d))

theorem spd_ok {h : Ph} (hp : PhF h) {P w : Nat → UInt64} (hP : ∀ j, j < 10 → okP (P j)) {d : Nat} (hd : d < pD h) (hw : okW (w d)) : Bd 14 (FP.dmul (w d) (w d)) ∧ Bd 41 (spd h P w d) := by
  have h1 := eas_ok hw hw
  exact ⟨h1.1, (mg_B (flo_g hp hP hd (hp.2.2.1 d hd).2.1 (hp.2.2.1 d hd).2.2)).1.div (j := 6) h1.1.F h1.2.2.2.1 (by decide)⟩

theorem inX0_speed_X0 : ∀ w ∈ u_ws RX0 TX0 5, w ∈ wsX0_speed := by decide +kernel
theorem inX0_speed_X1 : ∀ w ∈ u_ws RX1 TX1 8, w ∈ wsX0_speed := by decide +kernel
set_option maxHeartbeats 4000000 in
set_option maxRecDepth 100000 in
theorem kX0_speed (l : Launch) (K : gK) (hD : gD K) (σ : gS) (hW : Wc σ) (hE : Ec σ) (hp : PhF (phC σ)) (hP : Pc_ σ) {d : Nat} (hd : d < pD (phC σ)) (hok : okW (sF σ 12 d)) : Ct l yX0_speed wsX0_speed { frames := 1, cells := 0, slots := 0, locals := 21 } K [.ref (K.2.2 1), .int (nI d)] σ (fun r t => r = some (.double (spd (phC σ) (sF σ 7) (sF σ 12) d)) ∧ t = σ) := by
  refine Ct.of hD (by decide) rfl (Nat.le_of_ble_eq_true rfl) ?_
  intro X hL hK hF C
  subst hL; subst hK
  refine g_eq (σ2 := σ) (lv2 := [(0, .ref ((xK X).2.2 1)), (1, .int (nI d))]) (st2 := []) rfl rfl rfl ?_
  have h16 : d < 16 := by have := hW.nd16; omega
  have hw := spd_ok hp hP (w := sF σ 12) hd hok
  refine g_aload_n C dX0_speed_0 0 rfl rfl ?_
  refine g_iload_n C dX0_speed_1 1 rfl rfl ?_
  refine g_callV (As := [.int (nI d)]) (rest := []) C dX0_speed_2 (kX0_flow (xl X) (xK X) C.hD σ hW hE hp hP hd) wl1 rfl 1 gX0_speed_X0_flow rfl (by decide +kernel) ⟨Nat.le_of_ble_eq_true rfl, Nat.le_of_ble_eq_true rfl⟩ ⟨Nat.le_of_ble_eq_true rfl, Nat.le_of_ble_eq_true rfl⟩ rfl rfl (Nat.le_of_ble_eq_true rfl) (fun rv9 σ9 h9 => ?_)
  obtain ⟨h9a, h9b⟩ := h9
  refine g_eq (σ2 := σ) (lv2 := [(0, .ref ((xK X).2.2 1)), (1, .int (nI d))]) (st2 := [.double (flw (phC σ) (sF σ 7) d)]) h9b rfl (by rw [h9a]; rfl) ?_
  refine g_callSN (As := [.double (flw (phC σ) (sF σ 7) d)]) (rest := []) C dX0_speed_5 (kX6_magnitude (xl X) (xK X) C.hD σ _) 1 gX0_speed_X6_magnitude_n98 rfl 0 rfl 13 rfl 12 rfl (by decide +kernel) ⟨Nat.le_of_ble_eq_true rfl, Nat.le_of_ble_eq_true rfl⟩ ⟨Nat.le_of_ble_eq_true rfl, Nat.le_of_ble_eq_true rfl⟩ rfl rfl (Nat.le_of_ble_eq_true rfl) (fun rv9 σ9 h9 => ?_)
  obtain ⟨h9a, h9b⟩ := h9
  refine g_eq (σ2 := σ) (lv2 := [(0, .ref ((xK X).2.2 1)), (1, .int (nI d))]) (st2 := [.double (mg (flw (phC σ) (sF σ 7) d))]) h9b rfl (by rw [h9a]; rfl) ?_
  refine g_aload_n C dX0_speed_8 0 rfl rfl ?_
  refine g_get C dX0_speed_9 wl1 rfl 0 (by decide) 1 rfl rfl rfl inX0_speed_X0 ?_
  refine g_get C dX0_speed_12 wl2 rfl 4 (by decide) 2 rfl rfl rfl inX0_speed_X1 ?_
  refine g_iload_n C dX0_speed_15 1 rfl rfl ?_
  refine g_dald (j := d) C dX0_speed_16 wl12 rfl (by omega) (by decide) ?_
  refine g_aload_n C dX0_speed_17 0 rfl rfl ?_
  refine g_get C dX0_speed_18 wl1 rfl 0 (by decide) 1 rfl rfl rfl inX0_speed_X0 ?_
  refine g_get C dX0_speed_21 wl2 rfl 4 (by decide) 2 rfl rfl rfl inX0_speed_X1 ?_
  refine g_iload_n C dX0_speed_24 1 rfl rfl ?_
  refine g_dald (j := d) C dX0_speed_25 wl12 rfl (by omega) (by decide) ?_
  refine g_dmul C dX0_speed_26 hw.1.F.ok ?_
  refine g_ddiv C dX0_speed_27 hw.2.F.ok ?_
  refine g_dret C dX0_speed_28 rfl ⟨Nat.le_of_ble_eq_true rfl, Nat.le_of_ble_eq_true rfl⟩ ?_
  rw [hF]
  exact ⟨rfl, rfl⟩

theorem inX0_pull_X0 : ∀ w ∈ u_ws RX0 TX0 5, w ∈ wsX0_pull := by decide +kernel
theorem inX0_pull_X1 : ∀ w ∈ u_ws RX1 TX1 8, w ∈ wsX0_pull := by decide +kernel
set_option maxHeartbeats 4000000 in
set_option maxRecDepth 100000 in
theorem kX0_pull (l : Launch) (K : gK) (hD : gD K) (σ : gS) (hW : Wc σ) (hE : Ec σ) (hp : PhF (phC σ)) (hP : Pc_ σ) {j : Nat} (hj : j < 10) : Ct l yX0_pull wsX0_pull { frames := 1, cells := 0, slots := 0, locals := 22 } K [.ref (K.2.2 1), .int (nI j)] σ (fun r t => r = some (.double (pulV (phC σ) (sF σ 7) j)) ∧ t = σ) := by
  refine Ct.of hD (by decide) rfl (Nat.le_of_ble_eq_true rfl) ?_
  intro X hL hK hF C
  subst hL; subst hK
  refine g_eq (σ2 := σ) (lv2 := [(0, .ref ((xK X).2.2 1)), (1, .int (nI j))]) (st2 := []) rfl rfl rfl ?_
  refine g_dconst0 C dX0_pull_0 ?_
  refine g_dstore_n (lv' := [(2, .double FP.dconst0), (0, .ref ((xK X).2.2 1)), (1, .int (nI j))]) C dX0_pull_1 rfl (by decide) rfl ?_
  refine g_iconst (v := nI 0) C dX0_pull_2 (by decide +kernel) ?_
  refine g_istore (lv' := [(4, .int (nI 0)), (2, .double FP.dconst0), (0, .ref ((xK X).2.2 1)), (1, .int (nI j))]) C dX0_pull_3 (by decide) rfl ?_
  have loop5 : ∀ (r9 : Nat) (t : Nat), cntC σ j - t < r9 → (t ≤ cntC σ j) → G X 6 0 0 σ [(0, .ref ((xK X).2.2 1)), (1, .int (nI j)), (2, .double (accF FP.dconst0 (fun _ => true) (fun t => FP.dmul (pE (phC σ) (duC σ j t)) (sF σ 7 (oth (phC σ) j (duC σ j t)))) t)), (4, .int (nI t))] 5 [] := by
    intro r9
    induction r9 with
    | zero => intro t h9; exact absurd h9 (Nat.not_lt_zero _)
    | succ r9 ih5 =>
      intro t hm5 ht
      refine g_iload C dX0_pull_5 3 rfl ?_
      refine g_aload_n C dX0_pull_7 0 rfl rfl ?_
      refine g_get C dX0_pull_8 wl1 rfl 0 (by decide) 1 rfl rfl rfl inX0_pull_X0 ?_
      refine g_get C dX0_pull_11 wl2 rfl 7 (by decide) 2 rfl rfl rfl inX0_pull_X1 ?_
      refine g_iload_n C dX0_pull_14 1 rfl rfl ?_
      refine g_iald (j := j) C dX0_pull_15 wl15 rfl (by omega) (by decide) ?_
      refine g_topi (y := nI (cntC σ j)) (hW.ct hj) ?_
      refine g_icmp_ge (tgt := 68) C dX0_pull_16 (by decide) (fun c_16 => ?_) (fun c_16 => ?_)
      · have hte : t = cntC σ j := Nat.le_antisymm ht ((nI_leI (by have := cntC_le hW j; omega) (by have := cntC_le hW j; omega)).mp c_16)
        subst hte
        refine g_dload_n C dX0_pull_68 2 rfl rfl ?_
        refine g_dret C dX0_pull_69 rfl ⟨Nat.le_of_ble_eq_true rfl, Nat.le_of_ble_eq_true rfl⟩ ?_
        rw [hF]
        exact ⟨congrArg (fun z => some (Value.double z)) (accF_list (a := FP.dconst0) (g := fun d => FP.dmul (pE (phC σ) d) (sF σ 7 (oth (phC σ) j d))) (hW.du hj)), rfl⟩
      · have hlt : t < cntC σ j := by
          refine Nat.lt_of_not_le fun h => c_16 ?_
          exact (nI_leI (by have := cntC_le hW j; omega) (by have := cntC_le hW j; omega)).mpr h
        refine g_aload_n C dX0_pull_19 0 rfl rfl ?_
        refine g_get C dX0_pull_20 wl1 rfl 0 (by decide) 1 rfl rfl rfl inX0_pull_X0 ?_
        refine g_get C dX0_pull_23 wl2 rfl 6 (by decide) 3 rfl rfl rfl inX0_pull_X1 ?_
        refine g_iload_n C dX0_pull_26 1 rfl rfl ?_
        refine g_rald (j := j) C dX0_pull_27 rfl hj ?_
        refine g_iload C dX0_pull_28 3 rfl ?_
        refine g_iald (j := t) C dX0_pull_30 (wl_row hj) rfl (by have := cntC_le hW j; omega) (by decide) ?_
        refine g_topi (y := nI (duC σ j t)) ((hW.row hj hlt).1) ?_
        refine g_istore (lv' := [(5, .int (nI (duC σ j t))), (0, .ref ((xK X).2.2 1)), (1, .int (nI j)), (2, .double (accF FP.dconst0 (fun _ => true) (fun t => FP.dmul (pE (phC σ) (duC σ j t)) (sF σ 7 (oth (phC σ) j (duC σ j t)))) t)), (4, .int (nI t))]) C dX0_pull_31 (by decide) rfl ?_
        refine g_dload_n C dX0_pull_33 3 rfl rfl ?_
        refine g_aload_n C dX0_pull_34 1 rfl rfl ?_
        refine g_get C dX0_pull_35 wl1 rfl 0 (by decide) 1 rfl rfl rfl inX0_pull_X0 ?_
        refine g_get C dX0_pull_38 wl2 rfl 5 (by decide) 4 rfl rfl rfl inX0_pull_X1 ?_
        refine g_iload C dX0_pull_41 0 rfl ?_
        refine g_dald (j := (duC σ j t)) C dX0_pull_43 wl13 rfl (by have := (hW.row hj hlt).2.1; have := hW.nd16; omega) (by decide) ?_
        refine g_topd (y := pE (phC σ) (duC σ j t)) (hE _ (hW.row hj hlt).2.1) ?_
        refine g_aload_n C dX0_pull_44 1 rfl rfl ?_
        refine g_get C dX0_pull_45 wl1 rfl 3 (by decide) 5 rfl rfl rfl inX0_pull_X0 ?_
        refine g_aload_n C dX0_pull_48 1 rfl rfl ?_
        refine g_get C dX0_pull_49 wl1 rfl 0 (by decide) 1 rfl rfl rfl inX0_pull_X0 ?_
        refine g_iload C dX0_pull_52 0 rfl ?_
        refine g_iload_n C dX0_pull_54 2 rfl rfl ?_
        refine g_callV (As := [.int (nI (duC σ j t)), .int (nI j)]) (rest := [.ref ((xK X).2.2 7), .double (pE (phC σ) (duC σ j t)), .double (accF FP.dconst0 (fun _ => true) (fun t => FP.dmul (pE (phC σ) (duC σ j t)) (sF σ 7 (oth (phC σ) j (duC σ j t)))) t)]) C dX0_pull_55 (kX1_otherEnd (xl X) (xK X) C.hD σ hW (hW.row hj hlt).2.1 hj) wl2 rfl 2 gX0_pull_X1_otherEnd rfl (by decide +kernel) ⟨Nat.le_of_ble_eq_true rfl, Nat.le_of_ble_eq_true rfl⟩ ⟨Nat.le_of_ble_eq_true rfl, Nat.le_of_ble_eq_true rfl⟩ rfl rfl (Nat.le_of_ble_eq_true rfl) (fun rv9 σ9 h9 => ?_)
        obtain ⟨h9a, h9b⟩ := h9
        refine g_eq (σ2 := σ) (lv2 := [(5, .int (nI (duC σ j t))), (0, .ref ((xK X).2.2 1)), (1, .int (nI j)), (2, .double (accF FP.dconst0 (fun _ => true) (fun t => FP.dmul (pE (phC σ) (duC σ j t)) (sF σ 7 (oth (phC σ) j (duC σ j t)))) t)), (4, .int (nI t))]) (st2 := [.int (nI (oth (phC σ) j (duC σ j t))), .ref ((xK X).2.2 7), .double (pE (phC σ) (duC σ j t)), .double (accF FP.dconst0 (fun _ => true) (fun t => FP.dmul (pE (phC σ) (duC σ j t)) (sF σ 7 (oth (phC σ) j (duC σ j t)))) t)]) h9b rfl (by rw [h9a]; rfl) ?_
        refine g_dald (j := (oth (phC σ) j (duC σ j t))) C dX0_pull_58 wl7 rfl (oth_lt hp (hW.row hj hlt).2.1) (by decide) ?_
        refine g_dmul C dX0_pull_59 ((pul_g hp hP (hW.row hj hlt).2.1).F.ok) ?_
        refine g_dadd C dX0_pull_60 (accF_ok (d0_B 34) (n := cntC σ j) (by have := cntC_le hW j; omega) hlt (p := fun _ => true) (g := fun t => FP.dmul (pE (phC σ) (duC σ j t)) (sF σ 7 (oth (phC σ) j (duC σ j t)))) (fun t hi _ => (pul_g hp hP (hW.row hj hi).2.1)) rfl) ?_
        refine g_topd (y := accF FP.dconst0 (fun _ => true) (fun t => FP.dmul (pE (phC σ) (duC σ j t)) (sF σ 7 (oth (phC σ) j (duC σ j t)))) (t + 1)) (accF_yes (p := fun _ => true) rfl |>.symm) ?_
        refine g_dstore_n (lv' := [(2, .double (accF FP.dconst0 (fun _ => true) (fun t => FP.dmul (pE (phC σ) (duC σ j t)) (sF σ 7 (oth (phC σ) j (duC σ j t)))) (t + 1))), (5, .int (nI (duC σ j t))), (0, .ref ((xK X).2.2 1)), (1, .int (nI j)), (4, .int (nI t))]) C dX0_pull_61 rfl (by decide) rfl ?_
        refine g_iinc (v := nI (t + 1)) (lv' := [(4, .int (nI (t + 1))), (2, .double (accF FP.dconst0 (fun _ => true) (fun t => FP.dmul (pE (phC σ) (duC σ j t)) (sF σ 7 (oth (phC σ) j (duC σ j t)))) (t + 1))), (5, .int (nI (duC σ j t))), (0, .ref ((xK X).2.2 1)), (1, .int (nI j))]) C dX0_pull_62 4 rfl (nI_1 t) (by decide) rfl ?_
        refine g_goto (tgt := 5) C dX0_pull_65 (by decide) ?_
        refine g_lv [3, 4, 1, 0] rfl ?_
        exact ih5 (t + 1) (by omega) (by omega)
  refine g_lv [2, 3, 1, 0] rfl ?_
  exact loop5 (cntC σ j + 1) 0 (by omega) (Nat.zero_le _)

theorem inX0_flowsTo_X0 : ∀ w ∈ u_ws RX0 TX0 5, w ∈ wsX0_flowsTo := by decide +kernel
theorem inX0_flowsTo_X1 : ∀ w ∈ u_ws RX1 TX1 8, w ∈ wsX0_flowsTo := by decide +kernel
set_option maxHeartbeats 4000000 in
set_option maxRecDepth 100000 in
theorem kX0_flowsTo (l : Launch) (K : gK) (hD : gD K) (σ : gS) (hW : Wc σ) (hE : Ec σ) (hp : PhF (phC σ)) (hP : Pc_ σ) {j : Nat} (hj : j < 10) : Ct l yX0_flowsTo wsX0_flowsTo { frames := 1, cells := 0, slots := 0, locals := 22 } K [.ref (K.2.2 1), .int (nI j)] σ (fun r t => r = some (.double (floV (phC σ) (sF σ 7) j)) ∧ t = σ) := by
  refine Ct.of hD (by decide) rfl (Nat.le_of_ble_eq_true rfl) ?_
  intro X hL hK hF C
  subst hL; subst hK
  refine g_eq (σ2 := σ) (lv2 := [(0, .ref ((xK X).2.2 1)), (1, .int (nI j))]) (st2 := []) rfl rfl rfl ?_
  refine g_dconst0 C dX0_flowsTo_0 ?_
  refine g_dstore_n (lv' := [(2, .double FP.dconst0), (0, .ref ((xK X).2.2 1)), (1, .int (nI j))]) C dX0_flowsTo_1 rfl (by decide) rfl ?_
  refine g_iconst (v := nI 0) C dX0_flowsTo_2 (by decide +kernel) ?_
  refine g_istore (lv' := [(4, .int (nI 0)), (2, .double FP.dconst0), (0, .ref ((xK X).2.2 1)), (1, .int (nI j))]) C dX0_flowsTo_3 (by decide) rfl ?_
  have loop5 : ∀ (r9 : Nat) (t : Nat), cntC σ j - t < r9 → (t ≤ cntC σ j) → G X 6 0 0 σ [(0, .ref ((xK X).2.2 1)), (1, .int (nI j)), (2, .double (accF FP.dconst0 (fun _ => true) (fun t => FP.dmul (pE (phC σ) (duC σ j t)) (FP.dsub (sF σ 7 (oth (phC σ) j (duC σ j t))) (sF σ 7 j))) t)), (4, .int (nI t))] 5 [] := by
    intro r9
    induction r9 with
    | zero => intro t h9; exact absurd h9 (Nat.not_lt_zero _)
    | succ r9 ih5 =>
      intro t hm5 ht
      refine g_iload C dX0_flowsTo_5 3 rfl ?_
      refine g_aload_n C dX0_flowsTo_7 0 rfl rfl ?_
      refine g_get C dX0_flowsTo_8 wl1 rfl 0 (by decide) 1 rfl rfl rfl inX0_flowsTo_X0 ?_
      refine g_get C dX0_flowsTo_11 wl2 rfl 7 (by decide) 2 rfl rfl rfl inX0_flowsTo_X1 ?_
      refine g_iload_n C dX0_flowsTo_14 1 rfl rfl ?_
      refine g_iald (j := j) C dX0_flowsTo_15 wl15 rfl (by omega) (by decide) ?_
      refine g_topi (y := nI (cntC σ j)) (hW.ct hj) ?_
      refine g_icmp_ge (tgt := 75) C dX0_flowsTo_16 (by decide) (fun c_16 => ?_) (fun c_16 => ?_)
      · have hte : t = cntC σ j := Nat.le_antisymm ht ((nI_leI (by have := cntC_le hW j; omega) (by have := cntC_le hW j; omega)).mp c_16)
        subst hte
        refine g_dload_n C dX0_flowsTo_75 2 rfl rfl ?_
        refine g_dret C dX0_flowsTo_76 rfl ⟨Nat.le_of_ble_eq_true rfl, Nat.le_of_ble_eq_true rfl⟩ ?_
        rw [hF]
        exact ⟨congrArg (fun z => some (Value.double z)) (accF_list (a := FP.dconst0) (g := fun d => FP.dmul (pE (phC σ) d) (FP.dsub (sF σ 7 (oth (phC σ) j d)) (sF σ 7 j))) (hW.du hj)), rfl⟩
      · have hlt : t < cntC σ j := by
          refine Nat.lt_of_not_le fun h => c_16 ?_
          exact (nI_leI (by have := cntC_le hW j; omega) (by have := cntC_le hW j; omega)).mpr h
        refine g_aload_n C dX0_flowsTo_19 0 rfl rfl ?_
        refine g_get C dX0_flowsTo_20 wl1 rfl 0 (by decide) 1 rfl rfl rfl inX0_flowsTo_X0 ?_
        refine g_get C dX0_flowsTo_23 wl2 rfl 6 (by decide) 3 rfl rfl rfl inX0_flowsTo_X1 ?_
        refine g_iload_n C dX0_flowsTo_26 1 rfl rfl ?_
        refine g_rald (j := j) C dX0_flowsTo_27 rfl hj ?_
        refine g_iload C dX0_flowsTo_28 3 rfl ?_
        refine g_iald (j := t) C dX0_flowsTo_30 (wl_row hj) rfl (by have := cntC_le hW j; omega) (by decide) ?_
        refine g_topi (y := nI (duC σ j t)) ((hW.row hj hlt).1) ?_
        refine g_istore (lv' := [(5, .int (nI (duC σ j t))), (0, .ref ((xK X).2.2 1)), (1, .int (nI j)), (2, .double (accF FP.dconst0 (fun _ => true) (fun t => FP.dmul (pE (phC σ) (duC σ j t)) (FP.dsub (sF σ 7 (oth (phC σ) j (duC σ j t))) (sF σ 7 j))) t)), (4, .int (nI t))]) C dX0_flowsTo_31 (by decide) rfl ?_
        refine g_dload_n C dX0_flowsTo_33 3 rfl rfl ?_
        refine g_aload_n C dX0_flowsTo_34 1 rfl rfl ?_
        refine g_get C dX0_flowsTo_35 wl1 rfl 0 (by decide) 1 rfl rfl rfl inX0_flowsTo_X0 ?_
        refine g_get C dX0_flowsTo_38 wl2 rfl 5 (by decide) 4 rfl rfl rfl inX0_flowsTo_X1 ?_
        refine g_iload C dX0_flowsTo_41 0 rfl ?_
        refine g_dald (j := (duC σ j t)) C dX0_flowsTo_43 wl13 rfl (by have := (hW.row hj hlt).2.1; have := hW.nd16; omega) (by decide) ?_
        refine g_topd (y := pE (phC σ) (duC σ j t)) (hE _ (hW.row hj hlt).2.1) ?_
        refine g_aload_n C dX0_flowsTo_44 1 rfl rfl ?_
        refine g_get C dX0_flowsTo_45 wl1 rfl 3 (by decide) 5 rfl rfl rfl inX0_flowsTo_X0 ?_
        refine g_aload_n C dX0_flowsTo_48 1 rfl rfl ?_
        refine g_get C dX0_flowsTo_49 wl1 rfl 0 (by decide) 1 rfl rfl rfl inX0_flowsTo_X0 ?_
        refine g_iload C dX0_flowsTo_52 0 rfl ?_
        refine g_iload_n C dX0_flowsTo_54 2 rfl rfl ?_
        refine g_callV (As := [.int (nI (duC σ j t)), .int (nI j)]) (rest := [.ref ((xK X).2.2 7), .double (pE (phC σ) (duC σ j t)), .double (accF FP.dconst0 (fun _ => true) (fun t => FP.dmul (pE (phC σ) (duC σ j t)) (FP.dsub (sF σ 7 (oth (phC σ) j (duC σ j t))) (sF σ 7 j))) t)]) C dX0_flowsTo_55 (kX1_otherEnd (xl X) (xK X) C.hD σ hW (hW.row hj hlt).2.1 hj) wl2 rfl 2 gX0_flowsTo_X1_otherEnd rfl (by decide +kernel) ⟨Nat.le_of_ble_eq_true rfl, Nat.le_of_ble_eq_true rfl⟩ ⟨Nat.le_of_ble_eq_true rfl, Nat.le_of_ble_eq_true rfl⟩ rfl rfl (Nat.le_of_ble_eq_true rfl) (fun rv9 σ9 h9 => ?_)
        obtain ⟨h9a, h9b⟩ := h9
        refine g_eq (σ2 := σ) (lv2 := [(5, .int (nI (duC σ j t))), (0, .ref ((xK X).2.2 1)), (1, .int (nI j)), (2, .double (accF FP.dconst0 (fun _ => true) (fun t => FP.dmul (pE (phC σ) (duC σ j t)) (FP.dsub (sF σ 7 (oth (phC σ) j (duC σ j t))) (sF σ 7 j))) t)), (4, .int (nI t))]) (st2 := [.int (nI (oth (phC σ) j (duC σ j t))), .ref ((xK X).2.2 7), .double (pE (phC σ) (duC σ j t)), .double (accF FP.dconst0 (fun _ => true) (fun t => FP.dmul (pE (phC σ) (duC σ j t)) (FP.dsub (sF σ 7 (oth (phC σ) j (duC σ j t))) (sF σ 7 j))) t)]) h9b rfl (by rw [h9a]; rfl) ?_
        refine g_dald (j := (oth (phC σ) j (duC σ j t))) C dX0_flowsTo_58 wl7 rfl (oth_lt hp (hW.row hj hlt).2.1) (by decide) ?_
        refine g_aload_n C dX0_flowsTo_59 1 rfl rfl ?_
        refine g_get C dX0_flowsTo_60 wl1 rfl 3 (by decide) 5 rfl rfl rfl inX0_flowsTo_X0 ?_
        refine g_iload_n C dX0_flowsTo_63 2 rfl rfl ?_
        refine g_dald (j := j) C dX0_flowsTo_64 wl7 rfl (by omega) (by decide) ?_
        refine g_dsub C dX0_flowsTo_65 ((flo_s (h := phC σ) hP (oth_lt hp (hW.row hj hlt).2.1) hj).F.ok) ?_
        refine g_dmul C dX0_flowsTo_66 ((flo_g hp hP (hW.row hj hlt).2.1 (oth_lt hp (hW.row hj hlt).2.1) hj).F.ok) ?_
        refine g_dadd C dX0_flowsTo_67 (accF_ok (d0_B 35) (n := cntC σ j) (by have := cntC_le hW j; omega) hlt (p := fun _ => true) (g := fun t => FP.dmul (pE (phC σ) (duC σ j t)) (FP.dsub (sF σ 7 (oth (phC σ) j (duC σ j t))) (sF σ 7 j))) (fun t hi _ => (flo_g hp hP (hW.row hj hi).2.1 (oth_lt hp (hW.row hj hi).2.1) hj)) rfl) ?_
        refine g_topd (y := accF FP.dconst0 (fun _ => true) (fun t => FP.dmul (pE (phC σ) (duC σ j t)) (FP.dsub (sF σ 7 (oth (phC σ) j (duC σ j t))) (sF σ 7 j))) (t + 1)) (accF_yes (p := fun _ => true) rfl |>.symm) ?_
        refine g_dstore_n (lv' := [(2, .double (accF FP.dconst0 (fun _ => true) (fun t => FP.dmul (pE (phC σ) (duC σ j t)) (FP.dsub (sF σ 7 (oth (phC σ) j (duC σ j t))) (sF σ 7 j))) (t + 1))), (5, .int (nI (duC σ j t))), (0, .ref ((xK X).2.2 1)), (1, .int (nI j)), (4, .int (nI t))]) C dX0_flowsTo_68 rfl (by decide) rfl ?_
        refine g_iinc (v := nI (t + 1)) (lv' := [(4, .int (nI (t + 1))), (2, .double (accF FP.dconst0 (fun _ => true) (fun t => FP.dmul (pE (phC σ) (duC σ j t)) (FP.dsub (sF σ 7 (oth (phC σ) j (duC σ j t))) (sF σ 7 j))) (t + 1))), (5, .int (nI (duC σ j t))), (0, .ref ((xK X).2.2 1)), (1, .int (nI j))]) C dX0_flowsTo_69 4 rfl (nI_1 t) (by decide) rfl ?_
        refine g_goto (tgt := 5) C dX0_flowsTo_72 (by decide) ?_
        refine g_lv [3, 4, 1, 0] rfl ?_
        exact ih5 (t + 1) (by omega) (by omega)
  refine g_lv [2, 3, 1, 0] rfl ?_
  exact loop5 (cntC σ j + 1) 0 (by omega) (Nat.zero_le _)
