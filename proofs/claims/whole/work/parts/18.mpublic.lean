/-! the model: its public methods -/
def irM (σ : gS) (d : Nat) : Bool := decide (¬ sI σ 33 d = 0)
def Mi (H : Ph) (nj n : Nat) (sv : Bool) (σ : gS) : Prop := Mw H nj σ ∧ PhF H ∧ (∀ j, j < 10 → okP (sF σ 40 j)) ∧ (∀ m, m < pM H → okG (sF σ 38 m)) ∧ okQ (sD σ 5) ∧ sN σ 9 = bI sv ∧ (sN σ 10 = nI n ∧ n ≤ 6 ∧ ∀ s, s < n → okW (sF σ 41 s)) ∧ (∀ d, irM σ d = true → d < pD H ∧ okD (sF σ 34 d)) ∧ (∀ d, okR (sF σ 32 d))
def Mr (σ : gS) (cd : Nat) (v0 : Option Value) (P : Option Value → gS → Prop) : Option Value → gS → Prop := fun r t => (cd ≠ 0 → r = v0 ∧ t = uN σ 5 (nI cd)) ∧ (cd = 0 → P r t)
def gdB (a b : Int32) (l w : UInt64) : Bool := decide (a ≠ b) && (wiB l k125 k100 && wiB w k125 k100)
theorem gd_iff {a b : Int32} {l w : UInt64} : gdB a b l w = true ↔ (a ≠ b ∧ wiB l k125 k100 = true ∧ wiB w k125 k100 = true) := by
  unfold gdB
  rw [Bool.and_eq_true, Bool.and_eq_true, decide_eq_true_eq]
theorem cdJoint_le (n : Nat) : cdJoint n ≤ 3 := by unfold cdJoint; split <;> decide
theorem cdDuct_le (nj nd : Nat) (a b : Int32) (l w : UInt64) : cdDuct nj nd a b l w ≤ 3 := by unfold cdDuct; (repeat' split) <;> decide
theorem cdMach_le (nj nm : Nat) (a : Int32) (w : UInt64) : cdMach nj nm a w ≤ 3 := by unfold cdMach; (repeat' split) <;> decide
theorem cdUse_le (nm : Nat) (c m : Int32) : cdUse nm c m ≤ 3 := by unfold cdUse; split <;> decide
theorem cdFan_le (s f : UInt64) : cdFan s f ≤ 3 := by unfold cdFan; split <;> decide
theorem cdSolve_le (c : Int32) : cdSolve c ≤ 3 := by unfold cdSolve; split <;> decide
theorem cdQ_le (n w : Nat) (sv : Bool) (a b : Int32) : cdQ n w sv a b ≤ 3 := by unfold cdQ; (repeat' split) <;> decide
theorem cdKeeps_le (sv : Bool) (x : UInt64) : cdKeeps sv x ≤ 3 := by unfold cdKeeps; (repeat' split) <;> decide
theorem cdList_le (n : Nat) (w : UInt64) (x : Int32) : cdList n w x ≤ 3 := by unfold cdList; (repeat' split) <;> decide
theorem cdSize_le (n : Nat) (c : Int32) : cdSize n c ≤ 3 := by unfold cdSize; (repeat' split) <;> decide
theorem cdRead_le (n : Nat) (d : Int32) (v : UInt64) : cdRead n d v ≤ 3 := by unfold cdRead; (repeat' split) <;> decide
theorem cdFit_le (sv : Bool) (r : Int32) : cdFit sv r ≤ 3 := by unfold cdFit; (repeat' split) <;> decide
theorem cdCount_le (w : Int32) : cdCount w ≤ 3 := by unfold cdCount; split <;> decide
theorem cdQ_wr (n w : Nat) (sv : Bool) (a b : Int32) : wrC (decide (inR a n ∧ inR b w)) sv = cdQ n w sv a b := by
  unfold wrC cdQ
  by_cases h : inR a n ∧ inR b w
  · exact (if_pos (decide_eq_true h)).trans (if_neg (fun z => z h)).symm
  · exact (if_neg (by rw [decide_eq_false h]; decide)).trans (if_pos h).symm
theorem cdQ_0 {n w : Nat} {sv : Bool} {a b : Int32} (h : cdQ n w sv a b = 0) : inR a n ∧ inR b w ∧ sv = true := by
  unfold cdQ at h
  split at h
  · cases h
  · rename_i h1
    have h1 := Decidable.not_not.mp h1
    split at h
    · rename_i h2; exact ⟨h1.1, h1.2, h2⟩
    · cases h
theorem cdDuct_0 {nj nd : Nat} {a b : Int32} {l w : UInt64} (h : cdDuct nj nd a b l w = 0) : (inR a nj ∧ inR b nj) ∧ (a ≠ b ∧ wiB l k125 k100 = true ∧ wiB w k125 k100 = true) ∧ nd < 16 := by
  unfold cdDuct at h
  split at h
  · cases h
  · rename_i h1
    split at h
    · cases h
    · rename_i h2
      split at h
      · cases h
      · rename_i h3
        exact ⟨Decidable.not_not.mp h1, Decidable.not_not.mp h2, Decidable.not_not.mp h3⟩
theorem cdMach_0 {nj nm : Nat} {a : Int32} {w : UInt64} (h : cdMach nj nm a w = 0) : inR a nj ∧ (a ≠ 0 ∧ wiB w k125 k1000 = true) ∧ nm < 8 := by
  unfold cdMach at h
  split at h
  · cases h
  · rename_i h1
    split at h
    · cases h
    · rename_i h2
      split at h
      · cases h
      · rename_i h3
        exact ⟨Decidable.not_not.mp h1, Decidable.not_not.mp h2, Decidable.not_not.mp h3⟩
theorem cdUse_0 {nm : Nat} {c m : Int32} (h : cdUse nm c m = 0) : inR c 4 ∧ inR m nm := by
  unfold cdUse at h
  split at h
  · assumption
  · cases h
theorem cdSolve_0 {c : Int32} (h : cdSolve c = 0) : inR c 4 := by
  unfold cdSolve at h
  split at h
  · assumption
  · cases h
theorem cdCount_0 {c : Int32} (h : cdCount c = 0) : inR c 4 := by
  unfold cdCount at h
  split at h
  · assumption
  · cases h
theorem cdJoint_0 {n : Nat} (h : cdJoint n = 0) : n < 10 := by
  unfold cdJoint at h
  split at h
  · assumption
  · cases h
theorem cdFan_0 {s f : UInt64} (h : cdFan s f = 0) : wiB s FP.dconst0 k1000 = true ∧ wiB f FP.dconst0 k1000 = true := by
  unfold cdFan at h
  split at h
  · assumption
  · cases h
theorem cdKeeps_0 {sv : Bool} {x : UInt64} (h : cdKeeps sv x = 0) : ¬ Op.cmpValue (FP.dcmp x FP.dconst0) .g < 0 ∧ sv = true := by
  unfold cdKeeps at h
  split at h
  · cases h
  · split at h
    · constructor <;> assumption
    · cases h
theorem cdList_0 {n : Nat} {w : UInt64} {x : Int32} (h : cdList n w x = 0) : (wiB w k125 k100 = true ∧ ¬ x < 0 ∧ x ≤ 1000000) ∧ n < 6 := by
  unfold cdList at h
  split at h
  · cases h
  · rename_i h1
    split at h
    · exact ⟨Decidable.not_not.mp h1, by assumption⟩
    · cases h
theorem cdSize_0 {n : Nat} {c : Int32} (h : cdSize n c = 0) : inR c 4 ∧ 0 < n := by
  unfold cdSize at h
  split at h
  · cases h
  · rename_i h1
    split at h
    · exact ⟨Decidable.not_not.mp h1, by assumption⟩
    · cases h
theorem cdRead_0 {n : Nat} {d : Int32} {v : UInt64} (h : cdRead n d v = 0) : inR d n ∧ wiB v FP.dconst0 k10000 = true := by
  unfold cdRead at h
  split at h
  · cases h
  · rename_i h1
    split at h
    · exact ⟨Decidable.not_not.mp h1, by assumption⟩
    · cases h
theorem cdFit_0 {sv : Bool} {r : Int32} (h : cdFit sv r = 0) : (¬ r < 0 ∧ r ≤ nI 50) ∧ sv = true := by
  unfold cdFit at h
  split at h
  · cases h
  · rename_i h1
    split at h
    · exact ⟨Decidable.not_not.mp h1, by assumption⟩
    · cases h
/-- what flows to a joint, as the model sums it -/
def flM (H : Ph) (P : Nat → UInt64) (j : Nat) : Nat → UInt64
  | 0 => FP.dconst0
  | d + 1 => if pB H d = j then FP.dadd (flM H P j d) (flw H P d) else if pA H d = j then FP.dsub (flM H P j d) (flw H P d) else flM H P j d
theorem flM_up (H : Ph) (P : Nat → UInt64) (j d : Nat) : flM H P j (d + 1) = if pB H d = j then FP.dadd (flM H P j d) (flw H P d) else if pA H d = j then FP.dsub (flM H P j d) (flw H P d) else flM H P j d := rfl
theorem flx_B {H : Ph} (hp : PhF H) {P : Nat → UInt64} (hP : ∀ j, j < 10 → okP (P j)) {d : Nat} (hd : d < pD H) : Bd 35 (flw H P d) := flo_g hp hP hd (hp.2.2.1 d hd).2.1 (hp.2.2.1 d hd).2.2
theorem flM_B {H : Ph} (hp : PhF H) {P : Nat → UInt64} (hP : ∀ j, j < 10 → okP (P j)) (j : Nat) : ∀ d, d ≤ pD H → Bd (35 + d) (flM H P j d)
  | 0, _ => d0_B _
  | d + 1, hd => by
    have h1 := flM_B hp hP j d (by omega)
    have h2 := (flx_B hp hP (d := d) (by omega)).mono (j := 35 + d) (by omega)
    have h16 := hp.1
    unfold flM
    split
    · exact h1.add h2 (by omega)
    · split
      · exact h1.sub h2 (by omega)
      · exact h1.mono (by omega)
def atA (H : Ph) (P : Nat → UInt64) (j : Nat) : UInt64 := if j = 0 then FP.dconst0 else flM H P j (pD H)
theorem atA_B {H : Ph} (hp : PhF H) {P : Nat → UInt64} (hP : ∀ j, j < 10 → okP (P j)) (j : Nat) : Bd 51 (atA H P j) := by
  unfold atA
  split
  · exact d0_B _
  · exact (flM_B hp hP j (pD H) (Nat.le_refl _)).mono (by have := hp.1; omega)
def atM (H : Ph) (P g : Nat → UInt64) (j k : Nat) : UInt64 := if k = 0 then P j else if j = 0 then FP.dconst0 else accF (flM H P j (pD H)) (opAt H j) (drV H P g) (pM H)
def ofM (H : Ph) (σ : gS) (d k : Nat) : UInt64 := if k = 0 then flw H (sF σ 40) d else if k = 1 then spd H (sF σ 40) (sF σ 31) d else if k = 2 then pE H d else sF σ 32 d
def dsM (H : Ph) (σ : gS) (m k : Nat) : UInt64 := if k = 0 then sF σ 38 m else drV H (sF σ 40) (sF σ 38) m
def coM (nj nd nm n k : Nat) : Nat := if k = 0 then nj else if k = 1 then nd else if k = 2 then nm else n
def fiM (H : Ph) (σ : gS) : Nat → (Nat → UInt64)
  | 0 => sF σ 32
  | n + 1 => apN H (sF σ 40) (sF σ 34) (irM σ) (fiM H σ n) (pD H)
theorem fiM_ok {H : Ph} (hp : PhF H) {σ : gS} (hP : ∀ j, j < 10 → okP (sF σ 40 j)) (hr : ∀ d, irM σ d = true → d < pD H ∧ okD (sF σ 34 d)) (hl : ∀ d, okR (sF σ 32 d)) : ∀ n d, okR (fiM H σ n d)
  | 0 => hl
  | n + 1 => apN_ok hp hP hr (fiM_ok hp hP hr hl n) (pD H)
def sqM (H : Ph) (σ : gS) (lk : Nat → UInt64) : UInt64 := accF FP.dconst0 (irM σ) (fun d => FP.dmul (msV H (sF σ 40) (sF σ 34) lk d) (msV H (sF σ 40) (sF σ 34) lk d)) (pD H)
theorem allB_fm {p : Nat → Bool} : ∀ {n m : Nat}, allB p n = false → n ≤ m → allB p m = false
  | n, 0, h, hm => by rw [show n = 0 by omega] at h; exact h
  | n, m + 1, h, hm => by
    by_cases e : n = m + 1
    · rw [← e]; exact h
    · show (allB p m && p m) = false
      rw [allB_fm h (by omega), Bool.false_and]
theorem inB_L {x : Int32} : inB x (nI 0) 1000000 = true ↔ (¬ x < 0 ∧ x ≤ 1000000) := by
  unfold inB
  rw [Bool.and_eq_true, decide_eq_true_eq, decide_eq_true_eq]
  exact ⟨fun h => ⟨Int32.not_lt.mpr h.1, h.2⟩, fun h => ⟨Int32.not_lt.mp h.1, h.2⟩⟩

theorem inX7_joint_X7 : ∀ w ∈ u_ws RX7 TX7 24, w ∈ wsX7_joint := by decide +kernel
set_option maxHeartbeats 4000000 in
set_option maxRecDepth 100000 in
theorem kX7_joint (l : Launch) (K : gK) (hD : gD K) (σ : gS) {H : Ph} {nj n : Nat} {sv : Bool} (hI : Mi H nj n sv σ)  : Ct l yX7_joint wsX7_joint { frames := 0, cells := 0, slots := 0, locals := 0 } K [.ref (K.2.2 27)] σ (Mr σ (cdJoint nj) (some (.int (nI 0))) (fun r t => r = some (.int (nI nj)) ∧ t = uN (uN (uN σ 5 (nI 0)) 6 (nI (nj + 1))) 9 (nI 0))) := by
  refine Ct.of hD (by decide) rfl (Nat.le_of_ble_eq_true rfl) ?_
  intro X hL hK hF C
  subst hL; subst hK
  refine g_eq (σ2 := σ) (lv2 := [(0, .ref ((xK X).2.2 27))]) (st2 := []) rfl rfl rfl ?_
  obtain ⟨hM, hp, hP, hg, hq, hsv, ⟨hn, hn6, hsw⟩, hr, hl⟩ := hI
  have h16 := hM.nd16
  have h8 := hM.nm8
  have hjj := hM.j
  have hcb := cdJoint_le nj
  refine g_aload_n C dX7_joint_0 0 rfl rfl ?_
  refine g_aload_n C dX7_joint_1 0 rfl rfl ?_
  refine g_get C dX7_joint_2 wl27 rfl 1 (by decide) 1 rfl rfl rfl inX7_joint_X7 ?_
  refine g_topi (y := nI nj) hM.j.1 ?_
  refine g_bipush (v := nI 10) C dX7_joint_5 (by decide +kernel) ?_
  refine g_icmp_ne (tgt := 14) C dX7_joint_7 (by decide) (fun c_7 => ?_) (fun c_7 => ?_)
  · have hcd : cdJoint nj = 0 := if_pos (by
      have : nj ≠ 10 := fun h => c_7 (by rw [h])
      omega)
    refine g_iconst (v := nI 0) C dX7_joint_14 (by decide +kernel) ?_
    refine g_topi (y := nI (cdJoint nj)) (by rw [hcd]) ?_
    refine g_put (σ' := uN σ 5 (nI (cdJoint nj))) (ty := .int) C dX7_joint_15 wl27 rfl 0 (by decide) 2 rfl rfl inX7_joint_X7 tyX7_ok nmX7 rfl (by decide +kernel) rfl rfl (Nat.le_of_ble_eq_true rfl) wsN5 ?_
    refine g_aload_n C dX7_joint_18 0 rfl rfl ?_
    refine g_get C dX7_joint_19 wl27 rfl 0 (by decide) 2 rfl rfl rfl inX7_joint_X7 ?_
    refine g_topi (y := nI (cdJoint nj)) rfl ?_
    refine g_if_le (tgt := 27) C dX7_joint_22 (by decide) (fun c_22 => ?_) (fun c_22 => ?_)
    · have hc0 : cdJoint nj = 0 := nI_le0 (by omega) c_22
      refine g_aload_n C dX7_joint_27 0 rfl rfl ?_
      refine g_dup C dX7_joint_28 rfl ?_
      refine g_get C dX7_joint_29 wl27 rfl 1 (by decide) 1 rfl rfl rfl inX7_joint_X7 ?_
      refine g_topi (y := nI nj) hM.j.1 ?_
      refine g_iconst (v := nI 1) C dX7_joint_32 (by decide +kernel) ?_
      refine g_iadd C dX7_joint_33 ?_
      refine g_topi (y := nI (nj + 1)) (nI_add _ 1) ?_
      refine g_put (σ' := uN (uN σ 5 (nI (cdJoint nj))) 6 (nI (nj + 1))) (ty := .int) C dX7_joint_34 wl27 rfl 1 (by decide) 1 rfl rfl inX7_joint_X7 tyX7_ok nmX7 rfl (by decide +kernel) rfl rfl (Nat.le_of_ble_eq_true rfl) wsN6 ?_
      refine g_aload_n C dX7_joint_37 0 rfl rfl ?_
      refine g_iconst (v := nI 0) C dX7_joint_38 (by decide +kernel) ?_
      refine g_put (σ' := uN (uN (uN σ 5 (nI (cdJoint nj))) 6 (nI (nj + 1))) 9 (nI 0)) (ty := .boolean) C dX7_joint_39 wl27 rfl 20 (by decide) 3 rfl rfl inX7_joint_X7 tyX7_ok nmX7 rfl (by decide +kernel) rfl rfl (Nat.le_of_ble_eq_true rfl) wsN9 ?_
      refine g_aload_n C dX7_joint_42 0 rfl rfl ?_
      refine g_get C dX7_joint_43 wl27 rfl 1 (by decide) 1 rfl rfl rfl inX7_joint_X7 ?_
      refine g_topi (y := nI (nj + 1)) rfl ?_
      refine g_iconst (v := nI 1) C dX7_joint_46 (by decide +kernel) ?_
      refine g_isub C dX7_joint_47 ?_
      refine g_topi (y := nI nj) (nI_pred _) ?_
      refine g_iret C dX7_joint_48 rfl ⟨Nat.le_of_ble_eq_true rfl, Nat.le_of_ble_eq_true rfl⟩ ?_
      rw [hF]
      exact ⟨fun h => absurd hc0 h, fun _ => ⟨rfl, by rw [hc0]; try rfl⟩⟩
    · have hc1 : cdJoint nj ≠ 0 := fun h => c_22 (by rw [h]; decide)
      refine g_iconst (v := nI 0) C dX7_joint_25 (by decide +kernel) ?_
      refine g_iret C dX7_joint_26 rfl ⟨Nat.le_of_ble_eq_true rfl, Nat.le_of_ble_eq_true rfl⟩ ?_
      rw [hF]
      exact ⟨fun _ => ⟨rfl, rfl⟩, fun h => absurd h hc1⟩
  · have hcd : cdJoint nj = 1 := if_neg (by
      have := (nI_eq (a := nj) (b := 10) (by omega) (by decide)).mp (Decidable.byContradiction fun h => absurd c_7 h)
      omega)
    refine g_iconst (v := nI 1) C dX7_joint_10 (by decide +kernel) ?_
    refine g_goto (tgt := 15) C dX7_joint_11 (by decide) ?_
    refine g_topi (y := nI (cdJoint nj)) (by rw [hcd]) ?_
    refine g_put (σ' := uN σ 5 (nI (cdJoint nj))) (ty := .int) C dX7_joint_15 wl27 rfl 0 (by decide) 2 rfl rfl inX7_joint_X7 tyX7_ok nmX7 rfl (by decide +kernel) rfl rfl (Nat.le_of_ble_eq_true rfl) wsN5 ?_
    refine g_aload_n C dX7_joint_18 0 rfl rfl ?_
    refine g_get C dX7_joint_19 wl27 rfl 0 (by decide) 2 rfl rfl rfl inX7_joint_X7 ?_
    refine g_topi (y := nI (cdJoint nj)) rfl ?_
    refine g_if_le (tgt := 27) C dX7_joint_22 (by decide) (fun c_22 => ?_) (fun c_22 => ?_)
    · have hc0 : cdJoint nj = 0 := nI_le0 (by omega) c_22
      refine g_aload_n C dX7_joint_27 0 rfl rfl ?_
      refine g_dup C dX7_joint_28 rfl ?_
      refine g_get C dX7_joint_29 wl27 rfl 1 (by decide) 1 rfl rfl rfl inX7_joint_X7 ?_
      refine g_topi (y := nI nj) hM.j.1 ?_
      refine g_iconst (v := nI 1) C dX7_joint_32 (by decide +kernel) ?_
      refine g_iadd C dX7_joint_33 ?_
      refine g_topi (y := nI (nj + 1)) (nI_add _ 1) ?_
      refine g_put (σ' := uN (uN σ 5 (nI (cdJoint nj))) 6 (nI (nj + 1))) (ty := .int) C dX7_joint_34 wl27 rfl 1 (by decide) 1 rfl rfl inX7_joint_X7 tyX7_ok nmX7 rfl (by decide +kernel) rfl rfl (Nat.le_of_ble_eq_true rfl) wsN6 ?_
      refine g_aload_n C dX7_joint_37 0 rfl rfl ?_
      refine g_iconst (v := nI 0) C dX7_joint_38 (by decide +kernel) ?_
      refine g_put (σ' := uN (uN (uN σ 5 (nI (cdJoint nj))) 6 (nI (nj + 1))) 9 (nI 0)) (ty := .boolean) C dX7_joint_39 wl27 rfl 20 (by decide) 3 rfl rfl inX7_joint_X7 tyX7_ok nmX7 rfl (by decide +kernel) rfl rfl (Nat.le_of_ble_eq_true rfl) wsN9 ?_
      refine g_aload_n C dX7_joint_42 0 rfl rfl ?_
      refine g_get C dX7_joint_43 wl27 rfl 1 (by decide) 1 rfl rfl rfl inX7_joint_X7 ?_
      refine g_topi (y := nI (nj + 1)) rfl ?_
      refine g_iconst (v := nI 1) C dX7_joint_46 (by decide +kernel) ?_
      refine g_isub C dX7_joint_47 ?_
      refine g_topi (y := nI nj) (nI_pred _) ?_
      refine g_iret C dX7_joint_48 rfl ⟨Nat.le_of_ble_eq_true rfl, Nat.le_of_ble_eq_true rfl⟩ ?_
      rw [hF]
      exact ⟨fun h => absurd hc0 h, fun _ => ⟨rfl, by rw [hc0]; try rfl⟩⟩
    · have hc1 : cdJoint nj ≠ 0 := fun h => c_22 (by rw [h]; decide)
      refine g_iconst (v := nI 0) C dX7_joint_25 (by decide +kernel) ?_
      refine g_iret C dX7_joint_26 rfl ⟨Nat.le_of_ble_eq_true rfl, Nat.le_of_ble_eq_true rfl⟩ ?_
      rw [hF]
      exact ⟨fun _ => ⟨rfl, rfl⟩, fun h => absurd h hc1⟩

theorem inX7_duct_X7 : ∀ w ∈ u_ws RX7 TX7 24, w ∈ wsX7_duct := by decide +kernel
set_option maxHeartbeats 4000000 in
set_option maxRecDepth 100000 in
theorem kX7_duct (l : Launch) (K : gK) (hD : gD K) (σ : gS) {H : Ph} {nj n : Nat} {sv : Bool} (hI : Mi H nj n sv σ) (a b : Int32) (ln wd : UInt64) : Ct l yX7_duct wsX7_duct { frames := 2, cells := 0, slots := 0, locals := 43 } K [.ref (K.2.2 27), .int a, .int b, .double ln, .double wd] σ (Mr σ (cdDuct nj (pD H) a b ln wd) (some (.int (nI 0))) (fun r t => r = some (.int (nI (pD H))) ∧ t = uN (uN (uF (uF (uI (uI (uN σ 5 (nI 0)) 28 (upd (sI σ 28) (pD H) a)) 29 (upd (sI σ 29) (pD H) b)) 30 (vf_upd (sF σ 30) (pD H) ln)) 31 (vf_upd (sF σ 31) (pD H) wd)) 7 (nI (pD H + 1))) 9 (nI 0))) := by
  refine Ct.of hD (by decide) rfl (Nat.le_of_ble_eq_true rfl) ?_
  intro X hL hK hF C
  subst hL; subst hK
  refine g_eq (σ2 := σ) (lv2 := [(0, .ref ((xK X).2.2 27)), (1, .int a), (2, .int b), (3, .double ln), (5, .double wd)]) (st2 := []) rfl rfl rfl ?_
  obtain ⟨hM, hp, hP, hg, hq, hsv, ⟨hn, hn6, hsw⟩, hr, hl⟩ := hI
  have h16 := hM.nd16
  have h8 := hM.nm8
  have hjj := hM.j
  have hcb := cdDuct_le nj (pD H) a b ln wd
  refine g_iload_n C dX7_duct_0 1 rfl rfl ?_
  refine g_iload_n C dX7_duct_1 2 rfl rfl ?_
  refine g_icmp_eq (tgt := 36) C dX7_duct_2 (by decide) (fun c_2 => ?_) (fun c_2 => ?_)
  · refine g_iconst (v := nI 0) C dX7_duct_36 (by decide +kernel) ?_
    refine g_topi (y := bI (gdB a b ln wd)) (by unfold gdB; first | (rw [decide_eq_false (show ¬ a ≠ b from fun h => h c_2)]; rfl) | (rw [decide_eq_true (show a ≠ b from c_2), (bI_ne _).mp c_15]; rfl) | (rw [decide_eq_true (show a ≠ b from c_2), bIt c_15, (bI_ne _).mp c_29]; rfl) | (rw [decide_eq_true (show a ≠ b from c_2), bIt c_15, bIt c_29]; rfl)) ?_
    refine g_istore (lv' := [(7, .int (bI (gdB a b ln wd))), (0, .ref ((xK X).2.2 27)), (1, .int a), (2, .int b), (3, .double ln), (5, .double wd)]) C dX7_duct_37 (by decide) rfl ?_
    refine g_aload_n C dX7_duct_39 1 rfl rfl ?_
    refine g_aload_n C dX7_duct_40 1 rfl rfl ?_
    refine g_iload_n C dX7_duct_41 2 rfl rfl ?_
    refine g_callV (As := [.int a]) (rest := [.ref ((xK X).2.2 27)]) C dX7_duct_42 (kX7_isJoint (xl X) (xK X) C.hD σ hM.j.1 hM.j.2.2 a) wl27 rfl 1 gX7_duct_X7_isJoint rfl (by decide +kernel) ⟨Nat.le_of_ble_eq_true rfl, Nat.le_of_ble_eq_true rfl⟩ ⟨Nat.le_of_ble_eq_true rfl, Nat.le_of_ble_eq_true rfl⟩ rfl rfl (Nat.le_of_ble_eq_true rfl) (fun rv9 σ9 h9 => ?_)
    obtain ⟨h9a, h9b⟩ := h9
    refine g_eq (σ2 := σ) (lv2 := [(7, .int (bI (gdB a b ln wd))), (0, .ref ((xK X).2.2 27)), (1, .int a), (2, .int b), (3, .double ln), (5, .double wd)]) (st2 := [.int (bI (decide (inR a nj))), .ref ((xK X).2.2 27)]) h9b rfl (by rw [h9a]; rfl) ?_
    refine g_if_eq (tgt := 56) C dX7_duct_45 (by decide) (fun c_45 => ?_) (fun c_45 => ?_)
    · have hcd : cdDuct nj (pD H) a b ln wd = 1 := if_pos (fun h => absurd h.1 (of_decide_eq_false ((bI_ne _).mp c_45)))
      refine g_iconst (v := nI 1) C dX7_duct_56 (by decide +kernel) ?_
      refine g_goto (tgt := 83) C dX7_duct_57 (by decide) ?_
      refine g_topi (y := nI (cdDuct nj (pD H) a b ln wd)) (by rw [hcd]) ?_
      refine g_put (σ' := uN σ 5 (nI (cdDuct nj (pD H) a b ln wd))) (ty := .int) C dX7_duct_83 wl27 rfl 0 (by decide) 4 rfl rfl inX7_duct_X7 tyX7_ok nmX7 rfl (by decide +kernel) rfl rfl (Nat.le_of_ble_eq_true rfl) wsN5 ?_
      refine g_aload_n C dX7_duct_86 1 rfl rfl ?_
      refine g_get C dX7_duct_87 wl27 rfl 0 (by decide) 4 rfl rfl rfl inX7_duct_X7 ?_
      refine g_topi (y := nI (cdDuct nj (pD H) a b ln wd)) rfl ?_
      refine g_if_le (tgt := 95) C dX7_duct_90 (by decide) (fun c_90 => ?_) (fun c_90 => ?_)
      · have hc0 : cdDuct nj (pD H) a b ln wd = 0 := nI_le0 (by omega) c_90
        refine g_aload_n C dX7_duct_95 1 rfl rfl ?_
        refine g_get C dX7_duct_96 wl27 rfl 3 (by decide) 5 rfl rfl rfl inX7_duct_X7 ?_
        refine g_aload_n C dX7_duct_99 1 rfl rfl ?_
        refine g_get C dX7_duct_100 wl27 rfl 2 (by decide) 3 rfl rfl rfl inX7_duct_X7 ?_
        refine g_topi (y := nI (pD H)) hM.nd ?_
        refine g_iload_n C dX7_duct_103 2 rfl rfl ?_
        refine g_iast (j := (pD H)) (σ' := uI (uN σ 5 (nI (cdDuct nj (pD H) a b ln wd))) 28 (upd (sI (uN σ 5 (nI (cdDuct nj (pD H) a b ln wd))) 28) (pD H) a)) C dX7_duct_104 wl28 rfl (by have := (cdDuct_0 hc0).2.2; omega) (by decide) wsA28 ?_
        refine g_aload_n C dX7_duct_105 1 rfl rfl ?_
        refine g_get C dX7_duct_106 wl27 rfl 4 (by decide) 6 rfl rfl rfl inX7_duct_X7 ?_
        refine g_aload_n C dX7_duct_109 1 rfl rfl ?_
        refine g_get C dX7_duct_110 wl27 rfl 2 (by decide) 3 rfl rfl rfl inX7_duct_X7 ?_
        refine g_topi (y := nI (pD H)) hM.nd ?_
        refine g_iload_n C dX7_duct_113 3 rfl rfl ?_
        refine g_iast (j := (pD H)) (σ' := uI (uI (uN σ 5 (nI (cdDuct nj (pD H) a b ln wd))) 28 (upd (sI (uN σ 5 (nI (cdDuct nj (pD H) a b ln wd))) 28) (pD H) a)) 29 (upd (sI (uI (uN σ 5 (nI (cdDuct nj (pD H) a b ln wd))) 28 (upd (sI (uN σ 5 (nI (cdDuct nj (pD H) a b ln wd))) 28) (pD H) a)) 29) (pD H) b)) C dX7_duct_114 wl29 rfl (by have := (cdDuct_0 hc0).2.2; omega) (by decide) wsA29 ?_
        refine g_aload_n C dX7_duct_115 1 rfl rfl ?_
        refine g_get C dX7_duct_116 wl27 rfl 5 (by decide) 7 rfl rfl rfl inX7_duct_X7 ?_
        refine g_aload_n C dX7_duct_119 1 rfl rfl ?_
        refine g_get C dX7_duct_120 wl27 rfl 2 (by decide) 3 rfl rfl rfl inX7_duct_X7 ?_
        refine g_topi (y := nI (pD H)) hM.nd ?_
        refine g_dload_n C dX7_duct_123 4 rfl rfl ?_
        refine g_dast (j := (pD H)) (σ' := uF (uI (uI (uN σ 5 (nI (cdDuct nj (pD H) a b ln wd))) 28 (upd (sI (uN σ 5 (nI (cdDuct nj (pD H) a b ln wd))) 28) (pD H) a)) 29 (upd (sI (uI (uN σ 5 (nI (cdDuct nj (pD H) a b ln wd))) 28 (upd (sI (uN σ 5 (nI (cdDuct nj (pD H) a b ln wd))) 28) (pD H) a)) 29) (pD H) b)) 30 (vf_upd (sF (uI (uI (uN σ 5 (nI (cdDuct nj (pD H) a b ln wd))) 28 (upd (sI (uN σ 5 (nI (cdDuct nj (pD H) a b ln wd))) 28) (pD H) a)) 29 (upd (sI (uI (uN σ 5 (nI (cdDuct nj (pD H) a b ln wd))) 28 (upd (sI (uN σ 5 (nI (cdDuct nj (pD H) a b ln wd))) 28) (pD H) a)) 29) (pD H) b)) 30) (pD H) ln)) C dX7_duct_124 wl30 rfl (by have := (cdDuct_0 hc0).2.2; omega) (by decide) wsA30 ?_
        refine g_aload_n C dX7_duct_125 1 rfl rfl ?_
        refine g_get C dX7_duct_126 wl27 rfl 6 (by decide) 8 rfl rfl rfl inX7_duct_X7 ?_
        refine g_aload_n C dX7_duct_129 1 rfl rfl ?_
        refine g_get C dX7_duct_130 wl27 rfl 2 (by decide) 3 rfl rfl rfl inX7_duct_X7 ?_
        refine g_topi (y := nI (pD H)) hM.nd ?_
        refine g_dload C dX7_duct_133 5 rfl ?_
        refine g_dast (j := (pD H)) (σ' := uF (uF (uI (uI (uN σ 5 (nI (cdDuct nj (pD H) a b ln wd))) 28 (upd (sI (uN σ 5 (nI (cdDuct nj (pD H) a b ln wd))) 28) (pD H) a)) 29 (upd (sI (uI (uN σ 5 (nI (cdDuct nj (pD H) a b ln wd))) 28 (upd (sI (uN σ 5 (nI (cdDuct nj (pD H) a b ln wd))) 28) (pD H) a)) 29) (pD H) b)) 30 (vf_upd (sF (uI (uI (uN σ 5 (nI (cdDuct nj (pD H) a b ln wd))) 28 (upd (sI (uN σ 5 (nI (cdDuct nj (pD H) a b ln wd))) 28) (pD H) a)) 29 (upd (sI (uI (uN σ 5 (nI (cdDuct nj (pD H) a b ln wd))) 28 (upd (sI (uN σ 5 (nI (cdDuct nj (pD H) a b ln wd))) 28) (pD H) a)) 29) (pD H) b)) 30) (pD H) ln)) 31 (vf_upd (sF (uF (uI (uI (uN σ 5 (nI (cdDuct nj (pD H) a b ln wd))) 28 (upd (sI (uN σ 5 (nI (cdDuct nj (pD H) a b ln wd))) 28) (pD H) a)) 29 (upd (sI (uI (uN σ 5 (nI (cdDuct nj (pD H) a b ln wd))) 28 (upd (sI (uN σ 5 (nI (cdDuct nj (pD H) a b ln wd))) 28) (pD H) a)) 29) (pD H) b)) 30 (vf_upd (sF (uI (uI (uN σ 5 (nI (cdDuct nj (pD H) a b ln wd))) 28 (upd (sI (uN σ 5 (nI (cdDuct nj (pD H) a b ln wd))) 28) (pD H) a)) 29 (upd (sI (uI (uN σ 5 (nI (cdDuct nj (pD H) a b ln wd))) 28 (upd (sI (uN σ 5 (nI (cdDuct nj (pD H) a b ln wd))) 28) (pD H) a)) 29) (pD H) b)) 30) (pD H) ln)) 31) (pD H) wd)) C dX7_duct_135 wl31 rfl (by have := (cdDuct_0 hc0).2.2; omega) (by decide) wsA31 ?_
        refine g_aload_n C dX7_duct_136 1 rfl rfl ?_
        refine g_dup C dX7_duct_137 rfl ?_
        refine g_get C dX7_duct_138 wl27 rfl 2 (by decide) 3 rfl rfl rfl inX7_duct_X7 ?_
        refine g_topi (y := nI (pD H)) hM.nd ?_
        refine g_iconst (v := nI 1) C dX7_duct_141 (by decide +kernel) ?_
        refine g_iadd C dX7_duct_142 ?_
        refine g_topi (y := nI (pD H + 1)) (nI_add _ 1) ?_
        refine g_put (σ' := uN (uF (uF (uI (uI (uN σ 5 (nI (cdDuct nj (pD H) a b ln wd))) 28 (upd (sI (uN σ 5 (nI (cdDuct nj (pD H) a b ln wd))) 28) (pD H) a)) 29 (upd (sI (uI (uN σ 5 (nI (cdDuct nj (pD H) a b ln wd))) 28 (upd (sI (uN σ 5 (nI (cdDuct nj (pD H) a b ln wd))) 28) (pD H) a)) 29) (pD H) b)) 30 (vf_upd (sF (uI (uI (uN σ 5 (nI (cdDuct nj (pD H) a b ln wd))) 28 (upd (sI (uN σ 5 (nI (cdDuct nj (pD H) a b ln wd))) 28) (pD H) a)) 29 (upd (sI (uI (uN σ 5 (nI (cdDuct nj (pD H) a b ln wd))) 28 (upd (sI (uN σ 5 (nI (cdDuct nj (pD H) a b ln wd))) 28) (pD H) a)) 29) (pD H) b)) 30) (pD H) ln)) 31 (vf_upd (sF (uF (uI (uI (uN σ 5 (nI (cdDuct nj (pD H) a b ln wd))) 28 (upd (sI (uN σ 5 (nI (cdDuct nj (pD H) a b ln wd))) 28) (pD H) a)) 29 (upd (sI (uI (uN σ 5 (nI (cdDuct nj (pD H) a b ln wd))) 28 (upd (sI (uN σ 5 (nI (cdDuct nj (pD H) a b ln wd))) 28) (pD H) a)) 29) (pD H) b)) 30 (vf_upd (sF (uI (uI (uN σ 5 (nI (cdDuct nj (pD H) a b ln wd))) 28 (upd (sI (uN σ 5 (nI (cdDuct nj (pD H) a b ln wd))) 28) (pD H) a)) 29 (upd (sI (uI (uN σ 5 (nI (cdDuct nj (pD H) a b ln wd))) 28 (upd (sI (uN σ 5 (nI (cdDuct nj (pD H) a b ln wd))) 28) (pD H) a)) 29) (pD H) b)) 30) (pD H) ln)) 31) (pD H) wd)) 7 (nI (pD H + 1))) (ty := .int) C dX7_duct_143 wl27 rfl 2 (by decide) 3 rfl rfl inX7_duct_X7 tyX7_ok nmX7 rfl (by decide +kernel) rfl rfl (Nat.le_of_ble_eq_true rfl) wsN7 ?_
        refine g_aload_n C dX7_duct_146 1 rfl rfl ?_
        refine g_iconst (v := nI 0) C dX7_duct_147 (by decide +kernel) ?_
        refine g_put (σ' := uN (uN (uF (uF (uI (uI (uN σ 5 (nI (cdDuct nj (pD H) a b ln wd))) 28 (upd (sI (uN σ 5 (nI (cdDuct nj (pD H) a b ln wd))) 28) (pD H) a)) 29 (upd (sI (uI (uN σ 5 (nI (cdDuct nj (pD H) a b ln wd))) 28 (upd (sI (uN σ 5 (nI (cdDuct nj (pD H) a b ln wd))) 28) (pD H) a)) 29) (pD H) b)) 30 (vf_upd (sF (uI (uI (uN σ 5 (nI (cdDuct nj (pD H) a b ln wd))) 28 (upd (sI (uN σ 5 (nI (cdDuct nj (pD H) a b ln wd))) 28) (pD H) a)) 29 (upd (sI (uI (uN σ 5 (nI (cdDuct nj (pD H) a b ln wd))) 28 (upd (sI (uN σ 5 (nI (cdDuct nj (pD H) a b ln wd))) 28) (pD H) a)) 29) (pD H) b)) 30) (pD H) ln)) 31 (vf_upd (sF (uF (uI (uI (uN σ 5 (nI (cdDuct nj (pD H) a b ln wd))) 28 (upd (sI (uN σ 5 (nI (cdDuct nj (pD H) a b ln wd))) 28) (pD H) a)) 29 (upd (sI (uI (uN σ 5 (nI (cdDuct nj (pD H) a b ln wd))) 28 (upd (sI (uN σ 5 (nI (cdDuct nj (pD H) a b ln wd))) 28) (pD H) a)) 29) (pD H) b)) 30 (vf_upd (sF (uI (uI (uN σ 5 (nI (cdDuct nj (pD H) a b ln wd))) 28 (upd (sI (uN σ 5 (nI (cdDuct nj (pD H) a b ln wd))) 28) (pD H) a)) 29 (upd (sI (uI (uN σ 5 (nI (cdDuct nj (pD H) a b ln wd))) 28 (upd (sI (uN σ 5 (nI (cdDuct nj (pD H) a b ln wd))) 28) (pD H) a)) 29) (pD H) b)) 30) (pD H) ln)) 31) (pD H) wd)) 7 (nI (pD H + 1))) 9 (nI 0)) (ty := .boolean) C dX7_duct_148 wl27 rfl 20 (by decide) 9 rfl rfl inX7_duct_X7 tyX7_ok nmX7 rfl (by decide +kernel) rfl rfl (Nat.le_of_ble_eq_true rfl) wsN9 ?_
        refine g_aload_n C dX7_duct_151 1 rfl rfl ?_
        refine g_get C dX7_duct_152 wl27 rfl 2 (by decide) 3 rfl rfl rfl inX7_duct_X7 ?_
        refine g_topi (y := nI (pD H + 1)) rfl ?_
        refine g_iconst (v := nI 1) C dX7_duct_155 (by decide +kernel) ?_
        refine g_isub C dX7_duct_156 ?_
        refine g_topi (y := nI (pD H)) (nI_pred _) ?_
        refine g_iret C dX7_duct_157 rfl ⟨Nat.le_of_ble_eq_true rfl, Nat.le_of_ble_eq_true rfl⟩ ?_
        rw [hF]
        exact ⟨fun h => absurd hc0 h, fun _ => ⟨rfl, by rw [hc0]; try rfl⟩⟩
      · have hc1 : cdDuct nj (pD H) a b ln wd ≠ 0 := fun h => c_90 (by rw [h]; decide)
        refine g_iconst (v := nI 0) C dX7_duct_93 (by decide +kernel) ?_
        refine g_iret C dX7_duct_94 rfl ⟨Nat.le_of_ble_eq_true rfl, Nat.le_of_ble_eq_true rfl⟩ ?_
        rw [hF]
        exact ⟨fun _ => ⟨rfl, rfl⟩, fun h => absurd h hc1⟩
    · refine g_aload_n C dX7_duct_48 1 rfl rfl ?_
      refine g_iload_n C dX7_duct_49 3 rfl rfl ?_
      refine g_callV (As := [.int b]) (rest := [.ref ((xK X).2.2 27)]) C dX7_duct_50 (kX7_isJoint (xl X) (xK X) C.hD σ hM.j.1 hM.j.2.2 b) wl27 rfl 1 gX7_duct_X7_isJoint rfl (by decide +kernel) ⟨Nat.le_of_ble_eq_true rfl, Nat.le_of_ble_eq_true rfl⟩ ⟨Nat.le_of_ble_eq_true rfl, Nat.le_of_ble_eq_true rfl⟩ rfl rfl (Nat.le_of_ble_eq_true rfl) (fun rv9 σ9 h9 => ?_)
      obtain ⟨h9a, h9b⟩ := h9
      refine g_eq (σ2 := σ) (lv2 := [(7, .int (bI (gdB a b ln wd))), (0, .ref ((xK X).2.2 27)), (1, .int a), (2, .int b), (3, .double ln), (5, .double wd)]) (st2 := [.int (bI (decide (inR b nj))), .ref ((xK X).2.2 27)]) h9b rfl (by rw [h9a]; rfl) ?_
      refine g_if_ne (tgt := 60) C dX7_duct_53 (by decide) (fun c_53 => ?_) (fun c_53 => ?_)
      · refine g_iload C dX7_duct_60 0 rfl ?_
        refine g_if_ne (tgt := 69) C dX7_duct_62 (by decide) (fun c_62 => ?_) (fun c_62 => ?_)
        · have hgd := gd_iff.mp (bIt c_62)
          refine g_aload_n C dX7_duct_69 1 rfl rfl ?_
          refine g_get C dX7_duct_70 wl27 rfl 2 (by decide) 3 rfl rfl rfl inX7_duct_X7 ?_
          refine g_topi (y := nI (pD H)) hM.nd ?_
          refine g_bipush (v := nI 16) C dX7_duct_73 (by decide +kernel) ?_
          refine g_icmp_ne (tgt := 82) C dX7_duct_75 (by decide) (fun c_75 => ?_) (fun c_75 => ?_)
          · have hcd : cdDuct nj (pD H) a b ln wd = 0 := (if_neg (fun h => h ⟨of_decide_eq_true (bIt c_45), of_decide_eq_true (bIt c_53)⟩)).trans ((if_neg (fun h => h hgd)).trans (if_neg (fun h => h (by
              have : pD H ≠ 16 := fun h => c_75 (by rw [h])
              omega))))
            refine g_iconst (v := nI 0) C dX7_duct_82 (by decide +kernel) ?_
            refine g_topi (y := nI (cdDuct nj (pD H) a b ln wd)) (by rw [hcd]) ?_
            refine g_put (σ' := uN σ 5 (nI (cdDuct nj (pD H) a b ln wd))) (ty := .int) C dX7_duct_83 wl27 rfl 0 (by decide) 4 rfl rfl inX7_duct_X7 tyX7_ok nmX7 rfl (by decide +kernel) rfl rfl (Nat.le_of_ble_eq_true rfl) wsN5 ?_
            refine g_aload_n C dX7_duct_86 1 rfl rfl ?_
            refine g_get C dX7_duct_87 wl27 rfl 0 (by decide) 4 rfl rfl rfl inX7_duct_X7 ?_
            refine g_topi (y := nI (cdDuct nj (pD H) a b ln wd)) rfl ?_
            refine g_if_le (tgt := 95) C dX7_duct_90 (by decide) (fun c_90 => ?_) (fun c_90 => ?_)
            · have hc0 : cdDuct nj (pD H) a b ln wd = 0 := nI_le0 (by omega) c_90
              refine g_aload_n C dX7_duct_95 1 rfl rfl ?_
              refine g_get C dX7_duct_96 wl27 rfl 3 (by decide) 5 rfl rfl rfl inX7_duct_X7 ?_
              refine g_aload_n C dX7_duct_99 1 rfl rfl ?_
              refine g_get C dX7_duct_100 wl27 rfl 2 (by decide) 3 rfl rfl rfl inX7_duct_X7 ?_
              refine g_topi (y := nI (pD H)) hM.nd ?_
              refine g_iload_n C dX7_duct_103 2 rfl rfl ?_
              refine g_iast (j := (pD H)) (σ' := uI (uN σ 5 (nI (cdDuct nj (pD H) a b ln wd))) 28 (upd (sI (uN σ 5 (nI (cdDuct nj (pD H) a b ln wd))) 28) (pD H) a)) C dX7_duct_104 wl28 rfl (by have := (cdDuct_0 hc0).2.2; omega) (by decide) wsA28 ?_
              refine g_aload_n C dX7_duct_105 1 rfl rfl ?_
              refine g_get C dX7_duct_106 wl27 rfl 4 (by decide) 6 rfl rfl rfl inX7_duct_X7 ?_
              refine g_aload_n C dX7_duct_109 1 rfl rfl ?_
              refine g_get C dX7_duct_110 wl27 rfl 2 (by decide) 3 rfl rfl rfl inX7_duct_X7 ?_
              refine g_topi (y := nI (pD H)) hM.nd ?_
              refine g_iload_n C dX7_duct_113 3 rfl rfl ?_
              refine g_iast (j := (pD H)) (σ' := uI (uI (uN σ 5 (nI (cdDuct nj (pD H) a b ln wd))) 28 (upd (sI (uN σ 5 (nI (cdDuct nj (pD H) a b ln wd))) 28) (pD H) a)) 29 (upd (sI (uI (uN σ 5 (nI (cdDuct nj (pD H) a b ln wd))) 28 (upd (sI (uN σ 5 (nI (cdDuct nj (pD H) a b ln wd))) 28) (pD H) a)) 29) (pD H) b)) C dX7_duct_114 wl29 rfl (by have := (cdDuct_0 hc0).2.2; omega) (by decide) wsA29 ?_
              refine g_aload_n C dX7_duct_115 1 rfl rfl ?_
              refine g_get C dX7_duct_116 wl27 rfl 5 (by decide) 7 rfl rfl rfl inX7_duct_X7 ?_
              refine g_aload_n C dX7_duct_119 1 rfl rfl ?_
              refine g_get C dX7_duct_120 wl27 rfl 2 (by decide) 3 rfl rfl rfl inX7_duct_X7 ?_
              refine g_topi (y := nI (pD H)) hM.nd ?_
              refine g_dload_n C dX7_duct_123 4 rfl rfl ?_
              refine g_dast (j := (pD H)) (σ' := uF (uI (uI (uN σ 5 (nI (cdDuct nj (pD H) a b ln wd))) 28 (upd (sI (uN σ 5 (nI (cdDuct nj (pD H) a b ln wd))) 28) (pD H) a)) 29 (upd (sI (uI (uN σ 5 (nI (cdDuct nj (pD H) a b ln wd))) 28 (upd (sI (uN σ 5 (nI (cdDuct nj (pD H) a b ln wd))) 28) (pD H) a)) 29) (pD H) b)) 30 (vf_upd (sF (uI (uI (uN σ 5 (nI (cdDuct nj (pD H) a b ln wd))) 28 (upd (sI (uN σ 5 (nI (cdDuct nj (pD H) a b ln wd))) 28) (pD H) a)) 29 (upd (sI (uI (uN σ 5 (nI (cdDuct nj (pD H) a b ln wd))) 28 (upd (sI (uN σ 5 (nI (cdDuct nj (pD H) a b ln wd))) 28) (pD H) a)) 29) (pD H) b)) 30) (pD H) ln)) C dX7_duct_124 wl30 rfl (by have := (cdDuct_0 hc0).2.2; omega) (by decide) wsA30 ?_
              refine g_aload_n C dX7_duct_125 1 rfl rfl ?_
              refine g_get C dX7_duct_126 wl27 rfl 6 (by decide) 8 rfl rfl rfl inX7_duct_X7 ?_
              refine g_aload_n C dX7_duct_129 1 rfl rfl ?_
              refine g_get C dX7_duct_130 wl27 rfl 2 (by decide) 3 rfl rfl rfl inX7_duct_X7 ?_
              refine g_topi (y := nI (pD H)) hM.nd ?_
              refine g_dload C dX7_duct_133 5 rfl ?_
              refine g_dast (j := (pD H)) (σ' := uF (uF (uI (uI (uN σ 5 (nI (cdDuct nj (pD H) a b ln wd))) 28 (upd (sI (uN σ 5 (nI (cdDuct nj (pD H) a b ln wd))) 28) (pD H) a)) 29 (upd (sI (uI (uN σ 5 (nI (cdDuct nj (pD H) a b ln wd))) 28 (upd (sI (uN σ 5 (nI (cdDuct nj (pD H) a b ln wd))) 28) (pD H) a)) 29) (pD H) b)) 30 (vf_upd (sF (uI (uI (uN σ 5 (nI (cdDuct nj (pD H) a b ln wd))) 28 (upd (sI (uN σ 5 (nI (cdDuct nj (pD H) a b ln wd))) 28) (pD H) a)) 29 (upd (sI (uI (uN σ 5 (nI (cdDuct nj (pD H) a b ln wd))) 28 (upd (sI (uN σ 5 (nI (cdDuct nj (pD H) a b ln wd))) 28) (pD H) a)) 29) (pD H) b)) 30) (pD H) ln)) 31 (vf_upd (sF (uF (uI (uI (uN σ 5 (nI (cdDuct nj (pD H) a b ln wd))) 28 (upd (sI (uN σ 5 (nI (cdDuct nj (pD H) a b ln wd))) 28) (pD H) a)) 29 (upd (sI (uI (uN σ 5 (nI (cdDuct nj (pD H) a b ln wd))) 28 (upd (sI (uN σ 5 (nI (cdDuct nj (pD H) a b ln wd))) 28) (pD H) a)) 29) (pD H) b)) 30 (vf_upd (sF (uI (uI (uN σ 5 (nI (cdDuct nj (pD H) a b ln wd))) 28 (upd (sI (uN σ 5 (nI (cdDuct nj (pD H) a b ln wd))) 28) (pD H) a)) 29 (upd (sI (uI (uN σ 5 (nI (cdDuct nj (pD H) a b ln wd))) 28 (upd (sI (uN σ 5 (nI (cdDuct nj (pD H) a b ln wd))) 28) (pD H) a)) 29) (pD H) b)) 30) (pD H) ln)) 31) (pD H) wd)) C dX7_duct_135 wl31 rfl (by have := (cdDuct_0 hc0).2.2; omega) (by decide) wsA31 ?_
              refine g_aload_n C dX7_duct_136 1 rfl rfl ?_
              refine g_dup C dX7_duct_137 rfl ?_
              refine g_get C dX7_duct_138 wl27 rfl 2 (by decide) 3 rfl rfl rfl inX7_duct_X7 ?_
              refine g_topi (y := nI (pD H)) hM.nd ?_
              refine g_iconst (v := nI 1) C dX7_duct_141 (by decide +kernel) ?_
              refine g_iadd C dX7_duct_142 ?_
              refine g_topi (y := nI (pD H + 1)) (nI_add _ 1) ?_
              refine g_put (σ' := uN (uF (uF (uI (uI (uN σ 5 (nI (cdDuct nj (pD H) a b ln wd))) 28 (upd (sI (uN σ 5 (nI (cdDuct nj (pD H) a b ln wd))) 28) (pD H) a)) 29 (upd (sI (uI (uN σ 5 (nI (cdDuct nj (pD H) a b ln wd))) 28 (upd (sI (uN σ 5 (nI (cdDuct nj (pD H) a b ln wd))) 28) (pD H) a)) 29) (pD H) b)) 30 (vf_upd (sF (uI (uI (uN σ 5 (nI (cdDuct nj (pD H) a b ln wd))) 28 (upd (sI (uN σ 5 (nI (cdDuct nj (pD H) a b ln wd))) 28) (pD H) a)) 29 (upd (sI (uI (uN σ 5 (nI (cdDuct nj (pD H) a b ln wd))) 28 (upd (sI (uN σ 5 (nI (cdDuct nj (pD H) a b ln wd))) 28) (pD H) a)) 29) (pD H) b)) 30) (pD H) ln)) 31 (vf_upd (sF (uF (uI (uI (uN σ 5 (nI (cdDuct nj (pD H) a b ln wd))) 28 (upd (sI (uN σ 5 (nI (cdDuct nj (pD H) a b ln wd))) 28) (pD H) a)) 29 (upd (sI (uI (uN σ 5 (nI (cdDuct nj (pD H) a b ln wd))) 28 (upd (sI (uN σ 5 (nI (cdDuct nj (pD H) a b ln wd))) 28) (pD H) a)) 29) (pD H) b)) 30 (vf_upd (sF (uI (uI (uN σ 5 (nI (cdDuct nj (pD H) a b ln wd))) 28 (upd (sI (uN σ 5 (nI (cdDuct nj (pD H) a b ln wd))) 28) (pD H) a)) 29 (upd (sI (uI (uN σ 5 (nI (cdDuct nj (pD H) a b ln wd))) 28 (upd (sI (uN σ 5 (nI (cdDuct nj (pD H) a b ln wd))) 28) (pD H) a)) 29) (pD H) b)) 30) (pD H) ln)) 31) (pD H) wd)) 7 (nI (pD H + 1))) (ty := .int) C dX7_duct_143 wl27 rfl 2 (by decide) 3 rfl rfl inX7_duct_X7 tyX7_ok nmX7 rfl (by decide +kernel) rfl rfl (Nat.le_of_ble_eq_true rfl) wsN7 ?_
              refine g_aload_n C dX7_duct_146 1 rfl rfl ?_
              refine g_iconst (v := nI 0) C dX7_duct_147 (by decide +kernel) ?_
              refine g_put (σ' := uN (uN (uF (uF (uI (uI (uN σ 5 (nI (cdDuct nj (pD H) a b ln wd))) 28 (upd (sI (uN σ 5 (nI (cdDuct nj (pD H) a b ln wd))) 28) (pD H) a)) 29 (upd (sI (uI (uN σ 5 (nI (cdDuct nj (pD H) a b ln wd))) 28 (upd (sI (uN σ 5 (nI (cdDuct nj (pD H) a b ln wd))) 28) (pD H) a)) 29) (pD H) b)) 30 (vf_upd (sF (uI (uI (uN σ 5 (nI (cdDuct nj (pD H) a b ln wd))) 28 (upd (sI (uN σ 5 (nI (cdDuct nj (pD H) a b ln wd))) 28) (pD H) a)) 29 (upd (sI (uI (uN σ 5 (nI (cdDuct nj (pD H) a b ln wd))) 28 (upd (sI (uN σ 5 (nI (cdDuct nj (pD H) a b ln wd))) 28) (pD H) a)) 29) (pD H) b)) 30) (pD H) ln)) 31 (vf_upd (sF (uF (uI (uI (uN σ 5 (nI (cdDuct nj (pD H) a b ln wd))) 28 (upd (sI (uN σ 5 (nI (cdDuct nj (pD H) a b ln wd))) 28) (pD H) a)) 29 (upd (sI (uI (uN σ 5 (nI (cdDuct nj (pD H) a b ln wd))) 28 (upd (sI (uN σ 5 (nI (cdDuct nj (pD H) a b ln wd))) 28) (pD H) a)) 29) (pD H) b)) 30 (vf_upd (sF (uI (uI (uN σ 5 (nI (cdDuct nj (pD H) a b ln wd))) 28 (upd (sI (uN σ 5 (nI (cdDuct nj (pD H) a b ln wd))) 28) (pD H) a)) 29 (upd (sI (uI (uN σ 5 (nI (cdDuct nj (pD H) a b ln wd))) 28 (upd (sI (uN σ 5 (nI (cdDuct nj (pD H) a b ln wd))) 28) (pD H) a)) 29) (pD H) b)) 30) (pD H) ln)) 31) (pD H) wd)) 7 (nI (pD H + 1))) 9 (nI 0)) (ty := .boolean) C dX7_duct_148 wl27 rfl 20 (by decide) 9 rfl rfl inX7_duct_X7 tyX7_ok nmX7 rfl (by decide +kernel) rfl rfl (Nat.le_of_ble_eq_true rfl) wsN9 ?_
              refine g_aload_n C dX7_duct_151 1 rfl rfl ?_
              refine g_get C dX7_duct_152 wl27 rfl 2 (by decide) 3 rfl rfl rfl inX7_duct_X7 ?_
              refine g_topi (y := nI (pD H + 1)) rfl ?_
              refine g_iconst (v := nI 1) C dX7_duct_155 (by decide +kernel) ?_
              refine g_isub C dX7_duct_156 ?_
              refine g_topi (y := nI (pD H)) (nI_pred _) ?_
              refine g_iret C dX7_duct_157 rfl ⟨Nat.le_of_ble_eq_true rfl, Nat.le_of_ble_eq_true rfl⟩ ?_
              rw [hF]
              exact ⟨fun h => absurd hc0 h, fun _ => ⟨rfl, by rw [hc0]; try rfl⟩⟩
            · have hc1 : cdDuct nj (pD H) a b ln wd ≠ 0 := fun h => c_90 (by rw [h]; decide)
              refine g_iconst (v := nI 0) C dX7_duct_93 (by decide +kernel) ?_
              refine g_iret C dX7_duct_94 rfl ⟨Nat.le_of_ble_eq_true rfl, Nat.le_of_ble_eq_true rfl⟩ ?_
              rw [hF]
              exact ⟨fun _ => ⟨rfl, rfl⟩, fun h => absurd h hc1⟩
          · have hcd : cdDuct nj (pD H) a b ln wd = 3 := (if_neg (fun h => h ⟨of_decide_eq_true (bIt c_45), of_decide_eq_true (bIt c_53)⟩)).trans ((if_neg (fun h => h hgd)).trans (if_pos (by
              have := (nI_eq (a := pD H) (b := 16) (by omega) (by decide)).mp (Decidable.byContradiction fun h => absurd c_75 h)
              omega)))
            refine g_iconst (v := nI 3) C dX7_duct_78 (by decide +kernel) ?_
            refine g_goto (tgt := 83) C dX7_duct_79 (by decide) ?_
            refine g_topi (y := nI (cdDuct nj (pD H) a b ln wd)) (by rw [hcd]) ?_
            refine g_put (σ' := uN σ 5 (nI (cdDuct nj (pD H) a b ln wd))) (ty := .int) C dX7_duct_83 wl27 rfl 0 (by decide) 4 rfl rfl inX7_duct_X7 tyX7_ok nmX7 rfl (by decide +kernel) rfl rfl (Nat.le_of_ble_eq_true rfl) wsN5 ?_
            refine g_aload_n C dX7_duct_86 1 rfl rfl ?_
            refine g_get C dX7_duct_87 wl27 rfl 0 (by decide) 4 rfl rfl rfl inX7_duct_X7 ?_
            refine g_topi (y := nI (cdDuct nj (pD H) a b ln wd)) rfl ?_
            refine g_if_le (tgt := 95) C dX7_duct_90 (by decide) (fun c_90 => ?_) (fun c_90 => ?_)
            · have hc0 : cdDuct nj (pD H) a b ln wd = 0 := nI_le0 (by omega) c_90
              refine g_aload_n C dX7_duct_95 1 rfl rfl ?_
              refine g_get C dX7_duct_96 wl27 rfl 3 (by decide) 5 rfl rfl rfl inX7_duct_X7 ?_
              refine g_aload_n C dX7_duct_99 1 rfl rfl ?_
              refine g_get C dX7_duct_100 wl27 rfl 2 (by decide) 3 rfl rfl rfl inX7_duct_X7 ?_
              refine g_topi (y := nI (pD H)) hM.nd ?_
              refine g_iload_n C dX7_duct_103 2 rfl rfl ?_
              refine g_iast (j := (pD H)) (σ' := uI (uN σ 5 (nI (cdDuct nj (pD H) a b ln wd))) 28 (upd (sI (uN σ 5 (nI (cdDuct nj (pD H) a b ln wd))) 28) (pD H) a)) C dX7_duct_104 wl28 rfl (by have := (cdDuct_0 hc0).2.2; omega) (by decide) wsA28 ?_
              refine g_aload_n C dX7_duct_105 1 rfl rfl ?_
              refine g_get C dX7_duct_106 wl27 rfl 4 (by decide) 6 rfl rfl rfl inX7_duct_X7 ?_
              refine g_aload_n C dX7_duct_109 1 rfl rfl ?_
              refine g_get C dX7_duct_110 wl27 rfl 2 (by decide) 3 rfl rfl rfl inX7_duct_X7 ?_
              refine g_topi (y := nI (pD H)) hM.nd ?_
              refine g_iload_n C dX7_duct_113 3 rfl rfl ?_
              refine g_iast (j := (pD H)) (σ' := uI (uI (uN σ 5 (nI (cdDuct nj (pD H) a b ln wd))) 28 (upd (sI (uN σ 5 (nI (cdDuct nj (pD H) a b ln wd))) 28) (pD H) a)) 29 (upd (sI (uI (uN σ 5 (nI (cdDuct nj (pD H) a b ln wd))) 28 (upd (sI (uN σ 5 (nI (cdDuct nj (pD H) a b ln wd))) 28) (pD H) a)) 29) (pD H) b)) C dX7_duct_114 wl29 rfl (by have := (cdDuct_0 hc0).2.2; omega) (by decide) wsA29 ?_
              refine g_aload_n C dX7_duct_115 1 rfl rfl ?_
              refine g_get C dX7_duct_116 wl27 rfl 5 (by decide) 7 rfl rfl rfl inX7_duct_X7 ?_
              refine g_aload_n C dX7_duct_119 1 rfl rfl ?_
              refine g_get C dX7_duct_120 wl27 rfl 2 (by decide) 3 rfl rfl rfl inX7_duct_X7 ?_
              refine g_topi (y := nI (pD H)) hM.nd ?_
              refine g_dload_n C dX7_duct_123 4 rfl rfl ?_
              refine g_dast (j := (pD H)) (σ' := uF (uI (uI (uN σ 5 (nI (cdDuct nj (pD H) a b ln wd))) 28 (upd (sI (uN σ 5 (nI (cdDuct nj (pD H) a b ln wd))) 28) (pD H) a)) 29 (upd (sI (uI (uN σ 5 (nI (cdDuct nj (pD H) a b ln wd))) 28 (upd (sI (uN σ 5 (nI (cdDuct nj (pD H) a b ln wd))) 28) (pD H) a)) 29) (pD H) b)) 30 (vf_upd (sF (uI (uI (uN σ 5 (nI (cdDuct nj (pD H) a b ln wd))) 28 (upd (sI (uN σ 5 (nI (cdDuct nj (pD H) a b ln wd))) 28) (pD H) a)) 29 (upd (sI (uI (uN σ 5 (nI (cdDuct nj (pD H) a b ln wd))) 28 (upd (sI (uN σ 5 (nI (cdDuct nj (pD H) a b ln wd))) 28) (pD H) a)) 29) (pD H) b)) 30) (pD H) ln)) C dX7_duct_124 wl30 rfl (by have := (cdDuct_0 hc0).2.2; omega) (by decide) wsA30 ?_
              refine g_aload_n C dX7_duct_125 1 rfl rfl ?_
              refine g_get C dX7_duct_126 wl27 rfl 6 (by decide) 8 rfl rfl rfl inX7_duct_X7 ?_
              refine g_aload_n C dX7_duct_129 1 rfl rfl ?_
              refine g_get C dX7_duct_130 wl27 rfl 2 (by decide) 3 rfl rfl rfl inX7_duct_X7 ?_
              refine g_topi (y := nI (pD H)) hM.nd ?_
              refine g_dload C dX7_duct_133 5 rfl ?_
              refine g_dast (j := (pD H)) (σ' := uF (uF (uI (uI (uN σ 5 (nI (cdDuct nj (pD H) a b ln wd))) 28 (upd (sI (uN σ 5 (nI (cdDuct nj (pD H) a b ln wd))) 28) (pD H) a)) 29 (upd (sI (uI (uN σ 5 (nI (cdDuct nj (pD H) a b ln wd))) 28 (upd (sI (uN σ 5 (nI (cdDuct nj (pD H) a b ln wd))) 28) (pD H) a)) 29) (pD H) b)) 30 (vf_upd (sF (uI (uI (uN σ 5 (nI (cdDuct nj (pD H) a b ln wd))) 28 (upd (sI (uN σ 5 (nI (cdDuct nj (pD H) a b ln wd))) 28) (pD H) a)) 29 (upd (sI (uI (uN σ 5 (nI (cdDuct nj (pD H) a b ln wd))) 28 (upd (sI (uN σ 5 (nI (cdDuct nj (pD H) a b ln wd))) 28) (pD H) a)) 29) (pD H) b)) 30) (pD H) ln)) 31 (vf_upd (sF (uF (uI (uI (uN σ 5 (nI (cdDuct nj (pD H) a b ln wd))) 28 (upd (sI (uN σ 5 (nI (cdDuct nj (pD H) a b ln wd))) 28) (pD H) a)) 29 (upd (sI (uI (uN σ 5 (nI (cdDuct nj (pD H) a b ln wd))) 28 (upd (sI (uN σ 5 (nI (cdDuct nj (pD H) a b ln wd))) 28) (pD H) a)) 29) (pD H) b)) 30 (vf_upd (sF (uI (uI (uN σ 5 (nI (cdDuct nj (pD H) a b ln wd))) 28 (upd (sI (uN σ 5 (nI (cdDuct nj (pD H) a b ln wd))) 28) (pD H) a)) 29 (upd (sI (uI (uN σ 5 (nI (cdDuct nj (pD H) a b ln wd))) 28 (upd (sI (uN σ 5 (nI (cdDuct nj (pD H) a b ln wd))) 28) (pD H) a)) 29) (pD H) b)) 30) (pD H) ln)) 31) (pD H) wd)) C dX7_duct_135 wl31 rfl (by have := (cdDuct_0 hc0).2.2; omega) (by decide) wsA31 ?_
              refine g_aload_n C dX7_duct_136 1 rfl rfl ?_
              refine g_dup C dX7_duct_137 rfl ?_
              refine g_get C dX7_duct_138 wl27 rfl 2 (by decide) 3 rfl rfl rfl inX7_duct_X7 ?_
              refine g_topi (y := nI (pD H)) hM.nd ?_
              refine g_iconst (v := nI 1) C dX7_duct_141 (by decide +kernel) ?_
              refine g_iadd C dX7_duct_142 ?_
              refine g_topi (y := nI (pD H + 1)) (nI_add _ 1) ?_
              refine g_put (σ' := uN (uF (uF (uI (uI (uN σ 5 (nI (cdDuct nj (pD H) a b ln wd))) 28 (upd (sI (uN σ 5 (nI (cdDuct nj (pD H) a b ln wd))) 28) (pD H) a)) 29 (upd (sI (uI (uN σ 5 (nI (cdDuct nj (pD H) a b ln wd))) 28 (upd (sI (uN σ 5 (nI (cdDuct nj (pD H) a b ln wd))) 28) (pD H) a)) 29) (pD H) b)) 30 (vf_upd (sF (uI (uI (uN σ 5 (nI (cdDuct nj (pD H) a b ln wd))) 28 (upd (sI (uN σ 5 (nI (cdDuct nj (pD H) a b ln wd))) 28) (pD H) a)) 29 (upd (sI (uI (uN σ 5 (nI (cdDuct nj (pD H) a b ln wd))) 28 (upd (sI (uN σ 5 (nI (cdDuct nj (pD H) a b ln wd))) 28) (pD H) a)) 29) (pD H) b)) 30) (pD H) ln)) 31 (vf_upd (sF (uF (uI (uI (uN σ 5 (nI (cdDuct nj (pD H) a b ln wd))) 28 (upd (sI (uN σ 5 (nI (cdDuct nj (pD H) a b ln wd))) 28) (pD H) a)) 29 (upd (sI (uI (uN σ 5 (nI (cdDuct nj (pD H) a b ln wd))) 28 (upd (sI (uN σ 5 (nI (cdDuct nj (pD H) a b ln wd))) 28) (pD H) a)) 29) (pD H) b)) 30 (vf_upd (sF (uI (uI (uN σ 5 (nI (cdDuct nj (pD H) a b ln wd))) 28 (upd (sI (uN σ 5 (nI (cdDuct nj (pD H) a b ln wd))) 28) (pD H) a)) 29 (upd (sI (uI (uN σ 5 (nI (cdDuct nj (pD H) a b ln wd))) 28 (upd (sI (uN σ 5 (nI (cdDuct nj (pD H) a b ln wd))) 28) (pD H) a)) 29) (pD H) b)) 30) (pD H) ln)) 31) (pD H) wd)) 7 (nI (pD H + 1))) (ty := .int) C dX7_duct_143 wl27 rfl 2 (by decide) 3 rfl rfl inX7_duct_X7 tyX7_ok nmX7 rfl (by decide +kernel) rfl rfl (Nat.le_of_ble_eq_true rfl) wsN7 ?_
              refine g_aload_n C dX7_duct_146 1 rfl rfl ?_
              refine g_iconst (v := nI 0) C dX7_duct_147 (by decide +kernel) ?_
              refine g_put (σ' := uN (uN (uF (uF (uI (uI (uN σ 5 (nI (cdDuct nj (pD H) a b ln wd))) 28 (upd (sI (uN σ 5 (nI (cdDuct nj (pD H) a b ln wd))) 28) (pD H) a)) 29 (upd (sI (uI (uN σ 5 (nI (cdDuct nj (pD H) a b ln wd))) 28 (upd (sI (uN σ 5 (nI (cdDuct nj (pD H) a b ln wd))) 28) (pD H) a)) 29) (pD H) b)) 30 (vf_upd (sF (uI (uI (uN σ 5 (nI (cdDuct nj (pD H) a b ln wd))) 28 (upd (sI (uN σ 5 (nI (cdDuct nj (pD H) a b ln wd))) 28) (pD H) a)) 29 (upd (sI (uI (uN σ 5 (nI (cdDuct nj (pD H) a b ln wd))) 28 (upd (sI (uN σ 5 (nI (cdDuct nj (pD H) a b ln wd))) 28) (pD H) a)) 29) (pD H) b)) 30) (pD H) ln)) 31 (vf_upd (sF (uF (uI (uI (uN σ 5 (nI (cdDuct nj (pD H) a b ln wd))) 28 (upd (sI (uN σ 5 (nI (cdDuct nj (pD H) a b ln wd))) 28) (pD H) a)) 29 (upd (sI (uI (uN σ 5 (nI (cdDuct nj (pD H) a b ln wd))) 28 (upd (sI (uN σ 5 (nI (cdDuct nj (pD H) a b ln wd))) 28) (pD H) a)) 29) (pD H) b)) 30 (vf_upd (sF (uI (uI (uN σ 5 (nI (cdDuct nj (pD H) a b ln wd))) 28 (upd (sI (uN σ 5 (nI (cdDuct nj (pD H) a b ln wd))) 28) (pD H) a)) 29 (upd (sI (uI (uN σ 5 (nI (cdDuct nj (pD H) a b ln wd))) 28 (upd (sI (uN σ 5 (nI (cdDuct nj (pD H) a b ln wd))) 28) (pD H) a)) 29) (pD H) b)) 30) (pD H) ln)) 31) (pD H) wd)) 7 (nI (pD H + 1))) 9 (nI 0)) (ty := .boolean) C dX7_duct_148 wl27 rfl 20 (by decide) 9 rfl rfl inX7_duct_X7 tyX7_ok nmX7 rfl (by decide +kernel) rfl rfl (Nat.le_of_ble_eq_true rfl) wsN9 ?_
              refine g_aload_n C dX7_duct_151 1 rfl rfl ?_
              refine g_get C dX7_duct_152 wl27 rfl 2 (by decide) 3 rfl rfl rfl inX7_duct_X7 ?_
              refine g_topi (y := nI (pD H + 1)) rfl ?_
              refine g_iconst (v := nI 1) C dX7_duct_155 (by decide +kernel) ?_
              refine g_isub C dX7_duct_156 ?_
              refine g_topi (y := nI (pD H)) (nI_pred _) ?_
              refine g_iret C dX7_duct_157 rfl ⟨Nat.le_of_ble_eq_true rfl, Nat.le_of_ble_eq_true rfl⟩ ?_
              rw [hF]
              exact ⟨fun h => absurd hc0 h, fun _ => ⟨rfl, by rw [hc0]; try rfl⟩⟩
            · have hc1 : cdDuct nj (pD H) a b ln wd ≠ 0 := fun h => c_90 (by rw [h]; decide)
              refine g_iconst (v := nI 0) C dX7_duct_93 (by decide +kernel) ?_
              refine g_iret C dX7_duct_94 rfl ⟨Nat.le_of_ble_eq_true rfl, Nat.le_of_ble_eq_true rfl⟩ ?_
              rw [hF]
              exact ⟨fun _ => ⟨rfl, rfl⟩, fun h => absurd h hc1⟩
        · have hgd : ¬ (a ≠ b ∧ wiB ln k125 k100 = true ∧ wiB wd k125 k100 = true) := fun h => by
            have h9 := (bI_ne _).mp c_62
            rw [gd_iff.mpr h] at h9
            cases h9
          have hcd : cdDuct nj (pD H) a b ln wd = 2 := (if_neg (fun h => h ⟨of_decide_eq_true (bIt c_45), of_decide_eq_true (bIt c_53)⟩)).trans (if_pos hgd)
          refine g_iconst (v := nI 2) C dX7_duct_65 (by decide +kernel) ?_
          refine g_goto (tgt := 83) C dX7_duct_66 (by decide) ?_
          refine g_topi (y := nI (cdDuct nj (pD H) a b ln wd)) (by rw [hcd]) ?_
          refine g_put (σ' := uN σ 5 (nI (cdDuct nj (pD H) a b ln wd))) (ty := .int) C dX7_duct_83 wl27 rfl 0 (by decide) 4 rfl rfl inX7_duct_X7 tyX7_ok nmX7 rfl (by decide +kernel) rfl rfl (Nat.le_of_ble_eq_true rfl) wsN5 ?_
          refine g_aload_n C dX7_duct_86 1 rfl rfl ?_
          refine g_get C dX7_duct_87 wl27 rfl 0 (by decide) 4 rfl rfl rfl inX7_duct_X7 ?_
          refine g_topi (y := nI (cdDuct nj (pD H) a b ln wd)) rfl ?_
          refine g_if_le (tgt := 95) C dX7_duct_90 (by decide) (fun c_90 => ?_) (fun c_90 => ?_)
          · have hc0 : cdDuct nj (pD H) a b ln wd = 0 := nI_le0 (by omega) c_90
            refine g_aload_n C dX7_duct_95 1 rfl rfl ?_
            refine g_get C dX7_duct_96 wl27 rfl 3 (by decide) 5 rfl rfl rfl inX7_duct_X7 ?_
            refine g_aload_n C dX7_duct_99 1 rfl rfl ?_
            refine g_get C dX7_duct_100 wl27 rfl 2 (by decide) 3 rfl rfl rfl inX7_duct_X7 ?_
            refine g_topi (y := nI (pD H)) hM.nd ?_
            refine g_iload_n C dX7_duct_103 2 rfl rfl ?_
            refine g_iast (j := (pD H)) (σ' := uI (uN σ 5 (nI (cdDuct nj (pD H) a b ln wd))) 28 (upd (sI (uN σ 5 (nI (cdDuct nj (pD H) a b ln wd))) 28) (pD H) a)) C dX7_duct_104 wl28 rfl (by have := (cdDuct_0 hc0).2.2; omega) (by decide) wsA28 ?_
            refine g_aload_n C dX7_duct_105 1 rfl rfl ?_
            refine g_get C dX7_duct_106 wl27 rfl 4 (by decide) 6 rfl rfl rfl inX7_duct_X7 ?_
            refine g_aload_n C dX7_duct_109 1 rfl rfl ?_
            refine g_get C dX7_duct_110 wl27 rfl 2 (by decide) 3 rfl rfl rfl inX7_duct_X7 ?_
            refine g_topi (y := nI (pD H)) hM.nd ?_
            refine g_iload_n C dX7_duct_113 3 rfl rfl ?_
            refine g_iast (j := (pD H)) (σ' := uI (uI (uN σ 5 (nI (cdDuct nj (pD H) a b ln wd))) 28 (upd (sI (uN σ 5 (nI (cdDuct nj (pD H) a b ln wd))) 28) (pD H) a)) 29 (upd (sI (uI (uN σ 5 (nI (cdDuct nj (pD H) a b ln wd))) 28 (upd (sI (uN σ 5 (nI (cdDuct nj (pD H) a b ln wd))) 28) (pD H) a)) 29) (pD H) b)) C dX7_duct_114 wl29 rfl (by have := (cdDuct_0 hc0).2.2; omega) (by decide) wsA29 ?_
            refine g_aload_n C dX7_duct_115 1 rfl rfl ?_
            refine g_get C dX7_duct_116 wl27 rfl 5 (by decide) 7 rfl rfl rfl inX7_duct_X7 ?_
            refine g_aload_n C dX7_duct_119 1 rfl rfl ?_
            refine g_get C dX7_duct_120 wl27 rfl 2 (by decide) 3 rfl rfl rfl inX7_duct_X7 ?_
            refine g_topi (y := nI (pD H)) hM.nd ?_
            refine g_dload_n C dX7_duct_123 4 rfl rfl ?_
            refine g_dast (j := (pD H)) (σ' := uF (uI (uI (uN σ 5 (nI (cdDuct nj (pD H) a b ln wd))) 28 (upd (sI (uN σ 5 (nI (cdDuct nj (pD H) a b ln wd))) 28) (pD H) a)) 29 (upd (sI (uI (uN σ 5 (nI (cdDuct nj (pD H) a b ln wd))) 28 (upd (sI (uN σ 5 (nI (cdDuct nj (pD H) a b ln wd))) 28) (pD H) a)) 29) (pD H) b)) 30 (vf_upd (sF (uI (uI (uN σ 5 (nI (cdDuct nj (pD H) a b ln wd))) 28 (upd (sI (uN σ 5 (nI (cdDuct nj (pD H) a b ln wd))) 28) (pD H) a)) 29 (upd (sI (uI (uN σ 5 (nI (cdDuct nj (pD H) a b ln wd))) 28 (upd (sI (uN σ 5 (nI (cdDuct nj (pD H) a b ln wd))) 28) (pD H) a)) 29) (pD H) b)) 30) (pD H) ln)) C dX7_duct_124 wl30 rfl (by have := (cdDuct_0 hc0).2.2; omega) (by decide) wsA30 ?_
            refine g_aload_n C dX7_duct_125 1 rfl rfl ?_
            refine g_get C dX7_duct_126 wl27 rfl 6 (by decide) 8 rfl rfl rfl inX7_duct_X7 ?_
            refine g_aload_n C dX7_duct_129 1 rfl rfl ?_
            refine g_get C dX7_duct_130 wl27 rfl 2 (by decide) 3 rfl rfl rfl inX7_duct_X7 ?_
            refine g_topi (y := nI (pD H)) hM.nd ?_
            refine g_dload C dX7_duct_133 5 rfl ?_
            refine g_dast (j := (pD H)) (σ' := uF (uF (uI (uI (uN σ 5 (nI (cdDuct nj (pD H) a b ln wd))) 28 (upd (sI (uN σ 5 (nI (cdDuct nj (pD H) a b ln wd))) 28) (pD H) a)) 29 (upd (sI (uI (uN σ 5 (nI (cdDuct nj (pD H) a b ln wd))) 28 (upd (sI (uN σ 5 (nI (cdDuct nj (pD H) a b ln wd))) 28) (pD H) a)) 29) (pD H) b)) 30 (vf_upd (sF (uI (uI (uN σ 5 (nI (cdDuct nj (pD H) a b ln wd))) 28 (upd (sI (uN σ 5 (nI (cdDuct nj (pD H) a b ln wd))) 28) (pD H) a)) 29 (upd (sI (uI (uN σ 5 (nI (cdDuct nj (pD H) a b ln wd))) 28 (upd (sI (uN σ 5 (nI (cdDuct nj (pD H) a b ln wd))) 28) (pD H) a)) 29) (pD H) b)) 30) (pD H) ln)) 31 (vf_upd (sF (uF (uI (uI (uN σ 5 (nI (cdDuct nj (pD H) a b ln wd))) 28 (upd (sI (uN σ 5 (nI (cdDuct nj (pD H) a b ln wd))) 28) (pD H) a)) 29 (upd (sI (uI (uN σ 5 (nI (cdDuct nj (pD H) a b ln wd))) 28 (upd (sI (uN σ 5 (nI (cdDuct nj (pD H) a b ln wd))) 28) (pD H) a)) 29) (pD H) b)) 30 (vf_upd (sF (uI (uI (uN σ 5 (nI (cdDuct nj (pD H) a b ln wd))) 28 (upd (sI (uN σ 5 (nI (cdDuct nj (pD H) a b ln wd))) 28) (pD H) a)) 29 (upd (sI (uI (uN σ 5 (nI (cdDuct nj (pD H) a b ln wd))) 28 (upd (sI (uN σ 5 (nI (cdDuct nj (pD H) a b ln wd))) 28) (pD H) a)) 29) (pD H) b)) 30) (pD H) ln)) 31) (pD H) wd)) C dX7_duct_135 wl31 rfl (by have := (cdDuct_0 hc0).2.2; omega) (by decide) wsA31 ?_
            refine g_aload_n C dX7_duct_136 1 rfl rfl ?_
            refine g_dup C dX7_duct_137 rfl ?_
            refine g_get C dX7_duct_138 wl27 rfl 2 (by decide) 3 rfl rfl rfl inX7_duct_X7 ?_
            refine g_topi (y := nI (pD H)) hM.nd ?_
            refine g_iconst (v := nI 1) C dX7_duct_141 (by decide +kernel) ?_
            refine g_iadd C dX7_duct_142 ?_
            refine g_topi (y := nI (pD H + 1)) (nI_add _ 1) ?_
            refine g_put (σ' := uN (uF (uF (uI (uI (uN σ 5 (nI (cdDuct nj (pD H) a b ln wd))) 28 (upd (sI (uN σ 5 (nI (cdDuct nj (pD H) a b ln wd))) 28) (pD H) a)) 29 (upd (sI (uI (uN σ 5 (nI (cdDuct nj (pD H) a b ln wd))) 28 (upd (sI (uN σ 5 (nI (cdDuct nj (pD H) a b ln wd))) 28) (pD H) a)) 29) (pD H) b)) 30 (vf_upd (sF (uI (uI (uN σ 5 (nI (cdDuct nj (pD H) a b ln wd))) 28 (upd (sI (uN σ 5 (nI (cdDuct nj (pD H) a b ln wd))) 28) (pD H) a)) 29 (upd (sI (uI (uN σ 5 (nI (cdDuct nj (pD H) a b ln wd))) 28 (upd (sI (uN σ 5 (nI (cdDuct nj (pD H) a b ln wd))) 28) (pD H) a)) 29) (pD H) b)) 30) (pD H) ln)) 31 (vf_upd (sF (uF (uI (uI (uN σ 5 (nI (cdDuct nj (pD H) a b ln wd))) 28 (upd (sI (uN σ 5 (nI (cdDuct nj (pD H) a b ln wd))) 28) (pD H) a)) 29 (upd (sI (uI (uN σ 5 (nI (cdDuct nj (pD H) a b ln wd))) 28 (upd (sI (uN σ 5 (nI (cdDuct nj (pD H) a b ln wd))) 28) (pD H) a)) 29) (pD H) b)) 30 (vf_upd (sF (uI (uI (uN σ 5 (nI (cdDuct nj (pD H) a b ln wd))) 28 (upd (sI (uN σ 5 (nI (cdDuct nj (pD H) a b ln wd))) 28) (pD H) a)) 29 (upd (sI (uI (uN σ 5 (nI (cdDuct nj (pD H) a b ln wd))) 28 (upd (sI (uN σ 5 (nI (cdDuct nj (pD H) a b ln wd))) 28) (pD H) a)) 29) (pD H) b)) 30) (pD H) ln)) 31) (pD H) wd)) 7 (nI (pD H + 1))) (ty := .int) C dX7_duct_143 wl27 rfl 2 (by decide) 3 rfl rfl inX7_duct_X7 tyX7_ok nmX7 rfl (by decide +kernel) rfl rfl (Nat.le_of_ble_eq_true rfl) wsN7 ?_
            refine g_aload_n C dX7_duct_146 1 rfl rfl ?_
            refine g_iconst (v := nI 0) C dX7_duct_147 (by decide +kernel) ?_
            refine g_put (σ' := uN (uN (uF (uF (uI (uI (uN σ 5 (nI (cdDuct nj (pD H) a b ln wd))) 28 (upd (sI (uN σ 5 (nI (cdDuct nj (pD H) a b ln wd))) 28) (pD H) a)) 29 (upd (sI (uI (uN σ 5 (nI (cdDuct nj (pD H) a b ln wd))) 28 (upd (sI (uN σ 5 (nI (cdDuct nj (pD H) a b ln wd))) 28) (pD H) a)) 29) (pD H) b)) 30 (vf_upd (sF (uI (uI (uN σ 5 (nI (cdDuct nj (pD H) a b ln wd))) 28 (upd (sI (uN σ 5 (nI (cdDuct nj (pD H) a b ln wd))) 28) (pD H) a)) 29 (upd (sI (uI (uN σ 5 (nI (cdDuct nj (pD H) a b ln wd))) 28 (upd (sI (uN σ 5 (nI (cdDuct nj (pD H) a b ln wd))) 28) (pD H) a)) 29) (pD H) b)) 30) (pD H) ln)) 31 (vf_upd (sF (uF (uI (uI (uN σ 5 (nI (cdDuct nj (pD H) a b ln wd))) 28 (upd (sI (uN σ 5 (nI (cdDuct nj (pD H) a b ln wd))) 28) (pD H) a)) 29 (upd (sI (uI (uN σ 5 (nI (cdDuct nj (pD H) a b ln wd))) 28 (upd (sI (uN σ 5 (nI (cdDuct nj (pD H) a b ln wd))) 28) (pD H) a)) 29) (pD H) b)) 30 (vf_upd (sF (uI (uI (uN σ 5 (nI (cdDuct nj (pD H) a b ln wd))) 28 (upd (sI (uN σ 5 (nI (cdDuct nj (pD H) a b ln wd))) 28) (pD H) a)) 29 (upd (sI (uI (uN σ 5 (nI (cdDuct nj (pD H) a b ln wd))) 28 (upd (sI (uN σ 5 (nI (cdDuct nj (pD H) a b ln wd))) 28) (pD H) a)) 29) (pD H) b)) 30) (pD H) ln)) 31) (pD H) wd)) 7 (nI (pD H + 1))) 9 (nI 0)) (ty := .boolean) C dX7_duct_148 wl27 rfl 20 (by decide) 9 rfl rfl inX7_duct_X7 tyX7_ok nmX7 rfl (by decide +kernel) rfl rfl (Nat.le_of_ble_eq_true rfl) wsN9 ?_
            refine g_aload_n C dX7_duct_151 1 rfl rfl ?_
            refine g_get C dX7_duct_152 wl27 rfl 2 (by decide) 3 rfl rfl rfl inX7_duct_X7 ?_
            refine g_topi (y := nI (pD H + 1)) rfl ?_
            refine g_iconst (v := nI 1) C dX7_duct_155 (by decide +kernel) ?_
            refine g_isub C dX7_duct_156 ?_
            refine g_topi (y := nI (pD H)) (nI_pred _) ?_
            refine g_iret C dX7_duct_157 rfl ⟨Nat.le_of_ble_eq_true rfl, Nat.le_of_ble_eq_true rfl⟩ ?_
            rw [hF]
            exact ⟨fun h => absurd hc0 h, fun _ => ⟨rfl, by rw [hc0]; try rfl⟩⟩
          · have hc1 : cdDuct nj (pD H) a b ln wd ≠ 0 := fun h => c_90 (by rw [h]; decide)
            refine g_iconst (v := nI 0) C dX7_duct_93 (by decide +kernel) ?_
            refine g_iret C dX7_duct_94 rfl ⟨Nat.le_of_ble_eq_true rfl, Nat.le_of_ble_eq_true rfl⟩ ?_
            rw [hF]
            exact ⟨fun _ => ⟨rfl, rfl⟩, fun h => absurd h hc1⟩
      · have hcd : cdDuct nj (pD H) a b ln wd = 1 := if_pos (fun h => absurd h.2 (of_decide_eq_false ((bI_ne _).mp c_53)))
        refine g_iconst (v := nI 1) C dX7_duct_56 (by decide +kernel) ?_
        refine g_goto (tgt := 83) C dX7_duct_57 (by decide) ?_
        refine g_topi (y := nI (cdDuct nj (pD H) a b ln wd)) (by rw [hcd]) ?_
        refine g_put (σ' := uN σ 5 (nI (cdDuct nj (pD H) a b ln wd))) (ty := .int) C dX7_duct_83 wl27 rfl 0 (by decide) 4 rfl rfl inX7_duct_X7 tyX7_ok nmX7 rfl (by decide +kernel) rfl rfl (Nat.le_of_ble_eq_true rfl) wsN5 ?_
        refine g_aload_n C dX7_duct_86 1 rfl rfl ?_
        refine g_get C dX7_duct_87 wl27 rfl 0 (by decide) 4 rfl rfl rfl inX7_duct_X7 ?_
        refine g_topi (y := nI (cdDuct nj (pD H) a b ln wd)) rfl ?_
        refine g_if_le (tgt := 95) C dX7_duct_90 (by decide) (fun c_90 => ?_) (fun c_90 => ?_)
        · have hc0 : cdDuct nj (pD H) a b ln wd = 0 := nI_le0 (by omega) c_90
          refine g_aload_n C dX7_duct_95 1 rfl rfl ?_
          refine g_get C dX7_duct_96 wl27 rfl 3 (by decide) 5 rfl rfl rfl inX7_duct_X7 ?_
          refine g_aload_n C dX7_duct_99 1 rfl rfl ?_
          refine g_get C dX7_duct_100 wl27 rfl 2 (by decide) 3 rfl rfl rfl inX7_duct_X7 ?_
          refine g_topi (y := nI (pD H)) hM.nd ?_
          refine g_iload_n C dX7_duct_103 2 rfl rfl ?_
          refine g_iast (j := (pD H)) (σ' := uI (uN σ 5 (nI (cdDuct nj (pD H) a b ln wd))) 28 (upd (sI (uN σ 5 (nI (cdDuct nj (pD H) a b ln wd))) 28) (pD H) a)) C dX7_duct_104 wl28 rfl (by have := (cdDuct_0 hc0).2.2; omega) (by decide) wsA28 ?_
          refine g_aload_n C dX7_duct_105 1 rfl rfl ?_
          refine g_get C dX7_duct_106 wl27 rfl 4 (by decide) 6 rfl rfl rfl inX7_duct_X7 ?_
          refine g_aload_n C dX7_duct_109 1 rfl rfl ?_
          refine g_get C dX7_duct_110 wl27 rfl 2 (by decide) 3 rfl rfl rfl inX7_duct_X7 ?_
          refine g_topi (y := nI (pD H)) hM.nd ?_
          refine g_iload_n C dX7_duct_113 3 rfl rfl ?_
          refine g_iast (j := (pD H)) (σ' := uI (uI (uN σ 5 (nI (cdDuct nj (pD H) a b ln wd))) 28 (upd (sI (uN σ 5 (nI (cdDuct nj (pD H) a b ln wd))) 28) (pD H) a)) 29 (upd (sI (uI (uN σ 5 (nI (cdDuct nj (pD H) a b ln wd))) 28 (upd (sI (uN σ 5 (nI (cdDuct nj (pD H) a b ln wd))) 28) (pD H) a)) 29) (pD H) b)) C dX7_duct_114 wl29 rfl (by have := (cdDuct_0 hc0).2.2; omega) (by decide) wsA29 ?_
          refine g_aload_n C dX7_duct_115 1 rfl rfl ?_
          refine g_get C dX7_duct_116 wl27 rfl 5 (by decide) 7 rfl rfl rfl inX7_duct_X7 ?_
          refine g_aload_n C dX7_duct_119 1 rfl rfl ?_
          refine g_get C dX7_duct_120 wl27 rfl 2 (by decide) 3 rfl rfl rfl inX7_duct_X7 ?_
          refine g_topi (y := nI (pD H)) hM.nd ?_
          refine g_dload_n C dX7_duct_123 4 rfl rfl ?_
          refine g_dast (j := (pD H)) (σ' := uF (uI (uI (uN σ 5 (nI (cdDuct nj (pD H) a b ln wd))) 28 (upd (sI (uN σ 5 (nI (cdDuct nj (pD H) a b ln wd))) 28) (pD H) a)) 29 (upd (sI (uI (uN σ 5 (nI (cdDuct nj (pD H) a b ln wd))) 28 (upd (sI (uN σ 5 (nI (cdDuct nj (pD H) a b ln wd))) 28) (pD H) a)) 29) (pD H) b)) 30 (vf_upd (sF (uI (uI (uN σ 5 (nI (cdDuct nj (pD H) a b ln wd))) 28 (upd (sI (uN σ 5 (nI (cdDuct nj (pD H) a b ln wd))) 28) (pD H) a)) 29 (upd (sI (uI (uN σ 5 (nI (cdDuct nj (pD H) a b ln wd))) 28 (upd (sI (uN σ 5 (nI (cdDuct nj (pD H) a b ln wd))) 28) (pD H) a)) 29) (pD H) b)) 30) (pD H) ln)) C dX7_duct_124 wl30 rfl (by have := (cdDuct_0 hc0).2.2; omega) (by decide) wsA30 ?_
          refine g_aload_n C dX7_duct_125 1 rfl rfl ?_
          refine g_get C dX7_duct_126 wl27 rfl 6 (by decide) 8 rfl rfl rfl inX7_duct_X7 ?_
          refine g_aload_n C dX7_duct_129 1 rfl rfl ?_
          refine g_get C dX7_duct_130 wl27 rfl 2 (by decide) 3 rfl rfl rfl inX7_duct_X7 ?_
          refine g_topi (y := nI (pD H)) hM.nd ?_
          refine g_dload C dX7_duct_133 5 rfl ?_
          refine g_dast (j := (pD H)) (σ' := uF (uF (uI (uI (uN σ 5 (nI (cdDuct nj (pD H) a b ln wd))) 28 (upd (sI (uN σ 5 (nI (cdDuct nj (pD H) a b ln wd))) 28) (pD H) a)) 29 (upd (sI (uI (uN σ 5 (nI (cdDuct nj (pD H) a b ln wd))) 28 (upd (sI (uN σ 5 (nI (cdDuct nj (pD H) a b ln wd))) 28) (pD H) a)) 29) (pD H) b)) 30 (vf_upd (sF (uI (uI (uN σ 5 (nI (cdDuct nj (pD H) a b ln wd))) 28 (upd (sI (uN σ 5 (nI (cdDuct nj (pD H) a b ln wd))) 28) (pD H) a)) 29 (upd (sI (uI (uN σ 5 (nI (cdDuct nj (pD H) a b ln wd))) 28 (upd (sI (uN σ 5 (nI (cdDuct nj (pD H) a b ln wd))) 28) (pD H) a)) 29) (pD H) b)) 30) (pD H) ln)) 31 (vf_upd (sF (uF (uI (uI (uN σ 5 (nI (cdDuct nj (pD H) a b ln wd))) 28 (upd (sI (uN σ 5 (nI (cdDuct nj (pD H) a b ln wd))) 28) (pD H) a)) 29 (upd (sI (uI (uN σ 5 (nI (cdDuct nj (pD H) a b ln wd))) 28 (upd (sI (uN σ 5 (nI (cdDuct nj (pD H) a b ln wd))) 28) (pD H) a)) 29) (pD H) b)) 30 (vf_upd (sF (uI (uI (uN σ 5 (nI (cdDuct nj (pD H) a b ln wd))) 28 (upd (sI (uN σ 5 (nI (cdDuct nj (pD H) a b ln wd))) 28) (pD H) a)) 29 (upd (sI (uI (uN σ 5 (nI (cdDuct nj (pD H) a b ln wd))) 28 (upd (sI (uN σ 5 (nI (cdDuct nj (pD H) a b ln wd))) 28) (pD H) a)) 29) (pD H) b)) 30) (pD H) ln)) 31) (pD H) wd)) C dX7_duct_135 wl31 rfl (by have := (cdDuct_0 hc0).2.2; omega) (by decide) wsA31 ?_
          refine g_aload_n C dX7_duct_136 1 rfl rfl ?_
          refine g_dup C dX7_duct_137 rfl ?_
          refine g_get C dX7_duct_138 wl27 rfl 2 (by decide) 3 rfl rfl rfl inX7_duct_X7 ?_
          refine g_topi (y := nI (pD H)) hM.nd ?_
          refine g_iconst (v := nI 1) C dX7_duct_141 (by decide +kernel) ?_
          refine g_iadd C dX7_duct_142 ?_
          refine g_topi (y := nI (pD H + 1)) (nI_add _ 1) ?_
          refine g_put (σ' := uN (uF (uF (uI (uI (uN σ 5 (nI (cdDuct nj (pD H) a b ln wd))) 28 (upd (sI (uN σ 5 (nI (cdDuct nj (pD H) a b ln wd))) 28) (pD H) a)) 29 (upd (sI (uI (uN σ 5 (nI (cdDuct nj (pD H) a b ln wd))) 28 (upd (sI (uN σ 5 (nI (cdDuct nj (pD H) a b ln wd))) 28) (pD H) a)) 29) (pD H) b)) 30 (vf_upd (sF (uI (uI (uN σ 5 (nI (cdDuct nj (pD H) a b ln wd))) 28 (upd (sI (uN σ 5 (nI (cdDuct nj (pD H) a b ln wd))) 28) (pD H) a)) 29 (upd (sI (uI (uN σ 5 (nI (cdDuct nj (pD H) a b ln wd))) 28 (upd (sI (uN σ 5 (nI (cdDuct nj (pD H) a b ln wd))) 28) (pD H) a)) 29) (pD H) b)) 30) (pD H) ln)) 31 (vf_upd (sF (uF (uI (uI (uN σ 5 (nI (cdDuct nj (pD H) a b ln wd))) 28 (upd (sI (uN σ 5 (nI (cdDuct nj (pD H) a b ln wd))) 28) (pD H) a)) 29 (upd (sI (uI (uN σ 5 (nI (cdDuct nj (pD H) a b ln wd))) 28 (upd (sI (uN σ 5 (nI (cdDuct nj (pD H) a b ln wd))) 28) (pD H) a)) 29) (pD H) b)) 30 (vf_upd (sF (uI (uI (uN σ 5 (nI (cdDuct nj (pD H) a b ln wd))) 28 (upd (sI (uN σ 5 (nI (cdDuct nj (pD H) a b ln wd))) 28) (pD H) a)) 29 (upd (sI (uI (uN σ 5 (nI (cdDuct nj (pD H) a b ln wd))) 28 (upd (sI (uN σ 5 (nI (cdDuct nj (pD H) a b ln wd))) 28) (pD H) a)) 29) (pD H) b)) 30) (pD H) ln)) 31) (pD H) wd)) 7 (nI (pD H + 1))) (ty := .int) C dX7_duct_143 wl27 rfl 2 (by decide) 3 rfl rfl inX7_duct_X7 tyX7_ok nmX7 rfl (by decide +kernel) rfl rfl (Nat.le_of_ble_eq_true rfl) wsN7 ?_
          refine g_aload_n C dX7_duct_146 1 rfl rfl ?_
          refine g_iconst (v := nI 0) C dX7_duct_147 (by decide +kernel) ?_
          refine g_put (σ' := uN (uN (uF (uF (uI (uI (uN σ 5 (nI (cdDuct nj (pD H) a b ln wd))) 28 (upd (sI (uN σ 5 (nI (cdDuct nj (pD H) a b ln wd))) 28) (pD H) a)) 29 (upd (sI (uI (uN σ 5 (nI (cdDuct nj (pD H) a b ln wd))) 28 (upd (sI (uN σ 5 (nI (cdDuct nj (pD H) a b ln wd))) 28) (pD H) a)) 29) (pD H) b)) 30 (vf_upd (sF (uI (uI (uN σ 5 (nI (cdDuct nj (pD H) a b ln wd))) 28 (upd (sI (uN σ 5 (nI (cdDuct nj (pD H) a b ln wd))) 28) (pD H) a)) 29 (upd (sI (uI (uN σ 5 (nI (cdDuct nj (pD H) a b ln wd))) 28 (upd (sI (uN σ 5 (nI (cdDuct nj (pD H) a b ln wd))) 28) (pD H) a)) 29) (pD H) b)) 30) (pD H) ln)) 31 (vf_upd (sF (uF (uI (uI (uN σ 5 (nI (cdDuct nj (pD H) a b ln wd))) 28 (upd (sI (uN σ 5 (nI (cdDuct nj (pD H) a b ln wd))) 28) (pD H) a)) 29 (upd (sI (uI (uN σ 5 (nI (cdDuct nj (pD H) a b ln wd))) 28 (upd (sI (uN σ 5 (nI (cdDuct nj (pD H) a b ln wd))) 28) (pD H) a)) 29) (pD H) b)) 30 (vf_upd (sF (uI (uI (uN σ 5 (nI (cdDuct nj (pD H) a b ln wd))) 28 (upd (sI (uN σ 5 (nI (cdDuct nj (pD H) a b ln wd))) 28) (pD H) a)) 29 (upd (sI (uI (uN σ 5 (nI (cdDuct nj (pD H) a b ln wd))) 28 (upd (sI (uN σ 5 (nI (cdDuct nj (pD H) a b ln wd))) 28) (pD H) a)) 29) (pD H) b)) 30) (pD H) ln)) 31) (pD H) wd)) 7 (nI (pD H + 1))) 9 (nI 0)) (ty := .boolean) C dX7_duct_148 wl27 rfl 20 (by decide) 9 rfl rfl inX7_duct_X7 tyX7_ok nmX7 rfl (by decide +kernel) rfl rfl (Nat.le_of_ble_eq_true rfl) wsN9 ?_
          refine g_aload_n C dX7_duct_151 1 rfl rfl ?_
          refine g_get C dX7_duct_152 wl27 rfl 2 (by decide) 3 rfl rfl rfl inX7_duct_X7 ?_
          refine g_topi (y := nI (pD H + 1)) rfl ?_
          refine g_iconst (v := nI 1) C dX7_duct_155 (by decide +kernel) ?_
          refine g_isub C dX7_duct_156 ?_
          refine g_topi (y := nI (pD H)) (nI_pred _) ?_
          refine g_iret C dX7_duct_157 rfl ⟨Nat.le_of_ble_eq_true rfl, Nat.le_of_ble_eq_true rfl⟩ ?_
          rw [hF]
          exact ⟨fun h => absurd hc0 h, fun _ => ⟨rfl, by rw [hc0]; try rfl⟩⟩
        · have hc1 : cdDuct nj (pD H) a b ln wd ≠ 0 := fun h => c_90 (by rw [h]; decide)
          refine g_iconst (v := nI 0) C dX7_duct_93 (by decide +kernel) ?_
          refine g_iret C dX7_duct_94 rfl ⟨Nat.le_of_ble_eq_true rfl, Nat.le_of_ble_eq_true rfl⟩ ?_
          rw [hF]
          exact ⟨fun _ => ⟨rfl, rfl⟩, fun h => absurd h hc1⟩
  · refine g_dload_n C dX7_duct_5 3 rfl rfl ?_
    refine g_ldc2d (v := 4593671619917905920) C dX7_duct_6 1 rfl ?_
    refine g_ldc2d (v := 4636737291354636288) C dX7_duct_9 2 rfl ?_
    refine g_callS (As := [.double ln, .double 4593671619917905920, .double 4636737291354636288]) (rest := []) C dX7_duct_12 (kX7_between (xl X) (xK X) C.hD σ ln k125 k100) 3 gX7_duct_X7_between rfl (by decide +kernel) ⟨Nat.le_of_ble_eq_true rfl, Nat.le_of_ble_eq_true rfl⟩ ⟨Nat.le_of_ble_eq_true rfl, Nat.le_of_ble_eq_true rfl⟩ rfl rfl (Nat.le_of_ble_eq_true rfl) (fun rv9 σ9 h9 => ?_)
    obtain ⟨h9a, h9b⟩ := h9
    refine g_eq (σ2 := σ) (lv2 := [(0, .ref ((xK X).2.2 27)), (1, .int a), (2, .int b), (3, .double ln), (5, .double wd)]) (st2 := [.int (bI (wiB ln k125 k100))]) h9b rfl (by rw [h9a]; rfl) ?_
    refine g_if_eq (tgt := 36) C dX7_duct_15 (by decide) (fun c_15 => ?_) (fun c_15 => ?_)
    · refine g_iconst (v := nI 0) C dX7_duct_36 (by decide +kernel) ?_
      refine g_topi (y := bI (gdB a b ln wd)) (by unfold gdB; first | (rw [decide_eq_false (show ¬ a ≠ b from fun h => h c_2)]; rfl) | (rw [decide_eq_true (show a ≠ b from c_2), (bI_ne _).mp c_15]; rfl) | (rw [decide_eq_true (show a ≠ b from c_2), bIt c_15, (bI_ne _).mp c_29]; rfl) | (rw [decide_eq_true (show a ≠ b from c_2), bIt c_15, bIt c_29]; rfl)) ?_
      refine g_istore (lv' := [(7, .int (bI (gdB a b ln wd))), (0, .ref ((xK X).2.2 27)), (1, .int a), (2, .int b), (3, .double ln), (5, .double wd)]) C dX7_duct_37 (by decide) rfl ?_
      refine g_aload_n C dX7_duct_39 1 rfl rfl ?_
      refine g_aload_n C dX7_duct_40 1 rfl rfl ?_
      refine g_iload_n C dX7_duct_41 2 rfl rfl ?_
      refine g_callV (As := [.int a]) (rest := [.ref ((xK X).2.2 27)]) C dX7_duct_42 (kX7_isJoint (xl X) (xK X) C.hD σ hM.j.1 hM.j.2.2 a) wl27 rfl 1 gX7_duct_X7_isJoint rfl (by decide +kernel) ⟨Nat.le_of_ble_eq_true rfl, Nat.le_of_ble_eq_true rfl⟩ ⟨Nat.le_of_ble_eq_true rfl, Nat.le_of_ble_eq_true rfl⟩ rfl rfl (Nat.le_of_ble_eq_true rfl) (fun rv9 σ9 h9 => ?_)
      obtain ⟨h9a, h9b⟩ := h9
      refine g_eq (σ2 := σ) (lv2 := [(7, .int (bI (gdB a b ln wd))), (0, .ref ((xK X).2.2 27)), (1, .int a), (2, .int b), (3, .double ln), (5, .double wd)]) (st2 := [.int (bI (decide (inR a nj))), .ref ((xK X).2.2 27)]) h9b rfl (by rw [h9a]; rfl) ?_
      refine g_if_eq (tgt := 56) C dX7_duct_45 (by decide) (fun c_45 => ?_) (fun c_45 => ?_)
      · have hcd : cdDuct nj (pD H) a b ln wd = 1 := if_pos (fun h => absurd h.1 (of_decide_eq_false ((bI_ne _).mp c_45)))
        refine g_iconst (v := nI 1) C dX7_duct_56 (by decide +kernel) ?_
        refine g_goto (tgt := 83) C dX7_duct_57 (by decide) ?_
        refine g_topi (y := nI (cdDuct nj (pD H) a b ln wd)) (by rw [hcd]) ?_
        refine g_put (σ' := uN σ 5 (nI (cdDuct nj (pD H) a b ln wd))) (ty := .int) C dX7_duct_83 wl27 rfl 0 (by decide) 4 rfl rfl inX7_duct_X7 tyX7_ok nmX7 rfl (by decide +kernel) rfl rfl (Nat.le_of_ble_eq_true rfl) wsN5 ?_
        refine g_aload_n C dX7_duct_86 1 rfl rfl ?_
        refine g_get C dX7_duct_87 wl27 rfl 0 (by decide) 4 rfl rfl rfl inX7_duct_X7 ?_
        refine g_topi (y := nI (cdDuct nj (pD H) a b ln wd)) rfl ?_
        refine g_if_le (tgt := 95) C dX7_duct_90 (by decide) (fun c_90 => ?_) (fun c_90 => ?_)
        · have hc0 : cdDuct nj (pD H) a b ln wd = 0 := nI_le0 (by omega) c_90
          refine g_aload_n C dX7_duct_95 1 rfl rfl ?_
          refine g_get C dX7_duct_96 wl27 rfl 3 (by decide) 5 rfl rfl rfl inX7_duct_X7 ?_
          refine g_aload_n C dX7_duct_99 1 rfl rfl ?_
          refine g_get C dX7_duct_100 wl27 rfl 2 (by decide) 3 rfl rfl rfl inX7_duct_X7 ?_
          refine g_topi (y := nI (pD H)) hM.nd ?_
          refine g_iload_n C dX7_duct_103 2 rfl rfl ?_
          refine g_iast (j := (pD H)) (σ' := uI (uN σ 5 (nI (cdDuct nj (pD H) a b ln wd))) 28 (upd (sI (uN σ 5 (nI (cdDuct nj (pD H) a b ln wd))) 28) (pD H) a)) C dX7_duct_104 wl28 rfl (by have := (cdDuct_0 hc0).2.2; omega) (by decide) wsA28 ?_
          refine g_aload_n C dX7_duct_105 1 rfl rfl ?_
          refine g_get C dX7_duct_106 wl27 rfl 4 (by decide) 6 rfl rfl rfl inX7_duct_X7 ?_
          refine g_aload_n C dX7_duct_109 1 rfl rfl ?_
          refine g_get C dX7_duct_110 wl27 rfl 2 (by decide) 3 rfl rfl rfl inX7_duct_X7 ?_
          refine g_topi (y := nI (pD H)) hM.nd ?_
          refine g_iload_n C dX7_duct_113 3 rfl rfl ?_
          refine g_iast (j := (pD H)) (σ' := uI (uI (uN σ 5 (nI (cdDuct nj (pD H) a b ln wd))) 28 (upd (sI (uN σ 5 (nI (cdDuct nj (pD H) a b ln wd))) 28) (pD H) a)) 29 (upd (sI (uI (uN σ 5 (nI (cdDuct nj (pD H) a b ln wd))) 28 (upd (sI (uN σ 5 (nI (cdDuct nj (pD H) a b ln wd))) 28) (pD H) a)) 29) (pD H) b)) C dX7_duct_114 wl29 rfl (by have := (cdDuct_0 hc0).2.2; omega) (by decide) wsA29 ?_
          refine g_aload_n C dX7_duct_115 1 rfl rfl ?_
          refine g_get C dX7_duct_116 wl27 rfl 5 (by decide) 7 rfl rfl rfl inX7_duct_X7 ?_
          refine g_aload_n C dX7_duct_119 1 rfl rfl ?_
          refine g_get C dX7_duct_120 wl27 rfl 2 (by decide) 3 rfl rfl rfl inX7_duct_X7 ?_
          refine g_topi (y := nI (pD H)) hM.nd ?_
          refine g_dload_n C dX7_duct_123 4 rfl rfl ?_
          refine g_dast (j := (pD H)) (σ' := uF (uI (uI (uN σ 5 (nI (cdDuct nj (pD H) a b ln wd))) 28 (upd (sI (uN σ 5 (nI (cdDuct nj (pD H) a b ln wd))) 28) (pD H) a)) 29 (upd (sI (uI (uN σ 5 (nI (cdDuct nj (pD H) a b ln wd))) 28 (upd (sI (uN σ 5 (nI (cdDuct nj (pD H) a b ln wd))) 28) (pD H) a)) 29) (pD H) b)) 30 (vf_upd (sF (uI (uI (uN σ 5 (nI (cdDuct nj (pD H) a b ln wd))) 28 (upd (sI (uN σ 5 (nI (cdDuct nj (pD H) a b ln wd))) 28) (pD H) a)) 29 (upd (sI (uI (uN σ 5 (nI (cdDuct nj (pD H) a b ln wd))) 28 (upd (sI (uN σ 5 (nI (cdDuct nj (pD H) a b ln wd))) 28) (pD H) a)) 29) (pD H) b)) 30) (pD H) ln)) C dX7_duct_124 wl30 rfl (by have := (cdDuct_0 hc0).2.2; omega) (by decide) wsA30 ?_
          refine g_aload_n C dX7_duct_125 1 rfl rfl ?_
          refine g_get C dX7_duct_126 wl27 rfl 6 (by decide) 8 rfl rfl rfl inX7_duct_X7 ?_
          refine g_aload_n C dX7_duct_129 1 rfl rfl ?_
          refine g_get C dX7_duct_130 wl27 rfl 2 (by decide) 3 rfl rfl rfl inX7_duct_X7 ?_
          refine g_topi (y := nI (pD H)) hM.nd ?_
          refine g_dload C dX7_duct_133 5 rfl ?_
          refine g_dast (j := (pD H)) (σ' := uF (uF (uI (uI (uN σ 5 (nI (cdDuct nj (pD H) a b ln wd))) 28 (upd (sI (uN σ 5 (nI (cdDuct nj (pD H) a b ln wd))) 28) (pD H) a)) 29 (upd (sI (uI (uN σ 5 (nI (cdDuct nj (pD H) a b ln wd))) 28 (upd (sI (uN σ 5 (nI (cdDuct nj (pD H) a b ln wd))) 28) (pD H) a)) 29) (pD H) b)) 30 (vf_upd (sF (uI (uI (uN σ 5 (nI (cdDuct nj (pD H) a b ln wd))) 28 (upd (sI (uN σ 5 (nI (cdDuct nj (pD H) a b ln wd))) 28) (pD H) a)) 29 (upd (sI (uI (uN σ 5 (nI (cdDuct nj (pD H) a b ln wd))) 28 (upd (sI (uN σ 5 (nI (cdDuct nj (pD H) a b ln wd))) 28) (pD H) a)) 29) (pD H) b)) 30) (pD H) ln)) 31 (vf_upd (sF (uF (uI (uI (uN σ 5 (nI (cdDuct nj (pD H) a b ln wd))) 28 (upd (sI (uN σ 5 (nI (cdDuct nj (pD H) a b ln wd))) 28) (pD H) a)) 29 (upd (sI (uI (uN σ 5 (nI (cdDuct nj (pD H) a b ln wd))) 28 (upd (sI (uN σ 5 (nI (cdDuct nj (pD H) a b ln wd))) 28) (pD H) a)) 29) (pD H) b)) 30 (vf_upd (sF (uI (uI (uN σ 5 (nI (cdDuct nj (pD H) a b ln wd))) 28 (upd (sI (uN σ 5 (nI (cdDuct nj (pD H) a b ln wd))) 28) (pD H) a)) 29 (upd (sI (uI (uN σ 5 (nI (cdDuct nj (pD H) a b ln wd))) 28 (upd (sI (uN σ 5 (nI (cdDuct nj (pD H) a b ln wd))) 28) (pD H) a)) 29) (pD H) b)) 30) (pD H) ln)) 31) (pD H) wd)) C dX7_duct_135 wl31 rfl (by have := (cdDuct_0 hc0).2.2; omega) (by decide) wsA31 ?_
          refine g_aload_n C dX7_duct_136 1 rfl rfl ?_
          refine g_dup C dX7_duct_137 rfl ?_
          refine g_get C dX7_duct_138 wl27 rfl 2 (by decide) 3 rfl rfl rfl inX7_duct_X7 ?_
          refine g_topi (y := nI (pD H)) hM.nd ?_
          refine g_iconst (v := nI 1) C dX7_duct_141 (by decide +kernel) ?_
          refine g_iadd C dX7_duct_142 ?_
          refine g_topi (y := nI (pD H + 1)) (nI_add _ 1) ?_
          refine g_put (σ' := uN (uF (uF (uI (uI (uN σ 5 (nI (cdDuct nj (pD H) a b ln wd))) 28 (upd (sI (uN σ 5 (nI (cdDuct nj (pD H) a b ln wd))) 28) (pD H) a)) 29 (upd (sI (uI (uN σ 5 (nI (cdDuct nj (pD H) a b ln wd))) 28 (upd (sI (uN σ 5 (nI (cdDuct nj (pD H) a b ln wd))) 28) (pD H) a)) 29) (pD H) b)) 30 (vf_upd (sF (uI (uI (uN σ 5 (nI (cdDuct nj (pD H) a b ln wd))) 28 (upd (sI (uN σ 5 (nI (cdDuct nj (pD H) a b ln wd))) 28) (pD H) a)) 29 (upd (sI (uI (uN σ 5 (nI (cdDuct nj (pD H) a b ln wd))) 28 (upd (sI (uN σ 5 (nI (cdDuct nj (pD H) a b ln wd))) 28) (pD H) a)) 29) (pD H) b)) 30) (pD H) ln)) 31 (vf_upd (sF (uF (uI (uI (uN σ 5 (nI (cdDuct nj (pD H) a b ln wd))) 28 (upd (sI (uN σ 5 (nI (cdDuct nj (pD H) a b ln wd))) 28) (pD H) a)) 29 (upd (sI (uI (uN σ 5 (nI (cdDuct nj (pD H) a b ln wd))) 28 (upd (sI (uN σ 5 (nI (cdDuct nj (pD H) a b ln wd))) 28) (pD H) a)) 29) (pD H) b)) 30 (vf_upd (sF (uI (uI (uN σ 5 (nI (cdDuct nj (pD H) a b ln wd))) 28 (upd (sI (uN σ 5 (nI (cdDuct nj (pD H) a b ln wd))) 28) (pD H) a)) 29 (upd (sI (uI (uN σ 5 (nI (cdDuct nj (pD H) a b ln wd))) 28 (upd (sI (uN σ 5 (nI (cdDuct nj (pD H) a b ln wd))) 28) (pD H) a)) 29) (pD H) b)) 30) (pD H) ln)) 31) (pD H) wd)) 7 (nI (pD H + 1))) (ty := .int) C dX7_duct_143 wl27 rfl 2 (by decide) 3 rfl rfl inX7_duct_X7 tyX7_ok nmX7 rfl (by decide +kernel) rfl rfl (Nat.le_of_ble_eq_true rfl) wsN7 ?_
          refine g_aload_n C dX7_duct_146 1 rfl rfl ?_
          refine g_iconst (v := nI 0) C dX7_duct_147 (by decide +kernel) ?_
          refine g_put (σ' := uN (uN (uF (uF (uI (uI (uN σ 5 (nI (cdDuct nj (pD H) a b ln wd))) 28 (upd (sI (uN σ 5 (nI (cdDuct nj (pD H) a b ln wd))) 28) (pD H) a)) 29 (upd (sI (uI (uN σ 5 (nI (cdDuct nj (pD H) a b ln wd))) 28 (upd (sI (uN σ 5 (nI (cdDuct nj (pD H) a b ln wd))) 28) (pD H) a)) 29) (pD H) b)) 30 (vf_upd (sF (uI (uI (uN σ 5 (nI (cdDuct nj (pD H) a b ln wd))) 28 (upd (sI (uN σ 5 (nI (cdDuct nj (pD H) a b ln wd))) 28) (pD H) a)) 29 (upd (sI (uI (uN σ 5 (nI (cdDuct nj (pD H) a b ln wd))) 28 (upd (sI (uN σ 5 (nI (cdDuct nj (pD H) a b ln wd))) 28) (pD H) a)) 29) (pD H) b)) 30) (pD H) ln)) 31 (vf_upd (sF (uF (uI (uI (uN σ 5 (nI (cdDuct nj (pD H) a b ln wd))) 28 (upd (sI (uN σ 5 (nI (cdDuct nj (pD H) a b ln wd))) 28) (pD H) a)) 29 (upd (sI (uI (uN σ 5 (nI (cdDuct nj (pD H) a b ln wd))) 28 (upd (sI (uN σ 5 (nI (cdDuct nj (pD H) a b ln wd))) 28) (pD H) a)) 29) (pD H) b)) 30 (vf_upd (sF (uI (uI (uN σ 5 (nI (cdDuct nj (pD H) a b ln wd))) 28 (upd (sI (uN σ 5 (nI (cdDuct nj (pD H) a b ln wd))) 28) (pD H) a)) 29 (upd (sI (uI (uN σ 5 (nI (cdDuct nj (pD H) a b ln wd))) 28 (upd (sI (uN σ 5 (nI (cdDuct nj (pD H) a b ln wd))) 28) (pD H) a)) 29) (pD H) b)) 30) (pD H) ln)) 31) (pD H) wd)) 7 (nI (pD H + 1))) 9 (nI 0)) (ty := .boolean) C dX7_duct_148 wl27 rfl 20 (by decide) 9 rfl rfl inX7_duct_X7 tyX7_ok nmX7 rfl (by decide +kernel) rfl rfl (Nat.le_of_ble_eq_true rfl) wsN9 ?_
          refine g_aload_n C dX7_duct_151 1 rfl rfl ?_
          refine g_get C dX7_duct_152 wl27 rfl 2 (by decide) 3 rfl rfl rfl inX7_duct_X7 ?_
          refine g_topi (y := nI (pD H + 1)) rfl ?_
          refine g_iconst (v := nI 1) C dX7_duct_155 (by decide +kernel) ?_
          refine g_isub C dX7_duct_156 ?_
          refine g_topi (y := nI (pD H)) (nI_pred _) ?_
          refine g_iret C dX7_duct_157 rfl ⟨Nat.le_of_ble_eq_true rfl, Nat.le_of_ble_eq_true rfl⟩ ?_
          rw [hF]
          exact ⟨fun h => absurd hc0 h, fun _ => ⟨rfl, by rw [hc0]; try rfl⟩⟩
        · have hc1 : cdDuct nj (pD H) a b ln wd ≠ 0 := fun h => c_90 (by rw [h]; decide)
          refine g_iconst (v := nI 0) C dX7_duct_93 (by decide +kernel) ?_
          refine g_iret C dX7_duct_94 rfl ⟨Nat.le_of_ble_eq_true rfl, Nat.le_of_ble_eq_true rfl⟩ ?_
          rw [hF]
          exact ⟨fun _ => ⟨rfl, rfl⟩, fun h => absurd h hc1⟩
      · refine g_aload_n C dX7_duct_48 1 rfl rfl ?_
        refine g_iload_n C dX7_duct_49 3 rfl rfl ?_
        refine g_callV (As := [.int b]) (rest := [.ref ((xK X).2.2 27)]) C dX7_duct_50 (kX7_isJoint (xl X) (xK X) C.hD σ hM.j.1 hM.j.2.2 b) wl27 rfl 1 gX7_duct_X7_isJoint rfl (by decide +kernel) ⟨Nat.le_of_ble_eq_true rfl, Nat.le_of_ble_eq_true rfl⟩ ⟨Nat.le_of_ble_eq_true rfl, Nat.le_of_ble_eq_true rfl⟩ rfl rfl (Nat.le_of_ble_eq_true rfl) (fun rv9 σ9 h9 => ?_)
        obtain ⟨h9a, h9b⟩ := h9
        refine g_eq (σ2 := σ) (lv2 := [(7, .int (bI (gdB a b ln wd))), (0, .ref ((xK X).2.2 27)), (1, .int a), (2, .int b), (3, .double ln), (5, .double wd)]) (st2 := [.int (bI (decide (inR b nj))), .ref ((xK X).2.2 27)]) h9b rfl (by rw [h9a]; rfl) ?_
        refine g_if_ne (tgt := 60) C dX7_duct_53 (by decide) (fun c_53 => ?_) (fun c_53 => ?_)
        · refine g_iload C dX7_duct_60 0 rfl ?_
          refine g_if_ne (tgt := 69) C dX7_duct_62 (by decide) (fun c_62 => ?_) (fun c_62 => ?_)
          · have hgd := gd_iff.mp (bIt c_62)
            refine g_aload_n C dX7_duct_69 1 rfl rfl ?_
            refine g_get C dX7_duct_70 wl27 rfl 2 (by decide) 3 rfl rfl rfl inX7_duct_X7 ?_
            refine g_topi (y := nI (pD H)) hM.nd ?_
            refine g_bipush (v := nI 16) C dX7_duct_73 (by decide +kernel) ?_
            refine g_icmp_ne (tgt := 82) C dX7_duct_75 (by decide) (fun c_75 => ?_) (fun c_75 => ?_)
            · have hcd : cdDuct nj (pD H) a b ln wd = 0 := (if_neg (fun h => h ⟨of_decide_eq_true (bIt c_45), of_decide_eq_true (bIt c_53)⟩)).trans ((if_neg (fun h => h hgd)).trans (if_neg (fun h => h (by
                have : pD H ≠ 16 := fun h => c_75 (by rw [h])
                omega))))
              refine g_iconst (v := nI 0) C dX7_duct_82 (by decide +kernel) ?_
              refine g_topi (y := nI (cdDuct nj (pD H) a b ln wd)) (by rw [hcd]) ?_
              refine g_put (σ' := uN σ 5 (nI (cdDuct nj (pD H) a b ln wd))) (ty := .int) C dX7_duct_83 wl27 rfl 0 (by decide) 4 rfl rfl inX7_duct_X7 tyX7_ok nmX7 rfl (by decide +kernel) rfl rfl (Nat.le_of_ble_eq_true rfl) wsN5 ?_
              refine g_aload_n C dX7_duct_86 1 rfl rfl ?_
              refine g_get C dX7_duct_87 wl27 rfl 0 (by decide) 4 rfl rfl rfl inX7_duct_X7 ?_
              refine g_topi (y := nI (cdDuct nj (pD H) a b ln wd)) rfl ?_
              refine g_if_le (tgt := 95) C dX7_duct_90 (by decide) (fun c_90 => ?_) (fun c_90 => ?_)
              · have hc0 : cdDuct nj (pD H) a b ln wd = 0 := nI_le0 (by omega) c_90
                refine g_aload_n C dX7_duct_95 1 rfl rfl ?_
                refine g_get C dX7_duct_96 wl27 rfl 3 (by decide) 5 rfl rfl rfl inX7_duct_X7 ?_
                refine g_aload_n C dX7_duct_99 1 rfl rfl ?_
                refine g_get C dX7_duct_100 wl27 rfl 2 (by decide) 3 rfl rfl rfl inX7_duct_X7 ?_
                refine g_topi (y := nI (pD H)) hM.nd ?_
                refine g_iload_n C dX7_duct_103 2 rfl rfl ?_
                refine g_iast (j := (pD H)) (σ' := uI (uN σ 5 (nI (cdDuct nj (pD H) a b ln wd))) 28 (upd (sI (uN σ 5 (nI (cdDuct nj (pD H) a b ln wd))) 28) (pD H) a)) C dX7_duct_104 wl28 rfl (by have := (cdDuct_0 hc0).2.2; omega) (by decide) wsA28 ?_
                refine g_aload_n C dX7_duct_105 1 rfl rfl ?_
                refine g_get C dX7_duct_106 wl27 rfl 4 (by decide) 6 rfl rfl rfl inX7_duct_X7 ?_
                refine g_aload_n C dX7_duct_109 1 rfl rfl ?_
                refine g_get C dX7_duct_110 wl27 rfl 2 (by decide) 3 rfl rfl rfl inX7_duct_X7 ?_
                refine g_topi (y := nI (pD H)) hM.nd ?_
                refine g_iload_n C dX7_duct_113 3 rfl rfl ?_
                refine g_iast (j := (pD H)) (σ' := uI (uI (uN σ 5 (nI (cdDuct nj (pD H) a b ln wd))) 28 (upd (sI (uN σ 5 (nI (cdDuct nj (pD H) a b ln wd))) 28) (pD H) a)) 29 (upd (sI (uI (uN σ 5 (nI (cdDuct nj (pD H) a b ln wd))) 28 (upd (sI (uN σ 5 (nI (cdDuct nj (pD H) a b ln wd))) 28) (pD H) a)) 29) (pD H) b)) C dX7_duct_114 wl29 rfl (by have := (cdDuct_0 hc0).2.2; omega) (by decide) wsA29 ?_
                refine g_aload_n C dX7_duct_115 1 rfl rfl ?_
                refine g_get C dX7_duct_116 wl27 rfl 5 (by decide) 7 rfl rfl rfl inX7_duct_X7 ?_
                refine g_aload_n C dX7_duct_119 1 rfl rfl ?_
                refine g_get C dX7_duct_120 wl27 rfl 2 (by decide) 3 rfl rfl rfl inX7_duct_X7 ?_
                refine g_topi (y := nI (pD H)) hM.nd ?_
                refine g_dload_n C dX7_duct_123 4 rfl rfl ?_
                refine g_dast (j := (pD H)) (σ' := uF (uI (uI (uN σ 5 (nI (cdDuct nj (pD H) a b ln wd))) 28 (upd (sI (uN σ 5 (nI (cdDuct nj (pD H) a b ln wd))) 28) (pD H) a)) 29 (upd (sI (uI (uN σ 5 (nI (cdDuct nj (pD H) a b ln wd))) 28 (upd (sI (uN σ 5 (nI (cdDuct nj (pD H) a b ln wd))) 28) (pD H) a)) 29) (pD H) b)) 30 (vf_upd (sF (uI (uI (uN σ 5 (nI (cdDuct nj (pD H) a b ln wd))) 28 (upd (sI (uN σ 5 (nI (cdDuct nj (pD H) a b ln wd))) 28) (pD H) a)) 29 (upd (sI (uI (uN σ 5 (nI (cdDuct nj (pD H) a b ln wd))) 28 (upd (sI (uN σ 5 (nI (cdDuct nj (pD H) a b ln wd))) 28) (pD H) a)) 29) (pD H) b)) 30) (pD H) ln)) C dX7_duct_124 wl30 rfl (by have := (cdDuct_0 hc0).2.2; omega) (by decide) wsA30 ?_
                refine g_aload_n C dX7_duct_125 1 rfl rfl ?_
                refine g_get C dX7_duct_126 wl27 rfl 6 (by decide) 8 rfl rfl rfl inX7_duct_X7 ?_
                refine g_aload_n C dX7_duct_129 1 rfl rfl ?_
                refine g_get C dX7_duct_130 wl27 rfl 2 (by decide) 3 rfl rfl rfl inX7_duct_X7 ?_
                refine g_topi (y := nI (pD H)) hM.nd ?_
                refine g_dload C dX7_duct_133 5 rfl ?_
                refine g_dast (j := (pD H)) (σ' := uF (uF (uI (uI (uN σ 5 (nI (cdDuct nj (pD H) a b ln wd))) 28 (upd (sI (uN σ 5 (nI (cdDuct nj (pD H) a b ln wd))) 28) (pD H) a)) 29 (upd (sI (uI (uN σ 5 (nI (cdDuct nj (pD H) a b ln wd))) 28 (upd (sI (uN σ 5 (nI (cdDuct nj (pD H) a b ln wd))) 28) (pD H) a)) 29) (pD H) b)) 30 (vf_upd (sF (uI (uI (uN σ 5 (nI (cdDuct nj (pD H) a b ln wd))) 28 (upd (sI (uN σ 5 (nI (cdDuct nj (pD H) a b ln wd))) 28) (pD H) a)) 29 (upd (sI (uI (uN σ 5 (nI (cdDuct nj (pD H) a b ln wd))) 28 (upd (sI (uN σ 5 (nI (cdDuct nj (pD H) a b ln wd))) 28) (pD H) a)) 29) (pD H) b)) 30) (pD H) ln)) 31 (vf_upd (sF (uF (uI (uI (uN σ 5 (nI (cdDuct nj (pD H) a b ln wd))) 28 (upd (sI (uN σ 5 (nI (cdDuct nj (pD H) a b ln wd))) 28) (pD H) a)) 29 (upd (sI (uI (uN σ 5 (nI (cdDuct nj (pD H) a b ln wd))) 28 (upd (sI (uN σ 5 (nI (cdDuct nj (pD H) a b ln wd))) 28) (pD H) a)) 29) (pD H) b)) 30 (vf_upd (sF (uI (uI (uN σ 5 (nI (cdDuct nj (pD H) a b ln wd))) 28 (upd (sI (uN σ 5 (nI (cdDuct nj (pD H) a b ln wd))) 28) (pD H) a)) 29 (upd (sI (uI (uN σ 5 (nI (cdDuct nj (pD H) a b ln wd))) 28 (upd (sI (uN σ 5 (nI (cdDuct nj (pD H) a b ln wd))) 28) (pD H) a)) 29) (pD H) b)) 30) (pD H) ln)) 31) (pD H) wd)) C dX7_duct_135 wl31 rfl (by have := (cdDuct_0 hc0).2.2; omega) (by decide) wsA31 ?_
                refine g_aload_n C dX7_duct_136 1 rfl rfl ?_
                refine g_dup C dX7_duct_137 rfl ?_
                refine g_get C dX7_duct_138 wl27 rfl 2 (by decide) 3 rfl rfl rfl inX7_duct_X7 ?_
                refine g_topi (y := nI (pD H)) hM.nd ?_
                refine g_iconst (v := nI 1) C dX7_duct_141 (by decide +kernel) ?_
                refine g_iadd C dX7_duct_142 ?_
                refine g_topi (y := nI (pD H + 1)) (nI_add _ 1) ?_
                refine g_put (σ' := uN (uF (uF (uI (uI (uN σ 5 (nI (cdDuct nj (pD H) a b ln wd))) 28 (upd (sI (uN σ 5 (nI (cdDuct nj (pD H) a b ln wd))) 28) (pD H) a)) 29 (upd (sI (uI (uN σ 5 (nI (cdDuct nj (pD H) a b ln wd))) 28 (upd (sI (uN σ 5 (nI (cdDuct nj (pD H) a b ln wd))) 28) (pD H) a)) 29) (pD H) b)) 30 (vf_upd (sF (uI (uI (uN σ 5 (nI (cdDuct nj (pD H) a b ln wd))) 28 (upd (sI (uN σ 5 (nI (cdDuct nj (pD H) a b ln wd))) 28) (pD H) a)) 29 (upd (sI (uI (uN σ 5 (nI (cdDuct nj (pD H) a b ln wd))) 28 (upd (sI (uN σ 5 (nI (cdDuct nj (pD H) a b ln wd))) 28) (pD H) a)) 29) (pD H) b)) 30) (pD H) ln)) 31 (vf_upd (sF (uF (uI (uI (uN σ 5 (nI (cdDuct nj (pD H) a b ln wd))) 28 (upd (sI (uN σ 5 (nI (cdDuct nj (pD H) a b ln wd))) 28) (pD H) a)) 29 (upd (sI (uI (uN σ 5 (nI (cdDuct nj (pD H) a b ln wd))) 28 (upd (sI (uN σ 5 (nI (cdDuct nj (pD H) a b ln wd))) 28) (pD H) a)) 29) (pD H) b)) 30 (vf_upd (sF (uI (uI (uN σ 5 (nI (cdDuct nj (pD H) a b ln wd))) 28 (upd (sI (uN σ 5 (nI (cdDuct nj (pD H) a b ln wd))) 28) (pD H) a)) 29 (upd (sI (uI (uN σ 5 (nI (cdDuct nj (pD H) a b ln wd))) 28 (upd (sI (uN σ 5 (nI (cdDuct nj (pD H) a b ln wd))) 28) (pD H) a)) 29) (pD H) b)) 30) (pD H) ln)) 31) (pD H) wd)) 7 (nI (pD H + 1))) (ty := .int) C dX7_duct_143 wl27 rfl 2 (by decide) 3 rfl rfl inX7_duct_X7 tyX7_ok nmX7 rfl (by decide +kernel) rfl rfl (Nat.le_of_ble_eq_true rfl) wsN7 ?_
                refine g_aload_n C dX7_duct_146 1 rfl rfl ?_
                refine g_iconst (v := nI 0) C dX7_duct_147 (by decide +kernel) ?_
                refine g_put (σ' := uN (uN (uF (uF (uI (uI (uN σ 5 (nI (cdDuct nj (pD H) a b ln wd))) 28 (upd (sI (uN σ 5 (nI (cdDuct nj (pD H) a b ln wd))) 28) (pD H) a)) 29 (upd (sI (uI (uN σ 5 (nI (cdDuct nj (pD H) a b ln wd))) 28 (upd (sI (uN σ 5 (nI (cdDuct nj (pD H) a b ln wd))) 28) (pD H) a)) 29) (pD H) b)) 30 (vf_upd (sF (uI (uI (uN σ 5 (nI (cdDuct nj (pD H) a b ln wd))) 28 (upd (sI (uN σ 5 (nI (cdDuct nj (pD H) a b ln wd))) 28) (pD H) a)) 29 (upd (sI (uI (uN σ 5 (nI (cdDuct nj (pD H) a b ln wd))) 28 (upd (sI (uN σ 5 (nI (cdDuct nj (pD H) a b ln wd))) 28) (pD H) a)) 29) (pD H) b)) 30) (pD H) ln)) 31 (vf_upd (sF (uF (uI (uI (uN σ 5 (nI (cdDuct nj (pD H) a b ln wd))) 28 (upd (sI (uN σ 5 (nI (cdDuct nj (pD H) a b ln wd))) 28) (pD H) a)) 29 (upd (sI (uI (uN σ 5 (nI (cdDuct nj (pD H) a b ln wd))) 28 (upd (sI (uN σ 5 (nI (cdDuct nj (pD H) a b ln wd))) 28) (pD H) a)) 29) (pD H) b)) 30 (vf_upd (sF (uI (uI (uN σ 5 (nI (cdDuct nj (pD H) a b ln wd))) 28 (upd (sI (uN σ 5 (nI (cdDuct nj (pD H) a b ln wd))) 28) (pD H) a)) 29 (upd (sI (uI (uN σ 5 (nI (cdDuct nj (pD H) a b ln wd))) 28 (upd (sI (uN σ 5 (nI (cdDuct nj (pD H) a b ln wd))) 28) (pD H) a)) 29) (pD H) b)) 30) (pD H) ln)) 31) (pD H) wd)) 7 (nI (pD H + 1))) 9 (nI 0)) (ty := .boolean) C dX7_duct_148 wl27 rfl 20 (by decide) 9 rfl rfl inX7_duct_X7 tyX7_ok nmX7 rfl (by decide +kernel) rfl rfl (Nat.le_of_ble_eq_true rfl) wsN9 ?_
                refine g_aload_n C dX7_duct_151 1 rfl rfl ?_
                refine g_get C dX7_duct_152 wl27 rfl 2 (by decide) 3 rfl rfl rfl inX7_duct_X7 ?_
                refine g_topi (y := nI (pD H + 1)) rfl ?_
                refine g_iconst (v := nI 1) C dX7_duct_155 (by decide +kernel) ?_
                refine g_isub C dX7_duct_156 ?_
                refine g_topi (y := nI (pD H)) (nI_pred _) ?_
                refine g_iret C dX7_duct_157 rfl ⟨Nat.le_of_ble_eq_true rfl, Nat.le_of_ble_eq_true rfl⟩ ?_
                rw [hF]
                exact ⟨fun h => absurd hc0 h, fun _ => ⟨rfl, by rw [hc0]; try rfl⟩⟩
              · have hc1 : cdDuct nj (pD H) a b ln wd ≠ 0 := fun h => c_90 (by rw [h]; decide)
                refine g_iconst (v := nI 0) C dX7_duct_93 (by decide +kernel) ?_
                refine g_iret C dX7_duct_94 rfl ⟨Nat.le_of_ble_eq_true rfl, Nat.le_of_ble_eq_true rfl⟩ ?_
                rw [hF]
                exact ⟨fun _ => ⟨rfl, rfl⟩, fun h => absurd h hc1⟩
            · have hcd : cdDuct nj (pD H) a b ln wd = 3 := (if_neg (fun h => h ⟨of_decide_eq_true (bIt c_45), of_decide_eq_true (bIt c_53)⟩)).trans ((if_neg (fun h => h hgd)).trans (if_pos (by
                have := (nI_eq (a := pD H) (b := 16) (by omega) (by decide)).mp (Decidable.byContradiction fun h => absurd c_75 h)
                omega)))
              refine g_iconst (v := nI 3) C dX7_duct_78 (by decide +kernel) ?_
              refine g_goto (tgt := 83) C dX7_duct_79 (by decide) ?_
              refine g_topi (y := nI (cdDuct nj (pD H) a b ln wd)) (by rw [hcd]) ?_
              refine g_put (σ' := uN σ 5 (nI (cdDuct nj (pD H) a b ln wd))) (ty := .int) C dX7_duct_83 wl27 rfl 0 (by decide) 4 rfl rfl inX7_duct_X7 tyX7_ok nmX7 rfl (by decide +kernel) rfl rfl (Nat.le_of_ble_eq_true rfl) wsN5 ?_
              refine g_aload_n C dX7_duct_86 1 rfl rfl ?_
              refine g_get C dX7_duct_87 wl27 rfl 0 (by decide) 4 rfl rfl rfl inX7_duct_X7 ?_
              refine g_topi (y := nI (cdDuct nj (pD H) a b ln wd)) rfl ?_
              refine g_if_le (tgt := 95) C dX7_duct_90 (by decide) (fun c_90 => ?_) (fun c_90 => ?_)
              · have hc0 : cdDuct nj (pD H) a b ln wd = 0 := nI_le0 (by omega) c_90
                refine g_aload_n C dX7_duct_95 1 rfl rfl ?_
                refine g_get C dX7_duct_96 wl27 rfl 3 (by decide) 5 rfl rfl rfl inX7_duct_X7 ?_
                refine g_aload_n C dX7_duct_99 1 rfl rfl ?_
                refine g_get C dX7_duct_100 wl27 rfl 2 (by decide) 3 rfl rfl rfl inX7_duct_X7 ?_
                refine g_topi (y := nI (pD H)) hM.nd ?_
                refine g_iload_n C dX7_duct_103 2 rfl rfl ?_
                refine g_iast (j := (pD H)) (σ' := uI (uN σ 5 (nI (cdDuct nj (pD H) a b ln wd))) 28 (upd (sI (uN σ 5 (nI (cdDuct nj (pD H) a b ln wd))) 28) (pD H) a)) C dX7_duct_104 wl28 rfl (by have := (cdDuct_0 hc0).2.2; omega) (by decide) wsA28 ?_
                refine g_aload_n C dX7_duct_105 1 rfl rfl ?_
                refine g_get C dX7_duct_106 wl27 rfl 4 (by decide) 6 rfl rfl rfl inX7_duct_X7 ?_
                refine g_aload_n C dX7_duct_109 1 rfl rfl ?_
                refine g_get C dX7_duct_110 wl27 rfl 2 (by decide) 3 rfl rfl rfl inX7_duct_X7 ?_
                refine g_topi (y := nI (pD H)) hM.nd ?_
                refine g_iload_n C dX7_duct_113 3 rfl rfl ?_
                refine g_iast (j := (pD H)) (σ' := uI (uI (uN σ 5 (nI (cdDuct nj (pD H) a b ln wd))) 28 (upd (sI (uN σ 5 (nI (cdDuct nj (pD H) a b ln wd))) 28) (pD H) a)) 29 (upd (sI (uI (uN σ 5 (nI (cdDuct nj (pD H) a b ln wd))) 28 (upd (sI (uN σ 5 (nI (cdDuct nj (pD H) a b ln wd))) 28) (pD H) a)) 29) (pD H) b)) C dX7_duct_114 wl29 rfl (by have := (cdDuct_0 hc0).2.2; omega) (by decide) wsA29 ?_
                refine g_aload_n C dX7_duct_115 1 rfl rfl ?_
                refine g_get C dX7_duct_116 wl27 rfl 5 (by decide) 7 rfl rfl rfl inX7_duct_X7 ?_
                refine g_aload_n C dX7_duct_119 1 rfl rfl ?_
                refine g_get C dX7_duct_120 wl27 rfl 2 (by decide) 3 rfl rfl rfl inX7_duct_X7 ?_
                refine g_topi (y := nI (pD H)) hM.nd ?_
                refine g_dload_n C dX7_duct_123 4 rfl rfl ?_
                refine g_dast (j := (pD H)) (σ' := uF (uI (uI (uN σ 5 (nI (cdDuct nj (pD H) a b ln wd))) 28 (upd (sI (uN σ 5 (nI (cdDuct nj (pD H) a b ln wd))) 28) (pD H) a)) 29 (upd (sI (uI (uN σ 5 (nI (cdDuct nj (pD H) a b ln wd))) 28 (upd (sI (uN σ 5 (nI (cdDuct nj (pD H) a b ln wd))) 28) (pD H) a)) 29) (pD H) b)) 30 (vf_upd (sF (uI (uI (uN σ 5 (nI (cdDuct nj (pD H) a b ln wd))) 28 (upd (sI (uN σ 5 (nI (cdDuct nj (pD H) a b ln wd))) 28) (pD H) a)) 29 (upd (sI (uI (uN σ 5 (nI (cdDuct nj (pD H) a b ln wd))) 28 (upd (sI (uN σ 5 (nI (cdDuct nj (pD H) a b ln wd))) 28) (pD H) a)) 29) (pD H) b)) 30) (pD H) ln)) C dX7_duct_124 wl30 rfl (by have := (cdDuct_0 hc0).2.2; omega) (by decide) wsA30 ?_
                refine g_aload_n C dX7_duct_125 1 rfl rfl ?_
                refine g_get C dX7_duct_126 wl27 rfl 6 (by decide) 8 rfl rfl rfl inX7_duct_X7 ?_
                refine g_aload_n C dX7_duct_129 1 rfl rfl ?_
                refine g_get C dX7_duct_130 wl27 rfl 2 (by decide) 3 rfl rfl rfl inX7_duct_X7 ?_
                refine g_topi (y := nI (pD H)) hM.nd ?_
                refine g_dload C dX7_duct_133 5 rfl ?_
                refine g_dast (j := (pD H)) (σ' := uF (uF (uI (uI (uN σ 5 (nI (cdDuct nj (pD H) a b ln wd))) 28 (upd (sI (uN σ 5 (nI (cdDuct nj (pD H) a b ln wd))) 28) (pD H) a)) 29 (upd (sI (uI (uN σ 5 (nI (cdDuct nj (pD H) a b ln wd))) 28 (upd (sI (uN σ 5 (nI (cdDuct nj (pD H) a b ln wd))) 28) (pD H) a)) 29) (pD H) b)) 30 (vf_upd (sF (uI (uI (uN σ 5 (nI (cdDuct nj (pD H) a b ln wd))) 28 (upd (sI (uN σ 5 (nI (cdDuct nj (pD H) a b ln wd))) 28) (pD H) a)) 29 (upd (sI (uI (uN σ 5 (nI (cdDuct nj (pD H) a b ln wd))) 28 (upd (sI (uN σ 5 (nI (cdDuct nj (pD H) a b ln wd))) 28) (pD H) a)) 29) (pD H) b)) 30) (pD H) ln)) 31 (vf_upd (sF (uF (uI (uI (uN σ 5 (nI (cdDuct nj (pD H) a b ln wd))) 28 (upd (sI (uN σ 5 (nI (cdDuct nj (pD H) a b ln wd))) 28) (pD H) a)) 29 (upd (sI (uI (uN σ 5 (nI (cdDuct nj (pD H) a b ln wd))) 28 (upd (sI (uN σ 5 (nI (cdDuct nj (pD H) a b ln wd))) 28) (pD H) a)) 29) (pD H) b)) 30 (vf_upd (sF (uI (uI (uN σ 5 (nI (cdDuct nj (pD H) a b ln wd))) 28 (upd (sI (uN σ 5 (nI (cdDuct nj (pD H) a b ln wd))) 28) (pD H) a)) 29 (upd (sI (uI (uN σ 5 (nI (cdDuct nj (pD H) a b ln wd))) 28 (upd (sI (uN σ 5 (nI (cdDuct nj (pD H) a b ln wd))) 28) (pD H) a)) 29) (pD H) b)) 30) (pD H) ln)) 31) (pD H) wd)) C dX7_duct_135 wl31 rfl (by have := (cdDuct_0 hc0).2.2; omega) (by decide) wsA31 ?_
                refine g_aload_n C dX7_duct_136 1 rfl rfl ?_
                refine g_dup C dX7_duct_137 rfl ?_
                refine g_get C dX7_duct_138 wl27 rfl 2 (by decide) 3 rfl rfl rfl inX7_duct_X7 ?_
                refine g_topi (y := nI (pD H)) hM.nd ?_
                refine g_iconst (v := nI 1) C dX7_duct_141 (by decide +kernel) ?_
                refine g_iadd C dX7_duct_142 ?_
                refine g_topi (y := nI (pD H + 1)) (nI_add _ 1) ?_
                refine g_put (σ' := uN (uF (uF (uI (uI (uN σ 5 (nI (cdDuct nj (pD H) a b ln wd))) 28 (upd (sI (uN σ 5 (nI (cdDuct nj (pD H) a b ln wd))) 28) (pD H) a)) 29 (upd (sI (uI (uN σ 5 (nI (cdDuct nj (pD H) a b ln wd))) 28 (upd (sI (uN σ 5 (nI (cdDuct nj (pD H) a b ln wd))) 28) (pD H) a)) 29) (pD H) b)) 30 (vf_upd (sF (uI (uI (uN σ 5 (nI (cdDuct nj (pD H) a b ln wd))) 28 (upd (sI (uN σ 5 (nI (cdDuct nj (pD H) a b ln wd))) 28) (pD H) a)) 29 (upd (sI (uI (uN σ 5 (nI (cdDuct nj (pD H) a b ln wd))) 28 (upd (sI (uN σ 5 (nI (cdDuct nj (pD H) a b ln wd))) 28) (pD H) a)) 29) (pD H) b)) 30) (pD H) ln)) 31 (vf_upd (sF (uF (uI (uI (uN σ 5 (nI (cdDuct nj (pD H) a b ln wd))) 28 (upd (sI (uN σ 5 (nI (cdDuct nj (pD H) a b ln wd))) 28) (pD H) a)) 29 (upd (sI (uI (uN σ 5 (nI (cdDuct nj (pD H) a b ln wd))) 28 (upd (sI (uN σ 5 (nI (cdDuct nj (pD H) a b ln wd))) 28) (pD H) a)) 29) (pD H) b)) 30 (vf_upd (sF (uI (uI (uN σ 5 (nI (cdDuct nj (pD H) a b ln wd))) 28 (upd (sI (uN σ 5 (nI (cdDuct nj (pD H) a b ln wd))) 28) (pD H) a)) 29 (upd (sI (uI (uN σ 5 (nI (cdDuct nj (pD H) a b ln wd))) 28 (upd (sI (uN σ 5 (nI (cdDuct nj (pD H) a b ln wd))) 28) (pD H) a)) 29) (pD H) b)) 30) (pD H) ln)) 31) (pD H) wd)) 7 (nI (pD H + 1))) (ty := .int) C dX7_duct_143 wl27 rfl 2 (by decide) 3 rfl rfl inX7_duct_X7 tyX7_ok nmX7 rfl (by decide +kernel) rfl rfl (Nat.le_of_ble_eq_true rfl) wsN7 ?_
                refine g_aload_n C dX7_duct_146 1 rfl rfl ?_
                refine g_iconst (v := nI 0) C dX7_duct_147 (by decide +kernel) ?_
                refine g_put (σ' := uN (uN (uF (uF (uI (uI (uN σ 5 (nI (cdDuct nj (pD H) a b ln wd))) 28 (upd (sI (uN σ 5 (nI (cdDuct nj (pD H) a b ln wd))) 28) (pD H) a)) 29 (upd (sI (uI (uN σ 5 (nI (cdDuct nj (pD H) a b ln wd))) 28 (upd (sI (uN σ 5 (nI (cdDuct nj (pD H) a b ln wd))) 28) (pD H) a)) 29) (pD H) b)) 30 (vf_upd (sF (uI (uI (uN σ 5 (nI (cdDuct nj (pD H) a b ln wd))) 28 (upd (sI (uN σ 5 (nI (cdDuct nj (pD H) a b ln wd))) 28) (pD H) a)) 29 (upd (sI (uI (uN σ 5 (nI (cdDuct nj (pD H) a b ln wd))) 28 (upd (sI (uN σ 5 (nI (cdDuct nj (pD H) a b ln wd))) 28) (pD H) a)) 29) (pD H) b)) 30) (pD H) ln)) 31 (vf_upd (sF (uF (uI (uI (uN σ 5 (nI (cdDuct nj (pD H) a b ln wd))) 28 (upd (sI (uN σ 5 (nI (cdDuct nj (pD H) a b ln wd))) 28) (pD H) a)) 29 (upd (sI (uI (uN σ 5 (nI (cdDuct nj (pD H) a b ln wd))) 28 (upd (sI (uN σ 5 (nI (cdDuct nj (pD H) a b ln wd))) 28) (pD H) a)) 29) (pD H) b)) 30 (vf_upd (sF (uI (uI (uN σ 5 (nI (cdDuct nj (pD H) a b ln wd))) 28 (upd (sI (uN σ 5 (nI (cdDuct nj (pD H) a b ln wd))) 28) (pD H) a)) 29 (upd (sI (uI (uN σ 5 (nI (cdDuct nj (pD H) a b ln wd))) 28 (upd (sI (uN σ 5 (nI (cdDuct nj (pD H) a b ln wd))) 28) (pD H) a)) 29) (pD H) b)) 30) (pD H) ln)) 31) (pD H) wd)) 7 (nI (pD H + 1))) 9 (nI 0)) (ty := .boolean) C dX7_duct_148 wl27 rfl 20 (by decide) 9 rfl rfl inX7_duct_X7 tyX7_ok nmX7 rfl (by decide +kernel) rfl rfl (Nat.le_of_ble_eq_true rfl) wsN9 ?_
                refine g_aload_n C dX7_duct_151 1 rfl rfl ?_
                refine g_get C dX7_duct_152 wl27 rfl 2 (by decide) 3 rfl rfl rfl inX7_duct_X7 ?_
                refine g_topi (y := nI (pD H + 1)) rfl ?_
                refine g_iconst (v := nI 1) C dX7_duct_155 (by decide +kernel) ?_
                refine g_isub C dX7_duct_156 ?_
                refine g_topi (y := nI (pD H)) (nI_pred _) ?_
                refine g_iret C dX7_duct_157 rfl ⟨Nat.le_of_ble_eq_true rfl, Nat.le_of_ble_eq_true rfl⟩ ?_
                rw [hF]
                exact ⟨fun h => absurd hc0 h, fun _ => ⟨rfl, by rw [hc0]; try rfl⟩⟩
              · have hc1 : cdDuct nj (pD H) a b ln wd ≠ 0 := fun h => c_90 (by rw [h]; decide)
                refine g_iconst (v := nI 0) C dX7_duct_93 (by decide +kernel) ?_
                refine g_iret C dX7_duct_94 rfl ⟨Nat.le_of_ble_eq_true rfl, Nat.le_of_ble_eq_true rfl⟩ ?_
                rw [hF]
                exact ⟨fun _ => ⟨rfl, rfl⟩, fun h => absurd h hc1⟩
          · have hgd : ¬ (a ≠ b ∧ wiB ln k125 k100 = true ∧ wiB wd k125 k100 = true) := fun h => by
              have h9 := (bI_ne _).mp c_62
              rw [gd_iff.mpr h] at h9
              cases h9
            have hcd : cdDuct nj (pD H) a b ln wd = 2 := (if_neg (fun h => h ⟨of_decide_eq_true (bIt c_45), of_decide_eq_true (bIt c_53)⟩)).trans (if_pos hgd)
            refine g_iconst (v := nI 2) C dX7_duct_65 (by decide +kernel) ?_
            refine g_goto (tgt := 83) C dX7_duct_66 (by decide) ?_
            refine g_topi (y := nI (cdDuct nj (pD H) a b ln wd)) (by rw [hcd]) ?_
            refine g_put (σ' := uN σ 5 (nI (cdDuct nj (pD H) a b ln wd))) (ty := .int) C dX7_duct_83 wl27 rfl 0 (by decide) 4 rfl rfl inX7_duct_X7 tyX7_ok nmX7 rfl (by decide +kernel) rfl rfl (Nat.le_of_ble_eq_true rfl) wsN5 ?_
            refine g_aload_n C dX7_duct_86 1 rfl rfl ?_
            refine g_get C dX7_duct_87 wl27 rfl 0 (by decide) 4 rfl rfl rfl inX7_duct_X7 ?_
            refine g_topi (y := nI (cdDuct nj (pD H) a b ln wd)) rfl ?_
            refine g_if_le (tgt := 95) C dX7_duct_90 (by decide) (fun c_90 => ?_) (fun c_90 => ?_)
            · have hc0 : cdDuct nj (pD H) a b ln wd = 0 := nI_le0 (by omega) c_90
              refine g_aload_n C dX7_duct_95 1 rfl rfl ?_
              refine g_get C dX7_duct_96 wl27 rfl 3 (by decide) 5 rfl rfl rfl inX7_duct_X7 ?_
              refine g_aload_n C dX7_duct_99 1 rfl rfl ?_
              refine g_get C dX7_duct_100 wl27 rfl 2 (by decide) 3 rfl rfl rfl inX7_duct_X7 ?_
              refine g_topi (y := nI (pD H)) hM.nd ?_
              refine g_iload_n C dX7_duct_103 2 rfl rfl ?_
              refine g_iast (j := (pD H)) (σ' := uI (uN σ 5 (nI (cdDuct nj (pD H) a b ln wd))) 28 (upd (sI (uN σ 5 (nI (cdDuct nj (pD H) a b ln wd))) 28) (pD H) a)) C dX7_duct_104 wl28 rfl (by have := (cdDuct_0 hc0).2.2; omega) (by decide) wsA28 ?_
              refine g_aload_n C dX7_duct_105 1 rfl rfl ?_
              refine g_get C dX7_duct_106 wl27 rfl 4 (by decide) 6 rfl rfl rfl inX7_duct_X7 ?_
              refine g_aload_n C dX7_duct_109 1 rfl rfl ?_
              refine g_get C dX7_duct_110 wl27 rfl 2 (by decide) 3 rfl rfl rfl inX7_duct_X7 ?_
              refine g_topi (y := nI (pD H)) hM.nd ?_
              refine g_iload_n C dX7_duct_113 3 rfl rfl ?_
              refine g_iast (j := (pD H)) (σ' := uI (uI (uN σ 5 (nI (cdDuct nj (pD H) a b ln wd))) 28 (upd (sI (uN σ 5 (nI (cdDuct nj (pD H) a b ln wd))) 28) (pD H) a)) 29 (upd (sI (uI (uN σ 5 (nI (cdDuct nj (pD H) a b ln wd))) 28 (upd (sI (uN σ 5 (nI (cdDuct nj (pD H) a b ln wd))) 28) (pD H) a)) 29) (pD H) b)) C dX7_duct_114 wl29 rfl (by have := (cdDuct_0 hc0).2.2; omega) (by decide) wsA29 ?_
              refine g_aload_n C dX7_duct_115 1 rfl rfl ?_
              refine g_get C dX7_duct_116 wl27 rfl 5 (by decide) 7 rfl rfl rfl inX7_duct_X7 ?_
              refine g_aload_n C dX7_duct_119 1 rfl rfl ?_
              refine g_get C dX7_duct_120 wl27 rfl 2 (by decide) 3 rfl rfl rfl inX7_duct_X7 ?_
              refine g_topi (y := nI (pD H)) hM.nd ?_
              refine g_dload_n C dX7_duct_123 4 rfl rfl ?_
              refine g_dast (j := (pD H)) (σ' := uF (uI (uI (uN σ 5 (nI (cdDuct nj (pD H) a b ln wd))) 28 (upd (sI (uN σ 5 (nI (cdDuct nj (pD H) a b ln wd))) 28) (pD H) a)) 29 (upd (sI (uI (uN σ 5 (nI (cdDuct nj (pD H) a b ln wd))) 28 (upd (sI (uN σ 5 (nI (cdDuct nj (pD H) a b ln wd))) 28) (pD H) a)) 29) (pD H) b)) 30 (vf_upd (sF (uI (uI (uN σ 5 (nI (cdDuct nj (pD H) a b ln wd))) 28 (upd (sI (uN σ 5 (nI (cdDuct nj (pD H) a b ln wd))) 28) (pD H) a)) 29 (upd (sI (uI (uN σ 5 (nI (cdDuct nj (pD H) a b ln wd))) 28 (upd (sI (uN σ 5 (nI (cdDuct nj (pD H) a b ln wd))) 28) (pD H) a)) 29) (pD H) b)) 30) (pD H) ln)) C dX7_duct_124 wl30 rfl (by have := (cdDuct_0 hc0).2.2; omega) (by decide) wsA30 ?_
              refine g_aload_n C dX7_duct_125 1 rfl rfl ?_
              refine g_get C dX7_duct_126 wl27 rfl 6 (by decide) 8 rfl rfl rfl inX7_duct_X7 ?_
              refine g_aload_n C dX7_duct_129 1 rfl rfl ?_
              refine g_get C dX7_duct_130 wl27 rfl 2 (by decide) 3 rfl rfl rfl inX7_duct_X7 ?_
              refine g_topi (y := nI (pD H)) hM.nd ?_
              refine g_dload C dX7_duct_133 5 rfl ?_
              refine g_dast (j := (pD H)) (σ' := uF (uF (uI (uI (uN σ 5 (nI (cdDuct nj (pD H) a b ln wd))) 28 (upd (sI (uN σ 5 (nI (cdDuct nj (pD H) a b ln wd))) 28) (pD H) a)) 29 (upd (sI (uI (uN σ 5 (nI (cdDuct nj (pD H) a b ln wd))) 28 (upd (sI (uN σ 5 (nI (cdDuct nj (pD H) a b ln wd))) 28) (pD H) a)) 29) (pD H) b)) 30 (vf_upd (sF (uI (uI (uN σ 5 (nI (cdDuct nj (pD H) a b ln wd))) 28 (upd (sI (uN σ 5 (nI (cdDuct nj (pD H) a b ln wd))) 28) (pD H) a)) 29 (upd (sI (uI (uN σ 5 (nI (cdDuct nj (pD H) a b ln wd))) 28 (upd (sI (uN σ 5 (nI (cdDuct nj (pD H) a b ln wd))) 28) (pD H) a)) 29) (pD H) b)) 30) (pD H) ln)) 31 (vf_upd (sF (uF (uI (uI (uN σ 5 (nI (cdDuct nj (pD H) a b ln wd))) 28 (upd (sI (uN σ 5 (nI (cdDuct nj (pD H) a b ln wd))) 28) (pD H) a)) 29 (upd (sI (uI (uN σ 5 (nI (cdDuct nj (pD H) a b ln wd))) 28 (upd (sI (uN σ 5 (nI (cdDuct nj (pD H) a b ln wd))) 28) (pD H) a)) 29) (pD H) b)) 30 (vf_upd (sF (uI (uI (uN σ 5 (nI (cdDuct nj (pD H) a b ln wd))) 28 (upd (sI (uN σ 5 (nI (cdDuct nj (pD H) a b ln wd))) 28) (pD H) a)) 29 (upd (sI (uI (uN σ 5 (nI (cdDuct nj (pD H) a b ln wd))) 28 (upd (sI (uN σ 5 (nI (cdDuct nj (pD H) a b ln wd))) 28) (pD H) a)) 29) (pD H) b)) 30) (pD H) ln)) 31) (pD H) wd)) C dX7_duct_135 wl31 rfl (by have := (cdDuct_0 hc0).2.2; omega) (by decide) wsA31 ?_
              refine g_aload_n C dX7_duct_136 1 rfl rfl ?_
              refine g_dup C dX7_duct_137 rfl ?_
              refine g_get C dX7_duct_138 wl27 rfl 2 (by decide) 3 rfl rfl rfl inX7_duct_X7 ?_
              refine g_topi (y := nI (pD H)) hM.nd ?_
              refine g_iconst (v := nI 1) C dX7_duct_141 (by decide +kernel) ?_
              refine g_iadd C dX7_duct_142 ?_
              refine g_topi (y := nI (pD H + 1)) (nI_add _ 1) ?_
              refine g_put (σ' := uN (uF (uF (uI (uI (uN σ 5 (nI (cdDuct nj (pD H) a b ln wd))) 28 (upd (sI (uN σ 5 (nI (cdDuct nj (pD H) a b ln wd))) 28) (pD H) a)) 29 (upd (sI (uI (uN σ 5 (nI (cdDuct nj (pD H) a b ln wd))) 28 (upd (sI (uN σ 5 (nI (cdDuct nj (pD H) a b ln wd))) 28) (pD H) a)) 29) (pD H) b)) 30 (vf_upd (sF (uI (uI (uN σ 5 (nI (cdDuct nj (pD H) a b ln wd))) 28 (upd (sI (uN σ 5 (nI (cdDuct nj (pD H) a b ln wd))) 28) (pD H) a)) 29 (upd (sI (uI (uN σ 5 (nI (cdDuct nj (pD H) a b ln wd))) 28 (upd (sI (uN σ 5 (nI (cdDuct nj (pD H) a b ln wd))) 28) (pD H) a)) 29) (pD H) b)) 30) (pD H) ln)) 31 (vf_upd (sF (uF (uI (uI (uN σ 5 (nI (cdDuct nj (pD H) a b ln wd))) 28 (upd (sI (uN σ 5 (nI (cdDuct nj (pD H) a b ln wd))) 28) (pD H) a)) 29 (upd (sI (uI (uN σ 5 (nI (cdDuct nj (pD H) a b ln wd))) 28 (upd (sI (uN σ 5 (nI (cdDuct nj (pD H) a b ln wd))) 28) (pD H) a)) 29) (pD H) b)) 30 (vf_upd (sF (uI (uI (uN σ 5 (nI (cdDuct nj (pD H) a b ln wd))) 28 (upd (sI (uN σ 5 (nI (cdDuct nj (pD H) a b ln wd))) 28) (pD H) a)) 29 (upd (sI (uI (uN σ 5 (nI (cdDuct nj (pD H) a b ln wd))) 28 (upd (sI (uN σ 5 (nI (cdDuct nj (pD H) a b ln wd))) 28) (pD H) a)) 29) (pD H) b)) 30) (pD H) ln)) 31) (pD H) wd)) 7 (nI (pD H + 1))) (ty := .int) C dX7_duct_143 wl27 rfl 2 (by decide) 3 rfl rfl inX7_duct_X7 tyX7_ok nmX7 rfl (by decide +kernel) rfl rfl (Nat.le_of_ble_eq_true rfl) wsN7 ?_
              refine g_aload_n C dX7_duct_146 1 rfl rfl ?_
              refine g_iconst (v := nI 0) C dX7_duct_147 (by decide +kernel) ?_
              refine g_put (σ' := uN (uN (uF (uF (uI (uI (uN σ 5 (nI (cdDuct nj (pD H) a b ln wd))) 28 (upd (sI (uN σ 5 (nI (cdDuct nj (pD H) a b ln wd))) 28) (pD H) a)) 29 (upd (sI (uI (uN σ 5 (nI (cdDuct nj (pD H) a b ln wd))) 28 (upd (sI (uN σ 5 (nI (cdDuct nj (pD H) a b ln wd))) 28) (pD H) a)) 29) (pD H) b)) 30 (vf_upd (sF (uI (uI (uN σ 5 (nI (cdDuct nj (pD H) a b ln wd))) 28 (upd (sI (uN σ 5 (nI (cdDuct nj (pD H) a b ln wd))) 28) (pD H) a)) 29 (upd (sI (uI (uN σ 5 (nI (cdDuct nj (pD H) a b ln wd))) 28 (upd (sI (uN σ 5 (nI (cdDuct nj (pD H) a b ln wd))) 28) (pD H) a)) 29) (pD H) b)) 30) (pD H) ln)) 31 (vf_upd (sF (uF (uI (uI (uN σ 5 (nI (cdDuct nj (pD H) a b ln wd))) 28 (upd (sI (uN σ 5 (nI (cdDuct nj (pD H) a b ln wd))) 28) (pD H) a)) 29 (upd (sI (uI (uN σ 5 (nI (cdDuct nj (pD H) a b ln wd))) 28 (upd (sI (uN σ 5 (nI (cdDuct nj (pD H) a b ln wd))) 28) (pD H) a)) 29) (pD H) b)) 30 (vf_upd (sF (uI (uI (uN σ 5 (nI (cdDuct nj (pD H) a b ln wd))) 28 (upd (sI (uN σ 5 (nI (cdDuct nj (pD H) a b ln wd))) 28) (pD H) a)) 29 (upd (sI (uI (uN σ 5 (nI (cdDuct nj (pD H) a b ln wd))) 28 (upd (sI (uN σ 5 (nI (cdDuct nj (pD H) a b ln wd))) 28) (pD H) a)) 29) (pD H) b)) 30) (pD H) ln)) 31) (pD H) wd)) 7 (nI (pD H + 1))) 9 (nI 0)) (ty := .boolean) C dX7_duct_148 wl27 rfl 20 (by decide) 9 rfl rfl inX7_duct_X7 tyX7_ok nmX7 rfl (by decide +kernel) rfl rfl (Nat.le_of_ble_eq_true rfl) wsN9 ?_
              refine g_aload_n C dX7_duct_151 1 rfl rfl ?_
              refine g_get C dX7_duct_152 wl27 rfl 2 (by decide) 3 rfl rfl rfl inX7_duct_X7 ?_
              refine g_topi (y := nI (pD H + 1)) rfl ?_
              refine g_iconst (v := nI 1) C dX7_duct_155 (by decide +kernel) ?_
              refine g_isub C dX7_duct_156 ?_
              refine g_topi (y := nI (pD H)) (nI_pred _) ?_
              refine g_iret C dX7_duct_157 rfl ⟨Nat.le_of_ble_eq_true rfl, Nat.le_of_ble_eq_true rfl⟩ ?_
              rw [hF]
              exact ⟨fun h => absurd hc0 h, fun _ => ⟨rfl, by rw [hc0]; try rfl⟩⟩
            · have hc1 : cdDuct nj (pD H) a b ln wd ≠ 0 := fun h => c_90 (by rw [h]; decide)
              refine g_iconst (v := nI 0) C dX7_duct_93 (by decide +kernel) ?_
              refine g_iret C dX7_duct_94 rfl ⟨Nat.le_of_ble_eq_true rfl, Nat.le_of_ble_eq_true rfl⟩ ?_
              rw [hF]
              exact ⟨fun _ => ⟨rfl, rfl⟩, fun h => absurd h hc1⟩
        · have hcd : cdDuct nj (pD H) a b ln wd = 1 := if_pos (fun h => absurd h.2 (of_decide_eq_false ((bI_ne _).mp c_53)))
          refine g_iconst (v := nI 1) C dX7_duct_56 (by decide +kernel) ?_
          refine g_goto (tgt := 83) C dX7_duct_57 (by decide) ?_
          refine g_topi (y := nI (cdDuct nj (pD H) a b ln wd)) (by rw [hcd]) ?_
          refine g_put (σ' := uN σ 5 (nI (cdDuct nj (pD H) a b ln wd))) (ty := .int) C dX7_duct_83 wl27 rfl 0 (by decide) 4 rfl rfl inX7_duct_X7 tyX7_ok nmX7 rfl (by decide +kernel) rfl rfl (Nat.le_of_ble_eq_true rfl) wsN5 ?_
          refine g_aload_n C dX7_duct_86 1 rfl rfl ?_
          refine g_get C dX7_duct_87 wl27 rfl 0 (by decide) 4 rfl rfl rfl inX7_duct_X7 ?_
          refine g_topi (y := nI (cdDuct nj (pD H) a b ln wd)) rfl ?_
          refine g_if_le (tgt := 95) C dX7_duct_90 (by decide) (fun c_90 => ?_) (fun c_90 => ?_)
          · have hc0 : cdDuct nj (pD H) a b ln wd = 0 := nI_le0 (by omega) c_90
            refine g_aload_n C dX7_duct_95 1 rfl rfl ?_
            refine g_get C dX7_duct_96 wl27 rfl 3 (by decide) 5 rfl rfl rfl inX7_duct_X7 ?_
            refine g_aload_n C dX7_duct_99 1 rfl rfl ?_
            refine g_get C dX7_duct_100 wl27 rfl 2 (by decide) 3 rfl rfl rfl inX7_duct_X7 ?_
            refine g_topi (y := nI (pD H)) hM.nd ?_
            refine g_iload_n C dX7_duct_103 2 rfl rfl ?_
            refine g_iast (j := (pD H)) (σ' := uI (uN σ 5 (nI (cdDuct nj (pD H) a b ln wd))) 28 (upd (sI (uN σ 5 (nI (cdDuct nj (pD H) a b ln wd))) 28) (pD H) a)) C dX7_duct_104 wl28 rfl (by have := (cdDuct_0 hc0).2.2; omega) (by decide) wsA28 ?_
            refine g_aload_n C dX7_duct_105 1 rfl rfl ?_
            refine g_get C dX7_duct_106 wl27 rfl 4 (by decide) 6 rfl rfl rfl inX7_duct_X7 ?_
            refine g_aload_n C dX7_duct_109 1 rfl rfl ?_
            refine g_get C dX7_duct_110 wl27 rfl 2 (by decide) 3 rfl rfl rfl inX7_duct_X7 ?_
            refine g_topi (y := nI (pD H)) hM.nd ?_
            refine g_iload_n C dX7_duct_113 3 rfl rfl ?_
            refine g_iast (j := (pD H)) (σ' := uI (uI (uN σ 5 (nI (cdDuct nj (pD H) a b ln wd))) 28 (upd (sI (uN σ 5 (nI (cdDuct nj (pD H) a b ln wd))) 28) (pD H) a)) 29 (upd (sI (uI (uN σ 5 (nI (cdDuct nj (pD H) a b ln wd))) 28 (upd (sI (uN σ 5 (nI (cdDuct nj (pD H) a b ln wd))) 28) (pD H) a)) 29) (pD H) b)) C dX7_duct_114 wl29 rfl (by have := (cdDuct_0 hc0).2.2; omega) (by decide) wsA29 ?_
            refine g_aload_n C dX7_duct_115 1 rfl rfl ?_
            refine g_get C dX7_duct_116 wl27 rfl 5 (by decide) 7 rfl rfl rfl inX7_duct_X7 ?_
            refine g_aload_n C dX7_duct_119 1 rfl rfl ?_
            refine g_get C dX7_duct_120 wl27 rfl 2 (by decide) 3 rfl rfl rfl inX7_duct_X7 ?_
            refine g_topi (y := nI (pD H)) hM.nd ?_
            refine g_dload_n C dX7_duct_123 4 rfl rfl ?_
            refine g_dast (j := (pD H)) (σ' := uF (uI (uI (uN σ 5 (nI (cdDuct nj (pD H) a b ln wd))) 28 (upd (sI (uN σ 5 (nI (cdDuct nj (pD H) a b ln wd))) 28) (pD H) a)) 29 (upd (sI (uI (uN σ 5 (nI (cdDuct nj (pD H) a b ln wd))) 28 (upd (sI (uN σ 5 (nI (cdDuct nj (pD H) a b ln wd))) 28) (pD H) a)) 29) (pD H) b)) 30 (vf_upd (sF (uI (uI (uN σ 5 (nI (cdDuct nj (pD H) a b ln wd))) 28 (upd (sI (uN σ 5 (nI (cdDuct nj (pD H) a b ln wd))) 28) (pD H) a)) 29 (upd (sI (uI (uN σ 5 (nI (cdDuct nj (pD H) a b ln wd))) 28 (upd (sI (uN σ 5 (nI (cdDuct nj (pD H) a b ln wd))) 28) (pD H) a)) 29) (pD H) b)) 30) (pD H) ln)) C dX7_duct_124 wl30 rfl (by have := (cdDuct_0 hc0).2.2; omega) (by decide) wsA30 ?_
            refine g_aload_n C dX7_duct_125 1 rfl rfl ?_
            refine g_get C dX7_duct_126 wl27 rfl 6 (by decide) 8 rfl rfl rfl inX7_duct_X7 ?_
            refine g_aload_n C dX7_duct_129 1 rfl rfl ?_
            refine g_get C dX7_duct_130 wl27 rfl 2 (by decide) 3 rfl rfl rfl inX7_duct_X7 ?_
            refine g_topi (y := nI (pD H)) hM.nd ?_
            refine g_dload C dX7_duct_133 5 rfl ?_
            refine g_dast (j := (pD H)) (σ' := uF (uF (uI (uI (uN σ 5 (nI (cdDuct nj (pD H) a b ln wd))) 28 (upd (sI (uN σ 5 (nI (cdDuct nj (pD H) a b ln wd))) 28) (pD H) a)) 29 (upd (sI (uI (uN σ 5 (nI (cdDuct nj (pD H) a b ln wd))) 28 (upd (sI (uN σ 5 (nI (cdDuct nj (pD H) a b ln wd))) 28) (pD H) a)) 29) (pD H) b)) 30 (vf_upd (sF (uI (uI (uN σ 5 (nI (cdDuct nj (pD H) a b ln wd))) 28 (upd (sI (uN σ 5 (nI (cdDuct nj (pD H) a b ln wd))) 28) (pD H) a)) 29 (upd (sI (uI (uN σ 5 (nI (cdDuct nj (pD H) a b ln wd))) 28 (upd (sI (uN σ 5 (nI (cdDuct nj (pD H) a b ln wd))) 28) (pD H) a)) 29) (pD H) b)) 30) (pD H) ln)) 31 (vf_upd (sF (uF (uI (uI (uN σ 5 (nI (cdDuct nj (pD H) a b ln wd))) 28 (upd (sI (uN σ 5 (nI (cdDuct nj (pD H) a b ln wd))) 28) (pD H) a)) 29 (upd (sI (uI (uN σ 5 (nI (cdDuct nj (pD H) a b ln wd))) 28 (upd (sI (uN σ 5 (nI (cdDuct nj (pD H) a b ln wd))) 28) (pD H) a)) 29) (pD H) b)) 30 (vf_upd (sF (uI (uI (uN σ 5 (nI (cdDuct nj (pD H) a b ln wd))) 28 (upd (sI (uN σ 5 (nI (cdDuct nj (pD H) a b ln wd))) 28) (pD H) a)) 29 (upd (sI (uI (uN σ 5 (nI (cdDuct nj (pD H) a b ln wd))) 28 (upd (sI (uN σ 5 (nI (cdDuct nj (pD H) a b ln wd))) 28) (pD H) a)) 29) (pD H) b)) 30) (pD H) ln)) 31) (pD H) wd)) C dX7_duct_135 wl31 rfl (by have := (cdDuct_0 hc0).2.2; omega) (by decide) wsA31 ?_
            refine g_aload_n C dX7_duct_136 1 rfl rfl ?_
            refine g_dup C dX7_duct_137 rfl ?_
            refine g_get C dX7_duct_138 wl27 rfl 2 (by decide) 3 rfl rfl rfl inX7_duct_X7 ?_
            refine g_topi (y := nI (pD H)) hM.nd ?_
            refine g_iconst (v := nI 1) C dX7_duct_141 (by decide +kernel) ?_
            refine g_iadd C dX7_duct_142 ?_
            refine g_topi (y := nI (pD H + 1)) (nI_add _ 1) ?_
            refine g_put (σ' := uN (uF (uF (uI (uI (uN σ 5 (nI (cdDuct nj (pD H) a b ln wd))) 28 (upd (sI (uN σ 5 (nI (cdDuct nj (pD H) a b ln wd))) 28) (pD H) a)) 29 (upd (sI (uI (uN σ 5 (nI (cdDuct nj (pD H) a b ln wd))) 28 (upd (sI (uN σ 5 (nI (cdDuct nj (pD H) a b ln wd))) 28) (pD H) a)) 29) (pD H) b)) 30 (vf_upd (sF (uI (uI (uN σ 5 (nI (cdDuct nj (pD H) a b ln wd))) 28 (upd (sI (uN σ 5 (nI (cdDuct nj (pD H) a b ln wd))) 28) (pD H) a)) 29 (upd (sI (uI (uN σ 5 (nI (cdDuct nj (pD H) a b ln wd))) 28 (upd (sI (uN σ 5 (nI (cdDuct nj (pD H) a b ln wd))) 28) (pD H) a)) 29) (pD H) b)) 30) (pD H) ln)) 31 (vf_upd (sF (uF (uI (uI (uN σ 5 (nI (cdDuct nj (pD H) a b ln wd))) 28 (upd (sI (uN σ 5 (nI (cdDuct nj (pD H) a b ln wd))) 28) (pD H) a)) 29 (upd (sI (uI (uN σ 5 (nI (cdDuct nj (pD H) a b ln wd))) 28 (upd (sI (uN σ 5 (nI (cdDuct nj (pD H) a b ln wd))) 28) (pD H) a)) 29) (pD H) b)) 30 (vf_upd (sF (uI (uI (uN σ 5 (nI (cdDuct nj (pD H) a b ln wd))) 28 (upd (sI (uN σ 5 (nI (cdDuct nj (pD H) a b ln wd))) 28) (pD H) a)) 29 (upd (sI (uI (uN σ 5 (nI (cdDuct nj (pD H) a b ln wd))) 28 (upd (sI (uN σ 5 (nI (cdDuct nj (pD H) a b ln wd))) 28) (pD H) a)) 29) (pD H) b)) 30) (pD H) ln)) 31) (pD H) wd)) 7 (nI (pD H + 1))) (ty := .int) C dX7_duct_143 wl27 rfl 2 (by decide) 3 rfl rfl inX7_duct_X7 tyX7_ok nmX7 rfl (by decide +kernel) rfl rfl (Nat.le_of_ble_eq_true rfl) wsN7 ?_
            refine g_aload_n C dX7_duct_146 1 rfl rfl ?_
            refine g_iconst (v := nI 0) C dX7_duct_147 (by decide +kernel) ?_
            refine g_put (σ' := uN (uN (uF (uF (uI (uI (uN σ 5 (nI (cdDuct nj (pD H) a b ln wd))) 28 (upd (sI (uN σ 5 (nI (cdDuct nj (pD H) a b ln wd))) 28) (pD H) a)) 29 (upd (sI (uI (uN σ 5 (nI (cdDuct nj (pD H) a b ln wd))) 28 (upd (sI (uN σ 5 (nI (cdDuct nj (pD H) a b ln wd))) 28) (pD H) a)) 29) (pD H) b)) 30 (vf_upd (sF (uI (uI (uN σ 5 (nI (cdDuct nj (pD H) a b ln wd))) 28 (upd (sI (uN σ 5 (nI (cdDuct nj (pD H) a b ln wd))) 28) (pD H) a)) 29 (upd (sI (uI (uN σ 5 (nI (cdDuct nj (pD H) a b ln wd))) 28 (upd (sI (uN σ 5 (nI (cdDuct nj (pD H) a b ln wd))) 28) (pD H) a)) 29) (pD H) b)) 30) (pD H) ln)) 31 (vf_upd (sF (uF (uI (uI (uN σ 5 (nI (cdDuct nj (pD H) a b ln wd))) 28 (upd (sI (uN σ 5 (nI (cdDuct nj (pD H) a b ln wd))) 28) (pD H) a)) 29 (upd (sI (uI (uN σ 5 (nI (cdDuct nj (pD H) a b ln wd))) 28 (upd (sI (uN σ 5 (nI (cdDuct nj (pD H) a b ln wd))) 28) (pD H) a)) 29) (pD H) b)) 30 (vf_upd (sF (uI (uI (uN σ 5 (nI (cdDuct nj (pD H) a b ln wd))) 28 (upd (sI (uN σ 5 (nI (cdDuct nj (pD H) a b ln wd))) 28) (pD H) a)) 29 (upd (sI (uI (uN σ 5 (nI (cdDuct nj (pD H) a b ln wd))) 28 (upd (sI (uN σ 5 (nI (cdDuct nj (pD H) a b ln wd))) 28) (pD H) a)) 29) (pD H) b)) 30) (pD H) ln)) 31) (pD H) wd)) 7 (nI (pD H + 1))) 9 (nI 0)) (ty := .boolean) C dX7_duct_148 wl27 rfl 20 (by decide) 9 rfl rfl inX7_duct_X7 tyX7_ok nmX7 rfl (by decide +kernel) rfl rfl (Nat.le_of_ble_eq_true rfl) wsN9 ?_
            refine g_aload_n C dX7_duct_151 1 rfl rfl ?_
            refine g_get C dX7_duct_152 wl27 rfl 2 (by decide) 3 rfl rfl rfl inX7_duct_X7 ?_
            refine g_topi (y := nI (pD H + 1)) rfl ?_
            refine g_iconst (v := nI 1) C dX7_duct_155 (by decide +kernel) ?_
            refine g_isub C dX7_duct_156 ?_
            refine g_topi (y := nI (pD H)) (nI_pred _) ?_
            refine g_iret C dX7_duct_157 rfl ⟨Nat.le_of_ble_eq_true rfl, Nat.le_of_ble_eq_true rfl⟩ ?_
            rw [hF]
            exact ⟨fun h => absurd hc0 h, fun _ => ⟨rfl, by rw [hc0]; try rfl⟩⟩
          · have hc1 : cdDuct nj (pD H) a b ln wd ≠ 0 := fun h => c_90 (by rw [h]; decide)
            refine g_iconst (v := nI 0) C dX7_duct_93 (by decide +kernel) ?_
            refine g_iret C dX7_duct_94 rfl ⟨Nat.le_of_ble_eq_true rfl, Nat.le_of_ble_eq_true rfl⟩ ?_
            rw [hF]
            exact ⟨fun _ => ⟨rfl, rfl⟩, fun h => absurd h hc1⟩
    · refine g_dload C dX7_duct_18 4 rfl ?_
      refine g_ldc2d (v := 4593671619917905920) C dX7_duct_20 1 rfl ?_
      refine g_ldc2d (v := 4636737291354636288) C dX7_duct_23 2 rfl ?_
      refine g_callS (As := [.double wd, .double 4593671619917905920, .double 4636737291354636288]) (rest := []) C dX7_duct_26 (kX7_between (xl X) (xK X) C.hD σ wd k125 k100) 3 gX7_duct_X7_between rfl (by decide +kernel) ⟨Nat.le_of_ble_eq_true rfl, Nat.le_of_ble_eq_true rfl⟩ ⟨Nat.le_of_ble_eq_true rfl, Nat.le_of_ble_eq_true rfl⟩ rfl rfl (Nat.le_of_ble_eq_true rfl) (fun rv9 σ9 h9 => ?_)
      obtain ⟨h9a, h9b⟩ := h9
      refine g_eq (σ2 := σ) (lv2 := [(0, .ref ((xK X).2.2 27)), (1, .int a), (2, .int b), (3, .double ln), (5, .double wd)]) (st2 := [.int (bI (wiB wd k125 k100))]) h9b rfl (by rw [h9a]; rfl) ?_
      refine g_if_eq (tgt := 36) C dX7_duct_29 (by decide) (fun c_29 => ?_) (fun c_29 => ?_)
      · refine g_iconst (v := nI 0) C dX7_duct_36 (by decide +kernel) ?_
        refine g_topi (y := bI (gdB a b ln wd)) (by unfold gdB; first | (rw [decide_eq_false (show ¬ a ≠ b from fun h => h c_2)]; rfl) | (rw [decide_eq_true (show a ≠ b from c_2), (bI_ne _).mp c_15]; rfl) | (rw [decide_eq_true (show a ≠ b from c_2), bIt c_15, (bI_ne _).mp c_29]; rfl) | (rw [decide_eq_true (show a ≠ b from c_2), bIt c_15, bIt c_29]; rfl)) ?_
        refine g_istore (lv' := [(7, .int (bI (gdB a b ln wd))), (0, .ref ((xK X).2.2 27)), (1, .int a), (2, .int b), (3, .double ln), (5, .double wd)]) C dX7_duct_37 (by decide) rfl ?_
        refine g_aload_n C dX7_duct_39 1 rfl rfl ?_
        refine g_aload_n C dX7_duct_40 1 rfl rfl ?_
        refine g_iload_n C dX7_duct_41 2 rfl rfl ?_
        refine g_callV (As := [.int a]) (rest := [.ref ((xK X).2.2 27)]) C dX7_duct_42 (kX7_isJoint (xl X) (xK X) C.hD σ hM.j.1 hM.j.2.2 a) wl27 rfl 1 gX7_duct_X7_isJoint rfl (by decide +kernel) ⟨Nat.le_of_ble_eq_true rfl, Nat.le_of_ble_eq_true rfl⟩ ⟨Nat.le_of_ble_eq_true rfl, Nat.le_of_ble_eq_true rfl⟩ rfl rfl (Nat.le_of_ble_eq_true rfl) (fun rv9 σ9 h9 => ?_)
        obtain ⟨h9a, h9b⟩ := h9
        refine g_eq (σ2 := σ) (lv2 := [(7, .int (bI (gdB a b ln wd))), (0, .ref ((xK X).2.2 27)), (1, .int a), (2, .int b), (3, .double ln), (5, .double wd)]) (st2 := [.int (bI (decide (inR a nj))), .ref ((xK X).2.2 27)]) h9b rfl (by rw [h9a]; rfl) ?_
        refine g_if_eq (tgt := 56) C dX7_duct_45 (by decide) (fun c_45 => ?_) (fun c_45 => ?_)
        · have hcd : cdDuct nj (pD H) a b ln wd = 1 := if_pos (fun h => absurd h.1 (of_decide_eq_false ((bI_ne _).mp c_45)))
          refine g_iconst (v := nI 1) C dX7_duct_56 (by decide +kernel) ?_
          refine g_goto (tgt := 83) C dX7_duct_57 (by decide) ?_
          refine g_topi (y := nI (cdDuct nj (pD H) a b ln wd)) (by rw [hcd]) ?_
          refine g_put (σ' := uN σ 5 (nI (cdDuct nj (pD H) a b ln wd))) (ty := .int) C dX7_duct_83 wl27 rfl 0 (by decide) 4 rfl rfl inX7_duct_X7 tyX7_ok nmX7 rfl (by decide +kernel) rfl rfl (Nat.le_of_ble_eq_true rfl) wsN5 ?_
          refine g_aload_n C dX7_duct_86 1 rfl rfl ?_
          refine g_get C dX7_duct_87 wl27 rfl 0 (by decide) 4 rfl rfl rfl inX7_duct_X7 ?_
          refine g_topi (y := nI (cdDuct nj (pD H) a b ln wd)) rfl ?_
          refine g_if_le (tgt := 95) C dX7_duct_90 (by decide) (fun c_90 => ?_) (fun c_90 => ?_)
          · have hc0 : cdDuct nj (pD H) a b ln wd = 0 := nI_le0 (by omega) c_90
            refine g_aload_n C dX7_duct_95 1 rfl rfl ?_
            refine g_get C dX7_duct_96 wl27 rfl 3 (by decide) 5 rfl rfl rfl inX7_duct_X7 ?_
            refine g_aload_n C dX7_duct_99 1 rfl rfl ?_
            refine g_get C dX7_duct_100 wl27 rfl 2 (by decide) 3 rfl rfl rfl inX7_duct_X7 ?_
            refine g_topi (y := nI (pD H)) hM.nd ?_
            refine g_iload_n C dX7_duct_103 2 rfl rfl ?_
            refine g_iast (j := (pD H)) (σ' := uI (uN σ 5 (nI (cdDuct nj (pD H) a b ln wd))) 28 (upd (sI (uN σ 5 (nI (cdDuct nj (pD H) a b ln wd))) 28) (pD H) a)) C dX7_duct_104 wl28 rfl (by have := (cdDuct_0 hc0).2.2; omega) (by decide) wsA28 ?_
            refine g_aload_n C dX7_duct_105 1 rfl rfl ?_
            refine g_get C dX7_duct_106 wl27 rfl 4 (by decide) 6 rfl rfl rfl inX7_duct_X7 ?_
            refine g_aload_n C dX7_duct_109 1 rfl rfl ?_
            refine g_get C dX7_duct_110 wl27 rfl 2 (by decide) 3 rfl rfl rfl inX7_duct_X7 ?_
            refine g_topi (y := nI (pD H)) hM.nd ?_
            refine g_iload_n C dX7_duct_113 3 rfl rfl ?_
            refine g_iast (j := (pD H)) (σ' := uI (uI (uN σ 5 (nI (cdDuct nj (pD H) a b ln wd))) 28 (upd (sI (uN σ 5 (nI (cdDuct nj (pD H) a b ln wd))) 28) (pD H) a)) 29 (upd (sI (uI (uN σ 5 (nI (cdDuct nj (pD H) a b ln wd))) 28 (upd (sI (uN σ 5 (nI (cdDuct nj (pD H) a b ln wd))) 28) (pD H) a)) 29) (pD H) b)) C dX7_duct_114 wl29 rfl (by have := (cdDuct_0 hc0).2.2; omega) (by decide) wsA29 ?_
            refine g_aload_n C dX7_duct_115 1 rfl rfl ?_
            refine g_get C dX7_duct_116 wl27 rfl 5 (by decide) 7 rfl rfl rfl inX7_duct_X7 ?_
            refine g_aload_n C dX7_duct_119 1 rfl rfl ?_
            refine g_get C dX7_duct_120 wl27 rfl 2 (by decide) 3 rfl rfl rfl inX7_duct_X7 ?_
            refine g_topi (y := nI (pD H)) hM.nd ?_
            refine g_dload_n C dX7_duct_123 4 rfl rfl ?_
            refine g_dast (j := (pD H)) (σ' := uF (uI (uI (uN σ 5 (nI (cdDuct nj (pD H) a b ln wd))) 28 (upd (sI (uN σ 5 (nI (cdDuct nj (pD H) a b ln wd))) 28) (pD H) a)) 29 (upd (sI (uI (uN σ 5 (nI (cdDuct nj (pD H) a b ln wd))) 28 (upd (sI (uN σ 5 (nI (cdDuct nj (pD H) a b ln wd))) 28) (pD H) a)) 29) (pD H) b)) 30 (vf_upd (sF (uI (uI (uN σ 5 (nI (cdDuct nj (pD H) a b ln wd))) 28 (upd (sI (uN σ 5 (nI (cdDuct nj (pD H) a b ln wd))) 28) (pD H) a)) 29 (upd (sI (uI (uN σ 5 (nI (cdDuct nj (pD H) a b ln wd))) 28 (upd (sI (uN σ 5 (nI (cdDuct nj (pD H) a b ln wd))) 28) (pD H) a)) 29) (pD H) b)) 30) (pD H) ln)) C dX7_duct_124 wl30 rfl (by have := (cdDuct_0 hc0).2.2; omega) (by decide) wsA30 ?_
            refine g_aload_n C dX7_duct_125 1 rfl rfl ?_
            refine g_get C dX7_duct_126 wl27 rfl 6 (by decide) 8 rfl rfl rfl inX7_duct_X7 ?_
            refine g_aload_n C dX7_duct_129 1 rfl rfl ?_
            refine g_get C dX7_duct_130 wl27 rfl 2 (by decide) 3 rfl rfl rfl inX7_duct_X7 ?_
            refine g_topi (y := nI (pD H)) hM.nd ?_
            refine g_dload C dX7_duct_133 5 rfl ?_
            refine g_dast (j := (pD H)) (σ' := uF (uF (uI (uI (uN σ 5 (nI (cdDuct nj (pD H) a b ln wd))) 28 (upd (sI (uN σ 5 (nI (cdDuct nj (pD H) a b ln wd))) 28) (pD H) a)) 29 (upd (sI (uI (uN σ 5 (nI (cdDuct nj (pD H) a b ln wd))) 28 (upd (sI (uN σ 5 (nI (cdDuct nj (pD H) a b ln wd))) 28) (pD H) a)) 29) (pD H) b)) 30 (vf_upd (sF (uI (uI (uN σ 5 (nI (cdDuct nj (pD H) a b ln wd))) 28 (upd (sI (uN σ 5 (nI (cdDuct nj (pD H) a b ln wd))) 28) (pD H) a)) 29 (upd (sI (uI (uN σ 5 (nI (cdDuct nj (pD H) a b ln wd))) 28 (upd (sI (uN σ 5 (nI (cdDuct nj (pD H) a b ln wd))) 28) (pD H) a)) 29) (pD H) b)) 30) (pD H) ln)) 31 (vf_upd (sF (uF (uI (uI (uN σ 5 (nI (cdDuct nj (pD H) a b ln wd))) 28 (upd (sI (uN σ 5 (nI (cdDuct nj (pD H) a b ln wd))) 28) (pD H) a)) 29 (upd (sI (uI (uN σ 5 (nI (cdDuct nj (pD H) a b ln wd))) 28 (upd (sI (uN σ 5 (nI (cdDuct nj (pD H) a b ln wd))) 28) (pD H) a)) 29) (pD H) b)) 30 (vf_upd (sF (uI (uI (uN σ 5 (nI (cdDuct nj (pD H) a b ln wd))) 28 (upd (sI (uN σ 5 (nI (cdDuct nj (pD H) a b ln wd))) 28) (pD H) a)) 29 (upd (sI (uI (uN σ 5 (nI (cdDuct nj (pD H) a b ln wd))) 28 (upd (sI (uN σ 5 (nI (cdDuct nj (pD H) a b ln wd))) 28) (pD H) a)) 29) (pD H) b)) 30) (pD H) ln)) 31) (pD H) wd)) C dX7_duct_135 wl31 rfl (by have := (cdDuct_0 hc0).2.2; omega) (by decide) wsA31 ?_
            refine g_aload_n C dX7_duct_136 1 rfl rfl ?_
            refine g_dup C dX7_duct_137 rfl ?_
            refine g_get C dX7_duct_138 wl27 rfl 2 (by decide) 3 rfl rfl rfl inX7_duct_X7 ?_
            refine g_topi (y := nI (pD H)) hM.nd ?_
            refine g_iconst (v := nI 1) C dX7_duct_141 (by decide +kernel) ?_
            refine g_iadd C dX7_duct_142 ?_
            refine g_topi (y := nI (pD H + 1)) (nI_add _ 1) ?_
            refine g_put (σ' := uN (uF (uF (uI (uI (uN σ 5 (nI (cdDuct nj (pD H) a b ln wd))) 28 (upd (sI (uN σ 5 (nI (cdDuct nj (pD H) a b ln wd))) 28) (pD H) a)) 29 (upd (sI (uI (uN σ 5 (nI (cdDuct nj (pD H) a b ln wd))) 28 (upd (sI (uN σ 5 (nI (cdDuct nj (pD H) a b ln wd))) 28) (pD H) a)) 29) (pD H) b)) 30 (vf_upd (sF (uI (uI (uN σ 5 (nI (cdDuct nj (pD H) a b ln wd))) 28 (upd (sI (uN σ 5 (nI (cdDuct nj (pD H) a b ln wd))) 28) (pD H) a)) 29 (upd (sI (uI (uN σ 5 (nI (cdDuct nj (pD H) a b ln wd))) 28 (upd (sI (uN σ 5 (nI (cdDuct nj (pD H) a b ln wd))) 28) (pD H) a)) 29) (pD H) b)) 30) (pD H) ln)) 31 (vf_upd (sF (uF (uI (uI (uN σ 5 (nI (cdDuct nj (pD H) a b ln wd))) 28 (upd (sI (uN σ 5 (nI (cdDuct nj (pD H) a b ln wd))) 28) (pD H) a)) 29 (upd (sI (uI (uN σ 5 (nI (cdDuct nj (pD H) a b ln wd))) 28 (upd (sI (uN σ 5 (nI (cdDuct nj (pD H) a b ln wd))) 28) (pD H) a)) 29) (pD H) b)) 30 (vf_upd (sF (uI (uI (uN σ 5 (nI (cdDuct nj (pD H) a b ln wd))) 28 (upd (sI (uN σ 5 (nI (cdDuct nj (pD H) a b ln wd))) 28) (pD H) a)) 29 (upd (sI (uI (uN σ 5 (nI (cdDuct nj (pD H) a b ln wd))) 28 (upd (sI (uN σ 5 (nI (cdDuct nj (pD H) a b ln wd))) 28) (pD H) a)) 29) (pD H) b)) 30) (pD H) ln)) 31) (pD H) wd)) 7 (nI (pD H + 1))) (ty := .int) C dX7_duct_143 wl27 rfl 2 (by decide) 3 rfl rfl inX7_duct_X7 tyX7_ok nmX7 rfl (by decide +kernel) rfl rfl (Nat.le_of_ble_eq_true rfl) wsN7 ?_
            refine g_aload_n C dX7_duct_146 1 rfl rfl ?_
            refine g_iconst (v := nI 0) C dX7_duct_147 (by decide +kernel) ?_
            refine g_put (σ' := uN (uN (uF (uF (uI (uI (uN σ 5 (nI (cdDuct nj (pD H) a b ln wd))) 28 (upd (sI (uN σ 5 (nI (cdDuct nj (pD H) a b ln wd))) 28) (pD H) a)) 29 (upd (sI (uI (uN σ 5 (nI (cdDuct nj (pD H) a b ln wd))) 28 (upd (sI (uN σ 5 (nI (cdDuct nj (pD H) a b ln wd))) 28) (pD H) a)) 29) (pD H) b)) 30 (vf_upd (sF (uI (uI (uN σ 5 (nI (cdDuct nj (pD H) a b ln wd))) 28 (upd (sI (uN σ 5 (nI (cdDuct nj (pD H) a b ln wd))) 28) (pD H) a)) 29 (upd (sI (uI (uN σ 5 (nI (cdDuct nj (pD H) a b ln wd))) 28 (upd (sI (uN σ 5 (nI (cdDuct nj (pD H) a b ln wd))) 28) (pD H) a)) 29) (pD H) b)) 30) (pD H) ln)) 31 (vf_upd (sF (uF (uI (uI (uN σ 5 (nI (cdDuct nj (pD H) a b ln wd))) 28 (upd (sI (uN σ 5 (nI (cdDuct nj (pD H) a b ln wd))) 28) (pD H) a)) 29 (upd (sI (uI (uN σ 5 (nI (cdDuct nj (pD H) a b ln wd))) 28 (upd (sI (uN σ 5 (nI (cdDuct nj (pD H) a b ln wd))) 28) (pD H) a)) 29) (pD H) b)) 30 (vf_upd (sF (uI (uI (uN σ 5 (nI (cdDuct nj (pD H) a b ln wd))) 28 (upd (sI (uN σ 5 (nI (cdDuct nj (pD H) a b ln wd))) 28) (pD H) a)) 29 (upd (sI (uI (uN σ 5 (nI (cdDuct nj (pD H) a b ln wd))) 28 (upd (sI (uN σ 5 (nI (cdDuct nj (pD H) a b ln wd))) 28) (pD H) a)) 29) (pD H) b)) 30) (pD H) ln)) 31) (pD H) wd)) 7 (nI (pD H + 1))) 9 (nI 0)) (ty := .boolean) C dX7_duct_148 wl27 rfl 20 (by decide) 9 rfl rfl inX7_duct_X7 tyX7_ok nmX7 rfl (by decide +kernel) rfl rfl (Nat.le_of_ble_eq_true rfl) wsN9 ?_
            refine g_aload_n C dX7_duct_151 1 rfl rfl ?_
            refine g_get C dX7_duct_152 wl27 rfl 2 (by decide) 3 rfl rfl rfl inX7_duct_X7 ?_
            refine g_topi (y := nI (pD H + 1)) rfl ?_
            refine g_iconst (v := nI 1) C dX7_duct_155 (by decide +kernel) ?_
            refine g_isub C dX7_duct_156 ?_
            refine g_topi (y := nI (pD H)) (nI_pred _) ?_
            refine g_iret C dX7_duct_157 rfl ⟨Nat.le_of_ble_eq_true rfl, Nat.le_of_ble_eq_true rfl⟩ ?_
            rw [hF]
            exact ⟨fun h => absurd hc0 h, fun _ => ⟨rfl, by rw [hc0]; try rfl⟩⟩
          · have hc1 : cdDuct nj (pD H) a b ln wd ≠ 0 := fun h => c_90 (by rw [h]; decide)
            refine g_iconst (v := nI 0) C dX7_duct_93 (by decide +kernel) ?_
            refine g_iret C dX7_duct_94 rfl ⟨Nat.le_of_ble_eq_true rfl, Nat.le_of_ble_eq_true rfl⟩ ?_
            rw [hF]
            exact ⟨fun _ => ⟨rfl, rfl⟩, fun h => absurd h hc1⟩
        · refine g_aload_n C dX7_duct_48 1 rfl rfl ?_
          refine g_iload_n C dX7_duct_49 3 rfl rfl ?_
          refine g_callV (As := [.int b]) (rest := [.ref ((xK X).2.2 27)]) C dX7_duct_50 (kX7_isJoint (xl X) (xK X) C.hD σ hM.j.1 hM.j.2.2 b) wl27 rfl 1 gX7_duct_X7_isJoint rfl (by decide +kernel) ⟨Nat.le_of_ble_eq_true rfl, Nat.le_of_ble_eq_true rfl⟩ ⟨Nat.le_of_ble_eq_true rfl, Nat.le_of_ble_eq_true rfl⟩ rfl rfl (Nat.le_of_ble_eq_true rfl) (fun rv9 σ9 h9 => ?_)
          obtain ⟨h9a, h9b⟩ := h9
          refine g_eq (σ2 := σ) (lv2 := [(7, .int (bI (gdB a b ln wd))), (0, .ref ((xK X).2.2 27)), (1, .int a), (2, .int b), (3, .double ln), (5, .double wd)]) (st2 := [.int (bI (decide (inR b nj))), .ref ((xK X).2.2 27)]) h9b rfl (by rw [h9a]; rfl) ?_
          refine g_if_ne (tgt := 60) C dX7_duct_53 (by decide) (fun c_53 => ?_) (fun c_53 => ?_)
          · refine g_iload C dX7_duct_60 0 rfl ?_
            refine g_if_ne (tgt := 69) C dX7_duct_62 (by decide) (fun c_62 => ?_) (fun c_62 => ?_)
            · have hgd := gd_iff.mp (bIt c_62)
              refine g_aload_n C dX7_duct_69 1 rfl rfl ?_
              refine g_get C dX7_duct_70 wl27 rfl 2 (by decide) 3 rfl rfl rfl inX7_duct_X7 ?_
              refine g_topi (y := nI (pD H)) hM.nd ?_
              refine g_bipush (v := nI 16) C dX7_duct_73 (by decide +kernel) ?_
              refine g_icmp_ne (tgt := 82) C dX7_duct_75 (by decide) (fun c_75 => ?_) (fun c_75 => ?_)
              · have hcd : cdDuct nj (pD H) a b ln wd = 0 := (if_neg (fun h => h ⟨of_decide_eq_true (bIt c_45), of_decide_eq_true (bIt c_53)⟩)).trans ((if_neg (fun h => h hgd)).trans (if_neg (fun h => h (by
                  have : pD H ≠ 16 := fun h => c_75 (by rw [h])
                  omega))))
                refine g_iconst (v := nI 0) C dX7_duct_82 (by decide +kernel) ?_
                refine g_topi (y := nI (cdDuct nj (pD H) a b ln wd)) (by rw [hcd]) ?_
                refine g_put (σ' := uN σ 5 (nI (cdDuct nj (pD H) a b ln wd))) (ty := .int) C dX7_duct_83 wl27 rfl 0 (by decide) 4 rfl rfl inX7_duct_X7 tyX7_ok nmX7 rfl (by decide +kernel) rfl rfl (Nat.le_of_ble_eq_true rfl) wsN5 ?_
                refine g_aload_n C dX7_duct_86 1 rfl rfl ?_
                refine g_get C dX7_duct_87 wl27 rfl 0 (by decide) 4 rfl rfl rfl inX7_duct_X7 ?_
                refine g_topi (y := nI (cdDuct nj (pD H) a b ln wd)) rfl ?_
                refine g_if_le (tgt := 95) C dX7_duct_90 (by decide) (fun c_90 => ?_) (fun c_90 => ?_)
                · have hc0 : cdDuct nj (pD H) a b ln wd = 0 := nI_le0 (by omega) c_90
                  refine g_aload_n C dX7_duct_95 1 rfl rfl ?_
                  refine g_get C dX7_duct_96 wl27 rfl 3 (by decide) 5 rfl rfl rfl inX7_duct_X7 ?_
                  refine g_aload_n C dX7_duct_99 1 rfl rfl ?_
                  refine g_get C dX7_duct_100 wl27 rfl 2 (by decide) 3 rfl rfl rfl inX7_duct_X7 ?_
                  refine g_topi (y := nI (pD H)) hM.nd ?_
                  refine g_iload_n C dX7_duct_103 2 rfl rfl ?_
                  refine g_iast (j := (pD H)) (σ' := uI (uN σ 5 (nI (cdDuct nj (pD H) a b ln wd))) 28 (upd (sI (uN σ 5 (nI (cdDuct nj (pD H) a b ln wd))) 28) (pD H) a)) C dX7_duct_104 wl28 rfl (by have := (cdDuct_0 hc0).2.2; omega) (by decide) wsA28 ?_
                  refine g_aload_n C dX7_duct_105 1 rfl rfl ?_
                  refine g_get C dX7_duct_106 wl27 rfl 4 (by decide) 6 rfl rfl rfl inX7_duct_X7 ?_
                  refine g_aload_n C dX7_duct_109 1 rfl rfl ?_
                  refine g_get C dX7_duct_110 wl27 rfl 2 (by decide) 3 rfl rfl rfl inX7_duct_X7 ?_
                  refine g_topi (y := nI (pD H)) hM.nd ?_
                  refine g_iload_n C dX7_duct_113 3 rfl rfl ?_
                  refine g_iast (j := (pD H)) (σ' := uI (uI (uN σ 5 (nI (cdDuct nj (pD H) a b ln wd))) 28 (upd (sI (uN σ 5 (nI (cdDuct nj (pD H) a b ln wd))) 28) (pD H) a)) 29 (upd (sI (uI (uN σ 5 (nI (cdDuct nj (pD H) a b ln wd))) 28 (upd (sI (uN σ 5 (nI (cdDuct nj (pD H) a b ln wd))) 28) (pD H) a)) 29) (pD H) b)) C dX7_duct_114 wl29 rfl (by have := (cdDuct_0 hc0).2.2; omega) (by decide) wsA29 ?_
                  refine g_aload_n C dX7_duct_115 1 rfl rfl ?_
                  refine g_get C dX7_duct_116 wl27 rfl 5 (by decide) 7 rfl rfl rfl inX7_duct_X7 ?_
                  refine g_aload_n C dX7_duct_119 1 rfl rfl ?_
                  refine g_get C dX7_duct_120 wl27 rfl 2 (by decide) 3 rfl rfl rfl inX7_duct_X7 ?_
                  refine g_topi (y := nI (pD H)) hM.nd ?_
                  refine g_dload_n C dX7_duct_123 4 rfl rfl ?_
                  refine g_dast (j := (pD H)) (σ' := uF (uI (uI (uN σ 5 (nI (cdDuct nj (pD H) a b ln wd))) 28 (upd (sI (uN σ 5 (nI (cdDuct nj (pD H) a b ln wd))) 28) (pD H) a)) 29 (upd (sI (uI (uN σ 5 (nI (cdDuct nj (pD H) a b ln wd))) 28 (upd (sI (uN σ 5 (nI (cdDuct nj (pD H) a b ln wd))) 28) (pD H) a)) 29) (pD H) b)) 30 (vf_upd (sF (uI (uI (uN σ 5 (nI (cdDuct nj (pD H) a b ln wd))) 28 (upd (sI (uN σ 5 (nI (cdDuct nj (pD H) a b ln wd))) 28) (pD H) a)) 29 (upd (sI (uI (uN σ 5 (nI (cdDuct nj (pD H) a b ln wd))) 28 (upd (sI (uN σ 5 (nI (cdDuct nj (pD H) a b ln wd))) 28) (pD H) a)) 29) (pD H) b)) 30) (pD H) ln)) C dX7_duct_124 wl30 rfl (by have := (cdDuct_0 hc0).2.2; omega) (by decide) wsA30 ?_
                  refine g_aload_n C dX7_duct_125 1 rfl rfl ?_
                  refine g_get C dX7_duct_126 wl27 rfl 6 (by decide) 8 rfl rfl rfl inX7_duct_X7 ?_
                  refine g_aload_n C dX7_duct_129 1 rfl rfl ?_
                  refine g_get C dX7_duct_130 wl27 rfl 2 (by decide) 3 rfl rfl rfl inX7_duct_X7 ?_
                  refine g_topi (y := nI (pD H)) hM.nd ?_
                  refine g_dload C dX7_duct_133 5 rfl ?_
                  refine g_dast (j := (pD H)) (σ' := uF (uF (uI (uI (uN σ 5 (nI (cdDuct nj (pD H) a b ln wd))) 28 (upd (sI (uN σ 5 (nI (cdDuct nj (pD H) a b ln wd))) 28) (pD H) a)) 29 (upd (sI (uI (uN σ 5 (nI (cdDuct nj (pD H) a b ln wd))) 28 (upd (sI (uN σ 5 (nI (cdDuct nj (pD H) a b ln wd))) 28) (pD H) a)) 29) (pD H) b)) 30 (vf_upd (sF (uI (uI (uN σ 5 (nI (cdDuct nj (pD H) a b ln wd))) 28 (upd (sI (uN σ 5 (nI (cdDuct nj (pD H) a b ln wd))) 28) (pD H) a)) 29 (upd (sI (uI (uN σ 5 (nI (cdDuct nj (pD H) a b ln wd))) 28 (upd (sI (uN σ 5 (nI (cdDuct nj (pD H) a b ln wd))) 28) (pD H) a)) 29) (pD H) b)) 30) (pD H) ln)) 31 (vf_upd (sF (uF (uI (uI (uN σ 5 (nI (cdDuct nj (pD H) a b ln wd))) 28 (upd (sI (uN σ 5 (nI (cdDuct nj (pD H) a b ln wd))) 28) (pD H) a)) 29 (upd (sI (uI (uN σ 5 (nI (cdDuct nj (pD H) a b ln wd))) 28 (upd (sI (uN σ 5 (nI (cdDuct nj (pD H) a b ln wd))) 28) (pD H) a)) 29) (pD H) b)) 30 (vf_upd (sF (uI (uI (uN σ 5 (nI (cdDuct nj (pD H) a b ln wd))) 28 (upd (sI (uN σ 5 (nI (cdDuct nj (pD H) a b ln wd))) 28) (pD H) a)) 29 (upd (sI (uI (uN σ 5 (nI (cdDuct nj (pD H) a b ln wd))) 28 (upd (sI (uN σ 5 (nI (cdDuct nj (pD H) a b ln wd))) 28) (pD H) a)) 29) (pD H) b)) 30) (pD H) ln)) 31) (pD H) wd)) C dX7_duct_135 wl31 rfl (by have := (cdDuct_0 hc0).2.2; omega) (by decide) wsA31 ?_
                  refine g_aload_n C dX7_duct_136 1 rfl rfl ?_
                  refine g_dup C dX7_duct_137 rfl ?_
                  refine g_get C dX7_duct_138 wl27 rfl 2 (by decide) 3 rfl rfl rfl inX7_duct_X7 ?_
                  refine g_topi (y := nI (pD H)) hM.nd ?_
                  refine g_iconst (v := nI 1) C dX7_duct_141 (by decide +kernel) ?_
                  refine g_iadd C dX7_duct_142 ?_
                  refine g_topi (y := nI (pD H + 1)) (nI_add _ 1) ?_
                  refine g_put (σ' := uN (uF (uF (uI (uI (uN σ 5 (nI (cdDuct nj (pD H) a b ln wd))) 28 (upd (sI (uN σ 5 (nI (cdDuct nj (pD H) a b ln wd))) 28) (pD H) a)) 29 (upd (sI (uI (uN σ 5 (nI (cdDuct nj (pD H) a b ln wd))) 28 (upd (sI (uN σ 5 (nI (cdDuct nj (pD H) a b ln wd))) 28) (pD H) a)) 29) (pD H) b)) 30 (vf_upd (sF (uI (uI (uN σ 5 (nI (cdDuct nj (pD H) a b ln wd))) 28 (upd (sI (uN σ 5 (nI (cdDuct nj (pD H) a b ln wd))) 28) (pD H) a)) 29 (upd (sI (uI (uN σ 5 (nI (cdDuct nj (pD H) a b ln wd))) 28 (upd (sI (uN σ 5 (nI (cdDuct nj (pD H) a b ln wd))) 28) (pD H) a)) 29) (pD H) b)) 30) (pD H) ln)) 31 (vf_upd (sF (uF (uI (uI (uN σ 5 (nI (cdDuct nj (pD H) a b ln wd))) 28 (upd (sI (uN σ 5 (nI (cdDuct nj (pD H) a b ln wd))) 28) (pD H) a)) 29 (upd (sI (uI (uN σ 5 (nI (cdDuct nj (pD H) a b ln wd))) 28 (upd (sI (uN σ 5 (nI (cdDuct nj (pD H) a b ln wd))) 28) (pD H) a)) 29) (pD H) b)) 30 (vf_upd (sF (uI (uI (uN σ 5 (nI (cdDuct nj (pD H) a b ln wd))) 28 (upd (sI (uN σ 5 (nI (cdDuct nj (pD H) a b ln wd))) 28) (pD H) a)) 29 (upd (sI (uI (uN σ 5 (nI (cdDuct nj (pD H) a b ln wd))) 28 (upd (sI (uN σ 5 (nI (cdDuct nj (pD H) a b ln wd))) 28) (pD H) a)) 29) (pD H) b)) 30) (pD H) ln)) 31) (pD H) wd)) 7 (nI (pD H + 1))) (ty := .int) C dX7_duct_143 wl27 rfl 2 (by decide) 3 rfl rfl inX7_duct_X7 tyX7_ok nmX7 rfl (by decide +kernel) rfl rfl (Nat.le_of_ble_eq_true rfl) wsN7 ?_
                  refine g_aload_n C dX7_duct_146 1 rfl rfl ?_
                  refine g_iconst (v := nI 0) C dX7_duct_147 (by decide +kernel) ?_
                  refine g_put (σ' := uN (uN (uF (uF (uI (uI (uN σ 5 (nI (cdDuct nj (pD H) a b ln wd))) 28 (upd (sI (uN σ 5 (nI (cdDuct nj (pD H) a b ln wd))) 28) (pD H) a)) 29 (upd (sI (uI (uN σ 5 (nI (cdDuct nj (pD H) a b ln wd))) 28 (upd (sI (uN σ 5 (nI (cdDuct nj (pD H) a b ln wd))) 28) (pD H) a)) 29) (pD H) b)) 30 (vf_upd (sF (uI (uI (uN σ 5 (nI (cdDuct nj (pD H) a b ln wd))) 28 (upd (sI (uN σ 5 (nI (cdDuct nj (pD H) a b ln wd))) 28) (pD H) a)) 29 (upd (sI (uI (uN σ 5 (nI (cdDuct nj (pD H) a b ln wd))) 28 (upd (sI (uN σ 5 (nI (cdDuct nj (pD H) a b ln wd))) 28) (pD H) a)) 29) (pD H) b)) 30) (pD H) ln)) 31 (vf_upd (sF (uF (uI (uI (uN σ 5 (nI (cdDuct nj (pD H) a b ln wd))) 28 (upd (sI (uN σ 5 (nI (cdDuct nj (pD H) a b ln wd))) 28) (pD H) a)) 29 (upd (sI (uI (uN σ 5 (nI (cdDuct nj (pD H) a b ln wd))) 28 (upd (sI (uN σ 5 (nI (cdDuct nj (pD H) a b ln wd))) 28) (pD H) a)) 29) (pD H) b)) 30 (vf_upd (sF (uI (uI (uN σ 5 (nI (cdDuct nj (pD H) a b ln wd))) 28 (upd (sI (uN σ 5 (nI (cdDuct nj (pD H) a b ln wd))) 28) (pD H) a)) 29 (upd (sI (uI (uN σ 5 (nI (cdDuct nj (pD H) a b ln wd))) 28 (upd (sI (uN σ 5 (nI (cdDuct nj (pD H) a b ln wd))) 28) (pD H) a)) 29) (pD H) b)) 30) (pD H) ln)) 31) (pD H) wd)) 7 (nI (pD H + 1))) 9 (nI 0)) (ty := .boolean) C dX7_duct_148 wl27 rfl 20 (by decide) 9 rfl rfl inX7_duct_X7 tyX7_ok nmX7 rfl (by decide +kernel) rfl rfl (Nat.le_of_ble_eq_true rfl) wsN9 ?_
                  refine g_aload_n C dX7_duct_151 1 rfl rfl ?_
                  refine g_get C dX7_duct_152 wl27 rfl 2 (by decide) 3 rfl rfl rfl inX7_duct_X7 ?_
                  refine g_topi (y := nI (pD H + 1)) rfl ?_
                  refine g_iconst (v := nI 1) C dX7_duct_155 (by decide +kernel) ?_
                  refine g_isub C dX7_duct_156 ?_
                  refine g_topi (y := nI (pD H)) (nI_pred _) ?_
                  refine g_iret C dX7_duct_157 rfl ⟨Nat.le_of_ble_eq_true rfl, Nat.le_of_ble_eq_true rfl⟩ ?_
                  rw [hF]
                  exact ⟨fun h => absurd hc0 h, fun _ => ⟨rfl, by rw [hc0]; try rfl⟩⟩
                · have hc1 : cdDuct nj (pD H) a b ln wd ≠ 0 := fun h => c_90 (by rw [h]; decide)
                  refine g_iconst (v := nI 0) C dX7_duct_93 (by decide +kernel) ?_
                  refine g_iret C dX7_duct_94 rfl ⟨Nat.le_of_ble_eq_true rfl, Nat.le_of_ble_eq_true rfl⟩ ?_
                  rw [hF]
                  exact ⟨fun _ => ⟨rfl, rfl⟩, fun h => absurd h hc1⟩
              · have hcd : cdDuct nj (pD H) a b ln wd = 3 := (if_neg (fun h => h ⟨of_decide_eq_true (bIt c_45), of_decide_eq_true (bIt c_53)⟩)).trans ((if_neg (fun h => h hgd)).trans (if_pos (by
                  have := (nI_eq (a := pD H) (b := 16) (by omega) (by decide)).mp (Decidable.byContradiction fun h => absurd c_75 h)
                  omega)))
                refine g_iconst (v := nI 3) C dX7_duct_78 (by decide +kernel) ?_
                refine g_goto (tgt := 83) C dX7_duct_79 (by decide) ?_
                refine g_topi (y := nI (cdDuct nj (pD H) a b ln wd)) (by rw [hcd]) ?_
                refine g_put (σ' := uN σ 5 (nI (cdDuct nj (pD H) a b ln wd))) (ty := .int) C dX7_duct_83 wl27 rfl 0 (by decide) 4 rfl rfl inX7_duct_X7 tyX7_ok nmX7 rfl (by decide +kernel) rfl rfl (Nat.le_of_ble_eq_true rfl) wsN5 ?_
                refine g_aload_n C dX7_duct_86 1 rfl rfl ?_
                refine g_get C dX7_duct_87 wl27 rfl 0 (by decide) 4 rfl rfl rfl inX7_duct_X7 ?_
                refine g_topi (y := nI (cdDuct nj (pD H) a b ln wd)) rfl ?_
                refine g_if_le (tgt := 95) C dX7_duct_90 (by decide) (fun c_90 => ?_) (fun c_90 => ?_)
                · have hc0 : cdDuct nj (pD H) a b ln wd = 0 := nI_le0 (by omega) c_90
                  refine g_aload_n C dX7_duct_95 1 rfl rfl ?_
                  refine g_get C dX7_duct_96 wl27 rfl 3 (by decide) 5 rfl rfl rfl inX7_duct_X7 ?_
                  refine g_aload_n C dX7_duct_99 1 rfl rfl ?_
                  refine g_get C dX7_duct_100 wl27 rfl 2 (by decide) 3 rfl rfl rfl inX7_duct_X7 ?_
                  refine g_topi (y := nI (pD H)) hM.nd ?_
                  refine g_iload_n C dX7_duct_103 2 rfl rfl ?_
                  refine g_iast (j := (pD H)) (σ' := uI (uN σ 5 (nI (cdDuct nj (pD H) a b ln wd))) 28 (upd (sI (uN σ 5 (nI (cdDuct nj (pD H) a b ln wd))) 28) (pD H) a)) C dX7_duct_104 wl28 rfl (by have := (cdDuct_0 hc0).2.2; omega) (by decide) wsA28 ?_
                  refine g_aload_n C dX7_duct_105 1 rfl rfl ?_
                  refine g_get C dX7_duct_106 wl27 rfl 4 (by decide) 6 rfl rfl rfl inX7_duct_X7 ?_
                  refine g_aload_n C dX7_duct_109 1 rfl rfl ?_
                  refine g_get C dX7_duct_110 wl27 rfl 2 (by decide) 3 rfl rfl rfl inX7_duct_X7 ?_
                  refine g_topi (y := nI (pD H)) hM.nd ?_
                  refine g_iload_n C dX7_duct_113 3 rfl rfl ?_
                  refine g_iast (j := (pD H)) (σ' := uI (uI (uN σ 5 (nI (cdDuct nj (pD H) a b ln wd))) 28 (upd (sI (uN σ 5 (nI (cdDuct nj (pD H) a b ln wd))) 28) (pD H) a)) 29 (upd (sI (uI (uN σ 5 (nI (cdDuct nj (pD H) a b ln wd))) 28 (upd (sI (uN σ 5 (nI (cdDuct nj (pD H) a b ln wd))) 28) (pD H) a)) 29) (pD H) b)) C dX7_duct_114 wl29 rfl (by have := (cdDuct_0 hc0).2.2; omega) (by decide) wsA29 ?_
                  refine g_aload_n C dX7_duct_115 1 rfl rfl ?_
                  refine g_get C dX7_duct_116 wl27 rfl 5 (by decide) 7 rfl rfl rfl inX7_duct_X7 ?_
                  refine g_aload_n C dX7_duct_119 1 rfl rfl ?_
                  refine g_get C dX7_duct_120 wl27 rfl 2 (by decide) 3 rfl rfl rfl inX7_duct_X7 ?_
                  refine g_topi (y := nI (pD H)) hM.nd ?_
                  refine g_dload_n C dX7_duct_123 4 rfl rfl ?_
                  refine g_dast (j := (pD H)) (σ' := uF (uI (uI (uN σ 5 (nI (cdDuct nj (pD H) a b ln wd))) 28 (upd (sI (uN σ 5 (nI (cdDuct nj (pD H) a b ln wd))) 28) (pD H) a)) 29 (upd (sI (uI (uN σ 5 (nI (cdDuct nj (pD H) a b ln wd))) 28 (upd (sI (uN σ 5 (nI (cdDuct nj (pD H) a b ln wd))) 28) (pD H) a)) 29) (pD H) b)) 30 (vf_upd (sF (uI (uI (uN σ 5 (nI (cdDuct nj (pD H) a b ln wd))) 28 (upd (sI (uN σ 5 (nI (cdDuct nj (pD H) a b ln wd))) 28) (pD H) a)) 29 (upd (sI (uI (uN σ 5 (nI (cdDuct nj (pD H) a b ln wd))) 28 (upd (sI (uN σ 5 (nI (cdDuct nj (pD H) a b ln wd))) 28) (pD H) a)) 29) (pD H) b)) 30) (pD H) ln)) C dX7_duct_124 wl30 rfl (by have := (cdDuct_0 hc0).2.2; omega) (by decide) wsA30 ?_
                  refine g_aload_n C dX7_duct_125 1 rfl rfl ?_
                  refine g_get C dX7_duct_126 wl27 rfl 6 (by decide) 8 rfl rfl rfl inX7_duct_X7 ?_
                  refine g_aload_n C dX7_duct_129 1 rfl rfl ?_
                  refine g_get C dX7_duct_130 wl27 rfl 2 (by decide) 3 rfl rfl rfl inX7_duct_X7 ?_
                  refine g_topi (y := nI (pD H)) hM.nd ?_
                  refine g_dload C dX7_duct_133 5 rfl ?_
                  refine g_dast (j := (pD H)) (σ' := uF (uF (uI (uI (uN σ 5 (nI (cdDuct nj (pD H) a b ln wd))) 28 (upd (sI (uN σ 5 (nI (cdDuct nj (pD H) a b ln wd))) 28) (pD H) a)) 29 (upd (sI (uI (uN σ 5 (nI (cdDuct nj (pD H) a b ln wd))) 28 (upd (sI (uN σ 5 (nI (cdDuct nj (pD H) a b ln wd))) 28) (pD H) a)) 29) (pD H) b)) 30 (vf_upd (sF (uI (uI (uN σ 5 (nI (cdDuct nj (pD H) a b ln wd))) 28 (upd (sI (uN σ 5 (nI (cdDuct nj (pD H) a b ln wd))) 28) (pD H) a)) 29 (upd (sI (uI (uN σ 5 (nI (cdDuct nj (pD H) a b ln wd))) 28 (upd (sI (uN σ 5 (nI (cdDuct nj (pD H) a b ln wd))) 28) (pD H) a)) 29) (pD H) b)) 30) (pD H) ln)) 31 (vf_upd (sF (uF (uI (uI (uN σ 5 (nI (cdDuct nj (pD H) a b ln wd))) 28 (upd (sI (uN σ 5 (nI (cdDuct nj (pD H) a b ln wd))) 28) (pD H) a)) 29 (upd (sI (uI (uN σ 5 (nI (cdDuct nj (pD H) a b ln wd))) 28 (upd (sI (uN σ 5 (nI (cdDuct nj (pD H) a b ln wd))) 28) (pD H) a)) 29) (pD H) b)) 30 (vf_upd (sF (uI (uI (uN σ 5 (nI (cdDuct nj (pD H) a b ln wd))) 28 (upd (sI (uN σ 5 (nI (cdDuct nj (pD H) a b ln wd))) 28) (pD H) a)) 29 (upd (sI (uI (uN σ 5 (nI (cdDuct nj (pD H) a b ln wd))) 28 (upd (sI (uN σ 5 (nI (cdDuct nj (pD H) a b ln wd))) 28) (pD H) a)) 29) (pD H) b)) 30) (pD H) ln)) 31) (pD H) wd)) C dX7_duct_135 wl31 rfl (by have := (cdDuct_0 hc0).2.2; omega) (by decide) wsA31 ?_
                  refine g_aload_n C dX7_duct_136 1 rfl rfl ?_
                  refine g_dup C dX7_duct_137 rfl ?_
                  refine g_get C dX7_duct_138 wl27 rfl 2 (by decide) 3 rfl rfl rfl inX7_duct_X7 ?_
                  refine g_topi (y := nI (pD H)) hM.nd ?_
                  refine g_iconst (v := nI 1) C dX7_duct_141 (by decide +kernel) ?_
                  refine g_iadd C dX7_duct_142 ?_
                  refine g_topi (y := nI (pD H + 1)) (nI_add _ 1) ?_
                  refine g_put (σ' := uN (uF (uF (uI (uI (uN σ 5 (nI (cdDuct nj (pD H) a b ln wd))) 28 (upd (sI (uN σ 5 (nI (cdDuct nj (pD H) a b ln wd))) 28) (pD H) a)) 29 (upd (sI (uI (uN σ 5 (nI (cdDuct nj (pD H) a b ln wd))) 28 (upd (sI (uN σ 5 (nI (cdDuct nj (pD H) a b ln wd))) 28) (pD H) a)) 29) (pD H) b)) 30 (vf_upd (sF (uI (uI (uN σ 5 (nI (cdDuct nj (pD H) a b ln wd))) 28 (upd (sI (uN σ 5 (nI (cdDuct nj (pD H) a b ln wd))) 28) (pD H) a)) 29 (upd (sI (uI (uN σ 5 (nI (cdDuct nj (pD H) a b ln wd))) 28 (upd (sI (uN σ 5 (nI (cdDuct nj (pD H) a b ln wd))) 28) (pD H) a)) 29) (pD H) b)) 30) (pD H) ln)) 31 (vf_upd (sF (uF (uI (uI (uN σ 5 (nI (cdDuct nj (pD H) a b ln wd))) 28 (upd (sI (uN σ 5 (nI (cdDuct nj (pD H) a b ln wd))) 28) (pD H) a)) 29 (upd (sI (uI (uN σ 5 (nI (cdDuct nj (pD H) a b ln wd))) 28 (upd (sI (uN σ 5 (nI (cdDuct nj (pD H) a b ln wd))) 28) (pD H) a)) 29) (pD H) b)) 30 (vf_upd (sF (uI (uI (uN σ 5 (nI (cdDuct nj (pD H) a b ln wd))) 28 (upd (sI (uN σ 5 (nI (cdDuct nj (pD H) a b ln wd))) 28) (pD H) a)) 29 (upd (sI (uI (uN σ 5 (nI (cdDuct nj (pD H) a b ln wd))) 28 (upd (sI (uN σ 5 (nI (cdDuct nj (pD H) a b ln wd))) 28) (pD H) a)) 29) (pD H) b)) 30) (pD H) ln)) 31) (pD H) wd)) 7 (nI (pD H + 1))) (ty := .int) C dX7_duct_143 wl27 rfl 2 (by decide) 3 rfl rfl inX7_duct_X7 tyX7_ok nmX7 rfl (by decide +kernel) rfl rfl (Nat.le_of_ble_eq_true rfl) wsN7 ?_
                  refine g_aload_n C dX7_duct_146 1 rfl rfl ?_
                  refine g_iconst (v := nI 0) C dX7_duct_147 (by decide +kernel) ?_
                  refine g_put (σ' := uN (uN (uF (uF (uI (uI (uN σ 5 (nI (cdDuct nj (pD H) a b ln wd))) 28 (upd (sI (uN σ 5 (nI (cdDuct nj (pD H) a b ln wd))) 28) (pD H) a)) 29 (upd (sI (uI (uN σ 5 (nI (cdDuct nj (pD H) a b ln wd))) 28 (upd (sI (uN σ 5 (nI (cdDuct nj (pD H) a b ln wd))) 28) (pD H) a)) 29) (pD H) b)) 30 (vf_upd (sF (uI (uI (uN σ 5 (nI (cdDuct nj (pD H) a b ln wd))) 28 (upd (sI (uN σ 5 (nI (cdDuct nj (pD H) a b ln wd))) 28) (pD H) a)) 29 (upd (sI (uI (uN σ 5 (nI (cdDuct nj (pD H) a b ln wd))) 28 (upd (sI (uN σ 5 (nI (cdDuct nj (pD H) a b ln wd))) 28) (pD H) a)) 29) (pD H) b)) 30) (pD H) ln)) 31 (vf_upd (sF (uF (uI (uI (uN σ 5 (nI (cdDuct nj (pD H) a b ln wd))) 28 (upd (sI (uN σ 5 (nI (cdDuct nj (pD H) a b ln wd))) 28) (pD H) a)) 29 (upd (sI (uI (uN σ 5 (nI (cdDuct nj (pD H) a b ln wd))) 28 (upd (sI (uN σ 5 (nI (cdDuct nj (pD H) a b ln wd))) 28) (pD H) a)) 29) (pD H) b)) 30 (vf_upd (sF (uI (uI (uN σ 5 (nI (cdDuct nj (pD H) a b ln wd))) 28 (upd (sI (uN σ 5 (nI (cdDuct nj (pD H) a b ln wd))) 28) (pD H) a)) 29 (upd (sI (uI (uN σ 5 (nI (cdDuct nj (pD H) a b ln wd))) 28 (upd (sI (uN σ 5 (nI (cdDuct nj (pD H) a b ln wd))) 28) (pD H) a)) 29) (pD H) b)) 30) (pD H) ln)) 31) (pD H) wd)) 7 (nI (pD H + 1))) 9 (nI 0)) (ty := .boolean) C dX7_duct_148 wl27 rfl 20 (by decide) 9 rfl rfl inX7_duct_X7 tyX7_ok nmX7 rfl (by decide +kernel) rfl rfl (Nat.le_of_ble_eq_true rfl) wsN9 ?_
                  refine g_aload_n C dX7_duct_151 1 rfl rfl ?_
                  refine g_get C dX7_duct_152 wl27 rfl 2 (by decide) 3 rfl rfl rfl inX7_duct_X7 ?_
                  refine g_topi (y := nI (pD H + 1)) rfl ?_
                  refine g_iconst (v := nI 1) C dX7_duct_155 (by decide +kernel) ?_
                  refine g_isub C dX7_duct_156 ?_
                  refine g_topi (y := nI (pD H)) (nI_pred _) ?_
                  refine g_iret C dX7_duct_157 rfl ⟨Nat.le_of_ble_eq_true rfl, Nat.le_of_ble_eq_true rfl⟩ ?_
                  rw [hF]
                  exact ⟨fun h => absurd hc0 h, fun _ => ⟨rfl, by rw [hc0]; try rfl⟩⟩
                · have hc1 : cdDuct nj (pD H) a b ln wd ≠ 0 := fun h => c_90 (by rw [h]; decide)
                  refine g_iconst (v := nI 0) C dX7_duct_93 (by decide +kernel) ?_
                  refine g_iret C dX7_duct_94 rfl ⟨Nat.le_of_ble_eq_true rfl, Nat.le_of_ble_eq_true rfl⟩ ?_
                  rw [hF]
                  exact ⟨fun _ => ⟨rfl, rfl⟩, fun h => absurd h hc1⟩
            · have hgd : ¬ (a ≠ b ∧ wiB ln k125 k100 = true ∧ wiB wd k125 k100 = true) := fun h => by
                have h9 := (bI_ne _).mp c_62
                rw [gd_iff.mpr h] at h9
                cases h9
              have hcd : cdDuct nj (pD H) a b ln wd = 2 := (if_neg (fun h => h ⟨of_decide_eq_true (bIt c_45), of_decide_eq_true (bIt c_53)⟩)).trans (if_pos hgd)
              refine g_iconst (v := nI 2) C dX7_duct_65 (by decide +kernel) ?_
              refine g_goto (tgt := 83) C dX7_duct_66 (by decide) ?_
              refine g_topi (y := nI (cdDuct nj (pD H) a b ln wd)) (by rw [hcd]) ?_
              refine g_put (σ' := uN σ 5 (nI (cdDuct nj (pD H) a b ln wd))) (ty := .int) C dX7_duct_83 wl27 rfl 0 (by decide) 4 rfl rfl inX7_duct_X7 tyX7_ok nmX7 rfl (by decide +kernel) rfl rfl (Nat.le_of_ble_eq_true rfl) wsN5 ?_
              refine g_aload_n C dX7_duct_86 1 rfl rfl ?_
              refine g_get C dX7_duct_87 wl27 rfl 0 (by decide) 4 rfl rfl rfl inX7_duct_X7 ?_
              refine g_topi (y := nI (cdDuct nj (pD H) a b ln wd)) rfl ?_
              refine g_if_le (tgt := 95) C dX7_duct_90 (by decide) (fun c_90 => ?_) (fun c_90 => ?_)
              · have hc0 : cdDuct nj (pD H) a b ln wd = 0 := nI_le0 (by omega) c_90
                refine g_aload_n C dX7_duct_95 1 rfl rfl ?_
                refine g_get C dX7_duct_96 wl27 rfl 3 (by decide) 5 rfl rfl rfl inX7_duct_X7 ?_
                refine g_aload_n C dX7_duct_99 1 rfl rfl ?_
                refine g_get C dX7_duct_100 wl27 rfl 2 (by decide) 3 rfl rfl rfl inX7_duct_X7 ?_
                refine g_topi (y := nI (pD H)) hM.nd ?_
                refine g_iload_n C dX7_duct_103 2 rfl rfl ?_
                refine g_iast (j := (pD H)) (σ' := uI (uN σ 5 (nI (cdDuct nj (pD H) a b ln wd))) 28 (upd (sI (uN σ 5 (nI (cdDuct nj (pD H) a b ln wd))) 28) (pD H) a)) C dX7_duct_104 wl28 rfl (by have := (cdDuct_0 hc0).2.2; omega) (by decide) wsA28 ?_
                refine g_aload_n C dX7_duct_105 1 rfl rfl ?_
                refine g_get C dX7_duct_106 wl27 rfl 4 (by decide) 6 rfl rfl rfl inX7_duct_X7 ?_
                refine g_aload_n C dX7_duct_109 1 rfl rfl ?_
                refine g_get C dX7_duct_110 wl27 rfl 2 (by decide) 3 rfl rfl rfl inX7_duct_X7 ?_
                refine g_topi (y := nI (pD H)) hM.nd ?_
                refine g_iload_n C dX7_duct_113 3 rfl rfl ?_
                refine g_iast (j := (pD H)) (σ' := uI (uI (uN σ 5 (nI (cdDuct nj (pD H) a b ln wd))) 28 (upd (sI (uN σ 5 (nI (cdDuct nj (pD H) a b ln wd))) 28) (pD H) a)) 29 (upd (sI (uI (uN σ 5 (nI (cdDuct nj (pD H) a b ln wd))) 28 (upd (sI (uN σ 5 (nI (cdDuct nj (pD H) a b ln wd))) 28) (pD H) a)) 29) (pD H) b)) C dX7_duct_114 wl29 rfl (by have := (cdDuct_0 hc0).2.2; omega) (by decide) wsA29 ?_
                refine g_aload_n C dX7_duct_115 1 rfl rfl ?_
                refine g_get C dX7_duct_116 wl27 rfl 5 (by decide) 7 rfl rfl rfl inX7_duct_X7 ?_
                refine g_aload_n C dX7_duct_119 1 rfl rfl ?_
                refine g_get C dX7_duct_120 wl27 rfl 2 (by decide) 3 rfl rfl rfl inX7_duct_X7 ?_
                refine g_topi (y := nI (pD H)) hM.nd ?_
                refine g_dload_n C dX7_duct_123 4 rfl rfl ?_
                refine g_dast (j := (pD H)) (σ' := uF (uI (uI (uN σ 5 (nI (cdDuct nj (pD H) a b ln wd))) 28 (upd (sI (uN σ 5 (nI (cdDuct nj (pD H) a b ln wd))) 28) (pD H) a)) 29 (upd (sI (uI (uN σ 5 (nI (cdDuct nj (pD H) a b ln wd))) 28 (upd (sI (uN σ 5 (nI (cdDuct nj (pD H) a b ln wd))) 28) (pD H) a)) 29) (pD H) b)) 30 (vf_upd (sF (uI (uI (uN σ 5 (nI (cdDuct nj (pD H) a b ln wd))) 28 (upd (sI (uN σ 5 (nI (cdDuct nj (pD H) a b ln wd))) 28) (pD H) a)) 29 (upd (sI (uI (uN σ 5 (nI (cdDuct nj (pD H) a b ln wd))) 28 (upd (sI (uN σ 5 (nI (cdDuct nj (pD H) a b ln wd))) 28) (pD H) a)) 29) (pD H) b)) 30) (pD H) ln)) C dX7_duct_124 wl30 rfl (by have := (cdDuct_0 hc0).2.2; omega) (by decide) wsA30 ?_
                refine g_aload_n C dX7_duct_125 1 rfl rfl ?_
                refine g_get C dX7_duct_126 wl27 rfl 6 (by decide) 8 rfl rfl rfl inX7_duct_X7 ?_
                refine g_aload_n C dX7_duct_129 1 rfl rfl ?_
                refine g_get C dX7_duct_130 wl27 rfl 2 (by decide) 3 rfl rfl rfl inX7_duct_X7 ?_
                refine g_topi (y := nI (pD H)) hM.nd ?_
                refine g_dload C dX7_duct_133 5 rfl ?_
                refine g_dast (j := (pD H)) (σ' := uF (uF (uI (uI (uN σ 5 (nI (cdDuct nj (pD H) a b ln wd))) 28 (upd (sI (uN σ 5 (nI (cdDuct nj (pD H) a b ln wd))) 28) (pD H) a)) 29 (upd (sI (uI (uN σ 5 (nI (cdDuct nj (pD H) a b ln wd))) 28 (upd (sI (uN σ 5 (nI (cdDuct nj (pD H) a b ln wd))) 28) (pD H) a)) 29) (pD H) b)) 30 (vf_upd (sF (uI (uI (uN σ 5 (nI (cdDuct nj (pD H) a b ln wd))) 28 (upd (sI (uN σ 5 (nI (cdDuct nj (pD H) a b ln wd))) 28) (pD H) a)) 29 (upd (sI (uI (uN σ 5 (nI (cdDuct nj (pD H) a b ln wd))) 28 (upd (sI (uN σ 5 (nI (cdDuct nj (pD H) a b ln wd))) 28) (pD H) a)) 29) (pD H) b)) 30) (pD H) ln)) 31 (vf_upd (sF (uF (uI (uI (uN σ 5 (nI (cdDuct nj (pD H) a b ln wd))) 28 (upd (sI (uN σ 5 (nI (cdDuct nj (pD H) a b ln wd))) 28) (pD H) a)) 29 (upd (sI (uI (uN σ 5 (nI (cdDuct nj (pD H) a b ln wd))) 28 (upd (sI (uN σ 5 (nI (cdDuct nj (pD H) a b ln wd))) 28) (pD H) a)) 29) (pD H) b)) 30 (vf_upd (sF (uI (uI (uN σ 5 (nI (cdDuct nj (pD H) a b ln wd))) 28 (upd (sI (uN σ 5 (nI (cdDuct nj (pD H) a b ln wd))) 28) (pD H) a)) 29 (upd (sI (uI (uN σ 5 (nI (cdDuct nj (pD H) a b ln wd))) 28 (upd (sI (uN σ 5 (nI (cdDuct nj (pD H) a b ln wd))) 28) (pD H) a)) 29) (pD H) b)) 30) (pD H) ln)) 31) (pD H) wd)) C dX7_duct_135 wl31 rfl (by have := (cdDuct_0 hc0).2.2; omega) (by decide) wsA31 ?_
                refine g_aload_n C dX7_duct_136 1 rfl rfl ?_
                refine g_dup C dX7_duct_137 rfl ?_
                refine g_get C dX7_duct_138 wl27 rfl 2 (by decide) 3 rfl rfl rfl inX7_duct_X7 ?_
                refine g_topi (y := nI (pD H)) hM.nd ?_
                refine g_iconst (v := nI 1) C dX7_duct_141 (by decide +kernel) ?_
                refine g_iadd C dX7_duct_142 ?_
                refine g_topi (y := nI (pD H + 1)) (nI_add _ 1) ?_
                refine g_put (σ' := uN (uF (uF (uI (uI (uN σ 5 (nI (cdDuct nj (pD H) a b ln wd))) 28 (upd (sI (uN σ 5 (nI (cdDuct nj (pD H) a b ln wd))) 28) (pD H) a)) 29 (upd (sI (uI (uN σ 5 (nI (cdDuct nj (pD H) a b ln wd))) 28 (upd (sI (uN σ 5 (nI (cdDuct nj (pD H) a b ln wd))) 28) (pD H) a)) 29) (pD H) b)) 30 (vf_upd (sF (uI (uI (uN σ 5 (nI (cdDuct nj (pD H) a b ln wd))) 28 (upd (sI (uN σ 5 (nI (cdDuct nj (pD H) a b ln wd))) 28) (pD H) a)) 29 (upd (sI (uI (uN σ 5 (nI (cdDuct nj (pD H) a b ln wd))) 28 (upd (sI (uN σ 5 (nI (cdDuct nj (pD H) a b ln wd))) 28) (pD H) a)) 29) (pD H) b)) 30) (pD H) ln)) 31 (vf_upd (sF (uF (uI (uI (uN σ 5 (nI (cdDuct nj (pD H) a b ln wd))) 28 (upd (sI (uN σ 5 (nI (cdDuct nj (pD H) a b ln wd))) 28) (pD H) a)) 29 (upd (sI (uI (uN σ 5 (nI (cdDuct nj (pD H) a b ln wd))) 28 (upd (sI (uN σ 5 (nI (cdDuct nj (pD H) a b ln wd))) 28) (pD H) a)) 29) (pD H) b)) 30 (vf_upd (sF (uI (uI (uN σ 5 (nI (cdDuct nj (pD H) a b ln wd))) 28 (upd (sI (uN σ 5 (nI (cdDuct nj (pD H) a b ln wd))) 28) (pD H) a)) 29 (upd (sI (uI (uN σ 5 (nI (cdDuct nj (pD H) a b ln wd))) 28 (upd (sI (uN σ 5 (nI (cdDuct nj (pD H) a b ln wd))) 28) (pD H) a)) 29) (pD H) b)) 30) (pD H) ln)) 31) (pD H) wd)) 7 (nI (pD H + 1))) (ty := .int) C dX7_duct_143 wl27 rfl 2 (by decide) 3 rfl rfl inX7_duct_X7 tyX7_ok nmX7 rfl (by decide +kernel) rfl rfl (Nat.le_of_ble_eq_true rfl) wsN7 ?_
                refine g_aload_n C dX7_duct_146 1 rfl rfl ?_
                refine g_iconst (v := nI 0) C dX7_duct_147 (by decide +kernel) ?_
                refine g_put (σ' := uN (uN (uF (uF (uI (uI (uN σ 5 (nI (cdDuct nj (pD H) a b ln wd))) 28 (upd (sI (uN σ 5 (nI (cdDuct nj (pD H) a b ln wd))) 28) (pD H) a)) 29 (upd (sI (uI (uN σ 5 (nI (cdDuct nj (pD H) a b ln wd))) 28 (upd (sI (uN σ 5 (nI (cdDuct nj (pD H) a b ln wd))) 28) (pD H) a)) 29) (pD H) b)) 30 (vf_upd (sF (uI (uI (uN σ 5 (nI (cdDuct nj (pD H) a b ln wd))) 28 (upd (sI (uN σ 5 (nI (cdDuct nj (pD H) a b ln wd))) 28) (pD H) a)) 29 (upd (sI (uI (uN σ 5 (nI (cdDuct nj (pD H) a b ln wd))) 28 (upd (sI (uN σ 5 (nI (cdDuct nj (pD H) a b ln wd))) 28) (pD H) a)) 29) (pD H) b)) 30) (pD H) ln)) 31 (vf_upd (sF (uF (uI (uI (uN σ 5 (nI (cdDuct nj (pD H) a b ln wd))) 28 (upd (sI (uN σ 5 (nI (cdDuct nj (pD H) a b ln wd))) 28) (pD H) a)) 29 (upd (sI (uI (uN σ 5 (nI (cdDuct nj (pD H) a b ln wd))) 28 (upd (sI (uN σ 5 (nI (cdDuct nj (pD H) a b ln wd))) 28) (pD H) a)) 29) (pD H) b)) 30 (vf_upd (sF (uI (uI (uN σ 5 (nI (cdDuct nj (pD H) a b ln wd))) 28 (upd (sI (uN σ 5 (nI (cdDuct nj (pD H) a b ln wd))) 28) (pD H) a)) 29 (upd (sI (uI (uN σ 5 (nI (cdDuct nj (pD H) a b ln wd))) 28 (upd (sI (uN σ 5 (nI (cdDuct nj (pD H) a b ln wd))) 28) (pD H) a)) 29) (pD H) b)) 30) (pD H) ln)) 31) (pD H) wd)) 7 (nI (pD H + 1))) 9 (nI 0)) (ty := .boolean) C dX7_duct_148 wl27 rfl 20 (by decide) 9 rfl rfl inX7_duct_X7 tyX7_ok nmX7 rfl (by decide +kernel) rfl rfl (Nat.le_of_ble_eq_true rfl) wsN9 ?_
                refine g_aload_n C dX7_duct_151 1 rfl rfl ?_
                refine g_get C dX7_duct_152 wl27 rfl 2 (by decide) 3 rfl rfl rfl inX7_duct_X7 ?_
                refine g_topi (y := nI (pD H + 1)) rfl ?_
                refine g_iconst (v := nI 1) C dX7_duct_155 (by decide +kernel) ?_
                refine g_isub C dX7_duct_156 ?_
                refine g_topi (y := nI (pD H)) (nI_pred _) ?_
                refine g_iret C dX7_duct_157 rfl ⟨Nat.le_of_ble_eq_true rfl, Nat.le_of_ble_eq_true rfl⟩ ?_
                rw [hF]
                exact ⟨fun h => absurd hc0 h, fun _ => ⟨rfl, by rw [hc0]; try rfl⟩⟩
              · have hc1 : cdDuct nj (pD H) a b ln wd ≠ 0 := fun h => c_90 (by rw [h]; decide)
                refine g_iconst (v := nI 0) C dX7_duct_93 (by decide +kernel) ?_
                refine g_iret C dX7_duct_94 rfl ⟨Nat.le_of_ble_eq_true rfl, Nat.le_of_ble_eq_true rfl⟩ ?_
                rw [hF]
                exact ⟨fun _ => ⟨rfl, rfl⟩, fun h => absurd h hc1⟩
          · have hcd : cdDuct nj (pD H) a b ln wd = 1 := if_pos (fun h => absurd h.2 (of_decide_eq_false ((bI_ne _).mp c_53)))
            refine g_iconst (v := nI 1) C dX7_duct_56 (by decide +kernel) ?_
            refine g_goto (tgt := 83) C dX7_duct_57 (by decide) ?_
            refine g_topi (y := nI (cdDuct nj (pD H) a b ln wd)) (by rw [hcd]) ?_
            refine g_put (σ' := uN σ 5 (nI (cdDuct nj (pD H) a b ln wd))) (ty := .int) C dX7_duct_83 wl27 rfl 0 (by decide) 4 rfl rfl inX7_duct_X7 tyX7_ok nmX7 rfl (by decide +kernel) rfl rfl (Nat.le_of_ble_eq_true rfl) wsN5 ?_
            refine g_aload_n C dX7_duct_86 1 rfl rfl ?_
            refine g_get C dX7_duct_87 wl27 rfl 0 (by decide) 4 rfl rfl rfl inX7_duct_X7 ?_
            refine g_topi (y := nI (cdDuct nj (pD H) a b ln wd)) rfl ?_
            refine g_if_le (tgt := 95) C dX7_duct_90 (by decide) (fun c_90 => ?_) (fun c_90 => ?_)
            · have hc0 : cdDuct nj (pD H) a b ln wd = 0 := nI_le0 (by omega) c_90
              refine g_aload_n C dX7_duct_95 1 rfl rfl ?_
              refine g_get C dX7_duct_96 wl27 rfl 3 (by decide) 5 rfl rfl rfl inX7_duct_X7 ?_
              refine g_aload_n C dX7_duct_99 1 rfl rfl ?_
              refine g_get C dX7_duct_100 wl27 rfl 2 (by decide) 3 rfl rfl rfl inX7_duct_X7 ?_
              refine g_topi (y := nI (pD H)) hM.nd ?_
              refine g_iload_n C dX7_duct_103 2 rfl rfl ?_
              refine g_iast (j := (pD H)) (σ' := uI (uN σ 5 (nI (cdDuct nj (pD H) a b ln wd))) 28 (upd (sI (uN σ 5 (nI (cdDuct nj (pD H) a b ln wd))) 28) (pD H) a)) C dX7_duct_104 wl28 rfl (by have := (cdDuct_0 hc0).2.2; omega) (by decide) wsA28 ?_
              refine g_aload_n C dX7_duct_105 1 rfl rfl ?_
              refine g_get C dX7_duct_106 wl27 rfl 4 (by decide) 6 rfl rfl rfl inX7_duct_X7 ?_
              refine g_aload_n C dX7_duct_109 1 rfl rfl ?_
              refine g_get C dX7_duct_110 wl27 rfl 2 (by decide) 3 rfl rfl rfl inX7_duct_X7 ?_
              refine g_topi (y := nI (pD H)) hM.nd ?_
              refine g_iload_n C dX7_duct_113 3 rfl rfl ?_
              refine g_iast (j := (pD H)) (σ' := uI (uI (uN σ 5 (nI (cdDuct nj (pD H) a b ln wd))) 28 (upd (sI (uN σ 5 (nI (cdDuct nj (pD H) a b ln wd))) 28) (pD H) a)) 29 (upd (sI (uI (uN σ 5 (nI (cdDuct nj (pD H) a b ln wd))) 28 (upd (sI (uN σ 5 (nI (cdDuct nj (pD H) a b ln wd))) 28) (pD H) a)) 29) (pD H) b)) C dX7_duct_114 wl29 rfl (by have := (cdDuct_0 hc0).2.2; omega) (by decide) wsA29 ?_
              refine g_aload_n C dX7_duct_115 1 rfl rfl ?_
              refine g_get C dX7_duct_116 wl27 rfl 5 (by decide) 7 rfl rfl rfl inX7_duct_X7 ?_
              refine g_aload_n C dX7_duct_119 1 rfl rfl ?_
              refine g_get C dX7_duct_120 wl27 rfl 2 (by decide) 3 rfl rfl rfl inX7_duct_X7 ?_
              refine g_topi (y := nI (pD H)) hM.nd ?_
              refine g_dload_n C dX7_duct_123 4 rfl rfl ?_
              refine g_dast (j := (pD H)) (σ' := uF (uI (uI (uN σ 5 (nI (cdDuct nj (pD H) a b ln wd))) 28 (upd (sI (uN σ 5 (nI (cdDuct nj (pD H) a b ln wd))) 28) (pD H) a)) 29 (upd (sI (uI (uN σ 5 (nI (cdDuct nj (pD H) a b ln wd))) 28 (upd (sI (uN σ 5 (nI (cdDuct nj (pD H) a b ln wd))) 28) (pD H) a)) 29) (pD H) b)) 30 (vf_upd (sF (uI (uI (uN σ 5 (nI (cdDuct nj (pD H) a b ln wd))) 28 (upd (sI (uN σ 5 (nI (cdDuct nj (pD H) a b ln wd))) 28) (pD H) a)) 29 (upd (sI (uI (uN σ 5 (nI (cdDuct nj (pD H) a b ln wd))) 28 (upd (sI (uN σ 5 (nI (cdDuct nj (pD H) a b ln wd))) 28) (pD H) a)) 29) (pD H) b)) 30) (pD H) ln)) C dX7_duct_124 wl30 rfl (by have := (cdDuct_0 hc0).2.2; omega) (by decide) wsA30 ?_
              refine g_aload_n C dX7_duct_125 1 rfl rfl ?_
              refine g_get C dX7_duct_126 wl27 rfl 6 (by decide) 8 rfl rfl rfl inX7_duct_X7 ?_
              refine g_aload_n C dX7_duct_129 1 rfl rfl ?_
              refine g_get C dX7_duct_130 wl27 rfl 2 (by decide) 3 rfl rfl rfl inX7_duct_X7 ?_
              refine g_topi (y := nI (pD H)) hM.nd ?_
              refine g_dload C dX7_duct_133 5 rfl ?_
              refine g_dast (j := (pD H)) (σ' := uF (uF (uI (uI (uN σ 5 (nI (cdDuct nj (pD H) a b ln wd))) 28 (upd (sI (uN σ 5 (nI (cdDuct nj (pD H) a b ln wd))) 28) (pD H) a)) 29 (upd (sI (uI (uN σ 5 (nI (cdDuct nj (pD H) a b ln wd))) 28 (upd (sI (uN σ 5 (nI (cdDuct nj (pD H) a b ln wd))) 28) (pD H) a)) 29) (pD H) b)) 30 (vf_upd (sF (uI (uI (uN σ 5 (nI (cdDuct nj (pD H) a b ln wd))) 28 (upd (sI (uN σ 5 (nI (cdDuct nj (pD H) a b ln wd))) 28) (pD H) a)) 29 (upd (sI (uI (uN σ 5 (nI (cdDuct nj (pD H) a b ln wd))) 28 (upd (sI (uN σ 5 (nI (cdDuct nj (pD H) a b ln wd))) 28) (pD H) a)) 29) (pD H) b)) 30) (pD H) ln)) 31 (vf_upd (sF (uF (uI (uI (uN σ 5 (nI (cdDuct nj (pD H) a b ln wd))) 28 (upd (sI (uN σ 5 (nI (cdDuct nj (pD H) a b ln wd))) 28) (pD H) a)) 29 (upd (sI (uI (uN σ 5 (nI (cdDuct nj (pD H) a b ln wd))) 28 (upd (sI (uN σ 5 (nI (cdDuct nj (pD H) a b ln wd))) 28) (pD H) a)) 29) (pD H) b)) 30 (vf_upd (sF (uI (uI (uN σ 5 (nI (cdDuct nj (pD H) a b ln wd))) 28 (upd (sI (uN σ 5 (nI (cdDuct nj (pD H) a b ln wd))) 28) (pD H) a)) 29 (upd (sI (uI (uN σ 5 (nI (cdDuct nj (pD H) a b ln wd))) 28 (upd (sI (uN σ 5 (nI (cdDuct nj (pD H) a b ln wd))) 28) (pD H) a)) 29) (pD H) b)) 30) (pD H) ln)) 31) (pD H) wd)) C dX7_duct_135 wl31 rfl (by have := (cdDuct_0 hc0).2.2; omega) (by decide) wsA31 ?_
              refine g_aload_n C dX7_duct_136 1 rfl rfl ?_
              refine g_dup C dX7_duct_137 rfl ?_
              refine g_get C dX7_duct_138 wl27 rfl 2 (by decide) 3 rfl rfl rfl inX7_duct_X7 ?_
              refine g_topi (y := nI (pD H)) hM.nd ?_
              refine g_iconst (v := nI 1) C dX7_duct_141 (by decide +kernel) ?_
              refine g_iadd C dX7_duct_142 ?_
              refine g_topi (y := nI (pD H + 1)) (nI_add _ 1) ?_
              refine g_put (σ' := uN (uF (uF (uI (uI (uN σ 5 (nI (cdDuct nj (pD H) a b ln wd))) 28 (upd (sI (uN σ 5 (nI (cdDuct nj (pD H) a b ln wd))) 28) (pD H) a)) 29 (upd (sI (uI (uN σ 5 (nI (cdDuct nj (pD H) a b ln wd))) 28 (upd (sI (uN σ 5 (nI (cdDuct nj (pD H) a b ln wd))) 28) (pD H) a)) 29) (pD H) b)) 30 (vf_upd (sF (uI (uI (uN σ 5 (nI (cdDuct nj (pD H) a b ln wd))) 28 (upd (sI (uN σ 5 (nI (cdDuct nj (pD H) a b ln wd))) 28) (pD H) a)) 29 (upd (sI (uI (uN σ 5 (nI (cdDuct nj (pD H) a b ln wd))) 28 (upd (sI (uN σ 5 (nI (cdDuct nj (pD H) a b ln wd))) 28) (pD H) a)) 29) (pD H) b)) 30) (pD H) ln)) 31 (vf_upd (sF (uF (uI (uI (uN σ 5 (nI (cdDuct nj (pD H) a b ln wd))) 28 (upd (sI (uN σ 5 (nI (cdDuct nj (pD H) a b ln wd))) 28) (pD H) a)) 29 (upd (sI (uI (uN σ 5 (nI (cdDuct nj (pD H) a b ln wd))) 28 (upd (sI (uN σ 5 (nI (cdDuct nj (pD H) a b ln wd))) 28) (pD H) a)) 29) (pD H) b)) 30 (vf_upd (sF (uI (uI (uN σ 5 (nI (cdDuct nj (pD H) a b ln wd))) 28 (upd (sI (uN σ 5 (nI (cdDuct nj (pD H) a b ln wd))) 28) (pD H) a)) 29 (upd (sI (uI (uN σ 5 (nI (cdDuct nj (pD H) a b ln wd))) 28 (upd (sI (uN σ 5 (nI (cdDuct nj (pD H) a b ln wd))) 28) (pD H) a)) 29) (pD H) b)) 30) (pD H) ln)) 31) (pD H) wd)) 7 (nI (pD H + 1))) (ty := .int) C dX7_duct_143 wl27 rfl 2 (by decide) 3 rfl rfl inX7_duct_X7 tyX7_ok nmX7 rfl (by decide +kernel) rfl rfl (Nat.le_of_ble_eq_true rfl) wsN7 ?_
              refine g_aload_n C dX7_duct_146 1 rfl rfl ?_
              refine g_iconst (v := nI 0) C dX7_duct_147 (by decide +kernel) ?_
              refine g_put (σ' := uN (uN (uF (uF (uI (uI (uN σ 5 (nI (cdDuct nj (pD H) a b ln wd))) 28 (upd (sI (uN σ 5 (nI (cdDuct nj (pD H) a b ln wd))) 28) (pD H) a)) 29 (upd (sI (uI (uN σ 5 (nI (cdDuct nj (pD H) a b ln wd))) 28 (upd (sI (uN σ 5 (nI (cdDuct nj (pD H) a b ln wd))) 28) (pD H) a)) 29) (pD H) b)) 30 (vf_upd (sF (uI (uI (uN σ 5 (nI (cdDuct nj (pD H) a b ln wd))) 28 (upd (sI (uN σ 5 (nI (cdDuct nj (pD H) a b ln wd))) 28) (pD H) a)) 29 (upd (sI (uI (uN σ 5 (nI (cdDuct nj (pD H) a b ln wd))) 28 (upd (sI (uN σ 5 (nI (cdDuct nj (pD H) a b ln wd))) 28) (pD H) a)) 29) (pD H) b)) 30) (pD H) ln)) 31 (vf_upd (sF (uF (uI (uI (uN σ 5 (nI (cdDuct nj (pD H) a b ln wd))) 28 (upd (sI (uN σ 5 (nI (cdDuct nj (pD H) a b ln wd))) 28) (pD H) a)) 29 (upd (sI (uI (uN σ 5 (nI (cdDuct nj (pD H) a b ln wd))) 28 (upd (sI (uN σ 5 (nI (cdDuct nj (pD H) a b ln wd))) 28) (pD H) a)) 29) (pD H) b)) 30 (vf_upd (sF (uI (uI (uN σ 5 (nI (cdDuct nj (pD H) a b ln wd))) 28 (upd (sI (uN σ 5 (nI (cdDuct nj (pD H) a b ln wd))) 28) (pD H) a)) 29 (upd (sI (uI (uN σ 5 (nI (cdDuct nj (pD H) a b ln wd))) 28 (upd (sI (uN σ 5 (nI (cdDuct nj (pD H) a b ln wd))) 28) (pD H) a)) 29) (pD H) b)) 30) (pD H) ln)) 31) (pD H) wd)) 7 (nI (pD H + 1))) 9 (nI 0)) (ty := .boolean) C dX7_duct_148 wl27 rfl 20 (by decide) 9 rfl rfl inX7_duct_X7 tyX7_ok nmX7 rfl (by decide +kernel) rfl rfl (Nat.le_of_ble_eq_true rfl) wsN9 ?_
              refine g_aload_n C dX7_duct_151 1 rfl rfl ?_
              refine g_get C dX7_duct_152 wl27 rfl 2 (by decide) 3 rfl rfl rfl inX7_duct_X7 ?_
              refine g_topi (y := nI (pD H + 1)) rfl ?_
              refine g_iconst (v := nI 1) C dX7_duct_155 (by decide +kernel) ?_
              refine g_isub C dX7_duct_156 ?_
              refine g_topi (y := nI (pD H)) (nI_pred _) ?_
              refine g_iret C dX7_duct_157 rfl ⟨Nat.le_of_ble_eq_true rfl, Nat.le_of_ble_eq_true rfl⟩ ?_
              rw [hF]
              exact ⟨fun h => absurd hc0 h, fun _ => ⟨rfl, by rw [hc0]; try rfl⟩⟩
            · have hc1 : cdDuct nj (pD H) a b ln wd ≠ 0 := fun h => c_90 (by rw [h]; decide)
              refine g_iconst (v := nI 0) C dX7_duct_93 (by decide +kernel) ?_
              refine g_iret C dX7_duct_94 rfl ⟨Nat.le_of_ble_eq_true rfl, Nat.le_of_ble_eq_true rfl⟩ ?_
              rw [hF]
              exact ⟨fun _ => ⟨rfl, rfl⟩, fun h => absurd h hc1⟩
      · refine g_iconst (v := nI 1) C dX7_duct_32 (by decide +kernel) ?_
        refine g_goto (tgt := 37) C dX7_duct_33 (by decide) ?_
        refine g_topi (y := bI (gdB a b ln wd)) (by unfold gdB; first | (rw [decide_eq_false (show ¬ a ≠ b from fun h => h c_2)]; rfl) | (rw [decide_eq_true (show a ≠ b from c_2), (bI_ne _).mp c_15]; rfl) | (rw [decide_eq_true (show a ≠ b from c_2), bIt c_15, (bI_ne _).mp c_29]; rfl) | (rw [decide_eq_true (show a ≠ b from c_2), bIt c_15, bIt c_29]; rfl)) ?_
        refine g_istore (lv' := [(7, .int (bI (gdB a b ln wd))), (0, .ref ((xK X).2.2 27)), (1, .int a), (2, .int b), (3, .double ln), (5, .double wd)]) C dX7_duct_37 (by decide) rfl ?_
        refine g_aload_n C dX7_duct_39 1 rfl rfl ?_
        refine g_aload_n C dX7_duct_40 1 rfl rfl ?_
        refine g_iload_n C dX7_duct_41 2 rfl rfl ?_
        refine g_callV (As := [.int a]) (rest := [.ref ((xK X).2.2 27)]) C dX7_duct_42 (kX7_isJoint (xl X) (xK X) C.hD σ hM.j.1 hM.j.2.2 a) wl27 rfl 1 gX7_duct_X7_isJoint rfl (by decide +kernel) ⟨Nat.le_of_ble_eq_true rfl, Nat.le_of_ble_eq_true rfl⟩ ⟨Nat.le_of_ble_eq_true rfl, Nat.le_of_ble_eq_true rfl⟩ rfl rfl (Nat.le_of_ble_eq_true rfl) (fun rv9 σ9 h9 => ?_)
        obtain ⟨h9a, h9b⟩ := h9
        refine g_eq (σ2 := σ) (lv2 := [(7, .int (bI (gdB a b ln wd))), (0, .ref ((xK X).2.2 27)), (1, .int a), (2, .int b), (3, .double ln), (5, .double wd)]) (st2 := [.int (bI (decide (inR a nj))), .ref ((xK X).2.2 27)]) h9b rfl (by rw [h9a]; rfl) ?_
        refine g_if_eq (tgt := 56) C dX7_duct_45 (by decide) (fun c_45 => ?_) (fun c_45 => ?_)
        · have hcd : cdDuct nj (pD H) a b ln wd = 1 := if_pos (fun h => absurd h.1 (of_decide_eq_false ((bI_ne _).mp c_45)))
          refine g_iconst (v := nI 1) C dX7_duct_56 (by decide +kernel) ?_
          refine g_goto (tgt := 83) C dX7_duct_57 (by decide) ?_
          refine g_topi (y := nI (cdDuct nj (pD H) a b ln wd)) (by rw [hcd]) ?_
          refine g_put (σ' := uN σ 5 (nI (cdDuct nj (pD H) a b ln wd))) (ty := .int) C dX7_duct_83 wl27 rfl 0 (by decide) 4 rfl rfl inX7_duct_X7 tyX7_ok nmX7 rfl (by decide +kernel) rfl rfl (Nat.le_of_ble_eq_true rfl) wsN5 ?_
          refine g_aload_n C dX7_duct_86 1 rfl rfl ?_
          refine g_get C dX7_duct_87 wl27 rfl 0 (by decide) 4 rfl rfl rfl inX7_duct_X7 ?_
          refine g_topi (y := nI (cdDuct nj (pD H) a b ln wd)) rfl ?_
          refine g_if_le (tgt := 95) C dX7_duct_90 (by decide) (fun c_90 => ?_) (fun c_90 => ?_)
          · have hc0 : cdDuct nj (pD H) a b ln wd = 0 := nI_le0 (by omega) c_90
            refine g_aload_n C dX7_duct_95 1 rfl rfl ?_
            refine g_get C dX7_duct_96 wl27 rfl 3 (by decide) 5 rfl rfl rfl inX7_duct_X7 ?_
            refine g_aload_n C dX7_duct_99 1 rfl rfl ?_
            refine g_get C dX7_duct_100 wl27 rfl 2 (by decide) 3 rfl rfl rfl inX7_duct_X7 ?_
            refine g_topi (y := nI (pD H)) hM.nd ?_
            refine g_iload_n C dX7_duct_103 2 rfl rfl ?_
            refine g_iast (j := (pD H)) (σ' := uI (uN σ 5 (nI (cdDuct nj (pD H) a b ln wd))) 28 (upd (sI (uN σ 5 (nI (cdDuct nj (pD H) a b ln wd))) 28) (pD H) a)) C dX7_duct_104 wl28 rfl (by have := (cdDuct_0 hc0).2.2; omega) (by decide) wsA28 ?_
            refine g_aload_n C dX7_duct_105 1 rfl rfl ?_
            refine g_get C dX7_duct_106 wl27 rfl 4 (by decide) 6 rfl rfl rfl inX7_duct_X7 ?_
            refine g_aload_n C dX7_duct_109 1 rfl rfl ?_
            refine g_get C dX7_duct_110 wl27 rfl 2 (by decide) 3 rfl rfl rfl inX7_duct_X7 ?_
            refine g_topi (y := nI (pD H)) hM.nd ?_
            refine g_iload_n C dX7_duct_113 3 rfl rfl ?_
            refine g_iast (j := (pD H)) (σ' := uI (uI (uN σ 5 (nI (cdDuct nj (pD H) a b ln wd))) 28 (upd (sI (uN σ 5 (nI (cdDuct nj (pD H) a b ln wd))) 28) (pD H) a)) 29 (upd (sI (uI (uN σ 5 (nI (cdDuct nj (pD H) a b ln wd))) 28 (upd (sI (uN σ 5 (nI (cdDuct nj (pD H) a b ln wd))) 28) (pD H) a)) 29) (pD H) b)) C dX7_duct_114 wl29 rfl (by have := (cdDuct_0 hc0).2.2; omega) (by decide) wsA29 ?_
            refine g_aload_n C dX7_duct_115 1 rfl rfl ?_
            refine g_get C dX7_duct_116 wl27 rfl 5 (by decide) 7 rfl rfl rfl inX7_duct_X7 ?_
            refine g_aload_n C dX7_duct_119 1 rfl rfl ?_
            refine g_get C dX7_duct_120 wl27 rfl 2 (by decide) 3 rfl rfl rfl inX7_duct_X7 ?_
            refine g_topi (y := nI (pD H)) hM.nd ?_
            refine g_dload_n C dX7_duct_123 4 rfl rfl ?_
            refine g_dast (j := (pD H)) (σ' := uF (uI (uI (uN σ 5 (nI (cdDuct nj (pD H) a b ln wd))) 28 (upd (sI (uN σ 5 (nI (cdDuct nj (pD H) a b ln wd))) 28) (pD H) a)) 29 (upd (sI (uI (uN σ 5 (nI (cdDuct nj (pD H) a b ln wd))) 28 (upd (sI (uN σ 5 (nI (cdDuct nj (pD H) a b ln wd))) 28) (pD H) a)) 29) (pD H) b)) 30 (vf_upd (sF (uI (uI (uN σ 5 (nI (cdDuct nj (pD H) a b ln wd))) 28 (upd (sI (uN σ 5 (nI (cdDuct nj (pD H) a b ln wd))) 28) (pD H) a)) 29 (upd (sI (uI (uN σ 5 (nI (cdDuct nj (pD H) a b ln wd))) 28 (upd (sI (uN σ 5 (nI (cdDuct nj (pD H) a b ln wd))) 28) (pD H) a)) 29) (pD H) b)) 30) (pD H) ln)) C dX7_duct_124 wl30 rfl (by have := (cdDuct_0 hc0).2.2; omega) (by decide) wsA30 ?_
            refine g_aload_n C dX7_duct_125 1 rfl rfl ?_
            refine g_get C dX7_duct_126 wl27 rfl 6 (by decide) 8 rfl rfl rfl inX7_duct_X7 ?_
            refine g_aload_n C dX7_duct_129 1 rfl rfl ?_
            refine g_get C dX7_duct_130 wl27 rfl 2 (by decide) 3 rfl rfl rfl inX7_duct_X7 ?_
            refine g_topi (y := nI (pD H)) hM.nd ?_
            refine g_dload C dX7_duct_133 5 rfl ?_
            refine g_dast (j := (pD H)) (σ' := uF (uF (uI (uI (uN σ 5 (nI (cdDuct nj (pD H) a b ln wd))) 28 (upd (sI (uN σ 5 (nI (cdDuct nj (pD H) a b ln wd))) 28) (pD H) a)) 29 (upd (sI (uI (uN σ 5 (nI (cdDuct nj (pD H) a b ln wd))) 28 (upd (sI (uN σ 5 (nI (cdDuct nj (pD H) a b ln wd))) 28) (pD H) a)) 29) (pD H) b)) 30 (vf_upd (sF (uI (uI (uN σ 5 (nI (cdDuct nj (pD H) a b ln wd))) 28 (upd (sI (uN σ 5 (nI (cdDuct nj (pD H) a b ln wd))) 28) (pD H) a)) 29 (upd (sI (uI (uN σ 5 (nI (cdDuct nj (pD H) a b ln wd))) 28 (upd (sI (uN σ 5 (nI (cdDuct nj (pD H) a b ln wd))) 28) (pD H) a)) 29) (pD H) b)) 30) (pD H) ln)) 31 (vf_upd (sF (uF (uI (uI (uN σ 5 (nI (cdDuct nj (pD H) a b ln wd))) 28 (upd (sI (uN σ 5 (nI (cdDuct nj (pD H) a b ln wd))) 28) (pD H) a)) 29 (upd (sI (uI (uN σ 5 (nI (cdDuct nj (pD H) a b ln wd))) 28 (upd (sI (uN σ 5 (nI (cdDuct nj (pD H) a b ln wd))) 28) (pD H) a)) 29) (pD H) b)) 30 (vf_upd (sF (uI (uI (uN σ 5 (nI (cdDuct nj (pD H) a b ln wd))) 28 (upd (sI (uN σ 5 (nI (cdDuct nj (pD H) a b ln wd))) 28) (pD H) a)) 29 (upd (sI (uI (uN σ 5 (nI (cdDuct nj (pD H) a b ln wd))) 28 (upd (sI (uN σ 5 (nI (cdDuct nj (pD H) a b ln wd))) 28) (pD H) a)) 29) (pD H) b)) 30) (pD H) ln)) 31) (pD H) wd)) C dX7_duct_135 wl31 rfl (by have := (cdDuct_0 hc0).2.2; omega) (by decide) wsA31 ?_
            refine g_aload_n C dX7_duct_136 1 rfl rfl ?_
            refine g_dup C dX7_duct_137 rfl ?_
            refine g_get C dX7_duct_138 wl27 rfl 2 (by decide) 3 rfl rfl rfl inX7_duct_X7 ?_
            refine g_topi (y := nI (pD H)) hM.nd ?_
            refine g_iconst (v := nI 1) C dX7_duct_141 (by decide +kernel) ?_
            refine g_iadd C dX7_duct_142 ?_
            refine g_topi (y := nI (pD H + 1)) (nI_add _ 1) ?_
            refine g_put (σ' := uN (uF (uF (uI (uI (uN σ 5 (nI (cdDuct nj (pD H) a b ln wd))) 28 (upd (sI (uN σ 5 (nI (cdDuct nj (pD H) a b ln wd))) 28) (pD H) a)) 29 (upd (sI (uI (uN σ 5 (nI (cdDuct nj (pD H) a b ln wd))) 28 (upd (sI (uN σ 5 (nI (cdDuct nj (pD H) a b ln wd))) 28) (pD H) a)) 29) (pD H) b)) 30 (vf_upd (sF (uI (uI (uN σ 5 (nI (cdDuct nj (pD H) a b ln wd))) 28 (upd (sI (uN σ 5 (nI (cdDuct nj (pD H) a b ln wd))) 28) (pD H) a)) 29 (upd (sI (uI (uN σ 5 (nI (cdDuct nj (pD H) a b ln wd))) 28 (upd (sI (uN σ 5 (nI (cdDuct nj (pD H) a b ln wd))) 28) (pD H) a)) 29) (pD H) b)) 30) (pD H) ln)) 31 (vf_upd (sF (uF (uI (uI (uN σ 5 (nI (cdDuct nj (pD H) a b ln wd))) 28 (upd (sI (uN σ 5 (nI (cdDuct nj (pD H) a b ln wd))) 28) (pD H) a)) 29 (upd (sI (uI (uN σ 5 (nI (cdDuct nj (pD H) a b ln wd))) 28 (upd (sI (uN σ 5 (nI (cdDuct nj (pD H) a b ln wd))) 28) (pD H) a)) 29) (pD H) b)) 30 (vf_upd (sF (uI (uI (uN σ 5 (nI (cdDuct nj (pD H) a b ln wd))) 28 (upd (sI (uN σ 5 (nI (cdDuct nj (pD H) a b ln wd))) 28) (pD H) a)) 29 (upd (sI (uI (uN σ 5 (nI (cdDuct nj (pD H) a b ln wd))) 28 (upd (sI (uN σ 5 (nI (cdDuct nj (pD H) a b ln wd))) 28) (pD H) a)) 29) (pD H) b)) 30) (pD H) ln)) 31) (pD H) wd)) 7 (nI (pD H + 1))) (ty := .int) C dX7_duct_143 wl27 rfl 2 (by decide) 3 rfl rfl inX7_duct_X7 tyX7_ok nmX7 rfl (by decide +kernel) rfl rfl (Nat.le_of_ble_eq_true rfl) wsN7 ?_
            refine g_aload_n C dX7_duct_146 1 rfl rfl ?_
            refine g_iconst (v := nI 0) C dX7_duct_147 (by decide +kernel) ?_
            refine g_put (σ' := uN (uN (uF (uF (uI (uI (uN σ 5 (nI (cdDuct nj (pD H) a b ln wd))) 28 (upd (sI (uN σ 5 (nI (cdDuct nj (pD H) a b ln wd))) 28) (pD H) a)) 29 (upd (sI (uI (uN σ 5 (nI (cdDuct nj (pD H) a b ln wd))) 28 (upd (sI (uN σ 5 (nI (cdDuct nj (pD H) a b ln wd))) 28) (pD H) a)) 29) (pD H) b)) 30 (vf_upd (sF (uI (uI (uN σ 5 (nI (cdDuct nj (pD H) a b ln wd))) 28 (upd (sI (uN σ 5 (nI (cdDuct nj (pD H) a b ln wd))) 28) (pD H) a)) 29 (upd (sI (uI (uN σ 5 (nI (cdDuct nj (pD H) a b ln wd))) 28 (upd (sI (uN σ 5 (nI (cdDuct nj (pD H) a b ln wd))) 28) (pD H) a)) 29) (pD H) b)) 30) (pD H) ln)) 31 (vf_upd (sF (uF (uI (uI (uN σ 5 (nI (cdDuct nj (pD H) a b ln wd))) 28 (upd (sI (uN σ 5 (nI (cdDuct nj (pD H) a b ln wd))) 28) (pD H) a)) 29 (upd (sI (uI (uN σ 5 (nI (cdDuct nj (pD H) a b ln wd))) 28 (upd (sI (uN σ 5 (nI (cdDuct nj (pD H) a b ln wd))) 28) (pD H) a)) 29) (pD H) b)) 30 (vf_upd (sF (uI (uI (uN σ 5 (nI (cdDuct nj (pD H) a b ln wd))) 28 (upd (sI (uN σ 5 (nI (cdDuct nj (pD H) a b ln wd))) 28) (pD H) a)) 29 (upd (sI (uI (uN σ 5 (nI (cdDuct nj (pD H) a b ln wd))) 28 (upd (sI (uN σ 5 (nI (cdDuct nj (pD H) a b ln wd))) 28) (pD H) a)) 29) (pD H) b)) 30) (pD H) ln)) 31) (pD H) wd)) 7 (nI (pD H + 1))) 9 (nI 0)) (ty := .boolean) C dX7_duct_148 wl27 rfl 20 (by decide) 9 rfl rfl inX7_duct_X7 tyX7_ok nmX7 rfl (by decide +kernel) rfl rfl (Nat.le_of_ble_eq_true rfl) wsN9 ?_
            refine g_aload_n C dX7_duct_151 1 rfl rfl ?_
            refine g_get C dX7_duct_152 wl27 rfl 2 (by decide) 3 rfl rfl rfl inX7_duct_X7 ?_
            refine g_topi (y := nI (pD H + 1)) rfl ?_
            refine g_iconst (v := nI 1) C dX7_duct_155 (by decide +kernel) ?_
            refine g_isub C dX7_duct_156 ?_
            refine g_topi (y := nI (pD H)) (nI_pred _) ?_
            refine g_iret C dX7_duct_157 rfl ⟨Nat.le_of_ble_eq_true rfl, Nat.le_of_ble_eq_true rfl⟩ ?_
            rw [hF]
            exact ⟨fun h => absurd hc0 h, fun _ => ⟨rfl, by rw [hc0]; try rfl⟩⟩
          · have hc1 : cdDuct nj (pD H) a b ln wd ≠ 0 := fun h => c_90 (by rw [h]; decide)
            refine g_iconst (v := nI 0) C dX7_duct_93 (by decide +kernel) ?_
            refine g_iret C dX7_duct_94 rfl ⟨Nat.le_of_ble_eq_true rfl, Nat.le_of_ble_eq_true rfl⟩ ?_
            rw [hF]
            exact ⟨fun _ => ⟨rfl, rfl⟩, fun h => absurd h hc1⟩
        · refine g_aload_n C dX7_duct_48 1 rfl rfl ?_
          refine g_iload_n C dX7_duct_49 3 rfl rfl ?_
          refine g_callV (As := [.int b]) (rest := [.ref ((xK X).2.2 27)]) C dX7_duct_50 (kX7_isJoint (xl X) (xK X) C.hD σ hM.j.1 hM.j.2.2 b) wl27 rfl 1 gX7_duct_X7_isJoint rfl (by decide +kernel) ⟨Nat.le_of_ble_eq_true rfl, Nat.le_of_ble_eq_true rfl⟩ ⟨Nat.le_of_ble_eq_true rfl, Nat.le_of_ble_eq_true rfl⟩ rfl rfl (Nat.le_of_ble_eq_true rfl) (fun rv9 σ9 h9 => ?_)
          obtain ⟨h9a, h9b⟩ := h9
          refine g_eq (σ2 := σ) (lv2 := [(7, .int (bI (gdB a b ln wd))), (0, .ref ((xK X).2.2 27)), (1, .int a), (2, .int b), (3, .double ln), (5, .double wd)]) (st2 := [.int (bI (decide (inR b nj))), .ref ((xK X).2.2 27)]) h9b rfl (by rw [h9a]; rfl) ?_
          refine g_if_ne (tgt := 60) C dX7_duct_53 (by decide) (fun c_53 => ?_) (fun c_53 => ?_)
          · refine g_iload C dX7_duct_60 0 rfl ?_
            refine g_if_ne (tgt := 69) C dX7_duct_62 (by decide) (fun c_62 => ?_) (fun c_62 => ?_)
            · have hgd := gd_iff.mp (bIt c_62)
              refine g_aload_n C dX7_duct_69 1 rfl rfl ?_
              refine g_get C dX7_duct_70 wl27 rfl 2 (by decide) 3 rfl rfl rfl inX7_duct_X7 ?_
              refine g_topi (y := nI (pD H)) hM.nd ?_
              refine g_bipush (v := nI 16) C dX7_duct_73 (by decide +kernel) ?_
              refine g_icmp_ne (tgt := 82) C dX7_duct_75 (by decide) (fun c_75 => ?_) (fun c_75 => ?_)
              · have hcd : cdDuct nj (pD H) a b ln wd = 0 := (if_neg (fun h => h ⟨of_decide_eq_true (bIt c_45), of_decide_eq_true (bIt c_53)⟩)).trans ((if_neg (fun h => h hgd)).trans (if_neg (fun h => h (by
                  have : pD H ≠ 16 := fun h => c_75 (by rw [h])
                  omega))))
                refine g_iconst (v := nI 0) C dX7_duct_82 (by decide +kernel) ?_
                refine g_topi (y := nI (cdDuct nj (pD H) a b ln wd)) (by rw [hcd]) ?_
                refine g_put (σ' := uN σ 5 (nI (cdDuct nj (pD H) a b ln wd))) (ty := .int) C dX7_duct_83 wl27 rfl 0 (by decide) 4 rfl rfl inX7_duct_X7 tyX7_ok nmX7 rfl (by decide +kernel) rfl rfl (Nat.le_of_ble_eq_true rfl) wsN5 ?_
                refine g_aload_n C dX7_duct_86 1 rfl rfl ?_
                refine g_get C dX7_duct_87 wl27 rfl 0 (by decide) 4 rfl rfl rfl inX7_duct_X7 ?_
                refine g_topi (y := nI (cdDuct nj (pD H) a b ln wd)) rfl ?_
                refine g_if_le (tgt := 95) C dX7_duct_90 (by decide) (fun c_90 => ?_) (fun c_90 => ?_)
                · have hc0 : cdDuct nj (pD H) a b ln wd = 0 := nI_le0 (by omega) c_90
                  refine g_aload_n C dX7_duct_95 1 rfl rfl ?_
                  refine g_get C dX7_duct_96 wl27 rfl 3 (by decide) 5 rfl rfl rfl inX7_duct_X7 ?_
                  refine g_aload_n C dX7_duct_99 1 rfl rfl ?_
                  refine g_get C dX7_duct_100 wl27 rfl 2 (by decide) 3 rfl rfl rfl inX7_duct_X7 ?_
                  refine g_topi (y := nI (pD H)) hM.nd ?_
                  refine g_iload_n C dX7_duct_103 2 rfl rfl ?_
                  refine g_iast (j := (pD H)) (σ' := uI (uN σ 5 (nI (cdDuct nj (pD H) a b ln wd))) 28 (upd (sI (uN σ 5 (nI (cdDuct nj (pD H) a b ln wd))) 28) (pD H) a)) C dX7_duct_104 wl28 rfl (by have := (cdDuct_0 hc0).2.2; omega) (by decide) wsA28 ?_
                  refine g_aload_n C dX7_duct_105 1 rfl rfl ?_
                  refine g_get C dX7_duct_106 wl27 rfl 4 (by decide) 6 rfl rfl rfl inX7_duct_X7 ?_
                  refine g_aload_n C dX7_duct_109 1 rfl rfl ?_
                  refine g_get C dX7_duct_110 wl27 rfl 2 (by decide) 3 rfl rfl rfl inX7_duct_X7 ?_
                  refine g_topi (y := nI (pD H)) hM.nd ?_
                  refine g_iload_n C dX7_duct_113 3 rfl rfl ?_
                  refine g_iast (j := (pD H)) (σ' := uI (uI (uN σ 5 (nI (cdDuct nj (pD H) a b ln wd))) 28 (upd (sI (uN σ 5 (nI (cdDuct nj (pD H) a b ln wd))) 28) (pD H) a)) 29 (upd (sI (uI (uN σ 5 (nI (cdDuct nj (pD H) a b ln wd))) 28 (upd (sI (uN σ 5 (nI (cdDuct nj (pD H) a b ln wd))) 28) (pD H) a)) 29) (pD H) b)) C dX7_duct_114 wl29 rfl (by have := (cdDuct_0 hc0).2.2; omega) (by decide) wsA29 ?_
                  refine g_aload_n C dX7_duct_115 1 rfl rfl ?_
                  refine g_get C dX7_duct_116 wl27 rfl 5 (by decide) 7 rfl rfl rfl inX7_duct_X7 ?_
                  refine g_aload_n C dX7_duct_119 1 rfl rfl ?_
                  refine g_get C dX7_duct_120 wl27 rfl 2 (by decide) 3 rfl rfl rfl inX7_duct_X7 ?_
                  refine g_topi (y := nI (pD H)) hM.nd ?_
                  refine g_dload_n C dX7_duct_123 4 rfl rfl ?_
                  refine g_dast (j := (pD H)) (σ' := uF (uI (uI (uN σ 5 (nI (cdDuct nj (pD H) a b ln wd))) 28 (upd (sI (uN σ 5 (nI (cdDuct nj (pD H) a b ln wd))) 28) (pD H) a)) 29 (upd (sI (uI (uN σ 5 (nI (cdDuct nj (pD H) a b ln wd))) 28 (upd (sI (uN σ 5 (nI (cdDuct nj (pD H) a b ln wd))) 28) (pD H) a)) 29) (pD H) b)) 30 (vf_upd (sF (uI (uI (uN σ 5 (nI (cdDuct nj (pD H) a b ln wd))) 28 (upd (sI (uN σ 5 (nI (cdDuct nj (pD H) a b ln wd))) 28) (pD H) a)) 29 (upd (sI (uI (uN σ 5 (nI (cdDuct nj (pD H) a b ln wd))) 28 (upd (sI (uN σ 5 (nI (cdDuct nj (pD H) a b ln wd))) 28) (pD H) a)) 29) (pD H) b)) 30) (pD H) ln)) C dX7_duct_124 wl30 rfl (by have := (cdDuct_0 hc0).2.2; omega) (by decide) wsA30 ?_
                  refine g_aload_n C dX7_duct_125 1 rfl rfl ?_
                  refine g_get C dX7_duct_126 wl27 rfl 6 (by decide) 8 rfl rfl rfl inX7_duct_X7 ?_
                  refine g_aload_n C dX7_duct_129 1 rfl rfl ?_
                  refine g_get C dX7_duct_130 wl27 rfl 2 (by decide) 3 rfl rfl rfl inX7_duct_X7 ?_
                  refine g_topi (y := nI (pD H)) hM.nd ?_
                  refine g_dload C dX7_duct_133 5 rfl ?_
                  refine g_dast (j := (pD H)) (σ' := uF (uF (uI (uI (uN σ 5 (nI (cdDuct nj (pD H) a b ln wd))) 28 (upd (sI (uN σ 5 (nI (cdDuct nj (pD H) a b ln wd))) 28) (pD H) a)) 29 (upd (sI (uI (uN σ 5 (nI (cdDuct nj (pD H) a b ln wd))) 28 (upd (sI (uN σ 5 (nI (cdDuct nj (pD H) a b ln wd))) 28) (pD H) a)) 29) (pD H) b)) 30 (vf_upd (sF (uI (uI (uN σ 5 (nI (cdDuct nj (pD H) a b ln wd))) 28 (upd (sI (uN σ 5 (nI (cdDuct nj (pD H) a b ln wd))) 28) (pD H) a)) 29 (upd (sI (uI (uN σ 5 (nI (cdDuct nj (pD H) a b ln wd))) 28 (upd (sI (uN σ 5 (nI (cdDuct nj (pD H) a b ln wd))) 28) (pD H) a)) 29) (pD H) b)) 30) (pD H) ln)) 31 (vf_upd (sF (uF (uI (uI (uN σ 5 (nI (cdDuct nj (pD H) a b ln wd))) 28 (upd (sI (uN σ 5 (nI (cdDuct nj (pD H) a b ln wd))) 28) (pD H) a)) 29 (upd (sI (uI (uN σ 5 (nI (cdDuct nj (pD H) a b ln wd))) 28 (upd (sI (uN σ 5 (nI (cdDuct nj (pD H) a b ln wd))) 28) (pD H) a)) 29) (pD H) b)) 30 (vf_upd (sF (uI (uI (uN σ 5 (nI (cdDuct nj (pD H) a b ln wd))) 28 (upd (sI (uN σ 5 (nI (cdDuct nj (pD H) a b ln wd))) 28) (pD H) a)) 29 (upd (sI (uI (uN σ 5 (nI (cdDuct nj (pD H) a b ln wd))) 28 (upd (sI (uN σ 5 (nI (cdDuct nj (pD H) a b ln wd))) 28) (pD H) a)) 29) (pD H) b)) 30) (pD H) ln)) 31) (pD H) wd)) C dX7_duct_135 wl31 rfl (by have := (cdDuct_0 hc0).2.2; omega) (by decide) wsA31 ?_
                  refine g_aload_n C dX7_duct_136 1 rfl rfl ?_
                  refine g_dup C dX7_duct_137 rfl ?_
                  refine g_get C dX7_duct_138 wl27 rfl 2 (by decide) 3 rfl rfl rfl inX7_duct_X7 ?_
                  refine g_topi (y := nI (pD H)) hM.nd ?_
                  refine g_iconst (v := nI 1) C dX7_duct_141 (by decide +kernel) ?_
                  refine g_iadd C dX7_duct_142 ?_
                  refine g_topi (y := nI (pD H + 1)) (nI_add _ 1) ?_
                  refine g_put (σ' := uN (uF (uF (uI (uI (uN σ 5 (nI (cdDuct nj (pD H) a b ln wd))) 28 (upd (sI (uN σ 5 (nI (cdDuct nj (pD H) a b ln wd))) 28) (pD H) a)) 29 (upd (sI (uI (uN σ 5 (nI (cdDuct nj (pD H) a b ln wd))) 28 (upd (sI (uN σ 5 (nI (cdDuct nj (pD H) a b ln wd))) 28) (pD H) a)) 29) (pD H) b)) 30 (vf_upd (sF (uI (uI (uN σ 5 (nI (cdDuct nj (pD H) a b ln wd))) 28 (upd (sI (uN σ 5 (nI (cdDuct nj (pD H) a b ln wd))) 28) (pD H) a)) 29 (upd (sI (uI (uN σ 5 (nI (cdDuct nj (pD H) a b ln wd))) 28 (upd (sI (uN σ 5 (nI (cdDuct nj (pD H) a b ln wd))) 28) (pD H) a)) 29) (pD H) b)) 30) (pD H) ln)) 31 (vf_upd (sF (uF (uI (uI (uN σ 5 (nI (cdDuct nj (pD H) a b ln wd))) 28 (upd (sI (uN σ 5 (nI (cdDuct nj (pD H) a b ln wd))) 28) (pD H) a)) 29 (upd (sI (uI (uN σ 5 (nI (cdDuct nj (pD H) a b ln wd))) 28 (upd (sI (uN σ 5 (nI (cdDuct nj (pD H) a b ln wd))) 28) (pD H) a)) 29) (pD H) b)) 30 (vf_upd (sF (uI (uI (uN σ 5 (nI (cdDuct nj (pD H) a b ln wd))) 28 (upd (sI (uN σ 5 (nI (cdDuct nj (pD H) a b ln wd))) 28) (pD H) a)) 29 (upd (sI (uI (uN σ 5 (nI (cdDuct nj (pD H) a b ln wd))) 28 (upd (sI (uN σ 5 (nI (cdDuct nj (pD H) a b ln wd))) 28) (pD H) a)) 29) (pD H) b)) 30) (pD H) ln)) 31) (pD H) wd)) 7 (nI (pD H + 1))) (ty := .int) C dX7_duct_143 wl27 rfl 2 (by decide) 3 rfl rfl inX7_duct_X7 tyX7_ok nmX7 rfl (by decide +kernel) rfl rfl (Nat.le_of_ble_eq_true rfl) wsN7 ?_
                  refine g_aload_n C dX7_duct_146 1 rfl rfl ?_
                  refine g_iconst (v := nI 0) C dX7_duct_147 (by decide +kernel) ?_
                  refine g_put (σ' := uN (uN (uF (uF (uI (uI (uN σ 5 (nI (cdDuct nj (pD H) a b ln wd))) 28 (upd (sI (uN σ 5 (nI (cdDuct nj (pD H) a b ln wd))) 28) (pD H) a)) 29 (upd (sI (uI (uN σ 5 (nI (cdDuct nj (pD H) a b ln wd))) 28 (upd (sI (uN σ 5 (nI (cdDuct nj (pD H) a b ln wd))) 28) (pD H) a)) 29) (pD H) b)) 30 (vf_upd (sF (uI (uI (uN σ 5 (nI (cdDuct nj (pD H) a b ln wd))) 28 (upd (sI (uN σ 5 (nI (cdDuct nj (pD H) a b ln wd))) 28) (pD H) a)) 29 (upd (sI (uI (uN σ 5 (nI (cdDuct nj (pD H) a b ln wd))) 28 (upd (sI (uN σ 5 (nI (cdDuct nj (pD H) a b ln wd))) 28) (pD H) a)) 29) (pD H) b)) 30) (pD H) ln)) 31 (vf_upd (sF (uF (uI (uI (uN σ 5 (nI (cdDuct nj (pD H) a b ln wd))) 28 (upd (sI (uN σ 5 (nI (cdDuct nj (pD H) a b ln wd))) 28) (pD H) a)) 29 (upd (sI (uI (uN σ 5 (nI (cdDuct nj (pD H) a b ln wd))) 28 (upd (sI (uN σ 5 (nI (cdDuct nj (pD H) a b ln wd))) 28) (pD H) a)) 29) (pD H) b)) 30 (vf_upd (sF (uI (uI (uN σ 5 (nI (cdDuct nj (pD H) a b ln wd))) 28 (upd (sI (uN σ 5 (nI (cdDuct nj (pD H) a b ln wd))) 28) (pD H) a)) 29 (upd (sI (uI (uN σ 5 (nI (cdDuct nj (pD H) a b ln wd))) 28 (upd (sI (uN σ 5 (nI (cdDuct nj (pD H) a b ln wd))) 28) (pD H) a)) 29) (pD H) b)) 30) (pD H) ln)) 31) (pD H) wd)) 7 (nI (pD H + 1))) 9 (nI 0)) (ty := .boolean) C dX7_duct_148 wl27 rfl 20 (by decide) 9 rfl rfl inX7_duct_X7 tyX7_ok nmX7 rfl (by decide +kernel) rfl rfl (Nat.le_of_ble_eq_true rfl) wsN9 ?_
                  refine g_aload_n C dX7_duct_151 1 rfl rfl ?_
                  refine g_get C dX7_duct_152 wl27 rfl 2 (by decide) 3 rfl rfl rfl inX7_duct_X7 ?_
                  refine g_topi (y := nI (pD H + 1)) rfl ?_
                  refine g_iconst (v := nI 1) C dX7_duct_155 (by decide +kernel) ?_
                  refine g_isub C dX7_duct_156 ?_
                  refine g_topi (y := nI (pD H)) (nI_pred _) ?_
                  refine g_iret C dX7_duct_157 rfl ⟨Nat.le_of_ble_eq_true rfl, Nat.le_of_ble_eq_true rfl⟩ ?_
                  rw [hF]
                  exact ⟨fun h => absurd hc0 h, fun _ => ⟨rfl, by rw [hc0]; try rfl⟩⟩
                · have hc1 : cdDuct nj (pD H) a b ln wd ≠ 0 := fun h => c_90 (by rw [h]; decide)
                  refine g_iconst (v := nI 0) C dX7_duct_93 (by decide +kernel) ?_
                  refine g_iret C dX7_duct_94 rfl ⟨Nat.le_of_ble_eq_true rfl, Nat.le_of_ble_eq_true rfl⟩ ?_
                  rw [hF]
                  exact ⟨fun _ => ⟨rfl, rfl⟩, fun h => absurd h hc1⟩
              · have hcd : cdDuct nj (pD H) a b ln wd = 3 := (if_neg (fun h => h ⟨of_decide_eq_true (bIt c_45), of_decide_eq_true (bIt c_53)⟩)).trans ((if_neg (fun h => h hgd)).trans (if_pos (by
                  have := (nI_eq (a := pD H) (b := 16) (by omega) (by decide)).mp (Decidable.byContradiction fun h => absurd c_75 h)
                  omega)))
                refine g_iconst (v := nI 3) C dX7_duct_78 (by decide +kernel) ?_
                refine g_goto (tgt := 83) C dX7_duct_79 (by decide) ?_
                refine g_topi (y := nI (cdDuct nj (pD H) a b ln wd)) (by rw [hcd]) ?_
                refine g_put (σ' := uN σ 5 (nI (cdDuct nj (pD H) a b ln wd))) (ty := .int) C dX7_duct_83 wl27 rfl 0 (by decide) 4 rfl rfl inX7_duct_X7 tyX7_ok nmX7 rfl (by decide +kernel) rfl rfl (Nat.le_of_ble_eq_true rfl) wsN5 ?_
                refine g_aload_n C dX7_duct_86 1 rfl rfl ?_
                refine g_get C dX7_duct_87 wl27 rfl 0 (by decide) 4 rfl rfl rfl inX7_duct_X7 ?_
                refine g_topi (y := nI (cdDuct nj (pD H) a b ln wd)) rfl ?_
                refine g_if_le (tgt := 95) C dX7_duct_90 (by decide) (fun c_90 => ?_) (fun c_90 => ?_)
                · have hc0 : cdDuct nj (pD H) a b ln wd = 0 := nI_le0 (by omega) c_90
                  refine g_aload_n C dX7_duct_95 1 rfl rfl ?_
                  refine g_get C dX7_duct_96 wl27 rfl 3 (by decide) 5 rfl rfl rfl inX7_duct_X7 ?_
                  refine g_aload_n C dX7_duct_99 1 rfl rfl ?_
                  refine g_get C dX7_duct_100 wl27 rfl 2 (by decide) 3 rfl rfl rfl inX7_duct_X7 ?_
                  refine g_topi (y := nI (pD H)) hM.nd ?_
                  refine g_iload_n C dX7_duct_103 2 rfl rfl ?_
                  refine g_iast (j := (pD H)) (σ' := uI (uN σ 5 (nI (cdDuct nj (pD H) a b ln wd))) 28 (upd (sI (uN σ 5 (nI (cdDuct nj (pD H) a b ln wd))) 28) (pD H) a)) C dX7_duct_104 wl28 rfl (by have := (cdDuct_0 hc0).2.2; omega) (by decide) wsA28 ?_
                  refine g_aload_n C dX7_duct_105 1 rfl rfl ?_
                  refine g_get C dX7_duct_106 wl27 rfl 4 (by decide) 6 rfl rfl rfl inX7_duct_X7 ?_
                  refine g_aload_n C dX7_duct_109 1 rfl rfl ?_
                  refine g_get C dX7_duct_110 wl27 rfl 2 (by decide) 3 rfl rfl rfl inX7_duct_X7 ?_
                  refine g_topi (y := nI (pD H)) hM.nd ?_
                  refine g_iload_n C dX7_duct_113 3 rfl rfl ?_
                  refine g_iast (j := (pD H)) (σ' := uI (uI (uN σ 5 (nI (cdDuct nj (pD H) a b ln wd))) 28 (upd (sI (uN σ 5 (nI (cdDuct nj (pD H) a b ln wd))) 28) (pD H) a)) 29 (upd (sI (uI (uN σ 5 (nI (cdDuct nj (pD H) a b ln wd))) 28 (upd (sI (uN σ 5 (nI (cdDuct nj (pD H) a b ln wd))) 28) (pD H) a)) 29) (pD H) b)) C dX7_duct_114 wl29 rfl (by have := (cdDuct_0 hc0).2.2; omega) (by decide) wsA29 ?_
                  refine g_aload_n C dX7_duct_115 1 rfl rfl ?_
                  refine g_get C dX7_duct_116 wl27 rfl 5 (by decide) 7 rfl rfl rfl inX7_duct_X7 ?_
                  refine g_aload_n C dX7_duct_119 1 rfl rfl ?_
                  refine g_get C dX7_duct_120 wl27 rfl 2 (by decide) 3 rfl rfl rfl inX7_duct_X7 ?_
                  refine g_topi (y := nI (pD H)) hM.nd ?_
                  refine g_dload_n C dX7_duct_123 4 rfl rfl ?_
                  refine g_dast (j := (pD H)) (σ' := uF (uI (uI (uN σ 5 (nI (cdDuct nj (pD H) a b ln wd))) 28 (upd (sI (uN σ 5 (nI (cdDuct nj (pD H) a b ln wd))) 28) (pD H) a)) 29 (upd (sI (uI (uN σ 5 (nI (cdDuct nj (pD H) a b ln wd))) 28 (upd (sI (uN σ 5 (nI (cdDuct nj (pD H) a b ln wd))) 28) (pD H) a)) 29) (pD H) b)) 30 (vf_upd (sF (uI (uI (uN σ 5 (nI (cdDuct nj (pD H) a b ln wd))) 28 (upd (sI (uN σ 5 (nI (cdDuct nj (pD H) a b ln wd))) 28) (pD H) a)) 29 (upd (sI (uI (uN σ 5 (nI (cdDuct nj (pD H) a b ln wd))) 28 (upd (sI (uN σ 5 (nI (cdDuct nj (pD H) a b ln wd))) 28) (pD H) a)) 29) (pD H) b)) 30) (pD H) ln)) C dX7_duct_124 wl30 rfl (by have := (cdDuct_0 hc0).2.2; omega) (by decide) wsA30 ?_
                  refine g_aload_n C dX7_duct_125 1 rfl rfl ?_
                  refine g_get C dX7_duct_126 wl27 rfl 6 (by decide) 8 rfl rfl rfl inX7_duct_X7 ?_
                  refine g_aload_n C dX7_duct_129 1 rfl rfl ?_
                  refine g_get C dX7_duct_130 wl27 rfl 2 (by decide) 3 rfl rfl rfl inX7_duct_X7 ?_
                  refine g_topi (y := nI (pD H)) hM.nd ?_
                  refine g_dload C dX7_duct_133 5 rfl ?_
                  refine g_dast (j := (pD H)) (σ' := uF (uF (uI (uI (uN σ 5 (nI (cdDuct nj (pD H) a b ln wd))) 28 (upd (sI (uN σ 5 (nI (cdDuct nj (pD H) a b ln wd))) 28) (pD H) a)) 29 (upd (sI (uI (uN σ 5 (nI (cdDuct nj (pD H) a b ln wd))) 28 (upd (sI (uN σ 5 (nI (cdDuct nj (pD H) a b ln wd))) 28) (pD H) a)) 29) (pD H) b)) 30 (vf_upd (sF (uI (uI (uN σ 5 (nI (cdDuct nj (pD H) a b ln wd))) 28 (upd (sI (uN σ 5 (nI (cdDuct nj (pD H) a b ln wd))) 28) (pD H) a)) 29 (upd (sI (uI (uN σ 5 (nI (cdDuct nj (pD H) a b ln wd))) 28 (upd (sI (uN σ 5 (nI (cdDuct nj (pD H) a b ln wd))) 28) (pD H) a)) 29) (pD H) b)) 30) (pD H) ln)) 31 (vf_upd (sF (uF (uI (uI (uN σ 5 (nI (cdDuct nj (pD H) a b ln wd))) 28 (upd (sI (uN σ 5 (nI (cdDuct nj (pD H) a b ln wd))) 28) (pD H) a)) 29 (upd (sI (uI (uN σ 5 (nI (cdDuct nj (pD H) a b ln wd))) 28 (upd (sI (uN σ 5 (nI (cdDuct nj (pD H) a b ln wd))) 28) (pD H) a)) 29) (pD H) b)) 30 (vf_upd (sF (uI (uI (uN σ 5 (nI (cdDuct nj (pD H) a b ln wd))) 28 (upd (sI (uN σ 5 (nI (cdDuct nj (pD H) a b ln wd))) 28) (pD H) a)) 29 (upd (sI (uI (uN σ 5 (nI (cdDuct nj (pD H) a b ln wd))) 28 (upd (sI (uN σ 5 (nI (cdDuct nj (pD H) a b ln wd))) 28) (pD H) a)) 29) (pD H) b)) 30) (pD H) ln)) 31) (pD H) wd)) C dX7_duct_135 wl31 rfl (by have := (cdDuct_0 hc0).2.2; omega) (by decide) wsA31 ?_
                  refine g_aload_n C dX7_duct_136 1 rfl rfl ?_
                  refine g_dup C dX7_duct_137 rfl ?_
                  refine g_get C dX7_duct_138 wl27 rfl 2 (by decide) 3 rfl rfl rfl inX7_duct_X7 ?_
                  refine g_topi (y := nI (pD H)) hM.nd ?_
                  refine g_iconst (v := nI 1) C dX7_duct_141 (by decide +kernel) ?_
                  refine g_iadd C dX7_duct_142 ?_
                  refine g_topi (y := nI (pD H + 1)) (nI_add _ 1) ?_
                  refine g_put (σ' := uN (uF (uF (uI (uI (uN σ 5 (nI (cdDuct nj (pD H) a b ln wd))) 28 (upd (sI (uN σ 5 (nI (cdDuct nj (pD H) a b ln wd))) 28) (pD H) a)) 29 (upd (sI (uI (uN σ 5 (nI (cdDuct nj (pD H) a b ln wd))) 28 (upd (sI (uN σ 5 (nI (cdDuct nj (pD H) a b ln wd))) 28) (pD H) a)) 29) (pD H) b)) 30 (vf_upd (sF (uI (uI (uN σ 5 (nI (cdDuct nj (pD H) a b ln wd))) 28 (upd (sI (uN σ 5 (nI (cdDuct nj (pD H) a b ln wd))) 28) (pD H) a)) 29 (upd (sI (uI (uN σ 5 (nI (cdDuct nj (pD H) a b ln wd))) 28 (upd (sI (uN σ 5 (nI (cdDuct nj (pD H) a b ln wd))) 28) (pD H) a)) 29) (pD H) b)) 30) (pD H) ln)) 31 (vf_upd (sF (uF (uI (uI (uN σ 5 (nI (cdDuct nj (pD H) a b ln wd))) 28 (upd (sI (uN σ 5 (nI (cdDuct nj (pD H) a b ln wd))) 28) (pD H) a)) 29 (upd (sI (uI (uN σ 5 (nI (cdDuct nj (pD H) a b ln wd))) 28 (upd (sI (uN σ 5 (nI (cdDuct nj (pD H) a b ln wd))) 28) (pD H) a)) 29) (pD H) b)) 30 (vf_upd (sF (uI (uI (uN σ 5 (nI (cdDuct nj (pD H) a b ln wd))) 28 (upd (sI (uN σ 5 (nI (cdDuct nj (pD H) a b ln wd))) 28) (pD H) a)) 29 (upd (sI (uI (uN σ 5 (nI (cdDuct nj (pD H) a b ln wd))) 28 (upd (sI (uN σ 5 (nI (cdDuct nj (pD H) a b ln wd))) 28) (pD H) a)) 29) (pD H) b)) 30) (pD H) ln)) 31) (pD H) wd)) 7 (nI (pD H + 1))) (ty := .int) C dX7_duct_143 wl27 rfl 2 (by decide) 3 rfl rfl inX7_duct_X7 tyX7_ok nmX7 rfl (by decide +kernel) rfl rfl (Nat.le_of_ble_eq_true rfl) wsN7 ?_
                  refine g_aload_n C dX7_duct_146 1 rfl rfl ?_
                  refine g_iconst (v := nI 0) C dX7_duct_147 (by decide +kernel) ?_
                  refine g_put (σ' := uN (uN (uF (uF (uI (uI (uN σ 5 (nI (cdDuct nj (pD H) a b ln wd))) 28 (upd (sI (uN σ 5 (nI (cdDuct nj (pD H) a b ln wd))) 28) (pD H) a)) 29 (upd (sI (uI (uN σ 5 (nI (cdDuct nj (pD H) a b ln wd))) 28 (upd (sI (uN σ 5 (nI (cdDuct nj (pD H) a b ln wd))) 28) (pD H) a)) 29) (pD H) b)) 30 (vf_upd (sF (uI (uI (uN σ 5 (nI (cdDuct nj (pD H) a b ln wd))) 28 (upd (sI (uN σ 5 (nI (cdDuct nj (pD H) a b ln wd))) 28) (pD H) a)) 29 (upd (sI (uI (uN σ 5 (nI (cdDuct nj (pD H) a b ln wd))) 28 (upd (sI (uN σ 5 (nI (cdDuct nj (pD H) a b ln wd))) 28) (pD H) a)) 29) (pD H) b)) 30) (pD H) ln)) 31 (vf_upd (sF (uF (uI (uI (uN σ 5 (nI (cdDuct nj (pD H) a b ln wd))) 28 (upd (sI (uN σ 5 (nI (cdDuct nj (pD H) a b ln wd))) 28) (pD H) a)) 29 (upd (sI (uI (uN σ 5 (nI (cdDuct nj (pD H) a b ln wd))) 28 (upd (sI (uN σ 5 (nI (cdDuct nj (pD H) a b ln wd))) 28) (pD H) a)) 29) (pD H) b)) 30 (vf_upd (sF (uI (uI (uN σ 5 (nI (cdDuct nj (pD H) a b ln wd))) 28 (upd (sI (uN σ 5 (nI (cdDuct nj (pD H) a b ln wd))) 28) (pD H) a)) 29 (upd (sI (uI (uN σ 5 (nI (cdDuct nj (pD H) a b ln wd))) 28 (upd (sI (uN σ 5 (nI (cdDuct nj (pD H) a b ln wd))) 28) (pD H) a)) 29) (pD H) b)) 30) (pD H) ln)) 31) (pD H) wd)) 7 (nI (pD H + 1))) 9 (nI 0)) (ty := .boolean) C dX7_duct_148 wl27 rfl 20 (by decide) 9 rfl rfl inX7_duct_X7 tyX7_ok nmX7 rfl (by decide +kernel) rfl rfl (Nat.le_of_ble_eq_true rfl) wsN9 ?_
                  refine g_aload_n C dX7_duct_151 1 rfl rfl ?_
                  refine g_get C dX7_duct_152 wl27 rfl 2 (by decide) 3 rfl rfl rfl inX7_duct_X7 ?_
                  refine g_topi (y := nI (pD H + 1)) rfl ?_
                  refine g_iconst (v := nI 1) C dX7_duct_155 (by decide +kernel) ?_
                  refine g_isub C dX7_duct_156 ?_
                  refine g_topi (y := nI (pD H)) (nI_pred _) ?_
                  refine g_iret C dX7_duct_157 rfl ⟨Nat.le_of_ble_eq_true rfl, Nat.le_of_ble_eq_true rfl⟩ ?_
                  rw [hF]
                  exact ⟨fun h => absurd hc0 h, fun _ => ⟨rfl, by rw [hc0]; try rfl⟩⟩
                · have hc1 : cdDuct nj (pD H) a b ln wd ≠ 0 := fun h => c_90 (by rw [h]; decide)
                  refine g_iconst (v := nI 0) C dX7_duct_93 (by decide +kernel) ?_
                  refine g_iret C dX7_duct_94 rfl ⟨Nat.le_of_ble_eq_true rfl, Nat.le_of_ble_eq_true rfl⟩ ?_
                  rw [hF]
                  exact ⟨fun _ => ⟨rfl, rfl⟩, fun h => absurd h hc1⟩
            · have hgd : ¬ (a ≠ b ∧ wiB ln k125 k100 = true ∧ wiB wd k125 k100 = true) := fun h => by
                have h9 := (bI_ne _).mp c_62
                rw [gd_iff.mpr h] at h9
                cases h9
              have hcd : cdDuct nj (pD H) a b ln wd = 2 := (if_neg (fun h => h ⟨of_decide_eq_true (bIt c_45), of_decide_eq_true (bIt c_53)⟩)).trans (if_pos hgd)
              refine g_iconst (v := nI 2) C dX7_duct_65 (by decide +kernel) ?_
              refine g_goto (tgt := 83) C dX7_duct_66 (by decide) ?_
              refine g_topi (y := nI (cdDuct nj (pD H) a b ln wd)) (by rw [hcd]) ?_
              refine g_put (σ' := uN σ 5 (nI (cdDuct nj (pD H) a b ln wd))) (ty := .int) C dX7_duct_83 wl27 rfl 0 (by decide) 4 rfl rfl inX7_duct_X7 tyX7_ok nmX7 rfl (by decide +kernel) rfl rfl (Nat.le_of_ble_eq_true rfl) wsN5 ?_
              refine g_aload_n C dX7_duct_86 1 rfl rfl ?_
              refine g_get C dX7_duct_87 wl27 rfl 0 (by decide) 4 rfl rfl rfl inX7_duct_X7 ?_
              refine g_topi (y := nI (cdDuct nj (pD H) a b ln wd)) rfl ?_
              refine g_if_le (tgt := 95) C dX7_duct_90 (by decide) (fun c_90 => ?_) (fun c_90 => ?_)
              · have hc0 : cdDuct nj (pD H) a b ln wd = 0 := nI_le0 (by omega) c_90
                refine g_aload_n C dX7_duct_95 1 rfl rfl ?_
                refine g_get C dX7_duct_96 wl27 rfl 3 (by decide) 5 rfl rfl rfl inX7_duct_X7 ?_
                refine g_aload_n C dX7_duct_99 1 rfl rfl ?_
                refine g_get C dX7_duct_100 wl27 rfl 2 (by decide) 3 rfl rfl rfl inX7_duct_X7 ?_
                refine g_topi (y := nI (pD H)) hM.nd ?_
                refine g_iload_n C dX7_duct_103 2 rfl rfl ?_
                refine g_iast (j := (pD H)) (σ' := uI (uN σ 5 (nI (cdDuct nj (pD H) a b ln wd))) 28 (upd (sI (uN σ 5 (nI (cdDuct nj (pD H) a b ln wd))) 28) (pD H) a)) C dX7_duct_104 wl28 rfl (by have := (cdDuct_0 hc0).2.2; omega) (by decide) wsA28 ?_
                refine g_aload_n C dX7_duct_105 1 rfl rfl ?_
                refine g_get C dX7_duct_106 wl27 rfl 4 (by decide) 6 rfl rfl rfl inX7_duct_X7 ?_
                refine g_aload_n C dX7_duct_109 1 rfl rfl ?_
                refine g_get C dX7_duct_110 wl27 rfl 2 (by decide) 3 rfl rfl rfl inX7_duct_X7 ?_
                refine g_topi (y := nI (pD H)) hM.nd ?_
                refine g_iload_n C dX7_duct_113 3 rfl rfl ?_
                refine g_iast (j := (pD H)) (σ' := uI (uI (uN σ 5 (nI (cdDuct nj (pD H) a b ln wd))) 28 (upd (sI (uN σ 5 (nI (cdDuct nj (pD H) a b ln wd))) 28) (pD H) a)) 29 (upd (sI (uI (uN σ 5 (nI (cdDuct nj (pD H) a b ln wd))) 28 (upd (sI (uN σ 5 (nI (cdDuct nj (pD H) a b ln wd))) 28) (pD H) a)) 29) (pD H) b)) C dX7_duct_114 wl29 rfl (by have := (cdDuct_0 hc0).2.2; omega) (by decide) wsA29 ?_
                refine g_aload_n C dX7_duct_115 1 rfl rfl ?_
                refine g_get C dX7_duct_116 wl27 rfl 5 (by decide) 7 rfl rfl rfl inX7_duct_X7 ?_
                refine g_aload_n C dX7_duct_119 1 rfl rfl ?_
                refine g_get C dX7_duct_120 wl27 rfl 2 (by decide) 3 rfl rfl rfl inX7_duct_X7 ?_
                refine g_topi (y := nI (pD H)) hM.nd ?_
                refine g_dload_n C dX7_duct_123 4 rfl rfl ?_
                refine g_dast (j := (pD H)) (σ' := uF (uI (uI (uN σ 5 (nI (cdDuct nj (pD H) a b ln wd))) 28 (upd (sI (uN σ 5 (nI (cdDuct nj (pD H) a b ln wd))) 28) (pD H) a)) 29 (upd (sI (uI (uN σ 5 (nI (cdDuct nj (pD H) a b ln wd))) 28 (upd (sI (uN σ 5 (nI (cdDuct nj (pD H) a b ln wd))) 28) (pD H) a)) 29) (pD H) b)) 30 (vf_upd (sF (uI (uI (uN σ 5 (nI (cdDuct nj (pD H) a b ln wd))) 28 (upd (sI (uN σ 5 (nI (cdDuct nj (pD H) a b ln wd))) 28) (pD H) a)) 29 (upd (sI (uI (uN σ 5 (nI (cdDuct nj (pD H) a b ln wd))) 28 (upd (sI (uN σ 5 (nI (cdDuct nj (pD H) a b ln wd))) 28) (pD H) a)) 29) (pD H) b)) 30) (pD H) ln)) C dX7_duct_124 wl30 rfl (by have := (cdDuct_0 hc0).2.2; omega) (by decide) wsA30 ?_
                refine g_aload_n C dX7_duct_125 1 rfl rfl ?_
                refine g_get C dX7_duct_126 wl27 rfl 6 (by decide) 8 rfl rfl rfl inX7_duct_X7 ?_
                refine g_aload_n C dX7_duct_129 1 rfl rfl ?_
                refine g_get C dX7_duct_130 wl27 rfl 2 (by decide) 3 rfl rfl rfl inX7_duct_X7 ?_
                refine g_topi (y := nI (pD H)) hM.nd ?_
                refine g_dload C dX7_duct_133 5 rfl ?_
                refine g_dast (j := (pD H)) (σ' := uF (uF (uI (uI (uN σ 5 (nI (cdDuct nj (pD H) a b ln wd))) 28 (upd (sI (uN σ 5 (nI (cdDuct nj (pD H) a b ln wd))) 28) (pD H) a)) 29 (upd (sI (uI (uN σ 5 (nI (cdDuct nj (pD H) a b ln wd))) 28 (upd (sI (uN σ 5 (nI (cdDuct nj (pD H) a b ln wd))) 28) (pD H) a)) 29) (pD H) b)) 30 (vf_upd (sF (uI (uI (uN σ 5 (nI (cdDuct nj (pD H) a b ln wd))) 28 (upd (sI (uN σ 5 (nI (cdDuct nj (pD H) a b ln wd))) 28) (pD H) a)) 29 (upd (sI (uI (uN σ 5 (nI (cdDuct nj (pD H) a b ln wd))) 28 (upd (sI (uN σ 5 (nI (cdDuct nj (pD H) a b ln wd))) 28) (pD H) a)) 29) (pD H) b)) 30) (pD H) ln)) 31 (vf_upd (sF (uF (uI (uI (uN σ 5 (nI (cdDuct nj (pD H) a b ln wd))) 28 (upd (sI (uN σ 5 (nI (cdDuct nj (pD H) a b ln wd))) 28) (pD H) a)) 29 (upd (sI (uI (uN σ 5 (nI (cdDuct nj (pD H) a b ln wd))) 28 (upd (sI (uN σ 5 (nI (cdDuct nj (pD H) a b ln wd))) 28) (pD H) a)) 29) (pD H) b)) 30 (vf_upd (sF (uI (uI (uN σ 5 (nI (cdDuct nj (pD H) a b ln wd))) 28 (upd (sI (uN σ 5 (nI (cdDuct nj (pD H) a b ln wd))) 28) (pD H) a)) 29 (upd (sI (uI (uN σ 5 (nI (cdDuct nj (pD H) a b ln wd))) 28 (upd (sI (uN σ 5 (nI (cdDuct nj (pD H) a b ln wd))) 28) (pD H) a)) 29) (pD H) b)) 30) (pD H) ln)) 31) (pD H) wd)) C dX7_duct_135 wl31 rfl (by have := (cdDuct_0 hc0).2.2; omega) (by decide) wsA31 ?_
                refine g_aload_n C dX7_duct_136 1 rfl rfl ?_
                refine g_dup C dX7_duct_137 rfl ?_
                refine g_get C dX7_duct_138 wl27 rfl 2 (by decide) 3 rfl rfl rfl inX7_duct_X7 ?_
                refine g_topi (y := nI (pD H)) hM.nd ?_
                refine g_iconst (v := nI 1) C dX7_duct_141 (by decide +kernel) ?_
                refine g_iadd C dX7_duct_142 ?_
                refine g_topi (y := nI (pD H + 1)) (nI_add _ 1) ?_
                refine g_put (σ' := uN (uF (uF (uI (uI (uN σ 5 (nI (cdDuct nj (pD H) a b ln wd))) 28 (upd (sI (uN σ 5 (nI (cdDuct nj (pD H) a b ln wd))) 28) (pD H) a)) 29 (upd (sI (uI (uN σ 5 (nI (cdDuct nj (pD H) a b ln wd))) 28 (upd (sI (uN σ 5 (nI (cdDuct nj (pD H) a b ln wd))) 28) (pD H) a)) 29) (pD H) b)) 30 (vf_upd (sF (uI (uI (uN σ 5 (nI (cdDuct nj (pD H) a b ln wd))) 28 (upd (sI (uN σ 5 (nI (cdDuct nj (pD H) a b ln wd))) 28) (pD H) a)) 29 (upd (sI (uI (uN σ 5 (nI (cdDuct nj (pD H) a b ln wd))) 28 (upd (sI (uN σ 5 (nI (cdDuct nj (pD H) a b ln wd))) 28) (pD H) a)) 29) (pD H) b)) 30) (pD H) ln)) 31 (vf_upd (sF (uF (uI (uI (uN σ 5 (nI (cdDuct nj (pD H) a b ln wd))) 28 (upd (sI (uN σ 5 (nI (cdDuct nj (pD H) a b ln wd))) 28) (pD H) a)) 29 (upd (sI (uI (uN σ 5 (nI (cdDuct nj (pD H) a b ln wd))) 28 (upd (sI (uN σ 5 (nI (cdDuct nj (pD H) a b ln wd))) 28) (pD H) a)) 29) (pD H) b)) 30 (vf_upd (sF (uI (uI (uN σ 5 (nI (cdDuct nj (pD H) a b ln wd))) 28 (upd (sI (uN σ 5 (nI (cdDuct nj (pD H) a b ln wd))) 28) (pD H) a)) 29 (upd (sI (uI (uN σ 5 (nI (cdDuct nj (pD H) a b ln wd))) 28 (upd (sI (uN σ 5 (nI (cdDuct nj (pD H) a b ln wd))) 28) (pD H) a)) 29) (pD H) b)) 30) (pD H) ln)) 31) (pD H) wd)) 7 (nI (pD H + 1))) (ty := .int) C dX7_duct_143 wl27 rfl 2 (by decide) 3 rfl rfl inX7_duct_X7 tyX7_ok nmX7 rfl (by decide +kernel) rfl rfl (Nat.le_of_ble_eq_true rfl) wsN7 ?_
                refine g_aload_n C dX7_duct_146 1 rfl rfl ?_
                refine g_iconst (v := nI 0) C dX7_duct_147 (by decide +kernel) ?_
                refine g_put (σ' := uN (uN (uF (uF (uI (uI (uN σ 5 (nI (cdDuct nj (pD H) a b ln wd))) 28 (upd (sI (uN σ 5 (nI (cdDuct nj (pD H) a b ln wd))) 28) (pD H) a)) 29 (upd (sI (uI (uN σ 5 (nI (cdDuct nj (pD H) a b ln wd))) 28 (upd (sI (uN σ 5 (nI (cdDuct nj (pD H) a b ln wd))) 28) (pD H) a)) 29) (pD H) b)) 30 (vf_upd (sF (uI (uI (uN σ 5 (nI (cdDuct nj (pD H) a b ln wd))) 28 (upd (sI (uN σ 5 (nI (cdDuct nj (pD H) a b ln wd))) 28) (pD H) a)) 29 (upd (sI (uI (uN σ 5 (nI (cdDuct nj (pD H) a b ln wd))) 28 (upd (sI (uN σ 5 (nI (cdDuct nj (pD H) a b ln wd))) 28) (pD H) a)) 29) (pD H) b)) 30) (pD H) ln)) 31 (vf_upd (sF (uF (uI (uI (uN σ 5 (nI (cdDuct nj (pD H) a b ln wd))) 28 (upd (sI (uN σ 5 (nI (cdDuct nj (pD H) a b ln wd))) 28) (pD H) a)) 29 (upd (sI (uI (uN σ 5 (nI (cdDuct nj (pD H) a b ln wd))) 28 (upd (sI (uN σ 5 (nI (cdDuct nj (pD H) a b ln wd))) 28) (pD H) a)) 29) (pD H) b)) 30 (vf_upd (sF (uI (uI (uN σ 5 (nI (cdDuct nj (pD H) a b ln wd))) 28 (upd (sI (uN σ 5 (nI (cdDuct nj (pD H) a b ln wd))) 28) (pD H) a)) 29 (upd (sI (uI (uN σ 5 (nI (cdDuct nj (pD H) a b ln wd))) 28 (upd (sI (uN σ 5 (nI (cdDuct nj (pD H) a b ln wd))) 28) (pD H) a)) 29) (pD H) b)) 30) (pD H) ln)) 31) (pD H) wd)) 7 (nI (pD H + 1))) 9 (nI 0)) (ty := .boolean) C dX7_duct_148 wl27 rfl 20 (by decide) 9 rfl rfl inX7_duct_X7 tyX7_ok nmX7 rfl (by decide +kernel) rfl rfl (Nat.le_of_ble_eq_true rfl) wsN9 ?_
                refine g_aload_n C dX7_duct_151 1 rfl rfl ?_
                refine g_get C dX7_duct_152 wl27 rfl 2 (by decide) 3 rfl rfl rfl inX7_duct_X7 ?_
                refine g_topi (y := nI (pD H + 1)) rfl ?_
                refine g_iconst (v := nI 1) C dX7_duct_155 (by decide +kernel) ?_
                refine g_isub C dX7_duct_156 ?_
                refine g_topi (y := nI (pD H)) (nI_pred _) ?_
                refine g_iret C dX7_duct_157 rfl ⟨Nat.le_of_ble_eq_true rfl, Nat.le_of_ble_eq_true rfl⟩ ?_
                rw [hF]
                exact ⟨fun h => absurd hc0 h, fun _ => ⟨rfl, by rw [hc0]; try rfl⟩⟩
              · have hc1 : cdDuct nj (pD H) a b ln wd ≠ 0 := fun h => c_90 (by rw [h]; decide)
                refine g_iconst (v := nI 0) C dX7_duct_93 (by decide +kernel) ?_
                refine g_iret C dX7_duct_94 rfl ⟨Nat.le_of_ble_eq_true rfl, Nat.le_of_ble_eq_true rfl⟩ ?_
                rw [hF]
                exact ⟨fun _ => ⟨rfl, rfl⟩, fun h => absurd h hc1⟩
          · have hcd : cdDuct nj (pD H) a b ln wd = 1 := if_pos (fun h => absurd h.2 (of_decide_eq_false ((bI_ne _).mp c_53)))
            refine g_iconst (v := nI 1) C dX7_duct_56 (by decide +kernel) ?_
            refine g_goto (tgt := 83) C dX7_duct_57 (by decide) ?_
            refine g_topi (y := nI (cdDuct nj (pD H) a b ln wd)) (by rw [hcd]) ?_
            refine g_put (σ' := uN σ 5 (nI (cdDuct nj (pD H) a b ln wd))) (ty := .int) C dX7_duct_83 wl27 rfl 0 (by decide) 4 rfl rfl inX7_duct_X7 tyX7_ok nmX7 rfl (by decide +kernel) rfl rfl (Nat.le_of_ble_eq_true rfl) wsN5 ?_
            refine g_aload_n C dX7_duct_86 1 rfl rfl ?_
            refine g_get C dX7_duct_87 wl27 rfl 0 (by decide) 4 rfl rfl rfl inX7_duct_X7 ?_
            refine g_topi (y := nI (cdDuct nj (pD H) a b ln wd)) rfl ?_
            refine g_if_le (tgt := 95) C dX7_duct_90 (by decide) (fun c_90 => ?_) (fun c_90 => ?_)
            · have hc0 : cdDuct nj (pD H) a b ln wd = 0 := nI_le0 (by omega) c_90
              refine g_aload_n C dX7_duct_95 1 rfl rfl ?_
              refine g_get C dX7_duct_96 wl27 rfl 3 (by decide) 5 rfl rfl rfl inX7_duct_X7 ?_
              refine g_aload_n C dX7_duct_99 1 rfl rfl ?_
              refine g_get C dX7_duct_100 wl27 rfl 2 (by decide) 3 rfl rfl rfl inX7_duct_X7 ?_
              refine g_topi (y := nI (pD H)) hM.nd ?_
              refine g_iload_n C dX7_duct_103 2 rfl rfl ?_
              refine g_iast (j := (pD H)) (σ' := uI (uN σ 5 (nI (cdDuct nj (pD H) a b ln wd))) 28 (upd (sI (uN σ 5 (nI (cdDuct nj (pD H) a b ln wd))) 28) (pD H) a)) C dX7_duct_104 wl28 rfl (by have := (cdDuct_0 hc0).2.2; omega) (by decide) wsA28 ?_
              refine g_aload_n C dX7_duct_105 1 rfl rfl ?_
              refine g_get C dX7_duct_106 wl27 rfl 4 (by decide) 6 rfl rfl rfl inX7_duct_X7 ?_
              refine g_aload_n C dX7_duct_109 1 rfl rfl ?_
              refine g_get C dX7_duct_110 wl27 rfl 2 (by decide) 3 rfl rfl rfl inX7_duct_X7 ?_
              refine g_topi (y := nI (pD H)) hM.nd ?_
              refine g_iload_n C dX7_duct_113 3 rfl rfl ?_
              refine g_iast (j := (pD H)) (σ' := uI (uI (uN σ 5 (nI (cdDuct nj (pD H) a b ln wd))) 28 (upd (sI (uN σ 5 (nI (cdDuct nj (pD H) a b ln wd))) 28) (pD H) a)) 29 (upd (sI (uI (uN σ 5 (nI (cdDuct nj (pD H) a b ln wd))) 28 (upd (sI (uN σ 5 (nI (cdDuct nj (pD H) a b ln wd))) 28) (pD H) a)) 29) (pD H) b)) C dX7_duct_114 wl29 rfl (by have := (cdDuct_0 hc0).2.2; omega) (by decide) wsA29 ?_
              refine g_aload_n C dX7_duct_115 1 rfl rfl ?_
              refine g_get C dX7_duct_116 wl27 rfl 5 (by decide) 7 rfl rfl rfl inX7_duct_X7 ?_
              refine g_aload_n C dX7_duct_119 1 rfl rfl ?_
              refine g_get C dX7_duct_120 wl27 rfl 2 (by decide) 3 rfl rfl rfl inX7_duct_X7 ?_
              refine g_topi (y := nI (pD H)) hM.nd ?_
              refine g_dload_n C dX7_duct_123 4 rfl rfl ?_
              refine g_dast (j := (pD H)) (σ' := uF (uI (uI (uN σ 5 (nI (cdDuct nj (pD H) a b ln wd))) 28 (upd (sI (uN σ 5 (nI (cdDuct nj (pD H) a b ln wd))) 28) (pD H) a)) 29 (upd (sI (uI (uN σ 5 (nI (cdDuct nj (pD H) a b ln wd))) 28 (upd (sI (uN σ 5 (nI (cdDuct nj (pD H) a b ln wd))) 28) (pD H) a)) 29) (pD H) b)) 30 (vf_upd (sF (uI (uI (uN σ 5 (nI (cdDuct nj (pD H) a b ln wd))) 28 (upd (sI (uN σ 5 (nI (cdDuct nj (pD H) a b ln wd))) 28) (pD H) a)) 29 (upd (sI (uI (uN σ 5 (nI (cdDuct nj (pD H) a b ln wd))) 28 (upd (sI (uN σ 5 (nI (cdDuct nj (pD H) a b ln wd))) 28) (pD H) a)) 29) (pD H) b)) 30) (pD H) ln)) C dX7_duct_124 wl30 rfl (by have := (cdDuct_0 hc0).2.2; omega) (by decide) wsA30 ?_
              refine g_aload_n C dX7_duct_125 1 rfl rfl ?_
              refine g_get C dX7_duct_126 wl27 rfl 6 (by decide) 8 rfl rfl rfl inX7_duct_X7 ?_
              refine g_aload_n C dX7_duct_129 1 rfl rfl ?_
              refine g_get C dX7_duct_130 wl27 rfl 2 (by decide) 3 rfl rfl rfl inX7_duct_X7 ?_
              refine g_topi (y := nI (pD H)) hM.nd ?_
              refine g_dload C dX7_duct_133 5 rfl ?_
              refine g_dast (j := (pD H)) (σ' := uF (uF (uI (uI (uN σ 5 (nI (cdDuct nj (pD H) a b ln wd))) 28 (upd (sI (uN σ 5 (nI (cdDuct nj (pD H) a b ln wd))) 28) (pD H) a)) 29 (upd (sI (uI (uN σ 5 (nI (cdDuct nj (pD H) a b ln wd))) 28 (upd (sI (uN σ 5 (nI (cdDuct nj (pD H) a b ln wd))) 28) (pD H) a)) 29) (pD H) b)) 30 (vf_upd (sF (uI (uI (uN σ 5 (nI (cdDuct nj (pD H) a b ln wd))) 28 (upd (sI (uN σ 5 (nI (cdDuct nj (pD H) a b ln wd))) 28) (pD H) a)) 29 (upd (sI (uI (uN σ 5 (nI (cdDuct nj (pD H) a b ln wd))) 28 (upd (sI (uN σ 5 (nI (cdDuct nj (pD H) a b ln wd))) 28) (pD H) a)) 29) (pD H) b)) 30) (pD H) ln)) 31 (vf_upd (sF (uF (uI (uI (uN σ 5 (nI (cdDuct nj (pD H) a b ln wd))) 28 (upd (sI (uN σ 5 (nI (cdDuct nj (pD H) a b ln wd))) 28) (pD H) a)) 29 (upd (sI (uI (uN σ 5 (nI (cdDuct nj (pD H) a b ln wd))) 28 (upd (sI (uN σ 5 (nI (cdDuct nj (pD H) a b ln wd))) 28) (pD H) a)) 29) (pD H) b)) 30 (vf_upd (sF (uI (uI (uN σ 5 (nI (cdDuct nj (pD H) a b ln wd))) 28 (upd (sI (uN σ 5 (nI (cdDuct nj (pD H) a b ln wd))) 28) (pD H) a)) 29 (upd (sI (uI (uN σ 5 (nI (cdDuct nj (pD H) a b ln wd))) 28 (upd (sI (uN σ 5 (nI (cdDuct nj (pD H) a b ln wd))) 28) (pD H) a)) 29) (pD H) b)) 30) (pD H) ln)) 31) (pD H) wd)) C dX7_duct_135 wl31 rfl (by have := (cdDuct_0 hc0).2.2; omega) (by decide) wsA31 ?_
              refine g_aload_n C dX7_duct_136 1 rfl rfl ?_
              refine g_dup C dX7_duct_137 rfl ?_
              refine g_get C dX7_duct_138 wl27 rfl 2 (by decide) 3 rfl rfl rfl inX7_duct_X7 ?_
              refine g_topi (y := nI (pD H)) hM.nd ?_
              refine g_iconst (v := nI 1) C dX7_duct_141 (by decide +kernel) ?_
              refine g_iadd C dX7_duct_142 ?_
              refine g_topi (y := nI (pD H + 1)) (nI_add _ 1) ?_
              refine g_put (σ' := uN (uF (uF (uI (uI (uN σ 5 (nI (cdDuct nj (pD H) a b ln wd))) 28 (upd (sI (uN σ 5 (nI (cdDuct nj (pD H) a b ln wd))) 28) (pD H) a)) 29 (upd (sI (uI (uN σ 5 (nI (cdDuct nj (pD H) a b ln wd))) 28 (upd (sI (uN σ 5 (nI (cdDuct nj (pD H) a b ln wd))) 28) (pD H) a)) 29) (pD H) b)) 30 (vf_upd (sF (uI (uI (uN σ 5 (nI (cdDuct nj (pD H) a b ln wd))) 28 (upd (sI (uN σ 5 (nI (cdDuct nj (pD H) a b ln wd))) 28) (pD H) a)) 29 (upd (sI (uI (uN σ 5 (nI (cdDuct nj (pD H) a b ln wd))) 28 (upd (sI (uN σ 5 (nI (cdDuct nj (pD H) a b ln wd))) 28) (pD H) a)) 29) (pD H) b)) 30) (pD H) ln)) 31 (vf_upd (sF (uF (uI (uI (uN σ 5 (nI (cdDuct nj (pD H) a b ln wd))) 28 (upd (sI (uN σ 5 (nI (cdDuct nj (pD H) a b ln wd))) 28) (pD H) a)) 29 (upd (sI (uI (uN σ 5 (nI (cdDuct nj (pD H) a b ln wd))) 28 (upd (sI (uN σ 5 (nI (cdDuct nj (pD H) a b ln wd))) 28) (pD H) a)) 29) (pD H) b)) 30 (vf_upd (sF (uI (uI (uN σ 5 (nI (cdDuct nj (pD H) a b ln wd))) 28 (upd (sI (uN σ 5 (nI (cdDuct nj (pD H) a b ln wd))) 28) (pD H) a)) 29 (upd (sI (uI (uN σ 5 (nI (cdDuct nj (pD H) a b ln wd))) 28 (upd (sI (uN σ 5 (nI (cdDuct nj (pD H) a b ln wd))) 28) (pD H) a)) 29) (pD H) b)) 30) (pD H) ln)) 31) (pD H) wd)) 7 (nI (pD H + 1))) (ty := .int) C dX7_duct_143 wl27 rfl 2 (by decide) 3 rfl rfl inX7_duct_X7 tyX7_ok nmX7 rfl (by decide +kernel) rfl rfl (Nat.le_of_ble_eq_true rfl) wsN7 ?_
              refine g_aload_n C dX7_duct_146 1 rfl rfl ?_
              refine g_iconst (v := nI 0) C dX7_duct_147 (by decide +kernel) ?_
              refine g_put (σ' := uN (uN (uF (uF (uI (uI (uN σ 5 (nI (cdDuct nj (pD H) a b ln wd))) 28 (upd (sI (uN σ 5 (nI (cdDuct nj (pD H) a b ln wd))) 28) (pD H) a)) 29 (upd (sI (uI (uN σ 5 (nI (cdDuct nj (pD H) a b ln wd))) 28 (upd (sI (uN σ 5 (nI (cdDuct nj (pD H) a b ln wd))) 28) (pD H) a)) 29) (pD H) b)) 30 (vf_upd (sF (uI (uI (uN σ 5 (nI (cdDuct nj (pD H) a b ln wd))) 28 (upd (sI (uN σ 5 (nI (cdDuct nj (pD H) a b ln wd))) 28) (pD H) a)) 29 (upd (sI (uI (uN σ 5 (nI (cdDuct nj (pD H) a b ln wd))) 28 (upd (sI (uN σ 5 (nI (cdDuct nj (pD H) a b ln wd))) 28) (pD H) a)) 29) (pD H) b)) 30) (pD H) ln)) 31 (vf_upd (sF (uF (uI (uI (uN σ 5 (nI (cdDuct nj (pD H) a b ln wd))) 28 (upd (sI (uN σ 5 (nI (cdDuct nj (pD H) a b ln wd))) 28) (pD H) a)) 29 (upd (sI (uI (uN σ 5 (nI (cdDuct nj (pD H) a b ln wd))) 28 (upd (sI (uN σ 5 (nI (cdDuct nj (pD H) a b ln wd))) 28) (pD H) a)) 29) (pD H) b)) 30 (vf_upd (sF (uI (uI (uN σ 5 (nI (cdDuct nj (pD H) a b ln wd))) 28 (upd (sI (uN σ 5 (nI (cdDuct nj (pD H) a b ln wd))) 28) (pD H) a)) 29 (upd (sI (uI (uN σ 5 (nI (cdDuct nj (pD H) a b ln wd))) 28 (upd (sI (uN σ 5 (nI (cdDuct nj (pD H) a b ln wd))) 28) (pD H) a)) 29) (pD H) b)) 30) (pD H) ln)) 31) (pD H) wd)) 7 (nI (pD H + 1))) 9 (nI 0)) (ty := .boolean) C dX7_duct_148 wl27 rfl 20 (by decide) 9 rfl rfl inX7_duct_X7 tyX7_ok nmX7 rfl (by decide +kernel) rfl rfl (Nat.le_of_ble_eq_true rfl) wsN9 ?_
              refine g_aload_n C dX7_duct_151 1 rfl rfl ?_
              refine g_get C dX7_duct_152 wl27 rfl 2 (by decide) 3 rfl rfl rfl inX7_duct_X7 ?_
              refine g_topi (y := nI (pD H + 1)) rfl ?_
              refine g_iconst (v := nI 1) C dX7_duct_155 (by decide +kernel) ?_
              refine g_isub C dX7_duct_156 ?_
              refine g_topi (y := nI (pD H)) (nI_pred _) ?_
              refine g_iret C dX7_duct_157 rfl ⟨Nat.le_of_ble_eq_true rfl, Nat.le_of_ble_eq_true rfl⟩ ?_
              rw [hF]
              exact ⟨fun h => absurd hc0 h, fun _ => ⟨rfl, by rw [hc0]; try rfl⟩⟩
            · have hc1 : cdDuct nj (pD H) a b ln wd ≠ 0 := fun h => c_90 (by rw [h]; decide)
              refine g_iconst (v := nI 0) C dX7_duct_93 (by decide +kernel) ?_
              refine g_iret C dX7_duct_94 rfl ⟨Nat.le_of_ble_eq_true rfl, Nat.le_of_ble_eq_true rfl⟩ ?_
              rw [hF]
              exact ⟨fun _ => ⟨rfl, rfl⟩, fun h => absurd h hc1⟩

theorem inX7_machine_X7 : ∀ w ∈ u_ws RX7 TX7 24, w ∈ wsX7_machine := by decide +kernel
set_option maxHeartbeats 4000000 in
set_option maxRecDepth 100000 in
theorem kX7_machine (l : Launch) (K : gK) (hD : gD K) (σ : gS) {H : Ph} {nj n : Nat} {sv : Bool} (hI : Mi H nj n sv σ) (a : Int32) (nd : UInt64) : Ct l yX7_machine wsX7_machine { frames := 2, cells := 0, slots := 0, locals := 43 } K [.ref (K.2.2 27), .int a, .double nd] σ (Mr σ (cdMach nj (pM H) a nd) (some (.int (nI 0))) (fun r t => r = some (.int (nI (pM H))) ∧ t = uN (uN (uF (uI (uN σ 5 (nI 0)) 35 (upd (sI σ 35) (pM H) a)) 36 (vf_upd (sF σ 36) (pM H) nd)) 8 (nI (pM H + 1))) 9 (nI 0))) := by
  refine Ct.of hD (by decide) rfl (Nat.le_of_ble_eq_true rfl) ?_
  intro X hL hK hF C
  subst hL; subst hK
  refine g_eq (σ2 := σ) (lv2 := [(0, .ref ((xK X).2.2 27)), (1, .int a), (2, .double nd)]) (st2 := []) rfl rfl rfl ?_
  obtain ⟨hM, hp, hP, hg, hq, hsv, ⟨hn, hn6, hsw⟩, hr, hl⟩ := hI
  have h16 := hM.nd16
  have h8 := hM.nm8
  have hjj := hM.j
  have hcb := cdMach_le nj (pM H) a nd
  refine g_aload_n C dX7_machine_0 0 rfl rfl ?_
  refine g_aload_n C dX7_machine_1 0 rfl rfl ?_
  refine g_iload_n C dX7_machine_2 1 rfl rfl ?_
  refine g_callV (As := [.int a]) (rest := [.ref ((xK X).2.2 27)]) C dX7_machine_3 (kX7_isJoint (xl X) (xK X) C.hD σ hM.j.1 hM.j.2.2 a) wl27 rfl 1 gX7_machine_X7_isJoint rfl (by decide +kernel) ⟨Nat.le_of_ble_eq_true rfl, Nat.le_of_ble_eq_true rfl⟩ ⟨Nat.le_of_ble_eq_true rfl, Nat.le_of_ble_eq_true rfl⟩ rfl rfl (Nat.le_of_ble_eq_true rfl) (fun rv9 σ9 h9 => ?_)
  obtain ⟨h9a, h9b⟩ := h9
  refine g_eq (σ2 := σ) (lv2 := [(0, .ref ((xK X).2.2 27)), (1, .int a), (2, .double nd)]) (st2 := [.int (bI (decide (inR a nj))), .ref ((xK X).2.2 27)]) h9b rfl (by rw [h9a]; rfl) ?_
  refine g_if_ne (tgt := 13) C dX7_machine_6 (by decide) (fun c_6 => ?_) (fun c_6 => ?_)
  · refine g_iload_n C dX7_machine_13 1 rfl rfl ?_
    refine g_if_eq (tgt := 30) C dX7_machine_14 (by decide) (fun c_14 => ?_) (fun c_14 => ?_)
    · have hcd : cdMach nj (pM H) a nd = 2 := (if_neg (fun h => h (of_decide_eq_true (bIt c_6)))).trans (if_pos (fun h => h.1 c_14))
      refine g_iconst (v := nI 2) C dX7_machine_30 (by decide +kernel) ?_
      refine g_goto (tgt := 48) C dX7_machine_31 (by decide) ?_
      refine g_topi (y := nI (cdMach nj (pM H) a nd)) (by rw [hcd]) ?_
      refine g_put (σ' := uN σ 5 (nI (cdMach nj (pM H) a nd))) (ty := .int) C dX7_machine_48 wl27 rfl 0 (by decide) 4 rfl rfl inX7_machine_X7 tyX7_ok nmX7 rfl (by decide +kernel) rfl rfl (Nat.le_of_ble_eq_true rfl) wsN5 ?_
      refine g_aload_n C dX7_machine_51 0 rfl rfl ?_
      refine g_get C dX7_machine_52 wl27 rfl 0 (by decide) 4 rfl rfl rfl inX7_machine_X7 ?_
      refine g_topi (y := nI (cdMach nj (pM H) a nd)) rfl ?_
      refine g_if_le (tgt := 60) C dX7_machine_55 (by decide) (fun c_55 => ?_) (fun c_55 => ?_)
      · have hc0 : cdMach nj (pM H) a nd = 0 := nI_le0 (by omega) c_55
        refine g_aload_n C dX7_machine_60 0 rfl rfl ?_
        refine g_get C dX7_machine_61 wl27 rfl 11 (by decide) 5 rfl rfl rfl inX7_machine_X7 ?_
        refine g_aload_n C dX7_machine_64 0 rfl rfl ?_
        refine g_get C dX7_machine_65 wl27 rfl 10 (by decide) 3 rfl rfl rfl inX7_machine_X7 ?_
        refine g_topi (y := nI (pM H)) hM.nm ?_
        refine g_iload_n C dX7_machine_68 1 rfl rfl ?_
        refine g_iast (j := (pM H)) (σ' := uI (uN σ 5 (nI (cdMach nj (pM H) a nd))) 35 (upd (sI (uN σ 5 (nI (cdMach nj (pM H) a nd))) 35) (pM H) a)) C dX7_machine_69 wl35 rfl (by have := (cdMach_0 hc0).2.2; omega) (by decide) wsA35 ?_
        refine g_aload_n C dX7_machine_70 0 rfl rfl ?_
        refine g_get C dX7_machine_71 wl27 rfl 12 (by decide) 6 rfl rfl rfl inX7_machine_X7 ?_
        refine g_aload_n C dX7_machine_74 0 rfl rfl ?_
        refine g_get C dX7_machine_75 wl27 rfl 10 (by decide) 3 rfl rfl rfl inX7_machine_X7 ?_
        refine g_topi (y := nI (pM H)) hM.nm ?_
        refine g_dload_n C dX7_machine_78 2 rfl rfl ?_
        refine g_dast (j := (pM H)) (σ' := uF (uI (uN σ 5 (nI (cdMach nj (pM H) a nd))) 35 (upd (sI (uN σ 5 (nI (cdMach nj (pM H) a nd))) 35) (pM H) a)) 36 (vf_upd (sF (uI (uN σ 5 (nI (cdMach nj (pM H) a nd))) 35 (upd (sI (uN σ 5 (nI (cdMach nj (pM H) a nd))) 35) (pM H) a)) 36) (pM H) nd)) C dX7_machine_79 wl36 rfl (by have := (cdMach_0 hc0).2.2; omega) (by decide) wsA36 ?_
        refine g_aload_n C dX7_machine_80 0 rfl rfl ?_
        refine g_dup C dX7_machine_81 rfl ?_
        refine g_get C dX7_machine_82 wl27 rfl 10 (by decide) 3 rfl rfl rfl inX7_machine_X7 ?_
        refine g_topi (y := nI (pM H)) hM.nm ?_
        refine g_iconst (v := nI 1) C dX7_machine_85 (by decide +kernel) ?_
        refine g_iadd C dX7_machine_86 ?_
        refine g_topi (y := nI (pM H + 1)) (nI_add _ 1) ?_
        refine g_put (σ' := uN (uF (uI (uN σ 5 (nI (cdMach nj (pM H) a nd))) 35 (upd (sI (uN σ 5 (nI (cdMach nj (pM H) a nd))) 35) (pM H) a)) 36 (vf_upd (sF (uI (uN σ 5 (nI (cdMach nj (pM H) a nd))) 35 (upd (sI (uN σ 5 (nI (cdMach nj (pM H) a nd))) 35) (pM H) a)) 36) (pM H) nd)) 8 (nI (pM H + 1))) (ty := .int) C dX7_machine_87 wl27 rfl 10 (by decide) 3 rfl rfl inX7_machine_X7 tyX7_ok nmX7 rfl (by decide +kernel) rfl rfl (Nat.le_of_ble_eq_true rfl) wsN8 ?_
        refine g_aload_n C dX7_machine_90 0 rfl rfl ?_
        refine g_iconst (v := nI 0) C dX7_machine_91 (by decide +kernel) ?_
        refine g_put (σ' := uN (uN (uF (uI (uN σ 5 (nI (cdMach nj (pM H) a nd))) 35 (upd (sI (uN σ 5 (nI (cdMach nj (pM H) a nd))) 35) (pM H) a)) 36 (vf_upd (sF (uI (uN σ 5 (nI (cdMach nj (pM H) a nd))) 35 (upd (sI (uN σ 5 (nI (cdMach nj (pM H) a nd))) 35) (pM H) a)) 36) (pM H) nd)) 8 (nI (pM H + 1))) 9 (nI 0)) (ty := .boolean) C dX7_machine_92 wl27 rfl 20 (by decide) 7 rfl rfl inX7_machine_X7 tyX7_ok nmX7 rfl (by decide +kernel) rfl rfl (Nat.le_of_ble_eq_true rfl) wsN9 ?_
        refine g_aload_n C dX7_machine_95 0 rfl rfl ?_
        refine g_get C dX7_machine_96 wl27 rfl 10 (by decide) 3 rfl rfl rfl inX7_machine_X7 ?_
        refine g_topi (y := nI (pM H + 1)) rfl ?_
        refine g_iconst (v := nI 1) C dX7_machine_99 (by decide +kernel) ?_
        refine g_isub C dX7_machine_100 ?_
        refine g_topi (y := nI (pM H)) (nI_pred _) ?_
        refine g_iret C dX7_machine_101 rfl ⟨Nat.le_of_ble_eq_true rfl, Nat.le_of_ble_eq_true rfl⟩ ?_
        rw [hF]
        exact ⟨fun h => absurd hc0 h, fun _ => ⟨rfl, by rw [hc0]; try rfl⟩⟩
      · have hc1 : cdMach nj (pM H) a nd ≠ 0 := fun h => c_55 (by rw [h]; decide)
        refine g_iconst (v := nI 0) C dX7_machine_58 (by decide +kernel) ?_
        refine g_iret C dX7_machine_59 rfl ⟨Nat.le_of_ble_eq_true rfl, Nat.le_of_ble_eq_true rfl⟩ ?_
        rw [hF]
        exact ⟨fun _ => ⟨rfl, rfl⟩, fun h => absurd h hc1⟩
    · refine g_dload_n C dX7_machine_17 2 rfl rfl ?_
      refine g_ldc2d (v := 4593671619917905920) C dX7_machine_18 1 rfl ?_
      refine g_ldc2d (v := 4652007308841189376) C dX7_machine_21 2 rfl ?_
      refine g_callS (As := [.double nd, .double 4593671619917905920, .double 4652007308841189376]) (rest := [.ref ((xK X).2.2 27)]) C dX7_machine_24 (kX7_between (xl X) (xK X) C.hD σ nd k125 k1000) 3 gX7_machine_X7_between rfl (by decide +kernel) ⟨Nat.le_of_ble_eq_true rfl, Nat.le_of_ble_eq_true rfl⟩ ⟨Nat.le_of_ble_eq_true rfl, Nat.le_of_ble_eq_true rfl⟩ rfl rfl (Nat.le_of_ble_eq_true rfl) (fun rv9 σ9 h9 => ?_)
      obtain ⟨h9a, h9b⟩ := h9
      refine g_eq (σ2 := σ) (lv2 := [(0, .ref ((xK X).2.2 27)), (1, .int a), (2, .double nd)]) (st2 := [.int (bI (wiB nd k125 k1000)), .ref ((xK X).2.2 27)]) h9b rfl (by rw [h9a]; rfl) ?_
      refine g_if_ne (tgt := 34) C dX7_machine_27 (by decide) (fun c_27 => ?_) (fun c_27 => ?_)
      · refine g_aload_n C dX7_machine_34 0 rfl rfl ?_
        refine g_get C dX7_machine_35 wl27 rfl 10 (by decide) 3 rfl rfl rfl inX7_machine_X7 ?_
        refine g_topi (y := nI (pM H)) hM.nm ?_
        refine g_bipush (v := nI 8) C dX7_machine_38 (by decide +kernel) ?_
        refine g_icmp_ne (tgt := 47) C dX7_machine_40 (by decide) (fun c_40 => ?_) (fun c_40 => ?_)
        · have hcd : cdMach nj (pM H) a nd = 0 := (if_neg (fun h => h (of_decide_eq_true (bIt c_6)))).trans ((if_neg (fun h => h ⟨c_14, bIt c_27⟩)).trans (if_neg (fun h => h (by
            have : pM H ≠ 8 := fun h => c_40 (by rw [h])
            omega))))
          refine g_iconst (v := nI 0) C dX7_machine_47 (by decide +kernel) ?_
          refine g_topi (y := nI (cdMach nj (pM H) a nd)) (by rw [hcd]) ?_
          refine g_put (σ' := uN σ 5 (nI (cdMach nj (pM H) a nd))) (ty := .int) C dX7_machine_48 wl27 rfl 0 (by decide) 4 rfl rfl inX7_machine_X7 tyX7_ok nmX7 rfl (by decide +kernel) rfl rfl (Nat.le_of_ble_eq_true rfl) wsN5 ?_
          refine g_aload_n C dX7_machine_51 0 rfl rfl ?_
          refine g_get C dX7_machine_52 wl27 rfl 0 (by decide) 4 rfl rfl rfl inX7_machine_X7 ?_
          refine g_topi (y := nI (cdMach nj (pM H) a nd)) rfl ?_
          refine g_if_le (tgt := 60) C dX7_machine_55 (by decide) (fun c_55 => ?_) (fun c_55 => ?_)
          · have hc0 : cdMach nj (pM H) a nd = 0 := nI_le0 (by omega) c_55
            refine g_aload_n C dX7_machine_60 0 rfl rfl ?_
            refine g_get C dX7_machine_61 wl27 rfl 11 (by decide) 5 rfl rfl rfl inX7_machine_X7 ?_
            refine g_aload_n C dX7_machine_64 0 rfl rfl ?_
            refine g_get C dX7_machine_65 wl27 rfl 10 (by decide) 3 rfl rfl rfl inX7_machine_X7 ?_
            refine g_topi (y := nI (pM H)) hM.nm ?_
            refine g_iload_n C dX7_machine_68 1 rfl rfl ?_
            refine g_iast (j := (pM H)) (σ' := uI (uN σ 5 (nI (cdMach nj (pM H) a nd))) 35 (upd (sI (uN σ 5 (nI (cdMach nj (pM H) a nd))) 35) (pM H) a)) C dX7_machine_69 wl35 rfl (by have := (cdMach_0 hc0).2.2; omega) (by decide) wsA35 ?_
            refine g_aload_n C dX7_machine_70 0 rfl rfl ?_
            refine g_get C dX7_machine_71 wl27 rfl 12 (by decide) 6 rfl rfl rfl inX7_machine_X7 ?_
            refine g_aload_n C dX7_machine_74 0 rfl rfl ?_
            refine g_get C dX7_machine_75 wl27 rfl 10 (by decide) 3 rfl rfl rfl inX7_machine_X7 ?_
            refine g_topi (y := nI (pM H)) hM.nm ?_
            refine g_dload_n C dX7_machine_78 2 rfl rfl ?_
            refine g_dast (j := (pM H)) (σ' := uF (uI (uN σ 5 (nI (cdMach nj (pM H) a nd))) 35 (upd (sI (uN σ 5 (nI (cdMach nj (pM H) a nd))) 35) (pM H) a)) 36 (vf_upd (sF (uI (uN σ 5 (nI (cdMach nj (pM H) a nd))) 35 (upd (sI (uN σ 5 (nI (cdMach nj (pM H) a nd))) 35) (pM H) a)) 36) (pM H) nd)) C dX7_machine_79 wl36 rfl (by have := (cdMach_0 hc0).2.2; omega) (by decide) wsA36 ?_
            refine g_aload_n C dX7_machine_80 0 rfl rfl ?_
            refine g_dup C dX7_machine_81 rfl ?_
            refine g_get C dX7_machine_82 wl27 rfl 10 (by decide) 3 rfl rfl rfl inX7_machine_X7 ?_
            refine g_topi (y := nI (pM H)) hM.nm ?_
            refine g_iconst (v := nI 1) C dX7_machine_85 (by decide +kernel) ?_
            refine g_iadd C dX7_machine_86 ?_
            refine g_topi (y := nI (pM H + 1)) (nI_add _ 1) ?_
            refine g_put (σ' := uN (uF (uI (uN σ 5 (nI (cdMach nj (pM H) a nd))) 35 (upd (sI (uN σ 5 (nI (cdMach nj (pM H) a nd))) 35) (pM H) a)) 36 (vf_upd (sF (uI (uN σ 5 (nI (cdMach nj (pM H) a nd))) 35 (upd (sI (uN σ 5 (nI (cdMach nj (pM H) a nd))) 35) (pM H) a)) 36) (pM H) nd)) 8 (nI (pM H + 1))) (ty := .int) C dX7_machine_87 wl27 rfl 10 (by decide) 3 rfl rfl inX7_machine_X7 tyX7_ok nmX7 rfl (by decide +kernel) rfl rfl (Nat.le_of_ble_eq_true rfl) wsN8 ?_
            refine g_aload_n C dX7_machine_90 0 rfl rfl ?_
            refine g_iconst (v := nI 0) C dX7_machine_91 (by decide +kernel) ?_
            refine g_put (σ' := uN (uN (uF (uI (uN σ 5 (nI (cdMach nj (pM H) a nd))) 35 (upd (sI (uN σ 5 (nI (cdMach nj (pM H) a nd))) 35) (pM H) a)) 36 (vf_upd (sF (uI (uN σ 5 (nI (cdMach nj (pM H) a nd))) 35 (upd (sI (uN σ 5 (nI (cdMach nj (pM H) a nd))) 35) (pM H) a)) 36) (pM H) nd)) 8 (nI (pM H + 1))) 9 (nI 0)) (ty := .boolean) C dX7_machine_92 wl27 rfl 20 (by decide) 7 rfl rfl inX7_machine_X7 tyX7_ok nmX7 rfl (by decide +kernel) rfl rfl (Nat.le_of_ble_eq_true rfl) wsN9 ?_
            refine g_aload_n C dX7_machine_95 0 rfl rfl ?_
            refine g_get C dX7_machine_96 wl27 rfl 10 (by decide) 3 rfl rfl rfl inX7_machine_X7 ?_
            refine g_topi (y := nI (pM H + 1)) rfl ?_
            refine g_iconst (v := nI 1) C dX7_machine_99 (by decide +kernel) ?_
            refine g_isub C dX7_machine_100 ?_
            refine g_topi (y := nI (pM H)) (nI_pred _) ?_
            refine g_iret C dX7_machine_101 rfl ⟨Nat.le_of_ble_eq_true rfl, Nat.le_of_ble_eq_true rfl⟩ ?_
            rw [hF]
            exact ⟨fun h => absurd hc0 h, fun _ => ⟨rfl, by rw [hc0]; try rfl⟩⟩
          · have hc1 : cdMach nj (pM H) a nd ≠ 0 := fun h => c_55 (by rw [h]; decide)
            refine g_iconst (v := nI 0) C dX7_machine_58 (by decide +kernel) ?_
            refine g_iret C dX7_machine_59 rfl ⟨Nat.le_of_ble_eq_true rfl, Nat.le_of_ble_eq_true rfl⟩ ?_
            rw [hF]
            exact ⟨fun _ => ⟨rfl, rfl⟩, fun h => absurd h hc1⟩
        · have hcd : cdMach nj (pM H) a nd = 3 := (if_neg (fun h => h (of_decide_eq_true (bIt c_6)))).trans ((if_neg (fun h => h ⟨c_14, bIt c_27⟩)).trans (if_pos (by
            have := (nI_eq (a := pM H) (b := 8) (by omega) (by decide)).mp (Decidable.byContradiction fun h => absurd c_40 h)
            omega)))
          refine g_iconst (v := nI 3) C dX7_machine_43 (by decide +kernel) ?_
          refine g_goto (tgt := 48) C dX7_machine_44 (by decide) ?_
          refine g_topi (y := nI (cdMach nj (pM H) a nd)) (by rw [hcd]) ?_
          refine g_put (σ' := uN σ 5 (nI (cdMach nj (pM H) a nd))) (ty := .int) C dX7_machine_48 wl27 rfl 0 (by decide) 4 rfl rfl inX7_machine_X7 tyX7_ok nmX7 rfl (by decide +kernel) rfl rfl (Nat.le_of_ble_eq_true rfl) wsN5 ?_
          refine g_aload_n C dX7_machine_51 0 rfl rfl ?_
          refine g_get C dX7_machine_52 wl27 rfl 0 (by decide) 4 rfl rfl rfl inX7_machine_X7 ?_
          refine g_topi (y := nI (cdMach nj (pM H) a nd)) rfl ?_
          refine g_if_le (tgt := 60) C dX7_machine_55 (by decide) (fun c_55 => ?_) (fun c_55 => ?_)
          · have hc0 : cdMach nj (pM H) a nd = 0 := nI_le0 (by omega) c_55
            refine g_aload_n C dX7_machine_60 0 rfl rfl ?_
            refine g_get C dX7_machine_61 wl27 rfl 11 (by decide) 5 rfl rfl rfl inX7_machine_X7 ?_
            refine g_aload_n C dX7_machine_64 0 rfl rfl ?_
            refine g_get C dX7_machine_65 wl27 rfl 10 (by decide) 3 rfl rfl rfl inX7_machine_X7 ?_
            refine g_topi (y := nI (pM H)) hM.nm ?_
            refine g_iload_n C dX7_machine_68 1 rfl rfl ?_
            refine g_iast (j := (pM H)) (σ' := uI (uN σ 5 (nI (cdMach nj (pM H) a nd))) 35 (upd (sI (uN σ 5 (nI (cdMach nj (pM H) a nd))) 35) (pM H) a)) C dX7_machine_69 wl35 rfl (by have := (cdMach_0 hc0).2.2; omega) (by decide) wsA35 ?_
            refine g_aload_n C dX7_machine_70 0 rfl rfl ?_
            refine g_get C dX7_machine_71 wl27 rfl 12 (by decide) 6 rfl rfl rfl inX7_machine_X7 ?_
            refine g_aload_n C dX7_machine_74 0 rfl rfl ?_
            refine g_get C dX7_machine_75 wl27 rfl 10 (by decide) 3 rfl rfl rfl inX7_machine_X7 ?_
            refine g_topi (y := nI (pM H)) hM.nm ?_
            refine g_dload_n C dX7_machine_78 2 rfl rfl ?_
            refine g_dast (j := (pM H)) (σ' := uF (uI (uN σ 5 (nI (cdMach nj (pM H) a nd))) 35 (upd (sI (uN σ 5 (nI (cdMach nj (pM H) a nd))) 35) (pM H) a)) 36 (vf_upd (sF (uI (uN σ 5 (nI (cdMach nj (pM H) a nd))) 35 (upd (sI (uN σ 5 (nI (cdMach nj (pM H) a nd))) 35) (pM H) a)) 36) (pM H) nd)) C dX7_machine_79 wl36 rfl (by have := (cdMach_0 hc0).2.2; omega) (by decide) wsA36 ?_
            refine g_aload_n C dX7_machine_80 0 rfl rfl ?_
            refine g_dup C dX7_machine_81 rfl ?_
            refine g_get C dX7_machine_82 wl27 rfl 10 (by decide) 3 rfl rfl rfl inX7_machine_X7 ?_
            refine g_topi (y := nI (pM H)) hM.nm ?_
            refine g_iconst (v := nI 1) C dX7_machine_85 (by decide +kernel) ?_
            refine g_iadd C dX7_machine_86 ?_
            refine g_topi (y := nI (pM H + 1)) (nI_add _ 1) ?_
            refine g_put (σ' := uN (uF (uI (uN σ 5 (nI (cdMach nj (pM H) a nd))) 35 (upd (sI (uN σ 5 (nI (cdMach nj (pM H) a nd))) 35) (pM H) a)) 36 (vf_upd (sF (uI (uN σ 5 (nI (cdMach nj (pM H) a nd))) 35 (upd (sI (uN σ 5 (nI (cdMach nj (pM H) a nd))) 35) (pM H) a)) 36) (pM H) nd)) 8 (nI (pM H + 1))) (ty := .int) C dX7_machine_87 wl27 rfl 10 (by decide) 3 rfl rfl inX7_machine_X7 tyX7_ok nmX7 rfl (by decide +kernel) rfl rfl (Nat.le_of_ble_eq_true rfl) wsN8 ?_
            refine g_aload_n C dX7_machine_90 0 rfl rfl ?_
            refine g_iconst (v := nI 0) C dX7_machine_91 (by decide +kernel) ?_
            refine g_put (σ' := uN (uN (uF (uI (uN σ 5 (nI (cdMach nj (pM H) a nd))) 35 (upd (sI (uN σ 5 (nI (cdMach nj (pM H) a nd))) 35) (pM H) a)) 36 (vf_upd (sF (uI (uN σ 5 (nI (cdMach nj (pM H) a nd))) 35 (upd (sI (uN σ 5 (nI (cdMach nj (pM H) a nd))) 35) (pM H) a)) 36) (pM H) nd)) 8 (nI (pM H + 1))) 9 (nI 0)) (ty := .boolean) C dX7_machine_92 wl27 rfl 20 (by decide) 7 rfl rfl inX7_machine_X7 tyX7_ok nmX7 rfl (by decide +kernel) rfl rfl (Nat.le_of_ble_eq_true rfl) wsN9 ?_
            refine g_aload_n C dX7_machine_95 0 rfl rfl ?_
            refine g_get C dX7_machine_96 wl27 rfl 10 (by decide) 3 rfl rfl rfl inX7_machine_X7 ?_
            refine g_topi (y := nI (pM H + 1)) rfl ?_
            refine g_iconst (v := nI 1) C dX7_machine_99 (by decide +kernel) ?_
            refine g_isub C dX7_machine_100 ?_
            refine g_topi (y := nI (pM H)) (nI_pred _) ?_
            refine g_iret C dX7_machine_101 rfl ⟨Nat.le_of_ble_eq_true rfl, Nat.le_of_ble_eq_true rfl⟩ ?_
            rw [hF]
            exact ⟨fun h => absurd hc0 h, fun _ => ⟨rfl, by rw [hc0]; try rfl⟩⟩
          · have hc1 : cdMach nj (pM H) a nd ≠ 0 := fun h => c_55 (by rw [h]; decide)
            refine g_iconst (v := nI 0) C dX7_machine_58 (by decide +kernel) ?_
            refine g_iret C dX7_machine_59 rfl ⟨Nat.le_of_ble_eq_true rfl, Nat.le_of_ble_eq_true rfl⟩ ?_
            rw [hF]
            exact ⟨fun _ => ⟨rfl, rfl⟩, fun h => absurd h hc1⟩
      · have hcd : cdMach nj (pM H) a nd = 2 := (if_neg (fun h => h (of_decide_eq_true (bIt c_6)))).trans (if_pos (fun h => by
          have h9 := (bI_ne _).mp c_27
          rw [h.2] at h9
          cases h9))
        refine g_iconst (v := nI 2) C dX7_machine_30 (by decide +kernel) ?_
        refine g_goto (tgt := 48) C dX7_machine_31 (by decide) ?_
        refine g_topi (y := nI (cdMach nj (pM H) a nd)) (by rw [hcd]) ?_
        refine g_put (σ' := uN σ 5 (nI (cdMach nj (pM H) a nd))) (ty := .int) C dX7_machine_48 wl27 rfl 0 (by decide) 4 rfl rfl inX7_machine_X7 tyX7_ok nmX7 rfl (by decide +kernel) rfl rfl (Nat.le_of_ble_eq_true rfl) wsN5 ?_
        refine g_aload_n C dX7_machine_51 0 rfl rfl ?_
        refine g_get C dX7_machine_52 wl27 rfl 0 (by decide) 4 rfl rfl rfl inX7_machine_X7 ?_
        refine g_topi (y := nI (cdMach nj (pM H) a nd)) rfl ?_
        refine g_if_le (tgt := 60) C dX7_machine_55 (by decide) (fun c_55 => ?_) (fun c_55 => ?_)
        · have hc0 : cdMach nj (pM H) a nd = 0 := nI_le0 (by omega) c_55
          refine g_aload_n C dX7_machine_60 0 rfl rfl ?_
          refine g_get C dX7_machine_61 wl27 rfl 11 (by decide) 5 rfl rfl rfl inX7_machine_X7 ?_
          refine g_aload_n C dX7_machine_64 0 rfl rfl ?_
          refine g_get C dX7_machine_65 wl27 rfl 10 (by decide) 3 rfl rfl rfl inX7_machine_X7 ?_
          refine g_topi (y := nI (pM H)) hM.nm ?_
          refine g_iload_n C dX7_machine_68 1 rfl rfl ?_
          refine g_iast (j := (pM H)) (σ' := uI (uN σ 5 (nI (cdMach nj (pM H) a nd))) 35 (upd (sI (uN σ 5 (nI (cdMach nj (pM H) a nd))) 35) (pM H) a)) C dX7_machine_69 wl35 rfl (by have := (cdMach_0 hc0).2.2; omega) (by decide) wsA35 ?_
          refine g_aload_n C dX7_machine_70 0 rfl rfl ?_
          refine g_get C dX7_machine_71 wl27 rfl 12 (by decide) 6 rfl rfl rfl inX7_machine_X7 ?_
          refine g_aload_n C dX7_machine_74 0 rfl rfl ?_
          refine g_get C dX7_machine_75 wl27 rfl 10 (by decide) 3 rfl rfl rfl inX7_machine_X7 ?_
          refine g_topi (y := nI (pM H)) hM.nm ?_
          refine g_dload_n C dX7_machine_78 2 rfl rfl ?_
          refine g_dast (j := (pM H)) (σ' := uF (uI (uN σ 5 (nI (cdMach nj (pM H) a nd))) 35 (upd (sI (uN σ 5 (nI (cdMach nj (pM H) a nd))) 35) (pM H) a)) 36 (vf_upd (sF (uI (uN σ 5 (nI (cdMach nj (pM H) a nd))) 35 (upd (sI (uN σ 5 (nI (cdMach nj (pM H) a nd))) 35) (pM H) a)) 36) (pM H) nd)) C dX7_machine_79 wl36 rfl (by have := (cdMach_0 hc0).2.2; omega) (by decide) wsA36 ?_
          refine g_aload_n C dX7_machine_80 0 rfl rfl ?_
          refine g_dup C dX7_machine_81 rfl ?_
          refine g_get C dX7_machine_82 wl27 rfl 10 (by decide) 3 rfl rfl rfl inX7_machine_X7 ?_
          refine g_topi (y := nI (pM H)) hM.nm ?_
          refine g_iconst (v := nI 1) C dX7_machine_85 (by decide +kernel) ?_
          refine g_iadd C dX7_machine_86 ?_
          refine g_topi (y := nI (pM H + 1)) (nI_add _ 1) ?_
          refine g_put (σ' := uN (uF (uI (uN σ 5 (nI (cdMach nj (pM H) a nd))) 35 (upd (sI (uN σ 5 (nI (cdMach nj (pM H) a nd))) 35) (pM H) a)) 36 (vf_upd (sF (uI (uN σ 5 (nI (cdMach nj (pM H) a nd))) 35 (upd (sI (uN σ 5 (nI (cdMach nj (pM H) a nd))) 35) (pM H) a)) 36) (pM H) nd)) 8 (nI (pM H + 1))) (ty := .int) C dX7_machine_87 wl27 rfl 10 (by decide) 3 rfl rfl inX7_machine_X7 tyX7_ok nmX7 rfl (by decide +kernel) rfl rfl (Nat.le_of_ble_eq_true rfl) wsN8 ?_
          refine g_aload_n C dX7_machine_90 0 rfl rfl ?_
          refine g_iconst (v := nI 0) C dX7_machine_91 (by decide +kernel) ?_
          refine g_put (σ' := uN (uN (uF (uI (uN σ 5 (nI (cdMach nj (pM H) a nd))) 35 (upd (sI (uN σ 5 (nI (cdMach nj (pM H) a nd))) 35) (pM H) a)) 36 (vf_upd (sF (uI (uN σ 5 (nI (cdMach nj (pM H) a nd))) 35 (upd (sI (uN σ 5 (nI (cdMach nj (pM H) a nd))) 35) (pM H) a)) 36) (pM H) nd)) 8 (nI (pM H + 1))) 9 (nI 0)) (ty := .boolean) C dX7_machine_92 wl27 rfl 20 (by decide) 7 rfl rfl inX7_machine_X7 tyX7_ok nmX7 rfl (by decide +kernel) rfl rfl (Nat.le_of_ble_eq_true rfl) wsN9 ?_
          refine g_aload_n C dX7_machine_95 0 rfl rfl ?_
          refine g_get C dX7_machine_96 wl27 rfl 10 (by decide) 3 rfl rfl rfl inX7_machine_X7 ?_
          refine g_topi (y := nI (pM H + 1)) rfl ?_
          refine g_iconst (v := nI 1) C dX7_machine_99 (by decide +kernel) ?_
          refine g_isub C dX7_machine_100 ?_
          refine g_topi (y := nI (pM H)) (nI_pred _) ?_
          refine g_iret C dX7_machine_101 rfl ⟨Nat.le_of_ble_eq_true rfl, Nat.le_of_ble_eq_true rfl⟩ ?_
          rw [hF]
          exact ⟨fun h => absurd hc0 h, fun _ => ⟨rfl, by rw [hc0]; try rfl⟩⟩
        · have hc1 : cdMach nj (pM H) a nd ≠ 0 := fun h => c_55 (by rw [h]; decide)
          refine g_iconst (v := nI 0) C dX7_machine_58 (by decide +kernel) ?_
          refine g_iret C dX7_machine_59 rfl ⟨Nat.le_of_ble_eq_true rfl, Nat.le_of_ble_eq_true rfl⟩ ?_
          rw [hF]
          exact ⟨fun _ => ⟨rfl, rfl⟩, fun h => absurd h hc1⟩
  · have hcd : cdMach nj (pM H) a nd = 1 := if_pos (of_decide_eq_false ((bI_ne _).mp c_6))
    refine g_iconst (v := nI 1) C dX7_machine_9 (by decide +kernel) ?_
    refine g_goto (tgt := 48) C dX7_machine_10 (by decide) ?_
    refine g_topi (y := nI (cdMach nj (pM H) a nd)) (by rw [hcd]) ?_
    refine g_put (σ' := uN σ 5 (nI (cdMach nj (pM H) a nd))) (ty := .int) C dX7_machine_48 wl27 rfl 0 (by decide) 4 rfl rfl inX7_machine_X7 tyX7_ok nmX7 rfl (by decide +kernel) rfl rfl (Nat.le_of_ble_eq_true rfl) wsN5 ?_
    refine g_aload_n C dX7_machine_51 0 rfl rfl ?_
    refine g_get C dX7_machine_52 wl27 rfl 0 (by decide) 4 rfl rfl rfl inX7_machine_X7 ?_
    refine g_topi (y := nI (cdMach nj (pM H) a nd)) rfl ?_
    refine g_if_le (tgt := 60) C dX7_machine_55 (by decide) (fun c_55 => ?_) (fun c_55 => ?_)
    · have hc0 : cdMach nj (pM H) a nd = 0 := nI_le0 (by omega) c_55
      refine g_aload_n C dX7_machine_60 0 rfl rfl ?_
      refine g_get C dX7_machine_61 wl27 rfl 11 (by decide) 5 rfl rfl rfl inX7_machine_X7 ?_
      refine g_aload_n C dX7_machine_64 0 rfl rfl ?_
      refine g_get C dX7_machine_65 wl27 rfl 10 (by decide) 3 rfl rfl rfl inX7_machine_X7 ?_
      refine g_topi (y := nI (pM H)) hM.nm ?_
      refine g_iload_n C dX7_machine_68 1 rfl rfl ?_
      refine g_iast (j := (pM H)) (σ' := uI (uN σ 5 (nI (cdMach nj (pM H) a nd))) 35 (upd (sI (uN σ 5 (nI (cdMach nj (pM H) a nd))) 35) (pM H) a)) C dX7_machine_69 wl35 rfl (by have := (cdMach_0 hc0).2.2; omega) (by decide) wsA35 ?_
      refine g_aload_n C dX7_machine_70 0 rfl rfl ?_
      refine g_get C dX7_machine_71 wl27 rfl 12 (by decide) 6 rfl rfl rfl inX7_machine_X7 ?_
      refine g_aload_n C dX7_machine_74 0 rfl rfl ?_
      refine g_get C dX7_machine_75 wl27 rfl 10 (by decide) 3 rfl rfl rfl inX7_machine_X7 ?_
      refine g_topi (y := nI (pM H)) hM.nm ?_
      refine g_dload_n C dX7_machine_78 2 rfl rfl ?_
      refine g_dast (j := (pM H)) (σ' := uF (uI (uN σ 5 (nI (cdMach nj (pM H) a nd))) 35 (upd (sI (uN σ 5 (nI (cdMach nj (pM H) a nd))) 35) (pM H) a)) 36 (vf_upd (sF (uI (uN σ 5 (nI (cdMach nj (pM H) a nd))) 35 (upd (sI (uN σ 5 (nI (cdMach nj (pM H) a nd))) 35) (pM H) a)) 36) (pM H) nd)) C dX7_machine_79 wl36 rfl (by have := (cdMach_0 hc0).2.2; omega) (by decide) wsA36 ?_
      refine g_aload_n C dX7_machine_80 0 rfl rfl ?_
      refine g_dup C dX7_machine_81 rfl ?_
      refine g_get C dX7_machine_82 wl27 rfl 10 (by decide) 3 rfl rfl rfl inX7_machine_X7 ?_
      refine g_topi (y := nI (pM H)) hM.nm ?_
      refine g_iconst (v := nI 1) C dX7_machine_85 (by decide +kernel) ?_
      refine g_iadd C dX7_machine_86 ?_
      refine g_topi (y := nI (pM H + 1)) (nI_add _ 1) ?_
      refine g_put (σ' := uN (uF (uI (uN σ 5 (nI (cdMach nj (pM H) a nd))) 35 (upd (sI (uN σ 5 (nI (cdMach nj (pM H) a nd))) 35) (pM H) a)) 36 (vf_upd (sF (uI (uN σ 5 (nI (cdMach nj (pM H) a nd))) 35 (upd (sI (uN σ 5 (nI (cdMach nj (pM H) a nd))) 35) (pM H) a)) 36) (pM H) nd)) 8 (nI (pM H + 1))) (ty := .int) C dX7_machine_87 wl27 rfl 10 (by decide) 3 rfl rfl inX7_machine_X7 tyX7_ok nmX7 rfl (by decide +kernel) rfl rfl (Nat.le_of_ble_eq_true rfl) wsN8 ?_
      refine g_aload_n C dX7_machine_90 0 rfl rfl ?_
      refine g_iconst (v := nI 0) C dX7_machine_91 (by decide +kernel) ?_
      refine g_put (σ' := uN (uN (uF (uI (uN σ 5 (nI (cdMach nj (pM H) a nd))) 35 (upd (sI (uN σ 5 (nI (cdMach nj (pM H) a nd))) 35) (pM H) a)) 36 (vf_upd (sF (uI (uN σ 5 (nI (cdMach nj (pM H) a nd))) 35 (upd (sI (uN σ 5 (nI (cdMach nj (pM H) a nd))) 35) (pM H) a)) 36) (pM H) nd)) 8 (nI (pM H + 1))) 9 (nI 0)) (ty := .boolean) C dX7_machine_92 wl27 rfl 20 (by decide) 7 rfl rfl inX7_machine_X7 tyX7_ok nmX7 rfl (by decide +kernel) rfl rfl (Nat.le_of_ble_eq_true rfl) wsN9 ?_
      refine g_aload_n C dX7_machine_95 0 rfl rfl ?_
      refine g_get C dX7_machine_96 wl27 rfl 10 (by decide) 3 rfl rfl rfl inX7_machine_X7 ?_
      refine g_topi (y := nI (pM H + 1)) rfl ?_
      refine g_iconst (v := nI 1) C dX7_machine_99 (by decide +kernel) ?_
      refine g_isub C dX7_machine_100 ?_
      refine g_topi (y := nI (pM H)) (nI_pred _) ?_
      refine g_iret C dX7_machine_101 rfl ⟨Nat.le_of_ble_eq_true rfl, Nat.le_of_ble_eq_true rfl⟩ ?_
      rw [hF]
      exact ⟨fun h => absurd hc0 h, fun _ => ⟨rfl, by rw [hc0]; try rfl⟩⟩
    · have hc1 : cdMach nj (pM H) a nd ≠ 0 := fun h => c_55 (by rw [h]; decide)
      refine g_iconst (v := nI 0) C dX7_machine_58 (by decide +kernel) ?_
      refine g_iret C dX7_machine_59 rfl ⟨Nat.le_of_ble_eq_true rfl, Nat.le_of_ble_eq_true rfl⟩ ?_
      rw [hF]
      exact ⟨fun _ => ⟨rfl, rfl⟩, fun h => absurd h hc1⟩

theorem inX7_use_X7 : ∀ w ∈ u_ws RX7 TX7 24, w ∈ wsX7_use := by decide +kernel
set_option maxHeartbeats 4000000 in
set_option maxRecDepth 100000 in
theorem kX7_use (l : Launch) (K : gK) (hD : gD K) (σ : gS) {H : Ph} {nj n : Nat} {sv : Bool} (hI : Mi H nj n sv σ) (c m : Int32) (on : Bool) : Ct l yX7_use wsX7_use { frames := 2, cells := 0, slots := 0, locals := 43 } K [.ref (K.2.2 27), .int c, .int m, .int (bI on)] σ (Mr σ (cdUse (pM H) c m) (none) (fun r t => r = none ∧ t = uN (uI (uN σ 5 (nI 0)) 37 (upd (sI σ 37) (8 * tn c + tn m) (bI on))) 9 (nI 0))) := by
  refine Ct.of hD (by decide) rfl (Nat.le_of_ble_eq_true rfl) ?_
  intro X hL hK hF C
  subst hL; subst hK
  refine g_eq (σ2 := σ) (lv2 := [(0, .ref ((xK X).2.2 27)), (1, .int c), (2, .int m), (3, .int (bI on))]) (st2 := []) rfl rfl rfl ?_
  obtain ⟨hM, hp, hP, hg, hq, hsv, ⟨hn, hn6, hsw⟩, hr, hl⟩ := hI
  have h16 := hM.nd16
  have h8 := hM.nm8
  have hjj := hM.j
  have hcb := cdUse_le (pM H) c m
  refine g_aload_n C dX7_use_0 0 rfl rfl ?_
  refine g_iload_n C dX7_use_1 1 rfl rfl ?_
  refine g_iconst (v := nI 0) C dX7_use_2 (by decide +kernel) ?_
  refine g_iconst (v := nI 3) C dX7_use_3 (by decide +kernel) ?_
  refine g_callS (As := [.int c, .int (nI 0), .int (nI 3)]) (rest := [.ref ((xK X).2.2 27)]) C dX7_use_4 (kX7_isIn (xl X) (xK X) C.hD σ c (nI 0) (nI 3)) 3 gX7_use_X7_isIn rfl (by decide +kernel) ⟨Nat.le_of_ble_eq_true rfl, Nat.le_of_ble_eq_true rfl⟩ ⟨Nat.le_of_ble_eq_true rfl, Nat.le_of_ble_eq_true rfl⟩ rfl rfl (Nat.le_of_ble_eq_true rfl) (fun rv9 σ9 h9 => ?_)
  obtain ⟨h9a, h9b⟩ := h9
  refine g_eq (σ2 := σ) (lv2 := [(0, .ref ((xK X).2.2 27)), (1, .int c), (2, .int m), (3, .int (bI on))]) (st2 := [.int (bI (inB c (nI 0) (nI 3))), .ref ((xK X).2.2 27)]) h9b rfl (by rw [h9a]; rfl) ?_
  refine g_topi (y := bI (decide (inR c 4))) (congrArg bI (inB_C (n := 3) (by decide))) ?_
  refine g_if_eq (tgt := 22) C dX7_use_7 (by decide) (fun c_7 => ?_) (fun c_7 => ?_)
  · have hcd : cdUse (pM H) c m = 1 := if_neg (fun h => absurd h.1 (of_decide_eq_false ((bI_ne _).mp c_7)))
    refine g_iconst (v := nI 1) C dX7_use_22 (by decide +kernel) ?_
    refine g_topi (y := nI (cdUse (pM H) c m)) (by rw [hcd]) ?_
    refine g_put (σ' := uN σ 5 (nI (cdUse (pM H) c m))) (ty := .int) C dX7_use_23 wl27 rfl 0 (by decide) 1 rfl rfl inX7_use_X7 tyX7_ok nmX7 rfl (by decide +kernel) rfl rfl (Nat.le_of_ble_eq_true rfl) wsN5 ?_
    refine g_aload_n C dX7_use_26 0 rfl rfl ?_
    refine g_get C dX7_use_27 wl27 rfl 0 (by decide) 1 rfl rfl rfl inX7_use_X7 ?_
    refine g_topi (y := nI (cdUse (pM H) c m)) rfl ?_
    refine g_if_ne (tgt := 50) C dX7_use_30 (by decide) (fun c_30 => ?_) (fun c_30 => ?_)
    · have hc1 : cdUse (pM H) c m ≠ 0 := fun h => c_30 (by rw [h]; decide)
      refine g_vret C dX7_use_50 rfl ⟨Nat.le_of_ble_eq_true rfl, Nat.le_of_ble_eq_true rfl⟩ ?_
      rw [hF]
      exact ⟨fun _ => ⟨rfl, rfl⟩, fun h => absurd h hc1⟩
    · have hc0 : cdUse (pM H) c m = 0 := (nI_eq (by omega) (by decide)).mp (Decidable.byContradiction fun h => absurd c_30 h)
      have tc := inT (cdUse_0 hc0).1 (by decide)
      have tm := inT (cdUse_0 hc0).2 (by omega)
      refine g_eq (σ2 := uN σ 5 (nI (cdUse (pM H) c m))) (lv2 := [(0, .ref ((xK X).2.2 27)), (1, .int (nI (tn c))), (2, .int m), (3, .int (bI on))]) (st2 := []) rfl (congrArg (fun z9 => ([(0, .ref ((xK X).2.2 27)), (1, .int z9), (2, .int m), (3, .int (bI on))] : List (Nat × Value))) tc.1) rfl ?_
      refine g_eq (σ2 := uN σ 5 (nI (cdUse (pM H) c m))) (lv2 := [(0, .ref ((xK X).2.2 27)), (1, .int (nI (tn c))), (2, .int (nI (tn m))), (3, .int (bI on))]) (st2 := []) rfl (congrArg (fun z9 => ([(0, .ref ((xK X).2.2 27)), (1, .int (nI (tn c))), (2, .int z9), (3, .int (bI on))] : List (Nat × Value))) tm.1) rfl ?_
      refine g_aload_n C dX7_use_33 0 rfl rfl ?_
      refine g_get C dX7_use_34 wl27 rfl 13 (by decide) 2 rfl rfl rfl inX7_use_X7 ?_
      refine g_bipush (v := nI 8) C dX7_use_37 (by decide +kernel) ?_
      refine g_iload_n C dX7_use_39 1 rfl rfl ?_
      refine g_imul C dX7_use_40 ?_
      refine g_iload_n C dX7_use_41 2 rfl rfl ?_
      refine g_iadd C dX7_use_42 ?_
      refine g_iload_n C dX7_use_43 3 rfl rfl ?_
      refine g_zast (j := (8 * tn c + tn m)) (σ' := uI (uN σ 5 (nI (cdUse (pM H) c m))) 37 (upd (sI (uN σ 5 (nI (cdUse (pM H) c m))) 37) (8 * tn c + tn m) (vp_nar .boolean (bI on)))) C dX7_use_44 wl37 (by rw [← nI_add, ← nI_mul]) (by omega) (by decide) wsA37 ?_
      refine g_aload_n C dX7_use_45 0 rfl rfl ?_
      refine g_iconst (v := nI 0) C dX7_use_46 (by decide +kernel) ?_
      refine g_put (σ' := uN (uI (uN σ 5 (nI (cdUse (pM H) c m))) 37 (upd (sI (uN σ 5 (nI (cdUse (pM H) c m))) 37) (8 * tn c + tn m) (vp_nar .boolean (bI on)))) 9 (nI 0)) (ty := .boolean) C dX7_use_47 wl27 rfl 20 (by decide) 3 rfl rfl inX7_use_X7 tyX7_ok nmX7 rfl (by decide +kernel) rfl rfl (Nat.le_of_ble_eq_true rfl) wsN9 ?_
      refine g_vret C dX7_use_50 rfl ⟨Nat.le_of_ble_eq_true rfl, Nat.le_of_ble_eq_true rfl⟩ ?_
      rw [hF]
      exact ⟨fun h => absurd hc0 h, fun _ => ⟨rfl, by rw [hc0, nar_b2]; rfl⟩⟩
  · refine g_aload_n C dX7_use_10 0 rfl rfl ?_
    refine g_iload_n C dX7_use_11 2 rfl rfl ?_
    refine g_callV (As := [.int m]) (rest := [.ref ((xK X).2.2 27)]) C dX7_use_12 (kX7_isMachine (xl X) (xK X) C.hD σ hM.nm hM.nm8 m) wl27 rfl 1 gX7_use_X7_isMachine rfl (by decide +kernel) ⟨Nat.le_of_ble_eq_true rfl, Nat.le_of_ble_eq_true rfl⟩ ⟨Nat.le_of_ble_eq_true rfl, Nat.le_of_ble_eq_true rfl⟩ rfl rfl (Nat.le_of_ble_eq_true rfl) (fun rv9 σ9 h9 => ?_)
    obtain ⟨h9a, h9b⟩ := h9
    refine g_eq (σ2 := σ) (lv2 := [(0, .ref ((xK X).2.2 27)), (1, .int c), (2, .int m), (3, .int (bI on))]) (st2 := [.int (bI (decide (inR m (pM H)))), .ref ((xK X).2.2 27)]) h9b rfl (by rw [h9a]; rfl) ?_
    refine g_if_eq (tgt := 22) C dX7_use_15 (by decide) (fun c_15 => ?_) (fun c_15 => ?_)
    · have hcd : cdUse (pM H) c m = 1 := if_neg (fun h => absurd h.2 (of_decide_eq_false ((bI_ne _).mp c_15)))
      refine g_iconst (v := nI 1) C dX7_use_22 (by decide +kernel) ?_
      refine g_topi (y := nI (cdUse (pM H) c m)) (by rw [hcd]) ?_
      refine g_put (σ' := uN σ 5 (nI (cdUse (pM H) c m))) (ty := .int) C dX7_use_23 wl27 rfl 0 (by decide) 1 rfl rfl inX7_use_X7 tyX7_ok nmX7 rfl (by decide +kernel) rfl rfl (Nat.le_of_ble_eq_true rfl) wsN5 ?_
      refine g_aload_n C dX7_use_26 0 rfl rfl ?_
      refine g_get C dX7_use_27 wl27 rfl 0 (by decide) 1 rfl rfl rfl inX7_use_X7 ?_
      refine g_topi (y := nI (cdUse (pM H) c m)) rfl ?_
      refine g_if_ne (tgt := 50) C dX7_use_30 (by decide) (fun c_30 => ?_) (fun c_30 => ?_)
      · have hc1 : cdUse (pM H) c m ≠ 0 := fun h => c_30 (by rw [h]; decide)
        refine g_vret C dX7_use_50 rfl ⟨Nat.le_of_ble_eq_true rfl, Nat.le_of_ble_eq_true rfl⟩ ?_
        rw [hF]
        exact ⟨fun _ => ⟨rfl, rfl⟩, fun h => absurd h hc1⟩
      · have hc0 : cdUse (pM H) c m = 0 := (nI_eq (by omega) (by decide)).mp (Decidable.byContradiction fun h => absurd c_30 h)
        have tc := inT (cdUse_0 hc0).1 (by decide)
        have tm := inT (cdUse_0 hc0).2 (by omega)
        refine g_eq (σ2 := uN σ 5 (nI (cdUse (pM H) c m))) (lv2 := [(0, .ref ((xK X).2.2 27)), (1, .int (nI (tn c))), (2, .int m), (3, .int (bI on))]) (st2 := []) rfl (congrArg (fun z9 => ([(0, .ref ((xK X).2.2 27)), (1, .int z9), (2, .int m), (3, .int (bI on))] : List (Nat × Value))) tc.1) rfl ?_
        refine g_eq (σ2 := uN σ 5 (nI (cdUse (pM H) c m))) (lv2 := [(0, .ref ((xK X).2.2 27)), (1, .int (nI (tn c))), (2, .int (nI (tn m))), (3, .int (bI on))]) (st2 := []) rfl (congrArg (fun z9 => ([(0, .ref ((xK X).2.2 27)), (1, .int (nI (tn c))), (2, .int z9), (3, .int (bI on))] : List (Nat × Value))) tm.1) rfl ?_
        refine g_aload_n C dX7_use_33 0 rfl rfl ?_
        refine g_get C dX7_use_34 wl27 rfl 13 (by decide) 2 rfl rfl rfl inX7_use_X7 ?_
        refine g_bipush (v := nI 8) C dX7_use_37 (by decide +kernel) ?_
        refine g_iload_n C dX7_use_39 1 rfl rfl ?_
        refine g_imul C dX7_use_40 ?_
        refine g_iload_n C dX7_use_41 2 rfl rfl ?_
        refine g_iadd C dX7_use_42 ?_
        refine g_iload_n C dX7_use_43 3 rfl rfl ?_
        refine g_zast (j := (8 * tn c + tn m)) (σ' := uI (uN σ 5 (nI (cdUse (pM H) c m))) 37 (upd (sI (uN σ 5 (nI (cdUse (pM H) c m))) 37) (8 * tn c + tn m) (vp_nar .boolean (bI on)))) C dX7_use_44 wl37 (by rw [← nI_add, ← nI_mul]) (by omega) (by decide) wsA37 ?_
        refine g_aload_n C dX7_use_45 0 rfl rfl ?_
        refine g_iconst (v := nI 0) C dX7_use_46 (by decide +kernel) ?_
        refine g_put (σ' := uN (uI (uN σ 5 (nI (cdUse (pM H) c m))) 37 (upd (sI (uN σ 5 (nI (cdUse (pM H) c m))) 37) (8 * tn c + tn m) (vp_nar .boolean (bI on)))) 9 (nI 0)) (ty := .boolean) C dX7_use_47 wl27 rfl 20 (by decide) 3 rfl rfl inX7_use_X7 tyX7_ok nmX7 rfl (by decide +kernel) rfl rfl (Nat.le_of_ble_eq_true rfl) wsN9 ?_
        refine g_vret C dX7_use_50 rfl ⟨Nat.le_of_ble_eq_true rfl, Nat.le_of_ble_eq_true rfl⟩ ?_
        rw [hF]
        exact ⟨fun h => absurd hc0 h, fun _ => ⟨rfl, by rw [hc0, nar_b2]; rfl⟩⟩
    · have hcd : cdUse (pM H) c m = 0 := if_pos ⟨of_decide_eq_true (bIt c_7), of_decide_eq_true (bIt c_15)⟩
      refine g_iconst (v := nI 0) C dX7_use_18 (by decide +kernel) ?_
      refine g_goto (tgt := 23) C dX7_use_19 (by decide) ?_
      refine g_topi (y := nI (cdUse (pM H) c m)) (by rw [hcd]) ?_
      refine g_put (σ' := uN σ 5 (nI (cdUse (pM H) c m))) (ty := .int) C dX7_use_23 wl27 rfl 0 (by decide) 1 rfl rfl inX7_use_X7 tyX7_ok nmX7 rfl (by decide +kernel) rfl rfl (Nat.le_of_ble_eq_true rfl) wsN5 ?_
      refine g_aload_n C dX7_use_26 0 rfl rfl ?_
      refine g_get C dX7_use_27 wl27 rfl 0 (by decide) 1 rfl rfl rfl inX7_use_X7 ?_
      refine g_topi (y := nI (cdUse (pM H) c m)) rfl ?_
      refine g_if_ne (tgt := 50) C dX7_use_30 (by decide) (fun c_30 => ?_) (fun c_30 => ?_)
      · have hc1 : cdUse (pM H) c m ≠ 0 := fun h => c_30 (by rw [h]; decide)
        refine g_vret C dX7_use_50 rfl ⟨Nat.le_of_ble_eq_true rfl, Nat.le_of_ble_eq_true rfl⟩ ?_
        rw [hF]
        exact ⟨fun _ => ⟨rfl, rfl⟩, fun h => absurd h hc1⟩
      · have hc0 : cdUse (pM H) c m = 0 := (nI_eq (by omega) (by decide)).mp (Decidable.byContradiction fun h => absurd c_30 h)
        have tc := inT (cdUse_0 hc0).1 (by decide)
        have tm := inT (cdUse_0 hc0).2 (by omega)
        refine g_eq (σ2 := uN σ 5 (nI (cdUse (pM H) c m))) (lv2 := [(0, .ref ((xK X).2.2 27)), (1, .int (nI (tn c))), (2, .int m), (3, .int (bI on))]) (st2 := []) rfl (congrArg (fun z9 => ([(0, .ref ((xK X).2.2 27)), (1, .int z9), (2, .int m), (3, .int (bI on))] : List (Nat × Value))) tc.1) rfl ?_
        refine g_eq (σ2 := uN σ 5 (nI (cdUse (pM H) c m))) (lv2 := [(0, .ref ((xK X).2.2 27)), (1, .int (nI (tn c))), (2, .int (nI (tn m))), (3, .int (bI on))]) (st2 := []) rfl (congrArg (fun z9 => ([(0, .ref ((xK X).2.2 27)), (1, .int (nI (tn c))), (2, .int z9), (3, .int (bI on))] : List (Nat × Value))) tm.1) rfl ?_
        refine g_aload_n C dX7_use_33 0 rfl rfl ?_
        refine g_get C dX7_use_34 wl27 rfl 13 (by decide) 2 rfl rfl rfl inX7_use_X7 ?_
        refine g_bipush (v := nI 8) C dX7_use_37 (by decide +kernel) ?_
        refine g_iload_n C dX7_use_39 1 rfl rfl ?_
        refine g_imul C dX7_use_40 ?_
        refine g_iload_n C dX7_use_41 2 rfl rfl ?_
        refine g_iadd C dX7_use_42 ?_
        refine g_iload_n C dX7_use_43 3 rfl rfl ?_
        refine g_zast (j := (8 * tn c + tn m)) (σ' := uI (uN σ 5 (nI (cdUse (pM H) c m))) 37 (upd (sI (uN σ 5 (nI (cdUse (pM H) c m))) 37) (8 * tn c + tn m) (vp_nar .boolean (bI on)))) C dX7_use_44 wl37 (by rw [← nI_add, ← nI_mul]) (by omega) (by decide) wsA37 ?_
        refine g_aload_n C dX7_use_45 0 rfl rfl ?_
        refine g_iconst (v := nI 0) C dX7_use_46 (by decide +kernel) ?_
        refine g_put (σ' := uN (uI (uN σ 5 (nI (cdUse (pM H) c m))) 37 (upd (sI (uN σ 5 (nI (cdUse (pM H) c m))) 37) (8 * tn c + tn m) (vp_nar .boolean (bI on)))) 9 (nI 0)) (ty := .boolean) C dX7_use_47 wl27 rfl 20 (by decide) 3 rfl rfl inX7_use_X7 tyX7_ok nmX7 rfl (by decide +kernel) rfl rfl (Nat.le_of_ble_eq_true rfl) wsN9 ?_
        refine g_vret C dX7_use_50 rfl ⟨Nat.le_of_ble_eq_true rfl, Nat.le_of_ble_eq_true rfl⟩ ?_
        rw [hF]
        exact ⟨fun h => absurd hc0 h, fun _ => ⟨rfl, by rw [hc0, nar_b2]; rfl⟩⟩

theorem inX7_fan_X7 : ∀ w ∈ u_ws RX7 TX7 24, w ∈ wsX7_fan := by decide +kernel
set_option maxHeartbeats 4000000 in
set_option maxRecDepth 100000 in
theorem kX7_fan (l : Launch) (K : gK) (hD : gD K) (σ : gS) {H : Ph} {nj n : Nat} {sv : Bool} (hI : Mi H nj n sv σ) (s f : UInt64) : Ct l yX7_fan wsX7_fan { frames := 1, cells := 0, slots := 0, locals := 25 } K [.ref (K.2.2 27), .double s, .double f] σ (Mr σ (cdFan s f) (none) (fun r t => r = none ∧ t = uN (uD (uD (uN σ 5 (nI 0)) 3 s) 4 f) 9 (nI 0))) := by
  refine Ct.of hD (by decide) rfl (Nat.le_of_ble_eq_true rfl) ?_
  intro X hL hK hF C
  subst hL; subst hK
  refine g_eq (σ2 := σ) (lv2 := [(0, .ref ((xK X).2.2 27)), (1, .double s), (3, .double f)]) (st2 := []) rfl rfl rfl ?_
  obtain ⟨hM, hp, hP, hg, hq, hsv, ⟨hn, hn6, hsw⟩, hr, hl⟩ := hI
  have h16 := hM.nd16
  have h8 := hM.nm8
  have hjj := hM.j
  have hcb := cdFan_le s f
  refine g_aload_n C dX7_fan_0 0 rfl rfl ?_
  refine g_dload_n C dX7_fan_1 1 rfl rfl ?_
  refine g_dconst0 C dX7_fan_2 ?_
  refine g_ldc2d (v := 4652007308841189376) C dX7_fan_3 1 rfl ?_
  refine g_callS (As := [.double s, .double FP.dconst0, .double 4652007308841189376]) (rest := [.ref ((xK X).2.2 27)]) C dX7_fan_6 (kX7_between (xl X) (xK X) C.hD σ s FP.dconst0 k1000) 3 gX7_fan_X7_between rfl (by decide +kernel) ⟨Nat.le_of_ble_eq_true rfl, Nat.le_of_ble_eq_true rfl⟩ ⟨Nat.le_of_ble_eq_true rfl, Nat.le_of_ble_eq_true rfl⟩ rfl rfl (Nat.le_of_ble_eq_true rfl) (fun rv9 σ9 h9 => ?_)
  obtain ⟨h9a, h9b⟩ := h9
  refine g_eq (σ2 := σ) (lv2 := [(0, .ref ((xK X).2.2 27)), (1, .double s), (3, .double f)]) (st2 := [.int (bI (wiB s FP.dconst0 k1000)), .ref ((xK X).2.2 27)]) h9b rfl (by rw [h9a]; rfl) ?_
  refine g_if_eq (tgt := 27) C dX7_fan_9 (by decide) (fun c_9 => ?_) (fun c_9 => ?_)
  · have hcd : cdFan s f = 1 := if_neg (fun h => by
      have h9 := (bI_ne _).mp c_9
      rw [h.1] at h9
      cases h9)
    refine g_iconst (v := nI 1) C dX7_fan_27 (by decide +kernel) ?_
    refine g_topi (y := nI (cdFan s f)) (by rw [hcd]) ?_
    refine g_put (σ' := uN σ 5 (nI (cdFan s f))) (ty := .int) C dX7_fan_28 wl27 rfl 0 (by decide) 2 rfl rfl inX7_fan_X7 tyX7_ok nmX7 rfl (by decide +kernel) rfl rfl (Nat.le_of_ble_eq_true rfl) wsN5 ?_
    refine g_aload_n C dX7_fan_31 0 rfl rfl ?_
    refine g_get C dX7_fan_32 wl27 rfl 0 (by decide) 2 rfl rfl rfl inX7_fan_X7 ?_
    refine g_topi (y := nI (cdFan s f)) rfl ?_
    refine g_if_ne (tgt := 53) C dX7_fan_35 (by decide) (fun c_35 => ?_) (fun c_35 => ?_)
    · have hc1 : cdFan s f ≠ 0 := fun h => c_35 (by rw [h]; decide)
      refine g_vret C dX7_fan_53 rfl ⟨Nat.le_of_ble_eq_true rfl, Nat.le_of_ble_eq_true rfl⟩ ?_
      rw [hF]
      exact ⟨fun _ => ⟨rfl, rfl⟩, fun h => absurd h hc1⟩
    · have hc0 : cdFan s f = 0 := (nI_eq (by omega) (by decide)).mp (Decidable.byContradiction fun h => absurd c_35 h)
      refine g_aload_n C dX7_fan_38 0 rfl rfl ?_
      refine g_dload_n C dX7_fan_39 1 rfl rfl ?_
      refine g_put (σ' := uD (uN σ 5 (nI (cdFan s f))) 3 s) (ty := .double) C dX7_fan_40 wl27 rfl 16 (by decide) 3 rfl rfl inX7_fan_X7 tyX7_ok nmX7 rfl (by decide +kernel) rfl rfl (Nat.le_of_ble_eq_true rfl) wsD3 ?_
      refine g_aload_n C dX7_fan_43 0 rfl rfl ?_
      refine g_dload_n C dX7_fan_44 2 rfl rfl ?_
      refine g_put (σ' := uD (uD (uN σ 5 (nI (cdFan s f))) 3 s) 4 f) (ty := .double) C dX7_fan_45 wl27 rfl 17 (by decide) 4 rfl rfl inX7_fan_X7 tyX7_ok nmX7 rfl (by decide +kernel) rfl rfl (Nat.le_of_ble_eq_true rfl) wsD4 ?_
      refine g_aload_n C dX7_fan_48 0 rfl rfl ?_
      refine g_iconst (v := nI 0) C dX7_fan_49 (by decide +kernel) ?_
      refine g_put (σ' := uN (uD (uD (uN σ 5 (nI (cdFan s f))) 3 s) 4 f) 9 (nI 0)) (ty := .boolean) C dX7_fan_50 wl27 rfl 20 (by decide) 5 rfl rfl inX7_fan_X7 tyX7_ok nmX7 rfl (by decide +kernel) rfl rfl (Nat.le_of_ble_eq_true rfl) wsN9 ?_
      refine g_vret C dX7_fan_53 rfl ⟨Nat.le_of_ble_eq_true rfl, Nat.le_of_ble_eq_true rfl⟩ ?_
      rw [hF]
      exact ⟨fun h => absurd hc0 h, fun _ => ⟨rfl, by rw [hc0]; try rfl⟩⟩
  · refine g_dload_n C dX7_fan_12 2 rfl rfl ?_
    refine g_dconst0 C dX7_fan_13 ?_
    refine g_ldc2d (v := 4652007308841189376) C dX7_fan_14 1 rfl ?_
    refine g_callS (As := [.double f, .double FP.dconst0, .double 4652007308841189376]) (rest := [.ref ((xK X).2.2 27)]) C dX7_fan_17 (kX7_between (xl X) (xK X) C.hD σ f FP.dconst0 k1000) 3 gX7_fan_X7_between rfl (by decide +kernel) ⟨Nat.le_of_ble_eq_true rfl, Nat.le_of_ble_eq_true rfl⟩ ⟨Nat.le_of_ble_eq_true rfl, Nat.le_of_ble_eq_true rfl⟩ rfl rfl (Nat.le_of_ble_eq_true rfl) (fun rv9 σ9 h9 => ?_)
    obtain ⟨h9a, h9b⟩ := h9
    refine g_eq (σ2 := σ) (lv2 := [(0, .ref ((xK X).2.2 27)), (1, .double s), (3, .double f)]) (st2 := [.int (bI (wiB f FP.dconst0 k1000)), .ref ((xK X).2.2 27)]) h9b rfl (by rw [h9a]; rfl) ?_
    refine g_if_eq (tgt := 27) C dX7_fan_20 (by decide) (fun c_20 => ?_) (fun c_20 => ?_)
    · have hcd : cdFan s f = 1 := if_neg (fun h => by
        have h9 := (bI_ne _).mp c_20
        rw [h.2] at h9
        cases h9)
      refine g_iconst (v := nI 1) C dX7_fan_27 (by decide +kernel) ?_
      refine g_topi (y := nI (cdFan s f)) (by rw [hcd]) ?_
      refine g_put (σ' := uN σ 5 (nI (cdFan s f))) (ty := .int) C dX7_fan_28 wl27 rfl 0 (by decide) 2 rfl rfl inX7_fan_X7 tyX7_ok nmX7 rfl (by decide +kernel) rfl rfl (Nat.le_of_ble_eq_true rfl) wsN5 ?_
      refine g_aload_n C dX7_fan_31 0 rfl rfl ?_
      refine g_get C dX7_fan_32 wl27 rfl 0 (by decide) 2 rfl rfl rfl inX7_fan_X7 ?_
      refine g_topi (y := nI (cdFan s f)) rfl ?_
      refine g_if_ne (tgt := 53) C dX7_fan_35 (by decide) (fun c_35 => ?_) (fun c_35 => ?_)
      · have hc1 : cdFan s f ≠ 0 := fun h => c_35 (by rw [h]; decide)
        refine g_vret C dX7_fan_53 rfl ⟨Nat.le_of_ble_eq_true rfl, Nat.le_of_ble_eq_true rfl⟩ ?_
        rw [hF]
        exact ⟨fun _ => ⟨rfl, rfl⟩, fun h => absurd h hc1⟩
      · have hc0 : cdFan s f = 0 := (nI_eq (by omega) (by decide)).mp (Decidable.byContradiction fun h => absurd c_35 h)
        refine g_aload_n C dX7_fan_38 0 rfl rfl ?_
        refine g_dload_n C dX7_fan_39 1 rfl rfl ?_
        refine g_put (σ' := uD (uN σ 5 (nI (cdFan s f))) 3 s) (ty := .double) C dX7_fan_40 wl27 rfl 16 (by decide) 3 rfl rfl inX7_fan_X7 tyX7_ok nmX7 rfl (by decide +kernel) rfl rfl (Nat.le_of_ble_eq_true rfl) wsD3 ?_
        refine g_aload_n C dX7_fan_43 0 rfl rfl ?_
        refine g_dload_n C dX7_fan_44 2 rfl rfl ?_
        refine g_put (σ' := uD (uD (uN σ 5 (nI (cdFan s f))) 3 s) 4 f) (ty := .double) C dX7_fan_45 wl27 rfl 17 (by decide) 4 rfl rfl inX7_fan_X7 tyX7_ok nmX7 rfl (by decide +kernel) rfl rfl (Nat.le_of_ble_eq_true rfl) wsD4 ?_
        refine g_aload_n C dX7_fan_48 0 rfl rfl ?_
        refine g_iconst (v := nI 0) C dX7_fan_49 (by decide +kernel) ?_
        refine g_put (σ' := uN (uD (uD (uN σ 5 (nI (cdFan s f))) 3 s) 4 f) 9 (nI 0)) (ty := .boolean) C dX7_fan_50 wl27 rfl 20 (by decide) 5 rfl rfl inX7_fan_X7 tyX7_ok nmX7 rfl (by decide +kernel) rfl rfl (Nat.le_of_ble_eq_true rfl) wsN9 ?_
        refine g_vret C dX7_fan_53 rfl ⟨Nat.le_of_ble_eq_true rfl, Nat.le_of_ble_eq_true rfl⟩ ?_
        rw [hF]
        exact ⟨fun h => absurd hc0 h, fun _ => ⟨rfl, by rw [hc0]; try rfl⟩⟩
    · have hcd : cdFan s f = 0 := if_pos ⟨bIt c_9, bIt c_20⟩
      refine g_iconst (v := nI 0) C dX7_fan_23 (by decide +kernel) ?_
      refine g_goto (tgt := 28) C dX7_fan_24 (by decide) ?_
      refine g_topi (y := nI (cdFan s f)) (by rw [hcd]) ?_
      refine g_put (σ' := uN σ 5 (nI (cdFan s f))) (ty := .int) C dX7_fan_28 wl27 rfl 0 (by decide) 2 rfl rfl inX7_fan_X7 tyX7_ok nmX7 rfl (by decide +kernel) rfl rfl (Nat.le_of_ble_eq_true rfl) wsN5 ?_
      refine g_aload_n C dX7_fan_31 0 rfl rfl ?_
      refine g_get C dX7_fan_32 wl27 rfl 0 (by decide) 2 rfl rfl rfl inX7_fan_X7 ?_
      refine g_topi (y := nI (cdFan s f)) rfl ?_
      refine g_if_ne (tgt := 53) C dX7_fan_35 (by decide) (fun c_35 => ?_) (fun c_35 => ?_)
      · have hc1 : cdFan s f ≠ 0 := fun h => c_35 (by rw [h]; decide)
        refine g_vret C dX7_fan_53 rfl ⟨Nat.le_of_ble_eq_true rfl, Nat.le_of_ble_eq_true rfl⟩ ?_
        rw [hF]
        exact ⟨fun _ => ⟨rfl, rfl⟩, fun h => absurd h hc1⟩
      · have hc0 : cdFan s f = 0 := (nI_eq (by omega) (by decide)).mp (Decidable.byContradiction fun h => absurd c_35 h)
        refine g_aload_n C dX7_fan_38 0 rfl rfl ?_
        refine g_dload_n C dX7_fan_39 1 rfl rfl ?_
        refine g_put (σ' := uD (uN σ 5 (nI (cdFan s f))) 3 s) (ty := .double) C dX7_fan_40 wl27 rfl 16 (by decide) 3 rfl rfl inX7_fan_X7 tyX7_ok nmX7 rfl (by decide +kernel) rfl rfl (Nat.le_of_ble_eq_true rfl) wsD3 ?_
        refine g_aload_n C dX7_fan_43 0 rfl rfl ?_
        refine g_dload_n C dX7_fan_44 2 rfl rfl ?_
        refine g_put (σ' := uD (uD (uN σ 5 (nI (cdFan s f))) 3 s) 4 f) (ty := .double) C dX7_fan_45 wl27 rfl 17 (by decide) 4 rfl rfl inX7_fan_X7 tyX7_ok nmX7 rfl (by decide +kernel) rfl rfl (Nat.le_of_ble_eq_true rfl) wsD4 ?_
        refine g_aload_n C dX7_fan_48 0 rfl rfl ?_
        refine g_iconst (v := nI 0) C dX7_fan_49 (by decide +kernel) ?_
        refine g_put (σ' := uN (uD (uD (uN σ 5 (nI (cdFan s f))) 3 s) 4 f) 9 (nI 0)) (ty := .boolean) C dX7_fan_50 wl27 rfl 20 (by decide) 5 rfl rfl inX7_fan_X7 tyX7_ok nmX7 rfl (by decide +kernel) rfl rfl (Nat.le_of_ble_eq_true rfl) wsN9 ?_
        refine g_vret C dX7_fan_53 rfl ⟨Nat.le_of_ble_eq_true rfl, Nat.le_of_ble_eq_true rfl⟩ ?_
        rw [hF]
        exact ⟨fun h => absurd hc0 h, fun _ => ⟨rfl, by rw [hc0]; try rfl⟩⟩

theorem inX7_solve_X7 : ∀ w ∈ u_ws RX7 TX7 24, w ∈ wsX7_solve := by decide +kernel
set_option maxHeartbeats 4000000 in
set_option maxRecDepth 100000 in
theorem kX7_solve (l : Launch) (K : gK) (hD : gD K) (σ : gS) {H : Ph} {nj n : Nat} {sv : Bool} (hI : Mi H nj n sv σ) (c : Int32) : Ct l yX7_solve wsX7_solve { frames := 4, cells := 0, slots := 0, locals := 106 } K [.ref (K.2.2 27), .int c] σ (Mr σ (cdSolve c) (some (.int (nI 0))) (fun r t => r = some (.int (sei (blM H (uN σ 5 (nI 0)) (tn c)).1)) ∧ t = mbF (uN σ 5 (nI 0)) (tn c) (blM H (uN σ 5 (nI 0)) (tn c)).2.1 (blM H (uN σ 5 (nI 0)) (tn c)).2.2 (bI (blM H (uN σ 5 (nI 0)) (tn c)).1.isSome))) := by
  refine Ct.of hD (by decide) rfl (Nat.le_of_ble_eq_true rfl) ?_
  intro X hL hK hF C
  subst hL; subst hK
  refine g_eq (σ2 := σ) (lv2 := [(0, .ref ((xK X).2.2 27)), (1, .int c)]) (st2 := []) rfl rfl rfl ?_
  obtain ⟨hM, hp, hP, hg, hq, hsv, ⟨hn, hn6, hsw⟩, hr, hl⟩ := hI
  have h16 := hM.nd16
  have h8 := hM.nm8
  have hjj := hM.j
  have hcb := cdSolve_le c
  refine g_aload_n C dX7_solve_0 0 rfl rfl ?_
  refine g_iload_n C dX7_solve_1 1 rfl rfl ?_
  refine g_iconst (v := nI 0) C dX7_solve_2 (by decide +kernel) ?_
  refine g_iconst (v := nI 3) C dX7_solve_3 (by decide +kernel) ?_
  refine g_callS (As := [.int c, .int (nI 0), .int (nI 3)]) (rest := [.ref ((xK X).2.2 27)]) C dX7_solve_4 (kX7_isIn (xl X) (xK X) C.hD σ c (nI 0) (nI 3)) 3 gX7_solve_X7_isIn rfl (by decide +kernel) ⟨Nat.le_of_ble_eq_true rfl, Nat.le_of_ble_eq_true rfl⟩ ⟨Nat.le_of_ble_eq_true rfl, Nat.le_of_ble_eq_true rfl⟩ rfl rfl (Nat.le_of_ble_eq_true rfl) (fun rv9 σ9 h9 => ?_)
  obtain ⟨h9a, h9b⟩ := h9
  refine g_eq (σ2 := σ) (lv2 := [(0, .ref ((xK X).2.2 27)), (1, .int c)]) (st2 := [.int (bI (inB c (nI 0) (nI 3))), .ref ((xK X).2.2 27)]) h9b rfl (by rw [h9a]; rfl) ?_
  refine g_topi (y := bI (decide (inR c 4))) (congrArg bI (inB_C (n := 3) (by decide))) ?_
  refine g_if_eq (tgt := 14) C dX7_solve_7 (by decide) (fun c_7 => ?_) (fun c_7 => ?_)
  · have hcd : cdSolve c = 1 := if_neg (of_decide_eq_false ((bI_ne _).mp c_7))
    refine g_iconst (v := nI 1) C dX7_solve_14 (by decide +kernel) ?_
    refine g_topi (y := nI (cdSolve c)) (by rw [hcd]) ?_
    refine g_put (σ' := uN σ 5 (nI (cdSolve c))) (ty := .int) C dX7_solve_15 wl27 rfl 0 (by decide) 1 rfl rfl inX7_solve_X7 tyX7_ok nmX7 rfl (by decide +kernel) rfl rfl (Nat.le_of_ble_eq_true rfl) wsN5 ?_
    refine g_aload_n C dX7_solve_18 0 rfl rfl ?_
    refine g_get C dX7_solve_19 wl27 rfl 0 (by decide) 1 rfl rfl rfl inX7_solve_X7 ?_
    refine g_topi (y := nI (cdSolve c)) rfl ?_
    refine g_if_le (tgt := 29) C dX7_solve_22 (by decide) (fun c_22 => ?_) (fun c_22 => ?_)
    · have hc0 : cdSolve c = 0 := nI_le0 (by omega) c_22
      have tc := inT (cdSolve_0 hc0) (by decide)
      refine g_eq (σ2 := uN σ 5 (nI (cdSolve c))) (lv2 := [(0, .ref ((xK X).2.2 27)), (1, .int (nI (tn c)))]) (st2 := []) rfl (congrArg (fun z9 => ([(0, .ref ((xK X).2.2 27)), (1, .int z9)] : List (Nat × Value))) tc.1) rfl ?_
      refine g_aload_n C dX7_solve_29 0 rfl rfl ?_
      refine g_iload_n C dX7_solve_30 1 rfl rfl ?_
      refine g_callV (As := [.int (nI (tn c))]) (rest := []) C dX7_solve_31 (kX7_solveNow (xl X) (xK X) C.hD (uN σ 5 (nI (cdSolve c))) hM hp (c := tn c) tc.2) wl27 rfl 1 gX7_solve_X7_solveNow rfl (by decide +kernel) ⟨Nat.le_of_ble_eq_true rfl, Nat.le_of_ble_eq_true rfl⟩ ⟨Nat.le_of_ble_eq_true rfl, Nat.le_of_ble_eq_true rfl⟩ rfl rfl (Nat.le_of_ble_eq_true rfl) (fun rv9 σ9 h9 => ?_)
      obtain ⟨h9a, h9b⟩ := h9
      refine g_eq (σ2 := mbF (uN σ 5 (nI (cdSolve c))) (tn c) (blM H (uN σ 5 (nI (cdSolve c))) (tn c)).2.1 (blM H (uN σ 5 (nI (cdSolve c))) (tn c)).2.2 (bI (blM H (uN σ 5 (nI (cdSolve c))) (tn c)).1.isSome)) (lv2 := [(0, .ref ((xK X).2.2 27)), (1, .int (nI (tn c)))]) (st2 := [.int (sei (blM H (uN σ 5 (nI (cdSolve c))) (tn c)).1)]) h9b rfl (by rw [h9a]; rfl) ?_
      refine g_iret C dX7_solve_34 rfl ⟨Nat.le_of_ble_eq_true rfl, Nat.le_of_ble_eq_true rfl⟩ ?_
      rw [hF]
      exact ⟨fun h => absurd hc0 h, fun _ => ⟨by rw [hc0], by rw [hc0]; try rfl⟩⟩
    · have hc1 : cdSolve c ≠ 0 := fun h => c_22 (by rw [h]; decide)
      refine g_iconst (v := nI 0) C dX7_solve_25 (by decide +kernel) ?_
      refine g_goto (tgt := 34) C dX7_solve_26 (by decide) ?_
      refine g_iret C dX7_solve_34 rfl ⟨Nat.le_of_ble_eq_true rfl, Nat.le_of_ble_eq_true rfl⟩ ?_
      rw [hF]
      exact ⟨fun _ => ⟨rfl, rfl⟩, fun h => absurd h hc1⟩
  · have hcd : cdSolve c = 0 := if_pos (of_decide_eq_true (bIt c_7))
    refine g_iconst (v := nI 0) C dX7_solve_10 (by decide +kernel) ?_
    refine g_goto (tgt := 15) C dX7_solve_11 (by decide) ?_
    refine g_topi (y := nI (cdSolve c)) (by rw [hcd]) ?_
    refine g_put (σ' := uN σ 5 (nI (cdSolve c))) (ty := .int) C dX7_solve_15 wl27 rfl 0 (by decide) 1 rfl rfl inX7_solve_X7 tyX7_ok nmX7 rfl (by decide +kernel) rfl rfl (Nat.le_of_ble_eq_true rfl) wsN5 ?_
    refine g_aload_n C dX7_solve_18 0 rfl rfl ?_
    refine g_get C dX7_solve_19 wl27 rfl 0 (by decide) 1 rfl rfl rfl inX7_solve_X7 ?_
    refine g_topi (y := nI (cdSolve c)) rfl ?_
    refine g_if_le (tgt := 29) C dX7_solve_22 (by decide) (fun c_22 => ?_) (fun c_22 => ?_)
    · have hc0 : cdSolve c = 0 := nI_le0 (by omega) c_22
      have tc := inT (cdSolve_0 hc0) (by decide)
      refine g_eq (σ2 := uN σ 5 (nI (cdSolve c))) (lv2 := [(0, .ref ((xK X).2.2 27)), (1, .int (nI (tn c)))]) (st2 := []) rfl (congrArg (fun z9 => ([(0, .ref ((xK X).2.2 27)), (1, .int z9)] : List (Nat × Value))) tc.1) rfl ?_
      refine g_aload_n C dX7_solve_29 0 rfl rfl ?_
      refine g_iload_n C dX7_solve_30 1 rfl rfl ?_
      refine g_callV (As := [.int (nI (tn c))]) (rest := []) C dX7_solve_31 (kX7_solveNow (xl X) (xK X) C.hD (uN σ 5 (nI (cdSolve c))) hM hp (c := tn c) tc.2) wl27 rfl 1 gX7_solve_X7_solveNow rfl (by decide +kernel) ⟨Nat.le_of_ble_eq_true rfl, Nat.le_of_ble_eq_true rfl⟩ ⟨Nat.le_of_ble_eq_true rfl, Nat.le_of_ble_eq_true rfl⟩ rfl rfl (Nat.le_of_ble_eq_true rfl) (fun rv9 σ9 h9 => ?_)
      obtain ⟨h9a, h9b⟩ := h9
      refine g_eq (σ2 := mbF (uN σ 5 (nI (cdSolve c))) (tn c) (blM H (uN σ 5 (nI (cdSolve c))) (tn c)).2.1 (blM H (uN σ 5 (nI (cdSolve c))) (tn c)).2.2 (bI (blM H (uN σ 5 (nI (cdSolve c))) (tn c)).1.isSome)) (lv2 := [(0, .ref ((xK X).2.2 27)), (1, .int (nI (tn c)))]) (st2 := [.int (sei (blM H (uN σ 5 (nI (cdSolve c))) (tn c)).1)]) h9b rfl (by rw [h9a]; rfl) ?_
      refine g_iret C dX7_solve_34 rfl ⟨Nat.le_of_ble_eq_true rfl, Nat.le_of_ble_eq_true rfl⟩ ?_
      rw [hF]
      exact ⟨fun h => absurd hc0 h, fun _ => ⟨by rw [hc0], by rw [hc0]; try rfl⟩⟩
    · have hc1 : cdSolve c ≠ 0 := fun h => c_22 (by rw [h]; decide)
      refine g_iconst (v := nI 0) C dX7_solve_25 (by decide +kernel) ?_
      refine g_goto (tgt := 34) C dX7_solve_26 (by decide) ?_
      refine g_iret C dX7_solve_34 rfl ⟨Nat.le_of_ble_eq_true rfl, Nat.le_of_ble_eq_true rfl⟩ ?_
      rw [hF]
      exact ⟨fun _ => ⟨rfl, rfl⟩, fun h => absurd h hc1⟩

theorem inX7_draws_X7 : ∀ w ∈ u_ws RX7 TX7 24, w ∈ wsX7_draws := by decide +kernel
set_option maxHeartbeats 4000000 in
set_option maxRecDepth 100000 in
theorem kX7_draws (l : Launch) (K : gK) (hD : gD K) (σ : gS) {H : Ph} {nj n : Nat} {sv : Bool} (hI : Mi H nj n sv σ) (a b : Int32) : Ct l yX7_draws wsX7_draws { frames := 2, cells := 0, slots := 0, locals := 43 } K [.ref (K.2.2 27), .int a, .int b] σ (Mr σ (cdQ (pM H) 2 sv a b) (some (.double FP.dconst0)) (fun r t => r = some (.double (dsM H σ (tn a) (tn b))) ∧ t = uN σ 5 (nI 0))) := by
  refine Ct.of hD (by decide) rfl (Nat.le_of_ble_eq_true rfl) ?_
  intro X hL hK hF C
  subst hL; subst hK
  refine g_eq (σ2 := σ) (lv2 := [(0, .ref ((xK X).2.2 27)), (1, .int a), (2, .int b)]) (st2 := []) rfl rfl rfl ?_
  obtain ⟨hM, hp, hP, hg, hq, hsv, ⟨hn, hn6, hsw⟩, hr, hl⟩ := hI
  have h16 := hM.nd16
  have h8 := hM.nm8
  have hjj := hM.j
  have hcb := cdQ_le (pM H) 2 sv a b
  refine g_aload_n C dX7_draws_0 0 rfl rfl ?_
  refine g_aload_n C dX7_draws_1 0 rfl rfl ?_
  refine g_iload_n C dX7_draws_2 1 rfl rfl ?_
  refine g_callV (As := [.int a]) (rest := [.ref ((xK X).2.2 27)]) C dX7_draws_3 (kX7_isMachine (xl X) (xK X) C.hD σ hM.nm hM.nm8 a) wl27 rfl 1 gX7_draws_X7_isMachine rfl (by decide +kernel) ⟨Nat.le_of_ble_eq_true rfl, Nat.le_of_ble_eq_true rfl⟩ ⟨Nat.le_of_ble_eq_true rfl, Nat.le_of_ble_eq_true rfl⟩ rfl rfl (Nat.le_of_ble_eq_true rfl) (fun rv9 σ9 h9 => ?_)
  obtain ⟨h9a, h9b⟩ := h9
  refine g_eq (σ2 := σ) (lv2 := [(0, .ref ((xK X).2.2 27)), (1, .int a), (2, .int b)]) (st2 := [.int (bI (decide (inR a (pM H)))), .ref ((xK X).2.2 27)]) h9b rfl (by rw [h9a]; rfl) ?_
  refine g_if_eq (tgt := 22) C dX7_draws_6 (by decide) (fun c_6 => ?_) (fun c_6 => ?_)
  · refine g_iconst (v := nI 0) C dX7_draws_22 (by decide +kernel) ?_
    refine g_topi (y := bI (decide (inR a (pM H) ∧ inR b 2))) (by first | (rw [decide_eq_false (show ¬ (inR a (pM H) ∧ inR b 2) from fun h => absurd h.1 (of_decide_eq_false ((bI_ne _).mp c_6)))]; rfl) | (rw [decide_eq_false (show ¬ (inR a (pM H) ∧ inR b 2) from fun h => absurd h.2 (of_decide_eq_false ((bI_ne _).mp c_15)))]; rfl) | (rw [decide_eq_true (show inR a (pM H) ∧ inR b 2 from ⟨of_decide_eq_true (bIt c_6), of_decide_eq_true (bIt c_15)⟩)]; rfl)) ?_
    refine g_callV (As := [.int (bI (decide (inR a (pM H) ∧ inR b 2)))]) (rest := []) C dX7_draws_23 (kX7_isWrong (xl X) (xK X) C.hD σ (decide (inR a (pM H) ∧ inR b 2)) hsv) wl27 rfl 1 gX7_draws_X7_isWrong rfl (by decide +kernel) ⟨Nat.le_of_ble_eq_true rfl, Nat.le_of_ble_eq_true rfl⟩ ⟨Nat.le_of_ble_eq_true rfl, Nat.le_of_ble_eq_true rfl⟩ rfl rfl (Nat.le_of_ble_eq_true rfl) (fun rv9 σ9 h9 => ?_)
    obtain ⟨h9a, h9b⟩ := h9
    refine g_eq (σ2 := uN σ 5 (nI (cdQ (pM H) 2 sv a b))) (lv2 := [(0, .ref ((xK X).2.2 27)), (1, .int a), (2, .int b)]) (st2 := [.int (bI (decide (0 < cdQ (pM H) 2 sv a b)))]) (by rw [h9b, cdQ_wr]) rfl (by rw [h9a, cdQ_wr]; rfl) ?_
    refine g_if_eq (tgt := 31) C dX7_draws_26 (by decide) (fun c_26 => ?_) (fun c_26 => ?_)
    · have hc0 : cdQ (pM H) 2 sv a b = 0 := Nat.eq_zero_of_not_pos (of_decide_eq_false ((bI_ne _).mp c_26))
      have tab := cdQ_0 hc0
      have ta := inT tab.1 (by omega)
      have tb := inT tab.2.1 (by decide)
      refine g_eq (σ2 := uN σ 5 (nI (cdQ (pM H) 2 sv a b))) (lv2 := [(0, .ref ((xK X).2.2 27)), (1, .int (nI (tn a))), (2, .int b)]) (st2 := []) rfl (congrArg (fun z9 => ([(0, .ref ((xK X).2.2 27)), (1, .int z9), (2, .int b)] : List (Nat × Value))) ta.1) rfl ?_
      refine g_eq (σ2 := uN σ 5 (nI (cdQ (pM H) 2 sv a b))) (lv2 := [(0, .ref ((xK X).2.2 27)), (1, .int (nI (tn a))), (2, .int (nI (tn b)))]) (st2 := []) rfl (congrArg (fun z9 => ([(0, .ref ((xK X).2.2 27)), (1, .int (nI (tn a))), (2, .int z9)] : List (Nat × Value))) tb.1) rfl ?_
      refine g_iload_n C dX7_draws_31 2 rfl rfl ?_
      refine g_if_ne (tgt := 44) C dX7_draws_32 (by decide) (fun c_32 => ?_) (fun c_32 => ?_)
      · have hb0 : ¬ tn b = 0 := fun h => c_32 (congrArg nI h)
        refine g_aload_n C dX7_draws_44 0 rfl rfl ?_
        refine g_iload_n C dX7_draws_45 1 rfl rfl ?_
        refine g_callV (As := [.int (nI (tn a))]) (rest := []) C dX7_draws_46 (kX7_drawOf (xl X) (xK X) C.hD (uN σ 5 (nI (cdQ (pM H) 2 sv a b))) hM hp hP hg (m := tn a) ta.2) wl27 rfl 1 gX7_draws_X7_drawOf rfl (by decide +kernel) ⟨Nat.le_of_ble_eq_true rfl, Nat.le_of_ble_eq_true rfl⟩ ⟨Nat.le_of_ble_eq_true rfl, Nat.le_of_ble_eq_true rfl⟩ rfl rfl (Nat.le_of_ble_eq_true rfl) (fun rv9 σ9 h9 => ?_)
        obtain ⟨h9a, h9b⟩ := h9
        refine g_eq (σ2 := uN σ 5 (nI (cdQ (pM H) 2 sv a b))) (lv2 := [(0, .ref ((xK X).2.2 27)), (1, .int (nI (tn a))), (2, .int (nI (tn b)))]) (st2 := [.double (drV H (sF σ 40) (sF σ 38) (tn a))]) h9b rfl (by rw [h9a]; rfl) ?_
        refine g_dret C dX7_draws_49 rfl ⟨Nat.le_of_ble_eq_true rfl, Nat.le_of_ble_eq_true rfl⟩ ?_
        rw [hF]
        exact ⟨fun h => absurd hc0 h, fun _ => ⟨by unfold dsM; (first | rw [if_pos hb0] | rw [if_neg hb0]); try rfl, by rw [hc0]; try rfl⟩⟩
      · have hb0 : tn b = 0 := (nI_eq (a := tn b) (b := 0) (by omega) (by decide)).mp (Decidable.byContradiction fun h => absurd c_32 h)
        refine g_aload_n C dX7_draws_35 0 rfl rfl ?_
        refine g_get C dX7_draws_36 wl27 rfl 14 (by decide) 1 rfl rfl rfl inX7_draws_X7 ?_
        refine g_iload_n C dX7_draws_39 1 rfl rfl ?_
        refine g_dald (j := (tn a)) C dX7_draws_40 wl38 rfl (by omega) (by decide) ?_
        refine g_goto (tgt := 49) C dX7_draws_41 (by decide) ?_
        refine g_dret C dX7_draws_49 rfl ⟨Nat.le_of_ble_eq_true rfl, Nat.le_of_ble_eq_true rfl⟩ ?_
        rw [hF]
        exact ⟨fun h => absurd hc0 h, fun _ => ⟨by unfold dsM; (first | rw [if_pos hb0] | rw [if_neg hb0]); try rfl, by rw [hc0]; try rfl⟩⟩
    · have hc1 : cdQ (pM H) 2 sv a b ≠ 0 := Nat.pos_iff_ne_zero.mp (of_decide_eq_true (bIt c_26))
      refine g_dconst0 C dX7_draws_29 ?_
      refine g_dret C dX7_draws_30 rfl ⟨Nat.le_of_ble_eq_true rfl, Nat.le_of_ble_eq_true rfl⟩ ?_
      rw [hF]
      exact ⟨fun _ => ⟨rfl, rfl⟩, fun h => absurd h hc1⟩
  · refine g_iload_n C dX7_draws_9 2 rfl rfl ?_
    refine g_iconst (v := nI 0) C dX7_draws_10 (by decide +kernel) ?_
    refine g_iconst (v := nI 1) C dX7_draws_11 (by decide +kernel) ?_
    refine g_callS (As := [.int b, .int (nI 0), .int (nI 1)]) (rest := [.ref ((xK X).2.2 27)]) C dX7_draws_12 (kX7_isIn (xl X) (xK X) C.hD σ b (nI 0) (nI 1)) 3 gX7_draws_X7_isIn rfl (by decide +kernel) ⟨Nat.le_of_ble_eq_true rfl, Nat.le_of_ble_eq_true rfl⟩ ⟨Nat.le_of_ble_eq_true rfl, Nat.le_of_ble_eq_true rfl⟩ rfl rfl (Nat.le_of_ble_eq_true rfl) (fun rv9 σ9 h9 => ?_)
    obtain ⟨h9a, h9b⟩ := h9
    refine g_eq (σ2 := σ) (lv2 := [(0, .ref ((xK X).2.2 27)), (1, .int a), (2, .int b)]) (st2 := [.int (bI (inB b (nI 0) (nI 1))), .ref ((xK X).2.2 27)]) h9b rfl (by rw [h9a]; rfl) ?_
    refine g_topi (y := bI (decide (inR b 2))) (congrArg bI (inB_C (n := 1) (by decide))) ?_
    refine g_if_eq (tgt := 22) C dX7_draws_15 (by decide) (fun c_15 => ?_) (fun c_15 => ?_)
    · refine g_iconst (v := nI 0) C dX7_draws_22 (by decide +kernel) ?_
      refine g_topi (y := bI (decide (inR a (pM H) ∧ inR b 2))) (by first | (rw [decide_eq_false (show ¬ (inR a (pM H) ∧ inR b 2) from fun h => absurd h.1 (of_decide_eq_false ((bI_ne _).mp c_6)))]; rfl) | (rw [decide_eq_false (show ¬ (inR a (pM H) ∧ inR b 2) from fun h => absurd h.2 (of_decide_eq_false ((bI_ne _).mp c_15)))]; rfl) | (rw [decide_eq_true (show inR a (pM H) ∧ inR b 2 from ⟨of_decide_eq_true (bIt c_6), of_decide_eq_true (bIt c_15)⟩)]; rfl)) ?_
      refine g_callV (As := [.int (bI (decide (inR a (pM H) ∧ inR b 2)))]) (rest := []) C dX7_draws_23 (kX7_isWrong (xl X) (xK X) C.hD σ (decide (inR a (pM H) ∧ inR b 2)) hsv) wl27 rfl 1 gX7_draws_X7_isWrong rfl (by decide +kernel) ⟨Nat.le_of_ble_eq_true rfl, Nat.le_of_ble_eq_true rfl⟩ ⟨Nat.le_of_ble_eq_true rfl, Nat.le_of_ble_eq_true rfl⟩ rfl rfl (Nat.le_of_ble_eq_true rfl) (fun rv9 σ9 h9 => ?_)
      obtain ⟨h9a, h9b⟩ := h9
      refine g_eq (σ2 := uN σ 5 (nI (cdQ (pM H) 2 sv a b))) (lv2 := [(0, .ref ((xK X).2.2 27)), (1, .int a), (2, .int b)]) (st2 := [.int (bI (decide (0 < cdQ (pM H) 2 sv a b)))]) (by rw [h9b, cdQ_wr]) rfl (by rw [h9a, cdQ_wr]; rfl) ?_
      refine g_if_eq (tgt := 31) C dX7_draws_26 (by decide) (fun c_26 => ?_) (fun c_26 => ?_)
      · have hc0 : cdQ (pM H) 2 sv a b = 0 := Nat.eq_zero_of_not_pos (of_decide_eq_false ((bI_ne _).mp c_26))
        have tab := cdQ_0 hc0
        have ta := inT tab.1 (by omega)
        have tb := inT tab.2.1 (by decide)
        refine g_eq (σ2 := uN σ 5 (nI (cdQ (pM H) 2 sv a b))) (lv2 := [(0, .ref ((xK X).2.2 27)), (1, .int (nI (tn a))), (2, .int b)]) (st2 := []) rfl (congrArg (fun z9 => ([(0, .ref ((xK X).2.2 27)), (1, .int z9), (2, .int b)] : List (Nat × Value))) ta.1) rfl ?_
        refine g_eq (σ2 := uN σ 5 (nI (cdQ (pM H) 2 sv a b))) (lv2 := [(0, .ref ((xK X).2.2 27)), (1, .int (nI (tn a))), (2, .int (nI (tn b)))]) (st2 := []) rfl (congrArg (fun z9 => ([(0, .ref ((xK X).2.2 27)), (1, .int (nI (tn a))), (2, .int z9)] : List (Nat × Value))) tb.1) rfl ?_
        refine g_iload_n C dX7_draws_31 2 rfl rfl ?_
        refine g_if_ne (tgt := 44) C dX7_draws_32 (by decide) (fun c_32 => ?_) (fun c_32 => ?_)
        · have hb0 : ¬ tn b = 0 := fun h => c_32 (congrArg nI h)
          refine g_aload_n C dX7_draws_44 0 rfl rfl ?_
          refine g_iload_n C dX7_draws_45 1 rfl rfl ?_
          refine g_callV (As := [.int (nI (tn a))]) (rest := []) C dX7_draws_46 (kX7_drawOf (xl X) (xK X) C.hD (uN σ 5 (nI (cdQ (pM H) 2 sv a b))) hM hp hP hg (m := tn a) ta.2) wl27 rfl 1 gX7_draws_X7_drawOf rfl (by decide +kernel) ⟨Nat.le_of_ble_eq_true rfl, Nat.le_of_ble_eq_true rfl⟩ ⟨Nat.le_of_ble_eq_true rfl, Nat.le_of_ble_eq_true rfl⟩ rfl rfl (Nat.le_of_ble_eq_true rfl) (fun rv9 σ9 h9 => ?_)
          obtain ⟨h9a, h9b⟩ := h9
          refine g_eq (σ2 := uN σ 5 (nI (cdQ (pM H) 2 sv a b))) (lv2 := [(0, .ref ((xK X).2.2 27)), (1, .int (nI (tn a))), (2, .int (nI (tn b)))]) (st2 := [.double (drV H (sF σ 40) (sF σ 38) (tn a))]) h9b rfl (by rw [h9a]; rfl) ?_
          refine g_dret C dX7_draws_49 rfl ⟨Nat.le_of_ble_eq_true rfl, Nat.le_of_ble_eq_true rfl⟩ ?_
          rw [hF]
          exact ⟨fun h => absurd hc0 h, fun _ => ⟨by unfold dsM; (first | rw [if_pos hb0] | rw [if_neg hb0]); try rfl, by rw [hc0]; try rfl⟩⟩
        · have hb0 : tn b = 0 := (nI_eq (a := tn b) (b := 0) (by omega) (by decide)).mp (Decidable.byContradiction fun h => absurd c_32 h)
          refine g_aload_n C dX7_draws_35 0 rfl rfl ?_
          refine g_get C dX7_draws_36 wl27 rfl 14 (by decide) 1 rfl rfl rfl inX7_draws_X7 ?_
          refine g_iload_n C dX7_draws_39 1 rfl rfl ?_
          refine g_dald (j := (tn a)) C dX7_draws_40 wl38 rfl (by omega) (by decide) ?_
          refine g_goto (tgt := 49) C dX7_draws_41 (by decide) ?_
          refine g_dret C dX7_draws_49 rfl ⟨Nat.le_of_ble_eq_true rfl, Nat.le_of_ble_eq_true rfl⟩ ?_
          rw [hF]
          exact ⟨fun h => absurd hc0 h, fun _ => ⟨by unfold dsM; (first | rw [if_pos hb0] | rw [if_neg hb0]); try rfl, by rw [hc0]; try rfl⟩⟩
      · have hc1 : cdQ (pM H) 2 sv a b ≠ 0 := Nat.pos_iff_ne_zero.mp (of_decide_eq_true (bIt c_26))
        refine g_dconst0 C dX7_draws_29 ?_
        refine g_dret C dX7_draws_30 rfl ⟨Nat.le_of_ble_eq_true rfl, Nat.le_of_ble_eq_true rfl⟩ ?_
        rw [hF]
        exact ⟨fun _ => ⟨rfl, rfl⟩, fun h => absurd h hc1⟩
    · refine g_iconst (v := nI 1) C dX7_draws_18 (by decide +kernel) ?_
      refine g_goto (tgt := 23) C dX7_draws_19 (by decide) ?_
      refine g_topi (y := bI (decide (inR a (pM H) ∧ inR b 2))) (by first | (rw [decide_eq_false (show ¬ (inR a (pM H) ∧ inR b 2) from fun h => absurd h.1 (of_decide_eq_false ((bI_ne _).mp c_6)))]; rfl) | (rw [decide_eq_false (show ¬ (inR a (pM H) ∧ inR b 2) from fun h => absurd h.2 (of_decide_eq_false ((bI_ne _).mp c_15)))]; rfl) | (rw [decide_eq_true (show inR a (pM H) ∧ inR b 2 from ⟨of_decide_eq_true (bIt c_6), of_decide_eq_true (bIt c_15)⟩)]; rfl)) ?_
      refine g_callV (As := [.int (bI (decide (inR a (pM H) ∧ inR b 2)))]) (rest := []) C dX7_draws_23 (kX7_isWrong (xl X) (xK X) C.hD σ (decide (inR a (pM H) ∧ inR b 2)) hsv) wl27 rfl 1 gX7_draws_X7_isWrong rfl (by decide +kernel) ⟨Nat.le_of_ble_eq_true rfl, Nat.le_of_ble_eq_true rfl⟩ ⟨Nat.le_of_ble_eq_true rfl, Nat.le_of_ble_eq_true rfl⟩ rfl rfl (Nat.le_of_ble_eq_true rfl) (fun rv9 σ9 h9 => ?_)
      obtain ⟨h9a, h9b⟩ := h9
      refine g_eq (σ2 := uN σ 5 (nI (cdQ (pM H) 2 sv a b))) (lv2 := [(0, .ref ((xK X).2.2 27)), (1, .int a), (2, .int b)]) (st2 := [.int (bI (decide (0 < cdQ (pM H) 2 sv a b)))]) (by rw [h9b, cdQ_wr]) rfl (by rw [h9a, cdQ_wr]; rfl) ?_
      refine g_if_eq (tgt := 31) C dX7_draws_26 (by decide) (fun c_26 => ?_) (fun c_26 => ?_)
      · have hc0 : cdQ (pM H) 2 sv a b = 0 := Nat.eq_zero_of_not_pos (of_decide_eq_false ((bI_ne _).mp c_26))
        have tab := cdQ_0 hc0
        have ta := inT tab.1 (by omega)
        have tb := inT tab.2.1 (by decide)
        refine g_eq (σ2 := uN σ 5 (nI (cdQ (pM H) 2 sv a b))) (lv2 := [(0, .ref ((xK X).2.2 27)), (1, .int (nI (tn a))), (2, .int b)]) (st2 := []) rfl (congrArg (fun z9 => ([(0, .ref ((xK X).2.2 27)), (1, .int z9), (2, .int b)] : List (Nat × Value))) ta.1) rfl ?_
        refine g_eq (σ2 := uN σ 5 (nI (cdQ (pM H) 2 sv a b))) (lv2 := [(0, .ref ((xK X).2.2 27)), (1, .int (nI (tn a))), (2, .int (nI (tn b)))]) (st2 := []) rfl (congrArg (fun z9 => ([(0, .ref ((xK X).2.2 27)), (1, .int (nI (tn a))), (2, .int z9)] : List (Nat × Value))) tb.1) rfl ?_
        refine g_iload_n C dX7_draws_31 2 rfl rfl ?_
        refine g_if_ne (tgt := 44) C dX7_draws_32 (by decide) (fun c_32 => ?_) (fun c_32 => ?_)
        · have hb0 : ¬ tn b = 0 := fun h => c_32 (congrArg nI h)
          refine g_aload_n C dX7_draws_44 0 rfl rfl ?_
          refine g_iload_n C dX7_draws_45 1 rfl rfl ?_
          refine g_callV (As := [.int (nI (tn a))]) (rest := []) C dX7_draws_46 (kX7_drawOf (xl X) (xK X) C.hD (uN σ 5 (nI (cdQ (pM H) 2 sv a b))) hM hp hP hg (m := tn a) ta.2) wl27 rfl 1 gX7_draws_X7_drawOf rfl (by decide +kernel) ⟨Nat.le_of_ble_eq_true rfl, Nat.le_of_ble_eq_true rfl⟩ ⟨Nat.le_of_ble_eq_true rfl, Nat.le_of_ble_eq_true rfl⟩ rfl rfl (Nat.le_of_ble_eq_true rfl) (fun rv9 σ9 h9 => ?_)
          obtain ⟨h9a, h9b⟩ := h9
          refine g_eq (σ2 := uN σ 5 (nI (cdQ (pM H) 2 sv a b))) (lv2 := [(0, .ref ((xK X).2.2 27)), (1, .int (nI (tn a))), (2, .int (nI (tn b)))]) (st2 := [.double (drV H (sF σ 40) (sF σ 38) (tn a))]) h9b rfl (by rw [h9a]; rfl) ?_
          refine g_dret C dX7_draws_49 rfl ⟨Nat.le_of_ble_eq_true rfl, Nat.le_of_ble_eq_true rfl⟩ ?_
          rw [hF]
          exact ⟨fun h => absurd hc0 h, fun _ => ⟨by unfold dsM; (first | rw [if_pos hb0] | rw [if_neg hb0]); try rfl, by rw [hc0]; try rfl⟩⟩
        · have hb0 : tn b = 0 := (nI_eq (a := tn b) (b := 0) (by omega) (by decide)).mp (Decidable.byContradiction fun h => absurd c_32 h)
          refine g_aload_n C dX7_draws_35 0 rfl rfl ?_
          refine g_get C dX7_draws_36 wl27 rfl 14 (by decide) 1 rfl rfl rfl inX7_draws_X7 ?_
          refine g_iload_n C dX7_draws_39 1 rfl rfl ?_
          refine g_dald (j := (tn a)) C dX7_draws_40 wl38 rfl (by omega) (by decide) ?_
          refine g_goto (tgt := 49) C dX7_draws_41 (by decide) ?_
          refine g_dret C dX7_draws_49 rfl ⟨Nat.le_of_ble_eq_true rfl, Nat.le_of_ble_eq_true rfl⟩ ?_
          rw [hF]
          exact ⟨fun h => absurd hc0 h, fun _ => ⟨by unfold dsM; (first | rw [if_pos hb0] | rw [if_neg hb0]); try rfl, by rw [hc0]; try rfl⟩⟩
      · have hc1 : cdQ (pM H) 2 sv a b ≠ 0 := Nat.pos_iff_ne_zero.mp (of_decide_eq_true (bIt c_26))
        refine g_dconst0 C dX7_draws_29 ?_
        refine g_dret C dX7_draws_30 rfl ⟨Nat.le_of_ble_eq_true rfl, Nat.le_of_ble_eq_true rfl⟩ ?_
        rw [hF]
        exact ⟨fun _ => ⟨rfl, rfl⟩, fun h => absurd h hc1⟩

theorem inX7_of_X7 : ∀ w ∈ u_ws RX7 TX7 24, w ∈ wsX7_of := by decide +kernel
set_option maxHeartbeats 4000000 in
set_option maxRecDepth 100000 in
theorem kX7_of (l : Launch) (K : gK) (hD : gD K) (σ : gS) {H : Ph} {nj n : Nat} {sv : Bool} (hI : Mi H nj n sv σ) (a b : Int32) : Ct l yX7_of wsX7_of { frames := 3, cells := 0, slots := 0, locals := 63 } K [.ref (K.2.2 27), .int a, .int b] σ (Mr σ (cdQ (pD H) 4 sv a b) (some (.double FP.dconst0)) (fun r t => r = some (.double (ofM H σ (tn a) (tn b))) ∧ t = uN σ 5 (nI 0))) := by
  refine Ct.of hD (by decide) rfl (Nat.le_of_ble_eq_true rfl) ?_
  intro X hL hK hF C
  subst hL; subst hK
  refine g_eq (σ2 := σ) (lv2 := [(0, .ref ((xK X).2.2 27)), (1, .int a), (2, .int b)]) (st2 := []) rfl rfl rfl ?_
  obtain ⟨hM, hp, hP, hg, hq, hsv, ⟨hn, hn6, hsw⟩, hr, hl⟩ := hI
  have h16 := hM.nd16
  have h8 := hM.nm8
  have hjj := hM.j
  have hcb := cdQ_le (pD H) 4 sv a b
  refine g_aload_n C dX7_of_0 0 rfl rfl ?_
  refine g_iload_n C dX7_of_1 1 rfl rfl ?_
  refine g_iconst (v := nI 0) C dX7_of_2 (by decide +kernel) ?_
  refine g_aload_n C dX7_of_3 0 rfl rfl ?_
  refine g_get C dX7_of_4 wl27 rfl 2 (by decide) 1 rfl rfl rfl inX7_of_X7 ?_
  refine g_topi (y := nI (pD H)) hM.nd ?_
  refine g_iconst (v := nI 1) C dX7_of_7 (by decide +kernel) ?_
  refine g_isub C dX7_of_8 ?_
  refine g_callS (As := [.int a, .int (nI 0), .int ((nI (pD H)) - (nI 1))]) (rest := [.ref ((xK X).2.2 27)]) C dX7_of_9 (kX7_isIn (xl X) (xK X) C.hD σ a (nI 0) ((nI (pD H)) - (nI 1))) 3 gX7_of_X7_isIn rfl (by decide +kernel) ⟨Nat.le_of_ble_eq_true rfl, Nat.le_of_ble_eq_true rfl⟩ ⟨Nat.le_of_ble_eq_true rfl, Nat.le_of_ble_eq_true rfl⟩ rfl rfl (Nat.le_of_ble_eq_true rfl) (fun rv9 σ9 h9 => ?_)
  obtain ⟨h9a, h9b⟩ := h9
  refine g_eq (σ2 := σ) (lv2 := [(0, .ref ((xK X).2.2 27)), (1, .int a), (2, .int b)]) (st2 := [.int (bI (inB a (nI 0) ((nI (pD H)) - (nI 1)))), .ref ((xK X).2.2 27)]) h9b rfl (by rw [h9a]; rfl) ?_
  refine g_topi (y := bI (decide (inR a (pD H)))) (congrArg bI (inB_R (by omega))) ?_
  refine g_if_eq (tgt := 28) C dX7_of_12 (by decide) (fun c_12 => ?_) (fun c_12 => ?_)
  · refine g_iconst (v := nI 0) C dX7_of_28 (by decide +kernel) ?_
    refine g_topi (y := bI (decide (inR a (pD H) ∧ inR b 4))) (by first | (rw [decide_eq_false (show ¬ (inR a (pD H) ∧ inR b 4) from fun h => absurd h.1 (of_decide_eq_false ((bI_ne _).mp c_12)))]; rfl) | (rw [decide_eq_false (show ¬ (inR a (pD H) ∧ inR b 4) from fun h => absurd h.2 (of_decide_eq_false ((bI_ne _).mp c_21)))]; rfl) | (rw [decide_eq_true (show inR a (pD H) ∧ inR b 4 from ⟨of_decide_eq_true (bIt c_12), of_decide_eq_true (bIt c_21)⟩)]; rfl)) ?_
    refine g_callV (As := [.int (bI (decide (inR a (pD H) ∧ inR b 4)))]) (rest := []) C dX7_of_29 (kX7_isWrong (xl X) (xK X) C.hD σ (decide (inR a (pD H) ∧ inR b 4)) hsv) wl27 rfl 1 gX7_of_X7_isWrong rfl (by decide +kernel) ⟨Nat.le_of_ble_eq_true rfl, Nat.le_of_ble_eq_true rfl⟩ ⟨Nat.le_of_ble_eq_true rfl, Nat.le_of_ble_eq_true rfl⟩ rfl rfl (Nat.le_of_ble_eq_true rfl) (fun rv9 σ9 h9 => ?_)
    obtain ⟨h9a, h9b⟩ := h9
    refine g_eq (σ2 := uN σ 5 (nI (cdQ (pD H) 4 sv a b))) (lv2 := [(0, .ref ((xK X).2.2 27)), (1, .int a), (2, .int b)]) (st2 := [.int (bI (decide (0 < cdQ (pD H) 4 sv a b)))]) (by rw [h9b, cdQ_wr]) rfl (by rw [h9a, cdQ_wr]; rfl) ?_
    refine g_if_eq (tgt := 37) C dX7_of_32 (by decide) (fun c_32 => ?_) (fun c_32 => ?_)
    · have hc0 : cdQ (pD H) 4 sv a b = 0 := Nat.eq_zero_of_not_pos (of_decide_eq_false ((bI_ne _).mp c_32))
      have tab := cdQ_0 hc0
      have ta := inT tab.1 (by omega)
      have tb := inT tab.2.1 (by decide)
      refine g_eq (σ2 := uN σ 5 (nI (cdQ (pD H) 4 sv a b))) (lv2 := [(0, .ref ((xK X).2.2 27)), (1, .int (nI (tn a))), (2, .int b)]) (st2 := []) rfl (congrArg (fun z9 => ([(0, .ref ((xK X).2.2 27)), (1, .int z9), (2, .int b)] : List (Nat × Value))) ta.1) rfl ?_
      refine g_eq (σ2 := uN σ 5 (nI (cdQ (pD H) 4 sv a b))) (lv2 := [(0, .ref ((xK X).2.2 27)), (1, .int (nI (tn a))), (2, .int (nI (tn b)))]) (st2 := []) rfl (congrArg (fun z9 => ([(0, .ref ((xK X).2.2 27)), (1, .int (nI (tn a))), (2, .int z9)] : List (Nat × Value))) tb.1) rfl ?_
      refine g_iload_n C dX7_of_37 2 rfl rfl ?_
      refine g_if_ne (tgt := 49) C dX7_of_38 (by decide) (fun c_38 => ?_) (fun c_38 => ?_)
      · have hb0 : ¬ tn b = 0 := fun h => c_38 (congrArg nI h)
        refine g_iload_n C dX7_of_49 2 rfl rfl ?_
        refine g_iconst (v := nI 1) C dX7_of_50 (by decide +kernel) ?_
        refine g_icmp_ne (tgt := 62) C dX7_of_51 (by decide) (fun c_51 => ?_) (fun c_51 => ?_)
        · have hb1 : ¬ tn b = 1 := fun h => c_51 (congrArg nI h)
          refine g_iload_n C dX7_of_62 2 rfl rfl ?_
          refine g_iconst (v := nI 2) C dX7_of_63 (by decide +kernel) ?_
          refine g_icmp_ne (tgt := 75) C dX7_of_64 (by decide) (fun c_64 => ?_) (fun c_64 => ?_)
          · have hb2 : ¬ tn b = 2 := fun h => c_64 (congrArg nI h)
            refine g_aload_n C dX7_of_75 0 rfl rfl ?_
            refine g_get C dX7_of_76 wl27 rfl 7 (by decide) 2 rfl rfl rfl inX7_of_X7 ?_
            refine g_iload_n C dX7_of_79 1 rfl rfl ?_
            refine g_dald (j := (tn a)) C dX7_of_80 wl32 rfl (by omega) (by decide) ?_
            refine g_dret C dX7_of_81 rfl ⟨Nat.le_of_ble_eq_true rfl, Nat.le_of_ble_eq_true rfl⟩ ?_
            rw [hF]
            exact ⟨fun h => absurd hc0 h, fun _ => ⟨by unfold ofM; (first | rw [if_pos hb0] | rw [if_neg hb0, if_pos hb1] | rw [if_neg hb0, if_neg hb1, if_pos hb2] | rw [if_neg hb0, if_neg hb1, if_neg hb2]); try rfl, by rw [hc0]; try rfl⟩⟩
          · have hb2 : tn b = 2 := (nI_eq (a := tn b) (b := 2) (by omega) (by decide)).mp (Decidable.byContradiction fun h => absurd c_64 h)
            refine g_aload_n C dX7_of_67 0 rfl rfl ?_
            refine g_iload_n C dX7_of_68 1 rfl rfl ?_
            refine g_callV (As := [.int (nI (tn a))]) (rest := []) C dX7_of_69 (kX7_ease (xl X) (xK X) C.hD (uN σ 5 (nI (cdQ (pD H) 4 sv a b))) hM hp (d := tn a) ta.2) wl27 rfl 1 gX7_of_X7_ease rfl (by decide +kernel) ⟨Nat.le_of_ble_eq_true rfl, Nat.le_of_ble_eq_true rfl⟩ ⟨Nat.le_of_ble_eq_true rfl, Nat.le_of_ble_eq_true rfl⟩ rfl rfl (Nat.le_of_ble_eq_true rfl) (fun rv9 σ9 h9 => ?_)
            obtain ⟨h9a, h9b⟩ := h9
            refine g_eq (σ2 := uN σ 5 (nI (cdQ (pD H) 4 sv a b))) (lv2 := [(0, .ref ((xK X).2.2 27)), (1, .int (nI (tn a))), (2, .int (nI (tn b)))]) (st2 := [.double (pE H (tn a))]) h9b rfl (by rw [h9a]; rfl) ?_
            refine g_goto (tgt := 81) C dX7_of_72 (by decide) ?_
            refine g_dret C dX7_of_81 rfl ⟨Nat.le_of_ble_eq_true rfl, Nat.le_of_ble_eq_true rfl⟩ ?_
            rw [hF]
            exact ⟨fun h => absurd hc0 h, fun _ => ⟨by unfold ofM; (first | rw [if_pos hb0] | rw [if_neg hb0, if_pos hb1] | rw [if_neg hb0, if_neg hb1, if_pos hb2] | rw [if_neg hb0, if_neg hb1, if_neg hb2]); try rfl, by rw [hc0]; try rfl⟩⟩
        · have hb1 : tn b = 1 := (nI_eq (a := tn b) (b := 1) (by omega) (by decide)).mp (Decidable.byContradiction fun h => absurd c_51 h)
          refine g_aload_n C dX7_of_54 0 rfl rfl ?_
          refine g_iload_n C dX7_of_55 1 rfl rfl ?_
          refine g_callV (As := [.int (nI (tn a))]) (rest := []) C dX7_of_56 (kX7_speedOf (xl X) (xK X) C.hD (uN σ 5 (nI (cdQ (pD H) 4 sv a b))) hM hp hP (d := tn a) ta.2) wl27 rfl 1 gX7_of_X7_speedOf rfl (by decide +kernel) ⟨Nat.le_of_ble_eq_true rfl, Nat.le_of_ble_eq_true rfl⟩ ⟨Nat.le_of_ble_eq_true rfl, Nat.le_of_ble_eq_true rfl⟩ rfl rfl (Nat.le_of_ble_eq_true rfl) (fun rv9 σ9 h9 => ?_)
          obtain ⟨h9a, h9b⟩ := h9
          refine g_eq (σ2 := uN σ 5 (nI (cdQ (pD H) 4 sv a b))) (lv2 := [(0, .ref ((xK X).2.2 27)), (1, .int (nI (tn a))), (2, .int (nI (tn b)))]) (st2 := [.double (spd H (sF σ 40) (sF σ 31) (tn a))]) h9b rfl (by rw [h9a]; rfl) ?_
          refine g_goto (tgt := 81) C dX7_of_59 (by decide) ?_
          refine g_dret C dX7_of_81 rfl ⟨Nat.le_of_ble_eq_true rfl, Nat.le_of_ble_eq_true rfl⟩ ?_
          rw [hF]
          exact ⟨fun h => absurd hc0 h, fun _ => ⟨by unfold ofM; (first | rw [if_pos hb0] | rw [if_neg hb0, if_pos hb1] | rw [if_neg hb0, if_neg hb1, if_pos hb2] | rw [if_neg hb0, if_neg hb1, if_neg hb2]); try rfl, by rw [hc0]; try rfl⟩⟩
      · have hb0 : tn b = 0 := (nI_eq (a := tn b) (b := 0) (by omega) (by decide)).mp (Decidable.byContradiction fun h => absurd c_38 h)
        refine g_aload_n C dX7_of_41 0 rfl rfl ?_
        refine g_iload_n C dX7_of_42 1 rfl rfl ?_
        refine g_callV (As := [.int (nI (tn a))]) (rest := []) C dX7_of_43 (kX7_flowOf (xl X) (xK X) C.hD (uN σ 5 (nI (cdQ (pD H) 4 sv a b))) hM hp hP (d := tn a) ta.2) wl27 rfl 1 gX7_of_X7_flowOf rfl (by decide +kernel) ⟨Nat.le_of_ble_eq_true rfl, Nat.le_of_ble_eq_true rfl⟩ ⟨Nat.le_of_ble_eq_true rfl, Nat.le_of_ble_eq_true rfl⟩ rfl rfl (Nat.le_of_ble_eq_true rfl) (fun rv9 σ9 h9 => ?_)
        obtain ⟨h9a, h9b⟩ := h9
        refine g_eq (σ2 := uN σ 5 (nI (cdQ (pD H) 4 sv a b))) (lv2 := [(0, .ref ((xK X).2.2 27)), (1, .int (nI (tn a))), (2, .int (nI (tn b)))]) (st2 := [.double (flw H (sF σ 40) (tn a))]) h9b rfl (by rw [h9a]; rfl) ?_
        refine g_goto (tgt := 81) C dX7_of_46 (by decide) ?_
        refine g_dret C dX7_of_81 rfl ⟨Nat.le_of_ble_eq_true rfl, Nat.le_of_ble_eq_true rfl⟩ ?_
        rw [hF]
        exact ⟨fun h => absurd hc0 h, fun _ => ⟨by unfold ofM; (first | rw [if_pos hb0] | rw [if_neg hb0, if_pos hb1] | rw [if_neg hb0, if_neg hb1, if_pos hb2] | rw [if_neg hb0, if_neg hb1, if_neg hb2]); try rfl, by rw [hc0]; try rfl⟩⟩
    · have hc1 : cdQ (pD H) 4 sv a b ≠ 0 := Nat.pos_iff_ne_zero.mp (of_decide_eq_true (bIt c_32))
      refine g_dconst0 C dX7_of_35 ?_
      refine g_dret C dX7_of_36 rfl ⟨Nat.le_of_ble_eq_true rfl, Nat.le_of_ble_eq_true rfl⟩ ?_
      rw [hF]
      exact ⟨fun _ => ⟨rfl, rfl⟩, fun h => absurd h hc1⟩
  · refine g_iload_n C dX7_of_15 2 rfl rfl ?_
    refine g_iconst (v := nI 0) C dX7_of_16 (by decide +kernel) ?_
    refine g_iconst (v := nI 3) C dX7_of_17 (by decide +kernel) ?_
    refine g_callS (As := [.int b, .int (nI 0), .int (nI 3)]) (rest := [.ref ((xK X).2.2 27)]) C dX7_of_18 (kX7_isIn (xl X) (xK X) C.hD σ b (nI 0) (nI 3)) 3 gX7_of_X7_isIn rfl (by decide +kernel) ⟨Nat.le_of_ble_eq_true rfl, Nat.le_of_ble_eq_true rfl⟩ ⟨Nat.le_of_ble_eq_true rfl, Nat.le_of_ble_eq_true rfl⟩ rfl rfl (Nat.le_of_ble_eq_true rfl) (fun rv9 σ9 h9 => ?_)
    obtain ⟨h9a, h9b⟩ := h9
    refine g_eq (σ2 := σ) (lv2 := [(0, .ref ((xK X).2.2 27)), (1, .int a), (2, .int b)]) (st2 := [.int (bI (inB b (nI 0) (nI 3))), .ref ((xK X).2.2 27)]) h9b rfl (by rw [h9a]; rfl) ?_
    refine g_topi (y := bI (decide (inR b 4))) (congrArg bI (inB_C (n := 3) (by decide))) ?_
    refine g_if_eq (tgt := 28) C dX7_of_21 (by decide) (fun c_21 => ?_) (fun c_21 => ?_)
    · refine g_iconst (v := nI 0) C dX7_of_28 (by decide +kernel) ?_
      refine g_topi (y := bI (decide (inR a (pD H) ∧ inR b 4))) (by first | (rw [decide_eq_false (show ¬ (inR a (pD H) ∧ inR b 4) from fun h => absurd h.1 (of_decide_eq_false ((bI_ne _).mp c_12)))]; rfl) | (rw [decide_eq_false (show ¬ (inR a (pD H) ∧ inR b 4) from fun h => absurd h.2 (of_decide_eq_false ((bI_ne _).mp c_21)))]; rfl) | (rw [decide_eq_true (show inR a (pD H) ∧ inR b 4 from ⟨of_decide_eq_true (bIt c_12), of_decide_eq_true (bIt c_21)⟩)]; rfl)) ?_
      refine g_callV (As := [.int (bI (decide (inR a (pD H) ∧ inR b 4)))]) (rest := []) C dX7_of_29 (kX7_isWrong (xl X) (xK X) C.hD σ (decide (inR a (pD H) ∧ inR b 4)) hsv) wl27 rfl 1 gX7_of_X7_isWrong rfl (by decide +kernel) ⟨Nat.le_of_ble_eq_true rfl, Nat.le_of_ble_eq_true rfl⟩ ⟨Nat.le_of_ble_eq_true rfl, Nat.le_of_ble_eq_true rfl⟩ rfl rfl (Nat.le_of_ble_eq_true rfl) (fun rv9 σ9 h9 => ?_)
      obtain ⟨h9a, h9b⟩ := h9
      refine g_eq (σ2 := uN σ 5 (nI (cdQ (pD H) 4 sv a b))) (lv2 := [(0, .ref ((xK X).2.2 27)), (1, .int a), (2, .int b)]) (st2 := [.int (bI (decide (0 < cdQ (pD H) 4 sv a b)))]) (by rw [h9b, cdQ_wr]) rfl (by rw [h9a, cdQ_wr]; rfl) ?_
      refine g_if_eq (tgt := 37) C dX7_of_32 (by decide) (fun c_32 => ?_) (fun c_32 => ?_)
      · have hc0 : cdQ (pD H) 4 sv a b = 0 := Nat.eq_zero_of_not_pos (of_decide_eq_false ((bI_ne _).mp c_32))
        have tab := cdQ_0 hc0
        have ta := inT tab.1 (by omega)
        have tb := inT tab.2.1 (by decide)
        refine g_eq (σ2 := uN σ 5 (nI (cdQ (pD H) 4 sv a b))) (lv2 := [(0, .ref ((xK X).2.2 27)), (1, .int (nI (tn a))), (2, .int b)]) (st2 := []) rfl (congrArg (fun z9 => ([(0, .ref ((xK X).2.2 27)), (1, .int z9), (2, .int b)] : List (Nat × Value))) ta.1) rfl ?_
        refine g_eq (σ2 := uN σ 5 (nI (cdQ (pD H) 4 sv a b))) (lv2 := [(0, .ref ((xK X).2.2 27)), (1, .int (nI (tn a))), (2, .int (nI (tn b)))]) (st2 := []) rfl (congrArg (fun z9 => ([(0, .ref ((xK X).2.2 27)), (1, .int (nI (tn a))), (2, .int z9)] : List (Nat × Value))) tb.1) rfl ?_
        refine g_iload_n C dX7_of_37 2 rfl rfl ?_
        refine g_if_ne (tgt := 49) C dX7_of_38 (by decide) (fun c_38 => ?_) (fun c_38 => ?_)
        · have hb0 : ¬ tn b = 0 := fun h => c_38 (congrArg nI h)
          refine g_iload_n C dX7_of_49 2 rfl rfl ?_
          refine g_iconst (v := nI 1) C dX7_of_50 (by decide +kernel) ?_
          refine g_icmp_ne (tgt := 62) C dX7_of_51 (by decide) (fun c_51 => ?_) (fun c_51 => ?_)
          · have hb1 : ¬ tn b = 1 := fun h => c_51 (congrArg nI h)
            refine g_iload_n C dX7_of_62 2 rfl rfl ?_
            refine g_iconst (v := nI 2) C dX7_of_63 (by decide +kernel) ?_
            refine g_icmp_ne (tgt := 75) C dX7_of_64 (by decide) (fun c_64 => ?_) (fun c_64 => ?_)
            · have hb2 : ¬ tn b = 2 := fun h => c_64 (congrArg nI h)
              refine g_aload_n C dX7_of_75 0 rfl rfl ?_
              refine g_get C dX7_of_76 wl27 rfl 7 (by decide) 2 rfl rfl rfl inX7_of_X7 ?_
              refine g_iload_n C dX7_of_79 1 rfl rfl ?_
              refine g_dald (j := (tn a)) C dX7_of_80 wl32 rfl (by omega) (by decide) ?_
              refine g_dret C dX7_of_81 rfl ⟨Nat.le_of_ble_eq_true rfl, Nat.le_of_ble_eq_true rfl⟩ ?_
              rw [hF]
              exact ⟨fun h => absurd hc0 h, fun _ => ⟨by unfold ofM; (first | rw [if_pos hb0] | rw [if_neg hb0, if_pos hb1] | rw [if_neg hb0, if_neg hb1, if_pos hb2] | rw [if_neg hb0, if_neg hb1, if_neg hb2]); try rfl, by rw [hc0]; try rfl⟩⟩
            · have hb2 : tn b = 2 := (nI_eq (a := tn b) (b := 2) (by omega) (by decide)).mp (Decidable.byContradiction fun h => absurd c_64 h)
              refine g_aload_n C dX7_of_67 0 rfl rfl ?_
              refine g_iload_n C dX7_of_68 1 rfl rfl ?_
              refine g_callV (As := [.int (nI (tn a))]) (rest := []) C dX7_of_69 (kX7_ease (xl X) (xK X) C.hD (uN σ 5 (nI (cdQ (pD H) 4 sv a b))) hM hp (d := tn a) ta.2) wl27 rfl 1 gX7_of_X7_ease rfl (by decide +kernel) ⟨Nat.le_of_ble_eq_true rfl, Nat.le_of_ble_eq_true rfl⟩ ⟨Nat.le_of_ble_eq_true rfl, Nat.le_of_ble_eq_true rfl⟩ rfl rfl (Nat.le_of_ble_eq_true rfl) (fun rv9 σ9 h9 => ?_)
              obtain ⟨h9a, h9b⟩ := h9
              refine g_eq (σ2 := uN σ 5 (nI (cdQ (pD H) 4 sv a b))) (lv2 := [(0, .ref ((xK X).2.2 27)), (1, .int (nI (tn a))), (2, .int (nI (tn b)))]) (st2 := [.double (pE H (tn a))]) h9b rfl (by rw [h9a]; rfl) ?_
              refine g_goto (tgt := 81) C dX7_of_72 (by decide) ?_
              refine g_dret C dX7_of_81 rfl ⟨Nat.le_of_ble_eq_true rfl, Nat.le_of_ble_eq_true rfl⟩ ?_
              rw [hF]
              exact ⟨fun h => absurd hc0 h, fun _ => ⟨by unfold ofM; (first | rw [if_pos hb0] | rw [if_neg hb0, if_pos hb1] | rw [if_neg hb0, if_neg hb1, if_pos hb2] | rw [if_neg hb0, if_neg hb1, if_neg hb2]); try rfl, by rw [hc0]; try rfl⟩⟩
          · have hb1 : tn b = 1 := (nI_eq (a := tn b) (b := 1) (by omega) (by decide)).mp (Decidable.byContradiction fun h => absurd c_51 h)
            refine g_aload_n C dX7_of_54 0 rfl rfl ?_
            refine g_iload_n C dX7_of_55 1 rfl rfl ?_
            refine g_callV (As := [.int (nI (tn a))]) (rest := []) C dX7_of_56 (kX7_speedOf (xl X) (xK X) C.hD (uN σ 5 (nI (cdQ (pD H) 4 sv a b))) hM hp hP (d := tn a) ta.2) wl27 rfl 1 gX7_of_X7_speedOf rfl (by decide +kernel) ⟨Nat.le_of_ble_eq_true rfl, Nat.le_of_ble_eq_true rfl⟩ ⟨Nat.le_of_ble_eq_true rfl, Nat.le_of_ble_eq_true rfl⟩ rfl rfl (Nat.le_of_ble_eq_true rfl) (fun rv9 σ9 h9 => ?_)
            obtain ⟨h9a, h9b⟩ := h9
            refine g_eq (σ2 := uN σ 5 (nI (cdQ (pD H) 4 sv a b))) (lv2 := [(0, .ref ((xK X).2.2 27)), (1, .int (nI (tn a))), (2, .int (nI (tn b)))]) (st2 := [.double (spd H (sF σ 40) (sF σ 31) (tn a))]) h9b rfl (by rw [h9a]; rfl) ?_
            refine g_goto (tgt := 81) C dX7_of_59 (by decide) ?_
            refine g_dret C dX7_of_81 rfl ⟨Nat.le_of_ble_eq_true rfl, Nat.le_of_ble_eq_true rfl⟩ ?_
            rw [hF]
            exact ⟨fun h => absurd hc0 h, fun _ => ⟨by unfold ofM; (first | rw [if_pos hb0] | rw [if_neg hb0, if_pos hb1] | rw [if_neg hb0, if_neg hb1, if_pos hb2] | rw [if_neg hb0, if_neg hb1, if_neg hb2]); try rfl, by rw [hc0]; try rfl⟩⟩
        · have hb0 : tn b = 0 := (nI_eq (a := tn b) (b := 0) (by omega) (by decide)).mp (Decidable.byContradiction fun h => absurd c_38 h)
          refine g_aload_n C dX7_of_41 0 rfl rfl ?_
          refine g_iload_n C dX7_of_42 1 rfl rfl ?_
          refine g_callV (As := [.int (nI (tn a))]) (rest := []) C dX7_of_43 (kX7_flowOf (xl X) (xK X) C.hD (uN σ 5 (nI (cdQ (pD H) 4 sv a b))) hM hp hP (d := tn a) ta.2) wl27 rfl 1 gX7_of_X7_flowOf rfl (by decide +kernel) ⟨Nat.le_of_ble_eq_true rfl, Nat.le_of_ble_eq_true rfl⟩ ⟨Nat.le_of_ble_eq_true rfl, Nat.le_of_ble_eq_true rfl⟩ rfl rfl (Nat.le_of_ble_eq_true rfl) (fun rv9 σ9 h9 => ?_)
          obtain ⟨h9a, h9b⟩ := h9
          refine g_eq (σ2 := uN σ 5 (nI (cdQ (pD H) 4 sv a b))) (lv2 := [(0, .ref ((xK X).2.2 27)), (1, .int (nI (tn a))), (2, .int (nI (tn b)))]) (st2 := [.double (flw H (sF σ 40) (tn a))]) h9b rfl (by rw [h9a]; rfl) ?_
          refine g_goto (tgt := 81) C dX7_of_46 (by decide) ?_
          refine g_dret C dX7_of_81 rfl ⟨Nat.le_of_ble_eq_true rfl, Nat.le_of_ble_eq_true rfl⟩ ?_
          rw [hF]
          exact ⟨fun h => absurd hc0 h, fun _ => ⟨by unfold ofM; (first | rw [if_pos hb0] | rw [if_neg hb0, if_pos hb1] | rw [if_neg hb0, if_neg hb1, if_pos hb2] | rw [if_neg hb0, if_neg hb1, if_neg hb2]); try rfl, by rw [hc0]; try rfl⟩⟩
      · have hc1 : cdQ (pD H) 4 sv a b ≠ 0 := Nat.pos_iff_ne_zero.mp (of_decide_eq_true (bIt c_32))
        refine g_dconst0 C dX7_of_35 ?_
        refine g_dret C dX7_of_36 rfl ⟨Nat.le_of_ble_eq_true rfl, Nat.le_of_ble_eq_true rfl⟩ ?_
        rw [hF]
        exact ⟨fun _ => ⟨rfl, rfl⟩, fun h => absurd h hc1⟩
    · refine g_iconst (v := nI 1) C dX7_of_24 (by decide +kernel) ?_
      refine g_goto (tgt := 29) C dX7_of_25 (by decide) ?_
      refine g_topi (y := bI (decide (inR a (pD H) ∧ inR b 4))) (by first | (rw [decide_eq_false (show ¬ (inR a (pD H) ∧ inR b 4) from fun h => absurd h.1 (of_decide_eq_false ((bI_ne _).mp c_12)))]; rfl) | (rw [decide_eq_false (show ¬ (inR a (pD H) ∧ inR b 4) from fun h => absurd h.2 (of_decide_eq_false ((bI_ne _).mp c_21)))]; rfl) | (rw [decide_eq_true (show inR a (pD H) ∧ inR b 4 from ⟨of_decide_eq_true (bIt c_12), of_decide_eq_true (bIt c_21)⟩)]; rfl)) ?_
      refine g_callV (As := [.int (bI (decide (inR a (pD H) ∧ inR b 4)))]) (rest := []) C dX7_of_29 (kX7_isWrong (xl X) (xK X) C.hD σ (decide (inR a (pD H) ∧ inR b 4)) hsv) wl27 rfl 1 gX7_of_X7_isWrong rfl (by decide +kernel) ⟨Nat.le_of_ble_eq_true rfl, Nat.le_of_ble_eq_true rfl⟩ ⟨Nat.le_of_ble_eq_true rfl, Nat.le_of_ble_eq_true rfl⟩ rfl rfl (Nat.le_of_ble_eq_true rfl) (fun rv9 σ9 h9 => ?_)
      obtain ⟨h9a, h9b⟩ := h9
      refine g_eq (σ2 := uN σ 5 (nI (cdQ (pD H) 4 sv a b))) (lv2 := [(0, .ref ((xK X).2.2 27)), (1, .int a), (2, .int b)]) (st2 := [.int (bI (decide (0 < cdQ (pD H) 4 sv a b)))]) (by rw [h9b, cdQ_wr]) rfl (by rw [h9a, cdQ_wr]; rfl) ?_
      refine g_if_eq (tgt := 37) C dX7_of_32 (by decide) (fun c_32 => ?_) (fun c_32 => ?_)
      · have hc0 : cdQ (pD H) 4 sv a b = 0 := Nat.eq_zero_of_not_pos (of_decide_eq_false ((bI_ne _).mp c_32))
        have tab := cdQ_0 hc0
        have ta := inT tab.1 (by omega)
        have tb := inT tab.2.1 (by decide)
        refine g_eq (σ2 := uN σ 5 (nI (cdQ (pD H) 4 sv a b))) (lv2 := [(0, .ref ((xK X).2.2 27)), (1, .int (nI (tn a))), (2, .int b)]) (st2 := []) rfl (congrArg (fun z9 => ([(0, .ref ((xK X).2.2 27)), (1, .int z9), (2, .int b)] : List (Nat × Value))) ta.1) rfl ?_
        refine g_eq (σ2 := uN σ 5 (nI (cdQ (pD H) 4 sv a b))) (lv2 := [(0, .ref ((xK X).2.2 27)), (1, .int (nI (tn a))), (2, .int (nI (tn b)))]) (st2 := []) rfl (congrArg (fun z9 => ([(0, .ref ((xK X).2.2 27)), (1, .int (nI (tn a))), (2, .int z9)] : List (Nat × Value))) tb.1) rfl ?_
        refine g_iload_n C dX7_of_37 2 rfl rfl ?_
        refine g_if_ne (tgt := 49) C dX7_of_38 (by decide) (fun c_38 => ?_) (fun c_38 => ?_)
        · have hb0 : ¬ tn b = 0 := fun h => c_38 (congrArg nI h)
          refine g_iload_n C dX7_of_49 2 rfl rfl ?_
          refine g_iconst (v := nI 1) C dX7_of_50 (by decide +kernel) ?_
          refine g_icmp_ne (tgt := 62) C dX7_of_51 (by decide) (fun c_51 => ?_) (fun c_51 => ?_)
          · have hb1 : ¬ tn b = 1 := fun h => c_51 (congrArg nI h)
            refine g_iload_n C dX7_of_62 2 rfl rfl ?_
            refine g_iconst (v := nI 2) C dX7_of_63 (by decide +kernel) ?_
            refine g_icmp_ne (tgt := 75) C dX7_of_64 (by decide) (fun c_64 => ?_) (fun c_64 => ?_)
            · have hb2 : ¬ tn b = 2 := fun h => c_64 (congrArg nI h)
              refine g_aload_n C dX7_of_75 0 rfl rfl ?_
              refine g_get C dX7_of_76 wl27 rfl 7 (by decide) 2 rfl rfl rfl inX7_of_X7 ?_
              refine g_iload_n C dX7_of_79 1 rfl rfl ?_
              refine g_dald (j := (tn a)) C dX7_of_80 wl32 rfl (by omega) (by decide) ?_
              refine g_dret C dX7_of_81 rfl ⟨Nat.le_of_ble_eq_true rfl, Nat.le_of_ble_eq_true rfl⟩ ?_
              rw [hF]
              exact ⟨fun h => absurd hc0 h, fun _ => ⟨by unfold ofM; (first | rw [if_pos hb0] | rw [if_neg hb0, if_pos hb1] | rw [if_neg hb0, if_neg hb1, if_pos hb2] | rw [if_neg hb0, if_neg hb1, if_neg hb2]); try rfl, by rw [hc0]; try rfl⟩⟩
            · have hb2 : tn b = 2 := (nI_eq (a := tn b) (b := 2) (by omega) (by decide)).mp (Decidable.byContradiction fun h => absurd c_64 h)
              refine g_aload_n C dX7_of_67 0 rfl rfl ?_
              refine g_iload_n C dX7_of_68 1 rfl rfl ?_
              refine g_callV (As := [.int (nI (tn a))]) (rest := []) C dX7_of_69 (kX7_ease (xl X) (xK X) C.hD (uN σ 5 (nI (cdQ (pD H) 4 sv a b))) hM hp (d := tn a) ta.2) wl27 rfl 1 gX7_of_X7_ease rfl (by decide +kernel) ⟨Nat.le_of_ble_eq_true rfl, Nat.le_of_ble_eq_true rfl⟩ ⟨Nat.le_of_ble_eq_true rfl, Nat.le_of_ble_eq_true rfl⟩ rfl rfl (Nat.le_of_ble_eq_true rfl) (fun rv9 σ9 h9 => ?_)
              obtain ⟨h9a, h9b⟩ := h9
              refine g_eq (σ2 := uN σ 5 (nI (cdQ (pD H) 4 sv a b))) (lv2 := [(0, .ref ((xK X).2.2 27)), (1, .int (nI (tn a))), (2, .int (nI (tn b)))]) (st2 := [.double (pE H (tn a))]) h9b rfl (by rw [h9a]; rfl) ?_
              refine g_goto (tgt := 81) C dX7_of_72 (by decide) ?_
              refine g_dret C dX7_of_81 rfl ⟨Nat.le_of_ble_eq_true rfl, Nat.le_of_ble_eq_true rfl⟩ ?_
              rw [hF]
              exact ⟨fun h => absurd hc0 h, fun _ => ⟨by unfold ofM; (first | rw [if_pos hb0] | rw [if_neg hb0, if_pos hb1] | rw [if_neg hb0, if_neg hb1, if_pos hb2] | rw [if_neg hb0, if_neg hb1, if_neg hb2]); try rfl, by rw [hc0]; try rfl⟩⟩
          · have hb1 : tn b = 1 := (nI_eq (a := tn b) (b := 1) (by omega) (by decide)).mp (Decidable.byContradiction fun h => absurd c_51 h)
            refine g_aload_n C dX7_of_54 0 rfl rfl ?_
            refine g_iload_n C dX7_of_55 1 rfl rfl ?_
            refine g_callV (As := [.int (nI (tn a))]) (rest := []) C dX7_of_56 (kX7_speedOf (xl X) (xK X) C.hD (uN σ 5 (nI (cdQ (pD H) 4 sv a b))) hM hp hP (d := tn a) ta.2) wl27 rfl 1 gX7_of_X7_speedOf rfl (by decide +kernel) ⟨Nat.le_of_ble_eq_true rfl, Nat.le_of_ble_eq_true rfl⟩ ⟨Nat.le_of_ble_eq_true rfl, Nat.le_of_ble_eq_true rfl⟩ rfl rfl (Nat.le_of_ble_eq_true rfl) (fun rv9 σ9 h9 => ?_)
            obtain ⟨h9a, h9b⟩ := h9
            refine g_eq (σ2 := uN σ 5 (nI (cdQ (pD H) 4 sv a b))) (lv2 := [(0, .ref ((xK X).2.2 27)), (1, .int (nI (tn a))), (2, .int (nI (tn b)))]) (st2 := [.double (spd H (sF σ 40) (sF σ 31) (tn a))]) h9b rfl (by rw [h9a]; rfl) ?_
            refine g_goto (tgt := 81) C dX7_of_59 (by decide) ?_
            refine g_dret C dX7_of_81 rfl ⟨Nat.le_of_ble_eq_true rfl, Nat.le_of_ble_eq_true rfl⟩ ?_
            rw [hF]
            exact ⟨fun h => absurd hc0 h, fun _ => ⟨by unfold ofM; (first | rw [if_pos hb0] | rw [if_neg hb0, if_pos hb1] | rw [if_neg hb0, if_neg hb1, if_pos hb2] | rw [if_neg hb0, if_neg hb1, if_neg hb2]); try rfl, by rw [hc0]; try rfl⟩⟩
        · have hb0 : tn b = 0 := (nI_eq (a := tn b) (b := 0) (by omega) (by decide)).mp (Decidable.byContradiction fun h => absurd c_38 h)
          refine g_aload_n C dX7_of_41 0 rfl rfl ?_
          refine g_iload_n C dX7_of_42 1 rfl rfl ?_
          refine g_callV (As := [.int (nI (tn a))]) (rest := []) C dX7_of_43 (kX7_flowOf (xl X) (xK X) C.hD (uN σ 5 (nI (cdQ (pD H) 4 sv a b))) hM hp hP (d := tn a) ta.2) wl27 rfl 1 gX7_of_X7_flowOf rfl (by decide +kernel) ⟨Nat.le_of_ble_eq_true rfl, Nat.le_of_ble_eq_true rfl⟩ ⟨Nat.le_of_ble_eq_true rfl, Nat.le_of_ble_eq_true rfl⟩ rfl rfl (Nat.le_of_ble_eq_true rfl) (fun rv9 σ9 h9 => ?_)
          obtain ⟨h9a, h9b⟩ := h9
          refine g_eq (σ2 := uN σ 5 (nI (cdQ (pD H) 4 sv a b))) (lv2 := [(0, .ref ((xK X).2.2 27)), (1, .int (nI (tn a))), (2, .int (nI (tn b)))]) (st2 := [.double (flw H (sF σ 40) (tn a))]) h9b rfl (by rw [h9a]; rfl) ?_
          refine g_goto (tgt := 81) C dX7_of_46 (by decide) ?_
          refine g_dret C dX7_of_81 rfl ⟨Nat.le_of_ble_eq_true rfl, Nat.le_of_ble_eq_true rfl⟩ ?_
          rw [hF]
          exact ⟨fun h => absurd hc0 h, fun _ => ⟨by unfold ofM; (first | rw [if_pos hb0] | rw [if_neg hb0, if_pos hb1] | rw [if_neg hb0, if_neg hb1, if_pos hb2] | rw [if_neg hb0, if_neg hb1, if_neg hb2]); try rfl, by rw [hc0]; try rfl⟩⟩
      · have hc1 : cdQ (pD H) 4 sv a b ≠ 0 := Nat.pos_iff_ne_zero.mp (of_decide_eq_true (bIt c_32))
        refine g_dconst0 C dX7_of_35 ?_
        refine g_dret C dX7_of_36 rfl ⟨Nat.le_of_ble_eq_true rfl, Nat.le_of_ble_eq_true rfl⟩ ?_
        rw [hF]
        exact ⟨fun _ => ⟨rfl, rfl⟩, fun h => absurd h hc1⟩

theorem inX7_at_X7 : ∀ w ∈ u_ws RX7 TX7 24, w ∈ wsX7_at := by decide +kernel
set_option maxHeartbeats 4000000 in
set_option maxRecDepth 100000 in
theorem kX7_at (l : Launch) (K : gK) (hD : gD K) (σ : gS) {H : Ph} {nj n : Nat} {sv : Bool} (hI : Mi H nj n sv σ) (a b : Int32) : Ct l yX7_at wsX7_at { frames := 2, cells := 0, slots := 0, locals := 43 } K [.ref (K.2.2 27), .int a, .int b] σ (Mr σ (cdQ nj 2 sv a b) (some (.double FP.dconst0)) (fun r t => r = some (.double (atM H (sF σ 40) (sF σ 38) (tn a) (tn b))) ∧ t = uN σ 5 (nI 0))) := by
  refine Ct.of hD (by decide) rfl (Nat.le_of_ble_eq_true rfl) ?_
  intro X hL hK hF C
  subst hL; subst hK
  refine g_eq (σ2 := σ) (lv2 := [(0, .ref ((xK X).2.2 27)), (1, .int a), (2, .int b)]) (st2 := []) rfl rfl rfl ?_
  obtain ⟨hM, hp, hP, hg, hq, hsv, ⟨hn, hn6, hsw⟩, hr, hl⟩ := hI
  have h16 := hM.nd16
  have h8 := hM.nm8
  have hjj := hM.j
  have hcb := cdQ_le nj 2 sv a b
  refine g_aload_n C dX7_at_0 0 rfl rfl ?_
  refine g_aload_n C dX7_at_1 0 rfl rfl ?_
  refine g_iload_n C dX7_at_2 1 rfl rfl ?_
  refine g_callV (As := [.int a]) (rest := [.ref ((xK X).2.2 27)]) C dX7_at_3 (kX7_isJoint (xl X) (xK X) C.hD σ hM.j.1 hM.j.2.2 a) wl27 rfl 1 gX7_at_X7_isJoint rfl (by decide +kernel) ⟨Nat.le_of_ble_eq_true rfl, Nat.le_of_ble_eq_true rfl⟩ ⟨Nat.le_of_ble_eq_true rfl, Nat.le_of_ble_eq_true rfl⟩ rfl rfl (Nat.le_of_ble_eq_true rfl) (fun rv9 σ9 h9 => ?_)
  obtain ⟨h9a, h9b⟩ := h9
  refine g_eq (σ2 := σ) (lv2 := [(0, .ref ((xK X).2.2 27)), (1, .int a), (2, .int b)]) (st2 := [.int (bI (decide (inR a nj))), .ref ((xK X).2.2 27)]) h9b rfl (by rw [h9a]; rfl) ?_
  refine g_if_eq (tgt := 22) C dX7_at_6 (by decide) (fun c_6 => ?_) (fun c_6 => ?_)
  · refine g_iconst (v := nI 0) C dX7_at_22 (by decide +kernel) ?_
    refine g_topi (y := bI (decide (inR a nj ∧ inR b 2))) (by first | (rw [decide_eq_false (show ¬ (inR a nj ∧ inR b 2) from fun h => absurd h.1 (of_decide_eq_false ((bI_ne _).mp c_6)))]; rfl) | (rw [decide_eq_false (show ¬ (inR a nj ∧ inR b 2) from fun h => absurd h.2 (of_decide_eq_false ((bI_ne _).mp c_15)))]; rfl) | (rw [decide_eq_true (show inR a nj ∧ inR b 2 from ⟨of_decide_eq_true (bIt c_6), of_decide_eq_true (bIt c_15)⟩)]; rfl)) ?_
    refine g_callV (As := [.int (bI (decide (inR a nj ∧ inR b 2)))]) (rest := []) C dX7_at_23 (kX7_isWrong (xl X) (xK X) C.hD σ (decide (inR a nj ∧ inR b 2)) hsv) wl27 rfl 1 gX7_at_X7_isWrong rfl (by decide +kernel) ⟨Nat.le_of_ble_eq_true rfl, Nat.le_of_ble_eq_true rfl⟩ ⟨Nat.le_of_ble_eq_true rfl, Nat.le_of_ble_eq_true rfl⟩ rfl rfl (Nat.le_of_ble_eq_true rfl) (fun rv9 σ9 h9 => ?_)
    obtain ⟨h9a, h9b⟩ := h9
    refine g_eq (σ2 := uN σ 5 (nI (cdQ nj 2 sv a b))) (lv2 := [(0, .ref ((xK X).2.2 27)), (1, .int a), (2, .int b)]) (st2 := [.int (bI (decide (0 < cdQ nj 2 sv a b)))]) (by rw [h9b, cdQ_wr]) rfl (by rw [h9a, cdQ_wr]; rfl) ?_
    refine g_if_eq (tgt := 31) C dX7_at_26 (by decide) (fun c_26 => ?_) (fun c_26 => ?_)
    · have hc0 : cdQ nj 2 sv a b = 0 := Nat.eq_zero_of_not_pos (of_decide_eq_false ((bI_ne _).mp c_26))
      have tab := cdQ_0 hc0
      have ta := inT tab.1 (by omega)
      have tb := inT tab.2.1 (by decide)
      refine g_eq (σ2 := uN σ 5 (nI (cdQ nj 2 sv a b))) (lv2 := [(0, .ref ((xK X).2.2 27)), (1, .int (nI (tn a))), (2, .int b)]) (st2 := []) rfl (congrArg (fun z9 => ([(0, .ref ((xK X).2.2 27)), (1, .int z9), (2, .int b)] : List (Nat × Value))) ta.1) rfl ?_
      refine g_eq (σ2 := uN σ 5 (nI (cdQ nj 2 sv a b))) (lv2 := [(0, .ref ((xK X).2.2 27)), (1, .int (nI (tn a))), (2, .int (nI (tn b)))]) (st2 := []) rfl (congrArg (fun z9 => ([(0, .ref ((xK X).2.2 27)), (1, .int (nI (tn a))), (2, .int z9)] : List (Nat × Value))) tb.1) rfl ?_
      refine g_iload_n C dX7_at_31 2 rfl rfl ?_
      refine g_if_ne (tgt := 42) C dX7_at_32 (by decide) (fun c_32 => ?_) (fun c_32 => ?_)
      · have hb0 : ¬ tn b = 0 := fun h => c_32 (congrArg nI h)
        refine g_dconst0 C dX7_at_42 ?_
        refine g_dstore_n (lv' := [(3, .double FP.dconst0), (0, .ref ((xK X).2.2 27)), (1, .int (nI (tn a))), (2, .int (nI (tn b)))]) C dX7_at_43 rfl (by decide) rfl ?_
        refine g_iconst (v := nI 0) C dX7_at_44 (by decide +kernel) ?_
        refine g_istore (lv' := [(5, .int (nI 0)), (3, .double FP.dconst0), (0, .ref ((xK X).2.2 27)), (1, .int (nI (tn a))), (2, .int (nI (tn b)))]) C dX7_at_45 (by decide) rfl ?_
        have loop47 : ∀ (r9 : Nat) (d : Nat), pD H - d < r9 → (d ≤ pD H) → (tn a = 0 → d = 0) → G X 6 0 0 (uN σ 5 (nI (cdQ nj 2 sv a b))) [(0, .ref ((xK X).2.2 27)), (1, .int (nI (tn a))), (2, .int (nI (tn b))), (3, .double (flM H (sF σ 40) (tn a) d)), (5, .int (nI d))] 47 [] := by
          intro r9
          induction r9 with
          | zero => intro d h9; exact absurd h9 (Nat.not_lt_zero _)
          | succ r9 ih47 =>
            intro d hm47 hd hz
            refine g_iload C dX7_at_47 4 rfl ?_
            refine g_aload_n C dX7_at_49 0 rfl rfl ?_
            refine g_get C dX7_at_50 wl27 rfl 2 (by decide) 2 rfl rfl rfl inX7_at_X7 ?_
            refine g_topi (y := nI (pD H)) hM.nd ?_
            refine g_icmp_ge (tgt := 112) C dX7_at_53 (by decide) (fun c_53 => ?_) (fun c_53 => ?_)
            · have hde : d = pD H := by
                have h9 := (nI_leI (by  omega) (by  omega)).mp c_53
                omega
              refine g_eq (σ2 := uN σ 5 (nI (cdQ nj 2 sv a b))) (lv2 := [(0, .ref ((xK X).2.2 27)), (1, .int (nI (tn a))), (2, .int (nI (tn b))), (3, .double (atA H (sF σ 40) (tn a))), (5, .int (nI d))]) (st2 := []) rfl (congrArg (fun z9 => ([(0, .ref ((xK X).2.2 27)), (1, .int (nI (tn a))), (2, .int (nI (tn b))), (3, .double z9), (5, .int (nI d))] : List (Nat × Value))) (by
  unfold atA
  by_cases h9 : tn a = 0
  · rw [if_pos h9, hz h9]; rfl
  · rw [if_neg h9, hde])) rfl ?_
              refine g_iconst (v := nI 0) C dX7_at_112 (by decide +kernel) ?_
              refine g_istore (lv' := [(5, .int (nI 0)), (0, .ref ((xK X).2.2 27)), (1, .int (nI (tn a))), (2, .int (nI (tn b))), (3, .double (atA H (sF σ 40) (tn a)))]) C dX7_at_113 (by decide) rfl ?_
              have loop115 : ∀ (r9 : Nat) (m : Nat), pM H - m < r9 → (m ≤ pM H) → (tn a = 0 → m = 0) → G X 6 0 0 (uN σ 5 (nI (cdQ nj 2 sv a b))) [(0, .ref ((xK X).2.2 27)), (1, .int (nI (tn a))), (2, .int (nI (tn b))), (3, .double (accF (atA H (sF σ 40) (tn a)) (opAt H (tn a)) (drV H (sF σ 40) (sF σ 38)) m)), (5, .int (nI m))] 115 [] := by
                intro r9
                induction r9 with
                | zero => intro m h9; exact absurd h9 (Nat.not_lt_zero _)
                | succ r9 ih115 =>
                  intro m hm115 hm hz
                  refine g_iload C dX7_at_115 4 rfl ?_
                  refine g_aload_n C dX7_at_117 0 rfl rfl ?_
                  refine g_get C dX7_at_118 wl27 rfl 10 (by decide) 5 rfl rfl rfl inX7_at_X7 ?_
                  refine g_topi (y := nI (pM H)) hM.nm ?_
                  refine g_icmp_ge (tgt := 168) C dX7_at_121 (by decide) (fun c_121 => ?_) (fun c_121 => ?_)
                  · have hme : m = pM H := by
                      have h9 := (nI_leI (by  omega) (by  omega)).mp c_121
                      omega
                    refine g_dload_n C dX7_at_168 3 rfl rfl ?_
                    refine g_dret C dX7_at_169 rfl ⟨Nat.le_of_ble_eq_true rfl, Nat.le_of_ble_eq_true rfl⟩ ?_
                    rw [hF]
                    exact ⟨fun h => absurd hc0 h, fun _ => ⟨by
                        unfold atM
                        rw [if_neg hb0]
                        by_cases h9 : tn a = 0
                        · rw [if_pos h9, hz h9]
                          unfold atA
                          rw [if_pos h9]
                          rfl
                        · rw [if_neg h9]
                          unfold atA
                          rw [if_neg h9]
                          first | rw [hme] | exact absurd hja h9, by rw [hc0]; try rfl⟩⟩
                  · have hmt : m < pM H := by
                      refine Nat.lt_of_not_le fun h => c_121 ?_
                      exact (nI_leI (by  omega) (by  omega)).mpr (by omega)
                    have hmm := hM.ma hmt
                    refine g_iload_n C dX7_at_124 1 rfl rfl ?_
                    refine g_if_le (tgt := 168) C dX7_at_125 (by decide) (fun c_125 => ?_) (fun c_125 => ?_)
                    · have hja : tn a = 0 := nI_le0 (by omega) c_125
                      have hz0 := hz hja
                      refine g_dload_n C dX7_at_168 3 rfl rfl ?_
                      refine g_dret C dX7_at_169 rfl ⟨Nat.le_of_ble_eq_true rfl, Nat.le_of_ble_eq_true rfl⟩ ?_
                      rw [hF]
                      exact ⟨fun h => absurd hc0 h, fun _ => ⟨by
                          unfold atM
                          rw [if_neg hb0]
                          by_cases h9 : tn a = 0
                          · rw [if_pos h9, hz h9]
                            unfold atA
                            rw [if_pos h9]
                            rfl
                          · rw [if_neg h9]
                            unfold atA
                            rw [if_neg h9]
                            first | rw [hme] | exact absurd hja h9, by rw [hc0]; try rfl⟩⟩
                    · have hja : tn a ≠ 0 := fun h => c_125 (by rw [h]; decide)
                      refine g_aload_n C dX7_at_128 0 rfl rfl ?_
                      refine g_get C dX7_at_129 wl27 rfl 15 (by decide) 6 rfl rfl rfl inX7_at_X7 ?_
                      refine g_iload C dX7_at_132 4 rfl ?_
                      refine g_zald (j := m) C dX7_at_134 wl39 rfl (by omega) (by decide) ?_
                      refine g_topi (y := bI (pO H m)) hmm.2.1 ?_
                      refine g_if_eq (tgt := 160) C dX7_at_135 (by decide) (fun c_135 => ?_) (fun c_135 => ?_)
                      · have hb : opAt H (tn a) m = false := by unfold opAt; rw [(bI_ne _).mp c_135]; rfl
                        refine g_dload_n C dX7_at_160 3 rfl rfl ?_
                        refine g_topd (y := accF (atA H (sF σ 40) (tn a)) (opAt H (tn a)) (drV H (sF σ 40) (sF σ 38)) (m + 1)) (by first | exact (accF_yes hb).symm | exact (accF_no hb).symm) ?_
                        refine g_dstore_n (lv' := [(3, .double (accF (atA H (sF σ 40) (tn a)) (opAt H (tn a)) (drV H (sF σ 40) (sF σ 38)) (m + 1))), (0, .ref ((xK X).2.2 27)), (1, .int (nI (tn a))), (2, .int (nI (tn b))), (5, .int (nI m))]) C dX7_at_161 rfl (by decide) rfl ?_
                        refine g_iinc (v := nI (m + 1)) (lv' := [(5, .int (nI (m + 1))), (3, .double (accF (atA H (sF σ 40) (tn a)) (opAt H (tn a)) (drV H (sF σ 40) (sF σ 38)) (m + 1))), (0, .ref ((xK X).2.2 27)), (1, .int (nI (tn a))), (2, .int (nI (tn b)))]) C dX7_at_162 4 rfl (nI_1 m) (by decide) rfl ?_
                        refine g_goto (tgt := 115) C dX7_at_165 (by decide) ?_
                        refine g_lv [2, 3, 4, 1, 0] rfl ?_
                        exact ih115 (m + 1) (by omega) (by omega) (fun h => absurd h hja)
                      · refine g_aload_n C dX7_at_138 0 rfl rfl ?_
                        refine g_get C dX7_at_139 wl27 rfl 11 (by decide) 7 rfl rfl rfl inX7_at_X7 ?_
                        refine g_iload C dX7_at_142 4 rfl ?_
                        refine g_iald (j := m) C dX7_at_144 wl35 rfl (by omega) (by decide) ?_
                        refine g_topi (y := nI (pJ H m)) hmm.1 ?_
                        refine g_iload_n C dX7_at_145 1 rfl rfl ?_
                        refine g_icmp_ne (tgt := 160) C dX7_at_146 (by decide) (fun c_146 => ?_) (fun c_146 => ?_)
                        · have hb : opAt H (tn a) m = false := by unfold opAt; rw [decide_eq_false (show ¬ pJ H m = tn a from fun h => c_146 (by rw [h])), Bool.and_false]
                          refine g_dload_n C dX7_at_160 3 rfl rfl ?_
                          refine g_topd (y := accF (atA H (sF σ 40) (tn a)) (opAt H (tn a)) (drV H (sF σ 40) (sF σ 38)) (m + 1)) (by first | exact (accF_yes hb).symm | exact (accF_no hb).symm) ?_
                          refine g_dstore_n (lv' := [(3, .double (accF (atA H (sF σ 40) (tn a)) (opAt H (tn a)) (drV H (sF σ 40) (sF σ 38)) (m + 1))), (0, .ref ((xK X).2.2 27)), (1, .int (nI (tn a))), (2, .int (nI (tn b))), (5, .int (nI m))]) C dX7_at_161 rfl (by decide) rfl ?_
                          refine g_iinc (v := nI (m + 1)) (lv' := [(5, .int (nI (m + 1))), (3, .double (accF (atA H (sF σ 40) (tn a)) (opAt H (tn a)) (drV H (sF σ 40) (sF σ 38)) (m + 1))), (0, .ref ((xK X).2.2 27)), (1, .int (nI (tn a))), (2, .int (nI (tn b)))]) C dX7_at_162 4 rfl (nI_1 m) (by decide) rfl ?_
                          refine g_goto (tgt := 115) C dX7_at_165 (by decide) ?_
                          refine g_lv [2, 3, 4, 1, 0] rfl ?_
                          exact ih115 (m + 1) (by omega) (by omega) (fun h => absurd h hja)
                        · have hb : opAt H (tn a) m = true := by
                            unfold opAt
                            rw [bIt c_135, decide_eq_true ((nI_eq (by omega) (by omega)).mp (Decidable.byContradiction fun h => absurd c_146 h))]
                            rfl
                          refine g_dload_n C dX7_at_149 3 rfl rfl ?_
                          refine g_aload_n C dX7_at_150 0 rfl rfl ?_
                          refine g_iload C dX7_at_151 4 rfl ?_
                          refine g_callV (As := [.int (nI m)]) (rest := [.double (accF (atA H (sF σ 40) (tn a)) (opAt H (tn a)) (drV H (sF σ 40) (sF σ 38)) m)]) C dX7_at_153 (kX7_drawOf (xl X) (xK X) C.hD (uN σ 5 (nI (cdQ nj 2 sv a b))) hM hp hP hg hmt) wl27 rfl 1 gX7_at_X7_drawOf rfl (by decide +kernel) ⟨Nat.le_of_ble_eq_true rfl, Nat.le_of_ble_eq_true rfl⟩ ⟨Nat.le_of_ble_eq_true rfl, Nat.le_of_ble_eq_true rfl⟩ rfl rfl (Nat.le_of_ble_eq_true rfl) (fun rv9 σ9 h9 => ?_)
                          obtain ⟨h9a, h9b⟩ := h9
                          refine g_eq (σ2 := uN σ 5 (nI (cdQ nj 2 sv a b))) (lv2 := [(0, .ref ((xK X).2.2 27)), (1, .int (nI (tn a))), (2, .int (nI (tn b))), (3, .double (accF (atA H (sF σ 40) (tn a)) (opAt H (tn a)) (drV H (sF σ 40) (sF σ 38)) m)), (5, .int (nI m))]) (st2 := [.double (drV H (sF σ 40) (sF σ 38) m), .double (accF (atA H (sF σ 40) (tn a)) (opAt H (tn a)) (drV H (sF σ 40) (sF σ 38)) m)]) h9b rfl (by rw [h9a]; rfl) ?_
                          refine g_dadd C dX7_at_156 (accF_ok (atA_B hp hP (tn a)) (n := pM H) (by omega) hmt (p := opAt H (tn a)) (g := drV H (sF σ 40) (sF σ 38)) (fun i hi _ => (drV_B hp hP hg hi).2.2.1.mono (by decide)) hb) ?_
                          refine g_goto (tgt := 161) C dX7_at_157 (by decide) ?_
                          refine g_topd (y := accF (atA H (sF σ 40) (tn a)) (opAt H (tn a)) (drV H (sF σ 40) (sF σ 38)) (m + 1)) (by first | exact (accF_yes hb).symm | exact (accF_no hb).symm) ?_
                          refine g_dstore_n (lv' := [(3, .double (accF (atA H (sF σ 40) (tn a)) (opAt H (tn a)) (drV H (sF σ 40) (sF σ 38)) (m + 1))), (0, .ref ((xK X).2.2 27)), (1, .int (nI (tn a))), (2, .int (nI (tn b))), (5, .int (nI m))]) C dX7_at_161 rfl (by decide) rfl ?_
                          refine g_iinc (v := nI (m + 1)) (lv' := [(5, .int (nI (m + 1))), (3, .double (accF (atA H (sF σ 40) (tn a)) (opAt H (tn a)) (drV H (sF σ 40) (sF σ 38)) (m + 1))), (0, .ref ((xK X).2.2 27)), (1, .int (nI (tn a))), (2, .int (nI (tn b)))]) C dX7_at_162 4 rfl (nI_1 m) (by decide) rfl ?_
                          refine g_goto (tgt := 115) C dX7_at_165 (by decide) ?_
                          refine g_lv [2, 3, 4, 1, 0] rfl ?_
                          exact ih115 (m + 1) (by omega) (by omega) (fun h => absurd h hja)
              refine g_lv [1, 2, 3, 4, 0] rfl ?_
              exact loop115 (pM H + 1) 0 (by omega) (Nat.zero_le _) (fun _ => rfl)
            · have hdt : d < pD H := by
                refine Nat.lt_of_not_le fun h => c_53 ?_
                exact (nI_leI (by  omega) (by  omega)).mpr (by omega)
              have hdd := hM.du hdt
              refine g_iload_n C dX7_at_56 1 rfl rfl ?_
              refine g_if_le (tgt := 112) C dX7_at_57 (by decide) (fun c_57 => ?_) (fun c_57 => ?_)
              · have hja : tn a = 0 := nI_le0 (by omega) c_57
                have hz0 := hz hja
                refine g_eq (σ2 := uN σ 5 (nI (cdQ nj 2 sv a b))) (lv2 := [(0, .ref ((xK X).2.2 27)), (1, .int (nI (tn a))), (2, .int (nI (tn b))), (3, .double (atA H (sF σ 40) (tn a))), (5, .int (nI d))]) (st2 := []) rfl (congrArg (fun z9 => ([(0, .ref ((xK X).2.2 27)), (1, .int (nI (tn a))), (2, .int (nI (tn b))), (3, .double z9), (5, .int (nI d))] : List (Nat × Value))) (by unfold atA; rw [if_pos hja, hz0]; rfl)) rfl ?_
                refine g_iconst (v := nI 0) C dX7_at_112 (by decide +kernel) ?_
                refine g_istore (lv' := [(5, .int (nI 0)), (0, .ref ((xK X).2.2 27)), (1, .int (nI (tn a))), (2, .int (nI (tn b))), (3, .double (atA H (sF σ 40) (tn a)))]) C dX7_at_113 (by decide) rfl ?_
                have loop115 : ∀ (r9 : Nat) (m : Nat), pM H - m < r9 → (m ≤ pM H) → (tn a = 0 → m = 0) → G X 6 0 0 (uN σ 5 (nI (cdQ nj 2 sv a b))) [(0, .ref ((xK X).2.2 27)), (1, .int (nI (tn a))), (2, .int (nI (tn b))), (3, .double (accF (atA H (sF σ 40) (tn a)) (opAt H (tn a)) (drV H (sF σ 40) (sF σ 38)) m)), (5, .int (nI m))] 115 [] := by
                  intro r9
                  induction r9 with
                  | zero => intro m h9; exact absurd h9 (Nat.not_lt_zero _)
                  | succ r9 ih115 =>
                    intro m hm115 hm hz
                    refine g_iload C dX7_at_115 4 rfl ?_
                    refine g_aload_n C dX7_at_117 0 rfl rfl ?_
                    refine g_get C dX7_at_118 wl27 rfl 10 (by decide) 5 rfl rfl rfl inX7_at_X7 ?_
                    refine g_topi (y := nI (pM H)) hM.nm ?_
                    refine g_icmp_ge (tgt := 168) C dX7_at_121 (by decide) (fun c_121 => ?_) (fun c_121 => ?_)
                    · have hme : m = pM H := by
                        have h9 := (nI_leI (by  omega) (by  omega)).mp c_121
                        omega
                      refine g_dload_n C dX7_at_168 3 rfl rfl ?_
                      refine g_dret C dX7_at_169 rfl ⟨Nat.le_of_ble_eq_true rfl, Nat.le_of_ble_eq_true rfl⟩ ?_
                      rw [hF]
                      exact ⟨fun h => absurd hc0 h, fun _ => ⟨by
                          unfold atM
                          rw [if_neg hb0]
                          by_cases h9 : tn a = 0
                          · rw [if_pos h9, hz h9]
                            unfold atA
                            rw [if_pos h9]
                            rfl
                          · rw [if_neg h9]
                            unfold atA
                            rw [if_neg h9]
                            first | rw [hme] | exact absurd hja h9, by rw [hc0]; try rfl⟩⟩
                    · have hmt : m < pM H := by
                        refine Nat.lt_of_not_le fun h => c_121 ?_
                        exact (nI_leI (by  omega) (by  omega)).mpr (by omega)
                      have hmm := hM.ma hmt
                      refine g_iload_n C dX7_at_124 1 rfl rfl ?_
                      refine g_if_le (tgt := 168) C dX7_at_125 (by decide) (fun c_125 => ?_) (fun c_125 => ?_)
                      · have hja : tn a = 0 := nI_le0 (by omega) c_125
                        have hz0 := hz hja
                        refine g_dload_n C dX7_at_168 3 rfl rfl ?_
                        refine g_dret C dX7_at_169 rfl ⟨Nat.le_of_ble_eq_true rfl, Nat.le_of_ble_eq_true rfl⟩ ?_
                        rw [hF]
                        exact ⟨fun h => absurd hc0 h, fun _ => ⟨by
                            unfold atM
                            rw [if_neg hb0]
                            by_cases h9 : tn a = 0
                            · rw [if_pos h9, hz h9]
                              unfold atA
                              rw [if_pos h9]
                              rfl
                            · rw [if_neg h9]
                              unfold atA
                              rw [if_neg h9]
                              first | rw [hme] | exact absurd hja h9, by rw [hc0]; try rfl⟩⟩
                      · have hja : tn a ≠ 0 := fun h => c_125 (by rw [h]; decide)
                        refine g_aload_n C dX7_at_128 0 rfl rfl ?_
                        refine g_get C dX7_at_129 wl27 rfl 15 (by decide) 6 rfl rfl rfl inX7_at_X7 ?_
                        refine g_iload C dX7_at_132 4 rfl ?_
                        refine g_zald (j := m) C dX7_at_134 wl39 rfl (by omega) (by decide) ?_
                        refine g_topi (y := bI (pO H m)) hmm.2.1 ?_
                        refine g_if_eq (tgt := 160) C dX7_at_135 (by decide) (fun c_135 => ?_) (fun c_135 => ?_)
                        · have hb : opAt H (tn a) m = false := by unfold opAt; rw [(bI_ne _).mp c_135]; rfl
                          refine g_dload_n C dX7_at_160 3 rfl rfl ?_
                          refine g_topd (y := accF (atA H (sF σ 40) (tn a)) (opAt H (tn a)) (drV H (sF σ 40) (sF σ 38)) (m + 1)) (by first | exact (accF_yes hb).symm | exact (accF_no hb).symm) ?_
                          refine g_dstore_n (lv' := [(3, .double (accF (atA H (sF σ 40) (tn a)) (opAt H (tn a)) (drV H (sF σ 40) (sF σ 38)) (m + 1))), (0, .ref ((xK X).2.2 27)), (1, .int (nI (tn a))), (2, .int (nI (tn b))), (5, .int (nI m))]) C dX7_at_161 rfl (by decide) rfl ?_
                          refine g_iinc (v := nI (m + 1)) (lv' := [(5, .int (nI (m + 1))), (3, .double (accF (atA H (sF σ 40) (tn a)) (opAt H (tn a)) (drV H (sF σ 40) (sF σ 38)) (m + 1))), (0, .ref ((xK X).2.2 27)), (1, .int (nI (tn a))), (2, .int (nI (tn b)))]) C dX7_at_162 4 rfl (nI_1 m) (by decide) rfl ?_
                          refine g_goto (tgt := 115) C dX7_at_165 (by decide) ?_
                          refine g_lv [2, 3, 4, 1, 0] rfl ?_
                          exact ih115 (m + 1) (by omega) (by omega) (fun h => absurd h hja)
                        · refine g_aload_n C dX7_at_138 0 rfl rfl ?_
                          refine g_get C dX7_at_139 wl27 rfl 11 (by decide) 7 rfl rfl rfl inX7_at_X7 ?_
                          refine g_iload C dX7_at_142 4 rfl ?_
                          refine g_iald (j := m) C dX7_at_144 wl35 rfl (by omega) (by decide) ?_
                          refine g_topi (y := nI (pJ H m)) hmm.1 ?_
                          refine g_iload_n C dX7_at_145 1 rfl rfl ?_
                          refine g_icmp_ne (tgt := 160) C dX7_at_146 (by decide) (fun c_146 => ?_) (fun c_146 => ?_)
                          · have hb : opAt H (tn a) m = false := by unfold opAt; rw [decide_eq_false (show ¬ pJ H m = tn a from fun h => c_146 (by rw [h])), Bool.and_false]
                            refine g_dload_n C dX7_at_160 3 rfl rfl ?_
                            refine g_topd (y := accF (atA H (sF σ 40) (tn a)) (opAt H (tn a)) (drV H (sF σ 40) (sF σ 38)) (m + 1)) (by first | exact (accF_yes hb).symm | exact (accF_no hb).symm) ?_
                            refine g_dstore_n (lv' := [(3, .double (accF (atA H (sF σ 40) (tn a)) (opAt H (tn a)) (drV H (sF σ 40) (sF σ 38)) (m + 1))), (0, .ref ((xK X).2.2 27)), (1, .int (nI (tn a))), (2, .int (nI (tn b))), (5, .int (nI m))]) C dX7_at_161 rfl (by decide) rfl ?_
                            refine g_iinc (v := nI (m + 1)) (lv' := [(5, .int (nI (m + 1))), (3, .double (accF (atA H (sF σ 40) (tn a)) (opAt H (tn a)) (drV H (sF σ 40) (sF σ 38)) (m + 1))), (0, .ref ((xK X).2.2 27)), (1, .int (nI (tn a))), (2, .int (nI (tn b)))]) C dX7_at_162 4 rfl (nI_1 m) (by decide) rfl ?_
                            refine g_goto (tgt := 115) C dX7_at_165 (by decide) ?_
                            refine g_lv [2, 3, 4, 1, 0] rfl ?_
                            exact ih115 (m + 1) (by omega) (by omega) (fun h => absurd h hja)
                          · have hb : opAt H (tn a) m = true := by
                              unfold opAt
                              rw [bIt c_135, decide_eq_true ((nI_eq (by omega) (by omega)).mp (Decidable.byContradiction fun h => absurd c_146 h))]
                              rfl
                            refine g_dload_n C dX7_at_149 3 rfl rfl ?_
                            refine g_aload_n C dX7_at_150 0 rfl rfl ?_
                            refine g_iload C dX7_at_151 4 rfl ?_
                            refine g_callV (As := [.int (nI m)]) (rest := [.double (accF (atA H (sF σ 40) (tn a)) (opAt H (tn a)) (drV H (sF σ 40) (sF σ 38)) m)]) C dX7_at_153 (kX7_drawOf (xl X) (xK X) C.hD (uN σ 5 (nI (cdQ nj 2 sv a b))) hM hp hP hg hmt) wl27 rfl 1 gX7_at_X7_drawOf rfl (by decide +kernel) ⟨Nat.le_of_ble_eq_true rfl, Nat.le_of_ble_eq_true rfl⟩ ⟨Nat.le_of_ble_eq_true rfl, Nat.le_of_ble_eq_true rfl⟩ rfl rfl (Nat.le_of_ble_eq_true rfl) (fun rv9 σ9 h9 => ?_)
                            obtain ⟨h9a, h9b⟩ := h9
                            refine g_eq (σ2 := uN σ 5 (nI (cdQ nj 2 sv a b))) (lv2 := [(0, .ref ((xK X).2.2 27)), (1, .int (nI (tn a))), (2, .int (nI (tn b))), (3, .double (accF (atA H (sF σ 40) (tn a)) (opAt H (tn a)) (drV H (sF σ 40) (sF σ 38)) m)), (5, .int (nI m))]) (st2 := [.double (drV H (sF σ 40) (sF σ 38) m), .double (accF (atA H (sF σ 40) (tn a)) (opAt H (tn a)) (drV H (sF σ 40) (sF σ 38)) m)]) h9b rfl (by rw [h9a]; rfl) ?_
                            refine g_dadd C dX7_at_156 (accF_ok (atA_B hp hP (tn a)) (n := pM H) (by omega) hmt (p := opAt H (tn a)) (g := drV H (sF σ 40) (sF σ 38)) (fun i hi _ => (drV_B hp hP hg hi).2.2.1.mono (by decide)) hb) ?_
                            refine g_goto (tgt := 161) C dX7_at_157 (by decide) ?_
                            refine g_topd (y := accF (atA H (sF σ 40) (tn a)) (opAt H (tn a)) (drV H (sF σ 40) (sF σ 38)) (m + 1)) (by first | exact (accF_yes hb).symm | exact (accF_no hb).symm) ?_
                            refine g_dstore_n (lv' := [(3, .double (accF (atA H (sF σ 40) (tn a)) (opAt H (tn a)) (drV H (sF σ 40) (sF σ 38)) (m + 1))), (0, .ref ((xK X).2.2 27)), (1, .int (nI (tn a))), (2, .int (nI (tn b))), (5, .int (nI m))]) C dX7_at_161 rfl (by decide) rfl ?_
                            refine g_iinc (v := nI (m + 1)) (lv' := [(5, .int (nI (m + 1))), (3, .double (accF (atA H (sF σ 40) (tn a)) (opAt H (tn a)) (drV H (sF σ 40) (sF σ 38)) (m + 1))), (0, .ref ((xK X).2.2 27)), (1, .int (nI (tn a))), (2, .int (nI (tn b)))]) C dX7_at_162 4 rfl (nI_1 m) (by decide) rfl ?_
                            refine g_goto (tgt := 115) C dX7_at_165 (by decide) ?_
                            refine g_lv [2, 3, 4, 1, 0] rfl ?_
                            exact ih115 (m + 1) (by omega) (by omega) (fun h => absurd h hja)
                refine g_lv [1, 2, 3, 4, 0] rfl ?_
                exact loop115 (pM H + 1) 0 (by omega) (Nat.zero_le _) (fun _ => rfl)
              · have hja : tn a ≠ 0 := fun h => c_57 (by rw [h]; decide)
                refine g_aload_n C dX7_at_60 0 rfl rfl ?_
                refine g_get C dX7_at_61 wl27 rfl 4 (by decide) 3 rfl rfl rfl inX7_at_X7 ?_
                refine g_iload C dX7_at_64 4 rfl ?_
                refine g_iald (j := d) C dX7_at_66 wl29 rfl (by omega) (by decide) ?_
                refine g_topi (y := nI (pB H d)) hdd.2.1 ?_
                refine g_iload_n C dX7_at_67 1 rfl rfl ?_
                refine g_icmp_ne (tgt := 82) C dX7_at_68 (by decide) (fun c_68 => ?_) (fun c_68 => ?_)
                · have hB : ¬ pB H d = tn a := fun h => c_68 (by rw [h])
                  refine g_aload_n C dX7_at_82 0 rfl rfl ?_
                  refine g_get C dX7_at_83 wl27 rfl 3 (by decide) 4 rfl rfl rfl inX7_at_X7 ?_
                  refine g_iload C dX7_at_86 4 rfl ?_
                  refine g_iald (j := d) C dX7_at_88 wl28 rfl (by omega) (by decide) ?_
                  refine g_topi (y := nI (pA H d)) hdd.1 ?_
                  refine g_iload_n C dX7_at_89 1 rfl rfl ?_
                  refine g_icmp_ne (tgt := 104) C dX7_at_90 (by decide) (fun c_90 => ?_) (fun c_90 => ?_)
                  · have hA : ¬ pA H d = tn a := fun h => c_90 (by rw [h])
                    refine g_dload_n C dX7_at_104 3 rfl rfl ?_
                    refine g_topd (y := flM H (sF σ 40) (tn a) (d + 1)) (by rw [flM_up]; first | rw [if_pos hB] | rw [if_neg hB, if_pos hA] | rw [if_neg hB, if_neg hA]) ?_
                    refine g_dstore_n (lv' := [(3, .double (flM H (sF σ 40) (tn a) (d + 1))), (0, .ref ((xK X).2.2 27)), (1, .int (nI (tn a))), (2, .int (nI (tn b))), (5, .int (nI d))]) C dX7_at_105 rfl (by decide) rfl ?_
                    refine g_iinc (v := nI (d + 1)) (lv' := [(5, .int (nI (d + 1))), (3, .double (flM H (sF σ 40) (tn a) (d + 1))), (0, .ref ((xK X).2.2 27)), (1, .int (nI (tn a))), (2, .int (nI (tn b)))]) C dX7_at_106 4 rfl (nI_1 d) (by decide) rfl ?_
                    refine g_goto (tgt := 47) C dX7_at_109 (by decide) ?_
                    refine g_lv [2, 3, 4, 1, 0] rfl ?_
                    exact ih47 (d + 1) (by omega) (by omega) (fun h => absurd h hja)
                  · have hA : pA H d = tn a := (nI_eq (by omega) (by omega)).mp (Decidable.byContradiction fun h => absurd c_90 h)
                    refine g_dload_n C dX7_at_93 3 rfl rfl ?_
                    refine g_aload_n C dX7_at_94 0 rfl rfl ?_
                    refine g_iload C dX7_at_95 4 rfl ?_
                    refine g_callV (As := [.int (nI d)]) (rest := [.double (flM H (sF σ 40) (tn a) d)]) C dX7_at_97 (kX7_flowOf (xl X) (xK X) C.hD (uN σ 5 (nI (cdQ nj 2 sv a b))) hM hp hP hdt) wl27 rfl 1 gX7_at_X7_flowOf rfl (by decide +kernel) ⟨Nat.le_of_ble_eq_true rfl, Nat.le_of_ble_eq_true rfl⟩ ⟨Nat.le_of_ble_eq_true rfl, Nat.le_of_ble_eq_true rfl⟩ rfl rfl (Nat.le_of_ble_eq_true rfl) (fun rv9 σ9 h9 => ?_)
                    obtain ⟨h9a, h9b⟩ := h9
                    refine g_eq (σ2 := uN σ 5 (nI (cdQ nj 2 sv a b))) (lv2 := [(0, .ref ((xK X).2.2 27)), (1, .int (nI (tn a))), (2, .int (nI (tn b))), (3, .double (flM H (sF σ 40) (tn a) d)), (5, .int (nI d))]) (st2 := [.double (flw H (sF σ 40) d), .double (flM H (sF σ 40) (tn a) d)]) h9b rfl (by rw [h9a]; rfl) ?_
                    refine g_dsub C dX7_at_100 (((flM_B hp hP (tn a) d (Nat.le_of_lt hdt)).sub ((flx_B hp hP hdt).mono (by omega)) ⟨rfl, by omega⟩).F.ok) ?_
                    refine g_goto (tgt := 105) C dX7_at_101 (by decide) ?_
                    refine g_topd (y := flM H (sF σ 40) (tn a) (d + 1)) (by rw [flM_up]; first | rw [if_pos hB] | rw [if_neg hB, if_pos hA] | rw [if_neg hB, if_neg hA]) ?_
                    refine g_dstore_n (lv' := [(3, .double (flM H (sF σ 40) (tn a) (d + 1))), (0, .ref ((xK X).2.2 27)), (1, .int (nI (tn a))), (2, .int (nI (tn b))), (5, .int (nI d))]) C dX7_at_105 rfl (by decide) rfl ?_
                    refine g_iinc (v := nI (d + 1)) (lv' := [(5, .int (nI (d + 1))), (3, .double (flM H (sF σ 40) (tn a) (d + 1))), (0, .ref ((xK X).2.2 27)), (1, .int (nI (tn a))), (2, .int (nI (tn b)))]) C dX7_at_106 4 rfl (nI_1 d) (by decide) rfl ?_
                    refine g_goto (tgt := 47) C dX7_at_109 (by decide) ?_
                    refine g_lv [2, 3, 4, 1, 0] rfl ?_
                    exact ih47 (d + 1) (by omega) (by omega) (fun h => absurd h hja)
                · have hB : pB H d = tn a := (nI_eq (by omega) (by omega)).mp (Decidable.byContradiction fun h => absurd c_68 h)
                  refine g_dload_n C dX7_at_71 3 rfl rfl ?_
                  refine g_aload_n C dX7_at_72 0 rfl rfl ?_
                  refine g_iload C dX7_at_73 4 rfl ?_
                  refine g_callV (As := [.int (nI d)]) (rest := [.double (flM H (sF σ 40) (tn a) d)]) C dX7_at_75 (kX7_flowOf (xl X) (xK X) C.hD (uN σ 5 (nI (cdQ nj 2 sv a b))) hM hp hP hdt) wl27 rfl 1 gX7_at_X7_flowOf rfl (by decide +kernel) ⟨Nat.le_of_ble_eq_true rfl, Nat.le_of_ble_eq_true rfl⟩ ⟨Nat.le_of_ble_eq_true rfl, Nat.le_of_ble_eq_true rfl⟩ rfl rfl (Nat.le_of_ble_eq_true rfl) (fun rv9 σ9 h9 => ?_)
                  obtain ⟨h9a, h9b⟩ := h9
                  refine g_eq (σ2 := uN σ 5 (nI (cdQ nj 2 sv a b))) (lv2 := [(0, .ref ((xK X).2.2 27)), (1, .int (nI (tn a))), (2, .int (nI (tn b))), (3, .double (flM H (sF σ 40) (tn a) d)), (5, .int (nI d))]) (st2 := [.double (flw H (sF σ 40) d), .double (flM H (sF σ 40) (tn a) d)]) h9b rfl (by rw [h9a]; rfl) ?_
                  refine g_dadd C dX7_at_78 (((flM_B hp hP (tn a) d (Nat.le_of_lt hdt)).add ((flx_B hp hP hdt).mono (by omega)) ⟨rfl, by omega⟩).F.ok) ?_
                  refine g_goto (tgt := 105) C dX7_at_79 (by decide) ?_
                  refine g_topd (y := flM H (sF σ 40) (tn a) (d + 1)) (by rw [flM_up]; first | rw [if_pos hB] | rw [if_neg hB, if_pos hA] | rw [if_neg hB, if_neg hA]) ?_
                  refine g_dstore_n (lv' := [(3, .double (flM H (sF σ 40) (tn a) (d + 1))), (0, .ref ((xK X).2.2 27)), (1, .int (nI (tn a))), (2, .int (nI (tn b))), (5, .int (nI d))]) C dX7_at_105 rfl (by decide) rfl ?_
                  refine g_iinc (v := nI (d + 1)) (lv' := [(5, .int (nI (d + 1))), (3, .double (flM H (sF σ 40) (tn a) (d + 1))), (0, .ref ((xK X).2.2 27)), (1, .int (nI (tn a))), (2, .int (nI (tn b)))]) C dX7_at_106 4 rfl (nI_1 d) (by decide) rfl ?_
                  refine g_goto (tgt := 47) C dX7_at_109 (by decide) ?_
                  refine g_lv [2, 3, 4, 1, 0] rfl ?_
                  exact ih47 (d + 1) (by omega) (by omega) (fun h => absurd h hja)
        refine g_lv [2, 3, 4, 1, 0] rfl ?_
        exact loop47 (pD H + 1) 0 (by omega) (Nat.zero_le _) (fun _ => rfl)
      · have hb0 : tn b = 0 := (nI_eq (a := tn b) (b := 0) (by omega) (by decide)).mp (Decidable.byContradiction fun h => absurd c_32 h)
        refine g_aload_n C dX7_at_35 0 rfl rfl ?_
        refine g_get C dX7_at_36 wl27 rfl 18 (by decide) 1 rfl rfl rfl inX7_at_X7 ?_
        refine g_iload_n C dX7_at_39 1 rfl rfl ?_
        refine g_dald (j := (tn a)) C dX7_at_40 wl40 rfl (by omega) (by decide) ?_
        refine g_dret C dX7_at_41 rfl ⟨Nat.le_of_ble_eq_true rfl, Nat.le_of_ble_eq_true rfl⟩ ?_
        rw [hF]
        exact ⟨fun h => absurd hc0 h, fun _ => ⟨by unfold atM; rw [if_pos hb0]; try rfl, by rw [hc0]; try rfl⟩⟩
    · have hc1 : cdQ nj 2 sv a b ≠ 0 := Nat.pos_iff_ne_zero.mp (of_decide_eq_true (bIt c_26))
      refine g_dconst0 C dX7_at_29 ?_
      refine g_dret C dX7_at_30 rfl ⟨Nat.le_of_ble_eq_true rfl, Nat.le_of_ble_eq_true rfl⟩ ?_
      rw [hF]
      exact ⟨fun _ => ⟨rfl, rfl⟩, fun h => absurd h hc1⟩
  · refine g_iload_n C dX7_at_9 2 rfl rfl ?_
    refine g_iconst (v := nI 0) C dX7_at_10 (by decide +kernel) ?_
    refine g_iconst (v := nI 1) C dX7_at_11 (by decide +kernel) ?_
    refine g_callS (As := [.int b, .int (nI 0), .int (nI 1)]) (rest := [.ref ((xK X).2.2 27)]) C dX7_at_12 (kX7_isIn (xl X) (xK X) C.hD σ b (nI 0) (nI 1)) 3 gX7_at_X7_isIn rfl (by decide +kernel) ⟨Nat.le_of_ble_eq_true rfl, Nat.le_of_ble_eq_true rfl⟩ ⟨Nat.le_of_ble_eq_true rfl, Nat.le_of_ble_eq_true rfl⟩ rfl rfl (Nat.le_of_ble_eq_true rfl) (fun rv9 σ9 h9 => ?_)
    obtain ⟨h9a, h9b⟩ := h9
    refine g_eq (σ2 := σ) (lv2 := [(0, .ref ((xK X).2.2 27)), (1, .int a), (2, .int b)]) (st2 := [.int (bI (inB b (nI 0) (nI 1))), .ref ((xK X).2.2 27)]) h9b rfl (by rw [h9a]; rfl) ?_
    refine g_topi (y := bI (decide (inR b 2))) (congrArg bI (inB_C (n := 1) (by decide))) ?_
    refine g_if_eq (tgt := 22) C dX7_at_15 (by decide) (fun c_15 => ?_) (fun c_15 => ?_)
    · refine g_iconst (v := nI 0) C dX7_at_22 (by decide +kernel) ?_
      refine g_topi (y := bI (decide (inR a nj ∧ inR b 2))) (by first | (rw [decide_eq_false (show ¬ (inR a nj ∧ inR b 2) from fun h => absurd h.1 (of_decide_eq_false ((bI_ne _).mp c_6)))]; rfl) | (rw [decide_eq_false (show ¬ (inR a nj ∧ inR b 2) from fun h => absurd h.2 (of_decide_eq_false ((bI_ne _).mp c_15)))]; rfl) | (rw [decide_eq_true (show inR a nj ∧ inR b 2 from ⟨of_decide_eq_true (bIt c_6), of_decide_eq_true (bIt c_15)⟩)]; rfl)) ?_
      refine g_callV (As := [.int (bI (decide (inR a nj ∧ inR b 2)))]) (rest := []) C dX7_at_23 (kX7_isWrong (xl X) (xK X) C.hD σ (decide (inR a nj ∧ inR b 2)) hsv) wl27 rfl 1 gX7_at_X7_isWrong rfl (by decide +kernel) ⟨Nat.le_of_ble_eq_true rfl, Nat.le_of_ble_eq_true rfl⟩ ⟨Nat.le_of_ble_eq_true rfl, Nat.le_of_ble_eq_true rfl⟩ rfl rfl (Nat.le_of_ble_eq_true rfl) (fun rv9 σ9 h9 => ?_)
      obtain ⟨h9a, h9b⟩ := h9
      refine g_eq (σ2 := uN σ 5 (nI (cdQ nj 2 sv a b))) (lv2 := [(0, .ref ((xK X).2.2 27)), (1, .int a), (2, .int b)]) (st2 := [.int (bI (decide (0 < cdQ nj 2 sv a b)))]) (by rw [h9b, cdQ_wr]) rfl (by rw [h9a, cdQ_wr]; rfl) ?_
      refine g_if_eq (tgt := 31) C dX7_at_26 (by decide) (fun c_26 => ?_) (fun c_26 => ?_)
      · have hc0 : cdQ nj 2 sv a b = 0 := Nat.eq_zero_of_not_pos (of_decide_eq_false ((bI_ne _).mp c_26))
        have tab := cdQ_0 hc0
        have ta := inT tab.1 (by omega)
        have tb := inT tab.2.1 (by decide)
        refine g_eq (σ2 := uN σ 5 (nI (cdQ nj 2 sv a b))) (lv2 := [(0, .ref ((xK X).2.2 27)), (1, .int (nI (tn a))), (2, .int b)]) (st2 := []) rfl (congrArg (fun z9 => ([(0, .ref ((xK X).2.2 27)), (1, .int z9), (2, .int b)] : List (Nat × Value))) ta.1) rfl ?_
        refine g_eq (σ2 := uN σ 5 (nI (cdQ nj 2 sv a b))) (lv2 := [(0, .ref ((xK X).2.2 27)), (1, .int (nI (tn a))), (2, .int (nI (tn b)))]) (st2 := []) rfl (congrArg (fun z9 => ([(0, .ref ((xK X).2.2 27)), (1, .int (nI (tn a))), (2, .int z9)] : List (Nat × Value))) tb.1) rfl ?_
        refine g_iload_n C dX7_at_31 2 rfl rfl ?_
        refine g_if_ne (tgt := 42) C dX7_at_32 (by decide) (fun c_32 => ?_) (fun c_32 => ?_)
        · have hb0 : ¬ tn b = 0 := fun h => c_32 (congrArg nI h)
          refine g_dconst0 C dX7_at_42 ?_
          refine g_dstore_n (lv' := [(3, .double FP.dconst0), (0, .ref ((xK X).2.2 27)), (1, .int (nI (tn a))), (2, .int (nI (tn b)))]) C dX7_at_43 rfl (by decide) rfl ?_
          refine g_iconst (v := nI 0) C dX7_at_44 (by decide +kernel) ?_
          refine g_istore (lv' := [(5, .int (nI 0)), (3, .double FP.dconst0), (0, .ref ((xK X).2.2 27)), (1, .int (nI (tn a))), (2, .int (nI (tn b)))]) C dX7_at_45 (by decide) rfl ?_
          have loop47 : ∀ (r9 : Nat) (d : Nat), pD H - d < r9 → (d ≤ pD H) → (tn a = 0 → d = 0) → G X 6 0 0 (uN σ 5 (nI (cdQ nj 2 sv a b))) [(0, .ref ((xK X).2.2 27)), (1, .int (nI (tn a))), (2, .int (nI (tn b))), (3, .double (flM H (sF σ 40) (tn a) d)), (5, .int (nI d))] 47 [] := by
            intro r9
            induction r9 with
            | zero => intro d h9; exact absurd h9 (Nat.not_lt_zero _)
            | succ r9 ih47 =>
              intro d hm47 hd hz
              refine g_iload C dX7_at_47 4 rfl ?_
              refine g_aload_n C dX7_at_49 0 rfl rfl ?_
              refine g_get C dX7_at_50 wl27 rfl 2 (by decide) 2 rfl rfl rfl inX7_at_X7 ?_
              refine g_topi (y := nI (pD H)) hM.nd ?_
              refine g_icmp_ge (tgt := 112) C dX7_at_53 (by decide) (fun c_53 => ?_) (fun c_53 => ?_)
              · have hde : d = pD H := by
                  have h9 := (nI_leI (by  omega) (by  omega)).mp c_53
                  omega
                refine g_eq (σ2 := uN σ 5 (nI (cdQ nj 2 sv a b))) (lv2 := [(0, .ref ((xK X).2.2 27)), (1, .int (nI (tn a))), (2, .int (nI (tn b))), (3, .double (atA H (sF σ 40) (tn a))), (5, .int (nI d))]) (st2 := []) rfl (congrArg (fun z9 => ([(0, .ref ((xK X).2.2 27)), (1, .int (nI (tn a))), (2, .int (nI (tn b))), (3, .double z9), (5, .int (nI d))] : List (Nat × Value))) (by
  unfold atA
  by_cases h9 : tn a = 0
  · rw [if_pos h9, hz h9]; rfl
  · rw [if_neg h9, hde])) rfl ?_
                refine g_iconst (v := nI 0) C dX7_at_112 (by decide +kernel) ?_
                refine g_istore (lv' := [(5, .int (nI 0)), (0, .ref ((xK X).2.2 27)), (1, .int (nI (tn a))), (2, .int (nI (tn b))), (3, .double (atA H (sF σ 40) (tn a)))]) C dX7_at_113 (by decide) rfl ?_
                have loop115 : ∀ (r9 : Nat) (m : Nat), pM H - m < r9 → (m ≤ pM H) → (tn a = 0 → m = 0) → G X 6 0 0 (uN σ 5 (nI (cdQ nj 2 sv a b))) [(0, .ref ((xK X).2.2 27)), (1, .int (nI (tn a))), (2, .int (nI (tn b))), (3, .double (accF (atA H (sF σ 40) (tn a)) (opAt H (tn a)) (drV H (sF σ 40) (sF σ 38)) m)), (5, .int (nI m))] 115 [] := by
                  intro r9
                  induction r9 with
                  | zero => intro m h9; exact absurd h9 (Nat.not_lt_zero _)
                  | succ r9 ih115 =>
                    intro m hm115 hm hz
                    refine g_iload C dX7_at_115 4 rfl ?_
                    refine g_aload_n C dX7_at_117 0 rfl rfl ?_
                    refine g_get C dX7_at_118 wl27 rfl 10 (by decide) 5 rfl rfl rfl inX7_at_X7 ?_
                    refine g_topi (y := nI (pM H)) hM.nm ?_
                    refine g_icmp_ge (tgt := 168) C dX7_at_121 (by decide) (fun c_121 => ?_) (fun c_121 => ?_)
                    · have hme : m = pM H := by
                        have h9 := (nI_leI (by  omega) (by  omega)).mp c_121
                        omega
                      refine g_dload_n C dX7_at_168 3 rfl rfl ?_
                      refine g_dret C dX7_at_169 rfl ⟨Nat.le_of_ble_eq_true rfl, Nat.le_of_ble_eq_true rfl⟩ ?_
                      rw [hF]
                      exact ⟨fun h => absurd hc0 h, fun _ => ⟨by
                          unfold atM
                          rw [if_neg hb0]
                          by_cases h9 : tn a = 0
                          · rw [if_pos h9, hz h9]
                            unfold atA
                            rw [if_pos h9]
                            rfl
                          · rw [if_neg h9]
                            unfold atA
                            rw [if_neg h9]
                            first | rw [hme] | exact absurd hja h9, by rw [hc0]; try rfl⟩⟩
                    · have hmt : m < pM H := by
                        refine Nat.lt_of_not_le fun h => c_121 ?_
                        exact (nI_leI (by  omega) (by  omega)).mpr (by omega)
                      have hmm := hM.ma hmt
                      refine g_iload_n C dX7_at_124 1 rfl rfl ?_
                      refine g_if_le (tgt := 168) C dX7_at_125 (by decide) (fun c_125 => ?_) (fun c_125 => ?_)
                      · have hja : tn a = 0 := nI_le0 (by omega) c_125
                        have hz0 := hz hja
                        refine g_dload_n C dX7_at_168 3 rfl rfl ?_
                        refine g_dret C dX7_at_169 rfl ⟨Nat.le_of_ble_eq_true rfl, Nat.le_of_ble_eq_true rfl⟩ ?_
                        rw [hF]
                        exact ⟨fun h => absurd hc0 h, fun _ => ⟨by
                            unfold atM
                            rw [if_neg hb0]
                            by_cases h9 : tn a = 0
                            · rw [if_pos h9, hz h9]
                              unfold atA
                              rw [if_pos h9]
                              rfl
                            · rw [if_neg h9]
                              unfold atA
                              rw [if_neg h9]
                              first | rw [hme] | exact absurd hja h9, by rw [hc0]; try rfl⟩⟩
                      · have hja : tn a ≠ 0 := fun h => c_125 (by rw [h]; decide)
                        refine g_aload_n C dX7_at_128 0 rfl rfl ?_
                        refine g_get C dX7_at_129 wl27 rfl 15 (by decide) 6 rfl rfl rfl inX7_at_X7 ?_
                        refine g_iload C dX7_at_132 4 rfl ?_
                        refine g_zald (j := m) C dX7_at_134 wl39 rfl (by omega) (by decide) ?_
                        refine g_topi (y := bI (pO H m)) hmm.2.1 ?_
                        refine g_if_eq (tgt := 160) C dX7_at_135 (by decide) (fun c_135 => ?_) (fun c_135 => ?_)
                        · have hb : opAt H (tn a) m = false := by unfold opAt; rw [(bI_ne _).mp c_135]; rfl
                          refine g_dload_n C dX7_at_160 3 rfl rfl ?_
                          refine g_topd (y := accF (atA H (sF σ 40) (tn a)) (opAt H (tn a)) (drV H (sF σ 40) (sF σ 38)) (m + 1)) (by first | exact (accF_yes hb).symm | exact (accF_no hb).symm) ?_
                          refine g_dstore_n (lv' := [(3, .double (accF (atA H (sF σ 40) (tn a)) (opAt H (tn a)) (drV H (sF σ 40) (sF σ 38)) (m + 1))), (0, .ref ((xK X).2.2 27)), (1, .int (nI (tn a))), (2, .int (nI (tn b))), (5, .int (nI m))]) C dX7_at_161 rfl (by decide) rfl ?_
                          refine g_iinc (v := nI (m + 1)) (lv' := [(5, .int (nI (m + 1))), (3, .double (accF (atA H (sF σ 40) (tn a)) (opAt H (tn a)) (drV H (sF σ 40) (sF σ 38)) (m + 1))), (0, .ref ((xK X).2.2 27)), (1, .int (nI (tn a))), (2, .int (nI (tn b)))]) C dX7_at_162 4 rfl (nI_1 m) (by decide) rfl ?_
                          refine g_goto (tgt := 115) C dX7_at_165 (by decide) ?_
                          refine g_lv [2, 3, 4, 1, 0] rfl ?_
                          exact ih115 (m + 1) (by omega) (by omega) (fun h => absurd h hja)
                        · refine g_aload_n C dX7_at_138 0 rfl rfl ?_
                          refine g_get C dX7_at_139 wl27 rfl 11 (by decide) 7 rfl rfl rfl inX7_at_X7 ?_
                          refine g_iload C dX7_at_142 4 rfl ?_
                          refine g_iald (j := m) C dX7_at_144 wl35 rfl (by omega) (by decide) ?_
                          refine g_topi (y := nI (pJ H m)) hmm.1 ?_
                          refine g_iload_n C dX7_at_145 1 rfl rfl ?_
                          refine g_icmp_ne (tgt := 160) C dX7_at_146 (by decide) (fun c_146 => ?_) (fun c_146 => ?_)
                          · have hb : opAt H (tn a) m = false := by unfold opAt; rw [decide_eq_false (show ¬ pJ H m = tn a from fun h => c_146 (by rw [h])), Bool.and_false]
                            refine g_dload_n C dX7_at_160 3 rfl rfl ?_
                            refine g_topd (y := accF (atA H (sF σ 40) (tn a)) (opAt H (tn a)) (drV H (sF σ 40) (sF σ 38)) (m + 1)) (by first | exact (accF_yes hb).symm | exact (accF_no hb).symm) ?_
                            refine g_dstore_n (lv' := [(3, .double (accF (atA H (sF σ 40) (tn a)) (opAt H (tn a)) (drV H (sF σ 40) (sF σ 38)) (m + 1))), (0, .ref ((xK X).2.2 27)), (1, .int (nI (tn a))), (2, .int (nI (tn b))), (5, .int (nI m))]) C dX7_at_161 rfl (by decide) rfl ?_
                            refine g_iinc (v := nI (m + 1)) (lv' := [(5, .int (nI (m + 1))), (3, .double (accF (atA H (sF σ 40) (tn a)) (opAt H (tn a)) (drV H (sF σ 40) (sF σ 38)) (m + 1))), (0, .ref ((xK X).2.2 27)), (1, .int (nI (tn a))), (2, .int (nI (tn b)))]) C dX7_at_162 4 rfl (nI_1 m) (by decide) rfl ?_
                            refine g_goto (tgt := 115) C dX7_at_165 (by decide) ?_
                            refine g_lv [2, 3, 4, 1, 0] rfl ?_
                            exact ih115 (m + 1) (by omega) (by omega) (fun h => absurd h hja)
                          · have hb : opAt H (tn a) m = true := by
                              unfold opAt
                              rw [bIt c_135, decide_eq_true ((nI_eq (by omega) (by omega)).mp (Decidable.byContradiction fun h => absurd c_146 h))]
                              rfl
                            refine g_dload_n C dX7_at_149 3 rfl rfl ?_
                            refine g_aload_n C dX7_at_150 0 rfl rfl ?_
                            refine g_iload C dX7_at_151 4 rfl ?_
                            refine g_callV (As := [.int (nI m)]) (rest := [.double (accF (atA H (sF σ 40) (tn a)) (opAt H (tn a)) (drV H (sF σ 40) (sF σ 38)) m)]) C dX7_at_153 (kX7_drawOf (xl X) (xK X) C.hD (uN σ 5 (nI (cdQ nj 2 sv a b))) hM hp hP hg hmt) wl27 rfl 1 gX7_at_X7_drawOf rfl (by decide +kernel) ⟨Nat.le_of_ble_eq_true rfl, Nat.le_of_ble_eq_true rfl⟩ ⟨Nat.le_of_ble_eq_true rfl, Nat.le_of_ble_eq_true rfl⟩ rfl rfl (Nat.le_of_ble_eq_true rfl) (fun rv9 σ9 h9 => ?_)
                            obtain ⟨h9a, h9b⟩ := h9
                            refine g_eq (σ2 := uN σ 5 (nI (cdQ nj 2 sv a b))) (lv2 := [(0, .ref ((xK X).2.2 27)), (1, .int (nI (tn a))), (2, .int (nI (tn b))), (3, .double (accF (atA H (sF σ 40) (tn a)) (opAt H (tn a)) (drV H (sF σ 40) (sF σ 38)) m)), (5, .int (nI m))]) (st2 := [.double (drV H (sF σ 40) (sF σ 38) m), .double (accF (atA H (sF σ 40) (tn a)) (opAt H (tn a)) (drV H (sF σ 40) (sF σ 38)) m)]) h9b rfl (by rw [h9a]; rfl) ?_
                            refine g_dadd C dX7_at_156 (accF_ok (atA_B hp hP (tn a)) (n := pM H) (by omega) hmt (p := opAt H (tn a)) (g := drV H (sF σ 40) (sF σ 38)) (fun i hi _ => (drV_B hp hP hg hi).2.2.1.mono (by decide)) hb) ?_
                            refine g_goto (tgt := 161) C dX7_at_157 (by decide) ?_
                            refine g_topd (y := accF (atA H (sF σ 40) (tn a)) (opAt H (tn a)) (drV H (sF σ 40) (sF σ 38)) (m + 1)) (by first | exact (accF_yes hb).symm | exact (accF_no hb).symm) ?_
                            refine g_dstore_n (lv' := [(3, .double (accF (atA H (sF σ 40) (tn a)) (opAt H (tn a)) (drV H (sF σ 40) (sF σ 38)) (m + 1))), (0, .ref ((xK X).2.2 27)), (1, .int (nI (tn a))), (2, .int (nI (tn b))), (5, .int (nI m))]) C dX7_at_161 rfl (by decide) rfl ?_
                            refine g_iinc (v := nI (m + 1)) (lv' := [(5, .int (nI (m + 1))), (3, .double (accF (atA H (sF σ 40) (tn a)) (opAt H (tn a)) (drV H (sF σ 40) (sF σ 38)) (m + 1))), (0, .ref ((xK X).2.2 27)), (1, .int (nI (tn a))), (2, .int (nI (tn b)))]) C dX7_at_162 4 rfl (nI_1 m) (by decide) rfl ?_
                            refine g_goto (tgt := 115) C dX7_at_165 (by decide) ?_
                            refine g_lv [2, 3, 4, 1, 0] rfl ?_
                            exact ih115 (m + 1) (by omega) (by omega) (fun h => absurd h hja)
                refine g_lv [1, 2, 3, 4, 0] rfl ?_
                exact loop115 (pM H + 1) 0 (by omega) (Nat.zero_le _) (fun _ => rfl)
              · have hdt : d < pD H := by
                  refine Nat.lt_of_not_le fun h => c_53 ?_
                  exact (nI_leI (by  omega) (by  omega)).mpr (by omega)
                have hdd := hM.du hdt
                refine g_iload_n C dX7_at_56 1 rfl rfl ?_
                refine g_if_le (tgt := 112) C dX7_at_57 (by decide) (fun c_57 => ?_) (fun c_57 => ?_)
                · have hja : tn a = 0 := nI_le0 (by omega) c_57
                  have hz0 := hz hja
                  refine g_eq (σ2 := uN σ 5 (nI (cdQ nj 2 sv a b))) (lv2 := [(0, .ref ((xK X).2.2 27)), (1, .int (nI (tn a))), (2, .int (nI (tn b))), (3, .double (atA H (sF σ 40) (tn a))), (5, .int (nI d))]) (st2 := []) rfl (congrArg (fun z9 => ([(0, .ref ((xK X).2.2 27)), (1, .int (nI (tn a))), (2, .int (nI (tn b))), (3, .double z9), (5, .int (nI d))] : List (Nat × Value))) (by unfold atA; rw [if_pos hja, hz0]; rfl)) rfl ?_
                  refine g_iconst (v := nI 0) C dX7_at_112 (by decide +kernel) ?_
                  refine g_istore (lv' := [(5, .int (nI 0)), (0, .ref ((xK X).2.2 27)), (1, .int (nI (tn a))), (2, .int (nI (tn b))), (3, .double (atA H (sF σ 40) (tn a)))]) C dX7_at_113 (by decide) rfl ?_
                  have loop115 : ∀ (r9 : Nat) (m : Nat), pM H - m < r9 → (m ≤ pM H) → (tn a = 0 → m = 0) → G X 6 0 0 (uN σ 5 (nI (cdQ nj 2 sv a b))) [(0, .ref ((xK X).2.2 27)), (1, .int (nI (tn a))), (2, .int (nI (tn b))), (3, .double (accF (atA H (sF σ 40) (tn a)) (opAt H (tn a)) (drV H (sF σ 40) (sF σ 38)) m)), (5, .int (nI m))] 115 [] := by
                    intro r9
                    induction r9 with
                    | zero => intro m h9; exact absurd h9 (Nat.not_lt_zero _)
                    | succ r9 ih115 =>
                      intro m hm115 hm hz
                      refine g_iload C dX7_at_115 4 rfl ?_
                      refine g_aload_n C dX7_at_117 0 rfl rfl ?_
                      refine g_get C dX7_at_118 wl27 rfl 10 (by decide) 5 rfl rfl rfl inX7_at_X7 ?_
                      refine g_topi (y := nI (pM H)) hM.nm ?_
                      refine g_icmp_ge (tgt := 168) C dX7_at_121 (by decide) (fun c_121 => ?_) (fun c_121 => ?_)
                      · have hme : m = pM H := by
                          have h9 := (nI_leI (by  omega) (by  omega)).mp c_121
                          omega
                        refine g_dload_n C dX7_at_168 3 rfl rfl ?_
                        refine g_dret C dX7_at_169 rfl ⟨Nat.le_of_ble_eq_true rfl, Nat.le_of_ble_eq_true rfl⟩ ?_
                        rw [hF]
                        exact ⟨fun h => absurd hc0 h, fun _ => ⟨by
                            unfold atM
                            rw [if_neg hb0]
                            by_cases h9 : tn a = 0
                            · rw [if_pos h9, hz h9]
                              unfold atA
                              rw [if_pos h9]
                              rfl
                            · rw [if_neg h9]
                              unfold atA
                              rw [if_neg h9]
                              first | rw [hme] | exact absurd hja h9, by rw [hc0]; try rfl⟩⟩
                      · have hmt : m < pM H := by
                          refine Nat.lt_of_not_le fun h => c_121 ?_
                          exact (nI_leI (by  omega) (by  omega)).mpr (by omega)
                        have hmm := hM.ma hmt
                        refine g_iload_n C dX7_at_124 1 rfl rfl ?_
                        refine g_if_le (tgt := 168) C dX7_at_125 (by decide) (fun c_125 => ?_) (fun c_125 => ?_)
                        · have hja : tn a = 0 := nI_le0 (by omega) c_125
                          have hz0 := hz hja
                          refine g_dload_n C dX7_at_168 3 rfl rfl ?_
                          refine g_dret C dX7_at_169 rfl ⟨Nat.le_of_ble_eq_true rfl, Nat.le_of_ble_eq_true rfl⟩ ?_
                          rw [hF]
                          exact ⟨fun h => absurd hc0 h, fun _ => ⟨by
                              unfold atM
                              rw [if_neg hb0]
                              by_cases h9 : tn a = 0
                              · rw [if_pos h9, hz h9]
                                unfold atA
                                rw [if_pos h9]
                                rfl
                              · rw [if_neg h9]
                                unfold atA
                                rw [if_neg h9]
                                first | rw [hme] | exact absurd hja h9, by rw [hc0]; try rfl⟩⟩
                        · have hja : tn a ≠ 0 := fun h => c_125 (by rw [h]; decide)
                          refine g_aload_n C dX7_at_128 0 rfl rfl ?_
                          refine g_get C dX7_at_129 wl27 rfl 15 (by decide) 6 rfl rfl rfl inX7_at_X7 ?_
                          refine g_iload C dX7_at_132 4 rfl ?_
                          refine g_zald (j := m) C dX7_at_134 wl39 rfl (by omega) (by decide) ?_
                          refine g_topi (y := bI (pO H m)) hmm.2.1 ?_
                          refine g_if_eq (tgt := 160) C dX7_at_135 (by decide) (fun c_135 => ?_) (fun c_135 => ?_)
                          · have hb : opAt H (tn a) m = false := by unfold opAt; rw [(bI_ne _).mp c_135]; rfl
                            refine g_dload_n C dX7_at_160 3 rfl rfl ?_
                            refine g_topd (y := accF (atA H (sF σ 40) (tn a)) (opAt H (tn a)) (drV H (sF σ 40) (sF σ 38)) (m + 1)) (by first | exact (accF_yes hb).symm | exact (accF_no hb).symm) ?_
                            refine g_dstore_n (lv' := [(3, .double (accF (atA H (sF σ 40) (tn a)) (opAt H (tn a)) (drV H (sF σ 40) (sF σ 38)) (m + 1))), (0, .ref ((xK X).2.2 27)), (1, .int (nI (tn a))), (2, .int (nI (tn b))), (5, .int (nI m))]) C dX7_at_161 rfl (by decide) rfl ?_
                            refine g_iinc (v := nI (m + 1)) (lv' := [(5, .int (nI (m + 1))), (3, .double (accF (atA H (sF σ 40) (tn a)) (opAt H (tn a)) (drV H (sF σ 40) (sF σ 38)) (m + 1))), (0, .ref ((xK X).2.2 27)), (1, .int (nI (tn a))), (2, .int (nI (tn b)))]) C dX7_at_162 4 rfl (nI_1 m) (by decide) rfl ?_
                            refine g_goto (tgt := 115) C dX7_at_165 (by decide) ?_
                            refine g_lv [2, 3, 4, 1, 0] rfl ?_
                            exact ih115 (m + 1) (by omega) (by omega) (fun h => absurd h hja)
                          · refine g_aload_n C dX7_at_138 0 rfl rfl ?_
                            refine g_get C dX7_at_139 wl27 rfl 11 (by decide) 7 rfl rfl rfl inX7_at_X7 ?_
                            refine g_iload C dX7_at_142 4 rfl ?_
                            refine g_iald (j := m) C dX7_at_144 wl35 rfl (by omega) (by decide) ?_
                            refine g_topi (y := nI (pJ H m)) hmm.1 ?_
                            refine g_iload_n C dX7_at_145 1 rfl rfl ?_
                            refine g_icmp_ne (tgt := 160) C dX7_at_146 (by decide) (fun c_146 => ?_) (fun c_146 => ?_)
                            · have hb : opAt H (tn a) m = false := by unfold opAt; rw [decide_eq_false (show ¬ pJ H m = tn a from fun h => c_146 (by rw [h])), Bool.and_false]
                              refine g_dload_n C dX7_at_160 3 rfl rfl ?_
                              refine g_topd (y := accF (atA H (sF σ 40) (tn a)) (opAt H (tn a)) (drV H (sF σ 40) (sF σ 38)) (m + 1)) (by first | exact (accF_yes hb).symm | exact (accF_no hb).symm) ?_
                              refine g_dstore_n (lv' := [(3, .double (accF (atA H (sF σ 40) (tn a)) (opAt H (tn a)) (drV H (sF σ 40) (sF σ 38)) (m + 1))), (0, .ref ((xK X).2.2 27)), (1, .int (nI (tn a))), (2, .int (nI (tn b))), (5, .int (nI m))]) C dX7_at_161 rfl (by decide) rfl ?_
                              refine g_iinc (v := nI (m + 1)) (lv' := [(5, .int (nI (m + 1))), (3, .double (accF (atA H (sF σ 40) (tn a)) (opAt H (tn a)) (drV H (sF σ 40) (sF σ 38)) (m + 1))), (0, .ref ((xK X).2.2 27)), (1, .int (nI (tn a))), (2, .int (nI (tn b)))]) C dX7_at_162 4 rfl (nI_1 m) (by decide) rfl ?_
                              refine g_goto (tgt := 115) C dX7_at_165 (by decide) ?_
                              refine g_lv [2, 3, 4, 1, 0] rfl ?_
                              exact ih115 (m + 1) (by omega) (by omega) (fun h => absurd h hja)
                            · have hb : opAt H (tn a) m = true := by
                                unfold opAt
                                rw [bIt c_135, decide_eq_true ((nI_eq (by omega) (by omega)).mp (Decidable.byContradiction fun h => absurd c_146 h))]
                                rfl
                              refine g_dload_n C dX7_at_149 3 rfl rfl ?_
                              refine g_aload_n C dX7_at_150 0 rfl rfl ?_
                              refine g_iload C dX7_at_151 4 rfl ?_
                              refine g_callV (As := [.int (nI m)]) (rest := [.double (accF (atA H (sF σ 40) (tn a)) (opAt H (tn a)) (drV H (sF σ 40) (sF σ 38)) m)]) C dX7_at_153 (kX7_drawOf (xl X) (xK X) C.hD (uN σ 5 (nI (cdQ nj 2 sv a b))) hM hp hP hg hmt) wl27 rfl 1 gX7_at_X7_drawOf rfl (by decide +kernel) ⟨Nat.le_of_ble_eq_true rfl, Nat.le_of_ble_eq_true rfl⟩ ⟨Nat.le_of_ble_eq_true rfl, Nat.le_of_ble_eq_true rfl⟩ rfl rfl (Nat.le_of_ble_eq_true rfl) (fun rv9 σ9 h9 => ?_)
                              obtain ⟨h9a, h9b⟩ := h9
                              refine g_eq (σ2 := uN σ 5 (nI (cdQ nj 2 sv a b))) (lv2 := [(0, .ref ((xK X).2.2 27)), (1, .int (nI (tn a))), (2, .int (nI (tn b))), (3, .double (accF (atA H (sF σ 40) (tn a)) (opAt H (tn a)) (drV H (sF σ 40) (sF σ 38)) m)), (5, .int (nI m))]) (st2 := [.double (drV H (sF σ 40) (sF σ 38) m), .double (accF (atA H (sF σ 40) (tn a)) (opAt H (tn a)) (drV H (sF σ 40) (sF σ 38)) m)]) h9b rfl (by rw [h9a]; rfl) ?_
                              refine g_dadd C dX7_at_156 (accF_ok (atA_B hp hP (tn a)) (n := pM H) (by omega) hmt (p := opAt H (tn a)) (g := drV H (sF σ 40) (sF σ 38)) (fun i hi _ => (drV_B hp hP hg hi).2.2.1.mono (by decide)) hb) ?_
                              refine g_goto (tgt := 161) C dX7_at_157 (by decide) ?_
                              refine g_topd (y := accF (atA H (sF σ 40) (tn a)) (opAt H (tn a)) (drV H (sF σ 40) (sF σ 38)) (m + 1)) (by first | exact (accF_yes hb).symm | exact (accF_no hb).symm) ?_
                              refine g_dstore_n (lv' := [(3, .double (accF (atA H (sF σ 40) (tn a)) (opAt H (tn a)) (drV H (sF σ 40) (sF σ 38)) (m + 1))), (0, .ref ((xK X).2.2 27)), (1, .int (nI (tn a))), (2, .int (nI (tn b))), (5, .int (nI m))]) C dX7_at_161 rfl (by decide) rfl ?_
                              refine g_iinc (v := nI (m + 1)) (lv' := [(5, .int (nI (m + 1))), (3, .double (accF (atA H (sF σ 40) (tn a)) (opAt H (tn a)) (drV H (sF σ 40) (sF σ 38)) (m + 1))), (0, .ref ((xK X).2.2 27)), (1, .int (nI (tn a))), (2, .int (nI (tn b)))]) C dX7_at_162 4 rfl (nI_1 m) (by decide) rfl ?_
                              refine g_goto (tgt := 115) C dX7_at_165 (by decide) ?_
                              refine g_lv [2, 3, 4, 1, 0] rfl ?_
                              exact ih115 (m + 1) (by omega) (by omega) (fun h => absurd h hja)
                  refine g_lv [1, 2, 3, 4, 0] rfl ?_
                  exact loop115 (pM H + 1) 0 (by omega) (Nat.zero_le _) (fun _ => rfl)
                · have hja : tn a ≠ 0 := fun h => c_57 (by rw [h]; decide)
                  refine g_aload_n C dX7_at_60 0 rfl rfl ?_
                  refine g_get C dX7_at_61 wl27 rfl 4 (by decide) 3 rfl rfl rfl inX7_at_X7 ?_
                  refine g_iload C dX7_at_64 4 rfl ?_
                  refine g_iald (j := d) C dX7_at_66 wl29 rfl (by omega) (by decide) ?_
                  refine g_topi (y := nI (pB H d)) hdd.2.1 ?_
                  refine g_iload_n C dX7_at_67 1 rfl rfl ?_
                  refine g_icmp_ne (tgt := 82) C dX7_at_68 (by decide) (fun c_68 => ?_) (fun c_68 => ?_)
                  · have hB : ¬ pB H d = tn a := fun h => c_68 (by rw [h])
                    refine g_aload_n C dX7_at_82 0 rfl rfl ?_
                    refine g_get C dX7_at_83 wl27 rfl 3 (by decide) 4 rfl rfl rfl inX7_at_X7 ?_
                    refine g_iload C dX7_at_86 4 rfl ?_
                    refine g_iald (j := d) C dX7_at_88 wl28 rfl (by omega) (by decide) ?_
                    refine g_topi (y := nI (pA H d)) hdd.1 ?_
                    refine g_iload_n C dX7_at_89 1 rfl rfl ?_
                    refine g_icmp_ne (tgt := 104) C dX7_at_90 (by decide) (fun c_90 => ?_) (fun c_90 => ?_)
                    · have hA : ¬ pA H d = tn a := fun h => c_90 (by rw [h])
                      refine g_dload_n C dX7_at_104 3 rfl rfl ?_
                      refine g_topd (y := flM H (sF σ 40) (tn a) (d + 1)) (by rw [flM_up]; first | rw [if_pos hB] | rw [if_neg hB, if_pos hA] | rw [if_neg hB, if_neg hA]) ?_
                      refine g_dstore_n (lv' := [(3, .double (flM H (sF σ 40) (tn a) (d + 1))), (0, .ref ((xK X).2.2 27)), (1, .int (nI (tn a))), (2, .int (nI (tn b))), (5, .int (nI d))]) C dX7_at_105 rfl (by decide) rfl ?_
                      refine g_iinc (v := nI (d + 1)) (lv' := [(5, .int (nI (d + 1))), (3, .double (flM H (sF σ 40) (tn a) (d + 1))), (0, .ref ((xK X).2.2 27)), (1, .int (nI (tn a))), (2, .int (nI (tn b)))]) C dX7_at_106 4 rfl (nI_1 d) (by decide) rfl ?_
                      refine g_goto (tgt := 47) C dX7_at_109 (by decide) ?_
                      refine g_lv [2, 3, 4, 1, 0] rfl ?_
                      exact ih47 (d + 1) (by omega) (by omega) (fun h => absurd h hja)
                    · have hA : pA H d = tn a := (nI_eq (by omega) (by omega)).mp (Decidable.byContradiction fun h => absurd c_90 h)
                      refine g_dload_n C dX7_at_93 3 rfl rfl ?_
                      refine g_aload_n C dX7_at_94 0 rfl rfl ?_
                      refine g_iload C dX7_at_95 4 rfl ?_
                      refine g_callV (As := [.int (nI d)]) (rest := [.double (flM H (sF σ 40) (tn a) d)]) C dX7_at_97 (kX7_flowOf (xl X) (xK X) C.hD (uN σ 5 (nI (cdQ nj 2 sv a b))) hM hp hP hdt) wl27 rfl 1 gX7_at_X7_flowOf rfl (by decide +kernel) ⟨Nat.le_of_ble_eq_true rfl, Nat.le_of_ble_eq_true rfl⟩ ⟨Nat.le_of_ble_eq_true rfl, Nat.le_of_ble_eq_true rfl⟩ rfl rfl (Nat.le_of_ble_eq_true rfl) (fun rv9 σ9 h9 => ?_)
                      obtain ⟨h9a, h9b⟩ := h9
                      refine g_eq (σ2 := uN σ 5 (nI (cdQ nj 2 sv a b))) (lv2 := [(0, .ref ((xK X).2.2 27)), (1, .int (nI (tn a))), (2, .int (nI (tn b))), (3, .double (flM H (sF σ 40) (tn a) d)), (5, .int (nI d))]) (st2 := [.double (flw H (sF σ 40) d), .double (flM H (sF σ 40) (tn a) d)]) h9b rfl (by rw [h9a]; rfl) ?_
                      refine g_dsub C dX7_at_100 (((flM_B hp hP (tn a) d (Nat.le_of_lt hdt)).sub ((flx_B hp hP hdt).mono (by omega)) ⟨rfl, by omega⟩).F.ok) ?_
                      refine g_goto (tgt := 105) C dX7_at_101 (by decide) ?_
                      refine g_topd (y := flM H (sF σ 40) (tn a) (d + 1)) (by rw [flM_up]; first | rw [if_pos hB] | rw [if_neg hB, if_pos hA] | rw [if_neg hB, if_neg hA]) ?_
                      refine g_dstore_n (lv' := [(3, .double (flM H (sF σ 40) (tn a) (d + 1))), (0, .ref ((xK X).2.2 27)), (1, .int (nI (tn a))), (2, .int (nI (tn b))), (5, .int (nI d))]) C dX7_at_105 rfl (by decide) rfl ?_
                      refine g_iinc (v := nI (d + 1)) (lv' := [(5, .int (nI (d + 1))), (3, .double (flM H (sF σ 40) (tn a) (d + 1))), (0, .ref ((xK X).2.2 27)), (1, .int (nI (tn a))), (2, .int (nI (tn b)))]) C dX7_at_106 4 rfl (nI_1 d) (by decide) rfl ?_
                      refine g_goto (tgt := 47) C dX7_at_109 (by decide) ?_
                      refine g_lv [2, 3, 4, 1, 0] rfl ?_
                      exact ih47 (d + 1) (by omega) (by omega) (fun h => absurd h hja)
                  · have hB : pB H d = tn a := (nI_eq (by omega) (by omega)).mp (Decidable.byContradiction fun h => absurd c_68 h)
                    refine g_dload_n C dX7_at_71 3 rfl rfl ?_
                    refine g_aload_n C dX7_at_72 0 rfl rfl ?_
                    refine g_iload C dX7_at_73 4 rfl ?_
                    refine g_callV (As := [.int (nI d)]) (rest := [.double (flM H (sF σ 40) (tn a) d)]) C dX7_at_75 (kX7_flowOf (xl X) (xK X) C.hD (uN σ 5 (nI (cdQ nj 2 sv a b))) hM hp hP hdt) wl27 rfl 1 gX7_at_X7_flowOf rfl (by decide +kernel) ⟨Nat.le_of_ble_eq_true rfl, Nat.le_of_ble_eq_true rfl⟩ ⟨Nat.le_of_ble_eq_true rfl, Nat.le_of_ble_eq_true rfl⟩ rfl rfl (Nat.le_of_ble_eq_true rfl) (fun rv9 σ9 h9 => ?_)
                    obtain ⟨h9a, h9b⟩ := h9
                    refine g_eq (σ2 := uN σ 5 (nI (cdQ nj 2 sv a b))) (lv2 := [(0, .ref ((xK X).2.2 27)), (1, .int (nI (tn a))), (2, .int (nI (tn b))), (3, .double (flM H (sF σ 40) (tn a) d)), (5, .int (nI d))]) (st2 := [.double (flw H (sF σ 40) d), .double (flM H (sF σ 40) (tn a) d)]) h9b rfl (by rw [h9a]; rfl) ?_
                    refine g_dadd C dX7_at_78 (((flM_B hp hP (tn a) d (Nat.le_of_lt hdt)).add ((flx_B hp hP hdt).mono (by omega)) ⟨rfl, by omega⟩).F.ok) ?_
                    refine g_goto (tgt := 105) C dX7_at_79 (by decide) ?_
                    refine g_topd (y := flM H (sF σ 40) (tn a) (d + 1)) (by rw [flM_up]; first | rw [if_pos hB] | rw [if_neg hB, if_pos hA] | rw [if_neg hB, if_neg hA]) ?_
                    refine g_dstore_n (lv' := [(3, .double (flM H (sF σ 40) (tn a) (d + 1))), (0, .ref ((xK X).2.2 27)), (1, .int (nI (tn a))), (2, .int (nI (tn b))), (5, .int (nI d))]) C dX7_at_105 rfl (by decide) rfl ?_
                    refine g_iinc (v := nI (d + 1)) (lv' := [(5, .int (nI (d + 1))), (3, .double (flM H (sF σ 40) (tn a) (d + 1))), (0, .ref ((xK X).2.2 27)), (1, .int (nI (tn a))), (2, .int (nI (tn b)))]) C dX7_at_106 4 rfl (nI_1 d) (by decide) rfl ?_
                    refine g_goto (tgt := 47) C dX7_at_109 (by decide) ?_
                    refine g_lv [2, 3, 4, 1, 0] rfl ?_
                    exact ih47 (d + 1) (by omega) (by omega) (fun h => absurd h hja)
          refine g_lv [2, 3, 4, 1, 0] rfl ?_
          exact loop47 (pD H + 1) 0 (by omega) (Nat.zero_le _) (fun _ => rfl)
        · have hb0 : tn b = 0 := (nI_eq (a := tn b) (b := 0) (by omega) (by decide)).mp (Decidable.byContradiction fun h => absurd c_32 h)
          refine g_aload_n C dX7_at_35 0 rfl rfl ?_
          refine g_get C dX7_at_36 wl27 rfl 18 (by decide) 1 rfl rfl rfl inX7_at_X7 ?_
          refine g_iload_n C dX7_at_39 1 rfl rfl ?_
          refine g_dald (j := (tn a)) C dX7_at_40 wl40 rfl (by omega) (by decide) ?_
          refine g_dret C dX7_at_41 rfl ⟨Nat.le_of_ble_eq_true rfl, Nat.le_of_ble_eq_true rfl⟩ ?_
          rw [hF]
          exact ⟨fun h => absurd hc0 h, fun _ => ⟨by unfold atM; rw [if_pos hb0]; try rfl, by rw [hc0]; try rfl⟩⟩
      · have hc1 : cdQ nj 2 sv a b ≠ 0 := Nat.pos_iff_ne_zero.mp (of_decide_eq_true (bIt c_26))
        refine g_dconst0 C dX7_at_29 ?_
        refine g_dret C dX7_at_30 rfl ⟨Nat.le_of_ble_eq_true rfl, Nat.le_of_ble_eq_true rfl⟩ ?_
        rw [hF]
        exact ⟨fun _ => ⟨rfl, rfl⟩, fun h => absurd h hc1⟩
    · refine g_iconst (v := nI 1) C dX7_at_18 (by decide +kernel) ?_
      refine g_goto (tgt := 23) C dX7_at_19 (by decide) ?_
      refine g_topi (y := bI (decide (inR a nj ∧ inR b 2))) (by first | (rw [decide_eq_false (show ¬ (inR a nj ∧ inR b 2) from fun h => absurd h.1 (of_decide_eq_false ((bI_ne _).mp c_6)))]; rfl) | (rw [decide_eq_false (show ¬ (inR a nj ∧ inR b 2) from fun h => absurd h.2 (of_decide_eq_false ((bI_ne _).mp c_15)))]; rfl) | (rw [decide_eq_true (show inR a nj ∧ inR b 2 from ⟨of_decide_eq_true (bIt c_6), of_decide_eq_true (bIt c_15)⟩)]; rfl)) ?_
      refine g_callV (As := [.int (bI (decide (inR a nj ∧ inR b 2)))]) (rest := []) C dX7_at_23 (kX7_isWrong (xl X) (xK X) C.hD σ (decide (inR a nj ∧ inR b 2)) hsv) wl27 rfl 1 gX7_at_X7_isWrong rfl (by decide +kernel) ⟨Nat.le_of_ble_eq_true rfl, Nat.le_of_ble_eq_true rfl⟩ ⟨Nat.le_of_ble_eq_true rfl, Nat.le_of_ble_eq_true rfl⟩ rfl rfl (Nat.le_of_ble_eq_true rfl) (fun rv9 σ9 h9 => ?_)
      obtain ⟨h9a, h9b⟩ := h9
      refine g_eq (σ2 := uN σ 5 (nI (cdQ nj 2 sv a b))) (lv2 := [(0, .ref ((xK X).2.2 27)), (1, .int a), (2, .int b)]) (st2 := [.int (bI (decide (0 < cdQ nj 2 sv a b)))]) (by rw [h9b, cdQ_wr]) rfl (by rw [h9a, cdQ_wr]; rfl) ?_
      refine g_if_eq (tgt := 31) C dX7_at_26 (by decide) (fun c_26 => ?_) (fun c_26 => ?_)
      · have hc0 : cdQ nj 2 sv a b = 0 := Nat.eq_zero_of_not_pos (of_decide_eq_false ((bI_ne _).mp c_26))
        have tab := cdQ_0 hc0
        have ta := inT tab.1 (by omega)
        have tb := inT tab.2.1 (by decide)
        refine g_eq (σ2 := uN σ 5 (nI (cdQ nj 2 sv a b))) (lv2 := [(0, .ref ((xK X).2.2 27)), (1, .int (nI (tn a))), (2, .int b)]) (st2 := []) rfl (congrArg (fun z9 => ([(0, .ref ((xK X).2.2 27)), (1, .int z9), (2, .int b)] : List (Nat × Value))) ta.1) rfl ?_
        refine g_eq (σ2 := uN σ 5 (nI (cdQ nj 2 sv a b))) (lv2 := [(0, .ref ((xK X).2.2 27)), (1, .int (nI (tn a))), (2, .int (nI (tn b)))]) (st2 := []) rfl (congrArg (fun z9 => ([(0, .ref ((xK X).2.2 27)), (1, .int (nI (tn a))), (2, .int z9)] : List (Nat × Value))) tb.1) rfl ?_
        refine g_iload_n C dX7_at_31 2 rfl rfl ?_
        refine g_if_ne (tgt := 42) C dX7_at_32 (by decide) (fun c_32 => ?_) (fun c_32 => ?_)
        · have hb0 : ¬ tn b = 0 := fun h => c_32 (congrArg nI h)
          refine g_dconst0 C dX7_at_42 ?_
          refine g_dstore_n (lv' := [(3, .double FP.dconst0), (0, .ref ((xK X).2.2 27)), (1, .int (nI (tn a))), (2, .int (nI (tn b)))]) C dX7_at_43 rfl (by decide) rfl ?_
          refine g_iconst (v := nI 0) C dX7_at_44 (by decide +kernel) ?_
          refine g_istore (lv' := [(5, .int (nI 0)), (3, .double FP.dconst0), (0, .ref ((xK X).2.2 27)), (1, .int (nI (tn a))), (2, .int (nI (tn b)))]) C dX7_at_45 (by decide) rfl ?_
          have loop47 : ∀ (r9 : Nat) (d : Nat), pD H - d < r9 → (d ≤ pD H) → (tn a = 0 → d = 0) → G X 6 0 0 (uN σ 5 (nI (cdQ nj 2 sv a b))) [(0, .ref ((xK X).2.2 27)), (1, .int (nI (tn a))), (2, .int (nI (tn b))), (3, .double (flM H (sF σ 40) (tn a) d)), (5, .int (nI d))] 47 [] := by
            intro r9
            induction r9 with
            | zero => intro d h9; exact absurd h9 (Nat.not_lt_zero _)
            | succ r9 ih47 =>
              intro d hm47 hd hz
              refine g_iload C dX7_at_47 4 rfl ?_
              refine g_aload_n C dX7_at_49 0 rfl rfl ?_
              refine g_get C dX7_at_50 wl27 rfl 2 (by decide) 2 rfl rfl rfl inX7_at_X7 ?_
              refine g_topi (y := nI (pD H)) hM.nd ?_
              refine g_icmp_ge (tgt := 112) C dX7_at_53 (by decide) (fun c_53 => ?_) (fun c_53 => ?_)
              · have hde : d = pD H := by
                  have h9 := (nI_leI (by  omega) (by  omega)).mp c_53
                  omega
                refine g_eq (σ2 := uN σ 5 (nI (cdQ nj 2 sv a b))) (lv2 := [(0, .ref ((xK X).2.2 27)), (1, .int (nI (tn a))), (2, .int (nI (tn b))), (3, .double (atA H (sF σ 40) (tn a))), (5, .int (nI d))]) (st2 := []) rfl (congrArg (fun z9 => ([(0, .ref ((xK X).2.2 27)), (1, .int (nI (tn a))), (2, .int (nI (tn b))), (3, .double z9), (5, .int (nI d))] : List (Nat × Value))) (by
  unfold atA
  by_cases h9 : tn a = 0
  · rw [if_pos h9, hz h9]; rfl
  · rw [if_neg h9, hde])) rfl ?_
                refine g_iconst (v := nI 0) C dX7_at_112 (by decide +kernel) ?_
                refine g_istore (lv' := [(5, .int (nI 0)), (0, .ref ((xK X).2.2 27)), (1, .int (nI (tn a))), (2, .int (nI (tn b))), (3, .double (atA H (sF σ 40) (tn a)))]) C dX7_at_113 (by decide) rfl ?_
                have loop115 : ∀ (r9 : Nat) (m : Nat), pM H - m < r9 → (m ≤ pM H) → (tn a = 0 → m = 0) → G X 6 0 0 (uN σ 5 (nI (cdQ nj 2 sv a b))) [(0, .ref ((xK X).2.2 27)), (1, .int (nI (tn a))), (2, .int (nI (tn b))), (3, .double (accF (atA H (sF σ 40) (tn a)) (opAt H (tn a)) (drV H (sF σ 40) (sF σ 38)) m)), (5, .int (nI m))] 115 [] := by
                  intro r9
                  induction r9 with
                  | zero => intro m h9; exact absurd h9 (Nat.not_lt_zero _)
                  | succ r9 ih115 =>
                    intro m hm115 hm hz
                    refine g_iload C dX7_at_115 4 rfl ?_
                    refine g_aload_n C dX7_at_117 0 rfl rfl ?_
                    refine g_get C dX7_at_118 wl27 rfl 10 (by decide) 5 rfl rfl rfl inX7_at_X7 ?_
                    refine g_topi (y := nI (pM H)) hM.nm ?_
                    refine g_icmp_ge (tgt := 168) C dX7_at_121 (by decide) (fun c_121 => ?_) (fun c_121 => ?_)
                    · have hme : m = pM H := by
                        have h9 := (nI_leI (by  omega) (by  omega)).mp c_121
                        omega
                      refine g_dload_n C dX7_at_168 3 rfl rfl ?_
                      refine g_dret C dX7_at_169 rfl ⟨Nat.le_of_ble_eq_true rfl, Nat.le_of_ble_eq_true rfl⟩ ?_
                      rw [hF]
                      exact ⟨fun h => absurd hc0 h, fun _ => ⟨by
                          unfold atM
                          rw [if_neg hb0]
                          by_cases h9 : tn a = 0
                          · rw [if_pos h9, hz h9]
                            unfold atA
                            rw [if_pos h9]
                            rfl
                          · rw [if_neg h9]
                            unfold atA
                            rw [if_neg h9]
                            first | rw [hme] | exact absurd hja h9, by rw [hc0]; try rfl⟩⟩
                    · have hmt : m < pM H := by
                        refine Nat.lt_of_not_le fun h => c_121 ?_
                        exact (nI_leI (by  omega) (by  omega)).mpr (by omega)
                      have hmm := hM.ma hmt
                      refine g_iload_n C dX7_at_124 1 rfl rfl ?_
                      refine g_if_le (tgt := 168) C dX7_at_125 (by decide) (fun c_125 => ?_) (fun c_125 => ?_)
                      · have hja : tn a = 0 := nI_le0 (by omega) c_125
                        have hz0 := hz hja
                        refine g_dload_n C dX7_at_168 3 rfl rfl ?_
                        refine g_dret C dX7_at_169 rfl ⟨Nat.le_of_ble_eq_true rfl, Nat.le_of_ble_eq_true rfl⟩ ?_
                        rw [hF]
                        exact ⟨fun h => absurd hc0 h, fun _ => ⟨by
                            unfold atM
                            rw [if_neg hb0]
                            by_cases h9 : tn a = 0
                            · rw [if_pos h9, hz h9]
                              unfold atA
                              rw [if_pos h9]
                              rfl
                            · rw [if_neg h9]
                              unfold atA
                              rw [if_neg h9]
                              first | rw [hme] | exact absurd hja h9, by rw [hc0]; try rfl⟩⟩
                      · have hja : tn a ≠ 0 := fun h => c_125 (by rw [h]; decide)
                        refine g_aload_n C dX7_at_128 0 rfl rfl ?_
                        refine g_get C dX7_at_129 wl27 rfl 15 (by decide) 6 rfl rfl rfl inX7_at_X7 ?_
                        refine g_iload C dX7_at_132 4 rfl ?_
                        refine g_zald (j := m) C dX7_at_134 wl39 rfl (by omega) (by decide) ?_
                        refine g_topi (y := bI (pO H m)) hmm.2.1 ?_
                        refine g_if_eq (tgt := 160) C dX7_at_135 (by decide) (fun c_135 => ?_) (fun c_135 => ?_)
                        · have hb : opAt H (tn a) m = false := by unfold opAt; rw [(bI_ne _).mp c_135]; rfl
                          refine g_dload_n C dX7_at_160 3 rfl rfl ?_
                          refine g_topd (y := accF (atA H (sF σ 40) (tn a)) (opAt H (tn a)) (drV H (sF σ 40) (sF σ 38)) (m + 1)) (by first | exact (accF_yes hb).symm | exact (accF_no hb).symm) ?_
                          refine g_dstore_n (lv' := [(3, .double (accF (atA H (sF σ 40) (tn a)) (opAt H (tn a)) (drV H (sF σ 40) (sF σ 38)) (m + 1))), (0, .ref ((xK X).2.2 27)), (1, .int (nI (tn a))), (2, .int (nI (tn b))), (5, .int (nI m))]) C dX7_at_161 rfl (by decide) rfl ?_
                          refine g_iinc (v := nI (m + 1)) (lv' := [(5, .int (nI (m + 1))), (3, .double (accF (atA H (sF σ 40) (tn a)) (opAt H (tn a)) (drV H (sF σ 40) (sF σ 38)) (m + 1))), (0, .ref ((xK X).2.2 27)), (1, .int (nI (tn a))), (2, .int (nI (tn b)))]) C dX7_at_162 4 rfl (nI_1 m) (by decide) rfl ?_
                          refine g_goto (tgt := 115) C dX7_at_165 (by decide) ?_
                          refine g_lv [2, 3, 4, 1, 0] rfl ?_
                          exact ih115 (m + 1) (by omega) (by omega) (fun h => absurd h hja)
                        · refine g_aload_n C dX7_at_138 0 rfl rfl ?_
                          refine g_get C dX7_at_139 wl27 rfl 11 (by decide) 7 rfl rfl rfl inX7_at_X7 ?_
                          refine g_iload C dX7_at_142 4 rfl ?_
                          refine g_iald (j := m) C dX7_at_144 wl35 rfl (by omega) (by decide) ?_
                          refine g_topi (y := nI (pJ H m)) hmm.1 ?_
                          refine g_iload_n C dX7_at_145 1 rfl rfl ?_
                          refine g_icmp_ne (tgt := 160) C dX7_at_146 (by decide) (fun c_146 => ?_) (fun c_146 => ?_)
                          · have hb : opAt H (tn a) m = false := by unfold opAt; rw [decide_eq_false (show ¬ pJ H m = tn a from fun h => c_146 (by rw [h])), Bool.and_false]
                            refine g_dload_n C dX7_at_160 3 rfl rfl ?_
                            refine g_topd (y := accF (atA H (sF σ 40) (tn a)) (opAt H (tn a)) (drV H (sF σ 40) (sF σ 38)) (m + 1)) (by first | exact (accF_yes hb).symm | exact (accF_no hb).symm) ?_
                            refine g_dstore_n (lv' := [(3, .double (accF (atA H (sF σ 40) (tn a)) (opAt H (tn a)) (drV H (sF σ 40) (sF σ 38)) (m + 1))), (0, .ref ((xK X).2.2 27)), (1, .int (nI (tn a))), (2, .int (nI (tn b))), (5, .int (nI m))]) C dX7_at_161 rfl (by decide) rfl ?_
                            refine g_iinc (v := nI (m + 1)) (lv' := [(5, .int (nI (m + 1))), (3, .double (accF (atA H (sF σ 40) (tn a)) (opAt H (tn a)) (drV H (sF σ 40) (sF σ 38)) (m + 1))), (0, .ref ((xK X).2.2 27)), (1, .int (nI (tn a))), (2, .int (nI (tn b)))]) C dX7_at_162 4 rfl (nI_1 m) (by decide) rfl ?_
                            refine g_goto (tgt := 115) C dX7_at_165 (by decide) ?_
                            refine g_lv [2, 3, 4, 1, 0] rfl ?_
                            exact ih115 (m + 1) (by omega) (by omega) (fun h => absurd h hja)
                          · have hb : opAt H (tn a) m = true := by
                              unfold opAt
                              rw [bIt c_135, decide_eq_true ((nI_eq (by omega) (by omega)).mp (Decidable.byContradiction fun h => absurd c_146 h))]
                              rfl
                            refine g_dload_n C dX7_at_149 3 rfl rfl ?_
                            refine g_aload_n C dX7_at_150 0 rfl rfl ?_
                            refine g_iload C dX7_at_151 4 rfl ?_
                            refine g_callV (As := [.int (nI m)]) (rest := [.double (accF (atA H (sF σ 40) (tn a)) (opAt H (tn a)) (drV H (sF σ 40) (sF σ 38)) m)]) C dX7_at_153 (kX7_drawOf (xl X) (xK X) C.hD (uN σ 5 (nI (cdQ nj 2 sv a b))) hM hp hP hg hmt) wl27 rfl 1 gX7_at_X7_drawOf rfl (by decide +kernel) ⟨Nat.le_of_ble_eq_true rfl, Nat.le_of_ble_eq_true rfl⟩ ⟨Nat.le_of_ble_eq_true rfl, Nat.le_of_ble_eq_true rfl⟩ rfl rfl (Nat.le_of_ble_eq_true rfl) (fun rv9 σ9 h9 => ?_)
                            obtain ⟨h9a, h9b⟩ := h9
                            refine g_eq (σ2 := uN σ 5 (nI (cdQ nj 2 sv a b))) (lv2 := [(0, .ref ((xK X).2.2 27)), (1, .int (nI (tn a))), (2, .int (nI (tn b))), (3, .double (accF (atA H (sF σ 40) (tn a)) (opAt H (tn a)) (drV H (sF σ 40) (sF σ 38)) m)), (5, .int (nI m))]) (st2 := [.double (drV H (sF σ 40) (sF σ 38) m), .double (accF (atA H (sF σ 40) (tn a)) (opAt H (tn a)) (drV H (sF σ 40) (sF σ 38)) m)]) h9b rfl (by rw [h9a]; rfl) ?_
                            refine g_dadd C dX7_at_156 (accF_ok (atA_B hp hP (tn a)) (n := pM H) (by omega) hmt (p := opAt H (tn a)) (g := drV H (sF σ 40) (sF σ 38)) (fun i hi _ => (drV_B hp hP hg hi).2.2.1.mono (by decide)) hb) ?_
                            refine g_goto (tgt := 161) C dX7_at_157 (by decide) ?_
                            refine g_topd (y := accF (atA H (sF σ 40) (tn a)) (opAt H (tn a)) (drV H (sF σ 40) (sF σ 38)) (m + 1)) (by first | exact (accF_yes hb).symm | exact (accF_no hb).symm) ?_
                            refine g_dstore_n (lv' := [(3, .double (accF (atA H (sF σ 40) (tn a)) (opAt H (tn a)) (drV H (sF σ 40) (sF σ 38)) (m + 1))), (0, .ref ((xK X).2.2 27)), (1, .int (nI (tn a))), (2, .int (nI (tn b))), (5, .int (nI m))]) C dX7_at_161 rfl (by decide) rfl ?_
                            refine g_iinc (v := nI (m + 1)) (lv' := [(5, .int (nI (m + 1))), (3, .double (accF (atA H (sF σ 40) (tn a)) (opAt H (tn a)) (drV H (sF σ 40) (sF σ 38)) (m + 1))), (0, .ref ((xK X).2.2 27)), (1, .int (nI (tn a))), (2, .int (nI (tn b)))]) C dX7_at_162 4 rfl (nI_1 m) (by decide) rfl ?_
                            refine g_goto (tgt := 115) C dX7_at_165 (by decide) ?_
                            refine g_lv [2, 3, 4, 1, 0] rfl ?_
                            exact ih115 (m + 1) (by omega) (by omega) (fun h => absurd h hja)
                refine g_lv [1, 2, 3, 4, 0] rfl ?_
                exact loop115 (pM H + 1) 0 (by omega) (Nat.zero_le _) (fun _ => rfl)
              · have hdt : d < pD H := by
                  refine Nat.lt_of_not_le fun h => c_53 ?_
                  exact (nI_leI (by  omega) (by  omega)).mpr (by omega)
                have hdd := hM.du hdt
                refine g_iload_n C dX7_at_56 1 rfl rfl ?_
                refine g_if_le (tgt := 112) C dX7_at_57 (by decide) (fun c_57 => ?_) (fun c_57 => ?_)
                · have hja : tn a = 0 := nI_le0 (by omega) c_57
                  have hz0 := hz hja
                  refine g_eq (σ2 := uN σ 5 (nI (cdQ nj 2 sv a b))) (lv2 := [(0, .ref ((xK X).2.2 27)), (1, .int (nI (tn a))), (2, .int (nI (tn b))), (3, .double (atA H (sF σ 40) (tn a))), (5, .int (nI d))]) (st2 := []) rfl (congrArg (fun z9 => ([(0, .ref ((xK X).2.2 27)), (1, .int (nI (tn a))), (2, .int (nI (tn b))), (3, .double z9), (5, .int (nI d))] : List (Nat × Value))) (by unfold atA; rw [if_pos hja, hz0]; rfl)) rfl ?_
                  refine g_iconst (v := nI 0) C dX7_at_112 (by decide +kernel) ?_
                  refine g_istore (lv' := [(5, .int (nI 0)), (0, .ref ((xK X).2.2 27)), (1, .int (nI (tn a))), (2, .int (nI (tn b))), (3, .double (atA H (sF σ 40) (tn a)))]) C dX7_at_113 (by decide) rfl ?_
                  have loop115 : ∀ (r9 : Nat) (m : Nat), pM H - m < r9 → (m ≤ pM H) → (tn a = 0 → m = 0) → G X 6 0 0 (uN σ 5 (nI (cdQ nj 2 sv a b))) [(0, .ref ((xK X).2.2 27)), (1, .int (nI (tn a))), (2, .int (nI (tn b))), (3, .double (accF (atA H (sF σ 40) (tn a)) (opAt H (tn a)) (drV H (sF σ 40) (sF σ 38)) m)), (5, .int (nI m))] 115 [] := by
                    intro r9
                    induction r9 with
                    | zero => intro m h9; exact absurd h9 (Nat.not_lt_zero _)
                    | succ r9 ih115 =>
                      intro m hm115 hm hz
                      refine g_iload C dX7_at_115 4 rfl ?_
                      refine g_aload_n C dX7_at_117 0 rfl rfl ?_
                      refine g_get C dX7_at_118 wl27 rfl 10 (by decide) 5 rfl rfl rfl inX7_at_X7 ?_
                      refine g_topi (y := nI (pM H)) hM.nm ?_
                      refine g_icmp_ge (tgt := 168) C dX7_at_121 (by decide) (fun c_121 => ?_) (fun c_121 => ?_)
                      · have hme : m = pM H := by
                          have h9 := (nI_leI (by  omega) (by  omega)).mp c_121
                          omega
                        refine g_dload_n C dX7_at_168 3 rfl rfl ?_
                        refine g_dret C dX7_at_169 rfl ⟨Nat.le_of_ble_eq_true rfl, Nat.le_of_ble_eq_true rfl⟩ ?_
                        rw [hF]
                        exact ⟨fun h => absurd hc0 h, fun _ => ⟨by
                            unfold atM
                            rw [if_neg hb0]
                            by_cases h9 : tn a = 0
                            · rw [if_pos h9, hz h9]
                              unfold atA
                              rw [if_pos h9]
                              rfl
                            · rw [if_neg h9]
                              unfold atA
                              rw [if_neg h9]
                              first | rw [hme] | exact absurd hja h9, by rw [hc0]; try rfl⟩⟩
                      · have hmt : m < pM H := by
                          refine Nat.lt_of_not_le fun h => c_121 ?_
                          exact (nI_leI (by  omega) (by  omega)).mpr (by omega)
                        have hmm := hM.ma hmt
                        refine g_iload_n C dX7_at_124 1 rfl rfl ?_
                        refine g_if_le (tgt := 168) C dX7_at_125 (by decide) (fun c_125 => ?_) (fun c_125 => ?_)
                        · have hja : tn a = 0 := nI_le0 (by omega) c_125
                          have hz0 := hz hja
                          refine g_dload_n C dX7_at_168 3 rfl rfl ?_
                          refine g_dret C dX7_at_169 rfl ⟨Nat.le_of_ble_eq_true rfl, Nat.le_of_ble_eq_true rfl⟩ ?_
                          rw [hF]
                          exact ⟨fun h => absurd hc0 h, fun _ => ⟨by
                              unfold atM
                              rw [if_neg hb0]
                              by_cases h9 : tn a = 0
                              · rw [if_pos h9, hz h9]
                                unfold atA
                                rw [if_pos h9]
                                rfl
                              · rw [if_neg h9]
                                unfold atA
                                rw [if_neg h9]
                                first | rw [hme] | exact absurd hja h9, by rw [hc0]; try rfl⟩⟩
                        · have hja : tn a ≠ 0 := fun h => c_125 (by rw [h]; decide)
                          refine g_aload_n C dX7_at_128 0 rfl rfl ?_
                          refine g_get C dX7_at_129 wl27 rfl 15 (by decide) 6 rfl rfl rfl inX7_at_X7 ?_
                          refine g_iload C dX7_at_132 4 rfl ?_
                          refine g_zald (j := m) C dX7_at_134 wl39 rfl (by omega) (by decide) ?_
                          refine g_topi (y := bI (pO H m)) hmm.2.1 ?_
                          refine g_if_eq (tgt := 160) C dX7_at_135 (by decide) (fun c_135 => ?_) (fun c_135 => ?_)
                          · have hb : opAt H (tn a) m = false := by unfold opAt; rw [(bI_ne _).mp c_135]; rfl
                            refine g_dload_n C dX7_at_160 3 rfl rfl ?_
                            refine g_topd (y := accF (atA H (sF σ 40) (tn a)) (opAt H (tn a)) (drV H (sF σ 40) (sF σ 38)) (m + 1)) (by first | exact (accF_yes hb).symm | exact (accF_no hb).symm) ?_
                            refine g_dstore_n (lv' := [(3, .double (accF (atA H (sF σ 40) (tn a)) (opAt H (tn a)) (drV H (sF σ 40) (sF σ 38)) (m + 1))), (0, .ref ((xK X).2.2 27)), (1, .int (nI (tn a))), (2, .int (nI (tn b))), (5, .int (nI m))]) C dX7_at_161 rfl (by decide) rfl ?_
                            refine g_iinc (v := nI (m + 1)) (lv' := [(5, .int (nI (m + 1))), (3, .double (accF (atA H (sF σ 40) (tn a)) (opAt H (tn a)) (drV H (sF σ 40) (sF σ 38)) (m + 1))), (0, .ref ((xK X).2.2 27)), (1, .int (nI (tn a))), (2, .int (nI (tn b)))]) C dX7_at_162 4 rfl (nI_1 m) (by decide) rfl ?_
                            refine g_goto (tgt := 115) C dX7_at_165 (by decide) ?_
                            refine g_lv [2, 3, 4, 1, 0] rfl ?_
                            exact ih115 (m + 1) (by omega) (by omega) (fun h => absurd h hja)
                          · refine g_aload_n C dX7_at_138 0 rfl rfl ?_
                            refine g_get C dX7_at_139 wl27 rfl 11 (by decide) 7 rfl rfl rfl inX7_at_X7 ?_
                            refine g_iload C dX7_at_142 4 rfl ?_
                            refine g_iald (j := m) C dX7_at_144 wl35 rfl (by omega) (by decide) ?_
                            refine g_topi (y := nI (pJ H m)) hmm.1 ?_
                            refine g_iload_n C dX7_at_145 1 rfl rfl ?_
                            refine g_icmp_ne (tgt := 160) C dX7_at_146 (by decide) (fun c_146 => ?_) (fun c_146 => ?_)
                            · have hb : opAt H (tn a) m = false := by unfold opAt; rw [decide_eq_false (show ¬ pJ H m = tn a from fun h => c_146 (by rw [h])), Bool.and_false]
                              refine g_dload_n C dX7_at_160 3 rfl rfl ?_
                              refine g_topd (y := accF (atA H (sF σ 40) (tn a)) (opAt H (tn a)) (drV H (sF σ 40) (sF σ 38)) (m + 1)) (by first | exact (accF_yes hb).symm | exact (accF_no hb).symm) ?_
                              refine g_dstore_n (lv' := [(3, .double (accF (atA H (sF σ 40) (tn a)) (opAt H (tn a)) (drV H (sF σ 40) (sF σ 38)) (m + 1))), (0, .ref ((xK X).2.2 27)), (1, .int (nI (tn a))), (2, .int (nI (tn b))), (5, .int (nI m))]) C dX7_at_161 rfl (by decide) rfl ?_
                              refine g_iinc (v := nI (m + 1)) (lv' := [(5, .int (nI (m + 1))), (3, .double (accF (atA H (sF σ 40) (tn a)) (opAt H (tn a)) (drV H (sF σ 40) (sF σ 38)) (m + 1))), (0, .ref ((xK X).2.2 27)), (1, .int (nI (tn a))), (2, .int (nI (tn b)))]) C dX7_at_162 4 rfl (nI_1 m) (by decide) rfl ?_
                              refine g_goto (tgt := 115) C dX7_at_165 (by decide) ?_
                              refine g_lv [2, 3, 4, 1, 0] rfl ?_
                              exact ih115 (m + 1) (by omega) (by omega) (fun h => absurd h hja)
                            · have hb : opAt H (tn a) m = true := by
                                unfold opAt
                                rw [bIt c_135, decide_eq_true ((nI_eq (by omega) (by omega)).mp (Decidable.byContradiction fun h => absurd c_146 h))]
                                rfl
                              refine g_dload_n C dX7_at_149 3 rfl rfl ?_
                              refine g_aload_n C dX7_at_150 0 rfl rfl ?_
                              refine g_iload C dX7_at_151 4 rfl ?_
                              refine g_callV (As := [.int (nI m)]) (rest := [.double (accF (atA H (sF σ 40) (tn a)) (opAt H (tn a)) (drV H (sF σ 40) (sF σ 38)) m)]) C dX7_at_153 (kX7_drawOf (xl X) (xK X) C.hD (uN σ 5 (nI (cdQ nj 2 sv a b))) hM hp hP hg hmt) wl27 rfl 1 gX7_at_X7_drawOf rfl (by decide +kernel) ⟨Nat.le_of_ble_eq_true rfl, Nat.le_of_ble_eq_true rfl⟩ ⟨Nat.le_of_ble_eq_true rfl, Nat.le_of_ble_eq_true rfl⟩ rfl rfl (Nat.le_of_ble_eq_true rfl) (fun rv9 σ9 h9 => ?_)
                              obtain ⟨h9a, h9b⟩ := h9
                              refine g_eq (σ2 := uN σ 5 (nI (cdQ nj 2 sv a b))) (lv2 := [(0, .ref ((xK X).2.2 27)), (1, .int (nI (tn a))), (2, .int (nI (tn b))), (3, .double (accF (atA H (sF σ 40) (tn a)) (opAt H (tn a)) (drV H (sF σ 40) (sF σ 38)) m)), (5, .int (nI m))]) (st2 := [.double (drV H (sF σ 40) (sF σ 38) m), .double (accF (atA H (sF σ 40) (tn a)) (opAt H (tn a)) (drV H (sF σ 40) (sF σ 38)) m)]) h9b rfl (by rw [h9a]; rfl) ?_
                              refine g_dadd C dX7_at_156 (accF_ok (atA_B hp hP (tn a)) (n := pM H) (by omega) hmt (p := opAt H (tn a)) (g := drV H (sF σ 40) (sF σ 38)) (fun i hi _ => (drV_B hp hP hg hi).2.2.1.mono (by decide)) hb) ?_
                              refine g_goto (tgt := 161) C dX7_at_157 (by decide) ?_
                              refine g_topd (y := accF (atA H (sF σ 40) (tn a)) (opAt H (tn a)) (drV H (sF σ 40) (sF σ 38)) (m + 1)) (by first | exact (accF_yes hb).symm | exact (accF_no hb).symm) ?_
                              refine g_dstore_n (lv' := [(3, .double (accF (atA H (sF σ 40) (tn a)) (opAt H (tn a)) (drV H (sF σ 40) (sF σ 38)) (m + 1))), (0, .ref ((xK X).2.2 27)), (1, .int (nI (tn a))), (2, .int (nI (tn b))), (5, .int (nI m))]) C dX7_at_161 rfl (by decide) rfl ?_
                              refine g_iinc (v := nI (m + 1)) (lv' := [(5, .int (nI (m + 1))), (3, .double (accF (atA H (sF σ 40) (tn a)) (opAt H (tn a)) (drV H (sF σ 40) (sF σ 38)) (m + 1))), (0, .ref ((xK X).2.2 27)), (1, .int (nI (tn a))), (2, .int (nI (tn b)))]) C dX7_at_162 4 rfl (nI_1 m) (by decide) rfl ?_
                              refine g_goto (tgt := 115) C dX7_at_165 (by decide) ?_
                              refine g_lv [2, 3, 4, 1, 0] rfl ?_
                              exact ih115 (m + 1) (by omega) (by omega) (fun h => absurd h hja)
                  refine g_lv [1, 2, 3, 4, 0] rfl ?_
                  exact loop115 (pM H + 1) 0 (by omega) (Nat.zero_le _) (fun _ => rfl)
                · have hja : tn a ≠ 0 := fun h => c_57 (by rw [h]; decide)
                  refine g_aload_n C dX7_at_60 0 rfl rfl ?_
                  refine g_get C dX7_at_61 wl27 rfl 4 (by decide) 3 rfl rfl rfl inX7_at_X7 ?_
                  refine g_iload C dX7_at_64 4 rfl ?_
                  refine g_iald (j := d) C dX7_at_66 wl29 rfl (by omega) (by decide) ?_
                  refine g_topi (y := nI (pB H d)) hdd.2.1 ?_
                  refine g_iload_n C dX7_at_67 1 rfl rfl ?_
                  refine g_icmp_ne (tgt := 82) C dX7_at_68 (by decide) (fun c_68 => ?_) (fun c_68 => ?_)
                  · have hB : ¬ pB H d = tn a := fun h => c_68 (by rw [h])
                    refine g_aload_n C dX7_at_82 0 rfl rfl ?_
                    refine g_get C dX7_at_83 wl27 rfl 3 (by decide) 4 rfl rfl rfl inX7_at_X7 ?_
                    refine g_iload C dX7_at_86 4 rfl ?_
                    refine g_iald (j := d) C dX7_at_88 wl28 rfl (by omega) (by decide) ?_
                    refine g_topi (y := nI (pA H d)) hdd.1 ?_
                    refine g_iload_n C dX7_at_89 1 rfl rfl ?_
                    refine g_icmp_ne (tgt := 104) C dX7_at_90 (by decide) (fun c_90 => ?_) (fun c_90 => ?_)
                    · have hA : ¬ pA H d = tn a := fun h => c_90 (by rw [h])
                      refine g_dload_n C dX7_at_104 3 rfl rfl ?_
                      refine g_topd (y := flM H (sF σ 40) (tn a) (d + 1)) (by rw [flM_up]; first | rw [if_pos hB] | rw [if_neg hB, if_pos hA] | rw [if_neg hB, if_neg hA]) ?_
                      refine g_dstore_n (lv' := [(3, .double (flM H (sF σ 40) (tn a) (d + 1))), (0, .ref ((xK X).2.2 27)), (1, .int (nI (tn a))), (2, .int (nI (tn b))), (5, .int (nI d))]) C dX7_at_105 rfl (by decide) rfl ?_
                      refine g_iinc (v := nI (d + 1)) (lv' := [(5, .int (nI (d + 1))), (3, .double (flM H (sF σ 40) (tn a) (d + 1))), (0, .ref ((xK X).2.2 27)), (1, .int (nI (tn a))), (2, .int (nI (tn b)))]) C dX7_at_106 4 rfl (nI_1 d) (by decide) rfl ?_
                      refine g_goto (tgt := 47) C dX7_at_109 (by decide) ?_
                      refine g_lv [2, 3, 4, 1, 0] rfl ?_
                      exact ih47 (d + 1) (by omega) (by omega) (fun h => absurd h hja)
                    · have hA : pA H d = tn a := (nI_eq (by omega) (by omega)).mp (Decidable.byContradiction fun h => absurd c_90 h)
                      refine g_dload_n C dX7_at_93 3 rfl rfl ?_
                      refine g_aload_n C dX7_at_94 0 rfl rfl ?_
                      refine g_iload C dX7_at_95 4 rfl ?_
                      refine g_callV (As := [.int (nI d)]) (rest := [.double (flM H (sF σ 40) (tn a) d)]) C dX7_at_97 (kX7_flowOf (xl X) (xK X) C.hD (uN σ 5 (nI (cdQ nj 2 sv a b))) hM hp hP hdt) wl27 rfl 1 gX7_at_X7_flowOf rfl (by decide +kernel) ⟨Nat.le_of_ble_eq_true rfl, Nat.le_of_ble_eq_true rfl⟩ ⟨Nat.le_of_ble_eq_true rfl, Nat.le_of_ble_eq_true rfl⟩ rfl rfl (Nat.le_of_ble_eq_true rfl) (fun rv9 σ9 h9 => ?_)
                      obtain ⟨h9a, h9b⟩ := h9
                      refine g_eq (σ2 := uN σ 5 (nI (cdQ nj 2 sv a b))) (lv2 := [(0, .ref ((xK X).2.2 27)), (1, .int (nI (tn a))), (2, .int (nI (tn b))), (3, .double (flM H (sF σ 40) (tn a) d)), (5, .int (nI d))]) (st2 := [.double (flw H (sF σ 40) d), .double (flM H (sF σ 40) (tn a) d)]) h9b rfl (by rw [h9a]; rfl) ?_
                      refine g_dsub C dX7_at_100 (((flM_B hp hP (tn a) d (Nat.le_of_lt hdt)).sub ((flx_B hp hP hdt).mono (by omega)) ⟨rfl, by omega⟩).F.ok) ?_
                      refine g_goto (tgt := 105) C dX7_at_101 (by decide) ?_
                      refine g_topd (y := flM H (sF σ 40) (tn a) (d + 1)) (by rw [flM_up]; first | rw [if_pos hB] | rw [if_neg hB, if_pos hA] | rw [if_neg hB, if_neg hA]) ?_
                      refine g_dstore_n (lv' := [(3, .double (flM H (sF σ 40) (tn a) (d + 1))), (0, .ref ((xK X).2.2 27)), (1, .int (nI (tn a))), (2, .int (nI (tn b))), (5, .int (nI d))]) C dX7_at_105 rfl (by decide) rfl ?_
                      refine g_iinc (v := nI (d + 1)) (lv' := [(5, .int (nI (d + 1))), (3, .double (flM H (sF σ 40) (tn a) (d + 1))), (0, .ref ((xK X).2.2 27)), (1, .int (nI (tn a))), (2, .int (nI (tn b)))]) C dX7_at_106 4 rfl (nI_1 d) (by decide) rfl ?_
                      refine g_goto (tgt := 47) C dX7_at_109 (by decide) ?_
                      refine g_lv [2, 3, 4, 1, 0] rfl ?_
                      exact ih47 (d + 1) (by omega) (by omega) (fun h => absurd h hja)
                  · have hB : pB H d = tn a := (nI_eq (by omega) (by omega)).mp (Decidable.byContradiction fun h => absurd c_68 h)
                    refine g_dload_n C dX7_at_71 3 rfl rfl ?_
                    refine g_aload_n C dX7_at_72 0 rfl rfl ?_
                    refine g_iload C dX7_at_73 4 rfl ?_
                    refine g_callV (As := [.int (nI d)]) (rest := [.double (flM H (sF σ 40) (tn a) d)]) C dX7_at_75 (kX7_flowOf (xl X) (xK X) C.hD (uN σ 5 (nI (cdQ nj 2 sv a b))) hM hp hP hdt) wl27 rfl 1 gX7_at_X7_flowOf rfl (by decide +kernel) ⟨Nat.le_of_ble_eq_true rfl, Nat.le_of_ble_eq_true rfl⟩ ⟨Nat.le_of_ble_eq_true rfl, Nat.le_of_ble_eq_true rfl⟩ rfl rfl (Nat.le_of_ble_eq_true rfl) (fun rv9 σ9 h9 => ?_)
                    obtain ⟨h9a, h9b⟩ := h9
                    refine g_eq (σ2 := uN σ 5 (nI (cdQ nj 2 sv a b))) (lv2 := [(0, .ref ((xK X).2.2 27)), (1, .int (nI (tn a))), (2, .int (nI (tn b))), (3, .double (flM H (sF σ 40) (tn a) d)), (5, .int (nI d))]) (st2 := [.double (flw H (sF σ 40) d), .double (flM H (sF σ 40) (tn a) d)]) h9b rfl (by rw [h9a]; rfl) ?_
                    refine g_dadd C dX7_at_78 (((flM_B hp hP (tn a) d (Nat.le_of_lt hdt)).add ((flx_B hp hP hdt).mono (by omega)) ⟨rfl, by omega⟩).F.ok) ?_
                    refine g_goto (tgt := 105) C dX7_at_79 (by decide) ?_
                    refine g_topd (y := flM H (sF σ 40) (tn a) (d + 1)) (by rw [flM_up]; first | rw [if_pos hB] | rw [if_neg hB, if_pos hA] | rw [if_neg hB, if_neg hA]) ?_
                    refine g_dstore_n (lv' := [(3, .double (flM H (sF σ 40) (tn a) (d + 1))), (0, .ref ((xK X).2.2 27)), (1, .int (nI (tn a))), (2, .int (nI (tn b))), (5, .int (nI d))]) C dX7_at_105 rfl (by decide) rfl ?_
                    refine g_iinc (v := nI (d + 1)) (lv' := [(5, .int (nI (d + 1))), (3, .double (flM H (sF σ 40) (tn a) (d + 1))), (0, .ref ((xK X).2.2 27)), (1, .int (nI (tn a))), (2, .int (nI (tn b)))]) C dX7_at_106 4 rfl (nI_1 d) (by decide) rfl ?_
                    refine g_goto (tgt := 47) C dX7_at_109 (by decide) ?_
                    refine g_lv [2, 3, 4, 1, 0] rfl ?_
                    exact ih47 (d + 1) (by omega) (by omega) (fun h => absurd h hja)
          refine g_lv [2, 3, 4, 1, 0] rfl ?_
          exact loop47 (pD H + 1) 0 (by omega) (Nat.zero_le _) (fun _ => rfl)
        · have hb0 : tn b = 0 := (nI_eq (a := tn b) (b := 0) (by omega) (by decide)).mp (Decidable.byContradiction fun h => absurd c_32 h)
          refine g_aload_n C dX7_at_35 0 rfl rfl ?_
          refine g_get C dX7_at_36 wl27 rfl 18 (by decide) 1 rfl rfl rfl inX7_at_X7 ?_
          refine g_iload_n C dX7_at_39 1 rfl rfl ?_
          refine g_dald (j := (tn a)) C dX7_at_40 wl40 rfl (by omega) (by decide) ?_
          refine g_dret C dX7_at_41 rfl ⟨Nat.le_of_ble_eq_true rfl, Nat.le_of_ble_eq_true rfl⟩ ?_
          rw [hF]
          exact ⟨fun h => absurd hc0 h, fun _ => ⟨by unfold atM; rw [if_pos hb0]; try rfl, by rw [hc0]; try rfl⟩⟩
      · have hc1 : cdQ nj 2 sv a b ≠ 0 := Nat.pos_iff_ne_zero.mp (of_decide_eq_true (bIt c_26))
        refine g_dconst0 C dX7_at_29 ?_
        refine g_dret C dX7_at_30 rfl ⟨Nat.le_of_ble_eq_true rfl, Nat.le_of_ble_eq_true rfl⟩ ?_
        rw [hF]
        exact ⟨fun _ => ⟨rfl, rfl⟩, fun h => absurd h hc1⟩

theorem inX7_keeps_X7 : ∀ w ∈ u_ws RX7 TX7 24, w ∈ wsX7_keeps := by decide +kernel
set_option maxHeartbeats 4000000 in
set_option maxRecDepth 100000 in
theorem kX7_keeps (l : Launch) (K : gK) (hD : gD K) (σ : gS) {H : Ph} {nj n : Nat} {sv : Bool} (hI : Mi H nj n sv σ) {least : UInt64} (hx : dF least) : Ct l yX7_keeps wsX7_keeps { frames := 3, cells := 0, slots := 0, locals := 63 } K [.ref (K.2.2 27), .double least] σ (Mr σ (cdKeeps sv least) (some (.int (nI 0))) (fun r t => r = some (.int (bI (allB (kpB H (sF σ 40) (sF σ 31) least) (pD H)))) ∧ t = uN σ 5 (nI 0))) := by
  refine Ct.of hD (by decide) rfl (Nat.le_of_ble_eq_true rfl) ?_
  intro X hL hK hF C
  subst hL; subst hK
  refine g_eq (σ2 := σ) (lv2 := [(0, .ref ((xK X).2.2 27)), (1, .double least)]) (st2 := []) rfl rfl rfl ?_
  obtain ⟨hM, hp, hP, hg, hq, hsv, ⟨hn, hn6, hsw⟩, hr, hl⟩ := hI
  have h16 := hM.nd16
  have h8 := hM.nm8
  have hjj := hM.j
  have hcb := cdKeeps_le sv least
  refine g_aload_n C dX7_keeps_0 0 rfl rfl ?_
  refine g_dload_n C dX7_keeps_1 1 rfl rfl ?_
  refine g_dconst0 C dX7_keeps_2 ?_
  refine g_dcmp C dX7_keeps_3 ?_
  refine g_if_ge (tgt := 11) C dX7_keeps_4 (by decide) (fun c_4 => ?_) (fun c_4 => ?_)
  · have hge : ¬ Op.cmpValue (FP.dcmp least FP.dconst0) .g < 0 := fun z => by
      have h1 := (cv_ge hx.nn d0_F.nn).mp c_4
      have h2 := (cv_lt hx.nn d0_F.nn).mp z
      omega
    refine g_aload_n C dX7_keeps_11 0 rfl rfl ?_
    refine g_get C dX7_keeps_12 wl27 rfl 20 (by decide) 1 rfl rfl rfl inX7_keeps_X7 ?_
    refine g_topi (y := bI sv) hsv ?_
    refine g_if_eq (tgt := 22) C dX7_keeps_15 (by decide) (fun c_15 => ?_) (fun c_15 => ?_)
    · have hcd : cdKeeps sv least = 2 := (if_neg hge).trans (if_neg (by rw [(bI_ne _).mp c_15]; decide))
      refine g_iconst (v := nI 2) C dX7_keeps_22 (by decide +kernel) ?_
      refine g_topi (y := nI (cdKeeps sv least)) (by rw [hcd]) ?_
      refine g_put (σ' := uN σ 5 (nI (cdKeeps sv least))) (ty := .int) C dX7_keeps_23 wl27 rfl 0 (by decide) 2 rfl rfl inX7_keeps_X7 tyX7_ok nmX7 rfl (by decide +kernel) rfl rfl (Nat.le_of_ble_eq_true rfl) wsN5 ?_
      refine g_aload_n C dX7_keeps_26 0 rfl rfl ?_
      refine g_get C dX7_keeps_27 wl27 rfl 0 (by decide) 2 rfl rfl rfl inX7_keeps_X7 ?_
      refine g_topi (y := nI (cdKeeps sv least)) rfl ?_
      refine g_if_ne (tgt := 37) C dX7_keeps_30 (by decide) (fun c_30 => ?_) (fun c_30 => ?_)
      · refine g_iconst (v := nI 0) C dX7_keeps_37 (by decide +kernel) ?_
        refine g_topi (y := bI (decide (cdKeeps sv least = 0))) (by first | (rw [decide_eq_false (show ¬ cdKeeps sv least = 0 from fun h => c_30 (by rw [h]; decide))]; rfl) | (rw [decide_eq_true (show cdKeeps sv least = 0 from (nI_eq (by omega) (by decide)).mp (Decidable.byContradiction fun h => absurd c_30 h))]; rfl)) ?_
        refine g_istore_n (lv' := [(3, .int (bI (decide (cdKeeps sv least = 0)))), (0, .ref ((xK X).2.2 27)), (1, .double least)]) C dX7_keeps_38 rfl (by decide) rfl ?_
        refine g_iconst (v := nI 0) C dX7_keeps_39 (by decide +kernel) ?_
        refine g_istore (lv' := [(4, .int (nI 0)), (3, .int (bI (decide (cdKeeps sv least = 0)))), (0, .ref ((xK X).2.2 27)), (1, .double least)]) C dX7_keeps_40 (by decide) rfl ?_
        have loop42 : ∀ (r9 : Nat) (d : Nat) (b : Bool), pD H - d < r9 → (d ≤ pD H) → (b = (decide (cdKeeps sv least = 0) && allB (kpB H (sF σ 40) (sF σ 31) least) d)) → G X 5 0 0 (uN σ 5 (nI (cdKeeps sv least))) [(0, .ref ((xK X).2.2 27)), (1, .double least), (3, .int (bI b)), (4, .int (nI d))] 42 [] := by
          intro r9
          induction r9 with
          | zero => intro d b h9; exact absurd h9 (Nat.not_lt_zero _)
          | succ r9 ih42 =>
            intro d b hm42 hd hb
            refine g_iload C dX7_keeps_42 3 rfl ?_
            refine g_aload_n C dX7_keeps_44 0 rfl rfl ?_
            refine g_get C dX7_keeps_45 wl27 rfl 2 (by decide) 3 rfl rfl rfl inX7_keeps_X7 ?_
            refine g_topi (y := nI (pD H)) hM.nd ?_
            refine g_icmp_ge (tgt := 78) C dX7_keeps_48 (by decide) (fun c_48 => ?_) (fun c_48 => ?_)
            · have hde : d = pD H := by
                have h9 := (nI_leI (by  omega) (by  omega)).mp c_48
                omega
              have hres : b = (decide (cdKeeps sv least = 0) && allB (kpB H (sF σ 40) (sF σ 31) least) (pD H)) := by rw [← hde]; exact hb
              refine g_iload_n C dX7_keeps_78 2 rfl rfl ?_
              refine g_zret C dX7_keeps_79 rfl (nar_bI _) ⟨Nat.le_of_ble_eq_true rfl, Nat.le_of_ble_eq_true rfl⟩ ?_
              rw [hF]
              exact ⟨fun h => ⟨by rw [hres, decide_eq_false h]; rfl, rfl⟩, fun h => ⟨by rw [hres, decide_eq_true h, Bool.true_and], by rw [h]⟩⟩
            · have hdt : d < pD H := by
                refine Nat.lt_of_not_le fun h => c_48 ?_
                exact (nI_leI (by  omega) (by  omega)).mpr (by omega)
              refine g_iload_n C dX7_keeps_51 2 rfl rfl ?_
              refine g_if_eq (tgt := 78) C dX7_keeps_52 (by decide) (fun c_52 => ?_) (fun c_52 => ?_)
              · have hbf : b = false := (bI_ne _).mp c_52
                have hres : b = (decide (cdKeeps sv least = 0) && allB (kpB H (sF σ 40) (sF σ 31) least) (pD H)) := by
                  rw [hbf]
                  rw [hbf] at hb
                  cases h0 : decide (cdKeeps sv least = 0) with
                  | false => rfl
                  | true =>
                    rw [h0, Bool.true_and] at hb
                    rw [Bool.true_and]
                    exact (allB_fm hb.symm (Nat.le_of_lt hdt)).symm
                refine g_iload_n C dX7_keeps_78 2 rfl rfl ?_
                refine g_zret C dX7_keeps_79 rfl (nar_bI _) ⟨Nat.le_of_ble_eq_true rfl, Nat.le_of_ble_eq_true rfl⟩ ?_
                rw [hF]
                exact ⟨fun h => ⟨by rw [hres, decide_eq_false h]; rfl, rfl⟩, fun h => ⟨by rw [hres, decide_eq_true h, Bool.true_and], by rw [h]⟩⟩
              · have hbt : b = true := bIt c_52
                refine g_aload_n C dX7_keeps_55 0 rfl rfl ?_
                refine g_iload C dX7_keeps_56 3 rfl ?_
                refine g_callV (As := [.int (nI d)]) (rest := []) C dX7_keeps_58 (kX7_speedOf (xl X) (xK X) C.hD (uN σ 5 (nI (cdKeeps sv least))) hM hp hP hdt) wl27 rfl 1 gX7_keeps_X7_speedOf rfl (by decide +kernel) ⟨Nat.le_of_ble_eq_true rfl, Nat.le_of_ble_eq_true rfl⟩ ⟨Nat.le_of_ble_eq_true rfl, Nat.le_of_ble_eq_true rfl⟩ rfl rfl (Nat.le_of_ble_eq_true rfl) (fun rv9 σ9 h9 => ?_)
                obtain ⟨h9a, h9b⟩ := h9
                refine g_eq (σ2 := uN σ 5 (nI (cdKeeps sv least))) (lv2 := [(0, .ref ((xK X).2.2 27)), (1, .double least), (3, .int (bI b)), (4, .int (nI d))]) (st2 := [.double (spd H (sF σ 40) (sF σ 31) d)]) h9b rfl (by rw [h9a]; rfl) ?_
                refine g_dload_n C dX7_keeps_61 1 rfl rfl ?_
                refine g_dcmp C dX7_keeps_62 ?_
                refine g_if_lt (tgt := 70) C dX7_keeps_63 (by decide) (fun c_63 => ?_) (fun c_63 => ?_)
                · refine g_iconst (v := nI 0) C dX7_keeps_70 (by decide +kernel) ?_
                  refine g_topi (y := bI ((kpB H (sF σ 40) (sF σ 31) least) d)) (by first | (rw [show (kpB H (sF σ 40) (sF σ 31) least) d = true from decide_eq_true (Int32.not_lt.mp c_63)]; rfl) | (rw [show (kpB H (sF σ 40) (sF σ 31) least) d = false from decide_eq_false (Int32.not_le.mpr c_63)]; rfl)) ?_
                  refine g_istore_n (lv' := [(3, .int (bI ((kpB H (sF σ 40) (sF σ 31) least) d))), (0, .ref ((xK X).2.2 27)), (1, .double least), (4, .int (nI d))]) C dX7_keeps_71 rfl (by decide) rfl ?_
                  refine g_iinc (v := nI (d + 1)) (lv' := [(4, .int (nI (d + 1))), (3, .int (bI ((kpB H (sF σ 40) (sF σ 31) least) d))), (0, .ref ((xK X).2.2 27)), (1, .double least)]) C dX7_keeps_72 3 rfl (nI_1 d) (by decide) rfl ?_
                  refine g_goto (tgt := 42) C dX7_keeps_75 (by decide) ?_
                  refine g_lv [2, 3, 1, 0] rfl ?_
                  exact ih42 (d + 1) ((kpB H (sF σ 40) (sF σ 31) least) d) (by omega) (by omega) (by show _ = (_ && (allB (kpB H (sF σ 40) (sF σ 31) least) d && (kpB H (sF σ 40) (sF σ 31) least) d)); rw [← Bool.and_assoc, ← hb, hbt, Bool.true_and])
                · refine g_iconst (v := nI 1) C dX7_keeps_66 (by decide +kernel) ?_
                  refine g_goto (tgt := 71) C dX7_keeps_67 (by decide) ?_
                  refine g_topi (y := bI ((kpB H (sF σ 40) (sF σ 31) least) d)) (by first | (rw [show (kpB H (sF σ 40) (sF σ 31) least) d = true from decide_eq_true (Int32.not_lt.mp c_63)]; rfl) | (rw [show (kpB H (sF σ 40) (sF σ 31) least) d = false from decide_eq_false (Int32.not_le.mpr c_63)]; rfl)) ?_
                  refine g_istore_n (lv' := [(3, .int (bI ((kpB H (sF σ 40) (sF σ 31) least) d))), (0, .ref ((xK X).2.2 27)), (1, .double least), (4, .int (nI d))]) C dX7_keeps_71 rfl (by decide) rfl ?_
                  refine g_iinc (v := nI (d + 1)) (lv' := [(4, .int (nI (d + 1))), (3, .int (bI ((kpB H (sF σ 40) (sF σ 31) least) d))), (0, .ref ((xK X).2.2 27)), (1, .double least)]) C dX7_keeps_72 3 rfl (nI_1 d) (by decide) rfl ?_
                  refine g_goto (tgt := 42) C dX7_keeps_75 (by decide) ?_
                  refine g_lv [2, 3, 1, 0] rfl ?_
                  exact ih42 (d + 1) ((kpB H (sF σ 40) (sF σ 31) least) d) (by omega) (by omega) (by show _ = (_ && (allB (kpB H (sF σ 40) (sF σ 31) least) d && (kpB H (sF σ 40) (sF σ 31) least) d)); rw [← Bool.and_assoc, ← hb, hbt, Bool.true_and])
        refine g_lv [2, 3, 1, 0] rfl ?_
        exact loop42 (pD H + 1) 0 (decide (cdKeeps sv least = 0)) (by omega) (Nat.zero_le _) (by show _ = (_ && true); rw [Bool.and_true])
      · refine g_iconst (v := nI 1) C dX7_keeps_33 (by decide +kernel) ?_
        refine g_goto (tgt := 38) C dX7_keeps_34 (by decide) ?_
        refine g_topi (y := bI (decide (cdKeeps sv least = 0))) (by first | (rw [decide_eq_false (show ¬ cdKeeps sv least = 0 from fun h => c_30 (by rw [h]; decide))]; rfl) | (rw [decide_eq_true (show cdKeeps sv least = 0 from (nI_eq (by omega) (by decide)).mp (Decidable.byContradiction fun h => absurd c_30 h))]; rfl)) ?_
        refine g_istore_n (lv' := [(3, .int (bI (decide (cdKeeps sv least = 0)))), (0, .ref ((xK X).2.2 27)), (1, .double least)]) C dX7_keeps_38 rfl (by decide) rfl ?_
        refine g_iconst (v := nI 0) C dX7_keeps_39 (by decide +kernel) ?_
        refine g_istore (lv' := [(4, .int (nI 0)), (3, .int (bI (decide (cdKeeps sv least = 0)))), (0, .ref ((xK X).2.2 27)), (1, .double least)]) C dX7_keeps_40 (by decide) rfl ?_
        have loop42 : ∀ (r9 : Nat) (d : Nat) (b : Bool), pD H - d < r9 → (d ≤ pD H) → (b = (decide (cdKeeps sv least = 0) && allB (kpB H (sF σ 40) (sF σ 31) least) d)) → G X 5 0 0 (uN σ 5 (nI (cdKeeps sv least))) [(0, .ref ((xK X).2.2 27)), (1, .double least), (3, .int (bI b)), (4, .int (nI d))] 42 [] := by
          intro r9
          induction r9 with
          | zero => intro d b h9; exact absurd h9 (Nat.not_lt_zero _)
          | succ r9 ih42 =>
            intro d b hm42 hd hb
            refine g_iload C dX7_keeps_42 3 rfl ?_
            refine g_aload_n C dX7_keeps_44 0 rfl rfl ?_
            refine g_get C dX7_keeps_45 wl27 rfl 2 (by decide) 3 rfl rfl rfl inX7_keeps_X7 ?_
            refine g_topi (y := nI (pD H)) hM.nd ?_
            refine g_icmp_ge (tgt := 78) C dX7_keeps_48 (by decide) (fun c_48 => ?_) (fun c_48 => ?_)
            · have hde : d = pD H := by
                have h9 := (nI_leI (by  omega) (by  omega)).mp c_48
                omega
              have hres : b = (decide (cdKeeps sv least = 0) && allB (kpB H (sF σ 40) (sF σ 31) least) (pD H)) := by rw [← hde]; exact hb
              refine g_iload_n C dX7_keeps_78 2 rfl rfl ?_
              refine g_zret C dX7_keeps_79 rfl (nar_bI _) ⟨Nat.le_of_ble_eq_true rfl, Nat.le_of_ble_eq_true rfl⟩ ?_
              rw [hF]
              exact ⟨fun h => ⟨by rw [hres, decide_eq_false h]; rfl, rfl⟩, fun h => ⟨by rw [hres, decide_eq_true h, Bool.true_and], by rw [h]⟩⟩
            · have hdt : d < pD H := by
                refine Nat.lt_of_not_le fun h => c_48 ?_
                exact (nI_leI (by  omega) (by  omega)).mpr (by omega)
              refine g_iload_n C dX7_keeps_51 2 rfl rfl ?_
              refine g_if_eq (tgt := 78) C dX7_keeps_52 (by decide) (fun c_52 => ?_) (fun c_52 => ?_)
              · have hbf : b = false := (bI_ne _).mp c_52
                have hres : b = (decide (cdKeeps sv least = 0) && allB (kpB H (sF σ 40) (sF σ 31) least) (pD H)) := by
                  rw [hbf]
                  rw [hbf] at hb
                  cases h0 : decide (cdKeeps sv least = 0) with
                  | false => rfl
                  | true =>
                    rw [h0, Bool.true_and] at hb
                    rw [Bool.true_and]
                    exact (allB_fm hb.symm (Nat.le_of_lt hdt)).symm
                refine g_iload_n C dX7_keeps_78 2 rfl rfl ?_
                refine g_zret C dX7_keeps_79 rfl (nar_bI _) ⟨Nat.le_of_ble_eq_true rfl, Nat.le_of_ble_eq_true rfl⟩ ?_
                rw [hF]
                exact ⟨fun h => ⟨by rw [hres, decide_eq_false h]; rfl, rfl⟩, fun h => ⟨by rw [hres, decide_eq_true h, Bool.true_and], by rw [h]⟩⟩
              · have hbt : b = true := bIt c_52
                refine g_aload_n C dX7_keeps_55 0 rfl rfl ?_
                refine g_iload C dX7_keeps_56 3 rfl ?_
                refine g_callV (As := [.int (nI d)]) (rest := []) C dX7_keeps_58 (kX7_speedOf (xl X) (xK X) C.hD (uN σ 5 (nI (cdKeeps sv least))) hM hp hP hdt) wl27 rfl 1 gX7_keeps_X7_speedOf rfl (by decide +kernel) ⟨Nat.le_of_ble_eq_true rfl, Nat.le_of_ble_eq_true rfl⟩ ⟨Nat.le_of_ble_eq_true rfl, Nat.le_of_ble_eq_true rfl⟩ rfl rfl (Nat.le_of_ble_eq_true rfl) (fun rv9 σ9 h9 => ?_)
                obtain ⟨h9a, h9b⟩ := h9
                refine g_eq (σ2 := uN σ 5 (nI (cdKeeps sv least))) (lv2 := [(0, .ref ((xK X).2.2 27)), (1, .double least), (3, .int (bI b)), (4, .int (nI d))]) (st2 := [.double (spd H (sF σ 40) (sF σ 31) d)]) h9b rfl (by rw [h9a]; rfl) ?_
                refine g_dload_n C dX7_keeps_61 1 rfl rfl ?_
                refine g_dcmp C dX7_keeps_62 ?_
                refine g_if_lt (tgt := 70) C dX7_keeps_63 (by decide) (fun c_63 => ?_) (fun c_63 => ?_)
                · refine g_iconst (v := nI 0) C dX7_keeps_70 (by decide +kernel) ?_
                  refine g_topi (y := bI ((kpB H (sF σ 40) (sF σ 31) least) d)) (by first | (rw [show (kpB H (sF σ 40) (sF σ 31) least) d = true from decide_eq_true (Int32.not_lt.mp c_63)]; rfl) | (rw [show (kpB H (sF σ 40) (sF σ 31) least) d = false from decide_eq_false (Int32.not_le.mpr c_63)]; rfl)) ?_
                  refine g_istore_n (lv' := [(3, .int (bI ((kpB H (sF σ 40) (sF σ 31) least) d))), (0, .ref ((xK X).2.2 27)), (1, .double least), (4, .int (nI d))]) C dX7_keeps_71 rfl (by decide) rfl ?_
                  refine g_iinc (v := nI (d + 1)) (lv' := [(4, .int (nI (d + 1))), (3, .int (bI ((kpB H (sF σ 40) (sF σ 31) least) d))), (0, .ref ((xK X).2.2 27)), (1, .double least)]) C dX7_keeps_72 3 rfl (nI_1 d) (by decide) rfl ?_
                  refine g_goto (tgt := 42) C dX7_keeps_75 (by decide) ?_
                  refine g_lv [2, 3, 1, 0] rfl ?_
                  exact ih42 (d + 1) ((kpB H (sF σ 40) (sF σ 31) least) d) (by omega) (by omega) (by show _ = (_ && (allB (kpB H (sF σ 40) (sF σ 31) least) d && (kpB H (sF σ 40) (sF σ 31) least) d)); rw [← Bool.and_assoc, ← hb, hbt, Bool.true_and])
                · refine g_iconst (v := nI 1) C dX7_keeps_66 (by decide +kernel) ?_
                  refine g_goto (tgt := 71) C dX7_keeps_67 (by decide) ?_
                  refine g_topi (y := bI ((kpB H (sF σ 40) (sF σ 31) least) d)) (by first | (rw [show (kpB H (sF σ 40) (sF σ 31) least) d = true from decide_eq_true (Int32.not_lt.mp c_63)]; rfl) | (rw [show (kpB H (sF σ 40) (sF σ 31) least) d = false from decide_eq_false (Int32.not_le.mpr c_63)]; rfl)) ?_
                  refine g_istore_n (lv' := [(3, .int (bI ((kpB H (sF σ 40) (sF σ 31) least) d))), (0, .ref ((xK X).2.2 27)), (1, .double least), (4, .int (nI d))]) C dX7_keeps_71 rfl (by decide) rfl ?_
                  refine g_iinc (v := nI (d + 1)) (lv' := [(4, .int (nI (d + 1))), (3, .int (bI ((kpB H (sF σ 40) (sF σ 31) least) d))), (0, .ref ((xK X).2.2 27)), (1, .double least)]) C dX7_keeps_72 3 rfl (nI_1 d) (by decide) rfl ?_
                  refine g_goto (tgt := 42) C dX7_keeps_75 (by decide) ?_
                  refine g_lv [2, 3, 1, 0] rfl ?_
                  exact ih42 (d + 1) ((kpB H (sF σ 40) (sF σ 31) least) d) (by omega) (by omega) (by show _ = (_ && (allB (kpB H (sF σ 40) (sF σ 31) least) d && (kpB H (sF σ 40) (sF σ 31) least) d)); rw [← Bool.and_assoc, ← hb, hbt, Bool.true_and])
        refine g_lv [2, 3, 1, 0] rfl ?_
        exact loop42 (pD H + 1) 0 (decide (cdKeeps sv least = 0)) (by omega) (Nat.zero_le _) (by show _ = (_ && true); rw [Bool.and_true])
    · have hcd : cdKeeps sv least = 0 := (if_neg hge).trans (if_pos (bIt c_15))
      refine g_iconst (v := nI 0) C dX7_keeps_18 (by decide +kernel) ?_
      refine g_goto (tgt := 23) C dX7_keeps_19 (by decide) ?_
      refine g_topi (y := nI (cdKeeps sv least)) (by rw [hcd]) ?_
      refine g_put (σ' := uN σ 5 (nI (cdKeeps sv least))) (ty := .int) C dX7_keeps_23 wl27 rfl 0 (by decide) 2 rfl rfl inX7_keeps_X7 tyX7_ok nmX7 rfl (by decide +kernel) rfl rfl (Nat.le_of_ble_eq_true rfl) wsN5 ?_
      refine g_aload_n C dX7_keeps_26 0 rfl rfl ?_
      refine g_get C dX7_keeps_27 wl27 rfl 0 (by decide) 2 rfl rfl rfl inX7_keeps_X7 ?_
      refine g_topi (y := nI (cdKeeps sv least)) rfl ?_
      refine g_if_ne (tgt := 37) C dX7_keeps_30 (by decide) (fun c_30 => ?_) (fun c_30 => ?_)
      · refine g_iconst (v := nI 0) C dX7_keeps_37 (by decide +kernel) ?_
        refine g_topi (y := bI (decide (cdKeeps sv least = 0))) (by first | (rw [decide_eq_false (show ¬ cdKeeps sv least = 0 from fun h => c_30 (by rw [h]; decide))]; rfl) | (rw [decide_eq_true (show cdKeeps sv least = 0 from (nI_eq (by omega) (by decide)).mp (Decidable.byContradiction fun h => absurd c_30 h))]; rfl)) ?_
        refine g_istore_n (lv' := [(3, .int (bI (decide (cdKeeps sv least = 0)))), (0, .ref ((xK X).2.2 27)), (1, .double least)]) C dX7_keeps_38 rfl (by decide) rfl ?_
        refine g_iconst (v := nI 0) C dX7_keeps_39 (by decide +kernel) ?_
        refine g_istore (lv' := [(4, .int (nI 0)), (3, .int (bI (decide (cdKeeps sv least = 0)))), (0, .ref ((xK X).2.2 27)), (1, .double least)]) C dX7_keeps_40 (by decide) rfl ?_
        have loop42 : ∀ (r9 : Nat) (d : Nat) (b : Bool), pD H - d < r9 → (d ≤ pD H) → (b = (decide (cdKeeps sv least = 0) && allB (kpB H (sF σ 40) (sF σ 31) least) d)) → G X 5 0 0 (uN σ 5 (nI (cdKeeps sv least))) [(0, .ref ((xK X).2.2 27)), (1, .double least), (3, .int (bI b)), (4, .int (nI d))] 42 [] := by
          intro r9
          induction r9 with
          | zero => intro d b h9; exact absurd h9 (Nat.not_lt_zero _)
          | succ r9 ih42 =>
            intro d b hm42 hd hb
            refine g_iload C dX7_keeps_42 3 rfl ?_
            refine g_aload_n C dX7_keeps_44 0 rfl rfl ?_
            refine g_get C dX7_keeps_45 wl27 rfl 2 (by decide) 3 rfl rfl rfl inX7_keeps_X7 ?_
            refine g_topi (y := nI (pD H)) hM.nd ?_
            refine g_icmp_ge (tgt := 78) C dX7_keeps_48 (by decide) (fun c_48 => ?_) (fun c_48 => ?_)
            · have hde : d = pD H := by
                have h9 := (nI_leI (by  omega) (by  omega)).mp c_48
                omega
              have hres : b = (decide (cdKeeps sv least = 0) && allB (kpB H (sF σ 40) (sF σ 31) least) (pD H)) := by rw [← hde]; exact hb
              refine g_iload_n C dX7_keeps_78 2 rfl rfl ?_
              refine g_zret C dX7_keeps_79 rfl (nar_bI _) ⟨Nat.le_of_ble_eq_true rfl, Nat.le_of_ble_eq_true rfl⟩ ?_
              rw [hF]
              exact ⟨fun h => ⟨by rw [hres, decide_eq_false h]; rfl, rfl⟩, fun h => ⟨by rw [hres, decide_eq_true h, Bool.true_and], by rw [h]⟩⟩
            · have hdt : d < pD H := by
                refine Nat.lt_of_not_le fun h => c_48 ?_
                exact (nI_leI (by  omega) (by  omega)).mpr (by omega)
              refine g_iload_n C dX7_keeps_51 2 rfl rfl ?_
              refine g_if_eq (tgt := 78) C dX7_keeps_52 (by decide) (fun c_52 => ?_) (fun c_52 => ?_)
              · have hbf : b = false := (bI_ne _).mp c_52
                have hres : b = (decide (cdKeeps sv least = 0) && allB (kpB H (sF σ 40) (sF σ 31) least) (pD H)) := by
                  rw [hbf]
                  rw [hbf] at hb
                  cases h0 : decide (cdKeeps sv least = 0) with
                  | false => rfl
                  | true =>
                    rw [h0, Bool.true_and] at hb
                    rw [Bool.true_and]
                    exact (allB_fm hb.symm (Nat.le_of_lt hdt)).symm
                refine g_iload_n C dX7_keeps_78 2 rfl rfl ?_
                refine g_zret C dX7_keeps_79 rfl (nar_bI _) ⟨Nat.le_of_ble_eq_true rfl, Nat.le_of_ble_eq_true rfl⟩ ?_
                rw [hF]
                exact ⟨fun h => ⟨by rw [hres, decide_eq_false h]; rfl, rfl⟩, fun h => ⟨by rw [hres, decide_eq_true h, Bool.true_and], by rw [h]⟩⟩
              · have hbt : b = true := bIt c_52
                refine g_aload_n C dX7_keeps_55 0 rfl rfl ?_
                refine g_iload C dX7_keeps_56 3 rfl ?_
                refine g_callV (As := [.int (nI d)]) (rest := []) C dX7_keeps_58 (kX7_speedOf (xl X) (xK X) C.hD (uN σ 5 (nI (cdKeeps sv least))) hM hp hP hdt) wl27 rfl 1 gX7_keeps_X7_speedOf rfl (by decide +kernel) ⟨Nat.le_of_ble_eq_true rfl, Nat.le_of_ble_eq_true rfl⟩ ⟨Nat.le_of_ble_eq_true rfl, Nat.le_of_ble_eq_true rfl⟩ rfl rfl (Nat.le_of_ble_eq_true rfl) (fun rv9 σ9 h9 => ?_)
                obtain ⟨h9a, h9b⟩ := h9
                refine g_eq (σ2 := uN σ 5 (nI (cdKeeps sv least))) (lv2 := [(0, .ref ((xK X).2.2 27)), (1, .double least), (3, .int (bI b)), (4, .int (nI d))]) (st2 := [.double (spd H (sF σ 40) (sF σ 31) d)]) h9b rfl (by rw [h9a]; rfl) ?_
                refine g_dload_n C dX7_keeps_61 1 rfl rfl ?_
                refine g_dcmp C dX7_keeps_62 ?_
                refine g_if_lt (tgt := 70) C dX7_keeps_63 (by decide) (fun c_63 => ?_) (fun c_63 => ?_)
                · refine g_iconst (v := nI 0) C dX7_keeps_70 (by decide +kernel) ?_
                  refine g_topi (y := bI ((kpB H (sF σ 40) (sF σ 31) least) d)) (by first | (rw [show (kpB H (sF σ 40) (sF σ 31) least) d = true from decide_eq_true (Int32.not_lt.mp c_63)]; rfl) | (rw [show (kpB H (sF σ 40) (sF σ 31) least) d = false from decide_eq_false (Int32.not_le.mpr c_63)]; rfl)) ?_
                  refine g_istore_n (lv' := [(3, .int (bI ((kpB H (sF σ 40) (sF σ 31) least) d))), (0, .ref ((xK X).2.2 27)), (1, .double least), (4, .int (nI d))]) C dX7_keeps_71 rfl (by decide) rfl ?_
                  refine g_iinc (v := nI (d + 1)) (lv' := [(4, .int (nI (d + 1))), (3, .int (bI ((kpB H (sF σ 40) (sF σ 31) least) d))), (0, .ref ((xK X).2.2 27)), (1, .double least)]) C dX7_keeps_72 3 rfl (nI_1 d) (by decide) rfl ?_
                  refine g_goto (tgt := 42) C dX7_keeps_75 (by decide) ?_
                  refine g_lv [2, 3, 1, 0] rfl ?_
                  exact ih42 (d + 1) ((kpB H (sF σ 40) (sF σ 31) least) d) (by omega) (by omega) (by show _ = (_ && (allB (kpB H (sF σ 40) (sF σ 31) least) d && (kpB H (sF σ 40) (sF σ 31) least) d)); rw [← Bool.and_assoc, ← hb, hbt, Bool.true_and])
                · refine g_iconst (v := nI 1) C dX7_keeps_66 (by decide +kernel) ?_
                  refine g_goto (tgt := 71) C dX7_keeps_67 (by decide) ?_
                  refine g_topi (y := bI ((kpB H (sF σ 40) (sF σ 31) least) d)) (by first | (rw [show (kpB H (sF σ 40) (sF σ 31) least) d = true from decide_eq_true (Int32.not_lt.mp c_63)]; rfl) | (rw [show (kpB H (sF σ 40) (sF σ 31) least) d = false from decide_eq_false (Int32.not_le.mpr c_63)]; rfl)) ?_
                  refine g_istore_n (lv' := [(3, .int (bI ((kpB H (sF σ 40) (sF σ 31) least) d))), (0, .ref ((xK X).2.2 27)), (1, .double least), (4, .int (nI d))]) C dX7_keeps_71 rfl (by decide) rfl ?_
                  refine g_iinc (v := nI (d + 1)) (lv' := [(4, .int (nI (d + 1))), (3, .int (bI ((kpB H (sF σ 40) (sF σ 31) least) d))), (0, .ref ((xK X).2.2 27)), (1, .double least)]) C dX7_keeps_72 3 rfl (nI_1 d) (by decide) rfl ?_
                  refine g_goto (tgt := 42) C dX7_keeps_75 (by decide) ?_
                  refine g_lv [2, 3, 1, 0] rfl ?_
                  exact ih42 (d + 1) ((kpB H (sF σ 40) (sF σ 31) least) d) (by omega) (by omega) (by show _ = (_ && (allB (kpB H (sF σ 40) (sF σ 31) least) d && (kpB H (sF σ 40) (sF σ 31) least) d)); rw [← Bool.and_assoc, ← hb, hbt, Bool.true_and])
        refine g_lv [2, 3, 1, 0] rfl ?_
        exact loop42 (pD H + 1) 0 (decide (cdKeeps sv least = 0)) (by omega) (Nat.zero_le _) (by show _ = (_ && true); rw [Bool.and_true])
      · refine g_iconst (v := nI 1) C dX7_keeps_33 (by decide +kernel) ?_
        refine g_goto (tgt := 38) C dX7_keeps_34 (by decide) ?_
        refine g_topi (y := bI (decide (cdKeeps sv least = 0))) (by first | (rw [decide_eq_false (show ¬ cdKeeps sv least = 0 from fun h => c_30 (by rw [h]; decide))]; rfl) | (rw [decide_eq_true (show cdKeeps sv least = 0 from (nI_eq (by omega) (by decide)).mp (Decidable.byContradiction fun h => absurd c_30 h))]; rfl)) ?_
        refine g_istore_n (lv' := [(3, .int (bI (decide (cdKeeps sv least = 0)))), (0, .ref ((xK X).2.2 27)), (1, .double least)]) C dX7_keeps_38 rfl (by decide) rfl ?_
        refine g_iconst (v := nI 0) C dX7_keeps_39 (by decide +kernel) ?_
        refine g_istore (lv' := [(4, .int (nI 0)), (3, .int (bI (decide (cdKeeps sv least = 0)))), (0, .ref ((xK X).2.2 27)), (1, .double least)]) C dX7_keeps_40 (by decide) rfl ?_
        have loop42 : ∀ (r9 : Nat) (d : Nat) (b : Bool), pD H - d < r9 → (d ≤ pD H) → (b = (decide (cdKeeps sv least = 0) && allB (kpB H (sF σ 40) (sF σ 31) least) d)) → G X 5 0 0 (uN σ 5 (nI (cdKeeps sv least))) [(0, .ref ((xK X).2.2 27)), (1, .double least), (3, .int (bI b)), (4, .int (nI d))] 42 [] := by
          intro r9
          induction r9 with
          | zero => intro d b h9; exact absurd h9 (Nat.not_lt_zero _)
          | succ r9 ih42 =>
            intro d b hm42 hd hb
            refine g_iload C dX7_keeps_42 3 rfl ?_
            refine g_aload_n C dX7_keeps_44 0 rfl rfl ?_
            refine g_get C dX7_keeps_45 wl27 rfl 2 (by decide) 3 rfl rfl rfl inX7_keeps_X7 ?_
            refine g_topi (y := nI (pD H)) hM.nd ?_
            refine g_icmp_ge (tgt := 78) C dX7_keeps_48 (by decide) (fun c_48 => ?_) (fun c_48 => ?_)
            · have hde : d = pD H := by
                have h9 := (nI_leI (by  omega) (by  omega)).mp c_48
                omega
              have hres : b = (decide (cdKeeps sv least = 0) && allB (kpB H (sF σ 40) (sF σ 31) least) (pD H)) := by rw [← hde]; exact hb
              refine g_iload_n C dX7_keeps_78 2 rfl rfl ?_
              refine g_zret C dX7_keeps_79 rfl (nar_bI _) ⟨Nat.le_of_ble_eq_true rfl, Nat.le_of_ble_eq_true rfl⟩ ?_
              rw [hF]
              exact ⟨fun h => ⟨by rw [hres, decide_eq_false h]; rfl, rfl⟩, fun h => ⟨by rw [hres, decide_eq_true h, Bool.true_and], by rw [h]⟩⟩
            · have hdt : d < pD H := by
                refine Nat.lt_of_not_le fun h => c_48 ?_
                exact (nI_leI (by  omega) (by  omega)).mpr (by omega)
              refine g_iload_n C dX7_keeps_51 2 rfl rfl ?_
              refine g_if_eq (tgt := 78) C dX7_keeps_52 (by decide) (fun c_52 => ?_) (fun c_52 => ?_)
              · have hbf : b = false := (bI_ne _).mp c_52
                have hres : b = (decide (cdKeeps sv least = 0) && allB (kpB H (sF σ 40) (sF σ 31) least) (pD H)) := by
                  rw [hbf]
                  rw [hbf] at hb
                  cases h0 : decide (cdKeeps sv least = 0) with
                  | false => rfl
                  | true =>
                    rw [h0, Bool.true_and] at hb
                    rw [Bool.true_and]
                    exact (allB_fm hb.symm (Nat.le_of_lt hdt)).symm
                refine g_iload_n C dX7_keeps_78 2 rfl rfl ?_
                refine g_zret C dX7_keeps_79 rfl (nar_bI _) ⟨Nat.le_of_ble_eq_true rfl, Nat.le_of_ble_eq_true rfl⟩ ?_
                rw [hF]
                exact ⟨fun h => ⟨by rw [hres, decide_eq_false h]; rfl, rfl⟩, fun h => ⟨by rw [hres, decide_eq_true h, Bool.true_and], by rw [h]⟩⟩
              · have hbt : b = true := bIt c_52
                refine g_aload_n C dX7_keeps_55 0 rfl rfl ?_
                refine g_iload C dX7_keeps_56 3 rfl ?_
                refine g_callV (As := [.int (nI d)]) (rest := []) C dX7_keeps_58 (kX7_speedOf (xl X) (xK X) C.hD (uN σ 5 (nI (cdKeeps sv least))) hM hp hP hdt) wl27 rfl 1 gX7_keeps_X7_speedOf rfl (by decide +kernel) ⟨Nat.le_of_ble_eq_true rfl, Nat.le_of_ble_eq_true rfl⟩ ⟨Nat.le_of_ble_eq_true rfl, Nat.le_of_ble_eq_true rfl⟩ rfl rfl (Nat.le_of_ble_eq_true rfl) (fun rv9 σ9 h9 => ?_)
                obtain ⟨h9a, h9b⟩ := h9
                refine g_eq (σ2 := uN σ 5 (nI (cdKeeps sv least))) (lv2 := [(0, .ref ((xK X).2.2 27)), (1, .double least), (3, .int (bI b)), (4, .int (nI d))]) (st2 := [.double (spd H (sF σ 40) (sF σ 31) d)]) h9b rfl (by rw [h9a]; rfl) ?_
                refine g_dload_n C dX7_keeps_61 1 rfl rfl ?_
                refine g_dcmp C dX7_keeps_62 ?_
                refine g_if_lt (tgt := 70) C dX7_keeps_63 (by decide) (fun c_63 => ?_) (fun c_63 => ?_)
                · refine g_iconst (v := nI 0) C dX7_keeps_70 (by decide +kernel) ?_
                  refine g_topi (y := bI ((kpB H (sF σ 40) (sF σ 31) least) d)) (by first | (rw [show (kpB H (sF σ 40) (sF σ 31) least) d = true from decide_eq_true (Int32.not_lt.mp c_63)]; rfl) | (rw [show (kpB H (sF σ 40) (sF σ 31) least) d = false from decide_eq_false (Int32.not_le.mpr c_63)]; rfl)) ?_
                  refine g_istore_n (lv' := [(3, .int (bI ((kpB H (sF σ 40) (sF σ 31) least) d))), (0, .ref ((xK X).2.2 27)), (1, .double least), (4, .int (nI d))]) C dX7_keeps_71 rfl (by decide) rfl ?_
                  refine g_iinc (v := nI (d + 1)) (lv' := [(4, .int (nI (d + 1))), (3, .int (bI ((kpB H (sF σ 40) (sF σ 31) least) d))), (0, .ref ((xK X).2.2 27)), (1, .double least)]) C dX7_keeps_72 3 rfl (nI_1 d) (by decide) rfl ?_
                  refine g_goto (tgt := 42) C dX7_keeps_75 (by decide) ?_
                  refine g_lv [2, 3, 1, 0] rfl ?_
                  exact ih42 (d + 1) ((kpB H (sF σ 40) (sF σ 31) least) d) (by omega) (by omega) (by show _ = (_ && (allB (kpB H (sF σ 40) (sF σ 31) least) d && (kpB H (sF σ 40) (sF σ 31) least) d)); rw [← Bool.and_assoc, ← hb, hbt, Bool.true_and])
                · refine g_iconst (v := nI 1) C dX7_keeps_66 (by decide +kernel) ?_
                  refine g_goto (tgt := 71) C dX7_keeps_67 (by decide) ?_
                  refine g_topi (y := bI ((kpB H (sF σ 40) (sF σ 31) least) d)) (by first | (rw [show (kpB H (sF σ 40) (sF σ 31) least) d = true from decide_eq_true (Int32.not_lt.mp c_63)]; rfl) | (rw [show (kpB H (sF σ 40) (sF σ 31) least) d = false from decide_eq_false (Int32.not_le.mpr c_63)]; rfl)) ?_
                  refine g_istore_n (lv' := [(3, .int (bI ((kpB H (sF σ 40) (sF σ 31) least) d))), (0, .ref ((xK X).2.2 27)), (1, .double least), (4, .int (nI d))]) C dX7_keeps_71 rfl (by decide) rfl ?_
                  refine g_iinc (v := nI (d + 1)) (lv' := [(4, .int (nI (d + 1))), (3, .int (bI ((kpB H (sF σ 40) (sF σ 31) least) d))), (0, .ref ((xK X).2.2 27)), (1, .double least)]) C dX7_keeps_72 3 rfl (nI_1 d) (by decide) rfl ?_
                  refine g_goto (tgt := 42) C dX7_keeps_75 (by decide) ?_
                  refine g_lv [2, 3, 1, 0] rfl ?_
                  exact ih42 (d + 1) ((kpB H (sF σ 40) (sF σ 31) least) d) (by omega) (by omega) (by show _ = (_ && (allB (kpB H (sF σ 40) (sF σ 31) least) d && (kpB H (sF σ 40) (sF σ 31) least) d)); rw [← Bool.and_assoc, ← hb, hbt, Bool.true_and])
        refine g_lv [2, 3, 1, 0] rfl ?_
        exact loop42 (pD H + 1) 0 (decide (cdKeeps sv least = 0)) (by omega) (Nat.zero_le _) (by show _ = (_ && true); rw [Bool.and_true])
  · have hlt : Op.cmpValue (FP.dcmp least FP.dconst0) .g < 0 := (cv_lt hx.nn d0_F.nn).mpr (by
      have h1 := fun z => c_4 ((cv_ge hx.nn d0_F.nn).mpr z)
      have h1 : ¬ dv FP.dconst0 ≤ dv least := h1
      omega)
    have hcd : cdKeeps sv least = 1 := if_pos hlt
    refine g_iconst (v := nI 1) C dX7_keeps_7 (by decide +kernel) ?_
    refine g_goto (tgt := 23) C dX7_keeps_8 (by decide) ?_
    refine g_topi (y := nI (cdKeeps sv least)) (by rw [hcd]) ?_
    refine g_put (σ' := uN σ 5 (nI (cdKeeps sv least))) (ty := .int) C dX7_keeps_23 wl27 rfl 0 (by decide) 2 rfl rfl inX7_keeps_X7 tyX7_ok nmX7 rfl (by decide +kernel) rfl rfl (Nat.le_of_ble_eq_true rfl) wsN5 ?_
    refine g_aload_n C dX7_keeps_26 0 rfl rfl ?_
    refine g_get C dX7_keeps_27 wl27 rfl 0 (by decide) 2 rfl rfl rfl inX7_keeps_X7 ?_
    refine g_topi (y := nI (cdKeeps sv least)) rfl ?_
    refine g_if_ne (tgt := 37) C dX7_keeps_30 (by decide) (fun c_30 => ?_) (fun c_30 => ?_)
    · refine g_iconst (v := nI 0) C dX7_keeps_37 (by decide +kernel) ?_
      refine g_topi (y := bI (decide (cdKeeps sv least = 0))) (by first | (rw [decide_eq_false (show ¬ cdKeeps sv least = 0 from fun h => c_30 (by rw [h]; decide))]; rfl) | (rw [decide_eq_true (show cdKeeps sv least = 0 from (nI_eq (by omega) (by decide)).mp (Decidable.byContradiction fun h => absurd c_30 h))]; rfl)) ?_
      refine g_istore_n (lv' := [(3, .int (bI (decide (cdKeeps sv least = 0)))), (0, .ref ((xK X).2.2 27)), (1, .double least)]) C dX7_keeps_38 rfl (by decide) rfl ?_
      refine g_iconst (v := nI 0) C dX7_keeps_39 (by decide +kernel) ?_
      refine g_istore (lv' := [(4, .int (nI 0)), (3, .int (bI (decide (cdKeeps sv least = 0)))), (0, .ref ((xK X).2.2 27)), (1, .double least)]) C dX7_keeps_40 (by decide) rfl ?_
      have loop42 : ∀ (r9 : Nat) (d : Nat) (b : Bool), pD H - d < r9 → (d ≤ pD H) → (b = (decide (cdKeeps sv least = 0) && allB (kpB H (sF σ 40) (sF σ 31) least) d)) → G X 5 0 0 (uN σ 5 (nI (cdKeeps sv least))) [(0, .ref ((xK X).2.2 27)), (1, .double least), (3, .int (bI b)), (4, .int (nI d))] 42 [] := by
        intro r9
        induction r9 with
        | zero => intro d b h9; exact absurd h9 (Nat.not_lt_zero _)
        | succ r9 ih42 =>
          intro d b hm42 hd hb
          refine g_iload C dX7_keeps_42 3 rfl ?_
          refine g_aload_n C dX7_keeps_44 0 rfl rfl ?_
          refine g_get C dX7_keeps_45 wl27 rfl 2 (by decide) 3 rfl rfl rfl inX7_keeps_X7 ?_
          refine g_topi (y := nI (pD H)) hM.nd ?_
          refine g_icmp_ge (tgt := 78) C dX7_keeps_48 (by decide) (fun c_48 => ?_) (fun c_48 => ?_)
          · have hde : d = pD H := by
              have h9 := (nI_leI (by  omega) (by  omega)).mp c_48
              omega
            have hres : b = (decide (cdKeeps sv least = 0) && allB (kpB H (sF σ 40) (sF σ 31) least) (pD H)) := by rw [← hde]; exact hb
            refine g_iload_n C dX7_keeps_78 2 rfl rfl ?_
            refine g_zret C dX7_keeps_79 rfl (nar_bI _) ⟨Nat.le_of_ble_eq_true rfl, Nat.le_of_ble_eq_true rfl⟩ ?_
            rw [hF]
            exact ⟨fun h => ⟨by rw [hres, decide_eq_false h]; rfl, rfl⟩, fun h => ⟨by rw [hres, decide_eq_true h, Bool.true_and], by rw [h]⟩⟩
          · have hdt : d < pD H := by
              refine Nat.lt_of_not_le fun h => c_48 ?_
              exact (nI_leI (by  omega) (by  omega)).mpr (by omega)
            refine g_iload_n C dX7_keeps_51 2 rfl rfl ?_
            refine g_if_eq (tgt := 78) C dX7_keeps_52 (by decide) (fun c_52 => ?_) (fun c_52 => ?_)
            · have hbf : b = false := (bI_ne _).mp c_52
              have hres : b = (decide (cdKeeps sv least = 0) && allB (kpB H (sF σ 40) (sF σ 31) least) (pD H)) := by
                rw [hbf]
                rw [hbf] at hb
                cases h0 : decide (cdKeeps sv least = 0) with
                | false => rfl
                | true =>
                  rw [h0, Bool.true_and] at hb
                  rw [Bool.true_and]
                  exact (allB_fm hb.symm (Nat.le_of_lt hdt)).symm
              refine g_iload_n C dX7_keeps_78 2 rfl rfl ?_
              refine g_zret C dX7_keeps_79 rfl (nar_bI _) ⟨Nat.le_of_ble_eq_true rfl, Nat.le_of_ble_eq_true rfl⟩ ?_
              rw [hF]
              exact ⟨fun h => ⟨by rw [hres, decide_eq_false h]; rfl, rfl⟩, fun h => ⟨by rw [hres, decide_eq_true h, Bool.true_and], by rw [h]⟩⟩
            · have hbt : b = true := bIt c_52
              refine g_aload_n C dX7_keeps_55 0 rfl rfl ?_
              refine g_iload C dX7_keeps_56 3 rfl ?_
              refine g_callV (As := [.int (nI d)]) (rest := []) C dX7_keeps_58 (kX7_speedOf (xl X) (xK X) C.hD (uN σ 5 (nI (cdKeeps sv least))) hM hp hP hdt) wl27 rfl 1 gX7_keeps_X7_speedOf rfl (by decide +kernel) ⟨Nat.le_of_ble_eq_true rfl, Nat.le_of_ble_eq_true rfl⟩ ⟨Nat.le_of_ble_eq_true rfl, Nat.le_of_ble_eq_true rfl⟩ rfl rfl (Nat.le_of_ble_eq_true rfl) (fun rv9 σ9 h9 => ?_)
              obtain ⟨h9a, h9b⟩ := h9
              refine g_eq (σ2 := uN σ 5 (nI (cdKeeps sv least))) (lv2 := [(0, .ref ((xK X).2.2 27)), (1, .double least), (3, .int (bI b)), (4, .int (nI d))]) (st2 := [.double (spd H (sF σ 40) (sF σ 31) d)]) h9b rfl (by rw [h9a]; rfl) ?_
              refine g_dload_n C dX7_keeps_61 1 rfl rfl ?_
              refine g_dcmp C dX7_keeps_62 ?_
              refine g_if_lt (tgt := 70) C dX7_keeps_63 (by decide) (fun c_63 => ?_) (fun c_63 => ?_)
              · refine g_iconst (v := nI 0) C dX7_keeps_70 (by decide +kernel) ?_
                refine g_topi (y := bI ((kpB H (sF σ 40) (sF σ 31) least) d)) (by first | (rw [show (kpB H (sF σ 40) (sF σ 31) least) d = true from decide_eq_true (Int32.not_lt.mp c_63)]; rfl) | (rw [show (kpB H (sF σ 40) (sF σ 31) least) d = false from decide_eq_false (Int32.not_le.mpr c_63)]; rfl)) ?_
                refine g_istore_n (lv' := [(3, .int (bI ((kpB H (sF σ 40) (sF σ 31) least) d))), (0, .ref ((xK X).2.2 27)), (1, .double least), (4, .int (nI d))]) C dX7_keeps_71 rfl (by decide) rfl ?_
                refine g_iinc (v := nI (d + 1)) (lv' := [(4, .int (nI (d + 1))), (3, .int (bI ((kpB H (sF σ 40) (sF σ 31) least) d))), (0, .ref ((xK X).2.2 27)), (1, .double least)]) C dX7_keeps_72 3 rfl (nI_1 d) (by decide) rfl ?_
                refine g_goto (tgt := 42) C dX7_keeps_75 (by decide) ?_
                refine g_lv [2, 3, 1, 0] rfl ?_
                exact ih42 (d + 1) ((kpB H (sF σ 40) (sF σ 31) least) d) (by omega) (by omega) (by show _ = (_ && (allB (kpB H (sF σ 40) (sF σ 31) least) d && (kpB H (sF σ 40) (sF σ 31) least) d)); rw [← Bool.and_assoc, ← hb, hbt, Bool.true_and])
              · refine g_iconst (v := nI 1) C dX7_keeps_66 (by decide +kernel) ?_
                refine g_goto (tgt := 71) C dX7_keeps_67 (by decide) ?_
                refine g_topi (y := bI ((kpB H (sF σ 40) (sF σ 31) least) d)) (by first | (rw [show (kpB H (sF σ 40) (sF σ 31) least) d = true from decide_eq_true (Int32.not_lt.mp c_63)]; rfl) | (rw [show (kpB H (sF σ 40) (sF σ 31) least) d = false from decide_eq_false (Int32.not_le.mpr c_63)]; rfl)) ?_
                refine g_istore_n (lv' := [(3, .int (bI ((kpB H (sF σ 40) (sF σ 31) least) d))), (0, .ref ((xK X).2.2 27)), (1, .double least), (4, .int (nI d))]) C dX7_keeps_71 rfl (by decide) rfl ?_
                refine g_iinc (v := nI (d + 1)) (lv' := [(4, .int (nI (d + 1))), (3, .int (bI ((kpB H (sF σ 40) (sF σ 31) least) d))), (0, .ref ((xK X).2.2 27)), (1, .double least)]) C dX7_keeps_72 3 rfl (nI_1 d) (by decide) rfl ?_
                refine g_goto (tgt := 42) C dX7_keeps_75 (by decide) ?_
                refine g_lv [2, 3, 1, 0] rfl ?_
                exact ih42 (d + 1) ((kpB H (sF σ 40) (sF σ 31) least) d) (by omega) (by omega) (by show _ = (_ && (allB (kpB H (sF σ 40) (sF σ 31) least) d && (kpB H (sF σ 40) (sF σ 31) least) d)); rw [← Bool.and_assoc, ← hb, hbt, Bool.true_and])
      refine g_lv [2, 3, 1, 0] rfl ?_
      exact loop42 (pD H + 1) 0 (decide (cdKeeps sv least = 0)) (by omega) (Nat.zero_le _) (by show _ = (_ && true); rw [Bool.and_true])
    · refine g_iconst (v := nI 1) C dX7_keeps_33 (by decide +kernel) ?_
      refine g_goto (tgt := 38) C dX7_keeps_34 (by decide) ?_
      refine g_topi (y := bI (decide (cdKeeps sv least = 0))) (by first | (rw [decide_eq_false (show ¬ cdKeeps sv least = 0 from fun h => c_30 (by rw [h]; decide))]; rfl) | (rw [decide_eq_true (show cdKeeps sv least = 0 from (nI_eq (by omega) (by decide)).mp (Decidable.byContradiction fun h => absurd c_30 h))]; rfl)) ?_
      refine g_istore_n (lv' := [(3, .int (bI (decide (cdKeeps sv least = 0)))), (0, .ref ((xK X).2.2 27)), (1, .double least)]) C dX7_keeps_38 rfl (by decide) rfl ?_
      refine g_iconst (v := nI 0) C dX7_keeps_39 (by decide +kernel) ?_
      refine g_istore (lv' := [(4, .int (nI 0)), (3, .int (bI (decide (cdKeeps sv least = 0)))), (0, .ref ((xK X).2.2 27)), (1, .double least)]) C dX7_keeps_40 (by decide) rfl ?_
      have loop42 : ∀ (r9 : Nat) (d : Nat) (b : Bool), pD H - d < r9 → (d ≤ pD H) → (b = (decide (cdKeeps sv least = 0) && allB (kpB H (sF σ 40) (sF σ 31) least) d)) → G X 5 0 0 (uN σ 5 (nI (cdKeeps sv least))) [(0, .ref ((xK X).2.2 27)), (1, .double least), (3, .int (bI b)), (4, .int (nI d))] 42 [] := by
        intro r9
        induction r9 with
        | zero => intro d b h9; exact absurd h9 (Nat.not_lt_zero _)
        | succ r9 ih42 =>
          intro d b hm42 hd hb
          refine g_iload C dX7_keeps_42 3 rfl ?_
          refine g_aload_n C dX7_keeps_44 0 rfl rfl ?_
          refine g_get C dX7_keeps_45 wl27 rfl 2 (by decide) 3 rfl rfl rfl inX7_keeps_X7 ?_
          refine g_topi (y := nI (pD H)) hM.nd ?_
          refine g_icmp_ge (tgt := 78) C dX7_keeps_48 (by decide) (fun c_48 => ?_) (fun c_48 => ?_)
          · have hde : d = pD H := by
              have h9 := (nI_leI (by  omega) (by  omega)).mp c_48
              omega
            have hres : b = (decide (cdKeeps sv least = 0) && allB (kpB H (sF σ 40) (sF σ 31) least) (pD H)) := by rw [← hde]; exact hb
            refine g_iload_n C dX7_keeps_78 2 rfl rfl ?_
            refine g_zret C dX7_keeps_79 rfl (nar_bI _) ⟨Nat.le_of_ble_eq_true rfl, Nat.le_of_ble_eq_true rfl⟩ ?_
            rw [hF]
            exact ⟨fun h => ⟨by rw [hres, decide_eq_false h]; rfl, rfl⟩, fun h => ⟨by rw [hres, decide_eq_true h, Bool.true_and], by rw [h]⟩⟩
          · have hdt : d < pD H := by
              refine Nat.lt_of_not_le fun h => c_48 ?_
              exact (nI_leI (by  omega) (by  omega)).mpr (by omega)
            refine g_iload_n C dX7_keeps_51 2 rfl rfl ?_
            refine g_if_eq (tgt := 78) C dX7_keeps_52 (by decide) (fun c_52 => ?_) (fun c_52 => ?_)
            · have hbf : b = false := (bI_ne _).mp c_52
              have hres : b = (decide (cdKeeps sv least = 0) && allB (kpB H (sF σ 40) (sF σ 31) least) (pD H)) := by
                rw [hbf]
                rw [hbf] at hb
                cases h0 : decide (cdKeeps sv least = 0) with
                | false => rfl
                | true =>
                  rw [h0, Bool.true_and] at hb
                  rw [Bool.true_and]
                  exact (allB_fm hb.symm (Nat.le_of_lt hdt)).symm
              refine g_iload_n C dX7_keeps_78 2 rfl rfl ?_
              refine g_zret C dX7_keeps_79 rfl (nar_bI _) ⟨Nat.le_of_ble_eq_true rfl, Nat.le_of_ble_eq_true rfl⟩ ?_
              rw [hF]
              exact ⟨fun h => ⟨by rw [hres, decide_eq_false h]; rfl, rfl⟩, fun h => ⟨by rw [hres, decide_eq_true h, Bool.true_and], by rw [h]⟩⟩
            · have hbt : b = true := bIt c_52
              refine g_aload_n C dX7_keeps_55 0 rfl rfl ?_
              refine g_iload C dX7_keeps_56 3 rfl ?_
              refine g_callV (As := [.int (nI d)]) (rest := []) C dX7_keeps_58 (kX7_speedOf (xl X) (xK X) C.hD (uN σ 5 (nI (cdKeeps sv least))) hM hp hP hdt) wl27 rfl 1 gX7_keeps_X7_speedOf rfl (by decide +kernel) ⟨Nat.le_of_ble_eq_true rfl, Nat.le_of_ble_eq_true rfl⟩ ⟨Nat.le_of_ble_eq_true rfl, Nat.le_of_ble_eq_true rfl⟩ rfl rfl (Nat.le_of_ble_eq_true rfl) (fun rv9 σ9 h9 => ?_)
              obtain ⟨h9a, h9b⟩ := h9
              refine g_eq (σ2 := uN σ 5 (nI (cdKeeps sv least))) (lv2 := [(0, .ref ((xK X).2.2 27)), (1, .double least), (3, .int (bI b)), (4, .int (nI d))]) (st2 := [.double (spd H (sF σ 40) (sF σ 31) d)]) h9b rfl (by rw [h9a]; rfl) ?_
              refine g_dload_n C dX7_keeps_61 1 rfl rfl ?_
              refine g_dcmp C dX7_keeps_62 ?_
              refine g_if_lt (tgt := 70) C dX7_keeps_63 (by decide) (fun c_63 => ?_) (fun c_63 => ?_)
              · refine g_iconst (v := nI 0) C dX7_keeps_70 (by decide +kernel) ?_
                refine g_topi (y := bI ((kpB H (sF σ 40) (sF σ 31) least) d)) (by first | (rw [show (kpB H (sF σ 40) (sF σ 31) least) d = true from decide_eq_true (Int32.not_lt.mp c_63)]; rfl) | (rw [show (kpB H (sF σ 40) (sF σ 31) least) d = false from decide_eq_false (Int32.not_le.mpr c_63)]; rfl)) ?_
                refine g_istore_n (lv' := [(3, .int (bI ((kpB H (sF σ 40) (sF σ 31) least) d))), (0, .ref ((xK X).2.2 27)), (1, .double least), (4, .int (nI d))]) C dX7_keeps_71 rfl (by decide) rfl ?_
                refine g_iinc (v := nI (d + 1)) (lv' := [(4, .int (nI (d + 1))), (3, .int (bI ((kpB H (sF σ 40) (sF σ 31) least) d))), (0, .ref ((xK X).2.2 27)), (1, .double least)]) C dX7_keeps_72 3 rfl (nI_1 d) (by decide) rfl ?_
                refine g_goto (tgt := 42) C dX7_keeps_75 (by decide) ?_
                refine g_lv [2, 3, 1, 0] rfl ?_
                exact ih42 (d + 1) ((kpB H (sF σ 40) (sF σ 31) least) d) (by omega) (by omega) (by show _ = (_ && (allB (kpB H (sF σ 40) (sF σ 31) least) d && (kpB H (sF σ 40) (sF σ 31) least) d)); rw [← Bool.and_assoc, ← hb, hbt, Bool.true_and])
              · refine g_iconst (v := nI 1) C dX7_keeps_66 (by decide +kernel) ?_
                refine g_goto (tgt := 71) C dX7_keeps_67 (by decide) ?_
                refine g_topi (y := bI ((kpB H (sF σ 40) (sF σ 31) least) d)) (by first | (rw [show (kpB H (sF σ 40) (sF σ 31) least) d = true from decide_eq_true (Int32.not_lt.mp c_63)]; rfl) | (rw [show (kpB H (sF σ 40) (sF σ 31) least) d = false from decide_eq_false (Int32.not_le.mpr c_63)]; rfl)) ?_
                refine g_istore_n (lv' := [(3, .int (bI ((kpB H (sF σ 40) (sF σ 31) least) d))), (0, .ref ((xK X).2.2 27)), (1, .double least), (4, .int (nI d))]) C dX7_keeps_71 rfl (by decide) rfl ?_
                refine g_iinc (v := nI (d + 1)) (lv' := [(4, .int (nI (d + 1))), (3, .int (bI ((kpB H (sF σ 40) (sF σ 31) least) d))), (0, .ref ((xK X).2.2 27)), (1, .double least)]) C dX7_keeps_72 3 rfl (nI_1 d) (by decide) rfl ?_
                refine g_goto (tgt := 42) C dX7_keeps_75 (by decide) ?_
                refine g_lv [2, 3, 1, 0] rfl ?_
                exact ih42 (d + 1) ((kpB H (sF σ 40) (sF σ 31) least) d) (by omega) (by omega) (by show _ = (_ && (allB (kpB H (sF σ 40) (sF σ 31) least) d && (kpB H (sF σ 40) (sF σ 31) least) d)); rw [← Bool.and_assoc, ← hb, hbt, Bool.true_and])
      refine g_lv [2, 3, 1, 0] rfl ?_
      exact loop42 (pD H + 1) 0 (decide (cdKeeps sv least = 0)) (by omega) (Nat.zero_le _) (by show _ = (_ && true); rw [Bool.and_true])

theorem inX7_list_X7 : ∀ w ∈ u_ws RX7 TX7 24, w ∈ wsX7_list := by decide +kernel
set_option maxHeartbeats 4000000 in
set_option maxRecDepth 100000 in
theorem kX7_list (l : Launch) (K : gK) (hD : gD K) (σ : gS) {H : Ph} {nj n : Nat} {sv : Bool} (hI : Mi H nj n sv σ) (wd : UInt64) (x : Int32) : Ct l yX7_list wsX7_list { frames := 1, cells := 0, slots := 0, locals := 25 } K [.ref (K.2.2 27), .double wd, .int x] σ (Mr σ (cdList n wd x) (some (.int (nI 0))) (fun r t => r = some (.int (nI n)) ∧ t = uN (uI (uF (uN σ 5 (nI 0)) 41 (vf_upd (sF σ 41) n wd)) 42 (upd (sI σ 42) n x)) 10 (nI (n + 1)))) := by
  refine Ct.of hD (by decide) rfl (Nat.le_of_ble_eq_true rfl) ?_
  intro X hL hK hF C
  subst hL; subst hK
  refine g_eq (σ2 := σ) (lv2 := [(0, .ref ((xK X).2.2 27)), (1, .double wd), (3, .int x)]) (st2 := []) rfl rfl rfl ?_
  obtain ⟨hM, hp, hP, hg, hq, hsv, ⟨hn, hn6, hsw⟩, hr, hl⟩ := hI
  have h16 := hM.nd16
  have h8 := hM.nm8
  have hjj := hM.j
  have hcb := cdList_le n wd x
  refine g_aload_n C dX7_list_0 0 rfl rfl ?_
  refine g_dload_n C dX7_list_1 1 rfl rfl ?_
  refine g_ldc2d (v := 4593671619917905920) C dX7_list_2 1 rfl ?_
  refine g_ldc2d (v := 4636737291354636288) C dX7_list_5 2 rfl ?_
  refine g_callS (As := [.double wd, .double 4593671619917905920, .double 4636737291354636288]) (rest := [.ref ((xK X).2.2 27)]) C dX7_list_8 (kX7_between (xl X) (xK X) C.hD σ wd k125 k100) 3 gX7_list_X7_between rfl (by decide +kernel) ⟨Nat.le_of_ble_eq_true rfl, Nat.le_of_ble_eq_true rfl⟩ ⟨Nat.le_of_ble_eq_true rfl, Nat.le_of_ble_eq_true rfl⟩ rfl rfl (Nat.le_of_ble_eq_true rfl) (fun rv9 σ9 h9 => ?_)
  obtain ⟨h9a, h9b⟩ := h9
  refine g_eq (σ2 := σ) (lv2 := [(0, .ref ((xK X).2.2 27)), (1, .double wd), (3, .int x)]) (st2 := [.int (bI (wiB wd k125 k100)), .ref ((xK X).2.2 27)]) h9b rfl (by rw [h9a]; rfl) ?_
  refine g_if_eq (tgt := 24) C dX7_list_11 (by decide) (fun c_11 => ?_) (fun c_11 => ?_)
  · have hcd : cdList n wd x = 1 := if_pos (fun h => by
      have h9 := (bI_ne _).mp c_11
      rw [h.1] at h9
      cases h9)
    refine g_iconst (v := nI 1) C dX7_list_24 (by decide +kernel) ?_
    refine g_goto (tgt := 42) C dX7_list_25 (by decide) ?_
    refine g_topi (y := nI (cdList n wd x)) (by rw [hcd]) ?_
    refine g_put (σ' := uN σ 5 (nI (cdList n wd x))) (ty := .int) C dX7_list_42 wl27 rfl 0 (by decide) 5 rfl rfl inX7_list_X7 tyX7_ok nmX7 rfl (by decide +kernel) rfl rfl (Nat.le_of_ble_eq_true rfl) wsN5 ?_
    refine g_aload_n C dX7_list_45 0 rfl rfl ?_
    refine g_get C dX7_list_46 wl27 rfl 0 (by decide) 5 rfl rfl rfl inX7_list_X7 ?_
    refine g_topi (y := nI (cdList n wd x)) rfl ?_
    refine g_if_le (tgt := 54) C dX7_list_49 (by decide) (fun c_49 => ?_) (fun c_49 => ?_)
    · have hc0 : cdList n wd x = 0 := nI_le0 (by omega) c_49
      refine g_aload_n C dX7_list_54 0 rfl rfl ?_
      refine g_get C dX7_list_55 wl27 rfl 22 (by decide) 6 rfl rfl rfl inX7_list_X7 ?_
      refine g_aload_n C dX7_list_58 0 rfl rfl ?_
      refine g_get C dX7_list_59 wl27 rfl 21 (by decide) 4 rfl rfl rfl inX7_list_X7 ?_
      refine g_topi (y := nI n) hn ?_
      refine g_dload_n C dX7_list_62 1 rfl rfl ?_
      refine g_dast (j := n) (σ' := uF (uN σ 5 (nI (cdList n wd x))) 41 (vf_upd (sF (uN σ 5 (nI (cdList n wd x))) 41) n wd)) C dX7_list_63 wl41 rfl (by have := (cdList_0 hc0).2; omega) (by decide) wsA41 ?_
      refine g_aload_n C dX7_list_64 0 rfl rfl ?_
      refine g_get C dX7_list_65 wl27 rfl 23 (by decide) 7 rfl rfl rfl inX7_list_X7 ?_
      refine g_aload_n C dX7_list_68 0 rfl rfl ?_
      refine g_get C dX7_list_69 wl27 rfl 21 (by decide) 4 rfl rfl rfl inX7_list_X7 ?_
      refine g_topi (y := nI n) hn ?_
      refine g_iload_n C dX7_list_72 2 rfl rfl ?_
      refine g_iast (j := n) (σ' := uI (uF (uN σ 5 (nI (cdList n wd x))) 41 (vf_upd (sF (uN σ 5 (nI (cdList n wd x))) 41) n wd)) 42 (upd (sI (uF (uN σ 5 (nI (cdList n wd x))) 41 (vf_upd (sF (uN σ 5 (nI (cdList n wd x))) 41) n wd)) 42) n x)) C dX7_list_73 wl42 rfl (by have := (cdList_0 hc0).2; omega) (by decide) wsA42 ?_
      refine g_aload_n C dX7_list_74 0 rfl rfl ?_
      refine g_dup C dX7_list_75 rfl ?_
      refine g_get C dX7_list_76 wl27 rfl 21 (by decide) 4 rfl rfl rfl inX7_list_X7 ?_
      refine g_topi (y := nI n) hn ?_
      refine g_iconst (v := nI 1) C dX7_list_79 (by decide +kernel) ?_
      refine g_iadd C dX7_list_80 ?_
      refine g_topi (y := nI (n + 1)) (nI_add _ 1) ?_
      refine g_put (σ' := uN (uI (uF (uN σ 5 (nI (cdList n wd x))) 41 (vf_upd (sF (uN σ 5 (nI (cdList n wd x))) 41) n wd)) 42 (upd (sI (uF (uN σ 5 (nI (cdList n wd x))) 41 (vf_upd (sF (uN σ 5 (nI (cdList n wd x))) 41) n wd)) 42) n x)) 10 (nI (n + 1))) (ty := .int) C dX7_list_81 wl27 rfl 21 (by decide) 4 rfl rfl inX7_list_X7 tyX7_ok nmX7 rfl (by decide +kernel) rfl rfl (Nat.le_of_ble_eq_true rfl) wsN10 ?_
      refine g_aload_n C dX7_list_84 0 rfl rfl ?_
      refine g_get C dX7_list_85 wl27 rfl 21 (by decide) 4 rfl rfl rfl inX7_list_X7 ?_
      refine g_topi (y := nI (n + 1)) rfl ?_
      refine g_iconst (v := nI 1) C dX7_list_88 (by decide +kernel) ?_
      refine g_isub C dX7_list_89 ?_
      refine g_topi (y := nI n) (nI_pred _) ?_
      refine g_iret C dX7_list_90 rfl ⟨Nat.le_of_ble_eq_true rfl, Nat.le_of_ble_eq_true rfl⟩ ?_
      rw [hF]
      exact ⟨fun h => absurd hc0 h, fun _ => ⟨rfl, by rw [hc0]; try rfl⟩⟩
    · have hc1 : cdList n wd x ≠ 0 := fun h => c_49 (by rw [h]; decide)
      refine g_iconst (v := nI 0) C dX7_list_52 (by decide +kernel) ?_
      refine g_iret C dX7_list_53 rfl ⟨Nat.le_of_ble_eq_true rfl, Nat.le_of_ble_eq_true rfl⟩ ?_
      rw [hF]
      exact ⟨fun _ => ⟨rfl, rfl⟩, fun h => absurd h hc1⟩
  · refine g_iload_n C dX7_list_14 2 rfl rfl ?_
    refine g_iconst (v := nI 0) C dX7_list_15 (by decide +kernel) ?_
    refine g_ldc (v := 1000000) C dX7_list_16 3 rfl ?_
    refine g_callS (As := [.int x, .int (nI 0), .int ((1000000 : Int32))]) (rest := [.ref ((xK X).2.2 27)]) C dX7_list_18 (kX7_isIn (xl X) (xK X) C.hD σ x (nI 0) (1000000 : Int32)) 3 gX7_list_X7_isIn rfl (by decide +kernel) ⟨Nat.le_of_ble_eq_true rfl, Nat.le_of_ble_eq_true rfl⟩ ⟨Nat.le_of_ble_eq_true rfl, Nat.le_of_ble_eq_true rfl⟩ rfl rfl (Nat.le_of_ble_eq_true rfl) (fun rv9 σ9 h9 => ?_)
    obtain ⟨h9a, h9b⟩ := h9
    refine g_eq (σ2 := σ) (lv2 := [(0, .ref ((xK X).2.2 27)), (1, .double wd), (3, .int x)]) (st2 := [.int (bI (inB x (nI 0) (1000000 : Int32))), .ref ((xK X).2.2 27)]) h9b rfl (by rw [h9a]; rfl) ?_
    refine g_if_ne (tgt := 28) C dX7_list_21 (by decide) (fun c_21 => ?_) (fun c_21 => ?_)
    · have hix := inB_L.mp (bIt c_21)
      refine g_aload_n C dX7_list_28 0 rfl rfl ?_
      refine g_get C dX7_list_29 wl27 rfl 21 (by decide) 4 rfl rfl rfl inX7_list_X7 ?_
      refine g_topi (y := nI n) hn ?_
      refine g_bipush (v := nI 6) C dX7_list_32 (by decide +kernel) ?_
      refine g_icmp_ne (tgt := 41) C dX7_list_34 (by decide) (fun c_34 => ?_) (fun c_34 => ?_)
      · have hcd : cdList n wd x = 0 := (if_neg (fun h => h ⟨bIt c_11, hix⟩)).trans (if_pos (by
          have : n ≠ 6 := fun h => c_34 (by rw [h])
          omega))
        refine g_iconst (v := nI 0) C dX7_list_41 (by decide +kernel) ?_
        refine g_topi (y := nI (cdList n wd x)) (by rw [hcd]) ?_
        refine g_put (σ' := uN σ 5 (nI (cdList n wd x))) (ty := .int) C dX7_list_42 wl27 rfl 0 (by decide) 5 rfl rfl inX7_list_X7 tyX7_ok nmX7 rfl (by decide +kernel) rfl rfl (Nat.le_of_ble_eq_true rfl) wsN5 ?_
        refine g_aload_n C dX7_list_45 0 rfl rfl ?_
        refine g_get C dX7_list_46 wl27 rfl 0 (by decide) 5 rfl rfl rfl inX7_list_X7 ?_
        refine g_topi (y := nI (cdList n wd x)) rfl ?_
        refine g_if_le (tgt := 54) C dX7_list_49 (by decide) (fun c_49 => ?_) (fun c_49 => ?_)
        · have hc0 : cdList n wd x = 0 := nI_le0 (by omega) c_49
          refine g_aload_n C dX7_list_54 0 rfl rfl ?_
          refine g_get C dX7_list_55 wl27 rfl 22 (by decide) 6 rfl rfl rfl inX7_list_X7 ?_
          refine g_aload_n C dX7_list_58 0 rfl rfl ?_
          refine g_get C dX7_list_59 wl27 rfl 21 (by decide) 4 rfl rfl rfl inX7_list_X7 ?_
          refine g_topi (y := nI n) hn ?_
          refine g_dload_n C dX7_list_62 1 rfl rfl ?_
          refine g_dast (j := n) (σ' := uF (uN σ 5 (nI (cdList n wd x))) 41 (vf_upd (sF (uN σ 5 (nI (cdList n wd x))) 41) n wd)) C dX7_list_63 wl41 rfl (by have := (cdList_0 hc0).2; omega) (by decide) wsA41 ?_
          refine g_aload_n C dX7_list_64 0 rfl rfl ?_
          refine g_get C dX7_list_65 wl27 rfl 23 (by decide) 7 rfl rfl rfl inX7_list_X7 ?_
          refine g_aload_n C dX7_list_68 0 rfl rfl ?_
          refine g_get C dX7_list_69 wl27 rfl 21 (by decide) 4 rfl rfl rfl inX7_list_X7 ?_
          refine g_topi (y := nI n) hn ?_
          refine g_iload_n C dX7_list_72 2 rfl rfl ?_
          refine g_iast (j := n) (σ' := uI (uF (uN σ 5 (nI (cdList n wd x))) 41 (vf_upd (sF (uN σ 5 (nI (cdList n wd x))) 41) n wd)) 42 (upd (sI (uF (uN σ 5 (nI (cdList n wd x))) 41 (vf_upd (sF (uN σ 5 (nI (cdList n wd x))) 41) n wd)) 42) n x)) C dX7_list_73 wl42 rfl (by have := (cdList_0 hc0).2; omega) (by decide) wsA42 ?_
          refine g_aload_n C dX7_list_74 0 rfl rfl ?_
          refine g_dup C dX7_list_75 rfl ?_
          refine g_get C dX7_list_76 wl27 rfl 21 (by decide) 4 rfl rfl rfl inX7_list_X7 ?_
          refine g_topi (y := nI n) hn ?_
          refine g_iconst (v := nI 1) C dX7_list_79 (by decide +kernel) ?_
          refine g_iadd C dX7_list_80 ?_
          refine g_topi (y := nI (n + 1)) (nI_add _ 1) ?_
          refine g_put (σ' := uN (uI (uF (uN σ 5 (nI (cdList n wd x))) 41 (vf_upd (sF (uN σ 5 (nI (cdList n wd x))) 41) n wd)) 42 (upd (sI (uF (uN σ 5 (nI (cdList n wd x))) 41 (vf_upd (sF (uN σ 5 (nI (cdList n wd x))) 41) n wd)) 42) n x)) 10 (nI (n + 1))) (ty := .int) C dX7_list_81 wl27 rfl 21 (by decide) 4 rfl rfl inX7_list_X7 tyX7_ok nmX7 rfl (by decide +kernel) rfl rfl (Nat.le_of_ble_eq_true rfl) wsN10 ?_
          refine g_aload_n C dX7_list_84 0 rfl rfl ?_
          refine g_get C dX7_list_85 wl27 rfl 21 (by decide) 4 rfl rfl rfl inX7_list_X7 ?_
          refine g_topi (y := nI (n + 1)) rfl ?_
          refine g_iconst (v := nI 1) C dX7_list_88 (by decide +kernel) ?_
          refine g_isub C dX7_list_89 ?_
          refine g_topi (y := nI n) (nI_pred _) ?_
          refine g_iret C dX7_list_90 rfl ⟨Nat.le_of_ble_eq_true rfl, Nat.le_of_ble_eq_true rfl⟩ ?_
          rw [hF]
          exact ⟨fun h => absurd hc0 h, fun _ => ⟨rfl, by rw [hc0]; try rfl⟩⟩
        · have hc1 : cdList n wd x ≠ 0 := fun h => c_49 (by rw [h]; decide)
          refine g_iconst (v := nI 0) C dX7_list_52 (by decide +kernel) ?_
          refine g_iret C dX7_list_53 rfl ⟨Nat.le_of_ble_eq_true rfl, Nat.le_of_ble_eq_true rfl⟩ ?_
          rw [hF]
          exact ⟨fun _ => ⟨rfl, rfl⟩, fun h => absurd h hc1⟩
      · have hcd : cdList n wd x = 2 := (if_neg (fun h => h ⟨bIt c_11, hix⟩)).trans (if_neg (by
          have := (nI_eq (a := n) (b := 6) (by omega) (by decide)).mp (Decidable.byContradiction fun h => absurd c_34 h)
          omega))
        refine g_iconst (v := nI 2) C dX7_list_37 (by decide +kernel) ?_
        refine g_goto (tgt := 42) C dX7_list_38 (by decide) ?_
        refine g_topi (y := nI (cdList n wd x)) (by rw [hcd]) ?_
        refine g_put (σ' := uN σ 5 (nI (cdList n wd x))) (ty := .int) C dX7_list_42 wl27 rfl 0 (by decide) 5 rfl rfl inX7_list_X7 tyX7_ok nmX7 rfl (by decide +kernel) rfl rfl (Nat.le_of_ble_eq_true rfl) wsN5 ?_
        refine g_aload_n C dX7_list_45 0 rfl rfl ?_
        refine g_get C dX7_list_46 wl27 rfl 0 (by decide) 5 rfl rfl rfl inX7_list_X7 ?_
        refine g_topi (y := nI (cdList n wd x)) rfl ?_
        refine g_if_le (tgt := 54) C dX7_list_49 (by decide) (fun c_49 => ?_) (fun c_49 => ?_)
        · have hc0 : cdList n wd x = 0 := nI_le0 (by omega) c_49
          refine g_aload_n C dX7_list_54 0 rfl rfl ?_
          refine g_get C dX7_list_55 wl27 rfl 22 (by decide) 6 rfl rfl rfl inX7_list_X7 ?_
          refine g_aload_n C dX7_list_58 0 rfl rfl ?_
          refine g_get C dX7_list_59 wl27 rfl 21 (by decide) 4 rfl rfl rfl inX7_list_X7 ?_
          refine g_topi (y := nI n) hn ?_
          refine g_dload_n C dX7_list_62 1 rfl rfl ?_
          refine g_dast (j := n) (σ' := uF (uN σ 5 (nI (cdList n wd x))) 41 (vf_upd (sF (uN σ 5 (nI (cdList n wd x))) 41) n wd)) C dX7_list_63 wl41 rfl (by have := (cdList_0 hc0).2; omega) (by decide) wsA41 ?_
          refine g_aload_n C dX7_list_64 0 rfl rfl ?_
          refine g_get C dX7_list_65 wl27 rfl 23 (by decide) 7 rfl rfl rfl inX7_list_X7 ?_
          refine g_aload_n C dX7_list_68 0 rfl rfl ?_
          refine g_get C dX7_list_69 wl27 rfl 21 (by decide) 4 rfl rfl rfl inX7_list_X7 ?_
          refine g_topi (y := nI n) hn ?_
          refine g_iload_n C dX7_list_72 2 rfl rfl ?_
          refine g_iast (j := n) (σ' := uI (uF (uN σ 5 (nI (cdList n wd x))) 41 (vf_upd (sF (uN σ 5 (nI (cdList n wd x))) 41) n wd)) 42 (upd (sI (uF (uN σ 5 (nI (cdList n wd x))) 41 (vf_upd (sF (uN σ 5 (nI (cdList n wd x))) 41) n wd)) 42) n x)) C dX7_list_73 wl42 rfl (by have := (cdList_0 hc0).2; omega) (by decide) wsA42 ?_
          refine g_aload_n C dX7_list_74 0 rfl rfl ?_
          refine g_dup C dX7_list_75 rfl ?_
          refine g_get C dX7_list_76 wl27 rfl 21 (by decide) 4 rfl rfl rfl inX7_list_X7 ?_
          refine g_topi (y := nI n) hn ?_
          refine g_iconst (v := nI 1) C dX7_list_79 (by decide +kernel) ?_
          refine g_iadd C dX7_list_80 ?_
          refine g_topi (y := nI (n + 1)) (nI_add _ 1) ?_
          refine g_put (σ' := uN (uI (uF (uN σ 5 (nI (cdList n wd x))) 41 (vf_upd (sF (uN σ 5 (nI (cdList n wd x))) 41) n wd)) 42 (upd (sI (uF (uN σ 5 (nI (cdList n wd x))) 41 (vf_upd (sF (uN σ 5 (nI (cdList n wd x))) 41) n wd)) 42) n x)) 10 (nI (n + 1))) (ty := .int) C dX7_list_81 wl27 rfl 21 (by decide) 4 rfl rfl inX7_list_X7 tyX7_ok nmX7 rfl (by decide +kernel) rfl rfl (Nat.le_of_ble_eq_true rfl) wsN10 ?_
          refine g_aload_n C dX7_list_84 0 rfl rfl ?_
          refine g_get C dX7_list_85 wl27 rfl 21 (by decide) 4 rfl rfl rfl inX7_list_X7 ?_
          refine g_topi (y := nI (n + 1)) rfl ?_
          refine g_iconst (v := nI 1) C dX7_list_88 (by decide +kernel) ?_
          refine g_isub C dX7_list_89 ?_
          refine g_topi (y := nI n) (nI_pred _) ?_
          refine g_iret C dX7_list_90 rfl ⟨Nat.le_of_ble_eq_true rfl, Nat.le_of_ble_eq_true rfl⟩ ?_
          rw [hF]
          exact ⟨fun h => absurd hc0 h, fun _ => ⟨rfl, by rw [hc0]; try rfl⟩⟩
        · have hc1 : cdList n wd x ≠ 0 := fun h => c_49 (by rw [h]; decide)
          refine g_iconst (v := nI 0) C dX7_list_52 (by decide +kernel) ?_
          refine g_iret C dX7_list_53 rfl ⟨Nat.le_of_ble_eq_true rfl, Nat.le_of_ble_eq_true rfl⟩ ?_
          rw [hF]
          exact ⟨fun _ => ⟨rfl, rfl⟩, fun h => absurd h hc1⟩
    · have hcd : cdList n wd x = 1 := if_pos (fun h => by
        have h9 := (bI_ne _).mp c_21
        rw [inB_L.mpr h.2] at h9
        cases h9)
      refine g_iconst (v := nI 1) C dX7_list_24 (by decide +kernel) ?_
      refine g_goto (tgt := 42) C dX7_list_25 (by decide) ?_
      refine g_topi (y := nI (cdList n wd x)) (by rw [hcd]) ?_
      refine g_put (σ' := uN σ 5 (nI (cdList n wd x))) (ty := .int) C dX7_list_42 wl27 rfl 0 (by decide) 5 rfl rfl inX7_list_X7 tyX7_ok nmX7 rfl (by decide +kernel) rfl rfl (Nat.le_of_ble_eq_true rfl) wsN5 ?_
      refine g_aload_n C dX7_list_45 0 rfl rfl ?_
      refine g_get C dX7_list_46 wl27 rfl 0 (by decide) 5 rfl rfl rfl inX7_list_X7 ?_
      refine g_topi (y := nI (cdList n wd x)) rfl ?_
      refine g_if_le (tgt := 54) C dX7_list_49 (by decide) (fun c_49 => ?_) (fun c_49 => ?_)
      · have hc0 : cdList n wd x = 0 := nI_le0 (by omega) c_49
        refine g_aload_n C dX7_list_54 0 rfl rfl ?_
        refine g_get C dX7_list_55 wl27 rfl 22 (by decide) 6 rfl rfl rfl inX7_list_X7 ?_
        refine g_aload_n C dX7_list_58 0 rfl rfl ?_
        refine g_get C dX7_list_59 wl27 rfl 21 (by decide) 4 rfl rfl rfl inX7_list_X7 ?_
        refine g_topi (y := nI n) hn ?_
        refine g_dload_n C dX7_list_62 1 rfl rfl ?_
        refine g_dast (j := n) (σ' := uF (uN σ 5 (nI (cdList n wd x))) 41 (vf_upd (sF (uN σ 5 (nI (cdList n wd x))) 41) n wd)) C dX7_list_63 wl41 rfl (by have := (cdList_0 hc0).2; omega) (by decide) wsA41 ?_
        refine g_aload_n C dX7_list_64 0 rfl rfl ?_
        refine g_get C dX7_list_65 wl27 rfl 23 (by decide) 7 rfl rfl rfl inX7_list_X7 ?_
        refine g_aload_n C dX7_list_68 0 rfl rfl ?_
        refine g_get C dX7_list_69 wl27 rfl 21 (by decide) 4 rfl rfl rfl inX7_list_X7 ?_
        refine g_topi (y := nI n) hn ?_
        refine g_iload_n C dX7_list_72 2 rfl rfl ?_
        refine g_iast (j := n) (σ' := uI (uF (uN σ 5 (nI (cdList n wd x))) 41 (vf_upd (sF (uN σ 5 (nI (cdList n wd x))) 41) n wd)) 42 (upd (sI (uF (uN σ 5 (nI (cdList n wd x))) 41 (vf_upd (sF (uN σ 5 (nI (cdList n wd x))) 41) n wd)) 42) n x)) C dX7_list_73 wl42 rfl (by have := (cdList_0 hc0).2; omega) (by decide) wsA42 ?_
        refine g_aload_n C dX7_list_74 0 rfl rfl ?_
        refine g_dup C dX7_list_75 rfl ?_
        refine g_get C dX7_list_76 wl27 rfl 21 (by decide) 4 rfl rfl rfl inX7_list_X7 ?_
        refine g_topi (y := nI n) hn ?_
        refine g_iconst (v := nI 1) C dX7_list_79 (by decide +kernel) ?_
        refine g_iadd C dX7_list_80 ?_
        refine g_topi (y := nI (n + 1)) (nI_add _ 1) ?_
        refine g_put (σ' := uN (uI (uF (uN σ 5 (nI (cdList n wd x))) 41 (vf_upd (sF (uN σ 5 (nI (cdList n wd x))) 41) n wd)) 42 (upd (sI (uF (uN σ 5 (nI (cdList n wd x))) 41 (vf_upd (sF (uN σ 5 (nI (cdList n wd x))) 41) n wd)) 42) n x)) 10 (nI (n + 1))) (ty := .int) C dX7_list_81 wl27 rfl 21 (by decide) 4 rfl rfl inX7_list_X7 tyX7_ok nmX7 rfl (by decide +kernel) rfl rfl (Nat.le_of_ble_eq_true rfl) wsN10 ?_
        refine g_aload_n C dX7_list_84 0 rfl rfl ?_
        refine g_get C dX7_list_85 wl27 rfl 21 (by decide) 4 rfl rfl rfl inX7_list_X7 ?_
        refine g_topi (y := nI (n + 1)) rfl ?_
        refine g_iconst (v := nI 1) C dX7_list_88 (by decide +kernel) ?_
        refine g_isub C dX7_list_89 ?_
        refine g_topi (y := nI n) (nI_pred _) ?_
        refine g_iret C dX7_list_90 rfl ⟨Nat.le_of_ble_eq_true rfl, Nat.le_of_ble_eq_true rfl⟩ ?_
        rw [hF]
        exact ⟨fun h => absurd hc0 h, fun _ => ⟨rfl, by rw [hc0]; try rfl⟩⟩
      · have hc1 : cdList n wd x ≠ 0 := fun h => c_49 (by rw [h]; decide)
        refine g_iconst (v := nI 0) C dX7_list_52 (by decide +kernel) ?_
        refine g_iret C dX7_list_53 rfl ⟨Nat.le_of_ble_eq_true rfl, Nat.le_of_ble_eq_true rfl⟩ ?_
        rw [hF]
        exact ⟨fun _ => ⟨rfl, rfl⟩, fun h => absurd h hc1⟩

theorem inX7_read_X7 : ∀ w ∈ u_ws RX7 TX7 24, w ∈ wsX7_read := by decide +kernel
set_option maxHeartbeats 4000000 in
set_option maxRecDepth 100000 in
theorem kX7_read (l : Launch) (K : gK) (hD : gD K) (σ : gS) {H : Ph} {nj n : Nat} {sv : Bool} (hI : Mi H nj n sv σ) (a : Int32) (v : UInt64) : Ct l yX7_read wsX7_read { frames := 1, cells := 0, slots := 0, locals := 25 } K [.ref (K.2.2 27), .int a, .double v] σ (Mr σ (cdRead (pD H) a v) (none) (fun r t => r = none ∧ t = uF (uI (uN σ 5 (nI 0)) 33 (upd (sI σ 33) (tn a) (nI 1))) 34 (vf_upd (sF σ 34) (tn a) v))) := by
  refine Ct.of hD (by decide) rfl (Nat.le_of_ble_eq_true rfl) ?_
  intro X hL hK hF C
  subst hL; subst hK
  refine g_eq (σ2 := σ) (lv2 := [(0, .ref ((xK X).2.2 27)), (1, .int a), (2, .double v)]) (st2 := []) rfl rfl rfl ?_
  obtain ⟨hM, hp, hP, hg, hq, hsv, ⟨hn, hn6, hsw⟩, hr, hl⟩ := hI
  have h16 := hM.nd16
  have h8 := hM.nm8
  have hjj := hM.j
  have hcb := cdRead_le (pD H) a v
  refine g_aload_n C dX7_read_0 0 rfl rfl ?_
  refine g_iload_n C dX7_read_1 1 rfl rfl ?_
  refine g_iconst (v := nI 0) C dX7_read_2 (by decide +kernel) ?_
  refine g_aload_n C dX7_read_3 0 rfl rfl ?_
  refine g_get C dX7_read_4 wl27 rfl 2 (by decide) 1 rfl rfl rfl inX7_read_X7 ?_
  refine g_topi (y := nI (pD H)) hM.nd ?_
  refine g_iconst (v := nI 1) C dX7_read_7 (by decide +kernel) ?_
  refine g_isub C dX7_read_8 ?_
  refine g_callS (As := [.int a, .int (nI 0), .int ((nI (pD H)) - (nI 1))]) (rest := [.ref ((xK X).2.2 27)]) C dX7_read_9 (kX7_isIn (xl X) (xK X) C.hD σ a (nI 0) ((nI (pD H)) - (nI 1))) 3 gX7_read_X7_isIn rfl (by decide +kernel) ⟨Nat.le_of_ble_eq_true rfl, Nat.le_of_ble_eq_true rfl⟩ ⟨Nat.le_of_ble_eq_true rfl, Nat.le_of_ble_eq_true rfl⟩ rfl rfl (Nat.le_of_ble_eq_true rfl) (fun rv9 σ9 h9 => ?_)
  obtain ⟨h9a, h9b⟩ := h9
  refine g_eq (σ2 := σ) (lv2 := [(0, .ref ((xK X).2.2 27)), (1, .int a), (2, .double v)]) (st2 := [.int (bI (inB a (nI 0) ((nI (pD H)) - (nI 1)))), .ref ((xK X).2.2 27)]) h9b rfl (by rw [h9a]; rfl) ?_
  refine g_topi (y := bI (decide (inR a (pD H)))) (congrArg bI (inB_R (by omega))) ?_
  refine g_if_ne (tgt := 19) C dX7_read_12 (by decide) (fun c_12 => ?_) (fun c_12 => ?_)
  · refine g_dload_n C dX7_read_19 2 rfl rfl ?_
    refine g_dconst0 C dX7_read_20 ?_
    refine g_ldc2d (v := 4666723172467343360) C dX7_read_21 2 rfl ?_
    refine g_callS (As := [.double v, .double FP.dconst0, .double 4666723172467343360]) (rest := [.ref ((xK X).2.2 27)]) C dX7_read_24 (kX7_between (xl X) (xK X) C.hD σ v FP.dconst0 k10000) 3 gX7_read_X7_between rfl (by decide +kernel) ⟨Nat.le_of_ble_eq_true rfl, Nat.le_of_ble_eq_true rfl⟩ ⟨Nat.le_of_ble_eq_true rfl, Nat.le_of_ble_eq_true rfl⟩ rfl rfl (Nat.le_of_ble_eq_true rfl) (fun rv9 σ9 h9 => ?_)
    obtain ⟨h9a, h9b⟩ := h9
    refine g_eq (σ2 := σ) (lv2 := [(0, .ref ((xK X).2.2 27)), (1, .int a), (2, .double v)]) (st2 := [.int (bI (wiB v FP.dconst0 k10000)), .ref ((xK X).2.2 27)]) h9b rfl (by rw [h9a]; rfl) ?_
    refine g_if_eq (tgt := 34) C dX7_read_27 (by decide) (fun c_27 => ?_) (fun c_27 => ?_)
    · have hcd : cdRead (pD H) a v = 2 := (if_neg (fun h => h (of_decide_eq_true (bIt c_12)))).trans (if_neg (by rw [(bI_ne _).mp c_27]; decide))
      refine g_iconst (v := nI 2) C dX7_read_34 (by decide +kernel) ?_
      refine g_topi (y := nI (cdRead (pD H) a v)) (by rw [hcd]) ?_
      refine g_put (σ' := uN σ 5 (nI (cdRead (pD H) a v))) (ty := .int) C dX7_read_35 wl27 rfl 0 (by decide) 3 rfl rfl inX7_read_X7 tyX7_ok nmX7 rfl (by decide +kernel) rfl rfl (Nat.le_of_ble_eq_true rfl) wsN5 ?_
      refine g_aload_n C dX7_read_38 0 rfl rfl ?_
      refine g_get C dX7_read_39 wl27 rfl 0 (by decide) 3 rfl rfl rfl inX7_read_X7 ?_
      refine g_topi (y := nI (cdRead (pD H) a v)) rfl ?_
      refine g_if_ne (tgt := 59) C dX7_read_42 (by decide) (fun c_42 => ?_) (fun c_42 => ?_)
      · have hc1 : cdRead (pD H) a v ≠ 0 := fun h => c_42 (by rw [h]; decide)
        refine g_vret C dX7_read_59 rfl ⟨Nat.le_of_ble_eq_true rfl, Nat.le_of_ble_eq_true rfl⟩ ?_
        rw [hF]
        exact ⟨fun _ => ⟨rfl, rfl⟩, fun h => absurd h hc1⟩
      · have hc0 : cdRead (pD H) a v = 0 := (nI_eq (by omega) (by decide)).mp (Decidable.byContradiction fun h => absurd c_42 h)
        have ta := inT (cdRead_0 hc0).1 (by omega)
        refine g_eq (σ2 := uN σ 5 (nI (cdRead (pD H) a v))) (lv2 := [(0, .ref ((xK X).2.2 27)), (1, .int (nI (tn a))), (2, .double v)]) (st2 := []) rfl (congrArg (fun z9 => ([(0, .ref ((xK X).2.2 27)), (1, .int z9), (2, .double v)] : List (Nat × Value))) ta.1) rfl ?_
        refine g_aload_n C dX7_read_45 0 rfl rfl ?_
        refine g_get C dX7_read_46 wl27 rfl 8 (by decide) 4 rfl rfl rfl inX7_read_X7 ?_
        refine g_iload_n C dX7_read_49 1 rfl rfl ?_
        refine g_iconst (v := nI 1) C dX7_read_50 (by decide +kernel) ?_
        refine g_topi (y := bI true) rfl ?_
        refine g_zast (j := (tn a)) (σ' := uI (uN σ 5 (nI (cdRead (pD H) a v))) 33 (upd (sI (uN σ 5 (nI (cdRead (pD H) a v))) 33) (tn a) (vp_nar .boolean (bI true)))) C dX7_read_51 wl33 rfl (by omega) (by decide) wsA33 ?_
        refine g_aload_n C dX7_read_52 0 rfl rfl ?_
        refine g_get C dX7_read_53 wl27 rfl 9 (by decide) 5 rfl rfl rfl inX7_read_X7 ?_
        refine g_iload_n C dX7_read_56 1 rfl rfl ?_
        refine g_dload_n C dX7_read_57 2 rfl rfl ?_
        refine g_dast (j := (tn a)) (σ' := uF (uI (uN σ 5 (nI (cdRead (pD H) a v))) 33 (upd (sI (uN σ 5 (nI (cdRead (pD H) a v))) 33) (tn a) (vp_nar .boolean (bI true)))) 34 (vf_upd (sF (uI (uN σ 5 (nI (cdRead (pD H) a v))) 33 (upd (sI (uN σ 5 (nI (cdRead (pD H) a v))) 33) (tn a) (vp_nar .boolean (bI true)))) 34) (tn a) v)) C dX7_read_58 wl34 rfl (by omega) (by decide) wsA34 ?_
        refine g_vret C dX7_read_59 rfl ⟨Nat.le_of_ble_eq_true rfl, Nat.le_of_ble_eq_true rfl⟩ ?_
        rw [hF]
        exact ⟨fun h => absurd hc0 h, fun _ => ⟨rfl, by rw [hc0]; rfl⟩⟩
    · have hcd : cdRead (pD H) a v = 0 := (if_neg (fun h => h (of_decide_eq_true (bIt c_12)))).trans (if_pos (bIt c_27))
      refine g_iconst (v := nI 0) C dX7_read_30 (by decide +kernel) ?_
      refine g_goto (tgt := 35) C dX7_read_31 (by decide) ?_
      refine g_topi (y := nI (cdRead (pD H) a v)) (by rw [hcd]) ?_
      refine g_put (σ' := uN σ 5 (nI (cdRead (pD H) a v))) (ty := .int) C dX7_read_35 wl27 rfl 0 (by decide) 3 rfl rfl inX7_read_X7 tyX7_ok nmX7 rfl (by decide +kernel) rfl rfl (Nat.le_of_ble_eq_true rfl) wsN5 ?_
      refine g_aload_n C dX7_read_38 0 rfl rfl ?_
      refine g_get C dX7_read_39 wl27 rfl 0 (by decide) 3 rfl rfl rfl inX7_read_X7 ?_
      refine g_topi (y := nI (cdRead (pD H) a v)) rfl ?_
      refine g_if_ne (tgt := 59) C dX7_read_42 (by decide) (fun c_42 => ?_) (fun c_42 => ?_)
      · have hc1 : cdRead (pD H) a v ≠ 0 := fun h => c_42 (by rw [h]; decide)
        refine g_vret C dX7_read_59 rfl ⟨Nat.le_of_ble_eq_true rfl, Nat.le_of_ble_eq_true rfl⟩ ?_
        rw [hF]
        exact ⟨fun _ => ⟨rfl, rfl⟩, fun h => absurd h hc1⟩
      · have hc0 : cdRead (pD H) a v = 0 := (nI_eq (by omega) (by decide)).mp (Decidable.byContradiction fun h => absurd c_42 h)
        have ta := inT (cdRead_0 hc0).1 (by omega)
        refine g_eq (σ2 := uN σ 5 (nI (cdRead (pD H) a v))) (lv2 := [(0, .ref ((xK X).2.2 27)), (1, .int (nI (tn a))), (2, .double v)]) (st2 := []) rfl (congrArg (fun z9 => ([(0, .ref ((xK X).2.2 27)), (1, .int z9), (2, .double v)] : List (Nat × Value))) ta.1) rfl ?_
        refine g_aload_n C dX7_read_45 0 rfl rfl ?_
        refine g_get C dX7_read_46 wl27 rfl 8 (by decide) 4 rfl rfl rfl inX7_read_X7 ?_
        refine g_iload_n C dX7_read_49 1 rfl rfl ?_
        refine g_iconst (v := nI 1) C dX7_read_50 (by decide +kernel) ?_
        refine g_topi (y := bI true) rfl ?_
        refine g_zast (j := (tn a)) (σ' := uI (uN σ 5 (nI (cdRead (pD H) a v))) 33 (upd (sI (uN σ 5 (nI (cdRead (pD H) a v))) 33) (tn a) (vp_nar .boolean (bI true)))) C dX7_read_51 wl33 rfl (by omega) (by decide) wsA33 ?_
        refine g_aload_n C dX7_read_52 0 rfl rfl ?_
        refine g_get C dX7_read_53 wl27 rfl 9 (by decide) 5 rfl rfl rfl inX7_read_X7 ?_
        refine g_iload_n C dX7_read_56 1 rfl rfl ?_
        refine g_dload_n C dX7_read_57 2 rfl rfl ?_
        refine g_dast (j := (tn a)) (σ' := uF (uI (uN σ 5 (nI (cdRead (pD H) a v))) 33 (upd (sI (uN σ 5 (nI (cdRead (pD H) a v))) 33) (tn a) (vp_nar .boolean (bI true)))) 34 (vf_upd (sF (uI (uN σ 5 (nI (cdRead (pD H) a v))) 33 (upd (sI (uN σ 5 (nI (cdRead (pD H) a v))) 33) (tn a) (vp_nar .boolean (bI true)))) 34) (tn a) v)) C dX7_read_58 wl34 rfl (by omega) (by decide) wsA34 ?_
        refine g_vret C dX7_read_59 rfl ⟨Nat.le_of_ble_eq_true rfl, Nat.le_of_ble_eq_true rfl⟩ ?_
        rw [hF]
        exact ⟨fun h => absurd hc0 h, fun _ => ⟨rfl, by rw [hc0]; rfl⟩⟩
  · have hcd : cdRead (pD H) a v = 1 := if_pos (of_decide_eq_false ((bI_ne _).mp c_12))
    refine g_iconst (v := nI 1) C dX7_read_15 (by decide +kernel) ?_
    refine g_goto (tgt := 35) C dX7_read_16 (by decide) ?_
    refine g_topi (y := nI (cdRead (pD H) a v)) (by rw [hcd]) ?_
    refine g_put (σ' := uN σ 5 (nI (cdRead (pD H) a v))) (ty := .int) C dX7_read_35 wl27 rfl 0 (by decide) 3 rfl rfl inX7_read_X7 tyX7_ok nmX7 rfl (by decide +kernel) rfl rfl (Nat.le_of_ble_eq_true rfl) wsN5 ?_
    refine g_aload_n C dX7_read_38 0 rfl rfl ?_
    refine g_get C dX7_read_39 wl27 rfl 0 (by decide) 3 rfl rfl rfl inX7_read_X7 ?_
    refine g_topi (y := nI (cdRead (pD H) a v)) rfl ?_
    refine g_if_ne (tgt := 59) C dX7_read_42 (by decide) (fun c_42 => ?_) (fun c_42 => ?_)
    · have hc1 : cdRead (pD H) a v ≠ 0 := fun h => c_42 (by rw [h]; decide)
      refine g_vret C dX7_read_59 rfl ⟨Nat.le_of_ble_eq_true rfl, Nat.le_of_ble_eq_true rfl⟩ ?_
      rw [hF]
      exact ⟨fun _ => ⟨rfl, rfl⟩, fun h => absurd h hc1⟩
    · have hc0 : cdRead (pD H) a v = 0 := (nI_eq (by omega) (by decide)).mp (Decidable.byContradiction fun h => absurd c_42 h)
      have ta := inT (cdRead_0 hc0).1 (by omega)
      refine g_eq (σ2 := uN σ 5 (nI (cdRead (pD H) a v))) (lv2 := [(0, .ref ((xK X).2.2 27)), (1, .int (nI (tn a))), (2, .double v)]) (st2 := []) rfl (congrArg (fun z9 => ([(0, .ref ((xK X).2.2 27)), (1, .int z9), (2, .double v)] : List (Nat × Value))) ta.1) rfl ?_
      refine g_aload_n C dX7_read_45 0 rfl rfl ?_
      refine g_get C dX7_read_46 wl27 rfl 8 (by decide) 4 rfl rfl rfl inX7_read_X7 ?_
      refine g_iload_n C dX7_read_49 1 rfl rfl ?_
      refine g_iconst (v := nI 1) C dX7_read_50 (by decide +kernel) ?_
      refine g_topi (y := bI true) rfl ?_
      refine g_zast (j := (tn a)) (σ' := uI (uN σ 5 (nI (cdRead (pD H) a v))) 33 (upd (sI (uN σ 5 (nI (cdRead (pD H) a v))) 33) (tn a) (vp_nar .boolean (bI true)))) C dX7_read_51 wl33 rfl (by omega) (by decide) wsA33 ?_
      refine g_aload_n C dX7_read_52 0 rfl rfl ?_
      refine g_get C dX7_read_53 wl27 rfl 9 (by decide) 5 rfl rfl rfl inX7_read_X7 ?_
      refine g_iload_n C dX7_read_56 1 rfl rfl ?_
      refine g_dload_n C dX7_read_57 2 rfl rfl ?_
      refine g_dast (j := (tn a)) (σ' := uF (uI (uN σ 5 (nI (cdRead (pD H) a v))) 33 (upd (sI (uN σ 5 (nI (cdRead (pD H) a v))) 33) (tn a) (vp_nar .boolean (bI true)))) 34 (vf_upd (sF (uI (uN σ 5 (nI (cdRead (pD H) a v))) 33 (upd (sI (uN σ 5 (nI (cdRead (pD H) a v))) 33) (tn a) (vp_nar .boolean (bI true)))) 34) (tn a) v)) C dX7_read_58 wl34 rfl (by omega) (by decide) wsA34 ?_
      refine g_vret C dX7_read_59 rfl ⟨Nat.le_of_ble_eq_true rfl, Nat.le_of_ble_eq_true rfl⟩ ?_
      rw [hF]
      exact ⟨fun h => absurd hc0 h, fun _ => ⟨rfl, by rw [hc0]; rfl⟩⟩

theorem inX7_count_X7 : ∀ w ∈ u_ws RX7 TX7 24, w ∈ wsX7_count := by decide +kernel
set_option maxHeartbeats 4000000 in
set_option maxRecDepth 100000 in
theorem kX7_count (l : Launch) (K : gK) (hD : gD K) (σ : gS) {H : Ph} {nj n : Nat} {sv : Bool} (hI : Mi H nj n sv σ) (b : Int32) : Ct l yX7_count wsX7_count { frames := 1, cells := 0, slots := 0, locals := 22 } K [.ref (K.2.2 27), .int b] σ (Mr σ (cdCount b) (some (.int (nI 0))) (fun r t => r = some (.int (nI (coM nj (pD H) (pM H) n (tn b)))) ∧ t = uN σ 5 (nI 0))) := by
  refine Ct.of hD (by decide) rfl (Nat.le_of_ble_eq_true rfl) ?_
  intro X hL hK hF C
  subst hL; subst hK
  refine g_eq (σ2 := σ) (lv2 := [(0, .ref ((xK X).2.2 27)), (1, .int b)]) (st2 := []) rfl rfl rfl ?_
  obtain ⟨hM, hp, hP, hg, hq, hsv, ⟨hn, hn6, hsw⟩, hr, hl⟩ := hI
  have h16 := hM.nd16
  have h8 := hM.nm8
  have hjj := hM.j
  have hcb := cdCount_le b
  refine g_aload_n C dX7_count_0 0 rfl rfl ?_
  refine g_iload_n C dX7_count_1 1 rfl rfl ?_
  refine g_iconst (v := nI 0) C dX7_count_2 (by decide +kernel) ?_
  refine g_iconst (v := nI 3) C dX7_count_3 (by decide +kernel) ?_
  refine g_callS (As := [.int b, .int (nI 0), .int (nI 3)]) (rest := [.ref ((xK X).2.2 27)]) C dX7_count_4 (kX7_isIn (xl X) (xK X) C.hD σ b (nI 0) (nI 3)) 3 gX7_count_X7_isIn rfl (by decide +kernel) ⟨Nat.le_of_ble_eq_true rfl, Nat.le_of_ble_eq_true rfl⟩ ⟨Nat.le_of_ble_eq_true rfl, Nat.le_of_ble_eq_true rfl⟩ rfl rfl (Nat.le_of_ble_eq_true rfl) (fun rv9 σ9 h9 => ?_)
  obtain ⟨h9a, h9b⟩ := h9
  refine g_eq (σ2 := σ) (lv2 := [(0, .ref ((xK X).2.2 27)), (1, .int b)]) (st2 := [.int (bI (inB b (nI 0) (nI 3))), .ref ((xK X).2.2 27)]) h9b rfl (by rw [h9a]; rfl) ?_
  refine g_topi (y := bI (decide (inR b 4))) (congrArg bI (inB_C (n := 3) (by decide))) ?_
  refine g_if_eq (tgt := 14) C dX7_count_7 (by decide) (fun c_7 => ?_) (fun c_7 => ?_)
  · have hcd : cdCount b = 1 := if_neg (of_decide_eq_false ((bI_ne _).mp c_7))
    refine g_iconst (v := nI 1) C dX7_count_14 (by decide +kernel) ?_
    refine g_topi (y := nI (cdCount b)) (by rw [hcd]) ?_
    refine g_put (σ' := uN σ 5 (nI (cdCount b))) (ty := .int) C dX7_count_15 wl27 rfl 0 (by decide) 1 rfl rfl inX7_count_X7 tyX7_ok nmX7 rfl (by decide +kernel) rfl rfl (Nat.le_of_ble_eq_true rfl) wsN5 ?_
    refine g_aload_n C dX7_count_18 0 rfl rfl ?_
    refine g_get C dX7_count_19 wl27 rfl 0 (by decide) 1 rfl rfl rfl inX7_count_X7 ?_
    refine g_topi (y := nI (cdCount b)) rfl ?_
    refine g_if_le (tgt := 29) C dX7_count_22 (by decide) (fun c_22 => ?_) (fun c_22 => ?_)
    · have hc0 : cdCount b = 0 := nI_le0 (by omega) c_22
      have tb := inT (cdCount_0 hc0) (by decide)
      refine g_eq (σ2 := uN σ 5 (nI (cdCount b))) (lv2 := [(0, .ref ((xK X).2.2 27)), (1, .int (nI (tn b)))]) (st2 := []) rfl (congrArg (fun z9 => ([(0, .ref ((xK X).2.2 27)), (1, .int z9)] : List (Nat × Value))) tb.1) rfl ?_
      refine g_iload_n C dX7_count_29 1 rfl rfl ?_
      refine g_if_ne (tgt := 40) C dX7_count_30 (by decide) (fun c_30 => ?_) (fun c_30 => ?_)
      · have hb0 : ¬ tn b = 0 := fun h => c_30 (congrArg nI h)
        refine g_iload_n C dX7_count_40 1 rfl rfl ?_
        refine g_iconst (v := nI 1) C dX7_count_41 (by decide +kernel) ?_
        refine g_icmp_ne (tgt := 52) C dX7_count_42 (by decide) (fun c_42 => ?_) (fun c_42 => ?_)
        · have hb1 : ¬ tn b = 1 := fun h => c_42 (congrArg nI h)
          refine g_iload_n C dX7_count_52 1 rfl rfl ?_
          refine g_iconst (v := nI 2) C dX7_count_53 (by decide +kernel) ?_
          refine g_icmp_ne (tgt := 64) C dX7_count_54 (by decide) (fun c_54 => ?_) (fun c_54 => ?_)
          · have hb2 : ¬ tn b = 2 := fun h => c_54 (congrArg nI h)
            refine g_aload_n C dX7_count_64 0 rfl rfl ?_
            refine g_get C dX7_count_65 wl27 rfl 21 (by decide) 5 rfl rfl rfl inX7_count_X7 ?_
            refine g_topi (y := nI n) hn ?_
            refine g_iret C dX7_count_68 rfl ⟨Nat.le_of_ble_eq_true rfl, Nat.le_of_ble_eq_true rfl⟩ ?_
            rw [hF]
            exact ⟨fun h => absurd hc0 h, fun _ => ⟨by unfold coM; (first | rw [if_pos hb0] | rw [if_neg hb0, if_pos hb1] | rw [if_neg hb0, if_neg hb1, if_pos hb2] | rw [if_neg hb0, if_neg hb1, if_neg hb2]); try rfl, by rw [hc0]; try rfl⟩⟩
          · have hb2 : tn b = 2 := (nI_eq (a := tn b) (b := 2) (by omega) (by decide)).mp (Decidable.byContradiction fun h => absurd c_54 h)
            refine g_aload_n C dX7_count_57 0 rfl rfl ?_
            refine g_get C dX7_count_58 wl27 rfl 10 (by decide) 4 rfl rfl rfl inX7_count_X7 ?_
            refine g_topi (y := nI (pM H)) hM.nm ?_
            refine g_goto (tgt := 68) C dX7_count_61 (by decide) ?_
            refine g_iret C dX7_count_68 rfl ⟨Nat.le_of_ble_eq_true rfl, Nat.le_of_ble_eq_true rfl⟩ ?_
            rw [hF]
            exact ⟨fun h => absurd hc0 h, fun _ => ⟨by unfold coM; (first | rw [if_pos hb0] | rw [if_neg hb0, if_pos hb1] | rw [if_neg hb0, if_neg hb1, if_pos hb2] | rw [if_neg hb0, if_neg hb1, if_neg hb2]); try rfl, by rw [hc0]; try rfl⟩⟩
        · have hb1 : tn b = 1 := (nI_eq (a := tn b) (b := 1) (by omega) (by decide)).mp (Decidable.byContradiction fun h => absurd c_42 h)
          refine g_aload_n C dX7_count_45 0 rfl rfl ?_
          refine g_get C dX7_count_46 wl27 rfl 2 (by decide) 3 rfl rfl rfl inX7_count_X7 ?_
          refine g_topi (y := nI (pD H)) hM.nd ?_
          refine g_goto (tgt := 68) C dX7_count_49 (by decide) ?_
          refine g_iret C dX7_count_68 rfl ⟨Nat.le_of_ble_eq_true rfl, Nat.le_of_ble_eq_true rfl⟩ ?_
          rw [hF]
          exact ⟨fun h => absurd hc0 h, fun _ => ⟨by unfold coM; (first | rw [if_pos hb0] | rw [if_neg hb0, if_pos hb1] | rw [if_neg hb0, if_neg hb1, if_pos hb2] | rw [if_neg hb0, if_neg hb1, if_neg hb2]); try rfl, by rw [hc0]; try rfl⟩⟩
      · have hb0 : tn b = 0 := (nI_eq (a := tn b) (b := 0) (by omega) (by decide)).mp (Decidable.byContradiction fun h => absurd c_30 h)
        refine g_aload_n C dX7_count_33 0 rfl rfl ?_
        refine g_get C dX7_count_34 wl27 rfl 1 (by decide) 2 rfl rfl rfl inX7_count_X7 ?_
        refine g_topi (y := nI nj) hM.j.1 ?_
        refine g_goto (tgt := 68) C dX7_count_37 (by decide) ?_
        refine g_iret C dX7_count_68 rfl ⟨Nat.le_of_ble_eq_true rfl, Nat.le_of_ble_eq_true rfl⟩ ?_
        rw [hF]
        exact ⟨fun h => absurd hc0 h, fun _ => ⟨by unfold coM; (first | rw [if_pos hb0] | rw [if_neg hb0, if_pos hb1] | rw [if_neg hb0, if_neg hb1, if_pos hb2] | rw [if_neg hb0, if_neg hb1, if_neg hb2]); try rfl, by rw [hc0]; try rfl⟩⟩
    · have hc1 : cdCount b ≠ 0 := fun h => c_22 (by rw [h]; decide)
      refine g_iconst (v := nI 0) C dX7_count_25 (by decide +kernel) ?_
      refine g_goto (tgt := 68) C dX7_count_26 (by decide) ?_
      refine g_iret C dX7_count_68 rfl ⟨Nat.le_of_ble_eq_true rfl, Nat.le_of_ble_eq_true rfl⟩ ?_
      rw [hF]
      exact ⟨fun _ => ⟨rfl, rfl⟩, fun h => absurd h hc1⟩
  · have hcd : cdCount b = 0 := if_pos (of_decide_eq_true (bIt c_7))
    refine g_iconst (v := nI 0) C dX7_count_10 (by decide +kernel) ?_
    refine g_goto (tgt := 15) C dX7_count_11 (by decide) ?_
    refine g_topi (y := nI (cdCount b)) (by rw [hcd]) ?_
    refine g_put (σ' := uN σ 5 (nI (cdCount b))) (ty := .int) C dX7_count_15 wl27 rfl 0 (by decide) 1 rfl rfl inX7_count_X7 tyX7_ok nmX7 rfl (by decide +kernel) rfl rfl (Nat.le_of_ble_eq_true rfl) wsN5 ?_
    refine g_aload_n C dX7_count_18 0 rfl rfl ?_
    refine g_get C dX7_count_19 wl27 rfl 0 (by decide) 1 rfl rfl rfl inX7_count_X7 ?_
    refine g_topi (y := nI (cdCount b)) rfl ?_
    refine g_if_le (tgt := 29) C dX7_count_22 (by decide) (fun c_22 => ?_) (fun c_22 => ?_)
    · have hc0 : cdCount b = 0 := nI_le0 (by omega) c_22
      have tb := inT (cdCount_0 hc0) (by decide)
      refine g_eq (σ2 := uN σ 5 (nI (cdCount b))) (lv2 := [(0, .ref ((xK X).2.2 27)), (1, .int (nI (tn b)))]) (st2 := []) rfl (congrArg (fun z9 => ([(0, .ref ((xK X).2.2 27)), (1, .int z9)] : List (Nat × Value))) tb.1) rfl ?_
      refine g_iload_n C dX7_count_29 1 rfl rfl ?_
      refine g_if_ne (tgt := 40) C dX7_count_30 (by decide) (fun c_30 => ?_) (fun c_30 => ?_)
      · have hb0 : ¬ tn b = 0 := fun h => c_30 (congrArg nI h)
        refine g_iload_n C dX7_count_40 1 rfl rfl ?_
        refine g_iconst (v := nI 1) C dX7_count_41 (by decide +kernel) ?_
        refine g_icmp_ne (tgt := 52) C dX7_count_42 (by decide) (fun c_42 => ?_) (fun c_42 => ?_)
        · have hb1 : ¬ tn b = 1 := fun h => c_42 (congrArg nI h)
          refine g_iload_n C dX7_count_52 1 rfl rfl ?_
          refine g_iconst (v := nI 2) C dX7_count_53 (by decide +kernel) ?_
          refine g_icmp_ne (tgt := 64) C dX7_count_54 (by decide) (fun c_54 => ?_) (fun c_54 => ?_)
          · have hb2 : ¬ tn b = 2 := fun h => c_54 (congrArg nI h)
            refine g_aload_n C dX7_count_64 0 rfl rfl ?_
            refine g_get C dX7_count_65 wl27 rfl 21 (by decide) 5 rfl rfl rfl inX7_count_X7 ?_
            refine g_topi (y := nI n) hn ?_
            refine g_iret C dX7_count_68 rfl ⟨Nat.le_of_ble_eq_true rfl, Nat.le_of_ble_eq_true rfl⟩ ?_
            rw [hF]
            exact ⟨fun h => absurd hc0 h, fun _ => ⟨by unfold coM; (first | rw [if_pos hb0] | rw [if_neg hb0, if_pos hb1] | rw [if_neg hb0, if_neg hb1, if_pos hb2] | rw [if_neg hb0, if_neg hb1, if_neg hb2]); try rfl, by rw [hc0]; try rfl⟩⟩
          · have hb2 : tn b = 2 := (nI_eq (a := tn b) (b := 2) (by omega) (by decide)).mp (Decidable.byContradiction fun h => absurd c_54 h)
            refine g_aload_n C dX7_count_57 0 rfl rfl ?_
            refine g_get C dX7_count_58 wl27 rfl 10 (by decide) 4 rfl rfl rfl inX7_count_X7 ?_
            refine g_topi (y := nI (pM H)) hM.nm ?_
            refine g_goto (tgt := 68) C dX7_count_61 (by decide) ?_
            refine g_iret C dX7_count_68 rfl ⟨Nat.le_of_ble_eq_true rfl, Nat.le_of_ble_eq_true rfl⟩ ?_
            rw [hF]
            exact ⟨fun h => absurd hc0 h, fun _ => ⟨by unfold coM; (first | rw [if_pos hb0] | rw [if_neg hb0, if_pos hb1] | rw [if_neg hb0, if_neg hb1, if_pos hb2] | rw [if_neg hb0, if_neg hb1, if_neg hb2]); try rfl, by rw [hc0]; try rfl⟩⟩
        · have hb1 : tn b = 1 := (nI_eq (a := tn b) (b := 1) (by omega) (by decide)).mp (Decidable.byContradiction fun h => absurd c_42 h)
          refine g_aload_n C dX7_count_45 0 rfl rfl ?_
          refine g_get C dX7_count_46 wl27 rfl 2 (by decide) 3 rfl rfl rfl inX7_count_X7 ?_
          refine g_topi (y := nI (pD H)) hM.nd ?_
          refine g_goto (tgt := 68) C dX7_count_49 (by decide) ?_
          refine g_iret C dX7_count_68 rfl ⟨Nat.le_of_ble_eq_true rfl, Nat.le_of_ble_eq_true rfl⟩ ?_
          rw [hF]
          exact ⟨fun h => absurd hc0 h, fun _ => ⟨by unfold coM; (first | rw [if_pos hb0] | rw [if_neg hb0, if_pos hb1] | rw [if_neg hb0, if_neg hb1, if_pos hb2] | rw [if_neg hb0, if_neg hb1, if_neg hb2]); try rfl, by rw [hc0]; try rfl⟩⟩
      · have hb0 : tn b = 0 := (nI_eq (a := tn b) (b := 0) (by omega) (by decide)).mp (Decidable.byContradiction fun h => absurd c_30 h)
        refine g_aload_n C dX7_count_33 0 rfl rfl ?_
        refine g_get C dX7_count_34 wl27 rfl 1 (by decide) 2 rfl rfl rfl inX7_count_X7 ?_
        refine g_topi (y := nI nj) hM.j.1 ?_
        refine g_goto (tgt := 68) C dX7_count_37 (by decide) ?_
        refine g_iret C dX7_count_68 rfl ⟨Nat.le_of_ble_eq_true rfl, Nat.le_of_ble_eq_true rfl⟩ ?_
        rw [hF]
        exact ⟨fun h => absurd hc0 h, fun _ => ⟨by unfold coM; (first | rw [if_pos hb0] | rw [if_neg hb0, if_pos hb1] | rw [if_neg hb0, if_neg hb1, if_pos hb2] | rw [if_neg hb0, if_neg hb1, if_neg hb2]); try rfl, by rw [hc0]; try rfl⟩⟩
    · have hc1 : cdCount b ≠ 0 := fun h => c_22 (by rw [h]; decide)
      refine g_iconst (v := nI 0) C dX7_count_25 (by decide +kernel) ?_
      refine g_goto (tgt := 68) C dX7_count_26 (by decide) ?_
      refine g_iret C dX7_count_68 rfl ⟨Nat.le_of_ble_eq_true rfl, Nat.le_of_ble_eq_true rfl⟩ ?_
      rw [hF]
      exact ⟨fun _ => ⟨rfl, rfl⟩, fun h => absurd h hc1⟩

theorem inX7_thrown_X7 : ∀ w ∈ u_ws RX7 TX7 24, w ∈ wsX7_thrown := by decide +kernel
set_option maxHeartbeats 4000000 in
set_option maxRecDepth 100000 in
theorem kX7_thrown (l : Launch) (K : gK) (hD : gD K) (σ : gS)  : Ct l yX7_thrown wsX7_thrown { frames := 0, cells := 0, slots := 0, locals := 0 } K [.ref (K.2.2 27)] σ (fun r t => r = some (.int (sN σ 5)) ∧ t = σ) := by
  refine Ct.of hD (by decide) rfl (Nat.le_of_ble_eq_true rfl) ?_
  intro X hL hK hF C
  subst hL; subst hK
  refine g_eq (σ2 := σ) (lv2 := [(0, .ref ((xK X).2.2 27))]) (st2 := []) rfl rfl rfl ?_
  refine g_aload_n C dX7_thrown_0 0 rfl rfl ?_
  refine g_get C dX7_thrown_1 wl27 rfl 0 (by decide) 1 rfl rfl rfl inX7_thrown_X7 ?_
  refine g_iret C dX7_thrown_4 rfl ⟨Nat.le_of_ble_eq_true rfl, Nat.le_of_ble_eq_true rfl⟩ ?_
  rw [hF]
  exact ⟨rfl, rfl⟩
