/-! the model: fit -/
theorem inB_50 {x : Int32} : inB x (nI 0) (nI 50) = true ↔ (¬ x < 0 ∧ x ≤ nI 50) := by
  unfold inB
  rw [Bool.and_eq_true, decide_eq_true_eq, decide_eq_true_eq]
  exact ⟨fun h => ⟨Int32.not_lt.mpr h.1, h.2⟩, fun h => ⟨Int32.not_lt.mp h.1, h.2⟩⟩

theorem inX7_fit_X7 : ∀ w ∈ u_ws RX7 TX7 24, w ∈ wsX7_fit := by decide +kernel
set_option maxHeartbeats 4000000 in
set_option maxRecDepth 100000 in
theorem kX7_fit (l : Launch) (K : gK) (hD : gD K) (σ : gS) {H : Ph} {nj n : Nat} {sv : Bool} (hI : Mi H nj n sv σ) (r : Int32) : Ct l yX7_fit wsX7_fit { frames := 2, cells := 0, slots := 0, locals := 42 } K [.ref (K.2.2 27), .int r] σ (Mr σ (cdFit sv r) (some (.double FP.dconst0)) (fun o t => o = some (.double (sqM H σ (fiM H σ (tn r)))) ∧ t = uF (uN σ 5 (nI 0)) 32 (fiM H σ (tn r)))) := by
  refine Ct.of hD (by decide) rfl (Nat.le_of_ble_eq_true rfl) ?_
  intro X hL hK hF C
  subst hL; subst hK
  refine g_eq (σ2 := σ) (lv2 := [(0, .ref ((xK X).2.2 27)), (1, .int r)]) (st2 := []) rfl rfl rfl ?_
  obtain ⟨hM, hp, hP, hg, hq, hsv, ⟨hn, hn6, hsw⟩, hr, hl⟩ := hI
  have h16 := hM.nd16
  have h8 := hM.nm8
  have hjj := hM.j
  have hcb := cdFit_le sv r
  refine g_aload_n C dX7_fit_0 0 rfl rfl ?_
  refine g_iload_n C dX7_fit_1 1 rfl rfl ?_
  refine g_iconst (v := nI 0) C dX7_fit_2 (by decide +kernel) ?_
  refine g_bipush (v := nI 50) C dX7_fit_3 (by decide +kernel) ?_
  refine g_callS (As := [.int r, .int (nI 0), .int (nI 50)]) (rest := [.ref ((xK X).2.2 27)]) C dX7_fit_5 (kX7_isIn (xl X) (xK X) C.hD σ r (nI 0) (nI 50)) 3 gX7_fit_X7_isIn rfl (by decide +kernel) ⟨Nat.le_of_ble_eq_true rfl, Nat.le_of_ble_eq_true rfl⟩ ⟨Nat.le_of_ble_eq_true rfl, Nat.le_of_ble_eq_true rfl⟩ rfl rfl (Nat.le_of_ble_eq_true rfl) (fun rv9 σ9 h9 => ?_)
  obtain ⟨h9a, h9b⟩ := h9
  refine g_eq (σ2 := σ) (lv2 := [(0, .ref ((xK X).2.2 27)), (1, .int r)]) (st2 := [.int (bI (inB r (nI 0) (nI 50))), .ref ((xK X).2.2 27)]) h9b rfl (by rw [h9a]; rfl) ?_
  refine g_if_ne (tgt := 15) C dX7_fit_8 (by decide) (fun c_8 => ?_) (fun c_8 => ?_)
  · have hix := inB_50.mp (bIt c_8)
    refine g_aload_n C dX7_fit_15 0 rfl rfl ?_
    refine g_get C dX7_fit_16 wl27 rfl 20 (by decide) 1 rfl rfl rfl inX7_fit_X7 ?_
    refine g_topi (y := bI sv) hsv ?_
    refine g_if_eq (tgt := 26) C dX7_fit_19 (by decide) (fun c_19 => ?_) (fun c_19 => ?_)
    · have hcd : cdFit sv r = 2 := (if_neg (fun h => h hix)).trans (if_neg (by rw [(bI_ne _).mp c_19]; decide))
      refine g_iconst (v := nI 2) C dX7_fit_26 (by decide +kernel) ?_
      refine g_topi (y := nI (cdFit sv r)) (by rw [hcd]) ?_
      refine g_put (σ' := uN σ 5 (nI (cdFit sv r))) (ty := .int) C dX7_fit_27 wl27 rfl 0 (by decide) 2 rfl rfl inX7_fit_X7 tyX7_ok nmX7 rfl (by decide +kernel) rfl rfl (Nat.le_of_ble_eq_true rfl) wsN5 ?_
      refine g_aload_n C dX7_fit_30 0 rfl rfl ?_
      refine g_get C dX7_fit_31 wl27 rfl 0 (by decide) 2 rfl rfl rfl inX7_fit_X7 ?_
      refine g_topi (y := nI (cdFit sv r)) rfl ?_
      refine g_if_le (tgt := 39) C dX7_fit_34 (by decide) (fun c_34 => ?_) (fun c_34 => ?_)
      · have hc0 : cdFit sv r = 0 := nI_le0 (by omega) c_34
        have tr : r = nI (tn r) ∧ tn r ≤ 50 := by
          obtain ⟨j, hj, e⟩ := nI_of2 (n := 50) (by decide) (cdFit_0 hc0).1.1 (cdFit_0 hc0).1.2
          have : tn r = j := by rw [e]; exact tn_nI (by omega)
          rw [this]
          exact ⟨e, hj⟩
        have tr2 := tr.2
        refine g_eq (σ2 := uN σ 5 (nI (cdFit sv r))) (lv2 := [(0, .ref ((xK X).2.2 27)), (1, .int (nI (tn r)))]) (st2 := []) rfl (congrArg (fun z9 => ([(0, .ref ((xK X).2.2 27)), (1, .int z9)] : List (Nat × Value))) tr.1) rfl ?_
        refine g_iconst (v := nI 0) C dX7_fit_39 (by decide +kernel) ?_
        refine g_istore_n (lv' := [(2, .int (nI 0)), (0, .ref ((xK X).2.2 27)), (1, .int (nI (tn r)))]) C dX7_fit_40 rfl (by decide) rfl ?_
        refine g_eq (σ2 := uF (uN σ 5 (nI (cdFit sv r))) 32 (fiM H σ 0)) (lv2 := [(2, .int (nI 0)), (0, .ref ((xK X).2.2 27)), (1, .int (nI (tn r)))]) (st2 := []) ((uF_self (uN σ 5 (nI (cdFit sv r))) 32).symm) rfl rfl ?_
        have loop41 : ∀ (r9 : Nat) (k : Nat), tn r - k < r9 → (k ≤ tn r) → G X 7 0 0 (uF (uN σ 5 (nI (cdFit sv r))) 32 (fiM H σ k)) [(0, .ref ((xK X).2.2 27)), (1, .int (nI (tn r))), (2, .int (nI k))] 41 [] := by
          intro r9
          induction r9 with
          | zero => intro k h9; exact absurd h9 (Nat.not_lt_zero _)
          | succ r9 ih41 =>
            intro k hm41 hk
            have hlk := fiM_ok hp hP hr hl k
            refine g_iload_n C dX7_fit_41 2 rfl rfl ?_
            refine g_iload_n C dX7_fit_42 1 rfl rfl ?_
            refine g_icmp_ge (tgt := 131) C dX7_fit_43 (by decide) (fun c_43 => ?_) (fun c_43 => ?_)
            · have hke : k = tn r := by
                have h9 := (nI_leI (by  omega) (by  omega)).mp c_43
                omega
              have hlf := fiM_ok hp hP hr hl (tn r)
              refine g_eq (σ2 := uF (uN σ 5 (nI (cdFit sv r))) 32 (fiM H σ (tn r))) (lv2 := [(0, .ref ((xK X).2.2 27)), (1, .int (nI (tn r))), (2, .int (nI k))]) (st2 := []) (by rw [hke]) rfl rfl ?_
              refine g_dconst0 C dX7_fit_131 ?_
              refine g_dstore_n (lv' := [(2, .double FP.dconst0), (0, .ref ((xK X).2.2 27)), (1, .int (nI (tn r)))]) C dX7_fit_132 rfl (by decide) rfl ?_
              refine g_iconst (v := nI 0) C dX7_fit_133 (by decide +kernel) ?_
              refine g_istore (lv' := [(4, .int (nI 0)), (2, .double FP.dconst0), (0, .ref ((xK X).2.2 27)), (1, .int (nI (tn r)))]) C dX7_fit_134 (by decide) rfl ?_
              have loop136 : ∀ (r9 : Nat) (d : Nat), pD H - d < r9 → (d ≤ pD H) → G X 7 0 0 (uF (uN σ 5 (nI (cdFit sv r))) 32 (fiM H σ (tn r))) [(0, .ref ((xK X).2.2 27)), (1, .int (nI (tn r))), (2, .double (accF FP.dconst0 (irM σ) (fun d => FP.dmul (msV H (sF σ 40) (sF σ 34) (fiM H σ (tn r)) d) (msV H (sF σ 40) (sF σ 34) (fiM H σ (tn r)) d)) d)), (4, .int (nI d))] 136 [] := by
                intro r9
                induction r9 with
                | zero => intro d h9; exact absurd h9 (Nat.not_lt_zero _)
                | succ r9 ih136 =>
                  intro d hm136 hd
                  refine g_iload C dX7_fit_136 3 rfl ?_
                  refine g_aload_n C dX7_fit_138 0 rfl rfl ?_
                  refine g_get C dX7_fit_139 wl27 rfl 2 (by decide) 3 rfl rfl rfl inX7_fit_X7 ?_
                  refine g_topi (y := nI (pD H)) hM.nd ?_
                  refine g_icmp_ge (tgt := 214) C dX7_fit_142 (by decide) (fun c_142 => ?_) (fun c_142 => ?_)
                  · have hde : d = pD H := by
                      have h9 := (nI_leI (by  omega) (by  omega)).mp c_142
                      omega
                    refine g_dload_n C dX7_fit_214 2 rfl rfl ?_
                    refine g_dret C dX7_fit_215 rfl ⟨Nat.le_of_ble_eq_true rfl, Nat.le_of_ble_eq_true rfl⟩ ?_
                    rw [hF]
                    exact ⟨fun h => absurd hc0 h, fun _ => ⟨by rw [hde]; rfl, by rw [hc0]⟩⟩
                  · have hdt : d < pD H := by
                      refine Nat.lt_of_not_le fun h => c_142 ?_
                      exact (nI_leI (by  omega) (by  omega)).mpr (by omega)
                    refine g_aload_n C dX7_fit_145 0 rfl rfl ?_
                    refine g_get C dX7_fit_146 wl27 rfl 8 (by decide) 4 rfl rfl rfl inX7_fit_X7 ?_
                    refine g_iload C dX7_fit_149 3 rfl ?_
                    refine g_zald (j := d) C dX7_fit_151 wl33 rfl (by omega) (by decide) ?_
                    refine g_if_eq (tgt := 183) C dX7_fit_152 (by decide) (fun c_152 => ?_) (fun c_152 => ?_)
                    · refine g_dconst0 C dX7_fit_183 ?_
                      refine g_dstore (lv' := [(5, .double FP.dconst0), (0, .ref ((xK X).2.2 27)), (1, .int (nI (tn r))), (2, .double (accF FP.dconst0 (irM σ) (fun d => FP.dmul (msV H (sF σ 40) (sF σ 34) (fiM H σ (tn r)) d) (msV H (sF σ 40) (sF σ 34) (fiM H σ (tn r)) d)) d)), (4, .int (nI d))]) C dX7_fit_184 (by decide) rfl ?_
                      refine g_aload_n C dX7_fit_186 1 rfl rfl ?_
                      refine g_get C dX7_fit_187 wl27 rfl 8 (by decide) 4 rfl rfl rfl inX7_fit_X7 ?_
                      refine g_iload C dX7_fit_190 4 rfl ?_
                      refine g_zald (j := d) C dX7_fit_192 wl33 rfl (by omega) (by decide) ?_
                      refine g_if_eq (tgt := 206) C dX7_fit_193 (by decide) (fun c_193 => ?_) (fun c_193 => ?_)
                      · have hb : irM σ d = false := decide_eq_false (fun h => h c_193)
                        refine g_dload_n C dX7_fit_206 3 rfl rfl ?_
                        refine g_topd (y := accF FP.dconst0 (irM σ) (fun d => FP.dmul (msV H (sF σ 40) (sF σ 34) (fiM H σ (tn r)) d) (msV H (sF σ 40) (sF σ 34) (fiM H σ (tn r)) d)) (d + 1)) ((accF_no (p := irM σ) (g := fun d => FP.dmul (msV H (sF σ 40) (sF σ 34) (fiM H σ (tn r)) d) (msV H (sF σ 40) (sF σ 34) (fiM H σ (tn r)) d)) hb).symm) ?_
                        refine g_dstore_n (lv' := [(2, .double (accF FP.dconst0 (irM σ) (fun d => FP.dmul (msV H (sF σ 40) (sF σ 34) (fiM H σ (tn r)) d) (msV H (sF σ 40) (sF σ 34) (fiM H σ (tn r)) d)) (d + 1))), (5, .double FP.dconst0), (0, .ref ((xK X).2.2 27)), (1, .int (nI (tn r))), (4, .int (nI d))]) C dX7_fit_207 rfl (by decide) rfl ?_
                        refine g_iinc (v := nI (d + 1)) (lv' := [(4, .int (nI (d + 1))), (2, .double (accF FP.dconst0 (irM σ) (fun d => FP.dmul (msV H (sF σ 40) (sF σ 34) (fiM H σ (tn r)) d) (msV H (sF σ 40) (sF σ 34) (fiM H σ (tn r)) d)) (d + 1))), (5, .double FP.dconst0), (0, .ref ((xK X).2.2 27)), (1, .int (nI (tn r)))]) C dX7_fit_208 4 rfl (nI_1 d) (by decide) rfl ?_
                        refine g_goto (tgt := 136) C dX7_fit_211 (by decide) ?_
                        refine g_lv [3, 4, 1, 0] rfl ?_
                        exact ih136 (d + 1) (by omega) (by omega)
                      · have hb : irM σ d = true := decide_eq_true c_193
                        refine g_dload_n C dX7_fit_196 3 rfl rfl ?_
                        refine g_dload C dX7_fit_197 0 rfl ?_
                        refine g_dload C dX7_fit_199 0 rfl ?_
                        refine g_dmul C dX7_fit_201 (absurd c_152 c_193) ?_
                        refine g_dadd C dX7_fit_202 (absurd c_152 c_193) ?_
                        refine g_goto (tgt := 207) C dX7_fit_203 (by decide) ?_
                        refine g_topd (y := accF FP.dconst0 (irM σ) (fun d => FP.dmul (msV H (sF σ 40) (sF σ 34) (fiM H σ (tn r)) d) (msV H (sF σ 40) (sF σ 34) (fiM H σ (tn r)) d)) (d + 1)) (absurd c_152 c_193) ?_
                        refine g_dstore_n (lv' := [(2, .double (accF FP.dconst0 (irM σ) (fun d => FP.dmul (msV H (sF σ 40) (sF σ 34) (fiM H σ (tn r)) d) (msV H (sF σ 40) (sF σ 34) (fiM H σ (tn r)) d)) (d + 1))), (5, .double FP.dconst0), (0, .ref ((xK X).2.2 27)), (1, .int (nI (tn r))), (4, .int (nI d))]) C dX7_fit_207 rfl (by decide) rfl ?_
                        refine g_iinc (v := nI (d + 1)) (lv' := [(4, .int (nI (d + 1))), (2, .double (accF FP.dconst0 (irM σ) (fun d => FP.dmul (msV H (sF σ 40) (sF σ 34) (fiM H σ (tn r)) d) (msV H (sF σ 40) (sF σ 34) (fiM H σ (tn r)) d)) (d + 1))), (5, .double FP.dconst0), (0, .ref ((xK X).2.2 27)), (1, .int (nI (tn r)))]) C dX7_fit_208 4 rfl (nI_1 d) (by decide) rfl ?_
                        refine g_goto (tgt := 136) C dX7_fit_211 (by decide) ?_
                        refine g_lv [3, 4, 1, 0] rfl ?_
                        exact ih136 (d + 1) (by omega) (by omega)
                    · have ha : irM σ d = true := decide_eq_true c_152
                      have hmb := fun (i : Nat) (hi : irM σ i = true) => ms_B hp (rd := sF σ 34) (lk := (fiM H σ (tn r))) hP (hr i hi).1 (hr i hi).2 (hlf i)
                      have hms := hmb d ha
                      have hm : ∀ i, i < pD H → irM σ i = true → Bd 74 (FP.dmul (msV H (sF σ 40) (sF σ 34) (fiM H σ (tn r)) i) (msV H (sF σ 40) (sF σ 34) (fiM H σ (tn r)) i)) := fun i _ hi => (hmb i hi).2.mul (hmb i hi).2 (by decide)
                      refine g_aload_n C dX7_fit_155 0 rfl rfl ?_
                      refine g_get C dX7_fit_156 wl27 rfl 9 (by decide) 6 rfl rfl rfl inX7_fit_X7 ?_
                      refine g_iload C dX7_fit_159 3 rfl ?_
                      refine g_dald (j := d) C dX7_fit_161 wl34 rfl (by omega) (by decide) ?_
                      refine g_aload_n C dX7_fit_162 0 rfl rfl ?_
                      refine g_iload C dX7_fit_163 3 rfl ?_
                      refine g_callV (As := [.int (nI d)]) (rest := [.double (sF (uF (uN σ 5 (nI (cdFit sv r))) 32 (fiM H σ (tn r))) 34 d)]) C dX7_fit_165 (kX7_flowOf (xl X) (xK X) C.hD (uF (uN σ 5 (nI (cdFit sv r))) 32 (fiM H σ (tn r))) hM hp hP hdt) wl27 rfl 1 gX7_fit_X7_flowOf rfl (by decide +kernel) ⟨Nat.le_of_ble_eq_true rfl, Nat.le_of_ble_eq_true rfl⟩ ⟨Nat.le_of_ble_eq_true rfl, Nat.le_of_ble_eq_true rfl⟩ rfl rfl (Nat.le_of_ble_eq_true rfl) (fun rv9 σ9 h9 => ?_)
                      obtain ⟨h9a, h9b⟩ := h9
                      refine g_eq (σ2 := uF (uN σ 5 (nI (cdFit sv r))) 32 (fiM H σ (tn r))) (lv2 := [(0, .ref ((xK X).2.2 27)), (1, .int (nI (tn r))), (2, .double (accF FP.dconst0 (irM σ) (fun d => FP.dmul (msV H (sF σ 40) (sF σ 34) (fiM H σ (tn r)) d) (msV H (sF σ 40) (sF σ 34) (fiM H σ (tn r)) d)) d)), (4, .int (nI d))]) (st2 := [.double (flw H (sF σ 40) d), .double (sF (uF (uN σ 5 (nI (cdFit sv r))) 32 (fiM H σ (tn r))) 34 d)]) h9b rfl (by rw [h9a]; rfl) ?_
                      refine g_callS (As := [.double (flw H (sF σ 40) d)]) (rest := [.double (sF (uF (uN σ 5 (nI (cdFit sv r))) 32 (fiM H σ (tn r))) 34 d)]) C dX7_fit_168 (kX7_sizeOf (xl X) (xK X) C.hD (uF (uN σ 5 (nI (cdFit sv r))) 32 (fiM H σ (tn r))) _) 1 gX7_fit_X7_sizeOf rfl (by decide +kernel) ⟨Nat.le_of_ble_eq_true rfl, Nat.le_of_ble_eq_true rfl⟩ ⟨Nat.le_of_ble_eq_true rfl, Nat.le_of_ble_eq_true rfl⟩ rfl rfl (Nat.le_of_ble_eq_true rfl) (fun rv9 σ9 h9 => ?_)
                      obtain ⟨h9a, h9b⟩ := h9
                      refine g_eq (σ2 := uF (uN σ 5 (nI (cdFit sv r))) 32 (fiM H σ (tn r))) (lv2 := [(0, .ref ((xK X).2.2 27)), (1, .int (nI (tn r))), (2, .double (accF FP.dconst0 (irM σ) (fun d => FP.dmul (msV H (sF σ 40) (sF σ 34) (fiM H σ (tn r)) d) (msV H (sF σ 40) (sF σ 34) (fiM H σ (tn r)) d)) d)), (4, .int (nI d))]) (st2 := [.double (mg (flw H (sF σ 40) d)), .double (sF (uF (uN σ 5 (nI (cdFit sv r))) 32 (fiM H σ (tn r))) 34 d)]) h9b rfl (by rw [h9a]; rfl) ?_
                      refine g_dsub C dX7_fit_171 hms.1.F.ok ?_
                      refine g_aload_n C dX7_fit_172 0 rfl rfl ?_
                      refine g_get C dX7_fit_173 wl27 rfl 7 (by decide) 5 rfl rfl rfl inX7_fit_X7 ?_
                      refine g_iload C dX7_fit_176 3 rfl ?_
                      refine g_dald (j := d) C dX7_fit_178 wl32 rfl (by omega) (by decide) ?_
                      refine g_dsub C dX7_fit_179 hms.2.F.ok ?_
                      refine g_goto (tgt := 184) C dX7_fit_180 (by decide) ?_
                      refine g_topd (y := msV H (sF σ 40) (sF σ 34) (fiM H σ (tn r)) d) rfl ?_
                      refine g_dstore (lv' := [(5, .double (msV H (sF σ 40) (sF σ 34) (fiM H σ (tn r)) d)), (0, .ref ((xK X).2.2 27)), (1, .int (nI (tn r))), (2, .double (accF FP.dconst0 (irM σ) (fun d => FP.dmul (msV H (sF σ 40) (sF σ 34) (fiM H σ (tn r)) d) (msV H (sF σ 40) (sF σ 34) (fiM H σ (tn r)) d)) d)), (4, .int (nI d))]) C dX7_fit_184 (by decide) rfl ?_
                      refine g_aload_n C dX7_fit_186 1 rfl rfl ?_
                      refine g_get C dX7_fit_187 wl27 rfl 8 (by decide) 4 rfl rfl rfl inX7_fit_X7 ?_
                      refine g_iload C dX7_fit_190 4 rfl ?_
                      refine g_zald (j := d) C dX7_fit_192 wl33 rfl (by omega) (by decide) ?_
                      refine g_if_eq (tgt := 206) C dX7_fit_193 (by decide) (fun c_193 => ?_) (fun c_193 => ?_)
                      · have hb : irM σ d = false := decide_eq_false (fun h => h c_193)
                        refine g_dload_n C dX7_fit_206 3 rfl rfl ?_
                        refine g_topd (y := accF FP.dconst0 (irM σ) (fun d => FP.dmul (msV H (sF σ 40) (sF σ 34) (fiM H σ (tn r)) d) (msV H (sF σ 40) (sF σ 34) (fiM H σ (tn r)) d)) (d + 1)) ((accF_no (p := irM σ) (g := fun d => FP.dmul (msV H (sF σ 40) (sF σ 34) (fiM H σ (tn r)) d) (msV H (sF σ 40) (sF σ 34) (fiM H σ (tn r)) d)) hb).symm) ?_
                        refine g_dstore_n (lv' := [(2, .double (accF FP.dconst0 (irM σ) (fun d => FP.dmul (msV H (sF σ 40) (sF σ 34) (fiM H σ (tn r)) d) (msV H (sF σ 40) (sF σ 34) (fiM H σ (tn r)) d)) (d + 1))), (5, .double (msV H (sF σ 40) (sF σ 34) (fiM H σ (tn r)) d)), (0, .ref ((xK X).2.2 27)), (1, .int (nI (tn r))), (4, .int (nI d))]) C dX7_fit_207 rfl (by decide) rfl ?_
                        refine g_iinc (v := nI (d + 1)) (lv' := [(4, .int (nI (d + 1))), (2, .double (accF FP.dconst0 (irM σ) (fun d => FP.dmul (msV H (sF σ 40) (sF σ 34) (fiM H σ (tn r)) d) (msV H (sF σ 40) (sF σ 34) (fiM H σ (tn r)) d)) (d + 1))), (5, .double (msV H (sF σ 40) (sF σ 34) (fiM H σ (tn r)) d)), (0, .ref ((xK X).2.2 27)), (1, .int (nI (tn r)))]) C dX7_fit_208 4 rfl (nI_1 d) (by decide) rfl ?_
                        refine g_goto (tgt := 136) C dX7_fit_211 (by decide) ?_
                        refine g_lv [3, 4, 1, 0] rfl ?_
                        exact ih136 (d + 1) (by omega) (by omega)
                      · have hb : irM σ d = true := decide_eq_true c_193
                        refine g_dload_n C dX7_fit_196 3 rfl rfl ?_
                        refine g_dload C dX7_fit_197 0 rfl ?_
                        refine g_dload C dX7_fit_199 0 rfl ?_
                        refine g_dmul C dX7_fit_201 ((hm d hdt hb).F.ok) ?_
                        refine g_dadd C dX7_fit_202 (accF_ok (d0_B 74) (n := pD H) (by omega) hdt (p := irM σ) (g := fun d => FP.dmul (msV H (sF σ 40) (sF σ 34) (fiM H σ (tn r)) d) (msV H (sF σ 40) (sF σ 34) (fiM H σ (tn r)) d)) hm hb) ?_
                        refine g_goto (tgt := 207) C dX7_fit_203 (by decide) ?_
                        refine g_topd (y := accF FP.dconst0 (irM σ) (fun d => FP.dmul (msV H (sF σ 40) (sF σ 34) (fiM H σ (tn r)) d) (msV H (sF σ 40) (sF σ 34) (fiM H σ (tn r)) d)) (d + 1)) ((accF_yes (p := irM σ) (g := fun d => FP.dmul (msV H (sF σ 40) (sF σ 34) (fiM H σ (tn r)) d) (msV H (sF σ 40) (sF σ 34) (fiM H σ (tn r)) d)) hb).symm) ?_
                        refine g_dstore_n (lv' := [(2, .double (accF FP.dconst0 (irM σ) (fun d => FP.dmul (msV H (sF σ 40) (sF σ 34) (fiM H σ (tn r)) d) (msV H (sF σ 40) (sF σ 34) (fiM H σ (tn r)) d)) (d + 1))), (5, .double (msV H (sF σ 40) (sF σ 34) (fiM H σ (tn r)) d)), (0, .ref ((xK X).2.2 27)), (1, .int (nI (tn r))), (4, .int (nI d))]) C dX7_fit_207 rfl (by decide) rfl ?_
                        refine g_iinc (v := nI (d + 1)) (lv' := [(4, .int (nI (d + 1))), (2, .double (accF FP.dconst0 (irM σ) (fun d => FP.dmul (msV H (sF σ 40) (sF σ 34) (fiM H σ (tn r)) d) (msV H (sF σ 40) (sF σ 34) (fiM H σ (tn r)) d)) (d + 1))), (5, .double (msV H (sF σ 40) (sF σ 34) (fiM H σ (tn r)) d)), (0, .ref ((xK X).2.2 27)), (1, .int (nI (tn r)))]) C dX7_fit_208 4 rfl (nI_1 d) (by decide) rfl ?_
                        refine g_goto (tgt := 136) C dX7_fit_211 (by decide) ?_
                        refine g_lv [3, 4, 1, 0] rfl ?_
                        exact ih136 (d + 1) (by omega) (by omega)
              refine g_lv [2, 3, 1, 0] rfl ?_
              exact loop136 (pD H + 1) 0 (by omega) (Nat.zero_le _)
            · have hkt : k < tn r := by
                refine Nat.lt_of_not_le fun h => c_43 ?_
                exact (nI_leI (by  omega) (by  omega)).mpr (by omega)
              refine g_iconst (v := nI 0) C dX7_fit_46 (by decide +kernel) ?_
              refine g_istore_n (lv' := [(3, .int (nI 0)), (0, .ref ((xK X).2.2 27)), (1, .int (nI (tn r))), (2, .int (nI k))]) C dX7_fit_47 rfl (by decide) rfl ?_
              have loop48 : ∀ (r9 : Nat) (d : Nat), pD H - d < r9 → (d ≤ pD H) → G X 7 0 0 (uF (uN σ 5 (nI (cdFit sv r))) 32 (apN H (sF σ 40) (sF σ 34) (irM σ) (fiM H σ k) d)) [(0, .ref ((xK X).2.2 27)), (1, .int (nI (tn r))), (2, .int (nI k)), (3, .int (nI d))] 48 [] := by
                intro r9
                induction r9 with
                | zero => intro d h9; exact absurd h9 (Nat.not_lt_zero _)
                | succ r9 ih48 =>
                  intro d hm48 hd
                  refine g_iload_n C dX7_fit_48 3 rfl rfl ?_
                  refine g_aload_n C dX7_fit_49 0 rfl rfl ?_
                  refine g_get C dX7_fit_50 wl27 rfl 2 (by decide) 3 rfl rfl rfl inX7_fit_X7 ?_
                  refine g_topi (y := nI (pD H)) hM.nd ?_
                  refine g_icmp_ge (tgt := 125) C dX7_fit_53 (by decide) (fun c_53 => ?_) (fun c_53 => ?_)
                  · have hde : d = pD H := by
                      have h9 := (nI_leI (by  omega) (by  omega)).mp c_53
                      omega
                    refine g_eq (σ2 := uF (uN σ 5 (nI (cdFit sv r))) 32 (fiM H σ (k + 1))) (lv2 := [(0, .ref ((xK X).2.2 27)), (1, .int (nI (tn r))), (2, .int (nI k)), (3, .int (nI d))]) (st2 := []) (by rw [hde]; rfl) rfl rfl ?_
                    refine g_iinc (v := nI (k + 1)) (lv' := [(2, .int (nI (k + 1))), (0, .ref ((xK X).2.2 27)), (1, .int (nI (tn r))), (3, .int (nI d))]) C dX7_fit_125 2 rfl (nI_1 k) (by decide) rfl ?_
                    refine g_goto (tgt := 41) C dX7_fit_128 (by decide) ?_
                    refine g_lv [1, 2, 0] rfl ?_
                    exact ih41 (k + 1) (by omega) (by omega)
                  · have hdt : d < pD H := by
                      refine Nat.lt_of_not_le fun h => c_53 ?_
                      exact (nI_leI (by  omega) (by  omega)).mpr (by omega)
                    refine g_aload_n C dX7_fit_56 0 rfl rfl ?_
                    refine g_get C dX7_fit_57 wl27 rfl 8 (by decide) 4 rfl rfl rfl inX7_fit_X7 ?_
                    refine g_iload_n C dX7_fit_60 3 rfl rfl ?_
                    refine g_zald (j := d) C dX7_fit_61 wl33 rfl (by omega) (by decide) ?_
                    refine g_if_eq (tgt := 119) C dX7_fit_62 (by decide) (fun c_62 => ?_) (fun c_62 => ?_)
                    · have hb : irM σ d = false := decide_eq_false (fun h => h c_62)
                      refine g_eq (σ2 := uF (uN σ 5 (nI (cdFit sv r))) 32 (apN H (sF σ 40) (sF σ 34) (irM σ) (fiM H σ k) (d + 1))) (lv2 := [(0, .ref ((xK X).2.2 27)), (1, .int (nI (tn r))), (2, .int (nI k)), (3, .int (nI d))]) (st2 := []) (by first | (rw [apN_yes hb]; exact uF_step _ _ _ _ _) | rw [apN_no hb]) rfl rfl ?_
                      refine g_iinc (v := nI (d + 1)) (lv' := [(3, .int (nI (d + 1))), (0, .ref ((xK X).2.2 27)), (1, .int (nI (tn r))), (2, .int (nI k))]) C dX7_fit_119 3 rfl (nI_1 d) (by decide) rfl ?_
                      refine g_goto (tgt := 48) C dX7_fit_122 (by decide) ?_
                      refine g_lv [1, 2, 3, 0] rfl ?_
                      exact ih48 (d + 1) (by omega) (by omega)
                    · have hb : irM σ d = true := decide_eq_true c_62
                      have hrd := hr d hb
                      have hms := ms_B hp (rd := sF σ 34) (lk := fiM H σ k) hP hdt hrd.2 (hlk d)
                      have hap := ap_ok hp (rd := sF σ 34) (lk := fiM H σ k) hP hrd.1 hrd.2 (hlk d)
                      refine g_aload_n C dX7_fit_65 0 rfl rfl ?_
                      refine g_get C dX7_fit_66 wl27 rfl 7 (by decide) 5 rfl rfl rfl inX7_fit_X7 ?_
                      refine g_iload_n C dX7_fit_69 3 rfl rfl ?_
                      refine g_dald (j := d) C dX7_fit_70 wl32 rfl (by omega) (by decide) ?_
                      refine g_topd (y := fiM H σ k d) (apN_ge (Nat.le_refl _)) ?_
                      refine g_aload_n C dX7_fit_71 0 rfl rfl ?_
                      refine g_get C dX7_fit_72 wl27 rfl 9 (by decide) 6 rfl rfl rfl inX7_fit_X7 ?_
                      refine g_iload_n C dX7_fit_75 3 rfl rfl ?_
                      refine g_dald (j := d) C dX7_fit_76 wl34 rfl (by omega) (by decide) ?_
                      refine g_aload_n C dX7_fit_77 0 rfl rfl ?_
                      refine g_iload_n C dX7_fit_78 3 rfl rfl ?_
                      refine g_callV (As := [.int (nI d)]) (rest := [.double (sF (uF (uN σ 5 (nI (cdFit sv r))) 32 (apN H (sF σ 40) (sF σ 34) (irM σ) (fiM H σ k) d)) 34 d), .double (fiM H σ k d)]) C dX7_fit_79 (kX7_flowOf (xl X) (xK X) C.hD (uF (uN σ 5 (nI (cdFit sv r))) 32 (apN H (sF σ 40) (sF σ 34) (irM σ) (fiM H σ k) d)) hM hp hP hdt) wl27 rfl 1 gX7_fit_X7_flowOf rfl (by decide +kernel) ⟨Nat.le_of_ble_eq_true rfl, Nat.le_of_ble_eq_true rfl⟩ ⟨Nat.le_of_ble_eq_true rfl, Nat.le_of_ble_eq_true rfl⟩ rfl rfl (Nat.le_of_ble_eq_true rfl) (fun rv9 σ9 h9 => ?_)
                      obtain ⟨h9a, h9b⟩ := h9
                      refine g_eq (σ2 := uF (uN σ 5 (nI (cdFit sv r))) 32 (apN H (sF σ 40) (sF σ 34) (irM σ) (fiM H σ k) d)) (lv2 := [(0, .ref ((xK X).2.2 27)), (1, .int (nI (tn r))), (2, .int (nI k)), (3, .int (nI d))]) (st2 := [.double (flw H (sF σ 40) d), .double (sF (uF (uN σ 5 (nI (cdFit sv r))) 32 (apN H (sF σ 40) (sF σ 34) (irM σ) (fiM H σ k) d)) 34 d), .double (fiM H σ k d)]) h9b rfl (by rw [h9a]; rfl) ?_
                      refine g_callS (As := [.double (flw H (sF σ 40) d)]) (rest := [.double (sF (uF (uN σ 5 (nI (cdFit sv r))) 32 (apN H (sF σ 40) (sF σ 34) (irM σ) (fiM H σ k) d)) 34 d), .double (fiM H σ k d)]) C dX7_fit_82 (kX7_sizeOf (xl X) (xK X) C.hD (uF (uN σ 5 (nI (cdFit sv r))) 32 (apN H (sF σ 40) (sF σ 34) (irM σ) (fiM H σ k) d)) _) 1 gX7_fit_X7_sizeOf rfl (by decide +kernel) ⟨Nat.le_of_ble_eq_true rfl, Nat.le_of_ble_eq_true rfl⟩ ⟨Nat.le_of_ble_eq_true rfl, Nat.le_of_ble_eq_true rfl⟩ rfl rfl (Nat.le_of_ble_eq_true rfl) (fun rv9 σ9 h9 => ?_)
                      obtain ⟨h9a, h9b⟩ := h9
                      refine g_eq (σ2 := uF (uN σ 5 (nI (cdFit sv r))) 32 (apN H (sF σ 40) (sF σ 34) (irM σ) (fiM H σ k) d)) (lv2 := [(0, .ref ((xK X).2.2 27)), (1, .int (nI (tn r))), (2, .int (nI k)), (3, .int (nI d))]) (st2 := [.double (mg (flw H (sF σ 40) d)), .double (sF (uF (uN σ 5 (nI (cdFit sv r))) 32 (apN H (sF σ 40) (sF σ 34) (irM σ) (fiM H σ k) d)) 34 d), .double (fiM H σ k d)]) h9b rfl (by rw [h9a]; rfl) ?_
                      refine g_dsub C dX7_fit_85 hms.1.F.ok ?_
                      refine g_aload_n C dX7_fit_86 0 rfl rfl ?_
                      refine g_get C dX7_fit_87 wl27 rfl 7 (by decide) 5 rfl rfl rfl inX7_fit_X7 ?_
                      refine g_iload_n C dX7_fit_90 3 rfl rfl ?_
                      refine g_dald (j := d) C dX7_fit_91 wl32 rfl (by omega) (by decide) ?_
                      refine g_topd (y := fiM H σ k d) (apN_ge (Nat.le_refl _)) ?_
                      refine g_dsub C dX7_fit_92 hms.2.F.ok ?_
                      refine g_topd (y := msV H (sF σ 40) (sF σ 34) (fiM H σ k) d) rfl ?_
                      refine g_ldc2d (v := 4611686018427387904) C dX7_fit_93 7 rfl ?_
                      refine g_ddiv C dX7_fit_96 hap.1.F.ok ?_
                      refine g_dadd C dX7_fit_97 hap.2.1.F.ok ?_
                      refine g_dstore (lv' := [(4, .double (FP.dadd (fiM H σ k d) (FP.ddiv (msV H (sF σ 40) (sF σ 34) (fiM H σ k) d) 4611686018427387904))), (0, .ref ((xK X).2.2 27)), (1, .int (nI (tn r))), (2, .int (nI k)), (3, .int (nI d))]) C dX7_fit_98 (by decide) rfl ?_
                      refine g_aload_n C dX7_fit_100 1 rfl rfl ?_
                      refine g_get C dX7_fit_101 wl27 rfl 7 (by decide) 5 rfl rfl rfl inX7_fit_X7 ?_
                      refine g_iload_n C dX7_fit_104 4 rfl rfl ?_
                      refine g_dload C dX7_fit_105 0 rfl ?_
                      refine g_dconst0 C dX7_fit_107 ?_
                      refine g_dcmp C dX7_fit_108 ?_
                      refine g_if_ge (tgt := 116) C dX7_fit_109 (by decide) (fun c_109 => ?_) (fun c_109 => ?_)
                      · refine g_dload C dX7_fit_116 0 rfl ?_
                        refine g_topd (y := apV H (sF σ 40) (sF σ 34) (fiM H σ k) d) (by unfold apV nb; first | rw [if_pos c_109] | rw [if_neg c_109]) ?_
                        refine g_dast (j := d) (σ' := uF (uF (uN σ 5 (nI (cdFit sv r))) 32 (apN H (sF σ 40) (sF σ 34) (irM σ) (fiM H σ k) d)) 32 (vf_upd (sF (uF (uN σ 5 (nI (cdFit sv r))) 32 (apN H (sF σ 40) (sF σ 34) (irM σ) (fiM H σ k) d)) 32) d (apV H (sF σ 40) (sF σ 34) (fiM H σ k) d))) C dX7_fit_118 wl32 rfl (by omega) (by decide) wsA32 ?_
                        refine g_eq (σ2 := uF (uN σ 5 (nI (cdFit sv r))) 32 (apN H (sF σ 40) (sF σ 34) (irM σ) (fiM H σ k) (d + 1))) (lv2 := [(4, .double (FP.dadd (fiM H σ k d) (FP.ddiv (msV H (sF σ 40) (sF σ 34) (fiM H σ k) d) 4611686018427387904))), (0, .ref ((xK X).2.2 27)), (1, .int (nI (tn r))), (2, .int (nI k)), (3, .int (nI d))]) (st2 := []) (by first | (rw [apN_yes hb]; exact uF_step _ _ _ _ _) | rw [apN_no hb]) rfl rfl ?_
                        refine g_iinc (v := nI (d + 1)) (lv' := [(3, .int (nI (d + 1))), (4, .double (FP.dadd (fiM H σ k d) (FP.ddiv (msV H (sF σ 40) (sF σ 34) (fiM H σ k) d) 4611686018427387904))), (0, .ref ((xK X).2.2 27)), (1, .int (nI (tn r))), (2, .int (nI k))]) C dX7_fit_119 4 rfl (nI_1 d) (by decide) rfl ?_
                        refine g_goto (tgt := 48) C dX7_fit_122 (by decide) ?_
                        refine g_lv [2, 3, 4, 0] rfl ?_
                        exact ih48 (d + 1) (by omega) (by omega)
                      · refine g_dconst0 C dX7_fit_112 ?_
                        refine g_goto (tgt := 118) C dX7_fit_113 (by decide) ?_
                        refine g_topd (y := apV H (sF σ 40) (sF σ 34) (fiM H σ k) d) (by unfold apV nb; first | rw [if_pos c_109] | rw [if_neg c_109]) ?_
                        refine g_dast (j := d) (σ' := uF (uF (uN σ 5 (nI (cdFit sv r))) 32 (apN H (sF σ 40) (sF σ 34) (irM σ) (fiM H σ k) d)) 32 (vf_upd (sF (uF (uN σ 5 (nI (cdFit sv r))) 32 (apN H (sF σ 40) (sF σ 34) (irM σ) (fiM H σ k) d)) 32) d (apV H (sF σ 40) (sF σ 34) (fiM H σ k) d))) C dX7_fit_118 wl32 rfl (by omega) (by decide) wsA32 ?_
                        refine g_eq (σ2 := uF (uN σ 5 (nI (cdFit sv r))) 32 (apN H (sF σ 40) (sF σ 34) (irM σ) (fiM H σ k) (d + 1))) (lv2 := [(4, .double (FP.dadd (fiM H σ k d) (FP.ddiv (msV H (sF σ 40) (sF σ 34) (fiM H σ k) d) 4611686018427387904))), (0, .ref ((xK X).2.2 27)), (1, .int (nI (tn r))), (2, .int (nI k)), (3, .int (nI d))]) (st2 := []) (by first | (rw [apN_yes hb]; exact uF_step _ _ _ _ _) | rw [apN_no hb]) rfl rfl ?_
                        refine g_iinc (v := nI (d + 1)) (lv' := [(3, .int (nI (d + 1))), (4, .double (FP.dadd (fiM H σ k d) (FP.ddiv (msV H (sF σ 40) (sF σ 34) (fiM H σ k) d) 4611686018427387904))), (0, .ref ((xK X).2.2 27)), (1, .int (nI (tn r))), (2, .int (nI k))]) C dX7_fit_119 4 rfl (nI_1 d) (by decide) rfl ?_
                        refine g_goto (tgt := 48) C dX7_fit_122 (by decide) ?_
                        refine g_lv [2, 3, 4, 0] rfl ?_
                        exact ih48 (d + 1) (by omega) (by omega)
              refine g_lv [1, 2, 3, 0] rfl ?_
              exact loop48 (pD H + 1) 0 (by omega) (Nat.zero_le _)
        refine g_lv [1, 2, 0] rfl ?_
        exact loop41 (tn r + 1) 0 (by omega) (Nat.zero_le _)
      · have hc1 : cdFit sv r ≠ 0 := fun h => c_34 (by rw [h]; decide)
        refine g_dconst0 C dX7_fit_37 ?_
        refine g_dret C dX7_fit_38 rfl ⟨Nat.le_of_ble_eq_true rfl, Nat.le_of_ble_eq_true rfl⟩ ?_
        rw [hF]
        exact ⟨fun _ => ⟨rfl, rfl⟩, fun h => absurd h hc1⟩
    · have hcd : cdFit sv r = 0 := (if_neg (fun h => h hix)).trans (if_pos (bIt c_19))
      refine g_iconst (v := nI 0) C dX7_fit_22 (by decide +kernel) ?_
      refine g_goto (tgt := 27) C dX7_fit_23 (by decide) ?_
      refine g_topi (y := nI (cdFit sv r)) (by rw [hcd]) ?_
      refine g_put (σ' := uN σ 5 (nI (cdFit sv r))) (ty := .int) C dX7_fit_27 wl27 rfl 0 (by decide) 2 rfl rfl inX7_fit_X7 tyX7_ok nmX7 rfl (by decide +kernel) rfl rfl (Nat.le_of_ble_eq_true rfl) wsN5 ?_
      refine g_aload_n C dX7_fit_30 0 rfl rfl ?_
      refine g_get C dX7_fit_31 wl27 rfl 0 (by decide) 2 rfl rfl rfl inX7_fit_X7 ?_
      refine g_topi (y := nI (cdFit sv r)) rfl ?_
      refine g_if_le (tgt := 39) C dX7_fit_34 (by decide) (fun c_34 => ?_) (fun c_34 => ?_)
      · have hc0 : cdFit sv r = 0 := nI_le0 (by omega) c_34
        have tr : r = nI (tn r) ∧ tn r ≤ 50 := by
          obtain ⟨j, hj, e⟩ := nI_of2 (n := 50) (by decide) (cdFit_0 hc0).1.1 (cdFit_0 hc0).1.2
          have : tn r = j := by rw [e]; exact tn_nI (by omega)
          rw [this]
          exact ⟨e, hj⟩
        have tr2 := tr.2
        refine g_eq (σ2 := uN σ 5 (nI (cdFit sv r))) (lv2 := [(0, .ref ((xK X).2.2 27)), (1, .int (nI (tn r)))]) (st2 := []) rfl (congrArg (fun z9 => ([(0, .ref ((xK X).2.2 27)), (1, .int z9)] : List (Nat × Value))) tr.1) rfl ?_
        refine g_iconst (v := nI 0) C dX7_fit_39 (by decide +kernel) ?_
        refine g_istore_n (lv' := [(2, .int (nI 0)), (0, .ref ((xK X).2.2 27)), (1, .int (nI (tn r)))]) C dX7_fit_40 rfl (by decide) rfl ?_
        refine g_eq (σ2 := uF (uN σ 5 (nI (cdFit sv r))) 32 (fiM H σ 0)) (lv2 := [(2, .int (nI 0)), (0, .ref ((xK X).2.2 27)), (1, .int (nI (tn r)))]) (st2 := []) ((uF_self (uN σ 5 (nI (cdFit sv r))) 32).symm) rfl rfl ?_
        have loop41 : ∀ (r9 : Nat) (k : Nat), tn r - k < r9 → (k ≤ tn r) → G X 7 0 0 (uF (uN σ 5 (nI (cdFit sv r))) 32 (fiM H σ k)) [(0, .ref ((xK X).2.2 27)), (1, .int (nI (tn r))), (2, .int (nI k))] 41 [] := by
          intro r9
          induction r9 with
          | zero => intro k h9; exact absurd h9 (Nat.not_lt_zero _)
          | succ r9 ih41 =>
            intro k hm41 hk
            have hlk := fiM_ok hp hP hr hl k
            refine g_iload_n C dX7_fit_41 2 rfl rfl ?_
            refine g_iload_n C dX7_fit_42 1 rfl rfl ?_
            refine g_icmp_ge (tgt := 131) C dX7_fit_43 (by decide) (fun c_43 => ?_) (fun c_43 => ?_)
            · have hke : k = tn r := by
                have h9 := (nI_leI (by  omega) (by  omega)).mp c_43
                omega
              have hlf := fiM_ok hp hP hr hl (tn r)
              refine g_eq (σ2 := uF (uN σ 5 (nI (cdFit sv r))) 32 (fiM H σ (tn r))) (lv2 := [(0, .ref ((xK X).2.2 27)), (1, .int (nI (tn r))), (2, .int (nI k))]) (st2 := []) (by rw [hke]) rfl rfl ?_
              refine g_dconst0 C dX7_fit_131 ?_
              refine g_dstore_n (lv' := [(2, .double FP.dconst0), (0, .ref ((xK X).2.2 27)), (1, .int (nI (tn r)))]) C dX7_fit_132 rfl (by decide) rfl ?_
              refine g_iconst (v := nI 0) C dX7_fit_133 (by decide +kernel) ?_
              refine g_istore (lv' := [(4, .int (nI 0)), (2, .double FP.dconst0), (0, .ref ((xK X).2.2 27)), (1, .int (nI (tn r)))]) C dX7_fit_134 (by decide) rfl ?_
              have loop136 : ∀ (r9 : Nat) (d : Nat), pD H - d < r9 → (d ≤ pD H) → G X 7 0 0 (uF (uN σ 5 (nI (cdFit sv r))) 32 (fiM H σ (tn r))) [(0, .ref ((xK X).2.2 27)), (1, .int (nI (tn r))), (2, .double (accF FP.dconst0 (irM σ) (fun d => FP.dmul (msV H (sF σ 40) (sF σ 34) (fiM H σ (tn r)) d) (msV H (sF σ 40) (sF σ 34) (fiM H σ (tn r)) d)) d)), (4, .int (nI d))] 136 [] := by
                intro r9
                induction r9 with
                | zero => intro d h9; exact absurd h9 (Nat.not_lt_zero _)
                | succ r9 ih136 =>
                  intro d hm136 hd
                  refine g_iload C dX7_fit_136 3 rfl ?_
                  refine g_aload_n C dX7_fit_138 0 rfl rfl ?_
                  refine g_get C dX7_fit_139 wl27 rfl 2 (by decide) 3 rfl rfl rfl inX7_fit_X7 ?_
                  refine g_topi (y := nI (pD H)) hM.nd ?_
                  refine g_icmp_ge (tgt := 214) C dX7_fit_142 (by decide) (fun c_142 => ?_) (fun c_142 => ?_)
                  · have hde : d = pD H := by
                      have h9 := (nI_leI (by  omega) (by  omega)).mp c_142
                      omega
                    refine g_dload_n C dX7_fit_214 2 rfl rfl ?_
                    refine g_dret C dX7_fit_215 rfl ⟨Nat.le_of_ble_eq_true rfl, Nat.le_of_ble_eq_true rfl⟩ ?_
                    rw [hF]
                    exact ⟨fun h => absurd hc0 h, fun _ => ⟨by rw [hde]; rfl, by rw [hc0]⟩⟩
                  · have hdt : d < pD H := by
                      refine Nat.lt_of_not_le fun h => c_142 ?_
                      exact (nI_leI (by  omega) (by  omega)).mpr (by omega)
                    refine g_aload_n C dX7_fit_145 0 rfl rfl ?_
                    refine g_get C dX7_fit_146 wl27 rfl 8 (by decide) 4 rfl rfl rfl inX7_fit_X7 ?_
                    refine g_iload C dX7_fit_149 3 rfl ?_
                    refine g_zald (j := d) C dX7_fit_151 wl33 rfl (by omega) (by decide) ?_
                    refine g_if_eq (tgt := 183) C dX7_fit_152 (by decide) (fun c_152 => ?_) (fun c_152 => ?_)
                    · refine g_dconst0 C dX7_fit_183 ?_
                      refine g_dstore (lv' := [(5, .double FP.dconst0), (0, .ref ((xK X).2.2 27)), (1, .int (nI (tn r))), (2, .double (accF FP.dconst0 (irM σ) (fun d => FP.dmul (msV H (sF σ 40) (sF σ 34) (fiM H σ (tn r)) d) (msV H (sF σ 40) (sF σ 34) (fiM H σ (tn r)) d)) d)), (4, .int (nI d))]) C dX7_fit_184 (by decide) rfl ?_
                      refine g_aload_n C dX7_fit_186 1 rfl rfl ?_
                      refine g_get C dX7_fit_187 wl27 rfl 8 (by decide) 4 rfl rfl rfl inX7_fit_X7 ?_
                      refine g_iload C dX7_fit_190 4 rfl ?_
                      refine g_zald (j := d) C dX7_fit_192 wl33 rfl (by omega) (by decide) ?_
                      refine g_if_eq (tgt := 206) C dX7_fit_193 (by decide) (fun c_193 => ?_) (fun c_193 => ?_)
                      · have hb : irM σ d = false := decide_eq_false (fun h => h c_193)
                        refine g_dload_n C dX7_fit_206 3 rfl rfl ?_
                        refine g_topd (y := accF FP.dconst0 (irM σ) (fun d => FP.dmul (msV H (sF σ 40) (sF σ 34) (fiM H σ (tn r)) d) (msV H (sF σ 40) (sF σ 34) (fiM H σ (tn r)) d)) (d + 1)) ((accF_no (p := irM σ) (g := fun d => FP.dmul (msV H (sF σ 40) (sF σ 34) (fiM H σ (tn r)) d) (msV H (sF σ 40) (sF σ 34) (fiM H σ (tn r)) d)) hb).symm) ?_
                        refine g_dstore_n (lv' := [(2, .double (accF FP.dconst0 (irM σ) (fun d => FP.dmul (msV H (sF σ 40) (sF σ 34) (fiM H σ (tn r)) d) (msV H (sF σ 40) (sF σ 34) (fiM H σ (tn r)) d)) (d + 1))), (5, .double FP.dconst0), (0, .ref ((xK X).2.2 27)), (1, .int (nI (tn r))), (4, .int (nI d))]) C dX7_fit_207 rfl (by decide) rfl ?_
                        refine g_iinc (v := nI (d + 1)) (lv' := [(4, .int (nI (d + 1))), (2, .double (accF FP.dconst0 (irM σ) (fun d => FP.dmul (msV H (sF σ 40) (sF σ 34) (fiM H σ (tn r)) d) (msV H (sF σ 40) (sF σ 34) (fiM H σ (tn r)) d)) (d + 1))), (5, .double FP.dconst0), (0, .ref ((xK X).2.2 27)), (1, .int (nI (tn r)))]) C dX7_fit_208 4 rfl (nI_1 d) (by decide) rfl ?_
                        refine g_goto (tgt := 136) C dX7_fit_211 (by decide) ?_
                        refine g_lv [3, 4, 1, 0] rfl ?_
                        exact ih136 (d + 1) (by omega) (by omega)
                      · have hb : irM σ d = true := decide_eq_true c_193
                        refine g_dload_n C dX7_fit_196 3 rfl rfl ?_
                        refine g_dload C dX7_fit_197 0 rfl ?_
                        refine g_dload C dX7_fit_199 0 rfl ?_
                        refine g_dmul C dX7_fit_201 (absurd c_152 c_193) ?_
                        refine g_dadd C dX7_fit_202 (absurd c_152 c_193) ?_
                        refine g_goto (tgt := 207) C dX7_fit_203 (by decide) ?_
                        refine g_topd (y := accF FP.dconst0 (irM σ) (fun d => FP.dmul (msV H (sF σ 40) (sF σ 34) (fiM H σ (tn r)) d) (msV H (sF σ 40) (sF σ 34) (fiM H σ (tn r)) d)) (d + 1)) (absurd c_152 c_193) ?_
                        refine g_dstore_n (lv' := [(2, .double (accF FP.dconst0 (irM σ) (fun d => FP.dmul (msV H (sF σ 40) (sF σ 34) (fiM H σ (tn r)) d) (msV H (sF σ 40) (sF σ 34) (fiM H σ (tn r)) d)) (d + 1))), (5, .double FP.dconst0), (0, .ref ((xK X).2.2 27)), (1, .int (nI (tn r))), (4, .int (nI d))]) C dX7_fit_207 rfl (by decide) rfl ?_
                        refine g_iinc (v := nI (d + 1)) (lv' := [(4, .int (nI (d + 1))), (2, .double (accF FP.dconst0 (irM σ) (fun d => FP.dmul (msV H (sF σ 40) (sF σ 34) (fiM H σ (tn r)) d) (msV H (sF σ 40) (sF σ 34) (fiM H σ (tn r)) d)) (d + 1))), (5, .double FP.dconst0), (0, .ref ((xK X).2.2 27)), (1, .int (nI (tn r)))]) C dX7_fit_208 4 rfl (nI_1 d) (by decide) rfl ?_
                        refine g_goto (tgt := 136) C dX7_fit_211 (by decide) ?_
                        refine g_lv [3, 4, 1, 0] rfl ?_
                        exact ih136 (d + 1) (by omega) (by omega)
                    · have ha : irM σ d = true := decide_eq_true c_152
                      have hmb := fun (i : Nat) (hi : irM σ i = true) => ms_B hp (rd := sF σ 34) (lk := (fiM H σ (tn r))) hP (hr i hi).1 (hr i hi).2 (hlf i)
                      have hms := hmb d ha
                      have hm : ∀ i, i < pD H → irM σ i = true → Bd 74 (FP.dmul (msV H (sF σ 40) (sF σ 34) (fiM H σ (tn r)) i) (msV H (sF σ 40) (sF σ 34) (fiM H σ (tn r)) i)) := fun i _ hi => (hmb i hi).2.mul (hmb i hi).2 (by decide)
                      refine g_aload_n C dX7_fit_155 0 rfl rfl ?_
                      refine g_get C dX7_fit_156 wl27 rfl 9 (by decide) 6 rfl rfl rfl inX7_fit_X7 ?_
                      refine g_iload C dX7_fit_159 3 rfl ?_
                      refine g_dald (j := d) C dX7_fit_161 wl34 rfl (by omega) (by decide) ?_
                      refine g_aload_n C dX7_fit_162 0 rfl rfl ?_
                      refine g_iload C dX7_fit_163 3 rfl ?_
                      refine g_callV (As := [.int (nI d)]) (rest := [.double (sF (uF (uN σ 5 (nI (cdFit sv r))) 32 (fiM H σ (tn r))) 34 d)]) C dX7_fit_165 (kX7_flowOf (xl X) (xK X) C.hD (uF (uN σ 5 (nI (cdFit sv r))) 32 (fiM H σ (tn r))) hM hp hP hdt) wl27 rfl 1 gX7_fit_X7_flowOf rfl (by decide +kernel) ⟨Nat.le_of_ble_eq_true rfl, Nat.le_of_ble_eq_true rfl⟩ ⟨Nat.le_of_ble_eq_true rfl, Nat.le_of_ble_eq_true rfl⟩ rfl rfl (Nat.le_of_ble_eq_true rfl) (fun rv9 σ9 h9 => ?_)
                      obtain ⟨h9a, h9b⟩ := h9
                      refine g_eq (σ2 := uF (uN σ 5 (nI (cdFit sv r))) 32 (fiM H σ (tn r))) (lv2 := [(0, .ref ((xK X).2.2 27)), (1, .int (nI (tn r))), (2, .double (accF FP.dconst0 (irM σ) (fun d => FP.dmul (msV H (sF σ 40) (sF σ 34) (fiM H σ (tn r)) d) (msV H (sF σ 40) (sF σ 34) (fiM H σ (tn r)) d)) d)), (4, .int (nI d))]) (st2 := [.double (flw H (sF σ 40) d), .double (sF (uF (uN σ 5 (nI (cdFit sv r))) 32 (fiM H σ (tn r))) 34 d)]) h9b rfl (by rw [h9a]; rfl) ?_
                      refine g_callS (As := [.double (flw H (sF σ 40) d)]) (rest := [.double (sF (uF (uN σ 5 (nI (cdFit sv r))) 32 (fiM H σ (tn r))) 34 d)]) C dX7_fit_168 (kX7_sizeOf (xl X) (xK X) C.hD (uF (uN σ 5 (nI (cdFit sv r))) 32 (fiM H σ (tn r))) _) 1 gX7_fit_X7_sizeOf rfl (by decide +kernel) ⟨Nat.le_of_ble_eq_true rfl, Nat.le_of_ble_eq_true rfl⟩ ⟨Nat.le_of_ble_eq_true rfl, Nat.le_of_ble_eq_true rfl⟩ rfl rfl (Nat.le_of_ble_eq_true rfl) (fun rv9 σ9 h9 => ?_)
                      obtain ⟨h9a, h9b⟩ := h9
                      refine g_eq (σ2 := uF (uN σ 5 (nI (cdFit sv r))) 32 (fiM H σ (tn r))) (lv2 := [(0, .ref ((xK X).2.2 27)), (1, .int (nI (tn r))), (2, .double (accF FP.dconst0 (irM σ) (fun d => FP.dmul (msV H (sF σ 40) (sF σ 34) (fiM H σ (tn r)) d) (msV H (sF σ 40) (sF σ 34) (fiM H σ (tn r)) d)) d)), (4, .int (nI d))]) (st2 := [.double (mg (flw H (sF σ 40) d)), .double (sF (uF (uN σ 5 (nI (cdFit sv r))) 32 (fiM H σ (tn r))) 34 d)]) h9b rfl (by rw [h9a]; rfl) ?_
                      refine g_dsub C dX7_fit_171 hms.1.F.ok ?_
                      refine g_aload_n C dX7_fit_172 0 rfl rfl ?_
                      refine g_get C dX7_fit_173 wl27 rfl 7 (by decide) 5 rfl rfl rfl inX7_fit_X7 ?_
                      refine g_iload C dX7_fit_176 3 rfl ?_
                      refine g_dald (j := d) C dX7_fit_178 wl32 rfl (by omega) (by decide) ?_
                      refine g_dsub C dX7_fit_179 hms.2.F.ok ?_
                      refine g_goto (tgt := 184) C dX7_fit_180 (by decide) ?_
                      refine g_topd (y := msV H (sF σ 40) (sF σ 34) (fiM H σ (tn r)) d) rfl ?_
                      refine g_dstore (lv' := [(5, .double (msV H (sF σ 40) (sF σ 34) (fiM H σ (tn r)) d)), (0, .ref ((xK X).2.2 27)), (1, .int (nI (tn r))), (2, .double (accF FP.dconst0 (irM σ) (fun d => FP.dmul (msV H (sF σ 40) (sF σ 34) (fiM H σ (tn r)) d) (msV H (sF σ 40) (sF σ 34) (fiM H σ (tn r)) d)) d)), (4, .int (nI d))]) C dX7_fit_184 (by decide) rfl ?_
                      refine g_aload_n C dX7_fit_186 1 rfl rfl ?_
                      refine g_get C dX7_fit_187 wl27 rfl 8 (by decide) 4 rfl rfl rfl inX7_fit_X7 ?_
                      refine g_iload C dX7_fit_190 4 rfl ?_
                      refine g_zald (j := d) C dX7_fit_192 wl33 rfl (by omega) (by decide) ?_
                      refine g_if_eq (tgt := 206) C dX7_fit_193 (by decide) (fun c_193 => ?_) (fun c_193 => ?_)
                      · have hb : irM σ d = false := decide_eq_false (fun h => h c_193)
                        refine g_dload_n C dX7_fit_206 3 rfl rfl ?_
                        refine g_topd (y := accF FP.dconst0 (irM σ) (fun d => FP.dmul (msV H (sF σ 40) (sF σ 34) (fiM H σ (tn r)) d) (msV H (sF σ 40) (sF σ 34) (fiM H σ (tn r)) d)) (d + 1)) ((accF_no (p := irM σ) (g := fun d => FP.dmul (msV H (sF σ 40) (sF σ 34) (fiM H σ (tn r)) d) (msV H (sF σ 40) (sF σ 34) (fiM H σ (tn r)) d)) hb).symm) ?_
                        refine g_dstore_n (lv' := [(2, .double (accF FP.dconst0 (irM σ) (fun d => FP.dmul (msV H (sF σ 40) (sF σ 34) (fiM H σ (tn r)) d) (msV H (sF σ 40) (sF σ 34) (fiM H σ (tn r)) d)) (d + 1))), (5, .double (msV H (sF σ 40) (sF σ 34) (fiM H σ (tn r)) d)), (0, .ref ((xK X).2.2 27)), (1, .int (nI (tn r))), (4, .int (nI d))]) C dX7_fit_207 rfl (by decide) rfl ?_
                        refine g_iinc (v := nI (d + 1)) (lv' := [(4, .int (nI (d + 1))), (2, .double (accF FP.dconst0 (irM σ) (fun d => FP.dmul (msV H (sF σ 40) (sF σ 34) (fiM H σ (tn r)) d) (msV H (sF σ 40) (sF σ 34) (fiM H σ (tn r)) d)) (d + 1))), (5, .double (msV H (sF σ 40) (sF σ 34) (fiM H σ (tn r)) d)), (0, .ref ((xK X).2.2 27)), (1, .int (nI (tn r)))]) C dX7_fit_208 4 rfl (nI_1 d) (by decide) rfl ?_
                        refine g_goto (tgt := 136) C dX7_fit_211 (by decide) ?_
                        refine g_lv [3, 4, 1, 0] rfl ?_
                        exact ih136 (d + 1) (by omega) (by omega)
                      · have hb : irM σ d = true := decide_eq_true c_193
                        refine g_dload_n C dX7_fit_196 3 rfl rfl ?_
                        refine g_dload C dX7_fit_197 0 rfl ?_
                        refine g_dload C dX7_fit_199 0 rfl ?_
                        refine g_dmul C dX7_fit_201 ((hm d hdt hb).F.ok) ?_
                        refine g_dadd C dX7_fit_202 (accF_ok (d0_B 74) (n := pD H) (by omega) hdt (p := irM σ) (g := fun d => FP.dmul (msV H (sF σ 40) (sF σ 34) (fiM H σ (tn r)) d) (msV H (sF σ 40) (sF σ 34) (fiM H σ (tn r)) d)) hm hb) ?_
                        refine g_goto (tgt := 207) C dX7_fit_203 (by decide) ?_
                        refine g_topd (y := accF FP.dconst0 (irM σ) (fun d => FP.dmul (msV H (sF σ 40) (sF σ 34) (fiM H σ (tn r)) d) (msV H (sF σ 40) (sF σ 34) (fiM H σ (tn r)) d)) (d + 1)) ((accF_yes (p := irM σ) (g := fun d => FP.dmul (msV H (sF σ 40) (sF σ 34) (fiM H σ (tn r)) d) (msV H (sF σ 40) (sF σ 34) (fiM H σ (tn r)) d)) hb).symm) ?_
                        refine g_dstore_n (lv' := [(2, .double (accF FP.dconst0 (irM σ) (fun d => FP.dmul (msV H (sF σ 40) (sF σ 34) (fiM H σ (tn r)) d) (msV H (sF σ 40) (sF σ 34) (fiM H σ (tn r)) d)) (d + 1))), (5, .double (msV H (sF σ 40) (sF σ 34) (fiM H σ (tn r)) d)), (0, .ref ((xK X).2.2 27)), (1, .int (nI (tn r))), (4, .int (nI d))]) C dX7_fit_207 rfl (by decide) rfl ?_
                        refine g_iinc (v := nI (d + 1)) (lv' := [(4, .int (nI (d + 1))), (2, .double (accF FP.dconst0 (irM σ) (fun d => FP.dmul (msV H (sF σ 40) (sF σ 34) (fiM H σ (tn r)) d) (msV H (sF σ 40) (sF σ 34) (fiM H σ (tn r)) d)) (d + 1))), (5, .double (msV H (sF σ 40) (sF σ 34) (fiM H σ (tn r)) d)), (0, .ref ((xK X).2.2 27)), (1, .int (nI (tn r)))]) C dX7_fit_208 4 rfl (nI_1 d) (by decide) rfl ?_
                        refine g_goto (tgt := 136) C dX7_fit_211 (by decide) ?_
                        refine g_lv [3, 4, 1, 0] rfl ?_
                        exact ih136 (d + 1) (by omega) (by omega)
              refine g_lv [2, 3, 1, 0] rfl ?_
              exact loop136 (pD H + 1) 0 (by omega) (Nat.zero_le _)
            · have hkt : k < tn r := by
                refine Nat.lt_of_not_le fun h => c_43 ?_
                exact (nI_leI (by  omega) (by  omega)).mpr (by omega)
              refine g_iconst (v := nI 0) C dX7_fit_46 (by decide +kernel) ?_
              refine g_istore_n (lv' := [(3, .int (nI 0)), (0, .ref ((xK X).2.2 27)), (1, .int (nI (tn r))), (2, .int (nI k))]) C dX7_fit_47 rfl (by decide) rfl ?_
              have loop48 : ∀ (r9 : Nat) (d : Nat), pD H - d < r9 → (d ≤ pD H) → G X 7 0 0 (uF (uN σ 5 (nI (cdFit sv r))) 32 (apN H (sF σ 40) (sF σ 34) (irM σ) (fiM H σ k) d)) [(0, .ref ((xK X).2.2 27)), (1, .int (nI (tn r))), (2, .int (nI k)), (3, .int (nI d))] 48 [] := by
                intro r9
                induction r9 with
                | zero => intro d h9; exact absurd h9 (Nat.not_lt_zero _)
                | succ r9 ih48 =>
                  intro d hm48 hd
                  refine g_iload_n C dX7_fit_48 3 rfl rfl ?_
                  refine g_aload_n C dX7_fit_49 0 rfl rfl ?_
                  refine g_get C dX7_fit_50 wl27 rfl 2 (by decide) 3 rfl rfl rfl inX7_fit_X7 ?_
                  refine g_topi (y := nI (pD H)) hM.nd ?_
                  refine g_icmp_ge (tgt := 125) C dX7_fit_53 (by decide) (fun c_53 => ?_) (fun c_53 => ?_)
                  · have hde : d = pD H := by
                      have h9 := (nI_leI (by  omega) (by  omega)).mp c_53
                      omega
                    refine g_eq (σ2 := uF (uN σ 5 (nI (cdFit sv r))) 32 (fiM H σ (k + 1))) (lv2 := [(0, .ref ((xK X).2.2 27)), (1, .int (nI (tn r))), (2, .int (nI k)), (3, .int (nI d))]) (st2 := []) (by rw [hde]; rfl) rfl rfl ?_
                    refine g_iinc (v := nI (k + 1)) (lv' := [(2, .int (nI (k + 1))), (0, .ref ((xK X).2.2 27)), (1, .int (nI (tn r))), (3, .int (nI d))]) C dX7_fit_125 2 rfl (nI_1 k) (by decide) rfl ?_
                    refine g_goto (tgt := 41) C dX7_fit_128 (by decide) ?_
                    refine g_lv [1, 2, 0] rfl ?_
                    exact ih41 (k + 1) (by omega) (by omega)
                  · have hdt : d < pD H := by
                      refine Nat.lt_of_not_le fun h => c_53 ?_
                      exact (nI_leI (by  omega) (by  omega)).mpr (by omega)
                    refine g_aload_n C dX7_fit_56 0 rfl rfl ?_
                    refine g_get C dX7_fit_57 wl27 rfl 8 (by decide) 4 rfl rfl rfl inX7_fit_X7 ?_
                    refine g_iload_n C dX7_fit_60 3 rfl rfl ?_
                    refine g_zald (j := d) C dX7_fit_61 wl33 rfl (by omega) (by decide) ?_
                    refine g_if_eq (tgt := 119) C dX7_fit_62 (by decide) (fun c_62 => ?_) (fun c_62 => ?_)
                    · have hb : irM σ d = false := decide_eq_false (fun h => h c_62)
                      refine g_eq (σ2 := uF (uN σ 5 (nI (cdFit sv r))) 32 (apN H (sF σ 40) (sF σ 34) (irM σ) (fiM H σ k) (d + 1))) (lv2 := [(0, .ref ((xK X).2.2 27)), (1, .int (nI (tn r))), (2, .int (nI k)), (3, .int (nI d))]) (st2 := []) (by first | (rw [apN_yes hb]; exact uF_step _ _ _ _ _) | rw [apN_no hb]) rfl rfl ?_
                      refine g_iinc (v := nI (d + 1)) (lv' := [(3, .int (nI (d + 1))), (0, .ref ((xK X).2.2 27)), (1, .int (nI (tn r))), (2, .int (nI k))]) C dX7_fit_119 3 rfl (nI_1 d) (by decide) rfl ?_
                      refine g_goto (tgt := 48) C dX7_fit_122 (by decide) ?_
                      refine g_lv [1, 2, 3, 0] rfl ?_
                      exact ih48 (d + 1) (by omega) (by omega)
                    · have hb : irM σ d = true := decide_eq_true c_62
                      have hrd := hr d hb
                      have hms := ms_B hp (rd := sF σ 34) (lk := fiM H σ k) hP hdt hrd.2 (hlk d)
                      have hap := ap_ok hp (rd := sF σ 34) (lk := fiM H σ k) hP hrd.1 hrd.2 (hlk d)
                      refine g_aload_n C dX7_fit_65 0 rfl rfl ?_
                      refine g_get C dX7_fit_66 wl27 rfl 7 (by decide) 5 rfl rfl rfl inX7_fit_X7 ?_
                      refine g_iload_n C dX7_fit_69 3 rfl rfl ?_
                      refine g_dald (j := d) C dX7_fit_70 wl32 rfl (by omega) (by decide) ?_
                      refine g_topd (y := fiM H σ k d) (apN_ge (Nat.le_refl _)) ?_
                      refine g_aload_n C dX7_fit_71 0 rfl rfl ?_
                      refine g_get C dX7_fit_72 wl27 rfl 9 (by decide) 6 rfl rfl rfl inX7_fit_X7 ?_
                      refine g_iload_n C dX7_fit_75 3 rfl rfl ?_
                      refine g_dald (j := d) C dX7_fit_76 wl34 rfl (by omega) (by decide) ?_
                      refine g_aload_n C dX7_fit_77 0 rfl rfl ?_
                      refine g_iload_n C dX7_fit_78 3 rfl rfl ?_
                      refine g_callV (As := [.int (nI d)]) (rest := [.double (sF (uF (uN σ 5 (nI (cdFit sv r))) 32 (apN H (sF σ 40) (sF σ 34) (irM σ) (fiM H σ k) d)) 34 d), .double (fiM H σ k d)]) C dX7_fit_79 (kX7_flowOf (xl X) (xK X) C.hD (uF (uN σ 5 (nI (cdFit sv r))) 32 (apN H (sF σ 40) (sF σ 34) (irM σ) (fiM H σ k) d)) hM hp hP hdt) wl27 rfl 1 gX7_fit_X7_flowOf rfl (by decide +kernel) ⟨Nat.le_of_ble_eq_true rfl, Nat.le_of_ble_eq_true rfl⟩ ⟨Nat.le_of_ble_eq_true rfl, Nat.le_of_ble_eq_true rfl⟩ rfl rfl (Nat.le_of_ble_eq_true rfl) (fun rv9 σ9 h9 => ?_)
                      obtain ⟨h9a, h9b⟩ := h9
                      refine g_eq (σ2 := uF (uN σ 5 (nI (cdFit sv r))) 32 (apN H (sF σ 40) (sF σ 34) (irM σ) (fiM H σ k) d)) (lv2 := [(0, .ref ((xK X).2.2 27)), (1, .int (nI (tn r))), (2, .int (nI k)), (3, .int (nI d))]) (st2 := [.double (flw H (sF σ 40) d), .double (sF (uF (uN σ 5 (nI (cdFit sv r))) 32 (apN H (sF σ 40) (sF σ 34) (irM σ) (fiM H σ k) d)) 34 d), .double (fiM H σ k d)]) h9b rfl (by rw [h9a]; rfl) ?_
                      refine g_callS (As := [.double (flw H (sF σ 40) d)]) (rest := [.double (sF (uF (uN σ 5 (nI (cdFit sv r))) 32 (apN H (sF σ 40) (sF σ 34) (irM σ) (fiM H σ k) d)) 34 d), .double (fiM H σ k d)]) C dX7_fit_82 (kX7_sizeOf (xl X) (xK X) C.hD (uF (uN σ 5 (nI (cdFit sv r))) 32 (apN H (sF σ 40) (sF σ 34) (irM σ) (fiM H σ k) d)) _) 1 gX7_fit_X7_sizeOf rfl (by decide +kernel) ⟨Nat.le_of_ble_eq_true rfl, Nat.le_of_ble_eq_true rfl⟩ ⟨Nat.le_of_ble_eq_true rfl, Nat.le_of_ble_eq_true rfl⟩ rfl rfl (Nat.le_of_ble_eq_true rfl) (fun rv9 σ9 h9 => ?_)
                      obtain ⟨h9a, h9b⟩ := h9
                      refine g_eq (σ2 := uF (uN σ 5 (nI (cdFit sv r))) 32 (apN H (sF σ 40) (sF σ 34) (irM σ) (fiM H σ k) d)) (lv2 := [(0, .ref ((xK X).2.2 27)), (1, .int (nI (tn r))), (2, .int (nI k)), (3, .int (nI d))]) (st2 := [.double (mg (flw H (sF σ 40) d)), .double (sF (uF (uN σ 5 (nI (cdFit sv r))) 32 (apN H (sF σ 40) (sF σ 34) (irM σ) (fiM H σ k) d)) 34 d), .double (fiM H σ k d)]) h9b rfl (by rw [h9a]; rfl) ?_
                      refine g_dsub C dX7_fit_85 hms.1.F.ok ?_
                      refine g_aload_n C dX7_fit_86 0 rfl rfl ?_
                      refine g_get C dX7_fit_87 wl27 rfl 7 (by decide) 5 rfl rfl rfl inX7_fit_X7 ?_
                      refine g_iload_n C dX7_fit_90 3 rfl rfl ?_
                      refine g_dald (j := d) C dX7_fit_91 wl32 rfl (by omega) (by decide) ?_
                      refine g_topd (y := fiM H σ k d) (apN_ge (Nat.le_refl _)) ?_
                      refine g_dsub C dX7_fit_92 hms.2.F.ok ?_
                      refine g_topd (y := msV H (sF σ 40) (sF σ 34) (fiM H σ k) d) rfl ?_
                      refine g_ldc2d (v := 4611686018427387904) C dX7_fit_93 7 rfl ?_
                      refine g_ddiv C dX7_fit_96 hap.1.F.ok ?_
                      refine g_dadd C dX7_fit_97 hap.2.1.F.ok ?_
                      refine g_dstore (lv' := [(4, .double (FP.dadd (fiM H σ k d) (FP.ddiv (msV H (sF σ 40) (sF σ 34) (fiM H σ k) d) 4611686018427387904))), (0, .ref ((xK X).2.2 27)), (1, .int (nI (tn r))), (2, .int (nI k)), (3, .int (nI d))]) C dX7_fit_98 (by decide) rfl ?_
                      refine g_aload_n C dX7_fit_100 1 rfl rfl ?_
                      refine g_get C dX7_fit_101 wl27 rfl 7 (by decide) 5 rfl rfl rfl inX7_fit_X7 ?_
                      refine g_iload_n C dX7_fit_104 4 rfl rfl ?_
                      refine g_dload C dX7_fit_105 0 rfl ?_
                      refine g_dconst0 C dX7_fit_107 ?_
                      refine g_dcmp C dX7_fit_108 ?_
                      refine g_if_ge (tgt := 116) C dX7_fit_109 (by decide) (fun c_109 => ?_) (fun c_109 => ?_)
                      · refine g_dload C dX7_fit_116 0 rfl ?_
                        refine g_topd (y := apV H (sF σ 40) (sF σ 34) (fiM H σ k) d) (by unfold apV nb; first | rw [if_pos c_109] | rw [if_neg c_109]) ?_
                        refine g_dast (j := d) (σ' := uF (uF (uN σ 5 (nI (cdFit sv r))) 32 (apN H (sF σ 40) (sF σ 34) (irM σ) (fiM H σ k) d)) 32 (vf_upd (sF (uF (uN σ 5 (nI (cdFit sv r))) 32 (apN H (sF σ 40) (sF σ 34) (irM σ) (fiM H σ k) d)) 32) d (apV H (sF σ 40) (sF σ 34) (fiM H σ k) d))) C dX7_fit_118 wl32 rfl (by omega) (by decide) wsA32 ?_
                        refine g_eq (σ2 := uF (uN σ 5 (nI (cdFit sv r))) 32 (apN H (sF σ 40) (sF σ 34) (irM σ) (fiM H σ k) (d + 1))) (lv2 := [(4, .double (FP.dadd (fiM H σ k d) (FP.ddiv (msV H (sF σ 40) (sF σ 34) (fiM H σ k) d) 4611686018427387904))), (0, .ref ((xK X).2.2 27)), (1, .int (nI (tn r))), (2, .int (nI k)), (3, .int (nI d))]) (st2 := []) (by first | (rw [apN_yes hb]; exact uF_step _ _ _ _ _) | rw [apN_no hb]) rfl rfl ?_
                        refine g_iinc (v := nI (d + 1)) (lv' := [(3, .int (nI (d + 1))), (4, .double (FP.dadd (fiM H σ k d) (FP.ddiv (msV H (sF σ 40) (sF σ 34) (fiM H σ k) d) 4611686018427387904))), (0, .ref ((xK X).2.2 27)), (1, .int (nI (tn r))), (2, .int (nI k))]) C dX7_fit_119 4 rfl (nI_1 d) (by decide) rfl ?_
                        refine g_goto (tgt := 48) C dX7_fit_122 (by decide) ?_
                        refine g_lv [2, 3, 4, 0] rfl ?_
                        exact ih48 (d + 1) (by omega) (by omega)
                      · refine g_dconst0 C dX7_fit_112 ?_
                        refine g_goto (tgt := 118) C dX7_fit_113 (by decide) ?_
                        refine g_topd (y := apV H (sF σ 40) (sF σ 34) (fiM H σ k) d) (by unfold apV nb; first | rw [if_pos c_109] | rw [if_neg c_109]) ?_
                        refine g_dast (j := d) (σ' := uF (uF (uN σ 5 (nI (cdFit sv r))) 32 (apN H (sF σ 40) (sF σ 34) (irM σ) (fiM H σ k) d)) 32 (vf_upd (sF (uF (uN σ 5 (nI (cdFit sv r))) 32 (apN H (sF σ 40) (sF σ 34) (irM σ) (fiM H σ k) d)) 32) d (apV H (sF σ 40) (sF σ 34) (fiM H σ k) d))) C dX7_fit_118 wl32 rfl (by omega) (by decide) wsA32 ?_
                        refine g_eq (σ2 := uF (uN σ 5 (nI (cdFit sv r))) 32 (apN H (sF σ 40) (sF σ 34) (irM σ) (fiM H σ k) (d + 1))) (lv2 := [(4, .double (FP.dadd (fiM H σ k d) (FP.ddiv (msV H (sF σ 40) (sF σ 34) (fiM H σ k) d) 4611686018427387904))), (0, .ref ((xK X).2.2 27)), (1, .int (nI (tn r))), (2, .int (nI k)), (3, .int (nI d))]) (st2 := []) (by first | (rw [apN_yes hb]; exact uF_step _ _ _ _ _) | rw [apN_no hb]) rfl rfl ?_
                        refine g_iinc (v := nI (d + 1)) (lv' := [(3, .int (nI (d + 1))), (4, .double (FP.dadd (fiM H σ k d) (FP.ddiv (msV H (sF σ 40) (sF σ 34) (fiM H σ k) d) 4611686018427387904))), (0, .ref ((xK X).2.2 27)), (1, .int (nI (tn r))), (2, .int (nI k))]) C dX7_fit_119 4 rfl (nI_1 d) (by decide) rfl ?_
                        refine g_goto (tgt := 48) C dX7_fit_122 (by decide) ?_
                        refine g_lv [2, 3, 4, 0] rfl ?_
                        exact ih48 (d + 1) (by omega) (by omega)
              refine g_lv [1, 2, 3, 0] rfl ?_
              exact loop48 (pD H + 1) 0 (by omega) (Nat.zero_le _)
        refine g_lv [1, 2, 0] rfl ?_
        exact loop41 (tn r + 1) 0 (by omega) (Nat.zero_le _)
      · have hc1 : cdFit sv r ≠ 0 := fun h => c_34 (by rw [h]; decide)
        refine g_dconst0 C dX7_fit_37 ?_
        refine g_dret C dX7_fit_38 rfl ⟨Nat.le_of_ble_eq_true rfl, Nat.le_of_ble_eq_true rfl⟩ ?_
        rw [hF]
        exact ⟨fun _ => ⟨rfl, rfl⟩, fun h => absurd h hc1⟩
  · have hcd : cdFit sv r = 1 := if_pos (fun h => by
      have h9 := (bI_ne _).mp c_8
      rw [inB_50.mpr h] at h9
      cases h9)
    refine g_iconst (v := nI 1) C dX7_fit_11 (by decide +kernel) ?_
    refine g_goto (tgt := 27) C dX7_fit_12 (by decide) ?_
    refine g_topi (y := nI (cdFit sv r)) (by rw [hcd]) ?_
    refine g_put (σ' := uN σ 5 (nI (cdFit sv r))) (ty := .int) C dX7_fit_27 wl27 rfl 0 (by decide) 2 rfl rfl inX7_fit_X7 tyX7_ok nmX7 rfl (by decide +kernel) rfl rfl (Nat.le_of_ble_eq_true rfl) wsN5 ?_
    refine g_aload_n C dX7_fit_30 0 rfl rfl ?_
    refine g_get C dX7_fit_31 wl27 rfl 0 (by decide) 2 rfl rfl rfl inX7_fit_X7 ?_
    refine g_topi (y := nI (cdFit sv r)) rfl ?_
    refine g_if_le (tgt := 39) C dX7_fit_34 (by decide) (fun c_34 => ?_) (fun c_34 => ?_)
    · have hc0 : cdFit sv r = 0 := nI_le0 (by omega) c_34
      have tr : r = nI (tn r) ∧ tn r ≤ 50 := by
        obtain ⟨j, hj, e⟩ := nI_of2 (n := 50) (by decide) (cdFit_0 hc0).1.1 (cdFit_0 hc0).1.2
        have : tn r = j := by rw [e]; exact tn_nI (by omega)
        rw [this]
        exact ⟨e, hj⟩
      have tr2 := tr.2
      refine g_eq (σ2 := uN σ 5 (nI (cdFit sv r))) (lv2 := [(0, .ref ((xK X).2.2 27)), (1, .int (nI (tn r)))]) (st2 := []) rfl (congrArg (fun z9 => ([(0, .ref ((xK X).2.2 27)), (1, .int z9)] : List (Nat × Value))) tr.1) rfl ?_
      refine g_iconst (v := nI 0) C dX7_fit_39 (by decide +kernel) ?_
      refine g_istore_n (lv' := [(2, .int (nI 0)), (0, .ref ((xK X).2.2 27)), (1, .int (nI (tn r)))]) C dX7_fit_40 rfl (by decide) rfl ?_
      refine g_eq (σ2 := uF (uN σ 5 (nI (cdFit sv r))) 32 (fiM H σ 0)) (lv2 := [(2, .int (nI 0)), (0, .ref ((xK X).2.2 27)), (1, .int (nI (tn r)))]) (st2 := []) ((uF_self (uN σ 5 (nI (cdFit sv r))) 32).symm) rfl rfl ?_
      have loop41 : ∀ (r9 : Nat) (k : Nat), tn r - k < r9 → (k ≤ tn r) → G X 7 0 0 (uF (uN σ 5 (nI (cdFit sv r))) 32 (fiM H σ k)) [(0, .ref ((xK X).2.2 27)), (1, .int (nI (tn r))), (2, .int (nI k))] 41 [] := by
        intro r9
        induction r9 with
        | zero => intro k h9; exact absurd h9 (Nat.not_lt_zero _)
        | succ r9 ih41 =>
          intro k hm41 hk
          have hlk := fiM_ok hp hP hr hl k
          refine g_iload_n C dX7_fit_41 2 rfl rfl ?_
          refine g_iload_n C dX7_fit_42 1 rfl rfl ?_
          refine g_icmp_ge (tgt := 131) C dX7_fit_43 (by decide) (fun c_43 => ?_) (fun c_43 => ?_)
          · have hke : k = tn r := by
              have h9 := (nI_leI (by  omega) (by  omega)).mp c_43
              omega
            have hlf := fiM_ok hp hP hr hl (tn r)
            refine g_eq (σ2 := uF (uN σ 5 (nI (cdFit sv r))) 32 (fiM H σ (tn r))) (lv2 := [(0, .ref ((xK X).2.2 27)), (1, .int (nI (tn r))), (2, .int (nI k))]) (st2 := []) (by rw [hke]) rfl rfl ?_
            refine g_dconst0 C dX7_fit_131 ?_
            refine g_dstore_n (lv' := [(2, .double FP.dconst0), (0, .ref ((xK X).2.2 27)), (1, .int (nI (tn r)))]) C dX7_fit_132 rfl (by decide) rfl ?_
            refine g_iconst (v := nI 0) C dX7_fit_133 (by decide +kernel) ?_
            refine g_istore (lv' := [(4, .int (nI 0)), (2, .double FP.dconst0), (0, .ref ((xK X).2.2 27)), (1, .int (nI (tn r)))]) C dX7_fit_134 (by decide) rfl ?_
            have loop136 : ∀ (r9 : Nat) (d : Nat), pD H - d < r9 → (d ≤ pD H) → G X 7 0 0 (uF (uN σ 5 (nI (cdFit sv r))) 32 (fiM H σ (tn r))) [(0, .ref ((xK X).2.2 27)), (1, .int (nI (tn r))), (2, .double (accF FP.dconst0 (irM σ) (fun d => FP.dmul (msV H (sF σ 40) (sF σ 34) (fiM H σ (tn r)) d) (msV H (sF σ 40) (sF σ 34) (fiM H σ (tn r)) d)) d)), (4, .int (nI d))] 136 [] := by
              intro r9
              induction r9 with
              | zero => intro d h9; exact absurd h9 (Nat.not_lt_zero _)
              | succ r9 ih136 =>
                intro d hm136 hd
                refine g_iload C dX7_fit_136 3 rfl ?_
                refine g_aload_n C dX7_fit_138 0 rfl rfl ?_
                refine g_get C dX7_fit_139 wl27 rfl 2 (by decide) 3 rfl rfl rfl inX7_fit_X7 ?_
                refine g_topi (y := nI (pD H)) hM.nd ?_
                refine g_icmp_ge (tgt := 214) C dX7_fit_142 (by decide) (fun c_142 => ?_) (fun c_142 => ?_)
                · have hde : d = pD H := by
                    have h9 := (nI_leI (by  omega) (by  omega)).mp c_142
                    omega
                  refine g_dload_n C dX7_fit_214 2 rfl rfl ?_
                  refine g_dret C dX7_fit_215 rfl ⟨Nat.le_of_ble_eq_true rfl, Nat.le_of_ble_eq_true rfl⟩ ?_
                  rw [hF]
                  exact ⟨fun h => absurd hc0 h, fun _ => ⟨by rw [hde]; rfl, by rw [hc0]⟩⟩
                · have hdt : d < pD H := by
                    refine Nat.lt_of_not_le fun h => c_142 ?_
                    exact (nI_leI (by  omega) (by  omega)).mpr (by omega)
                  refine g_aload_n C dX7_fit_145 0 rfl rfl ?_
                  refine g_get C dX7_fit_146 wl27 rfl 8 (by decide) 4 rfl rfl rfl inX7_fit_X7 ?_
                  refine g_iload C dX7_fit_149 3 rfl ?_
                  refine g_zald (j := d) C dX7_fit_151 wl33 rfl (by omega) (by decide) ?_
                  refine g_if_eq (tgt := 183) C dX7_fit_152 (by decide) (fun c_152 => ?_) (fun c_152 => ?_)
                  · refine g_dconst0 C dX7_fit_183 ?_
                    refine g_dstore (lv' := [(5, .double FP.dconst0), (0, .ref ((xK X).2.2 27)), (1, .int (nI (tn r))), (2, .double (accF FP.dconst0 (irM σ) (fun d => FP.dmul (msV H (sF σ 40) (sF σ 34) (fiM H σ (tn r)) d) (msV H (sF σ 40) (sF σ 34) (fiM H σ (tn r)) d)) d)), (4, .int (nI d))]) C dX7_fit_184 (by decide) rfl ?_
                    refine g_aload_n C dX7_fit_186 1 rfl rfl ?_
                    refine g_get C dX7_fit_187 wl27 rfl 8 (by decide) 4 rfl rfl rfl inX7_fit_X7 ?_
                    refine g_iload C dX7_fit_190 4 rfl ?_
                    refine g_zald (j := d) C dX7_fit_192 wl33 rfl (by omega) (by decide) ?_
                    refine g_if_eq (tgt := 206) C dX7_fit_193 (by decide) (fun c_193 => ?_) (fun c_193 => ?_)
                    · have hb : irM σ d = false := decide_eq_false (fun h => h c_193)
                      refine g_dload_n C dX7_fit_206 3 rfl rfl ?_
                      refine g_topd (y := accF FP.dconst0 (irM σ) (fun d => FP.dmul (msV H (sF σ 40) (sF σ 34) (fiM H σ (tn r)) d) (msV H (sF σ 40) (sF σ 34) (fiM H σ (tn r)) d)) (d + 1)) ((accF_no (p := irM σ) (g := fun d => FP.dmul (msV H (sF σ 40) (sF σ 34) (fiM H σ (tn r)) d) (msV H (sF σ 40) (sF σ 34) (fiM H σ (tn r)) d)) hb).symm) ?_
                      refine g_dstore_n (lv' := [(2, .double (accF FP.dconst0 (irM σ) (fun d => FP.dmul (msV H (sF σ 40) (sF σ 34) (fiM H σ (tn r)) d) (msV H (sF σ 40) (sF σ 34) (fiM H σ (tn r)) d)) (d + 1))), (5, .double FP.dconst0), (0, .ref ((xK X).2.2 27)), (1, .int (nI (tn r))), (4, .int (nI d))]) C dX7_fit_207 rfl (by decide) rfl ?_
                      refine g_iinc (v := nI (d + 1)) (lv' := [(4, .int (nI (d + 1))), (2, .double (accF FP.dconst0 (irM σ) (fun d => FP.dmul (msV H (sF σ 40) (sF σ 34) (fiM H σ (tn r)) d) (msV H (sF σ 40) (sF σ 34) (fiM H σ (tn r)) d)) (d + 1))), (5, .double FP.dconst0), (0, .ref ((xK X).2.2 27)), (1, .int (nI (tn r)))]) C dX7_fit_208 4 rfl (nI_1 d) (by decide) rfl ?_
                      refine g_goto (tgt := 136) C dX7_fit_211 (by decide) ?_
                      refine g_lv [3, 4, 1, 0] rfl ?_
                      exact ih136 (d + 1) (by omega) (by omega)
                    · have hb : irM σ d = true := decide_eq_true c_193
                      refine g_dload_n C dX7_fit_196 3 rfl rfl ?_
                      refine g_dload C dX7_fit_197 0 rfl ?_
                      refine g_dload C dX7_fit_199 0 rfl ?_
                      refine g_dmul C dX7_fit_201 (absurd c_152 c_193) ?_
                      refine g_dadd C dX7_fit_202 (absurd c_152 c_193) ?_
                      refine g_goto (tgt := 207) C dX7_fit_203 (by decide) ?_
                      refine g_topd (y := accF FP.dconst0 (irM σ) (fun d => FP.dmul (msV H (sF σ 40) (sF σ 34) (fiM H σ (tn r)) d) (msV H (sF σ 40) (sF σ 34) (fiM H σ (tn r)) d)) (d + 1)) (absurd c_152 c_193) ?_
                      refine g_dstore_n (lv' := [(2, .double (accF FP.dconst0 (irM σ) (fun d => FP.dmul (msV H (sF σ 40) (sF σ 34) (fiM H σ (tn r)) d) (msV H (sF σ 40) (sF σ 34) (fiM H σ (tn r)) d)) (d + 1))), (5, .double FP.dconst0), (0, .ref ((xK X).2.2 27)), (1, .int (nI (tn r))), (4, .int (nI d))]) C dX7_fit_207 rfl (by decide) rfl ?_
                      refine g_iinc (v := nI (d + 1)) (lv' := [(4, .int (nI (d + 1))), (2, .double (accF FP.dconst0 (irM σ) (fun d => FP.dmul (msV H (sF σ 40) (sF σ 34) (fiM H σ (tn r)) d) (msV H (sF σ 40) (sF σ 34) (fiM H σ (tn r)) d)) (d + 1))), (5, .double FP.dconst0), (0, .ref ((xK X).2.2 27)), (1, .int (nI (tn r)))]) C dX7_fit_208 4 rfl (nI_1 d) (by decide) rfl ?_
                      refine g_goto (tgt := 136) C dX7_fit_211 (by decide) ?_
                      refine g_lv [3, 4, 1, 0] rfl ?_
                      exact ih136 (d + 1) (by omega) (by omega)
                  · have ha : irM σ d = true := decide_eq_true c_152
                    have hmb := fun (i : Nat) (hi : irM σ i = true) => ms_B hp (rd := sF σ 34) (lk := (fiM H σ (tn r))) hP (hr i hi).1 (hr i hi).2 (hlf i)
                    have hms := hmb d ha
                    have hm : ∀ i, i < pD H → irM σ i = true → Bd 74 (FP.dmul (msV H (sF σ 40) (sF σ 34) (fiM H σ (tn r)) i) (msV H (sF σ 40) (sF σ 34) (fiM H σ (tn r)) i)) := fun i _ hi => (hmb i hi).2.mul (hmb i hi).2 (by decide)
                    refine g_aload_n C dX7_fit_155 0 rfl rfl ?_
                    refine g_get C dX7_fit_156 wl27 rfl 9 (by decide) 6 rfl rfl rfl inX7_fit_X7 ?_
                    refine g_iload C dX7_fit_159 3 rfl ?_
                    refine g_dald (j := d) C dX7_fit_161 wl34 rfl (by omega) (by decide) ?_
                    refine g_aload_n C dX7_fit_162 0 rfl rfl ?_
                    refine g_iload C dX7_fit_163 3 rfl ?_
                    refine g_callV (As := [.int (nI d)]) (rest := [.double (sF (uF (uN σ 5 (nI (cdFit sv r))) 32 (fiM H σ (tn r))) 34 d)]) C dX7_fit_165 (kX7_flowOf (xl X) (xK X) C.hD (uF (uN σ 5 (nI (cdFit sv r))) 32 (fiM H σ (tn r))) hM hp hP hdt) wl27 rfl 1 gX7_fit_X7_flowOf rfl (by decide +kernel) ⟨Nat.le_of_ble_eq_true rfl, Nat.le_of_ble_eq_true rfl⟩ ⟨Nat.le_of_ble_eq_true rfl, Nat.le_of_ble_eq_true rfl⟩ rfl rfl (Nat.le_of_ble_eq_true rfl) (fun rv9 σ9 h9 => ?_)
                    obtain ⟨h9a, h9b⟩ := h9
                    refine g_eq (σ2 := uF (uN σ 5 (nI (cdFit sv r))) 32 (fiM H σ (tn r))) (lv2 := [(0, .ref ((xK X).2.2 27)), (1, .int (nI (tn r))), (2, .double (accF FP.dconst0 (irM σ) (fun d => FP.dmul (msV H (sF σ 40) (sF σ 34) (fiM H σ (tn r)) d) (msV H (sF σ 40) (sF σ 34) (fiM H σ (tn r)) d)) d)), (4, .int (nI d))]) (st2 := [.double (flw H (sF σ 40) d), .double (sF (uF (uN σ 5 (nI (cdFit sv r))) 32 (fiM H σ (tn r))) 34 d)]) h9b rfl (by rw [h9a]; rfl) ?_
                    refine g_callS (As := [.double (flw H (sF σ 40) d)]) (rest := [.double (sF (uF (uN σ 5 (nI (cdFit sv r))) 32 (fiM H σ (tn r))) 34 d)]) C dX7_fit_168 (kX7_sizeOf (xl X) (xK X) C.hD (uF (uN σ 5 (nI (cdFit sv r))) 32 (fiM H σ (tn r))) _) 1 gX7_fit_X7_sizeOf rfl (by decide +kernel) ⟨Nat.le_of_ble_eq_true rfl, Nat.le_of_ble_eq_true rfl⟩ ⟨Nat.le_of_ble_eq_true rfl, Nat.le_of_ble_eq_true rfl⟩ rfl rfl (Nat.le_of_ble_eq_true rfl) (fun rv9 σ9 h9 => ?_)
                    obtain ⟨h9a, h9b⟩ := h9
                    refine g_eq (σ2 := uF (uN σ 5 (nI (cdFit sv r))) 32 (fiM H σ (tn r))) (lv2 := [(0, .ref ((xK X).2.2 27)), (1, .int (nI (tn r))), (2, .double (accF FP.dconst0 (irM σ) (fun d => FP.dmul (msV H (sF σ 40) (sF σ 34) (fiM H σ (tn r)) d) (msV H (sF σ 40) (sF σ 34) (fiM H σ (tn r)) d)) d)), (4, .int (nI d))]) (st2 := [.double (mg (flw H (sF σ 40) d)), .double (sF (uF (uN σ 5 (nI (cdFit sv r))) 32 (fiM H σ (tn r))) 34 d)]) h9b rfl (by rw [h9a]; rfl) ?_
                    refine g_dsub C dX7_fit_171 hms.1.F.ok ?_
                    refine g_aload_n C dX7_fit_172 0 rfl rfl ?_
                    refine g_get C dX7_fit_173 wl27 rfl 7 (by decide) 5 rfl rfl rfl inX7_fit_X7 ?_
                    refine g_iload C dX7_fit_176 3 rfl ?_
                    refine g_dald (j := d) C dX7_fit_178 wl32 rfl (by omega) (by decide) ?_
                    refine g_dsub C dX7_fit_179 hms.2.F.ok ?_
                    refine g_goto (tgt := 184) C dX7_fit_180 (by decide) ?_
                    refine g_topd (y := msV H (sF σ 40) (sF σ 34) (fiM H σ (tn r)) d) rfl ?_
                    refine g_dstore (lv' := [(5, .double (msV H (sF σ 40) (sF σ 34) (fiM H σ (tn r)) d)), (0, .ref ((xK X).2.2 27)), (1, .int (nI (tn r))), (2, .double (accF FP.dconst0 (irM σ) (fun d => FP.dmul (msV H (sF σ 40) (sF σ 34) (fiM H σ (tn r)) d) (msV H (sF σ 40) (sF σ 34) (fiM H σ (tn r)) d)) d)), (4, .int (nI d))]) C dX7_fit_184 (by decide) rfl ?_
                    refine g_aload_n C dX7_fit_186 1 rfl rfl ?_
                    refine g_get C dX7_fit_187 wl27 rfl 8 (by decide) 4 rfl rfl rfl inX7_fit_X7 ?_
                    refine g_iload C dX7_fit_190 4 rfl ?_
                    refine g_zald (j := d) C dX7_fit_192 wl33 rfl (by omega) (by decide) ?_
                    refine g_if_eq (tgt := 206) C dX7_fit_193 (by decide) (fun c_193 => ?_) (fun c_193 => ?_)
                    · have hb : irM σ d = false := decide_eq_false (fun h => h c_193)
                      refine g_dload_n C dX7_fit_206 3 rfl rfl ?_
                      refine g_topd (y := accF FP.dconst0 (irM σ) (fun d => FP.dmul (msV H (sF σ 40) (sF σ 34) (fiM H σ (tn r)) d) (msV H (sF σ 40) (sF σ 34) (fiM H σ (tn r)) d)) (d + 1)) ((accF_no (p := irM σ) (g := fun d => FP.dmul (msV H (sF σ 40) (sF σ 34) (fiM H σ (tn r)) d) (msV H (sF σ 40) (sF σ 34) (fiM H σ (tn r)) d)) hb).symm) ?_
                      refine g_dstore_n (lv' := [(2, .double (accF FP.dconst0 (irM σ) (fun d => FP.dmul (msV H (sF σ 40) (sF σ 34) (fiM H σ (tn r)) d) (msV H (sF σ 40) (sF σ 34) (fiM H σ (tn r)) d)) (d + 1))), (5, .double (msV H (sF σ 40) (sF σ 34) (fiM H σ (tn r)) d)), (0, .ref ((xK X).2.2 27)), (1, .int (nI (tn r))), (4, .int (nI d))]) C dX7_fit_207 rfl (by decide) rfl ?_
                      refine g_iinc (v := nI (d + 1)) (lv' := [(4, .int (nI (d + 1))), (2, .double (accF FP.dconst0 (irM σ) (fun d => FP.dmul (msV H (sF σ 40) (sF σ 34) (fiM H σ (tn r)) d) (msV H (sF σ 40) (sF σ 34) (fiM H σ (tn r)) d)) (d + 1))), (5, .double (msV H (sF σ 40) (sF σ 34) (fiM H σ (tn r)) d)), (0, .ref ((xK X).2.2 27)), (1, .int (nI (tn r)))]) C dX7_fit_208 4 rfl (nI_1 d) (by decide) rfl ?_
                      refine g_goto (tgt := 136) C dX7_fit_211 (by decide) ?_
                      refine g_lv [3, 4, 1, 0] rfl ?_
                      exact ih136 (d + 1) (by omega) (by omega)
                    · have hb : irM σ d = true := decide_eq_true c_193
                      refine g_dload_n C dX7_fit_196 3 rfl rfl ?_
                      refine g_dload C dX7_fit_197 0 rfl ?_
                      refine g_dload C dX7_fit_199 0 rfl ?_
                      refine g_dmul C dX7_fit_201 ((hm d hdt hb).F.ok) ?_
                      refine g_dadd C dX7_fit_202 (accF_ok (d0_B 74) (n := pD H) (by omega) hdt (p := irM σ) (g := fun d => FP.dmul (msV H (sF σ 40) (sF σ 34) (fiM H σ (tn r)) d) (msV H (sF σ 40) (sF σ 34) (fiM H σ (tn r)) d)) hm hb) ?_
                      refine g_goto (tgt := 207) C dX7_fit_203 (by decide) ?_
                      refine g_topd (y := accF FP.dconst0 (irM σ) (fun d => FP.dmul (msV H (sF σ 40) (sF σ 34) (fiM H σ (tn r)) d) (msV H (sF σ 40) (sF σ 34) (fiM H σ (tn r)) d)) (d + 1)) ((accF_yes (p := irM σ) (g := fun d => FP.dmul (msV H (sF σ 40) (sF σ 34) (fiM H σ (tn r)) d) (msV H (sF σ 40) (sF σ 34) (fiM H σ (tn r)) d)) hb).symm) ?_
                      refine g_dstore_n (lv' := [(2, .double (accF FP.dconst0 (irM σ) (fun d => FP.dmul (msV H (sF σ 40) (sF σ 34) (fiM H σ (tn r)) d) (msV H (sF σ 40) (sF σ 34) (fiM H σ (tn r)) d)) (d + 1))), (5, .double (msV H (sF σ 40) (sF σ 34) (fiM H σ (tn r)) d)), (0, .ref ((xK X).2.2 27)), (1, .int (nI (tn r))), (4, .int (nI d))]) C dX7_fit_207 rfl (by decide) rfl ?_
                      refine g_iinc (v := nI (d + 1)) (lv' := [(4, .int (nI (d + 1))), (2, .double (accF FP.dconst0 (irM σ) (fun d => FP.dmul (msV H (sF σ 40) (sF σ 34) (fiM H σ (tn r)) d) (msV H (sF σ 40) (sF σ 34) (fiM H σ (tn r)) d)) (d + 1))), (5, .double (msV H (sF σ 40) (sF σ 34) (fiM H σ (tn r)) d)), (0, .ref ((xK X).2.2 27)), (1, .int (nI (tn r)))]) C dX7_fit_208 4 rfl (nI_1 d) (by decide) rfl ?_
                      refine g_goto (tgt := 136) C dX7_fit_211 (by decide) ?_
                      refine g_lv [3, 4, 1, 0] rfl ?_
                      exact ih136 (d + 1) (by omega) (by omega)
            refine g_lv [2, 3, 1, 0] rfl ?_
            exact loop136 (pD H + 1) 0 (by omega) (Nat.zero_le _)
          · have hkt : k < tn r := by
              refine Nat.lt_of_not_le fun h => c_43 ?_
              exact (nI_leI (by  omega) (by  omega)).mpr (by omega)
            refine g_iconst (v := nI 0) C dX7_fit_46 (by decide +kernel) ?_
            refine g_istore_n (lv' := [(3, .int (nI 0)), (0, .ref ((xK X).2.2 27)), (1, .int (nI (tn r))), (2, .int (nI k))]) C dX7_fit_47 rfl (by decide) rfl ?_
            have loop48 : ∀ (r9 : Nat) (d : Nat), pD H - d < r9 → (d ≤ pD H) → G X 7 0 0 (uF (uN σ 5 (nI (cdFit sv r))) 32 (apN H (sF σ 40) (sF σ 34) (irM σ) (fiM H σ k) d)) [(0, .ref ((xK X).2.2 27)), (1, .int (nI (tn r))), (2, .int (nI k)), (3, .int (nI d))] 48 [] := by
              intro r9
              induction r9 with
              | zero => intro d h9; exact absurd h9 (Nat.not_lt_zero _)
              | succ r9 ih48 =>
                intro d hm48 hd
                refine g_iload_n C dX7_fit_48 3 rfl rfl ?_
                refine g_aload_n C dX7_fit_49 0 rfl rfl ?_
                refine g_get C dX7_fit_50 wl27 rfl 2 (by decide) 3 rfl rfl rfl inX7_fit_X7 ?_
                refine g_topi (y := nI (pD H)) hM.nd ?_
                refine g_icmp_ge (tgt := 125) C dX7_fit_53 (by decide) (fun c_53 => ?_) (fun c_53 => ?_)
                · have hde : d = pD H := by
                    have h9 := (nI_leI (by  omega) (by  omega)).mp c_53
                    omega
                  refine g_eq (σ2 := uF (uN σ 5 (nI (cdFit sv r))) 32 (fiM H σ (k + 1))) (lv2 := [(0, .ref ((xK X).2.2 27)), (1, .int (nI (tn r))), (2, .int (nI k)), (3, .int (nI d))]) (st2 := []) (by rw [hde]; rfl) rfl rfl ?_
                  refine g_iinc (v := nI (k + 1)) (lv' := [(2, .int (nI (k + 1))), (0, .ref ((xK X).2.2 27)), (1, .int (nI (tn r))), (3, .int (nI d))]) C dX7_fit_125 2 rfl (nI_1 k) (by decide) rfl ?_
                  refine g_goto (tgt := 41) C dX7_fit_128 (by decide) ?_
                  refine g_lv [1, 2, 0] rfl ?_
                  exact ih41 (k + 1) (by omega) (by omega)
                · have hdt : d < pD H := by
                    refine Nat.lt_of_not_le fun h => c_53 ?_
                    exact (nI_leI (by  omega) (by  omega)).mpr (by omega)
                  refine g_aload_n C dX7_fit_56 0 rfl rfl ?_
                  refine g_get C dX7_fit_57 wl27 rfl 8 (by decide) 4 rfl rfl rfl inX7_fit_X7 ?_
                  refine g_iload_n C dX7_fit_60 3 rfl rfl ?_
                  refine g_zald (j := d) C dX7_fit_61 wl33 rfl (by omega) (by decide) ?_
                  refine g_if_eq (tgt := 119) C dX7_fit_62 (by decide) (fun c_62 => ?_) (fun c_62 => ?_)
                  · have hb : irM σ d = false := decide_eq_false (fun h => h c_62)
                    refine g_eq (σ2 := uF (uN σ 5 (nI (cdFit sv r))) 32 (apN H (sF σ 40) (sF σ 34) (irM σ) (fiM H σ k) (d + 1))) (lv2 := [(0, .ref ((xK X).2.2 27)), (1, .int (nI (tn r))), (2, .int (nI k)), (3, .int (nI d))]) (st2 := []) (by first | (rw [apN_yes hb]; exact uF_step _ _ _ _ _) | rw [apN_no hb]) rfl rfl ?_
                    refine g_iinc (v := nI (d + 1)) (lv' := [(3, .int (nI (d + 1))), (0, .ref ((xK X).2.2 27)), (1, .int (nI (tn r))), (2, .int (nI k))]) C dX7_fit_119 3 rfl (nI_1 d) (by decide) rfl ?_
                    refine g_goto (tgt := 48) C dX7_fit_122 (by decide) ?_
                    refine g_lv [1, 2, 3, 0] rfl ?_
                    exact ih48 (d + 1) (by omega) (by omega)
                  · have hb : irM σ d = true := decide_eq_true c_62
                    have hrd := hr d hb
                    have hms := ms_B hp (rd := sF σ 34) (lk := fiM H σ k) hP hdt hrd.2 (hlk d)
                    have hap := ap_ok hp (rd := sF σ 34) (lk := fiM H σ k) hP hrd.1 hrd.2 (hlk d)
                    refine g_aload_n C dX7_fit_65 0 rfl rfl ?_
                    refine g_get C dX7_fit_66 wl27 rfl 7 (by decide) 5 rfl rfl rfl inX7_fit_X7 ?_
                    refine g_iload_n C dX7_fit_69 3 rfl rfl ?_
                    refine g_dald (j := d) C dX7_fit_70 wl32 rfl (by omega) (by decide) ?_
                    refine g_topd (y := fiM H σ k d) (apN_ge (Nat.le_refl _)) ?_
                    refine g_aload_n C dX7_fit_71 0 rfl rfl ?_
                    refine g_get C dX7_fit_72 wl27 rfl 9 (by decide) 6 rfl rfl rfl inX7_fit_X7 ?_
                    refine g_iload_n C dX7_fit_75 3 rfl rfl ?_
                    refine g_dald (j := d) C dX7_fit_76 wl34 rfl (by omega) (by decide) ?_
                    refine g_aload_n C dX7_fit_77 0 rfl rfl ?_
                    refine g_iload_n C dX7_fit_78 3 rfl rfl ?_
                    refine g_callV (As := [.int (nI d)]) (rest := [.double (sF (uF (uN σ 5 (nI (cdFit sv r))) 32 (apN H (sF σ 40) (sF σ 34) (irM σ) (fiM H σ k) d)) 34 d), .double (fiM H σ k d)]) C dX7_fit_79 (kX7_flowOf (xl X) (xK X) C.hD (uF (uN σ 5 (nI (cdFit sv r))) 32 (apN H (sF σ 40) (sF σ 34) (irM σ) (fiM H σ k) d)) hM hp hP hdt) wl27 rfl 1 gX7_fit_X7_flowOf rfl (by decide +kernel) ⟨Nat.le_of_ble_eq_true rfl, Nat.le_of_ble_eq_true rfl⟩ ⟨Nat.le_of_ble_eq_true rfl, Nat.le_of_ble_eq_true rfl⟩ rfl rfl (Nat.le_of_ble_eq_true rfl) (fun rv9 σ9 h9 => ?_)
                    obtain ⟨h9a, h9b⟩ := h9
                    refine g_eq (σ2 := uF (uN σ 5 (nI (cdFit sv r))) 32 (apN H (sF σ 40) (sF σ 34) (irM σ) (fiM H σ k) d)) (lv2 := [(0, .ref ((xK X).2.2 27)), (1, .int (nI (tn r))), (2, .int (nI k)), (3, .int (nI d))]) (st2 := [.double (flw H (sF σ 40) d), .double (sF (uF (uN σ 5 (nI (cdFit sv r))) 32 (apN H (sF σ 40) (sF σ 34) (irM σ) (fiM H σ k) d)) 34 d), .double (fiM H σ k d)]) h9b rfl (by rw [h9a]; rfl) ?_
                    refine g_callS (As := [.double (flw H (sF σ 40) d)]) (rest := [.double (sF (uF (uN σ 5 (nI (cdFit sv r))) 32 (apN H (sF σ 40) (sF σ 34) (irM σ) (fiM H σ k) d)) 34 d), .double (fiM H σ k d)]) C dX7_fit_82 (kX7_sizeOf (xl X) (xK X) C.hD (uF (uN σ 5 (nI (cdFit sv r))) 32 (apN H (sF σ 40) (sF σ 34) (irM σ) (fiM H σ k) d)) _) 1 gX7_fit_X7_sizeOf rfl (by decide +kernel) ⟨Nat.le_of_ble_eq_true rfl, Nat.le_of_ble_eq_true rfl⟩ ⟨Nat.le_of_ble_eq_true rfl, Nat.le_of_ble_eq_true rfl⟩ rfl rfl (Nat.le_of_ble_eq_true rfl) (fun rv9 σ9 h9 => ?_)
                    obtain ⟨h9a, h9b⟩ := h9
                    refine g_eq (σ2 := uF (uN σ 5 (nI (cdFit sv r))) 32 (apN H (sF σ 40) (sF σ 34) (irM σ) (fiM H σ k) d)) (lv2 := [(0, .ref ((xK X).2.2 27)), (1, .int (nI (tn r))), (2, .int (nI k)), (3, .int (nI d))]) (st2 := [.double (mg (flw H (sF σ 40) d)), .double (sF (uF (uN σ 5 (nI (cdFit sv r))) 32 (apN H (sF σ 40) (sF σ 34) (irM σ) (fiM H σ k) d)) 34 d), .double (fiM H σ k d)]) h9b rfl (by rw [h9a]; rfl) ?_
                    refine g_dsub C dX7_fit_85 hms.1.F.ok ?_
                    refine g_aload_n C dX7_fit_86 0 rfl rfl ?_
                    refine g_get C dX7_fit_87 wl27 rfl 7 (by decide) 5 rfl rfl rfl inX7_fit_X7 ?_
                    refine g_iload_n C dX7_fit_90 3 rfl rfl ?_
                    refine g_dald (j := d) C dX7_fit_91 wl32 rfl (by omega) (by decide) ?_
                    refine g_topd (y := fiM H σ k d) (apN_ge (Nat.le_refl _)) ?_
                    refine g_dsub C dX7_fit_92 hms.2.F.ok ?_
                    refine g_topd (y := msV H (sF σ 40) (sF σ 34) (fiM H σ k) d) rfl ?_
                    refine g_ldc2d (v := 4611686018427387904) C dX7_fit_93 7 rfl ?_
                    refine g_ddiv C dX7_fit_96 hap.1.F.ok ?_
                    refine g_dadd C dX7_fit_97 hap.2.1.F.ok ?_
                    refine g_dstore (lv' := [(4, .double (FP.dadd (fiM H σ k d) (FP.ddiv (msV H (sF σ 40) (sF σ 34) (fiM H σ k) d) 4611686018427387904))), (0, .ref ((xK X).2.2 27)), (1, .int (nI (tn r))), (2, .int (nI k)), (3, .int (nI d))]) C dX7_fit_98 (by decide) rfl ?_
                    refine g_aload_n C dX7_fit_100 1 rfl rfl ?_
                    refine g_get C dX7_fit_101 wl27 rfl 7 (by decide) 5 rfl rfl rfl inX7_fit_X7 ?_
                    refine g_iload_n C dX7_fit_104 4 rfl rfl ?_
                    refine g_dload C dX7_fit_105 0 rfl ?_
                    refine g_dconst0 C dX7_fit_107 ?_
                    refine g_dcmp C dX7_fit_108 ?_
                    refine g_if_ge (tgt := 116) C dX7_fit_109 (by decide) (fun c_109 => ?_) (fun c_109 => ?_)
                    · refine g_dload C dX7_fit_116 0 rfl ?_
                      refine g_topd (y := apV H (sF σ 40) (sF σ 34) (fiM H σ k) d) (by unfold apV nb; first | rw [if_pos c_109] | rw [if_neg c_109]) ?_
                      refine g_dast (j := d) (σ' := uF (uF (uN σ 5 (nI (cdFit sv r))) 32 (apN H (sF σ 40) (sF σ 34) (irM σ) (fiM H σ k) d)) 32 (vf_upd (sF (uF (uN σ 5 (nI (cdFit sv r))) 32 (apN H (sF σ 40) (sF σ 34) (irM σ) (fiM H σ k) d)) 32) d (apV H (sF σ 40) (sF σ 34) (fiM H σ k) d))) C dX7_fit_118 wl32 rfl (by omega) (by decide) wsA32 ?_
                      refine g_eq (σ2 := uF (uN σ 5 (nI (cdFit sv r))) 32 (apN H (sF σ 40) (sF σ 34) (irM σ) (fiM H σ k) (d + 1))) (lv2 := [(4, .double (FP.dadd (fiM H σ k d) (FP.ddiv (msV H (sF σ 40) (sF σ 34) (fiM H σ k) d) 4611686018427387904))), (0, .ref ((xK X).2.2 27)), (1, .int (nI (tn r))), (2, .int (nI k)), (3, .int (nI d))]) (st2 := []) (by first | (rw [apN_yes hb]; exact uF_step _ _ _ _ _) | rw [apN_no hb]) rfl rfl ?_
                      refine g_iinc (v := nI (d + 1)) (lv' := [(3, .int (nI (d + 1))), (4, .double (FP.dadd (fiM H σ k d) (FP.ddiv (msV H (sF σ 40) (sF σ 34) (fiM H σ k) d) 4611686018427387904))), (0, .ref ((xK X).2.2 27)), (1, .int (nI (tn r))), (2, .int (nI k))]) C dX7_fit_119 4 rfl (nI_1 d) (by decide) rfl ?_
                      refine g_goto (tgt := 48) C dX7_fit_122 (by decide) ?_
                      refine g_lv [2, 3, 4, 0] rfl ?_
                      exact ih48 (d + 1) (by omega) (by omega)
                    · refine g_dconst0 C dX7_fit_112 ?_
                      refine g_goto (tgt := 118) C dX7_fit_113 (by decide) ?_
                      refine g_topd (y := apV H (sF σ 40) (sF σ 34) (fiM H σ k) d) (by unfold apV nb; first | rw [if_pos c_109] | rw [if_neg c_109]) ?_
                      refine g_dast (j := d) (σ' := uF (uF (uN σ 5 (nI (cdFit sv r))) 32 (apN H (sF σ 40) (sF σ 34) (irM σ) (fiM H σ k) d)) 32 (vf_upd (sF (uF (uN σ 5 (nI (cdFit sv r))) 32 (apN H (sF σ 40) (sF σ 34) (irM σ) (fiM H σ k) d)) 32) d (apV H (sF σ 40) (sF σ 34) (fiM H σ k) d))) C dX7_fit_118 wl32 rfl (by omega) (by decide) wsA32 ?_
                      refine g_eq (σ2 := uF (uN σ 5 (nI (cdFit sv r))) 32 (apN H (sF σ 40) (sF σ 34) (irM σ) (fiM H σ k) (d + 1))) (lv2 := [(4, .double (FP.dadd (fiM H σ k d) (FP.ddiv (msV H (sF σ 40) (sF σ 34) (fiM H σ k) d) 4611686018427387904))), (0, .ref ((xK X).2.2 27)), (1, .int (nI (tn r))), (2, .int (nI k)), (3, .int (nI d))]) (st2 := []) (by first | (rw [apN_yes hb]; exact uF_step _ _ _ _ _) | rw [apN_no hb]) rfl rfl ?_
                      refine g_iinc (v := nI (d + 1)) (lv' := [(3, .int (nI (d + 1))), (4, .double (FP.dadd (fiM H σ k d) (FP.ddiv (msV H (sF σ 40) (sF σ 34) (fiM H σ k) d) 4611686018427387904))), (0, .ref ((xK X).2.2 27)), (1, .int (nI (tn r))), (2, .int (nI k))]) C dX7_fit_119 4 rfl (nI_1 d) (by decide) rfl ?_
                      refine g_goto (tgt := 48) C dX7_fit_122 (by decide) ?_
                      refine g_lv [2, 3, 4, 0] rfl ?_
                      exact ih48 (d + 1) (by omega) (by omega)
            refine g_lv [1, 2, 3, 0] rfl ?_
            exact loop48 (pD H + 1) 0 (by omega) (Nat.zero_le _)
      refine g_lv [1, 2, 0] rfl ?_
      exact loop41 (tn r + 1) 0 (by omega) (Nat.zero_le _)
    · have hc1 : cdFit sv r ≠ 0 := fun h => c_34 (by rw [h]; decide)
      refine g_dconst0 C dX7_fit_37 ?_
      refine g_dret C dX7_fit_38 rfl ⟨Nat.le_of_ble_eq_true rfl, Nat.le_of_ble_eq_true rfl⟩ ?_
      rw [hF]
      exact ⟨fun _ => ⟨rfl, rfl⟩, fun h => absurd h hc1⟩
