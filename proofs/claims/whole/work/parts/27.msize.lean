/-! the model: size -/
theorem swW_0 (τ : gS) (w : UInt64) : τ = mwS τ w 0 := (uF_self τ 31).symm
theorem mir_sz {ρ τ : gS} (h : Mir ρ τ) : sN τ 10 = nI (nS ρ) ∧ nS ρ ≤ 6 ∧ Od (sI τ 42) (nS ρ) (odC ρ) ∧ sN τ 7 = nI (pD (phC ρ)) ∧ pD (phC ρ) ≤ 16 := by
  obtain ⟨κ, h1, c, m⟩ := h
  have hm := h1.mi.mo m
  have h10 := hm.2.2.2.2.2.2.1
  rw [c.s] at h10
  have h7 := hm.1.nd
  have h16 := hm.1.nd16
  rw [c.ph] at h7 h16
  refine ⟨h10.1, h10.2.1, fun q hq => ?_, h7, h16⟩
  have h2 := h1.1.od q (by rw [c.s]; exact hq)
  have h3 := h1.2.1.2.2.1 q (by rw [c.s]; exact hq)
  rw [c.s, c.od] at h2 h3
  rw [m.2.2.1 42 (by decide), h1.2.2.2.1.2.2.2.2.2]
  exact ⟨h2.2, h3⟩

theorem inX7_size_X7 : ∀ w ∈ u_ws RX7 TX7 24, w ∈ wsX7_size := by decide +kernel
set_option maxHeartbeats 4000000 in
set_option maxRecDepth 100000 in
theorem kX7_size (l : Launch) (K : gK) (hD : gD K) (σ : gS) (c : Int32) {ρ τc : gS} {n : Nat} {v : Int32} (hn : nS ρ = n) (hmir0 : Mir ρ (uN σ 5 (nI (cdSize n c)))) (hsn : sN σ 10 = nI n) (hn6 : n ≤ 6) (hz : cdSize n c = 0 → szR ρ (tn c) (some (.int v)) τc) : Ct l yX7_size wsX7_size { frames := 4, cells := 0, slots := 0, locals := 106 } K [.ref (K.2.2 27), .int c] σ (Mr σ (cdSize n c) (some (.int (nI 0))) (fun r t => r = some (.int v) ∧ Mir τc t ∧ sN t 5 = nI 0 ∧ ClE σ t ∧ sL t = sL σ)) := by
  refine Ct.of hD (by decide) rfl (Nat.le_of_ble_eq_true rfl) ?_
  intro X hL hK hF C
  subst hL; subst hK
  refine g_eq (σ2 := σ) (lv2 := [(0, .ref ((xK X).2.2 27)), (1, .int c)]) (st2 := []) rfl rfl rfl ?_
  have hcb := cdSize_le n c
  refine g_aload_n C dX7_size_0 0 rfl rfl ?_
  refine g_iload_n C dX7_size_1 1 rfl rfl ?_
  refine g_iconst (v := nI 0) C dX7_size_2 (by decide +kernel) ?_
  refine g_iconst (v := nI 3) C dX7_size_3 (by decide +kernel) ?_
  refine g_callS (As := [.int c, .int (nI 0), .int (nI 3)]) (rest := [.ref ((xK X).2.2 27)]) C dX7_size_4 (kX7_isIn (xl X) (xK X) C.hD σ c (nI 0) (nI 3)) 3 gX7_size_X7_isIn rfl (by decide +kernel) ⟨Nat.le_of_ble_eq_true rfl, Nat.le_of_ble_eq_true rfl⟩ ⟨Nat.le_of_ble_eq_true rfl, Nat.le_of_ble_eq_true rfl⟩ rfl rfl (Nat.le_of_ble_eq_true rfl) (fun rv9 σ9 h9 => ?_)
  obtain ⟨h9a, h9b⟩ := h9
  refine g_eq (σ2 := σ) (lv2 := [(0, .ref ((xK X).2.2 27)), (1, .int c)]) (st2 := [.int (bI (inB c (nI 0) (nI 3))), .ref ((xK X).2.2 27)]) h9b rfl (by rw [h9a]; rfl) ?_
  refine g_topi (y := bI (decide (inR c 4))) (congrArg bI (inB_C (n := 3) (by decide))) ?_
  refine g_if_ne (tgt := 14) C dX7_size_7 (by decide) (fun c_7 => ?_) (fun c_7 => ?_)
  · refine g_aload_n C dX7_size_14 0 rfl rfl ?_
    refine g_get C dX7_size_15 wl27 rfl 21 (by decide) 1 rfl rfl rfl inX7_size_X7 ?_
    refine g_topi (y := nI n) hsn ?_
    refine g_if_ne (tgt := 25) C dX7_size_18 (by decide) (fun c_18 => ?_) (fun c_18 => ?_)
    · have hcd : cdSize n c = 0 := (if_neg (fun h => h (of_decide_eq_true (bIt c_7)))).trans (if_pos (Nat.pos_of_ne_zero fun h => c_18 (congrArg nI h)))
      refine g_iconst (v := nI 0) C dX7_size_25 (by decide +kernel) ?_
      refine g_topi (y := nI (cdSize n c)) (by rw [hcd]) ?_
      refine g_put (σ' := uN σ 5 (nI (cdSize n c))) (ty := .int) C dX7_size_26 wl27 rfl 0 (by decide) 2 rfl rfl inX7_size_X7 tyX7_ok nmX7 rfl (by decide +kernel) rfl rfl (Nat.le_of_ble_eq_true rfl) wsN5 ?_
      refine g_aload_n C dX7_size_29 0 rfl rfl ?_
      refine g_get C dX7_size_30 wl27 rfl 0 (by decide) 2 rfl rfl rfl inX7_size_X7 ?_
      refine g_topi (y := nI (cdSize n c)) rfl ?_
      refine g_if_le (tgt := 38) C dX7_size_33 (by decide) (fun c_33 => ?_) (fun c_33 => ?_)
      · have hc0 : cdSize n c = 0 := nI_le0 (by omega) c_33
        have tc := inT (cdSize_0 hc0).1 (by decide)
        obtain ⟨Q, f, w0, fd, hQ, hch, hfQ, hfk, hfd1, hfd0⟩ := sz_ch (hz hc0)
        rw [hn] at hQ hfd0
        refine g_eq (σ2 := uN σ 5 (nI (cdSize n c))) (lv2 := [(0, .ref ((xK X).2.2 27)), (1, .int (nI (tn c)))]) (st2 := []) rfl (congrArg (fun z9 => ([(0, .ref ((xK X).2.2 27)), (1, .int z9)] : List (Nat × Value))) tc.1) rfl ?_
        refine g_iconst (v := nI 0) C dX7_size_38 (by decide +kernel) ?_
        refine g_istore_n (lv' := [(2, .int (nI 0)), (0, .ref ((xK X).2.2 27)), (1, .int (nI (tn c)))]) C dX7_size_39 rfl (by decide) rfl ?_
        have loop40 : ∀ (r9 : Nat) (k : Nat) (τ : gS), n - k < r9 → (k ≤ n) → (k ≤ Q ∧ (fd = true → k < Q)) → (Mir (f k) τ) → (sN τ 5 = nI (cdSize n c)) → (ClE σ τ ∧ sL τ = sL σ) → G X 5 0 0 τ [(0, .ref ((xK X).2.2 27)), (1, .int (nI (tn c))), (2, .int (nI k))] 40 [] := by
          intro r9
          induction r9 with
          | zero => intro k τ h9; exact absurd h9 (Nat.not_lt_zero _)
          | succ r9 ih40 =>
            intro k τ hm40 hk hkQ hmir h5 hcl
            have hz := mir_sz hmir
            have hfz := hch.sz (k := k) hkQ.1
            rw [hfz.1, hfz.2.2] at hz
            have hodk : odC (f k) = odC ρ := funext fun q => congrArg tn (congrFun hfz.2.1 q)
            rw [hodk, hn] at hz
            obtain ⟨hz10, hz6, hzO, hz7, hz16⟩ := hz
            refine g_iload_n C dX7_size_40 2 rfl rfl ?_
            refine g_aload_n C dX7_size_41 0 rfl rfl ?_
            refine g_get C dX7_size_42 wl27 rfl 21 (by decide) 1 rfl rfl rfl inX7_size_X7 ?_
            refine g_topi (y := nI n) hz10 ?_
            refine g_icmp_ge (tgt := 109) C dX7_size_45 (by decide) (fun c_45 => ?_) (fun c_45 => ?_)
            · have hke : k = n := by
                have h9 := (nI_leI (by  omega) (by  omega)).mp c_45
                omega
              refine g_iconst (v := (-1)) C dX7_size_109 (by decide +kernel) ?_
              refine g_iret C dX7_size_110 rfl ⟨Nat.le_of_ble_eq_true rfl, Nat.le_of_ble_eq_true rfl⟩ ?_
              rw [hF]
              refine ⟨fun h => absurd hc0 h, fun _ => ?_⟩
              have hfd : fd = false := by
                cases e : fd with
                | false => rfl
                | true => have := hkQ.2 e; omega
              have h9 := hfd0 hfd
              refine ⟨by rw [h9.2], ?_, by rw [← hc0]; exact h5, hcl.1, hcl.2⟩
              rw [← hfQ, h9.1, ← hke]
              exact hmir
            · have hkt : k < n := by
                refine Nat.lt_of_not_le fun h => c_45 ?_
                exact (nI_leI (by  omega) (by  omega)).mpr (by omega)
              have hkQ2 : k < Q := by
                cases e : fd with
                | true => exact hkQ.2 e
                | false => have := (hfd0 e).1; omega
              have hsn9 := (hzO k hkt).1
              obtain ⟨H2, H3, nj2, sv2, sv3, hD2, hM2, hM3, hmir3, hK⟩ := mir_step (c := tn c) (s := (odC ρ k)) tc.2 (by rw [hfz.1, hn]; exact hsn9) (w0 k) hmir
              rw [hfz.2.2] at hD2 hM2 hM3 hmir3 hK
              rw [← hch.2 k hkQ2] at hmir3 hK
              rw [hfk k hkQ2] at hK
              have hM2w := hM2.1
              refine g_aload_n C dX7_size_48 0 rfl rfl ?_
              refine g_iload_n C dX7_size_49 2 rfl rfl ?_
              refine g_callV (As := [.int (nI k)]) (rest := []) C dX7_size_50 (kX7_sizeAt (xl X) (xK X) C.hD τ (n := n) (k := k) hz10 hz6 (by omega)) wl27 rfl 1 gX7_size_X7_sizeAt rfl (by decide +kernel) ⟨Nat.le_of_ble_eq_true rfl, Nat.le_of_ble_eq_true rfl⟩ ⟨Nat.le_of_ble_eq_true rfl, Nat.le_of_ble_eq_true rfl⟩ rfl rfl (Nat.le_of_ble_eq_true rfl) (fun rv9 σ9 h9 => ?_)
              obtain ⟨h9a, h9b⟩ := h9
              refine g_eq (σ2 := τ) (lv2 := [(0, .ref ((xK X).2.2 27)), (1, .int (nI (tn c))), (2, .int (nI k))]) (st2 := [.int (sei (srch (rkP (sI τ 42) n k) n 0))]) h9b rfl (by rw [h9a]; rfl) ?_
              refine g_topi (y := nI (odC ρ k)) (by rw [hzO.srch hkt]; rfl) ?_
              refine g_istore_n (lv' := [(3, .int (nI (odC ρ k))), (0, .ref ((xK X).2.2 27)), (1, .int (nI (tn c))), (2, .int (nI k))]) C dX7_size_53 rfl (by decide) rfl ?_
              refine g_iconst (v := nI 0) C dX7_size_54 (by decide +kernel) ?_
              refine g_istore (lv' := [(4, .int (nI 0)), (3, .int (nI (odC ρ k))), (0, .ref ((xK X).2.2 27)), (1, .int (nI (tn c))), (2, .int (nI k))]) C dX7_size_55 (by decide) rfl ?_
              refine g_eq (σ2 := mwS τ (sF τ 41 (odC ρ k)) 0) (lv2 := [(4, .int (nI 0)), (3, .int (nI (odC ρ k))), (0, .ref ((xK X).2.2 27)), (1, .int (nI (tn c))), (2, .int (nI k))]) (st2 := []) (swW_0 τ (sF τ 41 (odC ρ k))) rfl rfl ?_
              have loop57 : ∀ (r9 : Nat) (d : Nat), pD (phC ρ) - d < r9 → (d ≤ pD (phC ρ)) → G X 5 0 0 (mwS τ (sF τ 41 (odC ρ k)) d) [(0, .ref ((xK X).2.2 27)), (1, .int (nI (tn c))), (2, .int (nI k)), (3, .int (nI (odC ρ k))), (4, .int (nI d))] 57 [] := by
                intro r9
                induction r9 with
                | zero => intro d h9; exact absurd h9 (Nat.not_lt_zero _)
                | succ r9 ih57 =>
                  intro d hm57 hd
                  refine g_iload C dX7_size_57 4 rfl ?_
                  refine g_aload_n C dX7_size_59 0 rfl rfl ?_
                  refine g_get C dX7_size_60 wl27 rfl 2 (by decide) 3 rfl rfl rfl inX7_size_X7 ?_
                  refine g_topi (y := nI (pD (phC ρ))) hz7 ?_
                  refine g_icmp_ge (tgt := 85) C dX7_size_63 (by decide) (fun c_63 => ?_) (fun c_63 => ?_)
                  · have hde : d = (pD (phC ρ)) := by
                      have h9 := (nI_leI (by  omega) (by  omega)).mp c_63
                      omega
                    refine g_eq (σ2 := mwS τ (sF τ 41 (odC ρ k)) (pD (phC ρ))) (lv2 := [(0, .ref ((xK X).2.2 27)), (1, .int (nI (tn c))), (2, .int (nI k)), (3, .int (nI (odC ρ k))), (4, .int (nI d))]) (st2 := []) (by rw [hde]) rfl rfl ?_
                    refine g_aload_n C dX7_size_85 0 rfl rfl ?_
                    refine g_iload_n C dX7_size_86 1 rfl rfl ?_
                    refine g_callV (As := [.int (nI (tn c))]) (rest := []) C dX7_size_87 (kX7_solveNow (xl X) (xK X) C.hD (mwS τ (sF τ 41 (odC ρ k)) (pD (phC ρ))) hM2.1 hM2.2.1 (c := tn c) tc.2) wl27 rfl 1 gX7_size_X7_solveNow rfl (by decide +kernel) ⟨Nat.le_of_ble_eq_true rfl, Nat.le_of_ble_eq_true rfl⟩ ⟨Nat.le_of_ble_eq_true rfl, Nat.le_of_ble_eq_true rfl⟩ rfl rfl (Nat.le_of_ble_eq_true rfl) (fun rv9 σ9 h9 => ?_)
                    obtain ⟨h9a, h9b⟩ := h9
                    refine g_eq (σ2 := mbF (mwS τ (sF τ 41 (odC ρ k)) (pD (phC ρ))) (tn c) (blM H2 (mwS τ (sF τ 41 (odC ρ k)) (pD (phC ρ))) (tn c)).2.1 (blM H2 (mwS τ (sF τ 41 (odC ρ k)) (pD (phC ρ))) (tn c)).2.2 (bI (blM H2 (mwS τ (sF τ 41 (odC ρ k)) (pD (phC ρ))) (tn c)).1.isSome)) (lv2 := [(0, .ref ((xK X).2.2 27)), (1, .int (nI (tn c))), (2, .int (nI k)), (3, .int (nI (odC ρ k))), (4, .int (nI d))]) (st2 := [.int (sei (blM H2 (mwS τ (sF τ 41 (odC ρ k)) (pD (phC ρ))) (tn c)).1)]) h9b rfl (by rw [h9a]; rfl) ?_
                    refine g_iconst (v := (-1)) C dX7_size_90 (by decide +kernel) ?_
                    refine g_icmp_eq (tgt := 103) C dX7_size_91 (by decide) (fun c_91 => ?_) (fun c_91 => ?_)
                    · have hs0 : (blM H2 (mwS τ (sF τ 41 (odC ρ k)) (pD (phC ρ))) (tn c)).1.isSome = false := sei_no (fun q hq => by have := blN_le (f := 10) hq; omega) c_91
                      have hnx : fd = true → k + 1 < Q := fun h => by
                        rw [hs0, h, Bool.false_and, Bool.true_and] at hK
                        have := of_decide_eq_false hK
                        omega
                      refine g_iinc (v := nI (k + 1)) (lv' := [(2, .int (nI (k + 1))), (0, .ref ((xK X).2.2 27)), (1, .int (nI (tn c))), (3, .int (nI (odC ρ k))), (4, .int (nI d))]) C dX7_size_103 2 rfl (nI_1 k) (by decide) rfl ?_
                      refine g_goto (tgt := 40) C dX7_size_106 (by decide) ?_
                      refine g_lv [1, 2, 0] rfl ?_
                      exact (ih40 (k + 1) (mbF (mwS τ (sF τ 41 (odC ρ k)) (pD (phC ρ))) (tn c) (blM H2 (mwS τ (sF τ 41 (odC ρ k)) (pD (phC ρ))) (tn c)).2.1 (blM H2 (mwS τ (sF τ 41 (odC ρ k)) (pD (phC ρ))) (tn c)).2.2 (bI (blM H2 (mwS τ (sF τ 41 (odC ρ k)) (pD (phC ρ))) (tn c)).1.isSome)) (by omega) (by omega) ⟨by omega, hnx⟩ hmir3 h5 ⟨((((((hcl.1.f 31 _ (by decide)).i 39 _ (by decide)).f 40 _ (by decide)).d 5 _ (by decide)).f 38 _ (by decide)).n 9 _ (by decide)), hcl.2⟩)
                    · have hs1 : (blM H2 (mwS τ (sF τ 41 (odC ρ k)) (pD (phC ρ))) (tn c)).1.isSome = true := sei_yes c_91
                      refine g_aload_n C dX7_size_94 0 rfl rfl ?_
                      refine g_callV (As := []) (rest := []) C dX7_size_95 (kX7_isEnough (xl X) (xK X) C.hD (mbF (mwS τ (sF τ 41 (odC ρ k)) (pD (phC ρ))) (tn c) (blM H2 (mwS τ (sF τ 41 (odC ρ k)) (pD (phC ρ))) (tn c)).2.1 (blM H2 (mwS τ (sF τ 41 (odC ρ k)) (pD (phC ρ))) (tn c)).2.2 (bI (blM H2 (mwS τ (sF τ 41 (odC ρ k)) (pD (phC ρ))) (tn c)).1.isSome)) hM3.1 hM3.2.1 hM3.2.2.1 hM3.2.2.2.1) wl27 rfl 0 gX7_size_X7_isEnough rfl (by decide +kernel) ⟨Nat.le_of_ble_eq_true rfl, Nat.le_of_ble_eq_true rfl⟩ ⟨Nat.le_of_ble_eq_true rfl, Nat.le_of_ble_eq_true rfl⟩ rfl rfl (Nat.le_of_ble_eq_true rfl) (fun rv9 σ9 h9 => ?_)
                      obtain ⟨h9a, h9b⟩ := h9
                      refine g_eq (σ2 := mbF (mwS τ (sF τ 41 (odC ρ k)) (pD (phC ρ))) (tn c) (blM H2 (mwS τ (sF τ 41 (odC ρ k)) (pD (phC ρ))) (tn c)).2.1 (blM H2 (mwS τ (sF τ 41 (odC ρ k)) (pD (phC ρ))) (tn c)).2.2 (bI (blM H2 (mwS τ (sF τ 41 (odC ρ k)) (pD (phC ρ))) (tn c)).1.isSome)) (lv2 := [(0, .ref ((xK X).2.2 27)), (1, .int (nI (tn c))), (2, .int (nI k)), (3, .int (nI (odC ρ k))), (4, .int (nI d))]) (st2 := [.int (bI (allB (srB H3 (blM H2 (mwS τ (sF τ 41 (odC ρ k)) (pD (phC ρ))) (tn c)).2.1.1 (blM H2 (mwS τ (sF τ 41 (odC ρ k)) (pD (phC ρ))) (tn c)).2.2) (pM H3)))]) h9b rfl (by rw [h9a]; rfl) ?_
                      refine g_if_eq (tgt := 103) C dX7_size_98 (by decide) (fun c_98 => ?_) (fun c_98 => ?_)
                      · have he0 : allB (srB H3 (blM H2 (mwS τ (sF τ 41 (odC ρ k)) (pD (phC ρ))) (tn c)).2.1.1 (blM H2 (mwS τ (sF τ 41 (odC ρ k)) (pD (phC ρ))) (tn c)).2.2) (pM H3) = false := (bI_ne _).mp c_98
                        have hnx : fd = true → k + 1 < Q := fun h => by
                          rw [hs1, he0, h, Bool.true_and, Bool.and_false] at hK
                          have := of_decide_eq_false hK
                          omega
                        refine g_iinc (v := nI (k + 1)) (lv' := [(2, .int (nI (k + 1))), (0, .ref ((xK X).2.2 27)), (1, .int (nI (tn c))), (3, .int (nI (odC ρ k))), (4, .int (nI d))]) C dX7_size_103 2 rfl (nI_1 k) (by decide) rfl ?_
                        refine g_goto (tgt := 40) C dX7_size_106 (by decide) ?_
                        refine g_lv [1, 2, 0] rfl ?_
                        exact (ih40 (k + 1) (mbF (mwS τ (sF τ 41 (odC ρ k)) (pD (phC ρ))) (tn c) (blM H2 (mwS τ (sF τ 41 (odC ρ k)) (pD (phC ρ))) (tn c)).2.1 (blM H2 (mwS τ (sF τ 41 (odC ρ k)) (pD (phC ρ))) (tn c)).2.2 (bI (blM H2 (mwS τ (sF τ 41 (odC ρ k)) (pD (phC ρ))) (tn c)).1.isSome)) (by omega) (by omega) ⟨by omega, hnx⟩ hmir3 h5 ⟨((((((hcl.1.f 31 _ (by decide)).i 39 _ (by decide)).f 40 _ (by decide)).d 5 _ (by decide)).f 38 _ (by decide)).n 9 _ (by decide)), hcl.2⟩)
                      · have he1 : allB (srB H3 (blM H2 (mwS τ (sF τ 41 (odC ρ k)) (pD (phC ρ))) (tn c)).2.1.1 (blM H2 (mwS τ (sF τ 41 (odC ρ k)) (pD (phC ρ))) (tn c)).2.2) (pM H3) = true := bIt c_98
                        rw [hs1, he1, Bool.true_and, Bool.and_eq_true, decide_eq_true_eq] at hK
                        refine g_iload_n C dX7_size_101 3 rfl rfl ?_
                        refine g_iret C dX7_size_102 rfl ⟨Nat.le_of_ble_eq_true rfl, Nat.le_of_ble_eq_true rfl⟩ ?_
                        rw [hF]
                        exact ⟨fun h => absurd hc0 h, fun _ => ⟨by rw [(hfd1 hK.1).2, show Q - 1 = k by omega], by rw [← hfQ, ← hK.2]; exact hmir3, by rw [← hc0]; exact h5, ((((((hcl.1.f 31 _ (by decide)).i 39 _ (by decide)).f 40 _ (by decide)).d 5 _ (by decide)).f 38 _ (by decide)).n 9 _ (by decide)), hcl.2⟩⟩
                  · have hdt : d < (pD (phC ρ)) := by
                      refine Nat.lt_of_not_le fun h => c_63 ?_
                      exact (nI_leI (by  omega) (by  omega)).mpr (by omega)
                    refine g_aload_n C dX7_size_66 0 rfl rfl ?_
                    refine g_get C dX7_size_67 wl27 rfl 6 (by decide) 4 rfl rfl rfl inX7_size_X7 ?_
                    refine g_iload C dX7_size_70 4 rfl ?_
                    refine g_aload_n C dX7_size_72 0 rfl rfl ?_
                    refine g_get C dX7_size_73 wl27 rfl 22 (by decide) 5 rfl rfl rfl inX7_size_X7 ?_
                    refine g_iload_n C dX7_size_76 3 rfl rfl ?_
                    refine g_dald (j := (odC ρ k)) C dX7_size_77 wl41 rfl (by omega) (by decide) ?_
                    refine g_dast (j := d) (σ' := uF (mwS τ (sF τ 41 (odC ρ k)) d) 31 (vf_upd (sF (mwS τ (sF τ 41 (odC ρ k)) d) 31) d (sF (mwS τ (sF τ 41 (odC ρ k)) d) 41 (odC ρ k)))) C dX7_size_78 wl31 rfl (by omega) (by decide) wsA31 ?_
                    refine g_eq (σ2 := mwS τ (sF τ 41 (odC ρ k)) (d + 1)) (lv2 := [(0, .ref ((xK X).2.2 27)), (1, .int (nI (tn c))), (2, .int (nI k)), (3, .int (nI (odC ρ k))), (4, .int (nI d))]) (st2 := []) (uF_step _ _ _ _ _) rfl rfl ?_
                    refine g_iinc (v := nI (d + 1)) (lv' := [(4, .int (nI (d + 1))), (0, .ref ((xK X).2.2 27)), (1, .int (nI (tn c))), (2, .int (nI k)), (3, .int (nI (odC ρ k)))]) C dX7_size_79 4 rfl (nI_1 d) (by decide) rfl ?_
                    refine g_goto (tgt := 57) C dX7_size_82 (by decide) ?_
                    refine g_lv [1, 2, 3, 4, 0] rfl ?_
                    exact ih57 (d + 1) (by omega) (by omega)
              refine g_lv [2, 3, 4, 1, 0] rfl ?_
              exact loop57 (pD (phC ρ) + 1) 0 (by omega) (Nat.zero_le _)
        refine g_lv [1, 2, 0] rfl ?_
        exact loop40 (n + 1) 0 (uN σ 5 (nI (cdSize n c))) (by omega) (Nat.zero_le _) ⟨Nat.zero_le _, fun h => (hfd1 h).1⟩ (by rw [hch.1]; exact hmir0) rfl ⟨(ClE.self σ).n 5 _ (by decide), rfl⟩
      · have hc1 : cdSize n c ≠ 0 := fun h => c_33 (by rw [h]; decide)
        refine g_iconst (v := nI 0) C dX7_size_36 (by decide +kernel) ?_
        refine g_iret C dX7_size_37 rfl ⟨Nat.le_of_ble_eq_true rfl, Nat.le_of_ble_eq_true rfl⟩ ?_
        rw [hF]
        exact ⟨fun _ => ⟨rfl, rfl⟩, fun h => absurd h hc1⟩
    · have hcd : cdSize n c = 2 := (if_neg (fun h => h (of_decide_eq_true (bIt c_7)))).trans (if_neg (by
        have := (nI_eq (a := n) (b := 0) (by omega) (by decide)).mp (Decidable.byContradiction fun h => absurd c_18 h)
        omega))
      refine g_iconst (v := nI 2) C dX7_size_21 (by decide +kernel) ?_
      refine g_goto (tgt := 26) C dX7_size_22 (by decide) ?_
      refine g_topi (y := nI (cdSize n c)) (by rw [hcd]) ?_
      refine g_put (σ' := uN σ 5 (nI (cdSize n c))) (ty := .int) C dX7_size_26 wl27 rfl 0 (by decide) 2 rfl rfl inX7_size_X7 tyX7_ok nmX7 rfl (by decide +kernel) rfl rfl (Nat.le_of_ble_eq_true rfl) wsN5 ?_
      refine g_aload_n C dX7_size_29 0 rfl rfl ?_
      refine g_get C dX7_size_30 wl27 rfl 0 (by decide) 2 rfl rfl rfl inX7_size_X7 ?_
      refine g_topi (y := nI (cdSize n c)) rfl ?_
      refine g_if_le (tgt := 38) C dX7_size_33 (by decide) (fun c_33 => ?_) (fun c_33 => ?_)
      · have hc0 : cdSize n c = 0 := nI_le0 (by omega) c_33
        have tc := inT (cdSize_0 hc0).1 (by decide)
        obtain ⟨Q, f, w0, fd, hQ, hch, hfQ, hfk, hfd1, hfd0⟩ := sz_ch (hz hc0)
        rw [hn] at hQ hfd0
        refine g_eq (σ2 := uN σ 5 (nI (cdSize n c))) (lv2 := [(0, .ref ((xK X).2.2 27)), (1, .int (nI (tn c)))]) (st2 := []) rfl (congrArg (fun z9 => ([(0, .ref ((xK X).2.2 27)), (1, .int z9)] : List (Nat × Value))) tc.1) rfl ?_
        refine g_iconst (v := nI 0) C dX7_size_38 (by decide +kernel) ?_
        refine g_istore_n (lv' := [(2, .int (nI 0)), (0, .ref ((xK X).2.2 27)), (1, .int (nI (tn c)))]) C dX7_size_39 rfl (by decide) rfl ?_
        have loop40 : ∀ (r9 : Nat) (k : Nat) (τ : gS), n - k < r9 → (k ≤ n) → (k ≤ Q ∧ (fd = true → k < Q)) → (Mir (f k) τ) → (sN τ 5 = nI (cdSize n c)) → (ClE σ τ ∧ sL τ = sL σ) → G X 5 0 0 τ [(0, .ref ((xK X).2.2 27)), (1, .int (nI (tn c))), (2, .int (nI k))] 40 [] := by
          intro r9
          induction r9 with
          | zero => intro k τ h9; exact absurd h9 (Nat.not_lt_zero _)
          | succ r9 ih40 =>
            intro k τ hm40 hk hkQ hmir h5 hcl
            have hz := mir_sz hmir
            have hfz := hch.sz (k := k) hkQ.1
            rw [hfz.1, hfz.2.2] at hz
            have hodk : odC (f k) = odC ρ := funext fun q => congrArg tn (congrFun hfz.2.1 q)
            rw [hodk, hn] at hz
            obtain ⟨hz10, hz6, hzO, hz7, hz16⟩ := hz
            refine g_iload_n C dX7_size_40 2 rfl rfl ?_
            refine g_aload_n C dX7_size_41 0 rfl rfl ?_
            refine g_get C dX7_size_42 wl27 rfl 21 (by decide) 1 rfl rfl rfl inX7_size_X7 ?_
            refine g_topi (y := nI n) hz10 ?_
            refine g_icmp_ge (tgt := 109) C dX7_size_45 (by decide) (fun c_45 => ?_) (fun c_45 => ?_)
            · have hke : k = n := by
                have h9 := (nI_leI (by  omega) (by  omega)).mp c_45
                omega
              refine g_iconst (v := (-1)) C dX7_size_109 (by decide +kernel) ?_
              refine g_iret C dX7_size_110 rfl ⟨Nat.le_of_ble_eq_true rfl, Nat.le_of_ble_eq_true rfl⟩ ?_
              rw [hF]
              refine ⟨fun h => absurd hc0 h, fun _ => ?_⟩
              have hfd : fd = false := by
                cases e : fd with
                | false => rfl
                | true => have := hkQ.2 e; omega
              have h9 := hfd0 hfd
              refine ⟨by rw [h9.2], ?_, by rw [← hc0]; exact h5, hcl.1, hcl.2⟩
              rw [← hfQ, h9.1, ← hke]
              exact hmir
            · have hkt : k < n := by
                refine Nat.lt_of_not_le fun h => c_45 ?_
                exact (nI_leI (by  omega) (by  omega)).mpr (by omega)
              have hkQ2 : k < Q := by
                cases e : fd with
                | true => exact hkQ.2 e
                | false => have := (hfd0 e).1; omega
              have hsn9 := (hzO k hkt).1
              obtain ⟨H2, H3, nj2, sv2, sv3, hD2, hM2, hM3, hmir3, hK⟩ := mir_step (c := tn c) (s := (odC ρ k)) tc.2 (by rw [hfz.1, hn]; exact hsn9) (w0 k) hmir
              rw [hfz.2.2] at hD2 hM2 hM3 hmir3 hK
              rw [← hch.2 k hkQ2] at hmir3 hK
              rw [hfk k hkQ2] at hK
              have hM2w := hM2.1
              refine g_aload_n C dX7_size_48 0 rfl rfl ?_
              refine g_iload_n C dX7_size_49 2 rfl rfl ?_
              refine g_callV (As := [.int (nI k)]) (rest := []) C dX7_size_50 (kX7_sizeAt (xl X) (xK X) C.hD τ (n := n) (k := k) hz10 hz6 (by omega)) wl27 rfl 1 gX7_size_X7_sizeAt rfl (by decide +kernel) ⟨Nat.le_of_ble_eq_true rfl, Nat.le_of_ble_eq_true rfl⟩ ⟨Nat.le_of_ble_eq_true rfl, Nat.le_of_ble_eq_true rfl⟩ rfl rfl (Nat.le_of_ble_eq_true rfl) (fun rv9 σ9 h9 => ?_)
              obtain ⟨h9a, h9b⟩ := h9
              refine g_eq (σ2 := τ) (lv2 := [(0, .ref ((xK X).2.2 27)), (1, .int (nI (tn c))), (2, .int (nI k))]) (st2 := [.int (sei (srch (rkP (sI τ 42) n k) n 0))]) h9b rfl (by rw [h9a]; rfl) ?_
              refine g_topi (y := nI (odC ρ k)) (by rw [hzO.srch hkt]; rfl) ?_
              refine g_istore_n (lv' := [(3, .int (nI (odC ρ k))), (0, .ref ((xK X).2.2 27)), (1, .int (nI (tn c))), (2, .int (nI k))]) C dX7_size_53 rfl (by decide) rfl ?_
              refine g_iconst (v := nI 0) C dX7_size_54 (by decide +kernel) ?_
              refine g_istore (lv' := [(4, .int (nI 0)), (3, .int (nI (odC ρ k))), (0, .ref ((xK X).2.2 27)), (1, .int (nI (tn c))), (2, .int (nI k))]) C dX7_size_55 (by decide) rfl ?_
              refine g_eq (σ2 := mwS τ (sF τ 41 (odC ρ k)) 0) (lv2 := [(4, .int (nI 0)), (3, .int (nI (odC ρ k))), (0, .ref ((xK X).2.2 27)), (1, .int (nI (tn c))), (2, .int (nI k))]) (st2 := []) (swW_0 τ (sF τ 41 (odC ρ k))) rfl rfl ?_
              have loop57 : ∀ (r9 : Nat) (d : Nat), pD (phC ρ) - d < r9 → (d ≤ pD (phC ρ)) → G X 5 0 0 (mwS τ (sF τ 41 (odC ρ k)) d) [(0, .ref ((xK X).2.2 27)), (1, .int (nI (tn c))), (2, .int (nI k)), (3, .int (nI (odC ρ k))), (4, .int (nI d))] 57 [] := by
                intro r9
                induction r9 with
                | zero => intro d h9; exact absurd h9 (Nat.not_lt_zero _)
                | succ r9 ih57 =>
                  intro d hm57 hd
                  refine g_iload C dX7_size_57 4 rfl ?_
                  refine g_aload_n C dX7_size_59 0 rfl rfl ?_
                  refine g_get C dX7_size_60 wl27 rfl 2 (by decide) 3 rfl rfl rfl inX7_size_X7 ?_
                  refine g_topi (y := nI (pD (phC ρ))) hz7 ?_
                  refine g_icmp_ge (tgt := 85) C dX7_size_63 (by decide) (fun c_63 => ?_) (fun c_63 => ?_)
                  · have hde : d = (pD (phC ρ)) := by
                      have h9 := (nI_leI (by  omega) (by  omega)).mp c_63
                      omega
                    refine g_eq (σ2 := mwS τ (sF τ 41 (odC ρ k)) (pD (phC ρ))) (lv2 := [(0, .ref ((xK X).2.2 27)), (1, .int (nI (tn c))), (2, .int (nI k)), (3, .int (nI (odC ρ k))), (4, .int (nI d))]) (st2 := []) (by rw [hde]) rfl rfl ?_
                    refine g_aload_n C dX7_size_85 0 rfl rfl ?_
                    refine g_iload_n C dX7_size_86 1 rfl rfl ?_
                    refine g_callV (As := [.int (nI (tn c))]) (rest := []) C dX7_size_87 (kX7_solveNow (xl X) (xK X) C.hD (mwS τ (sF τ 41 (odC ρ k)) (pD (phC ρ))) hM2.1 hM2.2.1 (c := tn c) tc.2) wl27 rfl 1 gX7_size_X7_solveNow rfl (by decide +kernel) ⟨Nat.le_of_ble_eq_true rfl, Nat.le_of_ble_eq_true rfl⟩ ⟨Nat.le_of_ble_eq_true rfl, Nat.le_of_ble_eq_true rfl⟩ rfl rfl (Nat.le_of_ble_eq_true rfl) (fun rv9 σ9 h9 => ?_)
                    obtain ⟨h9a, h9b⟩ := h9
                    refine g_eq (σ2 := mbF (mwS τ (sF τ 41 (odC ρ k)) (pD (phC ρ))) (tn c) (blM H2 (mwS τ (sF τ 41 (odC ρ k)) (pD (phC ρ))) (tn c)).2.1 (blM H2 (mwS τ (sF τ 41 (odC ρ k)) (pD (phC ρ))) (tn c)).2.2 (bI (blM H2 (mwS τ (sF τ 41 (odC ρ k)) (pD (phC ρ))) (tn c)).1.isSome)) (lv2 := [(0, .ref ((xK X).2.2 27)), (1, .int (nI (tn c))), (2, .int (nI k)), (3, .int (nI (odC ρ k))), (4, .int (nI d))]) (st2 := [.int (sei (blM H2 (mwS τ (sF τ 41 (odC ρ k)) (pD (phC ρ))) (tn c)).1)]) h9b rfl (by rw [h9a]; rfl) ?_
                    refine g_iconst (v := (-1)) C dX7_size_90 (by decide +kernel) ?_
                    refine g_icmp_eq (tgt := 103) C dX7_size_91 (by decide) (fun c_91 => ?_) (fun c_91 => ?_)
                    · have hs0 : (blM H2 (mwS τ (sF τ 41 (odC ρ k)) (pD (phC ρ))) (tn c)).1.isSome = false := sei_no (fun q hq => by have := blN_le (f := 10) hq; omega) c_91
                      have hnx : fd = true → k + 1 < Q := fun h => by
                        rw [hs0, h, Bool.false_and, Bool.true_and] at hK
                        have := of_decide_eq_false hK
                        omega
                      refine g_iinc (v := nI (k + 1)) (lv' := [(2, .int (nI (k + 1))), (0, .ref ((xK X).2.2 27)), (1, .int (nI (tn c))), (3, .int (nI (odC ρ k))), (4, .int (nI d))]) C dX7_size_103 2 rfl (nI_1 k) (by decide) rfl ?_
                      refine g_goto (tgt := 40) C dX7_size_106 (by decide) ?_
                      refine g_lv [1, 2, 0] rfl ?_
                      exact (ih40 (k + 1) (mbF (mwS τ (sF τ 41 (odC ρ k)) (pD (phC ρ))) (tn c) (blM H2 (mwS τ (sF τ 41 (odC ρ k)) (pD (phC ρ))) (tn c)).2.1 (blM H2 (mwS τ (sF τ 41 (odC ρ k)) (pD (phC ρ))) (tn c)).2.2 (bI (blM H2 (mwS τ (sF τ 41 (odC ρ k)) (pD (phC ρ))) (tn c)).1.isSome)) (by omega) (by omega) ⟨by omega, hnx⟩ hmir3 h5 ⟨((((((hcl.1.f 31 _ (by decide)).i 39 _ (by decide)).f 40 _ (by decide)).d 5 _ (by decide)).f 38 _ (by decide)).n 9 _ (by decide)), hcl.2⟩)
                    · have hs1 : (blM H2 (mwS τ (sF τ 41 (odC ρ k)) (pD (phC ρ))) (tn c)).1.isSome = true := sei_yes c_91
                      refine g_aload_n C dX7_size_94 0 rfl rfl ?_
                      refine g_callV (As := []) (rest := []) C dX7_size_95 (kX7_isEnough (xl X) (xK X) C.hD (mbF (mwS τ (sF τ 41 (odC ρ k)) (pD (phC ρ))) (tn c) (blM H2 (mwS τ (sF τ 41 (odC ρ k)) (pD (phC ρ))) (tn c)).2.1 (blM H2 (mwS τ (sF τ 41 (odC ρ k)) (pD (phC ρ))) (tn c)).2.2 (bI (blM H2 (mwS τ (sF τ 41 (odC ρ k)) (pD (phC ρ))) (tn c)).1.isSome)) hM3.1 hM3.2.1 hM3.2.2.1 hM3.2.2.2.1) wl27 rfl 0 gX7_size_X7_isEnough rfl (by decide +kernel) ⟨Nat.le_of_ble_eq_true rfl, Nat.le_of_ble_eq_true rfl⟩ ⟨Nat.le_of_ble_eq_true rfl, Nat.le_of_ble_eq_true rfl⟩ rfl rfl (Nat.le_of_ble_eq_true rfl) (fun rv9 σ9 h9 => ?_)
                      obtain ⟨h9a, h9b⟩ := h9
                      refine g_eq (σ2 := mbF (mwS τ (sF τ 41 (odC ρ k)) (pD (phC ρ))) (tn c) (blM H2 (mwS τ (sF τ 41 (odC ρ k)) (pD (phC ρ))) (tn c)).2.1 (blM H2 (mwS τ (sF τ 41 (odC ρ k)) (pD (phC ρ))) (tn c)).2.2 (bI (blM H2 (mwS τ (sF τ 41 (odC ρ k)) (pD (phC ρ))) (tn c)).1.isSome)) (lv2 := [(0, .ref ((xK X).2.2 27)), (1, .int (nI (tn c))), (2, .int (nI k)), (3, .int (nI (odC ρ k))), (4, .int (nI d))]) (st2 := [.int (bI (allB (srB H3 (blM H2 (mwS τ (sF τ 41 (odC ρ k)) (pD (phC ρ))) (tn c)).2.1.1 (blM H2 (mwS τ (sF τ 41 (odC ρ k)) (pD (phC ρ))) (tn c)).2.2) (pM H3)))]) h9b rfl (by rw [h9a]; rfl) ?_
                      refine g_if_eq (tgt := 103) C dX7_size_98 (by decide) (fun c_98 => ?_) (fun c_98 => ?_)
                      · have he0 : allB (srB H3 (blM H2 (mwS τ (sF τ 41 (odC ρ k)) (pD (phC ρ))) (tn c)).2.1.1 (blM H2 (mwS τ (sF τ 41 (odC ρ k)) (pD (phC ρ))) (tn c)).2.2) (pM H3) = false := (bI_ne _).mp c_98
                        have hnx : fd = true → k + 1 < Q := fun h => by
                          rw [hs1, he0, h, Bool.true_and, Bool.and_false] at hK
                          have := of_decide_eq_false hK
                          omega
                        refine g_iinc (v := nI (k + 1)) (lv' := [(2, .int (nI (k + 1))), (0, .ref ((xK X).2.2 27)), (1, .int (nI (tn c))), (3, .int (nI (odC ρ k))), (4, .int (nI d))]) C dX7_size_103 2 rfl (nI_1 k) (by decide) rfl ?_
                        refine g_goto (tgt := 40) C dX7_size_106 (by decide) ?_
                        refine g_lv [1, 2, 0] rfl ?_
                        exact (ih40 (k + 1) (mbF (mwS τ (sF τ 41 (odC ρ k)) (pD (phC ρ))) (tn c) (blM H2 (mwS τ (sF τ 41 (odC ρ k)) (pD (phC ρ))) (tn c)).2.1 (blM H2 (mwS τ (sF τ 41 (odC ρ k)) (pD (phC ρ))) (tn c)).2.2 (bI (blM H2 (mwS τ (sF τ 41 (odC ρ k)) (pD (phC ρ))) (tn c)).1.isSome)) (by omega) (by omega) ⟨by omega, hnx⟩ hmir3 h5 ⟨((((((hcl.1.f 31 _ (by decide)).i 39 _ (by decide)).f 40 _ (by decide)).d 5 _ (by decide)).f 38 _ (by decide)).n 9 _ (by decide)), hcl.2⟩)
                      · have he1 : allB (srB H3 (blM H2 (mwS τ (sF τ 41 (odC ρ k)) (pD (phC ρ))) (tn c)).2.1.1 (blM H2 (mwS τ (sF τ 41 (odC ρ k)) (pD (phC ρ))) (tn c)).2.2) (pM H3) = true := bIt c_98
                        rw [hs1, he1, Bool.true_and, Bool.and_eq_true, decide_eq_true_eq] at hK
                        refine g_iload_n C dX7_size_101 3 rfl rfl ?_
                        refine g_iret C dX7_size_102 rfl ⟨Nat.le_of_ble_eq_true rfl, Nat.le_of_ble_eq_true rfl⟩ ?_
                        rw [hF]
                        exact ⟨fun h => absurd hc0 h, fun _ => ⟨by rw [(hfd1 hK.1).2, show Q - 1 = k by omega], by rw [← hfQ, ← hK.2]; exact hmir3, by rw [← hc0]; exact h5, ((((((hcl.1.f 31 _ (by decide)).i 39 _ (by decide)).f 40 _ (by decide)).d 5 _ (by decide)).f 38 _ (by decide)).n 9 _ (by decide)), hcl.2⟩⟩
                  · have hdt : d < (pD (phC ρ)) := by
                      refine Nat.lt_of_not_le fun h => c_63 ?_
                      exact (nI_leI (by  omega) (by  omega)).mpr (by omega)
                    refine g_aload_n C dX7_size_66 0 rfl rfl ?_
                    refine g_get C dX7_size_67 wl27 rfl 6 (by decide) 4 rfl rfl rfl inX7_size_X7 ?_
                    refine g_iload C dX7_size_70 4 rfl ?_
                    refine g_aload_n C dX7_size_72 0 rfl rfl ?_
                    refine g_get C dX7_size_73 wl27 rfl 22 (by decide) 5 rfl rfl rfl inX7_size_X7 ?_
                    refine g_iload_n C dX7_size_76 3 rfl rfl ?_
                    refine g_dald (j := (odC ρ k)) C dX7_size_77 wl41 rfl (by omega) (by decide) ?_
                    refine g_dast (j := d) (σ' := uF (mwS τ (sF τ 41 (odC ρ k)) d) 31 (vf_upd (sF (mwS τ (sF τ 41 (odC ρ k)) d) 31) d (sF (mwS τ (sF τ 41 (odC ρ k)) d) 41 (odC ρ k)))) C dX7_size_78 wl31 rfl (by omega) (by decide) wsA31 ?_
                    refine g_eq (σ2 := mwS τ (sF τ 41 (odC ρ k)) (d + 1)) (lv2 := [(0, .ref ((xK X).2.2 27)), (1, .int (nI (tn c))), (2, .int (nI k)), (3, .int (nI (odC ρ k))), (4, .int (nI d))]) (st2 := []) (uF_step _ _ _ _ _) rfl rfl ?_
                    refine g_iinc (v := nI (d + 1)) (lv' := [(4, .int (nI (d + 1))), (0, .ref ((xK X).2.2 27)), (1, .int (nI (tn c))), (2, .int (nI k)), (3, .int (nI (odC ρ k)))]) C dX7_size_79 4 rfl (nI_1 d) (by decide) rfl ?_
                    refine g_goto (tgt := 57) C dX7_size_82 (by decide) ?_
                    refine g_lv [1, 2, 3, 4, 0] rfl ?_
                    exact ih57 (d + 1) (by omega) (by omega)
              refine g_lv [2, 3, 4, 1, 0] rfl ?_
              exact loop57 (pD (phC ρ) + 1) 0 (by omega) (Nat.zero_le _)
        refine g_lv [1, 2, 0] rfl ?_
        exact loop40 (n + 1) 0 (uN σ 5 (nI (cdSize n c))) (by omega) (Nat.zero_le _) ⟨Nat.zero_le _, fun h => (hfd1 h).1⟩ (by rw [hch.1]; exact hmir0) rfl ⟨(ClE.self σ).n 5 _ (by decide), rfl⟩
      · have hc1 : cdSize n c ≠ 0 := fun h => c_33 (by rw [h]; decide)
        refine g_iconst (v := nI 0) C dX7_size_36 (by decide +kernel) ?_
        refine g_iret C dX7_size_37 rfl ⟨Nat.le_of_ble_eq_true rfl, Nat.le_of_ble_eq_true rfl⟩ ?_
        rw [hF]
        exact ⟨fun _ => ⟨rfl, rfl⟩, fun h => absurd h hc1⟩
  · have hcd : cdSize n c = 1 := if_pos (of_decide_eq_false ((bI_ne _).mp c_7))
    refine g_iconst (v := nI 1) C dX7_size_10 (by decide +kernel) ?_
    refine g_goto (tgt := 26) C dX7_size_11 (by decide) ?_
    refine g_topi (y := nI (cdSize n c)) (by rw [hcd]) ?_
    refine g_put (σ' := uN σ 5 (nI (cdSize n c))) (ty := .int) C dX7_size_26 wl27 rfl 0 (by decide) 2 rfl rfl inX7_size_X7 tyX7_ok nmX7 rfl (by decide +kernel) rfl rfl (Nat.le_of_ble_eq_true rfl) wsN5 ?_
    refine g_aload_n C dX7_size_29 0 rfl rfl ?_
    refine g_get C dX7_size_30 wl27 rfl 0 (by decide) 2 rfl rfl rfl inX7_size_X7 ?_
    refine g_topi (y := nI (cdSize n c)) rfl ?_
    refine g_if_le (tgt := 38) C dX7_size_33 (by decide) (fun c_33 => ?_) (fun c_33 => ?_)
    · have hc0 : cdSize n c = 0 := nI_le0 (by omega) c_33
      have tc := inT (cdSize_0 hc0).1 (by decide)
      obtain ⟨Q, f, w0, fd, hQ, hch, hfQ, hfk, hfd1, hfd0⟩ := sz_ch (hz hc0)
      rw [hn] at hQ hfd0
      refine g_eq (σ2 := uN σ 5 (nI (cdSize n c))) (lv2 := [(0, .ref ((xK X).2.2 27)), (1, .int (nI (tn c)))]) (st2 := []) rfl (congrArg (fun z9 => ([(0, .ref ((xK X).2.2 27)), (1, .int z9)] : List (Nat × Value))) tc.1) rfl ?_
      refine g_iconst (v := nI 0) C dX7_size_38 (by decide +kernel) ?_
      refine g_istore_n (lv' := [(2, .int (nI 0)), (0, .ref ((xK X).2.2 27)), (1, .int (nI (tn c)))]) C dX7_size_39 rfl (by decide) rfl ?_
      have loop40 : ∀ (r9 : Nat) (k : Nat) (τ : gS), n - k < r9 → (k ≤ n) → (k ≤ Q ∧ (fd = true → k < Q)) → (Mir (f k) τ) → (sN τ 5 = nI (cdSize n c)) → (ClE σ τ ∧ sL τ = sL σ) → G X 5 0 0 τ [(0, .ref ((xK X).2.2 27)), (1, .int (nI (tn c))), (2, .int (nI k))] 40 [] := by
        intro r9
        induction r9 with
        | zero => intro k τ h9; exact absurd h9 (Nat.not_lt_zero _)
        | succ r9 ih40 =>
          intro k τ hm40 hk hkQ hmir h5 hcl
          have hz := mir_sz hmir
          have hfz := hch.sz (k := k) hkQ.1
          rw [hfz.1, hfz.2.2] at hz
          have hodk : odC (f k) = odC ρ := funext fun q => congrArg tn (congrFun hfz.2.1 q)
          rw [hodk, hn] at hz
          obtain ⟨hz10, hz6, hzO, hz7, hz16⟩ := hz
          refine g_iload_n C dX7_size_40 2 rfl rfl ?_
          refine g_aload_n C dX7_size_41 0 rfl rfl ?_
          refine g_get C dX7_size_42 wl27 rfl 21 (by decide) 1 rfl rfl rfl inX7_size_X7 ?_
          refine g_topi (y := nI n) hz10 ?_
          refine g_icmp_ge (tgt := 109) C dX7_size_45 (by decide) (fun c_45 => ?_) (fun c_45 => ?_)
          · have hke : k = n := by
              have h9 := (nI_leI (by  omega) (by  omega)).mp c_45
              omega
            refine g_iconst (v := (-1)) C dX7_size_109 (by decide +kernel) ?_
            refine g_iret C dX7_size_110 rfl ⟨Nat.le_of_ble_eq_true rfl, Nat.le_of_ble_eq_true rfl⟩ ?_
            rw [hF]
            refine ⟨fun h => absurd hc0 h, fun _ => ?_⟩
            have hfd : fd = false := by
              cases e : fd with
              | false => rfl
              | true => have := hkQ.2 e; omega
            have h9 := hfd0 hfd
            refine ⟨by rw [h9.2], ?_, by rw [← hc0]; exact h5, hcl.1, hcl.2⟩
            rw [← hfQ, h9.1, ← hke]
            exact hmir
          · have hkt : k < n := by
              refine Nat.lt_of_not_le fun h => c_45 ?_
              exact (nI_leI (by  omega) (by  omega)).mpr (by omega)
            have hkQ2 : k < Q := by
              cases e : fd with
              | true => exact hkQ.2 e
              | false => have := (hfd0 e).1; omega
            have hsn9 := (hzO k hkt).1
            obtain ⟨H2, H3, nj2, sv2, sv3, hD2, hM2, hM3, hmir3, hK⟩ := mir_step (c := tn c) (s := (odC ρ k)) tc.2 (by rw [hfz.1, hn]; exact hsn9) (w0 k) hmir
            rw [hfz.2.2] at hD2 hM2 hM3 hmir3 hK
            rw [← hch.2 k hkQ2] at hmir3 hK
            rw [hfk k hkQ2] at hK
            have hM2w := hM2.1
            refine g_aload_n C dX7_size_48 0 rfl rfl ?_
            refine g_iload_n C dX7_size_49 2 rfl rfl ?_
            refine g_callV (As := [.int (nI k)]) (rest := []) C dX7_size_50 (kX7_sizeAt (xl X) (xK X) C.hD τ (n := n) (k := k) hz10 hz6 (by omega)) wl27 rfl 1 gX7_size_X7_sizeAt rfl (by decide +kernel) ⟨Nat.le_of_ble_eq_true rfl, Nat.le_of_ble_eq_true rfl⟩ ⟨Nat.le_of_ble_eq_true rfl, Nat.le_of_ble_eq_true rfl⟩ rfl rfl (Nat.le_of_ble_eq_true rfl) (fun rv9 σ9 h9 => ?_)
            obtain ⟨h9a, h9b⟩ := h9
            refine g_eq (σ2 := τ) (lv2 := [(0, .ref ((xK X).2.2 27)), (1, .int (nI (tn c))), (2, .int (nI k))]) (st2 := [.int (sei (srch (rkP (sI τ 42) n k) n 0))]) h9b rfl (by rw [h9a]; rfl) ?_
            refine g_topi (y := nI (odC ρ k)) (by rw [hzO.srch hkt]; rfl) ?_
            refine g_istore_n (lv' := [(3, .int (nI (odC ρ k))), (0, .ref ((xK X).2.2 27)), (1, .int (nI (tn c))), (2, .int (nI k))]) C dX7_size_53 rfl (by decide) rfl ?_
            refine g_iconst (v := nI 0) C dX7_size_54 (by decide +kernel) ?_
            refine g_istore (lv' := [(4, .int (nI 0)), (3, .int (nI (odC ρ k))), (0, .ref ((xK X).2.2 27)), (1, .int (nI (tn c))), (2, .int (nI k))]) C dX7_size_55 (by decide) rfl ?_
            refine g_eq (σ2 := mwS τ (sF τ 41 (odC ρ k)) 0) (lv2 := [(4, .int (nI 0)), (3, .int (nI (odC ρ k))), (0, .ref ((xK X).2.2 27)), (1, .int (nI (tn c))), (2, .int (nI k))]) (st2 := []) (swW_0 τ (sF τ 41 (odC ρ k))) rfl rfl ?_
            have loop57 : ∀ (r9 : Nat) (d : Nat), pD (phC ρ) - d < r9 → (d ≤ pD (phC ρ)) → G X 5 0 0 (mwS τ (sF τ 41 (odC ρ k)) d) [(0, .ref ((xK X).2.2 27)), (1, .int (nI (tn c))), (2, .int (nI k)), (3, .int (nI (odC ρ k))), (4, .int (nI d))] 57 [] := by
              intro r9
              induction r9 with
              | zero => intro d h9; exact absurd h9 (Nat.not_lt_zero _)
              | succ r9 ih57 =>
                intro d hm57 hd
                refine g_iload C dX7_size_57 4 rfl ?_
                refine g_aload_n C dX7_size_59 0 rfl rfl ?_
                refine g_get C dX7_size_60 wl27 rfl 2 (by decide) 3 rfl rfl rfl inX7_size_X7 ?_
                refine g_topi (y := nI (pD (phC ρ))) hz7 ?_
                refine g_icmp_ge (tgt := 85) C dX7_size_63 (by decide) (fun c_63 => ?_) (fun c_63 => ?_)
                · have hde : d = (pD (phC ρ)) := by
                    have h9 := (nI_leI (by  omega) (by  omega)).mp c_63
                    omega
                  refine g_eq (σ2 := mwS τ (sF τ 41 (odC ρ k)) (pD (phC ρ))) (lv2 := [(0, .ref ((xK X).2.2 27)), (1, .int (nI (tn c))), (2, .int (nI k)), (3, .int (nI (odC ρ k))), (4, .int (nI d))]) (st2 := []) (by rw [hde]) rfl rfl ?_
                  refine g_aload_n C dX7_size_85 0 rfl rfl ?_
                  refine g_iload_n C dX7_size_86 1 rfl rfl ?_
                  refine g_callV (As := [.int (nI (tn c))]) (rest := []) C dX7_size_87 (kX7_solveNow (xl X) (xK X) C.hD (mwS τ (sF τ 41 (odC ρ k)) (pD (phC ρ))) hM2.1 hM2.2.1 (c := tn c) tc.2) wl27 rfl 1 gX7_size_X7_solveNow rfl (by decide +kernel) ⟨Nat.le_of_ble_eq_true rfl, Nat.le_of_ble_eq_true rfl⟩ ⟨Nat.le_of_ble_eq_true rfl, Nat.le_of_ble_eq_true rfl⟩ rfl rfl (Nat.le_of_ble_eq_true rfl) (fun rv9 σ9 h9 => ?_)
                  obtain ⟨h9a, h9b⟩ := h9
                  refine g_eq (σ2 := mbF (mwS τ (sF τ 41 (odC ρ k)) (pD (phC ρ))) (tn c) (blM H2 (mwS τ (sF τ 41 (odC ρ k)) (pD (phC ρ))) (tn c)).2.1 (blM H2 (mwS τ (sF τ 41 (odC ρ k)) (pD (phC ρ))) (tn c)).2.2 (bI (blM H2 (mwS τ (sF τ 41 (odC ρ k)) (pD (phC ρ))) (tn c)).1.isSome)) (lv2 := [(0, .ref ((xK X).2.2 27)), (1, .int (nI (tn c))), (2, .int (nI k)), (3, .int (nI (odC ρ k))), (4, .int (nI d))]) (st2 := [.int (sei (blM H2 (mwS τ (sF τ 41 (odC ρ k)) (pD (phC ρ))) (tn c)).1)]) h9b rfl (by rw [h9a]; rfl) ?_
                  refine g_iconst (v := (-1)) C dX7_size_90 (by decide +kernel) ?_
                  refine g_icmp_eq (tgt := 103) C dX7_size_91 (by decide) (fun c_91 => ?_) (fun c_91 => ?_)
                  · have hs0 : (blM H2 (mwS τ (sF τ 41 (odC ρ k)) (pD (phC ρ))) (tn c)).1.isSome = false := sei_no (fun q hq => by have := blN_le (f := 10) hq; omega) c_91
                    have hnx : fd = true → k + 1 < Q := fun h => by
                      rw [hs0, h, Bool.false_and, Bool.true_and] at hK
                      have := of_decide_eq_false hK
                      omega
                    refine g_iinc (v := nI (k + 1)) (lv' := [(2, .int (nI (k + 1))), (0, .ref ((xK X).2.2 27)), (1, .int (nI (tn c))), (3, .int (nI (odC ρ k))), (4, .int (nI d))]) C dX7_size_103 2 rfl (nI_1 k) (by decide) rfl ?_
                    refine g_goto (tgt := 40) C dX7_size_106 (by decide) ?_
                    refine g_lv [1, 2, 0] rfl ?_
                    exact (ih40 (k + 1) (mbF (mwS τ (sF τ 41 (odC ρ k)) (pD (phC ρ))) (tn c) (blM H2 (mwS τ (sF τ 41 (odC ρ k)) (pD (phC ρ))) (tn c)).2.1 (blM H2 (mwS τ (sF τ 41 (odC ρ k)) (pD (phC ρ))) (tn c)).2.2 (bI (blM H2 (mwS τ (sF τ 41 (odC ρ k)) (pD (phC ρ))) (tn c)).1.isSome)) (by omega) (by omega) ⟨by omega, hnx⟩ hmir3 h5 ⟨((((((hcl.1.f 31 _ (by decide)).i 39 _ (by decide)).f 40 _ (by decide)).d 5 _ (by decide)).f 38 _ (by decide)).n 9 _ (by decide)), hcl.2⟩)
                  · have hs1 : (blM H2 (mwS τ (sF τ 41 (odC ρ k)) (pD (phC ρ))) (tn c)).1.isSome = true := sei_yes c_91
                    refine g_aload_n C dX7_size_94 0 rfl rfl ?_
                    refine g_callV (As := []) (rest := []) C dX7_size_95 (kX7_isEnough (xl X) (xK X) C.hD (mbF (mwS τ (sF τ 41 (odC ρ k)) (pD (phC ρ))) (tn c) (blM H2 (mwS τ (sF τ 41 (odC ρ k)) (pD (phC ρ))) (tn c)).2.1 (blM H2 (mwS τ (sF τ 41 (odC ρ k)) (pD (phC ρ))) (tn c)).2.2 (bI (blM H2 (mwS τ (sF τ 41 (odC ρ k)) (pD (phC ρ))) (tn c)).1.isSome)) hM3.1 hM3.2.1 hM3.2.2.1 hM3.2.2.2.1) wl27 rfl 0 gX7_size_X7_isEnough rfl (by decide +kernel) ⟨Nat.le_of_ble_eq_true rfl, Nat.le_of_ble_eq_true rfl⟩ ⟨Nat.le_of_ble_eq_true rfl, Nat.le_of_ble_eq_true rfl⟩ rfl rfl (Nat.le_of_ble_eq_true rfl) (fun rv9 σ9 h9 => ?_)
                    obtain ⟨h9a, h9b⟩ := h9
                    refine g_eq (σ2 := mbF (mwS τ (sF τ 41 (odC ρ k)) (pD (phC ρ))) (tn c) (blM H2 (mwS τ (sF τ 41 (odC ρ k)) (pD (phC ρ))) (tn c)).2.1 (blM H2 (mwS τ (sF τ 41 (odC ρ k)) (pD (phC ρ))) (tn c)).2.2 (bI (blM H2 (mwS τ (sF τ 41 (odC ρ k)) (pD (phC ρ))) (tn c)).1.isSome)) (lv2 := [(0, .ref ((xK X).2.2 27)), (1, .int (nI (tn c))), (2, .int (nI k)), (3, .int (nI (odC ρ k))), (4, .int (nI d))]) (st2 := [.int (bI (allB (srB H3 (blM H2 (mwS τ (sF τ 41 (odC ρ k)) (pD (phC ρ))) (tn c)).2.1.1 (blM H2 (mwS τ (sF τ 41 (odC ρ k)) (pD (phC ρ))) (tn c)).2.2) (pM H3)))]) h9b rfl (by rw [h9a]; rfl) ?_
                    refine g_if_eq (tgt := 103) C dX7_size_98 (by decide) (fun c_98 => ?_) (fun c_98 => ?_)
                    · have he0 : allB (srB H3 (blM H2 (mwS τ (sF τ 41 (odC ρ k)) (pD (phC ρ))) (tn c)).2.1.1 (blM H2 (mwS τ (sF τ 41 (odC ρ k)) (pD (phC ρ))) (tn c)).2.2) (pM H3) = false := (bI_ne _).mp c_98
                      have hnx : fd = true → k + 1 < Q := fun h => by
                        rw [hs1, he0, h, Bool.true_and, Bool.and_false] at hK
                        have := of_decide_eq_false hK
                        omega
                      refine g_iinc (v := nI (k + 1)) (lv' := [(2, .int (nI (k + 1))), (0, .ref ((xK X).2.2 27)), (1, .int (nI (tn c))), (3, .int (nI (odC ρ k))), (4, .int (nI d))]) C dX7_size_103 2 rfl (nI_1 k) (by decide) rfl ?_
                      refine g_goto (tgt := 40) C dX7_size_106 (by decide) ?_
                      refine g_lv [1, 2, 0] rfl ?_
                      exact (ih40 (k + 1) (mbF (mwS τ (sF τ 41 (odC ρ k)) (pD (phC ρ))) (tn c) (blM H2 (mwS τ (sF τ 41 (odC ρ k)) (pD (phC ρ))) (tn c)).2.1 (blM H2 (mwS τ (sF τ 41 (odC ρ k)) (pD (phC ρ))) (tn c)).2.2 (bI (blM H2 (mwS τ (sF τ 41 (odC ρ k)) (pD (phC ρ))) (tn c)).1.isSome)) (by omega) (by omega) ⟨by omega, hnx⟩ hmir3 h5 ⟨((((((hcl.1.f 31 _ (by decide)).i 39 _ (by decide)).f 40 _ (by decide)).d 5 _ (by decide)).f 38 _ (by decide)).n 9 _ (by decide)), hcl.2⟩)
                    · have he1 : allB (srB H3 (blM H2 (mwS τ (sF τ 41 (odC ρ k)) (pD (phC ρ))) (tn c)).2.1.1 (blM H2 (mwS τ (sF τ 41 (odC ρ k)) (pD (phC ρ))) (tn c)).2.2) (pM H3) = true := bIt c_98
                      rw [hs1, he1, Bool.true_and, Bool.and_eq_true, decide_eq_true_eq] at hK
                      refine g_iload_n C dX7_size_101 3 rfl rfl ?_
                      refine g_iret C dX7_size_102 rfl ⟨Nat.le_of_ble_eq_true rfl, Nat.le_of_ble_eq_true rfl⟩ ?_
                      rw [hF]
                      exact ⟨fun h => absurd hc0 h, fun _ => ⟨by rw [(hfd1 hK.1).2, show Q - 1 = k by omega], by rw [← hfQ, ← hK.2]; exact hmir3, by rw [← hc0]; exact h5, ((((((hcl.1.f 31 _ (by decide)).i 39 _ (by decide)).f 40 _ (by decide)).d 5 _ (by decide)).f 38 _ (by decide)).n 9 _ (by decide)), hcl.2⟩⟩
                · have hdt : d < (pD (phC ρ)) := by
                    refine Nat.lt_of_not_le fun h => c_63 ?_
                    exact (nI_leI (by  omega) (by  omega)).mpr (by omega)
                  refine g_aload_n C dX7_size_66 0 rfl rfl ?_
                  refine g_get C dX7_size_67 wl27 rfl 6 (by decide) 4 rfl rfl rfl inX7_size_X7 ?_
                  refine g_iload C dX7_size_70 4 rfl ?_
                  refine g_aload_n C dX7_size_72 0 rfl rfl ?_
                  refine g_get C dX7_size_73 wl27 rfl 22 (by decide) 5 rfl rfl rfl inX7_size_X7 ?_
                  refine g_iload_n C dX7_size_76 3 rfl rfl ?_
                  refine g_dald (j := (odC ρ k)) C dX7_size_77 wl41 rfl (by omega) (by decide) ?_
                  refine g_dast (j := d) (σ' := uF (mwS τ (sF τ 41 (odC ρ k)) d) 31 (vf_upd (sF (mwS τ (sF τ 41 (odC ρ k)) d) 31) d (sF (mwS τ (sF τ 41 (odC ρ k)) d) 41 (odC ρ k)))) C dX7_size_78 wl31 rfl (by omega) (by decide) wsA31 ?_
                  refine g_eq (σ2 := mwS τ (sF τ 41 (odC ρ k)) (d + 1)) (lv2 := [(0, .ref ((xK X).2.2 27)), (1, .int (nI (tn c))), (2, .int (nI k)), (3, .int (nI (odC ρ k))), (4, .int (nI d))]) (st2 := []) (uF_step _ _ _ _ _) rfl rfl ?_
                  refine g_iinc (v := nI (d + 1)) (lv' := [(4, .int (nI (d + 1))), (0, .ref ((xK X).2.2 27)), (1, .int (nI (tn c))), (2, .int (nI k)), (3, .int (nI (odC ρ k)))]) C dX7_size_79 4 rfl (nI_1 d) (by decide) rfl ?_
                  refine g_goto (tgt := 57) C dX7_size_82 (by decide) ?_
                  refine g_lv [1, 2, 3, 4, 0] rfl ?_
                  exact ih57 (d + 1) (by omega) (by omega)
            refine g_lv [2, 3, 4, 1, 0] rfl ?_
            exact loop57 (pD (phC ρ) + 1) 0 (by omega) (Nat.zero_le _)
      refine g_lv [1, 2, 0] rfl ?_
      exact loop40 (n + 1) 0 (uN σ 5 (nI (cdSize n c))) (by omega) (Nat.zero_le _) ⟨Nat.zero_le _, fun h => (hfd1 h).1⟩ (by rw [hch.1]; exact hmir0) rfl ⟨(ClE.self σ).n 5 _ (by decide), rfl⟩
    · have hc1 : cdSize n c ≠ 0 := fun h => c_33 (by rw [h]; decide)
      refine g_iconst (v := nI 0) C dX7_size_36 (by decide +kernel) ?_
      refine g_iret C dX7_size_37 rfl ⟨Nat.le_of_ble_eq_true rfl, Nat.le_of_ble_eq_true rfl⟩ ?_
      rw [hF]
      exact ⟨fun _ => ⟨rfl, rfl⟩, fun h => absurd h hc1⟩

theorem ClE.symm {a b : gS} (h : ClE a b) : ClE b a := ⟨fun k hk => (h.1 k hk).symm, fun k hk => (h.2.1 k hk).symm, fun k hk => (h.2.2.1 k hk).symm, fun k hk => (h.2.2.2 k hk).symm⟩
theorem Rl_both {κ t : gS} (c : ClE κ t) (m : MoE κ t) (h : Rl κ) : Rl t := by
  obtain ⟨hI, hE, ⟨n6, n7, n8, n9, n10⟩, ⟨i28, i29, i35, i39, i33, i42⟩, ⟨f30, f31, f32, f34, f36, f38, f40, f41⟩, ⟨d3, d4, d5⟩, hU⟩ := h
  obtain ⟨q1, q2, q3, q4⟩ := id c
  obtain ⟨m1, m2, m3, m4⟩ := m
  refine ⟨hI.cl c, hE.cl c, ⟨?_, ?_, ?_, ?_, ?_⟩, ⟨?_, ?_, ?_, ?_, ?_, ?_⟩, ⟨?_, ?_, ?_, ?_, ?_, ?_, ?_, ?_⟩, ⟨?_, ?_, ?_⟩, fun k j hk hj => ?_⟩
  · rw [q1 0 (by decide), m1 6 (by decide)]; exact n6
  · rw [q1 2 (by decide), m1 7 (by decide)]; exact n7
  · rw [q1 3 (by decide), m1 8 (by decide)]; exact n8
  · rw [q1 1 (by decide), m1 9 (by decide)]; exact n9
  · rw [q1 4 (by decide), m1 10 (by decide)]; exact n10
  · rw [q3 9 (by decide), m3 28 (by decide)]; exact i28
  · rw [q3 10 (by decide), m3 29 (by decide)]; exact i29
  · rw [q3 16 (by decide), m3 35 (by decide)]; exact i35
  · rw [q3 19 (by decide), m3 39 (by decide)]; exact i39
  · rw [q3 23 (by decide), m3 33 (by decide)]; exact i33
  · rw [q3 25 (by decide), m3 42 (by decide)]; exact i42
  · rw [q4 11 (by decide), m4 30 (by decide)]; exact f30
  · rw [q4 12 (by decide), m4 31 (by decide)]; exact f31
  · rw [q4 21 (by decide), m4 32 (by decide)]; exact f32
  · rw [q4 22 (by decide), m4 34 (by decide)]; exact f34
  · rw [q4 17 (by decide), m4 36 (by decide)]; exact f36
  · rw [q4 18 (by decide), m4 38 (by decide)]; exact f38
  · rw [q4 7 (by decide), m4 40 (by decide)]; exact f40
  · rw [q4 24 (by decide), m4 41 (by decide)]; exact f41
  · rw [q2 0 (by decide), m2 3 (by decide)]; exact d3
  · rw [q2 1 (by decide), m2 4 (by decide)]; exact d4
  · rw [q2 2 (by decide), m2 5 (by decide)]; exact d5
  · rw [us_cl c, m3 37 (by decide)]
    exact hU k j hk hj
theorem mo_trS {σ τ : gS} (h : MoE σ τ) (c s : Nat) (w : Nat → UInt64) : MoE σ (trS τ c s w) :=
  (mo_ba ((((((h.f 12 _ (by decide)).f 13 _ (by decide)).i 19 _ (by decide)).f 18 _ (by decide)).d 2 _ (by decide)).f 7 _ (by decide)) w _ _).n 1 _ (by decide)
theorem mo_trR {σ : gS} {c : Nat} : ∀ {q : Nat} {τ : gS}, trR σ c q τ → MoE σ τ
  | 0, τ, h => by
    have h : τ = σ := h
    rw [h]; exact MoE.self σ
  | q + 1, τ, ⟨τ0, w0, h1, h2, _⟩ => by rw [h2]; exact mo_trS (mo_trR h1) _ _ _
theorem mo_szR {σ τ : gS} {c : Nat} {r : Option Value} (h : szR σ c r τ) : MoE σ τ := by
  rcases h with ⟨q, τ0, w0, hq, h1, h2, _, _⟩ | ⟨h1, _⟩
  · rw [h2]; exact mo_trS (mo_trR h1) _ _ _
  · exact mo_trR h1
theorem st_size {σ σ1 : gS} {r1 : Option Value} {c : Int32} (h : Rl σ) (h1 : Wr σ (cdSize (nS σ) c) (fun t => ∃ (v : Int32) (τ : gS), szR σ (tn c) (some (.int v)) τ ∧ t = outL τ v.toInt64) r1 σ1) : MoE σ σ1 ∧ Mir σ (uN σ1 5 (nI (cdSize (nS σ) c))) ∧ ∃ (v : Int32) (τc : gS), (cdSize (nS σ) c = 0 → szR σ (tn c) (some (.int v)) τc) ∧ ∀ r t, Mr σ1 (cdSize (nS σ) c) (some (.int (nI 0))) (fun r t => r = some (.int v) ∧ Mir τc t ∧ sN t 5 = nI 0 ∧ ClE σ1 t ∧ sL t = sL σ1) r t → FinI (cdSize (nS σ) c) r1 r t := by
  have m : MoE σ σ1 := mo_W h1 (fun t ⟨v, τ, h2, e⟩ => by rw [e]; exact (mo_szR h2).l _)
  refine ⟨m, ⟨σ, h, ClE.self σ, m.n 5 _ (by decide)⟩, ?_⟩
  by_cases hc : cdSize (nS σ) c = 0
  · obtain ⟨v, τc, h2, e1⟩ := h1.2.1 hc
    refine ⟨v, τc, fun _ => h2, fun r t h3 => ?_⟩
    obtain ⟨e2, ⟨κ, k1, k2, k3⟩, e5, k4, k5⟩ := h3.2 hc
    refine ⟨h1.1, by rw [hc]; exact e5, ?_, v, e2, fun _ => ?_⟩
    · have k6 : ClE τc t := by rw [e1] at k4; exact k4
      exact Rl_both (k2.symm.trans k6) k3 k1
    · rw [k5, e1]
      show vp_updL (sL τc) 0 _ 0 = _
      exact vp_L
  · exact ⟨0, σ, fun z => absurd z hc, fun r t h3 => st_errI h h1 h3 hc⟩
