/-! values that depend on a sum's or a product's value alone; doubles answered -/
def rF (S : Int) : Int := FP.Core.zval FP.Core.b64 (FP.Core.round FP.Core.b64 (.fin (decide (S < 0)) S.natAbs FP.Core.b64.qmin))
def rG (S : Int) : Int := FP.Core.zval FP.Core.b64 (FP.Core.round FP.Core.b64 (.fin (decide (S < 0)) S.natAbs (2 * FP.Core.b64.qmin)))
theorem rF_0 : rF 0 = 0 := by decide +kernel
theorem rG_0 : rG 0 = 0 := by decide +kernel
theorem rF_neg (S : Int) : rF (-S) = -rF S := by
  by_cases h : S = 0
  · subst h
    show rF 0 = - rF 0
    rw [rF_0]; rfl
  · unfold rF
    rw [← FP.Core.zval_negate, FP.Core.negate_round, Int.natAbs_neg]
    show _ = FP.Core.zval _ (FP.Core.round _ (.fin (!decide (S < 0)) S.natAbs _))
    have e : decide (-S < 0) = !decide (S < 0) := by
      by_cases h2 : S < 0
      · rw [decide_eq_true h2, decide_eq_false (by omega)]; rfl
      · rw [decide_eq_false h2, decide_eq_true (by omega)]; rfl
    rw [e]
theorem rG_neg (S : Int) : rG (-S) = -rG S := by
  by_cases h : S = 0
  · subst h
    show rG 0 = - rG 0
    rw [rG_0]; rfl
  · unfold rG
    rw [← FP.Core.zval_negate, FP.Core.negate_round, Int.natAbs_neg]
    show _ = FP.Core.zval _ (FP.Core.round _ (.fin (!decide (S < 0)) S.natAbs _))
    have e : decide (-S < 0) = !decide (S < 0) := by
      by_cases h2 : S < 0
      · rw [decide_eq_true h2, decide_eq_false (by omega)]; rfl
      · rw [decide_eq_false h2, decide_eq_true (by omega)]; rfl
    rw [e]
theorem sg_of {s : Bool} {n : Nat} {S : Int} (h : FP.Core.signed s n = S) (h0 : S ≠ 0) : n = S.natAbs ∧ s = decide (S < 0) := by
  subst h
  rw [FP.Core.natAbs_signed]
  refine ⟨rfl, (FP.Core.signed_lt_zero s ?_).symm⟩
  exact Nat.pos_of_ne_zero fun z => h0 (by rw [z]; exact FP.Core.signed_zero s)
theorem dadd_F {x y : UInt64} (hx : dF x) (hy : dF y) : dv (FP.dadd x y) = rF (dv x + dv y) := by
  by_cases h0 : dv x + dv y = 0
  · have h1 := dadd_le (v := FP.dconst0) hx hy d0_F.nn (by rw [d0_v]; omega)
    have h2 := dadd_ge (v := FP.dconst0) hx hy d0_F.nn (by rw [d0_v]; omega)
    rw [d0_v] at h1 h2
    rw [h0, rF_0]
    omega
  · obtain ⟨s, c, q, ex⟩ := hx
    obtain ⟨t, d, r, ey⟩ := hy
    have fx := ft (x := x)
    have fy := ft (x := y)
    unfold fv at fx fy
    rw [ex] at fx
    rw [ey] at fy
    obtain ⟨sg, n, e, h1, h2, h3⟩ := FP.Core.sum_units fx fy
    have hvx : dv x = FP.Core.zval FP.Core.b64 (.fin s c q) := by unfold dv fv; rw [ex]
    have hvy : dv y = FP.Core.zval FP.Core.b64 (.fin t d r) := by unfold dv fv; rw [ey]
    rw [← hvx, ← hvy] at h3
    obtain ⟨g1, g2⟩ := sg_of h3 h0
    unfold rF
    rw [← g1, ← g2, FP.Core.round_inUnits sg n h2, ← h1, ← ex, ← ey, ← FP.Core.val64_dadd, ← FP.dadd_core]
    rfl
theorem dsub_F {x y : UInt64} (hx : dF x) (hy : dF y) : dv (FP.dsub x y) = rF (dv x - dv y) := by
  rw [dsub_add hy, dadd_F hx (dneg_F hy), dneg_v, Int.sub_eq_add_neg]
theorem dmul_G {x y : UInt64} (hx : dF x) (hy : dF y) : dv (FP.dmul x y) = rG (dv x * dv y) := by
  by_cases h0 : dv x * dv y = 0
  · have h1 := dmul_le (v := FP.dconst0) hx hy d0_F.nn (by rw [d0_v]; omega)
    have h2 := dmul_ge (v := FP.dconst0) hx hy d0_F.nn (by rw [d0_v]; omega)
    rw [d0_v] at h1 h2
    rw [h0, rG_0]
    omega
  · obtain ⟨s, c, q, h1, h2, h3⟩ := dmul_ex hx hy
    obtain ⟨g1, g2⟩ := sg_of h3 h0
    unfold rG
    rw [← g1, ← g2, FP.Core.round_inUnits s c h2, ← h1]
    rfl
theorem accF_v {a b : UInt64} {p : Nat → Bool} {g : Nat → UInt64} {k : Nat} (ha : Bd k a) (hb : Bd k b) (e : dv a = dv b) : ∀ {n : Nat}, k + n < 100 → (∀ i, i < n → p i = true → Bd k (g i)) → dv (accF a p g n) = dv (accF b p g n)
  | 0, _, _ => e
  | n + 1, hn, hg => by
    have ih := accF_v ha hb e (n := n) (by omega) (fun i hi => hg i (by omega))
    cases hp : p n with
    | false => rw [accF_no hp, accF_no hp]; exact ih
    | true =>
      have h1 := (accF_B ha (n := n) (by omega) (fun i hi => hg i (Nat.lt_succ_of_lt hi))).F
      have h2 := (accF_B hb (n := n) (by omega) (fun i hi => hg i (Nat.lt_succ_of_lt hi))).F
      have h3 := (hg n (by omega) hp).F
      rw [accF_yes hp, accF_yes hp, dadd_F h1 h3, dadd_F h2 h3, ih]
theorem fl_v {H : Ph} (hp : PhF H) {P : Nat → UInt64} (hP : ∀ j, j < 10 → okP (P j)) (hab : ∀ d, d < pD H → pA H d ≠ pB H d) {j : Nat} (hj : j < 10) : ∀ n, n ≤ pD H → dv (accF FP.dconst0 (atj H j) (fun d => FP.dmul (pE H d) (FP.dsub (P (oth H j d)) (P j))) n) = dv (flM H P j n)
  | 0, _ => rfl
  | n + 1, hn => by
    have ih := fl_v hp hP hab hj n (by omega)
    have hd := hp.2.2.1 n (by omega)
    have hne := hab n (by omega)
    have h16 := hp.1
    have bE := hd.1.1.F
    have bA := (hP _ hd.2.1).B.F
    have bB := (hP _ hd.2.2).B.F
    have g1 := (accF_B (d0_B 35) (n := n) (p := atj H j) (g := fun d => FP.dmul (pE H d) (FP.dsub (P (oth H j d)) (P j))) (by omega) (fun d hd _ => flo_g hp hP (by omega) (oth_lt hp (by omega)) hj)).F
    have g2 := (flM_B hp hP j n (by omega)).F
    rw [flM_up]
    by_cases hB : pB H n = j
    · subst hB
      have ha : atj H (pB H n) n = true := by unfold atj; rw [decide_eq_true rfl, Bool.or_true]
      have ho : oth H (pB H n) n = pA H n := if_neg hne
      rw [if_pos rfl, accF_yes ha]
      show dv (FP.dadd _ (FP.dmul (pE H n) (FP.dsub (P (oth H (pB H n) n)) (P (pB H n))))) = _
      rw [ho]
      have h3 : dF (flw H P n) := (flx_B hp hP (d := n) (by omega)).F
      show dv (FP.dadd _ (flw H P n)) = _
      rw [dadd_F g1 h3, dadd_F g2 h3, ih]
    · rw [if_neg hB]
      by_cases hA : pA H n = j
      · subst hA
        have ha : atj H (pA H n) n = true := by unfold atj; rw [decide_eq_true rfl]; rfl
        have ho : oth H (pA H n) n = pB H n := if_pos rfl
        rw [if_pos rfl, accF_yes ha]
        show dv (FP.dadd _ (FP.dmul (pE H n) (FP.dsub (P (oth H (pA H n) n)) (P (pA H n))))) = _
        rw [ho]
        have bS := (flo_s (h := H) hP hd.2.1 hd.2.2).F
        have bT := (flo_s (h := H) hP hd.2.2 hd.2.1).F
        have bU := (flo_g hp hP (d := n) (by omega) hd.2.2 hd.2.1).F
        have h3 : dF (flw H P n) := (flx_B hp hP (d := n) (by omega)).F
        have key : dv (FP.dmul (pE H n) (FP.dsub (P (pB H n)) (P (pA H n)))) = - dv (flw H P n) := by
          show _ = - dv (FP.dmul (pE H n) (FP.dsub (P (pA H n)) (P (pB H n))))
          rw [dmul_G bE bT, dmul_G bE bS, dsub_F bB bA, dsub_F bA bB, ← rG_neg, ← Int.mul_neg, ← rF_neg]
          congr 3
          omega
        rw [dadd_F g1 bU, dsub_F g2 h3, ih, key, Int.sub_eq_add_neg]
      · rw [if_neg hA, accF_no (by unfold atj; rw [decide_eq_false hA, decide_eq_false hB]; rfl)]
        exact ih
theorem finD {σ σ1 t : gS} {cd : Nat} {r1 r : Option Value} {x y : UInt64} (h : Rl σ) (h1 : Wr σ cd (fun t => t = outF σ x) r1 σ1) (h2 : Mr σ1 cd (some (.double FP.dconst0)) (fun r t => r = some (.double y) ∧ t = uN σ1 5 (nI 0)) r t) (he : cd = 0 → dF x ∧ dF y ∧ dv x = dv y) : FinD cd r1 r t := by
  by_cases hc : cd = 0
  · have e1 := h1.2.1 hc
    obtain ⟨e2, e3⟩ := h2.2 hc
    refine ⟨h1.1, ?_, ?_, _, e2, fun _ => ?_⟩
    · rw [e3, hc]; rfl
    · have h9 : Rl (outF σ x) := by
        have c : ClE σ (outF σ x) := (ClE.self σ).f 44 _ (by decide)
        exact ⟨h.1.cl c, h.2.1.cl c, h.2.2.1, h.2.2.2.1, h.2.2.2.2.1, h.2.2.2.2.2.1, h.2.2.2.2.2.2⟩
      rw [e3, e1]
      exact h9.thr _
    · rw [e3, e1]
      show dF (vf_upd (sF σ 44) 0 x 0) ∧ _ ∧ dv (vf_upd (sF σ 44) 0 x 0) = _
      rw [vf_at]
      exact he hc
  · exact st_errD h h1 h2 hc
theorem mo_F {σ σ1 : gS} {cd : Nat} {r1 : Option Value} {x : UInt64} (h1 : Wr σ cd (fun t => t = outF σ x) r1 σ1) : MoE σ σ1 := mo_W h1 (fun t e => by rw [e]; exact (MoE.self σ).f 44 _ (by decide))
theorem st_at {σ σ1 : gS} {r1 : Option Value} {a b : Int32} (h : Rl σ) (h1 : Wr σ (cdQ (nJ σ) 2 (svC σ) a b) (fun t => t = outF σ (atV σ (tn a) (tn b))) r1 σ1) : MoE σ σ1 ∧ ∀ r t, Mr σ1 (cdQ (nJ σ) 2 (svC σ) a b) (some (.double FP.dconst0)) (fun r t => r = some (.double (atM (phC σ) (sF σ1 40) (sF σ1 38) (tn a) (tn b))) ∧ t = uN σ1 5 (nI 0)) r t → FinD (cdQ (nJ σ) 2 (svC σ) a b) r1 r t := by
  refine ⟨mo_F h1, fun r t h2 => finD h h1 h2 fun hc => ?_⟩
  have hab := cdQ_0 hc
  have hj := h.1.j
  have ta := (inT hab.1 (by omega)).2
  have m := mo_F h1
  have e40 : sF σ1 40 = sF σ 7 := (m.2.2.2 40 (by decide)).trans h.2.2.2.2.1.2.2.2.2.2.2.1
  have e38 : sF σ1 38 = sF σ 18 := (m.2.2.2 38 (by decide)).trans h.2.2.2.2.1.2.2.2.2.2.1
  rw [e40, e38]
  unfold atV atM
  have hp := h.1.p
  by_cases hb : tn b = 0
  · rw [if_pos hb, if_pos hb]
    have h3 := (h.1.P (tn a) (by omega)).1
    exact ⟨h3, h3, rfl⟩
  · rw [if_neg hb, if_neg hb]
    by_cases ha : tn a = 0
    · rw [if_pos ha, if_pos ha]
      exact ⟨d0_F, d0_F, rfl⟩
    · rw [if_neg ha, if_neg ha]
      unfold rsV
      have b1 := floV_B hp h.1.P (j := tn a) (by omega)
      have b2 : Bd 51 (flM (phC σ) (sF σ 7) (tn a) (pD (phC σ))) := (flM_B hp h.1.P (tn a) _ (Nat.le_refl _)).mono (by have := hp.1; omega)
      have hg : ∀ i, i < pM (phC σ) → opAt (phC σ) (tn a) i = true → Bd 51 (drV (phC σ) (sF σ 7) (sF σ 18) i) := fun i hi _ => (drV_B hp h.1.P h.1.G hi).2.2.1.mono (by decide)
      have h8 := hp.2.1
      exact ⟨(accF_B b1 (by omega) hg).F, (accF_B b2 (by omega) hg).F, accF_v b1 b2 (fl_v hp h.1.P (fun d hd => (h.1.w.2.2.2.2.1 d hd).2.2) (by omega) _ (Nat.le_refl _)) (by omega) hg⟩
theorem st_of {σ σ1 : gS} {r1 : Option Value} {a b : Int32} (h : Rl σ) (h1 : Wr σ (cdQ (pD (phC σ)) 4 (svC σ) a b) (fun t => t = outF σ (ofV σ (tn a) (tn b))) r1 σ1) : MoE σ σ1 ∧ ∀ r t, Mr σ1 (cdQ (pD (phC σ)) 4 (svC σ) a b) (some (.double FP.dconst0)) (fun r t => r = some (.double (ofM (phC σ) σ1 (tn a) (tn b))) ∧ t = uN σ1 5 (nI 0)) r t → FinD (cdQ (pD (phC σ)) 4 (svC σ) a b) r1 r t := by
  refine ⟨mo_F h1, fun r t h2 => finD h h1 h2 fun hc => ?_⟩
  have hab := cdQ_0 hc
  have hd := (inT hab.1 (by have := h.1.w.nd16; omega)).2
  have m := mo_F h1
  have e40 : sF σ1 40 = sF σ 7 := (m.2.2.2 40 (by decide)).trans h.2.2.2.2.1.2.2.2.2.2.2.1
  have e31 : sF σ1 31 = sF σ 12 := (m.2.2.2 31 (by decide)).trans h.2.2.2.2.1.2.1
  have e32 : sF σ1 32 = sF σ 21 := (m.2.2.2 32 (by decide)).trans h.2.2.2.2.1.2.2.1
  have hp := h.1.p
  have key : ofM (phC σ) σ1 (tn a) (tn b) = ofV σ (tn a) (tn b) := by
    unfold ofM
    rw [e40, e31, e32]
    rcases in4 hab.2.1 with e | e | e | e <;> rw [e]
    · rfl
    · rfl
    · exact (h.1.e _ hd).symm
    · rfl
  have kF : dF (ofV σ (tn a) (tn b)) := by
    rcases in4 hab.2.1 with e | e | e | e <;> rw [e]
    · exact (flx_B hp h.1.P hd).F
    · exact (spd_ok hp h.1.P hd (h.1.wl _ hd).1).2.F
    · show dF (sF σ 13 (tn a))
      rw [h.1.e _ hd]
      exact (hp.2.2.1 _ hd).1.1.F
    · exact (h.1.lk _).1.F
  rw [key]
  exact ⟨kF, kF, rfl⟩
theorem st_draws {σ σ1 : gS} {r1 : Option Value} {a b : Int32} (h : Rl σ) (h1 : Wr σ (cdQ (pM (phC σ)) 2 (svC σ) a b) (fun t => t = outF σ (dsV σ (tn a) (tn b))) r1 σ1) : MoE σ σ1 ∧ ∀ r t, Mr σ1 (cdQ (pM (phC σ)) 2 (svC σ) a b) (some (.double FP.dconst0)) (fun r t => r = some (.double (dsM (phC σ) σ1 (tn a) (tn b))) ∧ t = uN σ1 5 (nI 0)) r t → FinD (cdQ (pM (phC σ)) 2 (svC σ) a b) r1 r t := by
  refine ⟨mo_F h1, fun r t h2 => finD h h1 h2 fun hc => ?_⟩
  have hab := cdQ_0 hc
  have hd := (inT hab.1 (by have := h.1.w.nm8; omega)).2
  have m := mo_F h1
  have e40 : sF σ1 40 = sF σ 7 := (m.2.2.2 40 (by decide)).trans h.2.2.2.2.1.2.2.2.2.2.2.1
  have e38 : sF σ1 38 = sF σ 18 := (m.2.2.2 38 (by decide)).trans h.2.2.2.2.1.2.2.2.2.2.1
  have hp := h.1.p
  have kF : dF (dsV σ (tn a) (tn b)) := by
    unfold dsV
    split
    · exact (h.1.G _ hd).1.F
    · exact (drV_B hp h.1.P h.1.G hd).2.2.1.F
  have key : dsM (phC σ) σ1 (tn a) (tn b) = dsV σ (tn a) (tn b) := by
    unfold dsM dsV
    rw [e40, e38]
  rw [key]
  exact ⟨kF, kF, rfl⟩
theorem st_keeps {σ σ1 : gS} {r1 : Option Value} {least : UInt64} (h : Rl σ) (h1 : Wr σ (cdKeeps (svC σ) least) (fun t => t = outL σ (bL (allB (kpB (phC σ) (sF σ 7) (sF σ 12) least) (pD (phC σ))))) r1 σ1) : MoE σ σ1 ∧ ∀ r t, Mr σ1 (cdKeeps (svC σ) least) (some (.int (nI 0))) (fun r t => r = some (.int (bI (allB (kpB (phC σ) (sF σ1 40) (sF σ1 31) least) (pD (phC σ))))) ∧ t = uN σ1 5 (nI 0)) r t → r1 = some (.int (nI (cdKeeps (svC σ) least))) ∧ sN t 5 = nI (cdKeeps (svC σ) least) ∧ Rl t ∧ ∃ b, r = some (.int (bI b)) ∧ (cdKeeps (svC σ) least = 0 → sL t 0 = bL b) := by
  have m : MoE σ σ1 := mo_W h1 (fun t e => by rw [e]; exact (MoE.self σ).l _)
  refine ⟨m, fun r t h2 => ?_⟩
  by_cases hc : cdKeeps (svC σ) least = 0
  · have e1 := h1.2.1 hc
    obtain ⟨e2, e3⟩ := h2.2 hc
    have e40 : sF σ1 40 = sF σ 7 := (m.2.2.2 40 (by decide)).trans h.2.2.2.2.1.2.2.2.2.2.2.1
    have e31 : sF σ1 31 = sF σ 12 := (m.2.2.2 31 (by decide)).trans h.2.2.2.2.1.2.1
    refine ⟨h1.1, ?_, ?_, _, e2, fun _ => ?_⟩
    · rw [e3, hc]; rfl
    · rw [e3, e1]
      exact Rl.thr (h.outL _) _
    · rw [e40, e31, e3, e1]
      show vp_updL (sL σ) 0 _ 0 = _
      exact vp_L
  · obtain ⟨e1, e2, e3⟩ := st_err h h1 h2 hc
    exact ⟨h1.1, e1, e2, false, e3, fun z => absurd z hc⟩
