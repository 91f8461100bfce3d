/-! fit, solve, machine -/
theorem apN_cut {h : Ph} {P rd : Nat → UInt64} {ir : Nat → Bool} {lk : Nat → UInt64} {n : Nat} (hi : ∀ d, n ≤ d → ir d = false) : ∀ k, apN h P rd ir lk (n + k) = apN h P rd ir lk n
  | 0 => rfl
  | k + 1 => (apN_no (d := n + k) (hi _ (by omega))).trans (apN_cut hi k)
theorem accF_cut {a : UInt64} {p : Nat → Bool} {g : Nat → UInt64} {n : Nat} (hi : ∀ d, n ≤ d → p d = false) : ∀ k, accF a p g (n + k) = accF a p g n
  | 0 => rfl
  | k + 1 => (accF_no (n := n + k) (hi _ (by omega))).trans (accF_cut hi k)
theorem Ic.irn {σ : gS} (h : Ic σ) {d : Nat} (hd : pD (phC σ) ≤ d) : irC σ d = false := by
  cases e : irC σ d with
  | false => rfl
  | true => exact absurd (h.ir d e).1 (by omega)
theorem fi_eq {σ σ1 : gS} (h : Rl σ) (m : MoE σ σ1) : ∀ n, fiM (phC σ) σ1 n = fiV σ n
  | 0 => (m.2.2.2 32 (by decide)).trans h.2.2.2.2.1.2.2.1
  | n + 1 => by
    have e40 : sF σ1 40 = sF σ 7 := (m.2.2.2 40 (by decide)).trans h.2.2.2.2.1.2.2.2.2.2.2.1
    have e34 : sF σ1 34 = sF σ 22 := (m.2.2.2 34 (by decide)).trans h.2.2.2.2.1.2.2.2.1
    have ei : irM σ1 = irC σ := by
      funext d
      unfold irM irC
      rw [m.2.2.1 33 (by decide), h.2.2.2.1.2.2.2.2.1]
    have h16 := h.1.w.nd16
    show apN (phC σ) (sF σ1 40) (sF σ1 34) (irM σ1) (fiM (phC σ) σ1 n) (pD (phC σ)) = apN (phC σ) (sF σ 7) (sF σ 22) (irC σ) (fiV σ n) 16
    rw [fi_eq h m n, e40, e34, ei]
    have := apN_cut (h := phC σ) (P := sF σ 7) (rd := sF σ 22) (lk := fiV σ n) (n := pD (phC σ)) (fun d hd => h.1.irn hd) (16 - pD (phC σ))
    rw [show pD (phC σ) + (16 - pD (phC σ)) = 16 by omega] at this
    exact this.symm
theorem sq_eq {σ σ1 : gS} (h : Rl σ) (m : MoE σ σ1) (lk : Nat → UInt64) : sqM (phC σ) σ1 lk = sqV σ lk := by
  have e40 : sF σ1 40 = sF σ 7 := (m.2.2.2 40 (by decide)).trans h.2.2.2.2.1.2.2.2.2.2.2.1
  have e34 : sF σ1 34 = sF σ 22 := (m.2.2.2 34 (by decide)).trans h.2.2.2.2.1.2.2.2.1
  have ei : irM σ1 = irC σ := by
    funext d
    unfold irM irC
    rw [m.2.2.1 33 (by decide), h.2.2.2.1.2.2.2.2.1]
  have h16 := h.1.w.nd16
  unfold sqM sqV
  rw [e40, e34, ei]
  have := accF_cut (a := FP.dconst0) (p := irC σ) (g := fun d => FP.dmul (msV (phC σ) (sF σ 7) (sF σ 22) lk d) (msV (phC σ) (sF σ 7) (sF σ 22) lk d)) (n := pD (phC σ)) (fun d hd => h.1.irn hd) (16 - pD (phC σ))
  rw [show pD (phC σ) + (16 - pD (phC σ)) = 16 by omega] at this
  exact this.symm
theorem Ic_fit {σ : gS} (h : Ic σ) (n : Nat) : Ic (uF σ 21 (fiV σ n)) := by
  have hl := fiN_ok h.p h.P h.ir h.lk n
  obtain ⟨h1, h2, h3, h4, h5, h6, h7, h8, h9, h10, h11, h12, h13, h14, h15, h16⟩ := h
  exact ⟨h1, h2, h3, h4, h5, h6, h7, h8, h9, h10, h11, h12, hl, h14, h15, h16⟩
theorem st_fit {σ σ1 : gS} {r1 : Option Value} {x : Int32} (h : Rl σ) (h1 : Wr σ (cdFit (svC σ) x) (fun t => t = outF (uF σ 21 (fiV σ (tn x))) (sqV σ (fiV σ (tn x)))) r1 σ1) : MoE σ σ1 ∧ ∀ r t, Mr σ1 (cdFit (svC σ) x) (some (.double FP.dconst0)) (fun r t => r = some (.double (sqM (phC σ) σ1 (fiM (phC σ) σ1 (tn x)))) ∧ t = uF (uN σ1 5 (nI 0)) 32 (fiM (phC σ) σ1 (tn x))) r t → FinD (cdFit (svC σ) x) r1 r t := by
  have m : MoE σ σ1 := mo_W h1 (fun t e => by rw [e]; exact ((MoE.self σ).f 21 _ (by decide)).f 44 _ (by decide))
  refine ⟨m, fun r t h2 => ?_⟩
  by_cases hc : cdFit (svC σ) x = 0
  · have e1 := h1.2.1 hc
    obtain ⟨e2, e3⟩ := h2.2 hc
    rw [fi_eq h m, sq_eq h m] at e2
    rw [fi_eq h m] at e3
    have hl := fiN_ok h.1.p h.1.P h.1.ir h.1.lk (tn x)
    have hF : dF (sqV σ (fiV σ (tn x))) := (accF_B (d0_B 74) (n := 16) (by decide) (fun i _ hi => (ms_B h.1.p h.1.P (h.1.ir i hi).1 (h.1.ir i hi).2 (hl i)).2.mul (ms_B h.1.p h.1.P (h.1.ir i hi).1 (h.1.ir i hi).2 (hl i)).2 (by decide))).F
    refine ⟨h1.1, ?_, ?_, _, e2, fun _ => ?_⟩
    · rw [e3, hc]; rfl
    · have cc : ClE σ1 t := by rw [e3]; exact ((ClE.self σ1).n 5 _ (by decide)).f 32 _ (by decide)
      have c1 : ClE (uF σ 21 (fiV σ (tn x))) σ1 := by rw [e1]; exact (ClE.self _).f 44 _ (by decide)
      obtain ⟨hI, hE, hMn, hMa, ⟨f30, f31, f32, f34, f36, f38, f40, f41⟩, hMd, hU⟩ := h
      refine ⟨(Ic_fit hI _).cl (c1.trans cc), Ex.cl (c1.trans cc) hE, ?_⟩
      rw [e3, e1]
      exact ⟨hMn, hMa, ⟨f30, f31, rfl, f34, f36, f38, f40, f41⟩, hMd, hU⟩
    · rw [e3, e1]
      show dF (vf_upd (sF σ 44) 0 _ 0) ∧ _ ∧ dv (vf_upd (sF σ 44) 0 _ 0) = _
      rw [vf_at]
      exact ⟨hF, hF, rfl⟩
  · exact st_errD h h1 h2 hc
/-! solve -/
theorem blN_g {h : Ph} {m : Nat} (hm : pM h ≤ m) : ∀ (f : Nat) {s : (Nat → UInt64) × UInt64} {g : Nat → UInt64} {R : Nat}, (blN h f s g R).2.2 m = g m
  | 0, _, _, _ => rfl
  | f + 1, s, g, R => by
    cases e : seK h g s with
    | none => rw [blN_none e]
    | some k =>
      rw [blN_some e]
      split
      · rw [blN_g hm f]; exact clG_at _ _ hm
      · exact clG_at _ _ hm
/-- what opening does, is the same -/
theorem op_eq {σ σ1 : gS} (h : Rl σ) (m : MoE σ σ1) {c : Nat} (hc : c < 4) : msO σ1 c = opO σ c ∧ mgN σ1 c 8 = gtN σ c (pM (phC σ)) ∧ moN σ1 c 8 = opN σ c (pM (phC σ)) := by
  have h8 := h.1.w.nm8
  have e8 : sN σ1 8 = sN σ 3 := (m.1 8 (by decide)).trans h.2.2.1.2.2.1
  have hO : ∀ k, msO σ1 c k = if k < pM (phC σ) then usC σ c k else false := fun k => by
    unfold msO
    rw [e8, m.2.2.1 37 (by decide)]
    by_cases hk : k < pM (phC σ)
    · rw [if_pos hk, decide_eq_true (show k < tn (sN σ 3) from hk), h.2.2.2.2.2.2 c k hc (by omega)]
      rfl
    · rw [if_neg hk, decide_eq_false (show ¬ k < tn (sN σ 3) from hk)]
      rfl
  refine ⟨?_, ?_, ?_⟩
  · funext k
    rw [hO]
    unfold opO
    by_cases hk : k < pM (phC σ)
    · rw [if_pos hk, opN_lt hk]
      exact (sv_bI _).symm
    · rw [if_neg hk, opN_ge (by omega), (h.2.1.2.1 k (Nat.le_of_not_lt hk)).1]
      rfl
  · funext k
    by_cases hk : k < 8
    · rw [mgN_lt hk, hO]
      by_cases hk2 : k < pM (phC σ)
      · rw [if_pos hk2, gtN_at hk2]
      · rw [if_neg hk2, gtN_ge (by omega), (h.2.1.2.1 k (Nat.le_of_not_lt hk2)).2.1]
        rfl
    · rw [gtN_ge (by omega)]
      have : ∀ n, n ≤ 8 → mgN σ1 c n k = sF σ1 38 k := fun n => by
        induction n with
        | zero => intro _; rfl
        | succ n ih =>
          intro hn
          show vf_upd (mgN σ1 c n) n _ k = _
          rw [vf_ne (by omega)]
          exact ih (by omega)
      rw [this 8 (by omega), m.2.2.2 38 (by decide), h.2.2.2.2.1.2.2.2.2.2.1]
  · funext k
    by_cases hk : k < 8
    · rw [moN_lt hk, hO]
      by_cases hk2 : k < pM (phC σ)
      · rw [if_pos hk2, opN_lt hk2]
      · rw [if_neg hk2, opN_ge (by omega), (h.2.1.2.1 k (Nat.le_of_not_lt hk2)).1]
        rfl
    · rw [opN_ge (by omega)]
      have : ∀ n, n ≤ 8 → moN σ1 c n k = sI σ1 39 k := fun n => by
        induction n with
        | zero => intro _; rfl
        | succ n ih =>
          intro hn
          show upd (moN σ1 c n) n _ k = _
          unfold upd
          rw [if_neg (by omega)]
          exact ih (by omega)
      rw [this 8 (by omega), m.2.2.1 39 (by decide), h.2.2.2.1.2.2.2.1]
theorem bl_eq {σ σ1 : gS} (h : Rl σ) (m : MoE σ σ1) {c : Nat} (hc : c < 4) : blM (phC σ) σ1 c = blA (opZ σ c) := by
  obtain ⟨e1, e2, e3⟩ := op_eq h m hc
  have e40 : sF σ1 40 = sF σ 7 := (m.2.2.2 40 (by decide)).trans h.2.2.2.2.1.2.2.2.2.2.2.1
  unfold blM blA
  rw [e1, e2, e40]
  rfl
theorem mo_opZ (σ : gS) (c : Nat) : MoE σ (opZ σ c) := ((((MoE.self σ).i 19 _ (by decide)).f 18 _ (by decide)).d 2 _ (by decide)).f 7 _ (by decide)
theorem mo_ba {σ τ : gS} (h : MoE σ τ) (w : Nat → UInt64) (s : (Nat → UInt64) × UInt64) (g : Nat → UInt64) : MoE σ (baS τ w s g) := (((h.f 8 _ (by decide)).f 7 _ (by decide)).d 2 _ (by decide)).f 18 _ (by decide)
/-- both balanced: still side by side -/
theorem Rl_sol {σ σ1 t : gS} {c : Nat} (hc : c < 4) (h : Rl σ) (m : MoE σ σ1) (w : Nat → UInt64) (x : Int32) {τ : gS} (eτ : τ = uN (baS (opZ σ c) w (blA (opZ σ c)).2.1 (blA (opZ σ c)).2.2) 1 (bI (blA (opZ σ c)).1.isSome)) (c1 : ClE τ σ1) (e3 : t = mbF (uN σ1 5 x) c (blM (phC σ) (uN σ1 5 x) c).2.1 (blM (phC σ) (uN σ1 5 x) c).2.2 (bI (blM (phC σ) (uN σ1 5 x) c).1.isSome)) : Rl t := by
  have m2 : MoE σ (uN σ1 5 x) := m.n 5 _ (by decide)
  obtain ⟨o1, o2, o3⟩ := op_eq h m2 hc
  rw [bl_eq h m2 hc] at e3
  have cc : ClE σ1 t := by
    rw [e3]
    exact ((((((ClE.self σ1).n 5 _ (by decide)).i 39 _ (by decide)).f 40 _ (by decide)).d 5 _ (by decide)).f 38 _ (by decide)).n 9 _ (by decide)
  have hb := blA_ok h.1 c
  have hI : Ic τ := by
    rw [eτ]
    exact Ic_N1 (Ic_ba h.1 c w hb.1 hb.2) _
  have c2 := c1.trans cc
  obtain ⟨hI0, ⟨x1, x2, x3, x4⟩, ⟨n6, n7, n8, n9, n10⟩, ⟨i28, i29, i35, i39, i33, i42⟩, ⟨f30, f31, f32, f34, f36, f38, f40, f41⟩, ⟨d3, d4, d5⟩, hU⟩ := h
  have hE : Ex τ := by
    rw [eτ]
    refine ⟨fun k => ?_, fun k hk => ⟨?_, ?_, (x2 k hk).2.2⟩, x3, x4⟩
    · show opN σ c (pM (phC σ)) k = bI (decide (¬ opN σ c (pM (phC σ)) k = 0))
      by_cases hk : k < pM (phC σ)
      · rw [opN_lt hk, sv_bI]
      · rw [opN_ge (by omega)]; exact x1 k
    · show opN σ c (pM (phC σ)) k = 0
      have hk : pM (phC σ) ≤ k := hk
      rw [opN_ge hk]; exact (x2 k hk).1
    · show (blA (opZ σ c)).2.2 k = FP.dconst0
      have hk : pM (phC σ) ≤ k := hk
      have : (blA (opZ σ c)).2.2 k = gtN σ c (pM (phC σ)) k := blN_g (by rw [pM_opZ]; exact hk) 10
      rw [this, gtN_ge hk]
      exact (x2 k hk).2.1
  obtain ⟨q1, q2, q3, q4⟩ := c2
  have c2 : ClE τ t := ⟨q1, q2, q3, q4⟩
  refine ⟨hI.cl c2, Ex.cl c2 hE, ⟨?_, ?_, ?_, ?_, ?_⟩, ⟨?_, ?_, ?_, ?_, ?_, ?_⟩, ⟨?_, ?_, ?_, ?_, ?_, ?_, ?_, ?_⟩, ⟨?_, ?_, ?_⟩, fun k j hk hj => ?_⟩
  · rw [q1 0 (by decide), e3, eτ]; exact (m.1 6 (by decide)).trans n6
  · rw [q1 2 (by decide), e3, eτ]; exact (m.1 7 (by decide)).trans n7
  · rw [q1 3 (by decide), e3, eτ]; exact (m.1 8 (by decide)).trans n8
  · rw [q1 1 (by decide), e3, eτ]; rfl
  · rw [q1 4 (by decide), e3, eτ]; exact (m.1 10 (by decide)).trans n10
  · rw [q3 9 (by decide), e3, eτ]; exact (m.2.2.1 28 (by decide)).trans i28
  · rw [q3 10 (by decide), e3, eτ]; exact (m.2.2.1 29 (by decide)).trans i29
  · rw [q3 16 (by decide), e3, eτ]; exact (m.2.2.1 35 (by decide)).trans i35
  · rw [q3 19 (by decide), e3, eτ]; exact o3
  · rw [q3 23 (by decide), e3, eτ]; exact (m.2.2.1 33 (by decide)).trans i33
  · rw [q3 25 (by decide), e3, eτ]; exact (m.2.2.1 42 (by decide)).trans i42
  · rw [q4 11 (by decide), e3, eτ]; exact (m.2.2.2 30 (by decide)).trans f30
  · rw [q4 12 (by decide), e3, eτ]; exact (m.2.2.2 31 (by decide)).trans f31
  · rw [q4 21 (by decide), e3, eτ]; exact (m.2.2.2 32 (by decide)).trans f32
  · rw [q4 22 (by decide), e3, eτ]; exact (m.2.2.2 34 (by decide)).trans f34
  · rw [q4 17 (by decide), e3, eτ]; exact (m.2.2.2 36 (by decide)).trans f36
  · rw [q4 18 (by decide), e3, eτ]; rfl
  · rw [q4 7 (by decide), e3, eτ]; rfl
  · rw [q4 24 (by decide), e3, eτ]; exact (m.2.2.2 41 (by decide)).trans f41
  · rw [q2 0 (by decide), e3, eτ]; exact (m.2.1 3 (by decide)).trans d3
  · rw [q2 1 (by decide), e3, eτ]; exact (m.2.1 4 (by decide)).trans d4
  · rw [q2 2 (by decide), e3, eτ]; rfl
  · rw [us_cl c2, e3, eτ]
    show decide (¬ sI σ1 37 (8 * k + j) = 0) = usC σ k j
    rw [m.2.2.1 37 (by decide)]
    exact hU k j hk hj
theorem st_solve {σ σ1 : gS} {r1 : Option Value} {c : Int32} (h : Rl σ) (h1 : Wr σ (cdSolve c) (fun t => ∃ w, t = outL (uN (baS (opZ σ (tn c)) w (blA (opZ σ (tn c))).2.1 (blA (opZ σ (tn c))).2.2) 1 (bI (blA (opZ σ (tn c))).1.isSome)) (sei (blA (opZ σ (tn c))).1).toInt64) r1 σ1) : MoE σ σ1 ∧ ∀ r t, Mr σ1 (cdSolve c) (some (.int (nI 0))) (fun r t => r = some (.int (sei (blM (phC σ) (uN σ1 5 (nI 0)) (tn c)).1)) ∧ t = mbF (uN σ1 5 (nI 0)) (tn c) (blM (phC σ) (uN σ1 5 (nI 0)) (tn c)).2.1 (blM (phC σ) (uN σ1 5 (nI 0)) (tn c)).2.2 (bI (blM (phC σ) (uN σ1 5 (nI 0)) (tn c)).1.isSome)) r t → FinI (cdSolve c) r1 r t := by
  have m : MoE σ σ1 := mo_W h1 (fun t ⟨w, e⟩ => by rw [e]; exact ((mo_ba (mo_opZ σ (tn c)) _ _ _).n 1 _ (by decide)).l _)
  refine ⟨m, fun r t h2 => ?_⟩
  by_cases hc : cdSolve c = 0
  · obtain ⟨w, e1⟩ := h1.2.1 hc
    obtain ⟨e2, e3⟩ := h2.2 hc
    have hc4 := (inT (cdSolve_0 hc) (by decide)).2
    have hbl := bl_eq h (m.n 5 (nI 0) (by decide)) hc4
    refine ⟨h1.1, ?_, ?_, _, e2, fun _ => ?_⟩
    · rw [e3, hc]; rfl
    · exact Rl_sol hc4 h m w (nI 0) rfl (by rw [e1]; exact (ClE.self _).l _) e3
    · rw [hbl, e3, e1]
      show vp_updL (sL σ) 0 _ 0 = _
      exact vp_L
  · exact st_errI h h1 h2 hc
