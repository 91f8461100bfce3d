/-! a call of both: what both have done is the same -/
theorem st_err {σ σ1 t : gS} {cd : Nat} {P : gS → Prop} {Q : Option Value → gS → Prop} {r1 r v0 : Option Value} (h : Rl σ) (h1 : Wr σ cd P r1 σ1) (h2 : Mr σ1 cd v0 Q r t) (hc : cd ≠ 0) : sN t 5 = nI cd ∧ Rl t ∧ r = v0 := by
  have e := h1.2.2 hc
  subst e
  obtain ⟨e1, e2⟩ := h2.1 hc
  subst e2
  exact ⟨rfl, h.thr _, e1⟩
/-- what is known behind both calls: codes, state; for an int answered, what out holds -/
def FinI (cd : Nat) (r1 r : Option Value) (t : gS) : Prop := r1 = some (.int (nI cd)) ∧ sN t 5 = nI cd ∧ Rl t ∧ ∃ b, r = some (.int b) ∧ (cd = 0 → sL t 0 = b.toInt64)
def FinV (cd : Nat) (r1 r : Option Value) (t : gS) : Prop := r1 = some (.int (nI cd)) ∧ sN t 5 = nI cd ∧ Rl t ∧ r = none
def FinD (cd : Nat) (r1 r : Option Value) (t : gS) : Prop := r1 = some (.int (nI cd)) ∧ sN t 5 = nI cd ∧ Rl t ∧ ∃ b, r = some (.double b) ∧ (cd = 0 → dF (sF t 44 0) ∧ dF b ∧ dv (sF t 44 0) = dv b)
theorem vp_L {f : Nat → Int64} {v : Int64} : vp_updL f 0 v 0 = v := if_pos rfl
theorem st_errI {σ σ1 t : gS} {cd : Nat} {P : gS → Prop} {Q : Option Value → gS → Prop} {r1 r : Option Value} {v0 : Int32} (h : Rl σ) (h1 : Wr σ cd P r1 σ1) (h2 : Mr σ1 cd (some (.int v0)) Q r t) (hc : cd ≠ 0) : FinI cd r1 r t := by
  obtain ⟨e1, e2, e3⟩ := st_err h h1 h2 hc
  exact ⟨h1.1, e1, e2, v0, e3, fun z => absurd z hc⟩
theorem st_errV {σ σ1 t : gS} {cd : Nat} {P : gS → Prop} {Q : Option Value → gS → Prop} {r1 r : Option Value} (h : Rl σ) (h1 : Wr σ cd P r1 σ1) (h2 : Mr σ1 cd none Q r t) (hc : cd ≠ 0) : FinV cd r1 r t := by
  obtain ⟨e1, e2, e3⟩ := st_err h h1 h2 hc
  exact ⟨h1.1, e1, e2, e3⟩
theorem st_errD {σ σ1 t : gS} {cd : Nat} {P : gS → Prop} {Q : Option Value → gS → Prop} {r1 r : Option Value} {v0 : UInt64} (h : Rl σ) (h1 : Wr σ cd P r1 σ1) (h2 : Mr σ1 cd (some (.double v0)) Q r t) (hc : cd ≠ 0) : FinD cd r1 r t := by
  obtain ⟨e1, e2, e3⟩ := st_err h h1 h2 hc
  exact ⟨h1.1, e1, e2, v0, e3, fun z => absurd z hc⟩
theorem mo_W {σ σ1 : gS} {cd : Nat} {P : gS → Prop} {r1 : Option Value} (h1 : Wr σ cd P r1 σ1) (h : ∀ t, P t → MoE σ t) : MoE σ σ1 := by
  by_cases hc : cd = 0
  · exact h _ (h1.2.1 hc)
  · rw [h1.2.2 hc]; exact MoE.self σ
/-! joint -/
theorem Ic_joint {σ : gS} (h : Ic σ) (hj : nJ σ < 10) : Ic (uN (uN σ 1 (nI 0)) 0 (nI (nJ σ + 1))) := by
  obtain ⟨h1, h2, h3, h4, h5, h6, h7, h8, h9, h10, h11, h12, h13, h14, h15, h16⟩ := Ic_N1 h false
  have e : nJ (uN (uN σ 1 (nI 0)) 0 (nI (nJ σ + 1))) = nJ σ + 1 := tn_nI (by omega)
  refine ⟨h1, h2, h3, h4, h5, h6, h7, ⟨?_, ?_, ?_⟩, h9, h10, h11, h12, h13, h14, fun d hd => ?_, fun m hm => ?_⟩
  · rw [e]; rfl
  · rw [e]; omega
  · rw [e]; omega
  · rw [e]
    have h9 := h15 d hd
    exact ⟨Nat.lt_succ_of_lt h9.1, Nat.lt_succ_of_lt h9.2⟩
  · rw [e]
    exact Nat.lt_succ_of_lt (h16 m hm)
theorem st_joint {σ σ1 : gS} {r1 : Option Value} (h : Rl σ) (h1 : Wr σ (cdJoint (nJ σ)) (fun t => t = outL (uN (uN σ 1 (nI 0)) 0 (nI (nJ σ + 1))) (nI (nJ σ)).toInt64) r1 σ1) : MoE σ σ1 ∧ ∀ r t, Mr σ1 (cdJoint (nJ σ)) (some (.int (nI 0))) (fun r t => r = some (.int (nI (nJ σ))) ∧ t = uN (uN (uN σ1 5 (nI 0)) 6 (nI (nJ σ + 1))) 9 (nI 0)) r t → FinI (cdJoint (nJ σ)) r1 r t := by
  refine ⟨mo_W h1 (fun t e => by rw [e]; exact (((MoE.self σ).n 1 _ (by decide)).n 0 _ (by decide)).l _), fun r t h2 => ?_⟩
  by_cases hc : cdJoint (nJ σ) = 0
  · have e1 := h1.2.1 hc
    obtain ⟨e2, e3⟩ := h2.2 hc
    have hj := cdJoint_0 hc
    obtain ⟨hI, hE, ⟨n6, n7, n8, n9, n10⟩, hMa, hMf, hMd, hU⟩ := h
    refine ⟨h1.1, ?_, ?_, _, e2, fun _ => ?_⟩
    · rw [e3, hc]; rfl
    · have c : ClE σ1 t := by rw [e3]; exact (((ClE.self σ1).n 5 _ (by decide)).n 6 _ (by decide)).n 9 _ (by decide)
      have c0 : ClE (uN (uN σ 1 (nI 0)) 0 (nI (nJ σ + 1))) t := by rw [e1] at c; exact c
      refine ⟨(Ic_joint hI hj).cl c0, Ex.cl c0 hE, ?_⟩
      rw [e3, e1]
      exact ⟨⟨rfl, n7, n8, rfl, n10⟩, hMa, hMf, hMd, hU⟩
    · rw [e3, e1]
      show vp_updL (sL σ) 0 _ 0 = _
      exact vp_L
  · exact st_errI h h1 h2 hc
/-! use -/
theorem us_tab : ∀ k, k < 16 → ∀ c, c < 4 → ∀ d, d < 4 → ∀ b : Bool, (∃ j, j < 16 ∧ (if b then nI k ||| (nI 1 <<< (nI c &&& 31)) else nI k &&& ((nI 1 <<< (nI c &&& 31)) ^^^ (-1))) = nI j) ∧
    decide (((if b then nI k ||| (nI 1 <<< (nI c &&& 31)) else nI k &&& ((nI 1 <<< (nI c &&& 31)) ^^^ (-1))) >>> (nI d &&& 31)) &&& nI 1 = nI 1) = (if d = c then b else decide ((nI k >>> (nI d &&& 31)) &&& nI 1 = nI 1)) := by decide +kernel
theorem Ic_use {σ : gS} (h : Ic σ) (c m : Nat) (on : Bool) : Ic (usS (uN σ 1 (nI 0)) c m on) := by
  obtain ⟨h1, h2, h3, h4, h5, h6, h7, h8, h9, h10, h11, h12, h13, h14, h15, h16⟩ := Ic_N1 h false
  obtain ⟨a1, a2, a3, a4, a5, a6, a7⟩ := h1
  refine ⟨⟨a1, a2, a3, a4, a5, a6, fun j hj => ⟨(a7 j hj).1, fun d hd ha => ?_⟩⟩, h2, h3, h4, h5, h6, h7, h8, h9, h10, h11, h12, h13, h14, h15, h16⟩
  have e : sI (usS (uN σ 1 (nI 0)) c m on) (45 + j) = sI (uN σ 1 (nI 0)) (45 + j) := sI_ne (k := 20) (j := 45 + j) _ _ (by omega)
  rw [e]
  exact (a7 j hj).2 d hd ha
theorem st_use {σ σ1 : gS} {r1 : Option Value} {c m : Int32} {on : Bool} (h : Rl σ) (h1 : Wr σ (cdUse (pM (phC σ)) c m) (fun t => t = usS (uN σ 1 (nI 0)) (tn c) (tn m) on) r1 σ1) : MoE σ σ1 ∧ ∀ r t, Mr σ1 (cdUse (pM (phC σ)) c m) none (fun r t => r = none ∧ t = uN (uI (uN σ1 5 (nI 0)) 37 (upd (sI σ1 37) (8 * tn c + tn m) (bI on))) 9 (nI 0)) r t → FinV (cdUse (pM (phC σ)) c m) r1 r t := by
  refine ⟨mo_W h1 (fun t e => by rw [e]; exact ((MoE.self σ).n 1 _ (by decide)).i 20 _ (by decide)), fun r t h2 => ?_⟩
  by_cases hc : cdUse (pM (phC σ)) c m = 0
  · have e1 := h1.2.1 hc
    obtain ⟨e2, e3⟩ := h2.2 hc
    have hcm := cdUse_0 hc
    have tc := (inT hcm.1 (by decide)).2
    have tm := (inT hcm.2 (by have := h.1.w.nm8; omega)).2
    have hm8 := h.1.w.nm8
    obtain ⟨hI, ⟨x1, x2, x3, x4⟩, ⟨n6, n7, n8, n9, n10⟩, hMa, hMf, hMd, hU⟩ := h
    refine ⟨h1.1, ?_, ?_, e2⟩
    · rw [e3, hc]; rfl
    · have cc : ClE σ1 t := by rw [e3]; exact (((ClE.self σ1).n 5 _ (by decide)).i 37 _ (by decide)).n 9 _ (by decide)
      rw [e1] at cc
      obtain ⟨k, hk, ek⟩ := x4 (tn m)
      have tab := us_tab k hk (tn c) tc
      have eV : usV (uN σ 1 (nI 0)) (tn c) (tn m) on = if on then nI k ||| (nI 1 <<< (nI (tn c) &&& 31)) else nI k &&& ((nI 1 <<< (nI (tn c) &&& 31)) ^^^ (-1)) := by rw [← ek]; rfl
      have e20 : ∀ m', sI (usS (uN σ 1 (nI 0)) (tn c) (tn m) on) 20 m' = if m' = tn m then usV (uN σ 1 (nI 0)) (tn c) (tn m) on else sI σ 20 m' := fun m' => rfl
      have hE : Ex (usS (uN σ 1 (nI 0)) (tn c) (tn m) on) := by
        refine ⟨x1, fun m' hm' => ⟨(x2 m' hm').1, (x2 m' hm').2.1, ?_⟩, x3, fun m' => ?_⟩
        · have hm' : tn (sN σ 3) ≤ m' := hm'
          have : pM (phC σ) ≤ m' := hm'
          rw [e20, if_neg (by omega)]
          exact (x2 m' hm').2.2
        · rw [e20]
          by_cases e : m' = tn m
          · rw [if_pos e, eV]
            exact (tab 0 (by decide) on).1
          · rw [if_neg e]
            exact x4 m'
      refine ⟨(Ic_use hI _ _ _).cl cc, Ex.cl cc hE, ?_⟩
      rw [e3, e1]
      refine ⟨⟨n6, n7, n8, rfl, n10⟩, hMa, hMf, hMd, fun c' m' hc' hm' => ?_⟩
      show decide (¬ (if 8 * c' + m' = 8 * tn c + tn m then bI on else sI σ 37 (8 * c' + m')) = 0) = decide (((if m' = tn m then usV (uN σ 1 (nI 0)) (tn c) (tn m) on else sI σ 20 m') >>> (nI c' &&& 31)) &&& nI 1 = nI 1)
      have hold := hU c' m' hc' hm'
      by_cases em : m' = tn m
      · rw [if_pos em, eV, (tab c' hc' on).2]
        by_cases ec : c' = tn c
        · rw [if_pos (by omega), if_pos ec]
          exact sv_bI on
        · rw [if_neg (by omega), if_neg ec, hold]
          unfold usC
          rw [em, ek]
      · rw [if_neg em, if_neg (by omega)]
        exact hold
  · exact st_errV h h1 h2 hc
/-! fan -/
theorem Ic_fan {σ : gS} (h : Ic σ) {s f : UInt64} (hs : okS s) (hf : okS f) : Ic (uD (uD (uN σ 1 (nI 0)) 0 s) 1 f) := by
  obtain ⟨h1, h2, h3, h4, h5, h6, h7, h8, h9, h10, h11, h12, h13, h14, h15, h16⟩ := Ic_N1 h false
  exact ⟨h1, h2, ⟨h3.1, h3.2.1, h3.2.2.1, h3.2.2.2.1, hs, hf⟩, h4, h5, h6, h7, h8, h9, h10, h11, h12, h13, h14, h15, h16⟩
theorem st_fan {σ σ1 : gS} {r1 : Option Value} {s f : UInt64} (hs : dF s) (hf : dF f) (h : Rl σ) (h1 : Wr σ (cdFan s f) (fun t => t = uD (uD (uN σ 1 (nI 0)) 0 s) 1 f) r1 σ1) : MoE σ σ1 ∧ ∀ r t, Mr σ1 (cdFan s f) none (fun r t => r = none ∧ t = uN (uD (uD (uN σ1 5 (nI 0)) 3 s) 4 f) 9 (nI 0)) r t → FinV (cdFan s f) r1 r t := by
  refine ⟨mo_W h1 (fun t e => by rw [e]; exact (((MoE.self σ).n 1 _ (by decide)).d 0 _ (by decide)).d 1 _ (by decide)), fun r t h2 => ?_⟩
  by_cases hc : cdFan s f = 0
  · have e1 := h1.2.1 hc
    obtain ⟨e2, e3⟩ := h2.2 hc
    have hk := cdFan_0 hc
    obtain ⟨hI, hE, ⟨n6, n7, n8, n9, n10⟩, hMa, hMf, ⟨d3, d4, d5⟩, hU⟩ := h
    refine ⟨h1.1, ?_, ?_, e2⟩
    · rw [e3, hc]; rfl
    · have cc : ClE σ1 t := by rw [e3]; exact ((((ClE.self σ1).n 5 _ (by decide)).d 3 _ (by decide)).d 4 _ (by decide)).n 9 _ (by decide)
      rw [e1] at cc
      refine ⟨(Ic_fan hI (okS_of hs hk.1) (okS_of hf hk.2)).cl cc, Ex.cl cc hE, ?_⟩
      rw [e3, e1]
      exact ⟨⟨n6, n7, n8, rfl, n10⟩, hMa, hMf, ⟨rfl, rfl, d5⟩, hU⟩
  · exact st_errV h h1 h2 hc
/-! read -/
theorem Ic_read {σ : gS} (h : Ic σ) {d : Nat} {v : UInt64} (hd : d < pD (phC σ)) (hv : okD v) : Ic (uI (uF σ 22 (vf_upd (sF σ 22) d v)) 23 (upd (sI σ 23) d (nI 1))) := by
  obtain ⟨⟨a1, a2, a3, a4, a5, a6, a7⟩, h2, h3, h4, h5, h6, h7, h8, h9, h10, h11, h12, h13, h14, h15, h16⟩ := h
  refine ⟨⟨a1, a2, a3, a4, a5, a6, fun j hj => ⟨(a7 j hj).1, fun d' hd' ha => ?_⟩⟩, h2, h3, h4, h5, h6, h7, h8, h9, h10, h11, fun d' hd' => ?_, h13, h14, h15, h16⟩
  · have e : sI (uI (uF σ 22 (vf_upd (sF σ 22) d v)) 23 (upd (sI σ 23) d (nI 1))) (45 + j) = sI σ (45 + j) := sI_ne (k := 23) (j := 45 + j) _ _ (by omega)
    rw [e]
    exact (a7 j hj).2 d' hd' ha
  · show d' < pD (phC σ) ∧ okD (vf_upd (sF σ 22) d v d')
    by_cases e : d' = d
    · subst e
      exact ⟨hd, by rw [vf_at]; exact hv⟩
    · rw [vf_ne e]
      refine h12 d' ?_
      have h9 : decide (¬ upd (sI σ 23) d (nI 1) d' = 0) = true := hd'
      unfold upd at h9
      rw [if_neg e] at h9
      exact h9
theorem st_read {σ σ1 : gS} {r1 : Option Value} {a : Int32} {v : UInt64} (hv : dF v) (h : Rl σ) (h1 : Wr σ (cdRead (pD (phC σ)) a v) (fun t => t = uI (uF σ 22 (vf_upd (sF σ 22) (tn a) v)) 23 (upd (sI σ 23) (tn a) (nI 1))) r1 σ1) : MoE σ σ1 ∧ ∀ r t, Mr σ1 (cdRead (pD (phC σ)) a v) none (fun r t => r = none ∧ t = uF (uI (uN σ1 5 (nI 0)) 33 (upd (sI σ1 33) (tn a) (nI 1))) 34 (vf_upd (sF σ1 34) (tn a) v)) r t → FinV (cdRead (pD (phC σ)) a v) r1 r t := by
  refine ⟨mo_W h1 (fun t e => by rw [e]; exact ((MoE.self σ).f 22 _ (by decide)).i 23 _ (by decide)), fun r t h2 => ?_⟩
  by_cases hc : cdRead (pD (phC σ)) a v = 0
  · have e1 := h1.2.1 hc
    obtain ⟨e2, e3⟩ := h2.2 hc
    have hk := cdRead_0 hc
    have ta := (inT hk.1 (by have := h.1.w.nd16; omega)).2
    obtain ⟨hI, hE, hMn, ⟨i28, i29, i35, i39, i33, i42⟩, ⟨f30, f31, f32, f34, f36, f38, f40, f41⟩, hMd, hU⟩ := h
    refine ⟨h1.1, ?_, ?_, e2⟩
    · rw [e3, hc]; rfl
    · have cc : ClE σ1 t := by rw [e3]; exact (((ClE.self σ1).n 5 _ (by decide)).i 33 _ (by decide)).f 34 _ (by decide)
      rw [e1] at cc
      refine ⟨(Ic_read hI ta (okD_of hv hk.2)).cl cc, Ex.cl cc hE, ?_⟩
      rw [e3, e1]
      refine ⟨hMn, ⟨i28, i29, i35, i39, ?_, i42⟩, ⟨f30, f31, f32, ?_, f36, f38, f40, f41⟩, hMd, hU⟩
      · show upd (sI σ 33) (tn a) (nI 1) = upd (sI σ 23) (tn a) (nI 1)
        rw [i33]
      · show vf_upd (sF σ 34) (tn a) v = vf_upd (sF σ 22) (tn a) v
        rw [f34]
  · exact st_errV h h1 h2 hc
/-! count -/
theorem st_count {σ σ1 : gS} {r1 : Option Value} {b : Int32} (h : Rl σ) (h1 : Wr σ (cdCount b) (fun t => t = outL σ (nI (coV σ (tn b))).toInt64) r1 σ1) : MoE σ σ1 ∧ ∀ r t, Mr σ1 (cdCount b) (some (.int (nI 0))) (fun r t => r = some (.int (nI (coM (nJ σ) (pD (phC σ)) (pM (phC σ)) (nS σ) (tn b)))) ∧ t = uN σ1 5 (nI 0)) r t → FinI (cdCount b) r1 r t := by
  refine ⟨mo_W h1 (fun t e => by rw [e]; exact (MoE.self σ).l _), fun r t h2 => ?_⟩
  by_cases hc : cdCount b = 0
  · have e1 := h1.2.1 hc
    obtain ⟨e2, e3⟩ := h2.2 hc
    refine ⟨h1.1, ?_, ?_, _, e2, fun _ => ?_⟩
    · rw [e3, hc]; rfl
    · rw [e3, e1]
      exact Rl.thr (h.outL _) _
    · rw [e3, e1]
      show vp_updL (sL σ) 0 _ 0 = _
      rw [vp_L]
      unfold coM
      rcases in4 (cdCount_0 hc) with e | e | e | e <;> rw [e] <;> rfl
  · exact st_errI h h1 h2 hc
