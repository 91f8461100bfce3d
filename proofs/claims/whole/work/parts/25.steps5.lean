/-! duct -/
theorem hg_15 (s : gS) (j n d : Nat) : sI (hgS s j n d) 15 = upd (sI s 15) j (nI (n + 1)) := sI_self _ _ _
theorem hg_row (s : gS) (j n d : Nat) : sI (hgS s j n d) (45 + j) = upd (sI s (45 + j)) n (nI d) := (sI_ne (k := 15) (j := 45 + j) _ _ (by omega)).trans (sI_self _ _ _)
theorem hg_o (s : gS) (j n d : Nat) {k : Nat} (h1 : k ≠ 15) (h2 : k ≠ 45 + j) : sI (hgS s j n d) k = sI s k := (sI_ne (k := 15) (j := k) _ _ h1).trans (sI_ne (k := 45 + j) (j := k) _ _ h2)
theorem hg_u (s : gS) (j n d : Nat) (h : 15 ≠ 45 + j) : sI (uI s (45 + j) (upd (sI s (45 + j)) n (nI d))) 15 = sI s 15 := sI_ne _ _ h
def adD (h : Ph) (a b : Nat) (e : UInt64) : Ph := (h.1 + 1, h.2.1, (fun d => if d = h.1 then a else h.2.2.1 d), (fun d => if d = h.1 then b else h.2.2.2.1 d), vf_upd h.2.2.2.2.1 h.1 e, h.2.2.2.2.2)
/-- where the class stands ahead of hanging the duct on -/
def du0 (σ : gS) (a b : Nat) (l w : UInt64) : gS := wiS (uF (uI (uI (uN (uN σ 1 (nI 0)) 2 (nI (pD (phC σ) + 1))) 9 (upd (sI σ 9) (pD (phC σ)) (nI a))) 10 (upd (sI σ 10) (pD (phC σ)) (nI b))) 11 (vf_upd (sF σ 11) (pD (phC σ)) l)) (pD (phC σ)) w
theorem duR_du0 (σ : gS) (a b : Nat) (l w : UInt64) : duR σ a b l w = hgS (hgS (du0 σ a b l w) a (cntC σ a) (pD (phC σ))) b (cntC σ b) (pD (phC σ)) := rfl
theorem du_o (σ : gS) {a b k : Nat} (l w : UInt64) (h15 : k ≠ 15) (h45 : k < 45) : sI (duR σ a b l w) k = sI (du0 σ a b l w) k := by
  rw [duR_du0, hg_o _ _ _ _ h15 (by omega), hg_o _ _ _ _ h15 (by omega)]
theorem du_15 (σ : gS) {a b : Nat} (l w : UInt64) : sI (duR σ a b l w) 15 = upd (upd (sI σ 15) a (nI (cntC σ a + 1))) b (nI (cntC σ b + 1)) := by
  rw [duR_du0, hg_15, hg_15]
  rfl
theorem du_rowb (σ : gS) {a b : Nat} (l w : UInt64) (hab : a ≠ b) : sI (duR σ a b l w) (45 + b) = upd (sI σ (45 + b)) (cntC σ b) (nI (pD (phC σ))) := by
  rw [duR_du0, hg_row, hg_o _ _ _ _ (k := 45 + b) (by omega) (by omega)]
  rw [show sI (du0 σ a b l w) (45 + b) = sI σ (45 + b) from (sI_ne (k := 10) (j := 45 + b) _ _ (by omega)).trans (sI_ne (k := 9) (j := 45 + b) _ _ (by omega))]
theorem du_rowa (σ : gS) {a b : Nat} (l w : UInt64) (hab : a ≠ b) : sI (duR σ a b l w) (45 + a) = upd (sI σ (45 + a)) (cntC σ a) (nI (pD (phC σ))) := by
  rw [duR_du0, hg_o _ _ _ _ (k := 45 + a) (by omega) (by omega), hg_row]
  rw [show sI (du0 σ a b l w) (45 + a) = sI σ (45 + a) from (sI_ne (k := 10) (j := 45 + a) _ _ (by omega)).trans (sI_ne (k := 9) (j := 45 + a) _ _ (by omega))]
theorem du_rowo (σ : gS) {a b j : Nat} (l w : UInt64) (h1 : j ≠ a) (h2 : j ≠ b) : sI (duR σ a b l w) (45 + j) = sI σ (45 + j) := by
  rw [duR_du0, hg_o _ _ _ _ (k := 45 + j) (by omega) (by omega), hg_o _ _ _ _ (k := 45 + j) (by omega) (by omega)]
  exact (sI_ne (k := 10) (j := 45 + j) _ _ (by omega)).trans (sI_ne (k := 9) (j := 45 + j) _ _ (by omega))
theorem ph_duct (σ : gS) {a b : Nat} {l w : UInt64} (ha : a < 10) (hb : b < 10) (hd : pD (phC σ) < 16) : phC (duR σ a b l w) = adD (phC σ) a b (eas w l) := by
  have e1 : tn (nI (pD (phC σ) + 1)) = pD (phC σ) + 1 := tn_nI (by omega)
  have e2 : (fun d => tn (sI (duR σ a b l w) 9 d)) = fun d => if d = pD (phC σ) then a else tn (sI σ 9 d) := by
    rw [du_o σ l w (by decide) (by decide)]
    exact tn_upd (sI σ 9) (pD (phC σ)) a (by omega)
  have e3 : (fun d => tn (sI (duR σ a b l w) 10 d)) = fun d => if d = pD (phC σ) then b else tn (sI σ 10 d) := by
    rw [du_o σ l w (by decide) (by decide)]
    exact tn_upd (sI σ 10) (pD (phC σ)) b (by omega)
  have e4 : (fun d => eas (vf_upd (sF σ 12) (pD (phC σ)) w d) (vf_upd (sF σ 11) (pD (phC σ)) l d)) = vf_upd (fun d => eas (sF σ 12 d) (sF σ 11 d)) (pD (phC σ)) (eas w l) := by
    funext d
    by_cases e : d = pD (phC σ)
    · rw [e, vf_at, vf_at, vf_at]
    · rw [vf_ne e, vf_ne e, vf_ne e]
  have e5 : sI (duR σ a b l w) 16 = sI σ 16 := du_o σ l w (by decide) (by decide)
  have e6 : sI (duR σ a b l w) 19 = sI σ 19 := du_o σ l w (by decide) (by decide)
  show (tn (nI (pD (phC σ) + 1)), tn (sN σ 3), (fun d => tn (sI (duR σ a b l w) 9 d)), (fun d => tn (sI (duR σ a b l w) 10 d)), (fun d => eas (vf_upd (sF σ 12) (pD (phC σ)) w d) (vf_upd (sF σ 11) (pD (phC σ)) l d)), (fun m => tn (sI (duR σ a b l w) 16 m)), (fun m => decide (¬ sI (duR σ a b l w) 19 m = 0)), sF σ 17, sD σ 0, sD σ 1) = _
  rw [e1, e2, e3, e4, e5, e6]
  rfl
theorem atj_old {h : Ph} {a b j d : Nat} {e : UInt64} (hd : d < pD h) : atj (adD h a b e) j d = atj h j d := by
  show (decide ((if d = pD h then a else pA h d) = j) || decide ((if d = pD h then b else pB h d) = j)) = _
  rw [if_neg (by omega), if_neg (by omega)]
  rfl
theorem atj_new {h : Ph} {a b j : Nat} {e : UInt64} : atj (adD h a b e) j (pD h) = (decide (a = j) || decide (b = j)) := by
  show (decide ((if pD h = pD h then a else pA h (pD h)) = j) || decide ((if pD h = pD h then b else pB h (pD h)) = j)) = _
  rw [if_pos rfl, if_pos rfl]
theorem ctF_i {p : Nat → Bool} {d n : Nat} (hd : d < n) (h : p d = true) : ctF p d < ctF p n := by
  have h1 := ctF_mono p (m := d + 1) (n := n) hd
  rw [ctF_yes h] at h1
  omega
theorem Ic_duct {σ : gS} (h : Ic σ) {a b : Nat} {l w : UInt64} (ha : a < nJ σ) (hb : b < nJ σ) (hab : a ≠ b) (hl : okW l) (hw : okW w) (hd : pD (phC σ) < 16) : Ic (duR σ a b l w) := by
  have hnj := h.j
  unfold Ic
  rw [ph_duct σ (by omega) (by omega) hd]
  have heas := eas_ok hw hl
  obtain ⟨⟨a1, a2, a3, a4, a5, a6, a7⟩, h2, h3, h4, h5, h6, h7, h8, h9, h10, h11, h12, h13, h14, h15, h16⟩ := h
  have lt1 : ∀ {d}, d < pD (phC σ) + 1 → d ≠ pD (phC σ) → d < pD (phC σ) := fun h1 h2 => by omega
  refine ⟨⟨rfl, hd, a3, a4, fun d hd1 => ?_, fun m hm => ?_, fun j hj => ?_⟩, fun d hd1 => ?_, ⟨hd, h3.2.1, fun d hd1 => ?_, h3.2.2.2⟩, h4, h5, h6, fun d hd1 => ?_, h8, h9, h10, fun q hq => ?_, fun d hir => ?_, h13, rfl, fun d hd1 => ?_, h16⟩
  · have hd1 : d < pD (phC σ) + 1 := hd1
    rw [du_o σ l w (by decide) (by decide), du_o σ l w (by decide) (by decide)]
    show (upd (sI σ 9) (pD (phC σ)) (nI a) d = nI (if d = pD (phC σ) then a else pA (phC σ) d) ∧ (if d = pD (phC σ) then a else pA (phC σ) d) < 10) ∧ (upd (sI σ 10) (pD (phC σ)) (nI b) d = nI (if d = pD (phC σ) then b else pB (phC σ) d) ∧ (if d = pD (phC σ) then b else pB (phC σ) d) < 10) ∧ (if d = pD (phC σ) then a else pA (phC σ) d) ≠ (if d = pD (phC σ) then b else pB (phC σ) d)
    unfold upd
    by_cases e : d = pD (phC σ)
    · simp only [if_pos e]
      exact ⟨⟨trivial, by omega⟩, ⟨trivial, by omega⟩, hab⟩
    · simp only [if_neg e]
      exact a5 d (lt1 hd1 e)
  · rw [du_o σ l w (by decide) (by decide)]
    exact a6 m hm
  · have hc : ctF (atj (adD (phC σ) a b (eas w l)) j) (pD (phC σ)) = cntC σ j := ctF_congr (fun k hk => atj_old hk)
    have hci : ∀ d, d ≤ pD (phC σ) → ctF (atj (adD (phC σ) a b (eas w l)) j) d = ctF (atj (phC σ) j) d := fun d hd => ctF_congr (fun k hk => atj_old (by omega))
    have hcnt : sI σ 15 j = nI (cntC σ j) := (a7 j hj).1
    have hrow := (a7 j hj).2
    show sI (duR σ a b l w) 15 j = nI (ctF (atj (adD (phC σ) a b (eas w l)) j) (pD (phC σ) + 1)) ∧ ∀ d, d < pD (phC σ) + 1 → atj (adD (phC σ) a b (eas w l)) j d = true → sI (duR σ a b l w) (45 + j) (ctF (atj (adD (phC σ) a b (eas w l)) j) d) = nI d
    rw [du_15]
    by_cases hat : j = a ∨ j = b
    · have hn : atj (adD (phC σ) a b (eas w l)) j (pD (phC σ)) = true := by
        rw [atj_new]
        rcases hat with e | e
        · rw [decide_eq_true e.symm]; rfl
        · rw [decide_eq_true e.symm, Bool.or_true]
      rw [ctF_yes hn, hc]
      have hr : sI (duR σ a b l w) (45 + j) = upd (sI σ (45 + j)) (cntC σ j) (nI (pD (phC σ))) := by
        rcases hat with e | e
        · rw [e]; exact du_rowa σ l w hab
        · rw [e]; exact du_rowb σ l w hab
      rw [hr]
      refine ⟨?_, fun d hd1 hda => ?_⟩
      · unfold upd
        by_cases e : j = b
        · rw [if_pos e, e]
        · rw [if_neg e, if_pos (by omega), show j = a by omega]
      · unfold upd
        by_cases e : d = pD (phC σ)
        · rw [e, hc, if_pos rfl]
        · have hd2 := lt1 hd1 e
          rw [atj_old hd2] at hda
          rw [hci d (by omega)]
          have := ctF_i hd2 hda
          have h9 : cntC σ j = ctF (atj (phC σ) j) (pD (phC σ)) := rfl
          rw [if_neg (by omega)]
          exact hrow d hd2 hda
    · have hn : atj (adD (phC σ) a b (eas w l)) j (pD (phC σ)) = false := by
        rw [atj_new, decide_eq_false (fun e => hat (Or.inl e.symm)), decide_eq_false (fun e => hat (Or.inr e.symm))]
        rfl
      rw [ctF_no hn, hc, du_rowo σ l w (fun e => hat (Or.inl e)) (fun e => hat (Or.inr e))]
      refine ⟨?_, fun d hd1 hda => ?_⟩
      · unfold upd
        rw [if_neg (fun e => hat (Or.inr e)), if_neg (fun e => hat (Or.inl e))]
        exact hcnt
      · by_cases e : d = pD (phC σ)
        · rw [e, hn] at hda; cases hda
        · have hd2 := lt1 hd1 e
          rw [atj_old hd2] at hda
          rw [hci d (by omega)]
          exact hrow d hd2 hda
  · have hd1 : d < pD (phC σ) + 1 := hd1
    show vf_upd (sF σ 13) (pD (phC σ)) (eas w (vf_upd (sF σ 11) (pD (phC σ)) l (pD (phC σ)))) d = vf_upd (pE (phC σ)) (pD (phC σ)) (eas w l) d
    by_cases e : d = pD (phC σ)
    · rw [e, vf_at, vf_at, vf_at]
    · rw [vf_ne e, vf_ne e]; exact h2 d (lt1 hd1 e)
  · have hd1 : d < pD (phC σ) + 1 := hd1
    show okE (vf_upd (pE (phC σ)) (pD (phC σ)) (eas w l) d) ∧ (if d = pD (phC σ) then a else pA (phC σ) d) < 10 ∧ (if d = pD (phC σ) then b else pB (phC σ) d) < 10
    by_cases e : d = pD (phC σ)
    · simp only [if_pos e]
      rw [e, vf_at]
      exact ⟨heas.2.2.1, by omega, by omega⟩
    · simp only [if_neg e]
      rw [vf_ne e]
      exact h3.2.2.1 d (lt1 hd1 e)
  · have hd1 : d < pD (phC σ) + 1 := hd1
    show okW (vf_upd (sF σ 12) (pD (phC σ)) w d) ∧ okW (vf_upd (sF σ 11) (pD (phC σ)) l d)
    by_cases e : d = pD (phC σ)
    · rw [e, vf_at, vf_at]; exact ⟨hw, hl⟩
    · rw [vf_ne e, vf_ne e]; exact h7 d (lt1 hd1 e)
  · have e : sI (duR σ a b l w) 26 = sI σ 26 := du_o σ l w (by decide) (by decide)
    have eo : odC (duR σ a b l w) q = odC σ q := congrArg tn (congrFun e q)
    rw [e, eo]
    exact h11 q hq
  · have e : sI (duR σ a b l w) 23 = sI σ 23 := du_o σ l w (by decide) (by decide)
    have hir : irC σ d = true := by
      unfold irC at hir ⊢
      rw [e] at hir
      exact hir
    have h9 := h12 d hir
    exact ⟨Nat.lt_succ_of_lt h9.1, h9.2⟩
  · have hd1 : d < pD (phC σ) + 1 := hd1
    show (if d = pD (phC σ) then a else pA (phC σ) d) < nJ σ ∧ (if d = pD (phC σ) then b else pB (phC σ) d) < nJ σ
    by_cases e : d = pD (phC σ)
    · simp only [if_pos e]; exact ⟨ha, hb⟩
    · simp only [if_neg e]; exact h15 d (lt1 hd1 e)
theorem mo_duR (σ : gS) (a b : Nat) (l w : UInt64) : MoE σ (duR σ a b l w) := by
  rw [duR_du0]
  exact ((((((((((MoE.self σ).n 1 _ (by decide)).n 2 _ (by decide)).i 9 _ (by decide)).i 10 _ (by decide)).f 11 _ (by decide)).f 12 _ (by decide)).f 13 _ (by decide)).i (45 + a) _ (by omega)).i 15 _ (by decide)).i (45 + b) _ (by omega) |>.i 15 _ (by decide)
theorem st_duct {σ σ1 : gS} {r1 : Option Value} {a b : Int32} {l w : UInt64} (hl : dF l) (hw : dF w) (h : Rl σ) (h1 : Wr σ (cdDuct (nJ σ) (pD (phC σ)) a b l w) (fun t => t = outL (duR σ (tn a) (tn b) l w) (nI (pD (phC σ))).toInt64) r1 σ1) : MoE σ σ1 ∧ ∀ r t, Mr σ1 (cdDuct (nJ σ) (pD (phC σ)) a b l w) (some (.int (nI 0))) (fun r t => r = some (.int (nI (pD (phC σ)))) ∧ t = uN (uN (uF (uF (uI (uI (uN σ1 5 (nI 0)) 28 (upd (sI σ1 28) (pD (phC σ)) a)) 29 (upd (sI σ1 29) (pD (phC σ)) b)) 30 (vf_upd (sF σ1 30) (pD (phC σ)) l)) 31 (vf_upd (sF σ1 31) (pD (phC σ)) w)) 7 (nI (pD (phC σ) + 1))) 9 (nI 0)) r t → FinI (cdDuct (nJ σ) (pD (phC σ)) a b l w) r1 r t := by
  have m : MoE σ σ1 := mo_W h1 (fun t e => by rw [e]; exact (mo_duR σ _ _ l w).l _)
  refine ⟨m, fun r t h2 => ?_⟩
  by_cases hc : cdDuct (nJ σ) (pD (phC σ)) a b l w = 0
  · have e1 := h1.2.1 hc
    obtain ⟨e2, e3⟩ := h2.2 hc
    obtain ⟨k1, k2, k3⟩ := cdDuct_0 hc
    have hj := h.1.j
    have ta := inT k1.1 (by omega)
    have tb := inT k1.2 (by omega)
    have hab : tn a ≠ tn b := fun z => k2.1 (by rw [ta.1, tb.1, z])
    refine ⟨h1.1, ?_, ?_, _, e2, fun _ => ?_⟩
    · rw [e3, hc]; rfl
    · have cc : ClE σ1 t := by rw [e3]; exact (((((((ClE.self σ1).n 5 _ (by decide)).i 28 _ (by decide)).i 29 _ (by decide)).f 30 _ (by decide)).f 31 _ (by decide)).n 7 _ (by decide)).n 9 _ (by decide)
      have c1 : ClE (duR σ (tn a) (tn b) l w) σ1 := by rw [e1]; exact (ClE.self _).l _
      have c2 := c1.trans cc
      have d_o : ∀ k, k ≠ 15 → k < 28 → sI t k = sI (du0 σ (tn a) (tn b) l w) k := fun k h15 h28 => (c2.2.2.1 k (Or.inl h28)).trans (du_o σ l w h15 (by omega))
      have hE := h.2.1
      have hE2 : Ex (duR σ (tn a) (tn b) l w) := by
        unfold Ex
        rw [du_o σ l w (by decide) (by decide), du_o σ l w (by decide) (by decide), du_o σ l w (by decide) (by decide)]
        refine ⟨hE.1, hE.2.1, fun q hq => ?_, hE.2.2.2⟩
        have eo : odC (duR σ (tn a) (tn b) l w) q = odC σ q := congrArg tn (congrFun (du_o σ (a := tn a) (b := tn b) l w (k := 26) (by decide) (by decide)) q)
        rw [eo]
        exact hE.2.2.1 q hq
      have hIc := Ic_duct h.1 ta.2 tb.2 hab (okW_of hl k2.2.1) (okW_of hw k2.2.2) k3
      obtain ⟨hI, _, ⟨n6, n7, n8, n9, n10⟩, ⟨i28, i29, i35, i39, i33, i42⟩, ⟨f30, f31, f32, f34, f36, f38, f40, f41⟩, hMd, hU⟩ := h
      obtain ⟨q1, q2, q3, q4⟩ := id c2
      refine ⟨hIc.cl c2, Ex.cl c2 hE2, ⟨?_, ?_, ?_, ?_, ?_⟩, ⟨?_, ?_, ?_, ?_, ?_, ?_⟩, ⟨?_, ?_, ?_, ?_, ?_, ?_, ?_, ?_⟩, ⟨?_, ?_, ?_⟩, fun k j hk hj2 => ?_⟩
      · rw [q1 0 (by decide), e3]; exact (m.1 6 (by decide)).trans n6
      · rw [q1 2 (by decide), e3]; rfl
      · rw [q1 3 (by decide), e3]; exact (m.1 8 (by decide)).trans n8
      · rw [q1 1 (by decide), e3]; rfl
      · rw [q1 4 (by decide), e3]; exact (m.1 10 (by decide)).trans n10
      · rw [d_o 9 (by decide) (by decide), e3]
        show upd (sI σ1 28) (pD (phC σ)) a = upd (sI σ 9) (pD (phC σ)) (nI (tn a))
        rw [m.2.2.1 28 (by decide), i28, ← ta.1]
      · rw [d_o 10 (by decide) (by decide), e3]
        show upd (sI σ1 29) (pD (phC σ)) b = upd (sI σ 10) (pD (phC σ)) (nI (tn b))
        rw [m.2.2.1 29 (by decide), i29, ← tb.1]
      · rw [d_o 16 (by decide) (by decide), e3]; exact (m.2.2.1 35 (by decide)).trans i35
      · rw [d_o 19 (by decide) (by decide), e3]; exact (m.2.2.1 39 (by decide)).trans i39
      · rw [d_o 23 (by decide) (by decide), e3]; exact (m.2.2.1 33 (by decide)).trans i33
      · rw [d_o 25 (by decide) (by decide), e3]; exact (m.2.2.1 42 (by decide)).trans i42
      · rw [q4 11 (by decide), e3]
        show vf_upd (sF σ1 30) (pD (phC σ)) l = vf_upd (sF σ 11) (pD (phC σ)) l
        rw [m.2.2.2 30 (by decide), f30]
      · rw [q4 12 (by decide), e3]
        show vf_upd (sF σ1 31) (pD (phC σ)) w = vf_upd (sF σ 12) (pD (phC σ)) w
        rw [m.2.2.2 31 (by decide), f31]
      · rw [q4 21 (by decide), e3]; exact (m.2.2.2 32 (by decide)).trans f32
      · rw [q4 22 (by decide), e3]; exact (m.2.2.2 34 (by decide)).trans f34
      · rw [q4 17 (by decide), e3]; exact (m.2.2.2 36 (by decide)).trans f36
      · rw [q4 18 (by decide), e3]; exact (m.2.2.2 38 (by decide)).trans f38
      · rw [q4 7 (by decide), e3]; exact (m.2.2.2 40 (by decide)).trans f40
      · rw [q4 24 (by decide), e3]; exact (m.2.2.2 41 (by decide)).trans f41
      · rw [q2 0 (by decide), e3]; exact (m.2.1 3 (by decide)).trans hMd.1
      · rw [q2 1 (by decide), e3]; exact (m.2.1 4 (by decide)).trans hMd.2.1
      · rw [q2 2 (by decide), e3]; exact (m.2.1 5 (by decide)).trans hMd.2.2
      · rw [us_cl c2, e3]
        unfold usC
        rw [du_o σ l w (by decide) (by decide)]
        show decide (¬ sI σ1 37 (8 * k + j) = 0) = usC σ k j
        rw [m.2.2.1 37 (by decide)]
        exact hU k j hk hj2
    · rw [e3, e1]
      show vp_updL (sL (duR σ (tn a) (tn b) l w)) 0 _ 0 = _
      exact vp_L
  · exact st_errI h h1 h2 hc
