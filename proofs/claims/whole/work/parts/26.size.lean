/-! size: the class's tries, and the model's beside them -/
theorem ClE.n' {a b : gS} (h : ClE a b) (k : Nat) (x : Int32) : ClE (uN a k x) (uN b k x) := ⟨fun j hj => by
  by_cases e : j = k
  · rw [e, sN_self, sN_self]
  · rw [sN_ne _ _ e, sN_ne _ _ e]; exact h.1 j hj, h.2.1, h.2.2.1, h.2.2.2⟩
theorem ClE.d' {a b : gS} (h : ClE a b) (k : Nat) (x : UInt64) : ClE (uD a k x) (uD b k x) := ⟨h.1, fun j hj => by
  by_cases e : j = k
  · rw [e, sD_self, sD_self]
  · rw [sD_ne _ _ e, sD_ne _ _ e]; exact h.2.1 j hj, h.2.2.1, h.2.2.2⟩
theorem ClE.i' {a b : gS} (h : ClE a b) (k : Nat) (x : Nat → Int32) : ClE (uI a k x) (uI b k x) := ⟨h.1, h.2.1, fun j hj => by
  by_cases e : j = k
  · rw [e, sI_self, sI_self]
  · rw [sI_ne _ _ e, sI_ne _ _ e]; exact h.2.2.1 j hj, h.2.2.2⟩
theorem ClE.f' {a b : gS} (h : ClE a b) (k : Nat) (x : Nat → UInt64) : ClE (uF a k x) (uF b k x) := ⟨h.1, h.2.1, h.2.2.1, fun j hj => by
  by_cases e : j = k
  · rw [e, sF_self, sF_self]
  · rw [sF_ne _ _ e, sF_ne _ _ e]; exact h.2.2.2 j hj⟩
theorem MoE.n' {a b : gS} (h : MoE a b) (k : Nat) (x : Int32) : MoE (uN a k x) (uN b k x) := ⟨fun j hj => by
  by_cases e : j = k
  · rw [e, sN_self, sN_self]
  · rw [sN_ne _ _ e, sN_ne _ _ e]; exact h.1 j hj, h.2.1, h.2.2.1, h.2.2.2⟩
theorem MoE.d' {a b : gS} (h : MoE a b) (k : Nat) (x : UInt64) : MoE (uD a k x) (uD b k x) := ⟨h.1, fun j hj => by
  by_cases e : j = k
  · rw [e, sD_self, sD_self]
  · rw [sD_ne _ _ e, sD_ne _ _ e]; exact h.2.1 j hj, h.2.2.1, h.2.2.2⟩
theorem MoE.i' {a b : gS} (h : MoE a b) (k : Nat) (x : Nat → Int32) : MoE (uI a k x) (uI b k x) := ⟨h.1, h.2.1, fun j hj => by
  by_cases e : j = k
  · rw [e, sI_self, sI_self]
  · rw [sI_ne _ _ e, sI_ne _ _ e]; exact h.2.2.1 j hj, h.2.2.2⟩
theorem MoE.f' {a b : gS} (h : MoE a b) (k : Nat) (x : Nat → UInt64) : MoE (uF a k x) (uF b k x) := ⟨h.1, h.2.1, h.2.2.1, fun j hj => by
  by_cases e : j = k
  · rw [e, sF_self, sF_self]
  · rw [sF_ne _ _ e, sF_ne _ _ e]; exact h.2.2.2 j hj⟩
theorem MoE.trans {a b c : gS} (h : MoE a b) (g : MoE b c) : MoE a c := ⟨fun k hk => (g.1 k hk).trans (h.1 k hk), fun k hk => (g.2.1 k hk).trans (h.2.1 k hk), fun k hk => (g.2.2.1 k hk).trans (h.2.2.1 k hk), fun k hk => (g.2.2.2 k hk).trans (h.2.2.2 k hk)⟩
theorem MoE.symm {a b : gS} (h : MoE a b) : MoE b a := ⟨fun k hk => (h.1 k hk).symm, fun k hk => (h.2.1 k hk).symm, fun k hk => (h.2.2.1 k hk).symm, fun k hk => (h.2.2.2 k hk).symm⟩
theorem opN_cl {a b : gS} (h : ClE a b) (c : Nat) : ∀ n, opN b c n = opN a c n
  | 0 => h.2.2.1 19 (by decide)
  | n + 1 => by
    show upd (opN b c n) n (bI (usC b c n)) = upd (opN a c n) n (bI (usC a c n))
    rw [opN_cl h c n, us_cl h]
theorem gtN_cl {a b : gS} (h : ClE a b) (c : Nat) : ∀ n, gtN b c n = gtN a c n
  | 0 => h.2.2.2 18 (by decide)
  | n + 1 => by
    show vf_upd (gtN b c n) n (if usC b c n then FP.dconst1 else FP.dconst0) = vf_upd (gtN a c n) n (if usC a c n then FP.dconst1 else FP.dconst0)
    rw [gtN_cl h c n, us_cl h]
theorem opZ_cl {a b : gS} (h : ClE a b) (c : Nat) : ClE (opZ a c) (opZ b c) := by
  unfold opZ opS
  rw [h.ph, opN_cl h, gtN_cl h, h.2.2.2 7 (by decide)]
  exact (((h.i' 19 _).f' 18 _).d' 2 _).f' 7 _
theorem blA_cl {a b : gS} (h : ClE a b) : blA b = blA a := by
  unfold blA
  rw [h.ph, h.2.2.2 7 (by decide), h.2.1 2 (by decide), h.2.2.2 18 (by decide)]
theorem ba_cl {a b : gS} (h : ClE a b) (w : Nat → UInt64) (s : (Nat → UInt64) × UInt64) (g : Nat → UInt64) : ClE (baS a w s g) (baS b w s g) := (((h.f' 8 _).f' 7 _).d' 2 _).f' 18 _
def slS (a : gS) (c : Nat) (w : Nat → UInt64) : gS := uN (baS (opZ a c) w (blA (opZ a c)).2.1 (blA (opZ a c)).2.2) 1 (bI (blA (opZ a c)).1.isSome)
theorem sl_cl {a b : gS} (h : ClE a b) (c : Nat) (w : Nat → UInt64) : ClE (slS a c w) (slS b c w) := by
  unfold slS
  rw [blA_cl (opZ_cl h c)]
  exact (ba_cl (opZ_cl h c) w _ _).n' 1 _
theorem sw_cl {a b : gS} (h : ClE a b) (w : UInt64) (n : Nat) : ClE (swS a w n) (swS b w n) := by
  unfold swS
  rw [h.2.2.2 12 (by decide), h.2.2.2 13 (by decide), h.2.2.2 11 (by decide)]
  exact (h.f' 12 _).f' 13 _
theorem ms_mo {a b : gS} (h : MoE a b) (c m : Nat) : msO b c m = msO a c m := by
  unfold msO
  rw [h.1 8 (by decide), h.2.2.1 37 (by decide)]
theorem moN_mo {a b : gS} (h : MoE a b) (c : Nat) : ∀ n, moN b c n = moN a c n
  | 0 => h.2.2.1 39 (by decide)
  | n + 1 => by
    show upd (moN b c n) n (bI (msO b c n)) = upd (moN a c n) n (bI (msO a c n))
    rw [moN_mo h c n, ms_mo h]
theorem mgN_mo {a b : gS} (h : MoE a b) (c : Nat) : ∀ n, mgN b c n = mgN a c n
  | 0 => h.2.2.2 38 (by decide)
  | n + 1 => by
    show vf_upd (mgN b c n) n (if msO b c n then FP.dconst1 else FP.dconst0) = vf_upd (mgN a c n) n (if msO a c n then FP.dconst1 else FP.dconst0)
    rw [mgN_mo h c n, ms_mo h]
theorem blM_mo {a b : gS} (h : MoE a b) (H : Ph) (c : Nat) : blM H b c = blM H a c := by
  unfold blM
  rw [mgN_mo h, h.2.2.2 40 (by decide), show msO b c = msO a c from funext (ms_mo h c)]
theorem mb_mo {a b : gS} (h : MoE a b) (c : Nat) (s : (Nat → UInt64) × UInt64) (g : Nat → UInt64) (x : Int32) : MoE (mbF a c s g x) (mbF b c s g x) := by
  unfold mbF
  rw [moN_mo h]
  exact ((((h.i' 39 _).f' 40 _).d' 5 _).f' 38 _).n' 9 _
/-- a state beside another: class keys of ρ, model keys of τ -/
def Mir (ρ τ : gS) : Prop := ∃ κ, Rl κ ∧ ClE ρ κ ∧ MoE κ τ
def mwS (τ : gS) (w : UInt64) (n : Nat) : gS := uF τ 31 (swW (sF τ 31) w n)
theorem Rl_sw {κ : gS} (h : Rl κ) {w : UInt64} (hw : okW w) : Rl (uF (swS κ w (pD (phC κ))) 31 (swW (sF κ 31) w (pD (phC κ)))) := by
  have c : ClE (swS κ w (pD (phC κ))) (uF (swS κ w (pD (phC κ))) 31 (swW (sF κ 31) w (pD (phC κ)))) := (ClE.self _).f 31 _ (by decide)
  have hI := Ic_sw h.1 hw
  have hE : Ex (swS κ w (pD (phC κ))) := h.2.1
  obtain ⟨_, _, hMn, hMa, ⟨f30, f31, f32, f34, f36, f38, f40, f41⟩, hMd, hU⟩ := h
  refine ⟨hI.cl c, Ex.cl c hE, hMn, hMa, ⟨f30, ?_, f32, f34, f36, f38, f40, f41⟩, hMd, hU⟩
  show swW (sF κ 31) w (pD (phC κ)) = swW (sF κ 12) w (pD (phC κ))
  rw [f31]
theorem trS_sl (τ : gS) (c s : Nat) (w : Nat → UInt64) : trS τ c s w = slS (swS τ (sF τ 24 s) (pD (phC τ))) c w := rfl
/-- one try of both -/
theorem mir_step {ρ τ : gS} {c s : Nat} (hc : c < 4) (hs : s < nS ρ) (w : Nat → UInt64) (h : Mir ρ τ) : ∃ (H2 H3 : Ph) (nj : Nat) (sv2 sv3 : Bool), pD H2 = pD (phC ρ) ∧ Mi H2 nj (nS ρ) sv2 (mwS τ (sF τ 41 s) (pD (phC ρ))) ∧
    Mi H3 nj (nS ρ) sv3 (mbF (mwS τ (sF τ 41 s) (pD (phC ρ))) c (blM H2 (mwS τ (sF τ 41 s) (pD (phC ρ))) c).2.1 (blM H2 (mwS τ (sF τ 41 s) (pD (phC ρ))) c).2.2 (bI (blM H2 (mwS τ (sF τ 41 s) (pD (phC ρ))) c).1.isSome)) ∧
    Mir (trS ρ c s w) (mbF (mwS τ (sF τ 41 s) (pD (phC ρ))) c (blM H2 (mwS τ (sF τ 41 s) (pD (phC ρ))) c).2.1 (blM H2 (mwS τ (sF τ 41 s) (pD (phC ρ))) c).2.2 (bI (blM H2 (mwS τ (sF τ 41 s) (pD (phC ρ))) c).1.isSome)) ∧
    trK (trS ρ c s w) = ((blM H2 (mwS τ (sF τ 41 s) (pD (phC ρ))) c).1.isSome && allB (srB H3 (blM H2 (mwS τ (sF τ 41 s) (pD (phC ρ))) c).2.1.1 (blM H2 (mwS τ (sF τ 41 s) (pD (phC ρ))) c).2.2) (pM H3)) := by
  obtain ⟨κ, hκ, cκ, mκ⟩ := h
  have e24 : sF τ 41 s = sF κ 24 s := by rw [mκ.2.2.2 41 (by decide), hκ.2.2.2.2.1.2.2.2.2.2.2.2]
  have e24' : sF κ 24 s = sF ρ 24 s := congrFun (cκ.2.2.2 24 (by decide)) s
  have hw : okW (sF κ 24 s) := hκ.1.sw s (by rw [cκ.s]; exact hs)
  have eph : pD (phC ρ) = pD (phC κ) := by rw [cκ.ph]
  rw [e24, eph]
  have hκ2 := Rl_sw hκ hw
  generalize eκ2 : uF (swS κ (sF κ 24 s) (pD (phC κ))) 31 (swW (sF κ 31) (sF κ 24 s) (pD (phC κ))) = κ2 at hκ2
  have m2 : MoE κ2 (mwS τ (sF κ 24 s) (pD (phC κ))) := by
    have h1 : MoE κ (swS κ (sF κ 24 s) (pD (phC κ))) := ((MoE.self κ).f 12 _ (by decide)).f 13 _ (by decide)
    have h2 : MoE (swS κ (sF κ 24 s) (pD (phC κ))) τ := h1.symm.trans mκ
    rw [← eκ2]
    unfold mwS
    rw [mκ.2.2.2 31 (by decide)]
    exact h2.f' 31 _
  have c2 : ClE (swS ρ (sF ρ 24 s) (pD (phC ρ))) κ2 := by
    rw [← eκ2, ← e24', eph]
    exact (sw_cl cκ _ _).f 31 _ (by decide)
  have e2D : pD (phC κ2) = pD (phC κ) := by rw [c2.ph, phC_sw]; exact eph
  have e2S : nS κ2 = nS ρ := c2.s.trans rfl
  have mi2 := hκ2.mi.mo m2
  rw [e2S] at mi2
  -- behind the solving
  obtain ⟨t, et⟩ : ∃ t, t = mbF (uN (slS κ2 c w) 5 0) c (blM (phC κ2) (uN (slS κ2 c w) 5 0) c).2.1 (blM (phC κ2) (uN (slS κ2 c w) 5 0) c).2.2 (bI (blM (phC κ2) (uN (slS κ2 c w) 5 0) c).1.isSome) := ⟨_, rfl⟩
  have mS : MoE κ2 (slS κ2 c w) := (mo_ba (mo_opZ κ2 c) _ _ _).n 1 _ (by decide)
  have hRt : Rl t := Rl_sol hc hκ2 mS w 0 (τ := slS κ2 c w) rfl (ClE.self _) et
  have mT : MoE (mwS τ (sF κ 24 s) (pD (phC κ))) (uN (slS κ2 c w) 5 0) := m2.symm.trans (mS.n 5 _ (by decide))
  have m3 : MoE t (mbF (mwS τ (sF κ 24 s) (pD (phC κ))) c (blM (phC κ2) (mwS τ (sF κ 24 s) (pD (phC κ))) c).2.1 (blM (phC κ2) (mwS τ (sF κ 24 s) (pD (phC κ))) c).2.2 (bI (blM (phC κ2) (mwS τ (sF κ 24 s) (pD (phC κ))) c).1.isSome)) := by
    rw [et, blM_mo mT]
    exact (mb_mo mT c _ _ _).symm
  have ct : ClE (slS κ2 c w) t := by
    rw [et]
    exact ((((((ClE.self _).n 5 _ (by decide)).i 39 _ (by decide)).f 40 _ (by decide)).d 5 _ (by decide)).f 38 _ (by decide)).n 9 _ (by decide)
  have c3 : ClE (trS ρ c s w) t := by
    rw [trS_sl]
    exact (sl_cl c2 c w).trans ct
  have e3J : nJ t = nJ κ2 := ct.j.trans rfl
  have e3S : nS t = nS ρ := (ct.s.trans rfl).trans e2S
  have mi3 := hRt.mi.mo m3
  rw [e3J, e3S] at mi3
  refine ⟨phC κ2, phC t, nJ κ2, svC κ2, svC t, e2D, mi2, mi3, ⟨t, hRt, c3, m3⟩, ?_⟩
  have hbl : blM (phC κ2) (mwS τ (sF κ 24 s) (pD (phC κ))) c = blA (opZ κ2 c) := bl_eq hκ2 m2 hc
  have hsv : svC (trS ρ c s w) = (blM (phC κ2) (mwS τ (sF κ 24 s) (pD (phC κ))) c).1.isSome := by
    rw [hbl, blA_cl (opZ_cl c2 c)]
    exact svC_b (σ := trS ρ c s w) rfl
  unfold trK
  rw [hsv, c3.ph, ← c3.2.2.2 7 (by decide), ← c3.2.2.2 18 (by decide), ← hRt.2.2.2.2.1.2.2.2.2.2.2.1, ← hRt.2.2.2.2.1.2.2.2.2.2.1, ← m3.2.2.2 40 (by decide), ← m3.2.2.2 38 (by decide)]
  rfl
/-- the class's tries as a chain -/
def Chn (σ : gS) (c : Nat) (Q : Nat) (f : Nat → gS) (w : Nat → Nat → UInt64) : Prop := f 0 = σ ∧ ∀ k, k < Q → f (k + 1) = trS (f k) c (odC σ k) (w k)
theorem trR_ch {σ : gS} {c : Nat} : ∀ {q : Nat} {τ : gS}, trR σ c q τ → ∃ (f : Nat → gS) (w : Nat → Nat → UInt64), Chn σ c q f w ∧ f q = τ ∧ ∀ k, k < q → trK (f (k + 1)) = false
  | 0, τ, h => ⟨fun _ => σ, fun _ => sF σ 8, ⟨rfl, fun k hk => absurd hk (Nat.not_lt_zero _)⟩, Eq.symm h, fun k hk => absurd hk (Nat.not_lt_zero _)⟩
  | q + 1, τ, ⟨τ0, w0, h1, h2, h3⟩ => by
    obtain ⟨f, w, ⟨g1, g2⟩, g3, g4⟩ := trR_ch h1
    refine ⟨fun k => if k = q + 1 then τ else f k, fun k => if k = q then w0 else w k, ⟨?_, fun k hk => ?_⟩, if_pos rfl, fun k hk => ?_⟩
    · show (if 0 = q + 1 then τ else f 0) = σ
      rw [if_neg (by omega)]; exact g1
    · show (if k + 1 = q + 1 then τ else f (k + 1)) = trS (if k = q + 1 then τ else f k) c (odC σ k) (if k = q then w0 else w k)
      rw [if_neg (show ¬ k = q + 1 by omega)]
      by_cases e : k = q
      · rw [if_pos (by omega), if_pos e, e, g3]; exact h2
      · rw [if_neg (by omega), if_neg e]; exact g2 k (by omega)
    · show trK (if k + 1 = q + 1 then τ else f (k + 1)) = false
      by_cases e : k = q
      · rw [if_pos (by omega)]; exact h3
      · rw [if_neg (by omega)]; exact g4 k (by omega)
theorem Chn.sz {σ : gS} {c Q : Nat} {f : Nat → gS} {w : Nat → Nat → UInt64} (h : Chn σ c Q f w) : ∀ {k : Nat}, k ≤ Q → nS (f k) = nS σ ∧ sI (f k) 26 = sI σ 26 ∧ pD (phC (f k)) = pD (phC σ)
  | 0, _ => by rw [h.1]; exact ⟨rfl, rfl, rfl⟩
  | k + 1, hk => by
    have ih := h.sz (k := k) (by omega)
    have h2 := trS_sz (f k) c (odC σ k) (w k)
    rw [h.2 k (by omega)]
    exact ⟨h2.1.trans ih.1, h2.2.1.trans ih.2.1, h2.2.2.2.trans ih.2.2⟩
/-- how the class's size came out, as a chain: whether one was good -/
theorem sz_ch {σ : gS} {c : Nat} {v : Int32} {τ : gS} (h : szR σ c (some (.int v)) τ) : ∃ (Q : Nat) (f : Nat → gS) (w : Nat → Nat → UInt64) (fd : Bool), Q ≤ nS σ ∧ Chn σ c Q f w ∧ f Q = τ ∧ (∀ k, k < Q → trK (f (k + 1)) = (fd && decide (k + 1 = Q))) ∧ (fd = true → 0 < Q ∧ v = nI (odC σ (Q - 1))) ∧ (fd = false → Q = nS σ ∧ v = -1) := by
  rcases h with ⟨q, τ0, w0, hq, h1, h2, h3, h4⟩ | ⟨h1, h2⟩
  · obtain ⟨f, w, ⟨g1, g2⟩, g3, g4⟩ := trR_ch h1
    refine ⟨q + 1, fun k => if k = q + 1 then τ else f k, fun k => if k = q then w0 else w k, true, hq, ⟨?_, fun k hk => ?_⟩, if_pos rfl, fun k hk => ?_, fun _ => ⟨by omega, ?_⟩, fun h => by cases h⟩
    · show (if 0 = q + 1 then τ else f 0) = σ
      rw [if_neg (by omega)]; exact g1
    · show (if k + 1 = q + 1 then τ else f (k + 1)) = trS (if k = q + 1 then τ else f k) c (odC σ k) (if k = q then w0 else w k)
      rw [if_neg (show ¬ k = q + 1 by omega)]
      by_cases e : k = q
      · rw [if_pos (by omega), if_pos e, e, g3]; exact h2
      · rw [if_neg (by omega), if_neg e]; exact g2 k (by omega)
    · show trK (if k + 1 = q + 1 then τ else f (k + 1)) = (true && decide (k + 1 = q + 1))
      by_cases e : k = q
      · rw [if_pos (by omega), decide_eq_true (by omega)]; exact h3
      · rw [if_neg (by omega), decide_eq_false (by omega)]; exact g4 k (by omega)
    · have := Option.some.inj h4
      injection this
  · obtain ⟨f, w, g0, g3, g4⟩ := trR_ch h1
    refine ⟨nS σ, f, w, false, Nat.le_refl _, g0, g3, fun k hk => g4 k hk, fun h => (by cases h), fun _ => ⟨rfl, ?_⟩⟩
    have := Option.some.inj h2
    injection this
