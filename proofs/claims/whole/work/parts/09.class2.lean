/-! the class: rounds -/
theorem nar_bI (b : Bool) : narrow .boolean (.int (bI b)) = .int (bI b) := by cases b <;> rfl
theorem uF_uF (σ : gS) (k : Nat) (f g : Nat → UInt64) : uF (uF σ k f) k g = uF σ k g := by
  unfold uF
  have h : va_up (va_up σ.2.2.2.1 k f) k g = va_up σ.2.2.2.1 k g := by
    funext j
    unfold va_up
    by_cases e : j = k
    · rw [if_pos e, if_pos e]
    · rw [if_neg e, if_neg e, if_neg e]
  show (_, _, _, va_up (va_up σ.2.2.2.1 k f) k g, _) = _
  rw [h]
theorem uI_uI (σ : gS) (k : Nat) (f g : Nat → Int32) : uI (uI σ k f) k g = uI σ k g := by
  unfold uI
  have h : va_up (va_up σ.2.2.1 k f) k g = va_up σ.2.2.1 k g := by
    funext j
    unfold va_up
    by_cases e : j = k
    · rw [if_pos e, if_pos e]
    · rw [if_neg e, if_neg e, if_neg e]
  show (_, _, va_up (va_up σ.2.2.1 k f) k g, _, _) = _
  rw [h]
theorem uD_uD (σ : gS) (k : Nat) (f g : UInt64) : uD (uD σ k f) k g = uD σ k g := by
  unfold uD
  have h : va_up (va_up σ.2.1 k f) k g = va_up σ.2.1 k g := by
    funext j
    unfold va_up
    by_cases e : j = k
    · rw [if_pos e, if_pos e]
    · rw [if_neg e, if_neg e, if_neg e]
  show (_, va_up (va_up σ.2.1 k f) k g, _, _, _) = _
  rw [h]
theorem uN_uN (σ : gS) (k : Nat) (f g : Int32) : uN (uN σ k f) k g = uN σ k g := by
  unfold uN
  have h : va_up (va_up σ.1 k f) k g = va_up σ.1 k g := by
    funext j
    unfold va_up
    by_cases e : j = k
    · rw [if_pos e, if_pos e]
    · rw [if_neg e, if_neg e, if_neg e]
  show (va_up (va_up σ.1 k f) k g, _, _, _, _) = _
  rw [h]
theorem vu_self {α : Type} (f : Nat → α) (k : Nat) : va_up f k (f k) = f := by
  funext j
  unfold va_up
  by_cases e : j = k
  · rw [if_pos e, e]
  · rw [if_neg e]
theorem uF_self (σ : gS) (k : Nat) : uF σ k (sF σ k) = σ := by
  unfold uF sF
  rw [vu_self]
theorem uI_self (σ : gS) (k : Nat) : uI σ k (sI σ k) = σ := by
  unfold uI sI
  rw [vu_self]
theorem uD_self (σ : gS) (k : Nat) : uD σ k (sD σ k) = σ := by
  unfold uD sD
  rw [vu_self]
theorem uN_self (σ : gS) (k : Nat) : uN σ k (sN σ k) = σ := by
  unfold uN sN
  rw [vu_self]
theorem uF_step (σ : gS) (k : Nat) (f : Nat → UInt64) (i : Nat) (x : UInt64) : uF (uF σ k f) k (vf_upd (sF (uF σ k f) k) i x) = uF σ k (vf_upd f i x) := by rw [sF_self, uF_uF]
/-- the weights, joint by joint -/
def wjN (h : Ph) (g w : Nat → UInt64) : Nat → (Nat → UInt64)
  | 0 => w
  | t + 1 => vf_upd (wjN h g w t) t (if hasD h t then wgt h g t else FP.dconst0)
theorem wjN_at (h : Ph) (g w : Nat → UInt64) : ∀ n j, j < n → wjN h g w n j = if hasD h j then wgt h g j else FP.dconst0
  | 0, j, hj => absurd hj (Nat.not_lt_zero _)
  | n + 1, j, hj => by
    show vf_upd (wjN h g w n) n _ j = _
    by_cases e : j = n
    · subst e; exact vf_at
    · rw [vf_ne e]; exact wjN_at h g w n j (by omega)
def Wj_ (σ : gS) : Prop := ∀ j, j < 10 → sF σ 8 j = if hasD (phC σ) j then wgt (phC σ) (sF σ 18) j else FP.dconst0
/-- a round's joints, from what the fan holds on -/
def crS (σ : gS) : (Nat → UInt64) × UInt64 := (vf_upd (sF σ 7) 0 (na (hldV (phC σ) (sD σ 2))), FP.dconst0)
def crT (σ : gS) (t : Nat) : (Nat → UInt64) × UInt64 := rdN (phC σ) (sF σ 18) (crS σ) t
theorem crT_yes {σ : gS} {t : Nat} (h : hasD (phC σ) (t + 1) = true) : crT σ (t + 1) = (vf_upd (crT σ t).1 (t + 1) (FP.ddiv (pulV (phC σ) (crT σ t).1 (t + 1)) (wgt (phC σ) (sF σ 18) (t + 1))), mx (crT σ t).2 (mg (FP.dsub (FP.ddiv (pulV (phC σ) (crT σ t).1 (t + 1)) (wgt (phC σ) (sF σ 18) (t + 1))) ((crT σ t).1 (t + 1))))) := if_pos h
theorem crT_no {σ : gS} {t : Nat} (h : hasD (phC σ) (t + 1) = false) : crT σ (t + 1) = crT σ t := if_neg (by rw [h]; decide)
/-- the class's numbers behind rounds -/
def stA (σ : gS) (w : Nat → UInt64) (s : (Nat → UInt64) × UInt64) : gS := uD (uF (uF σ 8 w) 7 s.1) 2 s.2
theorem stA_0 (σ : gS) (w : Nat → UInt64) : uF σ 8 w = stA σ w (sF σ 7, sD σ 2) := by
  show _ = uD (uF (uF σ 8 w) 7 (sF (uF σ 8 w) 7)) 2 (sD (uF (uF σ 8 w) 7 (sF (uF σ 8 w) 7)) 2)
  rw [uD_self, uF_self]
theorem stA_up (σ : gS) (w : Nat → UInt64) (s : (Nat → UInt64) × UInt64) (P : Nat → UInt64) (f : UInt64) : uD (uF (stA σ w s) 7 P) 2 f = stA σ w (P, f) := by
  show uD (uD (uF (uF (uF σ 8 w) 7 s.1) 7 P) 2 s.2) 2 f = uD (uF (uF σ 8 w) 7 P) 2 f
  rw [uD_uD, uF_uF]
theorem srch_yes {p : Nat → Bool} {f k : Nat} (h : p k = true) : srch p (f + 1) k = some k := if_pos h
theorem srch_no {p : Nat → Bool} {f k : Nat} (h : p k = false) : srch p (f + 1) k = srch p f (k + 1) := if_neg (by rw [h]; decide)
theorem srch_lt {p : Nat → Bool} : ∀ {f k r : Nat}, srch p f k = some r → k ≤ r ∧ r < k + f
  | 0, _, _, h => by cases h
  | f + 1, k, r, h => by
    cases hp : p k with
    | true => rw [srch_yes hp] at h; cases h; omega
    | false => rw [srch_no hp] at h; have := srch_lt h; omega
def sei (o : Option Nat) : Int32 := match o with
  | some k => nI k
  | none => -1
def seN (o : Option Nat) : Nat := match o with
  | some k => k
  | none => 100
def sePr (h : Ph) (g : Nat → UInt64) (s : (Nat → UInt64) × UInt64) : Nat → Bool := fun k => smC (rdC h g (itR h g s (k - 1)))
theorem seK_eq (h : Ph) (g : Nat → UInt64) (s : (Nat → UInt64) × UInt64) : seK h g s = srch (sePr h g s) 100 1 := rfl
theorem seK_le {h : Ph} {g : Nat → UInt64} {s : (Nat → UInt64) × UInt64} {k : Nat} (e : seK h g s = some k) : 1 ≤ k ∧ k ≤ 100 := by
  rw [seK_eq] at e
  have := srch_lt e
  omega
theorem clG_yes {h : Ph} {P g : Nat → UInt64} {m : Nat} (e : ovr h P g m = true) : clG h P g (m + 1) = vf_upd (clG h P g m) m (FP.ddiv (FP.dmul (g m) (pN h m)) (drV h P g m)) := if_pos e
theorem clG_no {h : Ph} {P g : Nat → UInt64} {m : Nat} (e : ovr h P g m = false) : clG h P g (m + 1) = clG h P g m := if_neg (by rw [e]; decide)
theorem clB_yes {h : Ph} {P g : Nat → UInt64} {m : Nat} (e : ovr h P g m = true) : clB h P g (m + 1) = (clB h P g m || far h P g m) := if_pos e
theorem clB_no {h : Ph} {P g : Nat → UInt64} {m : Nat} (e : ovr h P g m = false) : clB h P g (m + 1) = clB h P g m := if_neg (by rw [e]; decide)
theorem drV_cl (h : Ph) (P g : Nat → UInt64) (n : Nat) : drV h P (clG h P g n) n = drV h P g n := by
  unfold drV
  rw [clG_at n n (Nat.le_refl _)]
/-- all of 0 .. n-1 -/
def allB (p : Nat → Bool) : Nat → Bool
  | 0 => true
  | n + 1 => allB p n && p n
theorem allB_no {p : Nat → Bool} {k : Nat} (h : p k = false) : ∀ {n : Nat}, k < n → allB p n = false
  | 0, hk => absurd hk (Nat.not_lt_zero _)
  | n + 1, hk => by
    show (allB p n && p n) = false
    by_cases e : k = n
    · subst e; rw [h, Bool.and_false]
    · rw [allB_no h (by omega), Bool.false_and]
theorem allB_up {p : Nat → Bool} {n : Nat} (h : allB p n = true) (h2 : p n = true) : allB p (n + 1) = true := by
  show (allB p n && p n) = true
  rw [h, h2]; rfl
theorem allB_congr {p q : Nat → Bool} : ∀ {n : Nat}, (∀ k, k < n → p k = q k) → allB p n = allB q n
  | 0, _ => rfl
  | n + 1, h => by
    show (allB p n && p n) = (allB q n && q n)
    rw [allB_congr (fun k hk => h k (by omega)), h n (by omega)]
def kpB (h : Ph) (P w : Nat → UInt64) (least : UInt64) (d : Nat) : Bool := decide (0 ≤ Op.cmpValue (FP.dcmp (spd h P w d) least) .l)
def srB (h : Ph) (P g : Nat → UInt64) (m : Nat) : Bool := !(pO h m && decide (Op.cmpValue (FP.dcmp (drV h P g m) (FP.dmul (pN h m) 4606619468846596096)) .g < 0))

theorem inX0_draw_X0 : ∀ w ∈ u_ws RX0 TX0 5, w ∈ wsX0_draw := by decide +kernel
theorem inX0_draw_X4 : ∀ w ∈ u_ws RX4 TX4 6, w ∈ wsX0_draw := by decide +kernel
set_option maxHeartbeats 4000000 in
set_option maxRecDepth 100000 in
theorem kX0_draw (l : Launch) (K : gK) (hD : gD K) (σ : gS) (hW : Wc σ) (hp : PhF (phC σ)) (hP : Pc_ σ) (hg : Gc_ σ) {m : Nat} (hm : m < pM (phC σ)) : Ct l yX0_draw wsX0_draw { frames := 1, cells := 0, slots := 0, locals := 21 } K [.ref (K.2.2 1), .int (nI m)] σ (fun r t => r = some (.double (drV (phC σ) (sF σ 7) (sF σ 18) m)) ∧ t = σ) := by
  refine Ct.of hD (by decide) rfl (Nat.le_of_ble_eq_true rfl) ?_
  intro X hL hK hF C
  subst hL; subst hK
  refine g_eq (σ2 := σ) (lv2 := [(0, .ref ((xK X).2.2 1)), (1, .int (nI m))]) (st2 := []) rfl rfl rfl ?_
  have h8 : m < 8 := by have := hW.nm8; omega
  refine g_aload_n C dX0_draw_0 0 rfl rfl ?_
  refine g_get C dX0_draw_1 wl1 rfl 1 (by decide) 1 rfl rfl rfl inX0_draw_X0 ?_
  refine g_get C dX0_draw_4 wl3 rfl 4 (by decide) 2 rfl rfl rfl inX0_draw_X4 ?_
  refine g_iload_n C dX0_draw_7 1 rfl rfl ?_
  refine g_zald (j := m) C dX0_draw_8 wl19 rfl (by omega) (by decide) ?_
  refine g_if_ne (tgt := 14) C dX0_draw_9 (by decide) (fun c_9 => ?_) (fun c_9 => ?_)
  · refine g_aload_n C dX0_draw_14 0 rfl rfl ?_
    refine g_get C dX0_draw_15 wl1 rfl 1 (by decide) 1 rfl rfl rfl inX0_draw_X0 ?_
    refine g_get C dX0_draw_18 wl3 rfl 3 (by decide) 3 rfl rfl rfl inX0_draw_X4 ?_
    refine g_iload_n C dX0_draw_21 1 rfl rfl ?_
    refine g_dald (j := m) C dX0_draw_22 wl18 rfl (by omega) (by decide) ?_
    refine g_ldc2d (v := 4620693217682128896) C dX0_draw_23 4 rfl ?_
    refine g_dmul C dX0_draw_26 ((gat_g hg hm).F.ok) ?_
    refine g_dconst0 C dX0_draw_27 ?_
    refine g_aload_n C dX0_draw_28 0 rfl rfl ?_
    refine g_get C dX0_draw_29 wl1 rfl 3 (by decide) 5 rfl rfl rfl inX0_draw_X0 ?_
    refine g_aload_n C dX0_draw_32 0 rfl rfl ?_
    refine g_get C dX0_draw_33 wl1 rfl 1 (by decide) 1 rfl rfl rfl inX0_draw_X0 ?_
    refine g_get C dX0_draw_36 wl3 rfl 1 (by decide) 6 rfl rfl rfl inX0_draw_X4 ?_
    refine g_iload_n C dX0_draw_39 1 rfl rfl ?_
    refine g_iald (j := m) C dX0_draw_40 wl16 rfl (by omega) (by decide) ?_
    refine g_dald (j := (pJ (phC σ) m)) C dX0_draw_41 wl7 ((hW.mj hm).1) ((hW.mj hm).2.1) (by decide) ?_
    refine g_dsub C dX0_draw_42 ((drV_B hp hP hg hm).1.F.ok) ?_
    refine g_dmul C dX0_draw_43 ((drV_B hp hP hg hm).2.1.F.ok) ?_
    refine g_callSN (As := [.double (FP.dmul (FP.dmul (sF σ 18 m) 4620693217682128896) (FP.dsub FP.dconst0 (sF σ 7 (pJ (phC σ) m))))]) (rest := []) C dX0_draw_44 (kX6_notBelowZero (xl X) (xK X) C.hD σ _) 1 gX0_draw_X6_notBelowZero_n105 rfl 1 rfl 8 rfl 7 rfl (by decide +kernel) ⟨Nat.le_of_ble_eq_true rfl, Nat.le_of_ble_eq_true rfl⟩ ⟨Nat.le_of_ble_eq_true rfl, Nat.le_of_ble_eq_true rfl⟩ rfl rfl (Nat.le_of_ble_eq_true rfl) (fun rv9 σ9 h9 => ?_)
    obtain ⟨h9a, h9b⟩ := h9
    refine g_eq (σ2 := σ) (lv2 := [(0, .ref ((xK X).2.2 1)), (1, .int (nI m))]) (st2 := [.double (nb (FP.dmul (FP.dmul (sF σ 18 m) 4620693217682128896) (FP.dsub FP.dconst0 (sF σ 7 (pJ (phC σ) m)))))]) h9b rfl (by rw [h9a]; rfl) ?_
    refine g_dret C dX0_draw_47 rfl ⟨Nat.le_of_ble_eq_true rfl, Nat.le_of_ble_eq_true rfl⟩ ?_
    rw [hF]
    refine ⟨?_, rfl⟩
    have ho : pO (phC σ) m = true := decide_eq_true c_9
    unfold drV
    rw [if_pos ho]
  · refine g_dconst0 C dX0_draw_12 ?_
    refine g_dret C dX0_draw_13 rfl ⟨Nat.le_of_ble_eq_true rfl, Nat.le_of_ble_eq_true rfl⟩ ?_
    rw [hF]
    refine ⟨?_, rfl⟩
    have ho : pO (phC σ) m = false := decide_eq_false (fun h => h c_9)
    unfold drV
    rw [if_neg (by rw [ho]; decide)]

theorem inX0_weigh_X0 : ∀ w ∈ u_ws RX0 TX0 5, w ∈ wsX0_weigh := by decide +kernel
theorem inX0_weigh_X1 : ∀ w ∈ u_ws RX1 TX1 8, w ∈ wsX0_weigh := by decide +kernel
theorem inX0_weigh_X4 : ∀ w ∈ u_ws RX4 TX4 6, w ∈ wsX0_weigh := by decide +kernel
set_option maxHeartbeats 4000000 in
set_option maxRecDepth 100000 in
theorem kX0_weigh (l : Launch) (K : gK) (hD : gD K) (σ : gS) (hW : Wc σ) (hE : Ec σ) (hp : PhF (phC σ)) (hg : Gc_ σ) {j : Nat} (hj : j < 10) : Ct l yX0_weigh wsX0_weigh { frames := 1, cells := 0, slots := 0, locals := 22 } K [.ref (K.2.2 1), .int (nI j)] σ (fun r t => r = some (.double (wgt (phC σ) (sF σ 18) j)) ∧ t = σ) := by
  refine Ct.of hD (by decide) rfl (Nat.le_of_ble_eq_true rfl) ?_
  intro X hL hK hF C
  subst hL; subst hK
  refine g_eq (σ2 := σ) (lv2 := [(0, .ref ((xK X).2.2 1)), (1, .int (nI j))]) (st2 := []) rfl rfl rfl ?_
  refine g_dconst0 C dX0_weigh_0 ?_
  refine g_dstore_n (lv' := [(2, .double FP.dconst0), (0, .ref ((xK X).2.2 1)), (1, .int (nI j))]) C dX0_weigh_1 rfl (by decide) rfl ?_
  refine g_iconst (v := nI 0) C dX0_weigh_2 (by decide +kernel) ?_
  refine g_istore (lv' := [(4, .int (nI 0)), (2, .double FP.dconst0), (0, .ref ((xK X).2.2 1)), (1, .int (nI j))]) C dX0_weigh_3 (by decide) rfl ?_
  have loop5 : ∀ (r9 : Nat) (t : Nat), cntC σ j - t < r9 → (t ≤ cntC σ j) → G X 5 0 0 σ [(0, .ref ((xK X).2.2 1)), (1, .int (nI j)), (2, .double (accF FP.dconst0 (fun _ => true) (fun t => pE (phC σ) (duC σ j t)) t)), (4, .int (nI t))] 5 [] := by
    intro r9
    induction r9 with
    | zero => intro t h9; exact absurd h9 (Nat.not_lt_zero _)
    | succ r9 ih5 =>
      intro t hm5 ht
      refine g_iload C dX0_weigh_5 3 rfl ?_
      refine g_aload_n C dX0_weigh_7 0 rfl rfl ?_
      refine g_get C dX0_weigh_8 wl1 rfl 0 (by decide) 1 rfl rfl rfl inX0_weigh_X0 ?_
      refine g_get C dX0_weigh_11 wl2 rfl 7 (by decide) 2 rfl rfl rfl inX0_weigh_X1 ?_
      refine g_iload_n C dX0_weigh_14 1 rfl rfl ?_
      refine g_iald (j := j) C dX0_weigh_15 wl15 rfl (by omega) (by decide) ?_
      refine g_topi (y := nI (cntC σ j)) (hW.ct hj) ?_
      refine g_icmp_ge (tgt := 48) C dX0_weigh_16 (by decide) (fun c_16 => ?_) (fun c_16 => ?_)
      · have hte : t = cntC σ j := Nat.le_antisymm ht ((nI_leI (by have := cntC_le hW j; omega) (by have := cntC_le hW j; omega)).mp c_16)
        refine g_eq (σ2 := σ) (lv2 := [(0, .ref ((xK X).2.2 1)), (1, .int (nI j)), (2, .double (accF (wgE (phC σ) j) (opAt (phC σ) j) (fun m => FP.dmul (sF σ 18 m) 4620693217682128896) 0)), (4, .int (nI t))]) (st2 := []) rfl (congrArg (fun z9 => ([(0, .ref ((xK X).2.2 1)), (1, .int (nI j)), (2, .double z9), (4, .int (nI t))] : List (Nat × Value))) (by rw [hte]; exact accF_list (a := FP.dconst0) (g := pE (phC σ)) (hW.du hj))) rfl ?_
        refine g_iconst (v := nI 0) C dX0_weigh_48 (by decide +kernel) ?_
        refine g_istore (lv' := [(4, .int (nI 0)), (0, .ref ((xK X).2.2 1)), (1, .int (nI j)), (2, .double (accF (wgE (phC σ) j) (opAt (phC σ) j) (fun m => FP.dmul (sF σ 18 m) 4620693217682128896) 0))]) C dX0_weigh_49 (by decide) rfl ?_
        have loop51 : ∀ (r9 : Nat) (m : Nat), pM (phC σ) - m < r9 → (m ≤ pM (phC σ)) → G X 5 0 0 σ [(0, .ref ((xK X).2.2 1)), (1, .int (nI j)), (2, .double (accF (wgE (phC σ) j) (opAt (phC σ) j) (fun m => FP.dmul (sF σ 18 m) 4620693217682128896) m)), (4, .int (nI m))] 51 [] := by
          intro r9
          induction r9 with
          | zero => intro m h9; exact absurd h9 (Nat.not_lt_zero _)
          | succ r9 ih51 =>
            intro m hm51 hm
            refine g_iload C dX0_weigh_51 3 rfl ?_
            refine g_aload_n C dX0_weigh_53 0 rfl rfl ?_
            refine g_get C dX0_weigh_54 wl1 rfl 1 (by decide) 5 rfl rfl rfl inX0_weigh_X0 ?_
            refine g_get C dX0_weigh_57 wl3 rfl 0 (by decide) 6 rfl rfl rfl inX0_weigh_X4 ?_
            refine g_topi (y := nI (pM (phC σ))) hW.nm ?_
            refine g_icmp_ge (tgt := 99) C dX0_weigh_60 (by decide) (fun c_60 => ?_) (fun c_60 => ?_)
            · have hme : m = pM (phC σ) := Nat.le_antisymm hm ((nI_leI (by have := hW.nm8; omega) (by have := hW.nm8; omega)).mp c_60)
              subst hme
              refine g_dload_n C dX0_weigh_99 2 rfl rfl ?_
              refine g_dret C dX0_weigh_100 rfl ⟨Nat.le_of_ble_eq_true rfl, Nat.le_of_ble_eq_true rfl⟩ ?_
              rw [hF]
              exact ⟨rfl, rfl⟩
            · have hmt : m < pM (phC σ) := by
                refine Nat.lt_of_not_le fun h => c_60 ?_
                exact (nI_leI (by have := hW.nm8; omega) (by have := hW.nm8; omega)).mpr h
              refine g_aload_n C dX0_weigh_63 0 rfl rfl ?_
              refine g_get C dX0_weigh_64 wl1 rfl 1 (by decide) 5 rfl rfl rfl inX0_weigh_X0 ?_
              refine g_iload C dX0_weigh_67 3 rfl ?_
              refine g_iload_n C dX0_weigh_69 1 rfl rfl ?_
              refine g_callV (As := [.int (nI m), .int (nI j)]) (rest := []) C dX0_weigh_70 (kX4_isOpenAt (xl X) (xK X) C.hD σ hW hmt hj) wl3 rfl 2 gX0_weigh_X4_isOpenAt rfl (by decide +kernel) ⟨Nat.le_of_ble_eq_true rfl, Nat.le_of_ble_eq_true rfl⟩ ⟨Nat.le_of_ble_eq_true rfl, Nat.le_of_ble_eq_true rfl⟩ rfl rfl (Nat.le_of_ble_eq_true rfl) (fun rv9 σ9 h9 => ?_)
              obtain ⟨h9a, h9b⟩ := h9
              refine g_eq (σ2 := σ) (lv2 := [(0, .ref ((xK X).2.2 1)), (1, .int (nI j)), (2, .double (accF (wgE (phC σ) j) (opAt (phC σ) j) (fun m => FP.dmul (sF σ 18 m) 4620693217682128896) m)), (4, .int (nI m))]) (st2 := [.int (bI (opAt (phC σ) j m))]) h9b rfl (by rw [h9a]; rfl) ?_
              refine g_if_eq (tgt := 93) C dX0_weigh_73 (by decide) (fun c_73 => ?_) (fun c_73 => ?_)
              · have hb : opAt (phC σ) j m = false := (bI_ne _).mp c_73
                refine g_eq (σ2 := σ) (lv2 := [(0, .ref ((xK X).2.2 1)), (1, .int (nI j)), (2, .double (accF (wgE (phC σ) j) (opAt (phC σ) j) (fun m => FP.dmul (sF σ 18 m) 4620693217682128896) (m + 1))), (4, .int (nI m))]) (st2 := []) rfl (congrArg (fun z9 => ([(0, .ref ((xK X).2.2 1)), (1, .int (nI j)), (2, .double z9), (4, .int (nI m))] : List (Nat × Value))) ((accF_no hb).symm)) rfl ?_
                refine g_iinc (v := nI (m + 1)) (lv' := [(4, .int (nI (m + 1))), (0, .ref ((xK X).2.2 1)), (1, .int (nI j)), (2, .double (accF (wgE (phC σ) j) (opAt (phC σ) j) (fun m => FP.dmul (sF σ 18 m) 4620693217682128896) (m + 1)))]) C dX0_weigh_93 3 rfl (nI_1 m) (by decide) rfl ?_
                refine g_goto (tgt := 51) C dX0_weigh_96 (by decide) ?_
                refine g_lv [1, 2, 3, 0] rfl ?_
                exact ih51 (m + 1) (by omega) (by omega)
              · have hb : opAt (phC σ) j m = true := by
                  cases h : opAt (phC σ) j m with
                  | true => rfl
                  | false => exact absurd ((bI_ne _).mpr h) c_73
                refine g_dload_n C dX0_weigh_76 2 rfl rfl ?_
                refine g_aload_n C dX0_weigh_77 0 rfl rfl ?_
                refine g_get C dX0_weigh_78 wl1 rfl 1 (by decide) 5 rfl rfl rfl inX0_weigh_X0 ?_
                refine g_get C dX0_weigh_81 wl3 rfl 3 (by decide) 7 rfl rfl rfl inX0_weigh_X4 ?_
                refine g_iload C dX0_weigh_84 3 rfl ?_
                refine g_dald (j := m) C dX0_weigh_86 wl18 rfl (by have := hW.nm8; omega) (by decide) ?_
                refine g_ldc2d (v := 4620693217682128896) C dX0_weigh_87 8 rfl ?_
                refine g_dmul C dX0_weigh_90 ((gat_g hg hmt).F.ok) ?_
                refine g_dadd C dX0_weigh_91 (accF_ok (wgE_B hp j) (n := pM (phC σ)) (by have := hW.nm8; omega) hmt (p := opAt (phC σ) j) (g := fun m => FP.dmul (sF σ 18 m) 4620693217682128896) (fun i hi _ => (gat_g hg hi).mono (by decide)) hb) ?_
                refine g_topd (y := accF (wgE (phC σ) j) (opAt (phC σ) j) (fun m => FP.dmul (sF σ 18 m) 4620693217682128896) (m + 1)) ((accF_yes hb).symm) ?_
                refine g_dstore_n (lv' := [(2, .double (accF (wgE (phC σ) j) (opAt (phC σ) j) (fun m => FP.dmul (sF σ 18 m) 4620693217682128896) (m + 1))), (0, .ref ((xK X).2.2 1)), (1, .int (nI j)), (4, .int (nI m))]) C dX0_weigh_92 rfl (by decide) rfl ?_
                refine g_iinc (v := nI (m + 1)) (lv' := [(4, .int (nI (m + 1))), (2, .double (accF (wgE (phC σ) j) (opAt (phC σ) j) (fun m => FP.dmul (sF σ 18 m) 4620693217682128896) (m + 1))), (0, .ref ((xK X).2.2 1)), (1, .int (nI j))]) C dX0_weigh_93 3 rfl (nI_1 m) (by decide) rfl ?_
                refine g_goto (tgt := 51) C dX0_weigh_96 (by decide) ?_
                refine g_lv [2, 3, 1, 0] rfl ?_
                exact ih51 (m + 1) (by omega) (by omega)
        refine g_lv [1, 2, 3, 0] rfl ?_
        exact loop51 (pM (phC σ) + 1) 0 (by omega) (Nat.zero_le _)
      · have hlt : t < cntC σ j := by
          refine Nat.lt_of_not_le fun h => c_16 ?_
          exact (nI_leI (by have := cntC_le hW j; omega) (by have := cntC_le hW j; omega)).mpr h
        refine g_dload_n C dX0_weigh_19 2 rfl rfl ?_
        refine g_aload_n C dX0_weigh_20 0 rfl rfl ?_
        refine g_get C dX0_weigh_21 wl1 rfl 0 (by decide) 1 rfl rfl rfl inX0_weigh_X0 ?_
        refine g_get C dX0_weigh_24 wl2 rfl 5 (by decide) 3 rfl rfl rfl inX0_weigh_X1 ?_
        refine g_aload_n C dX0_weigh_27 0 rfl rfl ?_
        refine g_get C dX0_weigh_28 wl1 rfl 0 (by decide) 1 rfl rfl rfl inX0_weigh_X0 ?_
        refine g_get C dX0_weigh_31 wl2 rfl 6 (by decide) 4 rfl rfl rfl inX0_weigh_X1 ?_
        refine g_iload_n C dX0_weigh_34 1 rfl rfl ?_
        refine g_rald (j := j) C dX0_weigh_35 rfl hj ?_
        refine g_iload C dX0_weigh_36 3 rfl ?_
        refine g_iald (j := t) C dX0_weigh_38 (wl_row hj) rfl (by have := cntC_le hW j; omega) (by decide) ?_
        refine g_dald (j := (duC σ j t)) C dX0_weigh_39 wl13 ((hW.row hj hlt).1) (by have := (hW.row hj hlt).2.1; have := hW.nd16; omega) (by decide) ?_
        refine g_topd (y := pE (phC σ) (duC σ j t)) (hE _ (hW.row hj hlt).2.1) ?_
        refine g_dadd C dX0_weigh_40 (accF_ok (d0_B 24) (n := cntC σ j) (by have := cntC_le hW j; omega) hlt (p := fun _ => true) (g := fun t => pE (phC σ) (duC σ j t)) (fun t hi _ => (hp.2.2.1 _ (hW.row hj hi).2.1).1.1) rfl) ?_
        refine g_topd (y := accF FP.dconst0 (fun _ => true) (fun t => pE (phC σ) (duC σ j t)) (t + 1)) (accF_yes (p := fun _ => true) rfl |>.symm) ?_
        refine g_dstore_n (lv' := [(2, .double (accF FP.dconst0 (fun _ => true) (fun t => pE (phC σ) (duC σ j t)) (t + 1))), (0, .ref ((xK X).2.2 1)), (1, .int (nI j)), (4, .int (nI t))]) C dX0_weigh_41 rfl (by decide) rfl ?_
        refine g_iinc (v := nI (t + 1)) (lv' := [(4, .int (nI (t + 1))), (2, .double (accF FP.dconst0 (fun _ => true) (fun t => pE (phC σ) (duC σ j t)) (t + 1))), (0, .ref ((xK X).2.2 1)), (1, .int (nI j))]) C dX0_weigh_42 3 rfl (nI_1 t) (by decide) rfl ?_
        refine g_goto (tgt := 5) C dX0_weigh_45 (by decide) ?_
        refine g_lv [2, 3, 1, 0] rfl ?_
        exact ih5 (t + 1) (by omega) (by omega)
  refine g_lv [2, 3, 1, 0] rfl ?_
  exact loop5 (cntC σ j + 1) 0 (by omega) (Nat.zero_le _)

theorem inX0_weighJoints_X0 : ∀ w ∈ u_ws RX0 TX0 5, w ∈ wsX0_weighJoints := by decide +kernel
theorem inX0_weighJoints_X1 : ∀ w ∈ u_ws RX1 TX1 8, w ∈ wsX0_weighJoints := by decide +kernel
set_option maxHeartbeats 4000000 in
set_option maxRecDepth 100000 in
theorem kX0_weighJoints (l : Launch) (K : gK) (hD : gD K) (σ : gS) (hW : Wc σ) (hE : Ec σ) (hp : PhF (phC σ)) (hg : Gc_ σ) : Ct l yX0_weighJoints wsX0_weighJoints { frames := 2, cells := 0, slots := 0, locals := 46 } K [.ref (K.2.2 1)] σ (fun r t => r = none ∧ t = uF σ 8 (wjN (phC σ) (sF σ 18) (sF σ 8) 10)) := by
  refine Ct.of hD (by decide) rfl (Nat.le_of_ble_eq_true rfl) ?_
  intro X hL hK hF C
  subst hL; subst hK
  refine g_eq (σ2 := σ) (lv2 := [(0, .ref ((xK X).2.2 1))]) (st2 := []) rfl rfl rfl ?_
  refine g_iconst (v := nI 0) C dX0_weighJoints_0 (by decide +kernel) ?_
  refine g_istore_n (lv' := [(1, .int (nI 0)), (0, .ref ((xK X).2.2 1))]) C dX0_weighJoints_1 rfl (by decide) rfl ?_
  refine g_eq (σ2 := uF σ 8 (wjN (phC σ) (sF σ 18) (sF σ 8) 0)) (lv2 := [(1, .int (nI 0)), (0, .ref ((xK X).2.2 1))]) (st2 := []) ((uF_self σ 8).symm) rfl rfl ?_
  have loop2 : ∀ (r9 : Nat) (t : Nat), 10 - t < r9 → (t ≤ 10) → G X 2 0 0 (uF σ 8 (wjN (phC σ) (sF σ 18) (sF σ 8) t)) [(0, .ref ((xK X).2.2 1)), (1, .int (nI t))] 2 [] := by
    intro r9
    induction r9 with
    | zero => intro t h9; exact absurd h9 (Nat.not_lt_zero _)
    | succ r9 ih2 =>
      intro t hm2 ht
      refine g_iload_n C dX0_weighJoints_2 1 rfl rfl ?_
      refine g_bipush (v := nI 10) C dX0_weighJoints_3 (by decide +kernel) ?_
      refine g_icmp_ge (tgt := 41) C dX0_weighJoints_5 (by decide) (fun c_5 => ?_) (fun c_5 => ?_)
      · have hte : t = 10 := Nat.le_antisymm ht ((nI_leI (by decide) (by omega)).mp c_5)
        subst hte
        refine g_vret C dX0_weighJoints_41 rfl ⟨Nat.le_of_ble_eq_true rfl, Nat.le_of_ble_eq_true rfl⟩ ?_
        rw [hF]
        exact ⟨rfl, rfl⟩
      · have hlt : t < 10 := by
          refine Nat.lt_of_not_le fun h => c_5 ?_
          exact (nI_leI (by decide) (by omega)).mpr h
        refine g_aload_n C dX0_weighJoints_8 0 rfl rfl ?_
        refine g_get C dX0_weighJoints_9 wl1 rfl 4 (by decide) 1 rfl rfl rfl inX0_weighJoints_X0 ?_
        refine g_iload_n C dX0_weighJoints_12 1 rfl rfl ?_
        refine g_aload_n C dX0_weighJoints_13 0 rfl rfl ?_
        refine g_get C dX0_weighJoints_14 wl1 rfl 0 (by decide) 2 rfl rfl rfl inX0_weighJoints_X0 ?_
        refine g_get C dX0_weighJoints_17 wl2 rfl 7 (by decide) 3 rfl rfl rfl inX0_weighJoints_X1 ?_
        refine g_iload_n C dX0_weighJoints_20 1 rfl rfl ?_
        refine g_iald (j := t) C dX0_weighJoints_21 wl15 rfl (by omega) (by decide) ?_
        refine g_topi (y := nI (cntC σ t)) (hW.ct hlt) ?_
        refine g_if_ne (tgt := 29) C dX0_weighJoints_22 (by decide) (fun c_22 => ?_) (fun c_22 => ?_)
        · have hb : hasD (phC σ) t = true := decide_eq_true (fun h => c_22 (by show nI (cntC σ t) = 0; unfold cntC; rw [h]; rfl))
          refine g_aload_n C dX0_weighJoints_29 0 rfl rfl ?_
          refine g_iload_n C dX0_weighJoints_30 1 rfl rfl ?_
          refine g_callV (As := [.int (nI t)]) (rest := [.int (nI t), .ref ((xK X).2.2 8)]) C dX0_weighJoints_31 (kX0_weigh (xl X) (xK X) C.hD (uF σ 8 (wjN (phC σ) (sF σ 18) (sF σ 8) t)) hW hE hp hg hlt) wl1 rfl 1 gX0_weighJoints_X0_weigh rfl (by decide +kernel) ⟨Nat.le_of_ble_eq_true rfl, Nat.le_of_ble_eq_true rfl⟩ ⟨Nat.le_of_ble_eq_true rfl, Nat.le_of_ble_eq_true rfl⟩ rfl rfl (Nat.le_of_ble_eq_true rfl) (fun rv9 σ9 h9 => ?_)
          obtain ⟨h9a, h9b⟩ := h9
          refine g_eq (σ2 := uF σ 8 (wjN (phC σ) (sF σ 18) (sF σ 8) t)) (lv2 := [(0, .ref ((xK X).2.2 1)), (1, .int (nI t))]) (st2 := [.double (wgt (phC σ) (sF σ 18) t), .int (nI t), .ref ((xK X).2.2 8)]) h9b rfl (by rw [h9a]; rfl) ?_
          refine g_topd (y := if hasD (phC σ) t then wgt (phC σ) (sF σ 18) t else FP.dconst0) (by first | exact (if_pos hb).symm | exact (if_neg (by rw [hb]; decide)).symm) ?_
          refine g_dast (j := t) (σ' := uF (uF σ 8 (wjN (phC σ) (sF σ 18) (sF σ 8) t)) 8 (vf_upd (sF (uF σ 8 (wjN (phC σ) (sF σ 18) (sF σ 8) t)) 8) t (if hasD (phC σ) t then wgt (phC σ) (sF σ 18) t else FP.dconst0))) C dX0_weighJoints_34 wl8 rfl (by omega) (by decide) wsA8 ?_
          refine g_eq (σ2 := uF σ 8 (wjN (phC σ) (sF σ 18) (sF σ 8) (t + 1))) (lv2 := [(0, .ref ((xK X).2.2 1)), (1, .int (nI t))]) (st2 := []) (uF_step _ _ _ _ _) rfl rfl ?_
          refine g_iinc (v := nI (t + 1)) (lv' := [(1, .int (nI (t + 1))), (0, .ref ((xK X).2.2 1))]) C dX0_weighJoints_35 1 rfl (nI_1 t) (by decide) rfl ?_
          refine g_goto (tgt := 2) C dX0_weighJoints_38 (by decide) ?_
          refine g_lv [1, 0] rfl ?_
          exact ih2 (t + 1) (by omega) (by omega)
        · have hb : hasD (phC σ) t = false := decide_eq_false (fun h => h (by have h1 : nI (cntC σ t) = nI 0 := c_22; exact (nI_eq (a := cntC σ t) (b := 0) (by have := cntC_le hW t; omega) (by decide)).mp h1))
          refine g_dconst0 C dX0_weighJoints_25 ?_
          refine g_goto (tgt := 34) C dX0_weighJoints_26 (by decide) ?_
          refine g_topd (y := if hasD (phC σ) t then wgt (phC σ) (sF σ 18) t else FP.dconst0) (by first | exact (if_pos hb).symm | exact (if_neg (by rw [hb]; decide)).symm) ?_
          refine g_dast (j := t) (σ' := uF (uF σ 8 (wjN (phC σ) (sF σ 18) (sF σ 8) t)) 8 (vf_upd (sF (uF σ 8 (wjN (phC σ) (sF σ 18) (sF σ 8) t)) 8) t (if hasD (phC σ) t then wgt (phC σ) (sF σ 18) t else FP.dconst0))) C dX0_weighJoints_34 wl8 rfl (by omega) (by decide) wsA8 ?_
          refine g_eq (σ2 := uF σ 8 (wjN (phC σ) (sF σ 18) (sF σ 8) (t + 1))) (lv2 := [(0, .ref ((xK X).2.2 1)), (1, .int (nI t))]) (st2 := []) (uF_step _ _ _ _ _) rfl rfl ?_
          refine g_iinc (v := nI (t + 1)) (lv' := [(1, .int (nI (t + 1))), (0, .ref ((xK X).2.2 1))]) C dX0_weighJoints_35 1 rfl (nI_1 t) (by decide) rfl ?_
          refine g_goto (tgt := 2) C dX0_weighJoints_38 (by decide) ?_
          refine g_lv [1, 0] rfl ?_
          exact ih2 (t + 1) (by omega) (by omega)
  refine g_lv [1, 0] rfl ?_
  exact loop2 11 0 (by omega) (Nat.zero_le _)

theorem inX0_changeOfRound_X0 : ∀ w ∈ u_ws RX0 TX0 5, w ∈ wsX0_changeOfRound := by decide +kernel
theorem inX0_changeOfRound_X2 : ∀ w ∈ u_ws RX2 TX2 3, w ∈ wsX0_changeOfRound := by decide +kernel
set_option maxHeartbeats 4000000 in
set_option maxRecDepth 100000 in
theorem kX0_changeOfRound (l : Launch) (K : gK) (hD : gD K) (σ : gS) (hW : Wc σ) (hE : Ec σ) (hp : PhF (phC σ)) (hP : Pc_ σ) (hg : Gc_ σ) (hq : okQ (sD σ 2)) (hw : Wj_ σ) : Ct l yX0_changeOfRound wsX0_changeOfRound { frames := 2, cells := 0, slots := 0, locals := 47 } K [.ref (K.2.2 1)] σ (fun r t => r = some (.double (rdC (phC σ) (sF σ 18) (sF σ 7, sD σ 2))) ∧ t = uD (uF σ 7 (rdP (phC σ) (sF σ 18) (sF σ 7, sD σ 2))) 2 (rdF (phC σ) (sF σ 18) (sF σ 7, sD σ 2))) := by
  refine Ct.of hD (by decide) rfl (Nat.le_of_ble_eq_true rfl) ?_
  intro X hL hK hF C
  subst hL; subst hK
  refine g_eq (σ2 := σ) (lv2 := [(0, .ref ((xK X).2.2 1))]) (st2 := []) rfl rfl rfl ?_
  refine g_dconst0 C dX0_changeOfRound_0 ?_
  refine g_dstore_n (lv' := [(1, .double FP.dconst0), (0, .ref ((xK X).2.2 1))]) C dX0_changeOfRound_1 rfl (by decide) rfl ?_
  refine g_aload_n C dX0_changeOfRound_2 1 rfl rfl ?_
  refine g_get C dX0_changeOfRound_3 wl1 rfl 3 (by decide) 1 rfl rfl rfl inX0_changeOfRound_X0 ?_
  refine g_iconst (v := nI 0) C dX0_changeOfRound_6 (by decide +kernel) ?_
  refine g_aload_n C dX0_changeOfRound_7 1 rfl rfl ?_
  refine g_get C dX0_changeOfRound_8 wl1 rfl 2 (by decide) 2 rfl rfl rfl inX0_changeOfRound_X0 ?_
  refine g_callV (As := []) (rest := [.int (nI 0), .ref ((xK X).2.2 7)]) C dX0_changeOfRound_11 (kX2_hold (xl X) (xK X) C.hD σ hp hq) wl6 rfl 0 gX0_changeOfRound_X2_hold rfl (by decide +kernel) ⟨Nat.le_of_ble_eq_true rfl, Nat.le_of_ble_eq_true rfl⟩ ⟨Nat.le_of_ble_eq_true rfl, Nat.le_of_ble_eq_true rfl⟩ rfl rfl (Nat.le_of_ble_eq_true rfl) (fun rv9 σ9 h9 => ?_)
  obtain ⟨h9a, h9b⟩ := h9
  refine g_eq (σ2 := σ) (lv2 := [(1, .double FP.dconst0), (0, .ref ((xK X).2.2 1))]) (st2 := [.double (na (hldV (phC σ) (sD σ 2))), .int (nI 0), .ref ((xK X).2.2 7)]) h9b rfl (by rw [h9a]; rfl) ?_
  refine g_dast (j := 0) (σ' := uF σ 7 (vf_upd (sF σ 7) 0 (na (hldV (phC σ) (sD σ 2))))) C dX0_changeOfRound_14 wl7 rfl (by decide) (by decide) wsA7 ?_
  refine g_iconst (v := nI 1) C dX0_changeOfRound_15 (by decide +kernel) ?_
  refine g_istore_n (lv' := [(3, .int (nI 1)), (1, .double FP.dconst0), (0, .ref ((xK X).2.2 1))]) C dX0_changeOfRound_16 rfl (by decide) rfl ?_
  refine g_eq (σ2 := uF σ 7 (crT σ 0).1) (lv2 := [(3, .int (nI 1)), (1, .double FP.dconst0), (0, .ref ((xK X).2.2 1))]) (st2 := []) rfl rfl rfl ?_
  refine g_eq (σ2 := uF σ 7 (crT σ 0).1) (lv2 := [(3, .int (nI 1)), (1, .double ((crT σ 0).2)), (0, .ref ((xK X).2.2 1))]) (st2 := []) rfl rfl rfl ?_
  have loop17 : ∀ (r9 : Nat) (t : Nat), 9 - t < r9 → (t ≤ 9) → G X 8 0 0 (uF σ 7 (crT σ t).1) [(0, .ref ((xK X).2.2 1)), (1, .double ((crT σ t).2)), (3, .int (nI (t + 1)))] 17 [] := by
    intro r9
    induction r9 with
    | zero => intro t h9; exact absurd h9 (Nat.not_lt_zero _)
    | succ r9 ih17 =>
      intro t hm17 ht
      have hPt : ∀ i, i < 10 → okP ((crT σ t).1 i) := rdN_ok hp hg (s := crS σ) (upd_okP hP (hld_ok hp hq).2.2.2) t
      refine g_iload_n C dX0_changeOfRound_17 2 rfl rfl ?_
      refine g_bipush (v := nI 10) C dX0_changeOfRound_18 (by decide +kernel) ?_
      refine g_icmp_ge (tgt := 94) C dX0_changeOfRound_20 (by decide) (fun c_20 => ?_) (fun c_20 => ?_)
      · have hte : t = 9 := by have := (nI_leI (by decide) (by omega)).mp c_20; omega
        have hP9 : ∀ i, i < 10 → okP ((crT σ 9).1 i) := by rw [← hte]; exact hPt
        refine g_eq (σ2 := uF σ 7 (crT σ 9).1) (lv2 := [(0, .ref ((xK X).2.2 1)), (1, .double ((crT σ t).2)), (3, .int (nI (t + 1)))]) (st2 := []) (by rw [hte]) rfl rfl ?_
        refine g_eq (σ2 := uF σ 7 (crT σ 9).1) (lv2 := [(0, .ref ((xK X).2.2 1)), (1, .double ((crT σ 9).2)), (3, .int (nI (t + 1)))]) (st2 := []) rfl (congrArg (fun z9 => ([(0, .ref ((xK X).2.2 1)), (1, .double z9), (3, .int (nI (t + 1)))] : List (Nat × Value))) (by rw [hte])) rfl ?_
        refine g_eq (σ2 := uF σ 7 (crT σ 9).1) (lv2 := [(0, .ref ((xK X).2.2 1)), (1, .double ((crT σ 9).2)), (3, .int (nI 10))]) (st2 := []) rfl (congrArg (fun z9 => ([(0, .ref ((xK X).2.2 1)), (1, .double ((crT σ 9).2)), (3, .int z9)] : List (Nat × Value))) (by rw [hte])) rfl ?_
        refine g_aload_n C dX0_changeOfRound_94 0 rfl rfl ?_
        refine g_get C dX0_changeOfRound_95 wl1 rfl 2 (by decide) 2 rfl rfl rfl inX0_changeOfRound_X0 ?_
        refine g_aload_n C dX0_changeOfRound_98 0 rfl rfl ?_
        refine g_iconst (v := nI 0) C dX0_changeOfRound_99 (by decide +kernel) ?_
        refine g_callV (As := [.int (nI 0)]) (rest := [.ref ((xK X).2.2 6)]) C dX0_changeOfRound_100 (kX0_flowsTo (xl X) (xK X) C.hD (uF σ 7 (crT σ 9).1) hW hE hp hP9 (j := 0) (by decide)) wl1 rfl 1 gX0_changeOfRound_X0_flowsTo rfl (by decide +kernel) ⟨Nat.le_of_ble_eq_true rfl, Nat.le_of_ble_eq_true rfl⟩ ⟨Nat.le_of_ble_eq_true rfl, Nat.le_of_ble_eq_true rfl⟩ rfl rfl (Nat.le_of_ble_eq_true rfl) (fun rv9 σ9 h9 => ?_)
        obtain ⟨h9a, h9b⟩ := h9
        refine g_eq (σ2 := uF σ 7 (crT σ 9).1) (lv2 := [(0, .ref ((xK X).2.2 1)), (1, .double ((crT σ 9).2)), (3, .int (nI 10))]) (st2 := [.double (floV (phC σ) (crT σ 9).1 0), .ref ((xK X).2.2 6)]) h9b rfl (by rw [h9a]; rfl) ?_
        refine g_callSN (As := [.double (floV (phC σ) (crT σ 9).1 0)]) (rest := [.ref ((xK X).2.2 6)]) C dX0_changeOfRound_103 (kX6_notBelowZero (xl X) (xK X) C.hD (uF σ 7 (crT σ 9).1) _) 1 gX0_changeOfRound_X6_notBelowZero_n105 rfl 1 rfl 30 rfl 36 rfl (by decide +kernel) ⟨Nat.le_of_ble_eq_true rfl, Nat.le_of_ble_eq_true rfl⟩ ⟨Nat.le_of_ble_eq_true rfl, Nat.le_of_ble_eq_true rfl⟩ rfl rfl (Nat.le_of_ble_eq_true rfl) (fun rv9 σ9 h9 => ?_)
        obtain ⟨h9a, h9b⟩ := h9
        refine g_eq (σ2 := uF σ 7 (crT σ 9).1) (lv2 := [(0, .ref ((xK X).2.2 1)), (1, .double ((crT σ 9).2)), (3, .int (nI 10))]) (st2 := [.double (nb (floV (phC σ) (crT σ 9).1 0)), .ref ((xK X).2.2 6)]) h9b rfl (by rw [h9a]; rfl) ?_
        refine g_put (σ' := uD (uF σ 7 (crT σ 9).1) 2 (nb (floV (phC σ) (crT σ 9).1 0))) (ty := .double) C dX0_changeOfRound_106 wl6 rfl 2 (by decide) 4 rfl rfl inX0_changeOfRound_X2 tyX2_ok nmX2 rfl (by decide +kernel) rfl rfl (Nat.le_of_ble_eq_true rfl) wsD2 ?_
        refine g_dload_n C dX0_changeOfRound_109 1 rfl rfl ?_
        refine g_dret C dX0_changeOfRound_110 rfl ⟨Nat.le_of_ble_eq_true rfl, Nat.le_of_ble_eq_true rfl⟩ ?_
        rw [hF]
        exact ⟨rfl, rfl⟩
      · have hlt : t < 9 := by
          refine Nat.lt_of_not_le fun h => c_20 ?_
          exact (nI_leI (by decide) (by omega)).mpr (by omega)
        refine g_aload_n C dX0_changeOfRound_23 0 rfl rfl ?_
        refine g_get C dX0_changeOfRound_24 wl1 rfl 4 (by decide) 3 rfl rfl rfl inX0_changeOfRound_X0 ?_
        refine g_iload_n C dX0_changeOfRound_27 2 rfl rfl ?_
        refine g_dald (j := (t + 1)) C dX0_changeOfRound_28 wl8 rfl (by omega) (by decide) ?_
        refine g_topd (y := if hasD (phC σ) (t + 1) then wgt (phC σ) (sF σ 18) (t + 1) else FP.dconst0) (hw _ (by omega)) ?_
        refine g_dconst0 C dX0_changeOfRound_29 ?_
        refine g_dcmp C dX0_changeOfRound_30 ?_
        refine g_if_le (tgt := 88) C dX0_changeOfRound_31 (by decide) (fun c_31 => ?_) (fun c_31 => ?_)
        · have hb : hasD (phC σ) (t + 1) = false := by
            cases hb : hasD (phC σ) (t + 1) with
            | false => rfl
            | true =>
              exfalso
              rw [if_pos hb] at c_31
              have h1 := (cv_le (wgt_B hp hg _).F.nn d0_F.nn).mp c_31
              have h2 := (newP hp hPt hg hb).2.2
              rw [d0_v] at h1
              omega
          refine g_eq (σ2 := uF σ 7 (crT σ (t + 1)).1) (lv2 := [(0, .ref ((xK X).2.2 1)), (1, .double ((crT σ t).2)), (3, .int (nI (t + 1)))]) (st2 := []) (by first | rw [crT_yes hb] | rw [crT_no hb]) rfl rfl ?_
          refine g_eq (σ2 := uF σ 7 (crT σ (t + 1)).1) (lv2 := [(0, .ref ((xK X).2.2 1)), (1, .double ((crT σ (t + 1)).2)), (3, .int (nI (t + 1)))]) (st2 := []) rfl (congrArg (fun z9 => ([(0, .ref ((xK X).2.2 1)), (1, .double z9), (3, .int (nI (t + 1)))] : List (Nat × Value))) (by first | rw [crT_yes hb] | rw [crT_no hb])) rfl ?_
          refine g_iinc (v := nI ((t + 1) + 1)) (lv' := [(3, .int (nI ((t + 1) + 1))), (0, .ref ((xK X).2.2 1)), (1, .double ((crT σ (t + 1)).2))]) C dX0_changeOfRound_88 2 rfl (nI_1 (t + 1)) (by decide) rfl ?_
          refine g_goto (tgt := 17) C dX0_changeOfRound_91 (by decide) ?_
          refine g_lv [1, 2, 0] rfl ?_
          exact ih17 (t + 1) (by omega) (by omega)
        · have hb : hasD (phC σ) (t + 1) = true := by
            cases hb : hasD (phC σ) (t + 1) with
            | true => rfl
            | false =>
              exfalso
              rw [if_neg (by rw [hb]; decide)] at c_31
              exact c_31 (by decide +kernel)
          refine g_aload_n C dX0_changeOfRound_34 0 rfl rfl ?_
          refine g_get C dX0_changeOfRound_35 wl1 rfl 3 (by decide) 1 rfl rfl rfl inX0_changeOfRound_X0 ?_
          refine g_iload_n C dX0_changeOfRound_38 2 rfl rfl ?_
          refine g_dald (j := (t + 1)) C dX0_changeOfRound_39 wl7 rfl (by omega) (by decide) ?_
          refine g_topd (y := (crT σ t).1 (t + 1)) rfl ?_
          refine g_dstore (lv' := [(4, .double ((crT σ t).1 (t + 1))), (0, .ref ((xK X).2.2 1)), (1, .double ((crT σ t).2)), (3, .int (nI (t + 1)))]) C dX0_changeOfRound_40 (by decide) rfl ?_
          refine g_aload_n C dX0_changeOfRound_42 1 rfl rfl ?_
          refine g_get C dX0_changeOfRound_43 wl1 rfl 3 (by decide) 1 rfl rfl rfl inX0_changeOfRound_X0 ?_
          refine g_iload_n C dX0_changeOfRound_46 3 rfl rfl ?_
          refine g_aload_n C dX0_changeOfRound_47 1 rfl rfl ?_
          refine g_iload_n C dX0_changeOfRound_48 3 rfl rfl ?_
          refine g_callV (As := [.int (nI (t + 1))]) (rest := [.int (nI (t + 1)), .ref ((xK X).2.2 7)]) C dX0_changeOfRound_49 (kX0_pull (xl X) (xK X) C.hD (uF σ 7 (crT σ t).1) hW hE hp hPt (j := t + 1) (by omega)) wl1 rfl 1 gX0_changeOfRound_X0_pull rfl (by decide +kernel) ⟨Nat.le_of_ble_eq_true rfl, Nat.le_of_ble_eq_true rfl⟩ ⟨Nat.le_of_ble_eq_true rfl, Nat.le_of_ble_eq_true rfl⟩ rfl rfl (Nat.le_of_ble_eq_true rfl) (fun rv9 σ9 h9 => ?_)
          obtain ⟨h9a, h9b⟩ := h9
          refine g_eq (σ2 := uF σ 7 (crT σ t).1) (lv2 := [(4, .double ((crT σ t).1 (t + 1))), (0, .ref ((xK X).2.2 1)), (1, .double ((crT σ t).2)), (3, .int (nI (t + 1)))]) (st2 := [.double (pulV (phC σ) (crT σ t).1 (t + 1)), .int (nI (t + 1)), .ref ((xK X).2.2 7)]) h9b rfl (by rw [h9a]; rfl) ?_
          refine g_aload_n C dX0_changeOfRound_52 1 rfl rfl ?_
          refine g_get C dX0_changeOfRound_53 wl1 rfl 4 (by decide) 3 rfl rfl rfl inX0_changeOfRound_X0 ?_
          refine g_iload_n C dX0_changeOfRound_56 3 rfl rfl ?_
          refine g_dald (j := (t + 1)) C dX0_changeOfRound_57 wl8 rfl (by omega) (by decide) ?_
          refine g_topd (y := wgt (phC σ) (sF σ 18) (t + 1)) ((hw _ (by omega)).trans (if_pos hb)) ?_
          refine g_ddiv C dX0_changeOfRound_58 ((newP hp hPt hg hb).1.1.ok) ?_
          refine g_dast (j := (t + 1)) (σ' := uF (uF σ 7 (crT σ t).1) 7 (vf_upd (sF (uF σ 7 (crT σ t).1) 7) (t + 1) (FP.ddiv (pulV (phC σ) (crT σ t).1 (t + 1)) (wgt (phC σ) (sF σ 18) (t + 1))))) C dX0_changeOfRound_59 wl7 rfl (by omega) (by decide) wsA7 ?_
          refine g_eq (σ2 := uF σ 7 (vf_upd (crT σ t).1 (t + 1) (FP.ddiv (pulV (phC σ) (crT σ t).1 (t + 1)) (wgt (phC σ) (sF σ 18) (t + 1))))) (lv2 := [(4, .double ((crT σ t).1 (t + 1))), (0, .ref ((xK X).2.2 1)), (1, .double ((crT σ t).2)), (3, .int (nI (t + 1)))]) (st2 := []) (uF_step _ _ _ _ _) rfl rfl ?_
          refine g_aload_n C dX0_changeOfRound_60 1 rfl rfl ?_
          refine g_get C dX0_changeOfRound_61 wl1 rfl 3 (by decide) 1 rfl rfl rfl inX0_changeOfRound_X0 ?_
          refine g_iload_n C dX0_changeOfRound_64 3 rfl rfl ?_
          refine g_dald (j := (t + 1)) C dX0_changeOfRound_65 wl7 rfl (by omega) (by decide) ?_
          refine g_topd (y := FP.ddiv (pulV (phC σ) (crT σ t).1 (t + 1)) (wgt (phC σ) (sF σ 18) (t + 1))) (vf_at (f := (crT σ t).1) (k := t + 1)) ?_
          refine g_dload C dX0_changeOfRound_66 0 rfl ?_
          refine g_dsub C dX0_changeOfRound_68 (((newP hp hPt hg hb).1.B.sub (k := 11) (hPt _ (by omega)).B (by decide)).F.ok) ?_
          refine g_callSN (As := [.double (FP.dsub (FP.ddiv (pulV (phC σ) (crT σ t).1 (t + 1)) (wgt (phC σ) (sF σ 18) (t + 1))) ((crT σ t).1 (t + 1)))]) (rest := []) C dX0_changeOfRound_69 (kX6_magnitude (xl X) (xK X) C.hD (uF σ 7 (vf_upd (crT σ t).1 (t + 1) (FP.ddiv (pulV (phC σ) (crT σ t).1 (t + 1)) (wgt (phC σ) (sF σ 18) (t + 1))))) _) 1 gX0_changeOfRound_X6_magnitude_n98 rfl 0 rfl 30 rfl 29 rfl (by decide +kernel) ⟨Nat.le_of_ble_eq_true rfl, Nat.le_of_ble_eq_true rfl⟩ ⟨Nat.le_of_ble_eq_true rfl, Nat.le_of_ble_eq_true rfl⟩ rfl rfl (Nat.le_of_ble_eq_true rfl) (fun rv9 σ9 h9 => ?_)
          obtain ⟨h9a, h9b⟩ := h9
          refine g_eq (σ2 := uF σ 7 (vf_upd (crT σ t).1 (t + 1) (FP.ddiv (pulV (phC σ) (crT σ t).1 (t + 1)) (wgt (phC σ) (sF σ 18) (t + 1))))) (lv2 := [(4, .double ((crT σ t).1 (t + 1))), (0, .ref ((xK X).2.2 1)), (1, .double ((crT σ t).2)), (3, .int (nI (t + 1)))]) (st2 := [.double (mg (FP.dsub (FP.ddiv (pulV (phC σ) (crT σ t).1 (t + 1)) (wgt (phC σ) (sF σ 18) (t + 1))) ((crT σ t).1 (t + 1))))]) h9b rfl (by rw [h9a]; rfl) ?_
          refine g_dstore (lv' := [(6, .double (mg (FP.dsub (FP.ddiv (pulV (phC σ) (crT σ t).1 (t + 1)) (wgt (phC σ) (sF σ 18) (t + 1))) ((crT σ t).1 (t + 1))))), (4, .double ((crT σ t).1 (t + 1))), (0, .ref ((xK X).2.2 1)), (1, .double ((crT σ t).2)), (3, .int (nI (t + 1)))]) C dX0_changeOfRound_72 (by decide) rfl ?_
          refine g_dload C dX0_changeOfRound_74 0 rfl ?_
          refine g_dload_n C dX0_changeOfRound_76 3 rfl rfl ?_
          refine g_dcmp C dX0_changeOfRound_77 ?_
          refine g_if_le (tgt := 86) C dX0_changeOfRound_78 (by decide) (fun c_78 => ?_) (fun c_78 => ?_)
          · refine g_dload_n C dX0_changeOfRound_86 3 rfl rfl ?_
            refine g_topd (y := mx (crT σ t).2 (mg (FP.dsub (FP.ddiv (pulV (phC σ) (crT σ t).1 (t + 1)) (wgt (phC σ) (sF σ 18) (t + 1))) ((crT σ t).1 (t + 1))))) (by unfold mx; first | rw [if_pos (by assumption)] | rw [if_neg (by assumption)]) ?_
            refine g_dstore_n (lv' := [(1, .double (mx (crT σ t).2 (mg (FP.dsub (FP.ddiv (pulV (phC σ) (crT σ t).1 (t + 1)) (wgt (phC σ) (sF σ 18) (t + 1))) ((crT σ t).1 (t + 1)))))), (6, .double (mg (FP.dsub (FP.ddiv (pulV (phC σ) (crT σ t).1 (t + 1)) (wgt (phC σ) (sF σ 18) (t + 1))) ((crT σ t).1 (t + 1))))), (4, .double ((crT σ t).1 (t + 1))), (0, .ref ((xK X).2.2 1)), (3, .int (nI (t + 1)))]) C dX0_changeOfRound_87 rfl (by decide) rfl ?_
            refine g_eq (σ2 := uF σ 7 (crT σ (t + 1)).1) (lv2 := [(1, .double (mx (crT σ t).2 (mg (FP.dsub (FP.ddiv (pulV (phC σ) (crT σ t).1 (t + 1)) (wgt (phC σ) (sF σ 18) (t + 1))) ((crT σ t).1 (t + 1)))))), (6, .double (mg (FP.dsub (FP.ddiv (pulV (phC σ) (crT σ t).1 (t + 1)) (wgt (phC σ) (sF σ 18) (t + 1))) ((crT σ t).1 (t + 1))))), (4, .double ((crT σ t).1 (t + 1))), (0, .ref ((xK X).2.2 1)), (3, .int (nI (t + 1)))]) (st2 := []) (by first | rw [crT_yes hb] | rw [crT_no hb]) rfl rfl ?_
            refine g_eq (σ2 := uF σ 7 (crT σ (t + 1)).1) (lv2 := [(1, .double ((crT σ (t + 1)).2)), (6, .double (mg (FP.dsub (FP.ddiv (pulV (phC σ) (crT σ t).1 (t + 1)) (wgt (phC σ) (sF σ 18) (t + 1))) ((crT σ t).1 (t + 1))))), (4, .double ((crT σ t).1 (t + 1))), (0, .ref ((xK X).2.2 1)), (3, .int (nI (t + 1)))]) (st2 := []) rfl (congrArg (fun z9 => ([(1, .double z9), (6, .double (mg (FP.dsub (FP.ddiv (pulV (phC σ) (crT σ t).1 (t + 1)) (wgt (phC σ) (sF σ 18) (t + 1))) ((crT σ t).1 (t + 1))))), (4, .double ((crT σ t).1 (t + 1))), (0, .ref ((xK X).2.2 1)), (3, .int (nI (t + 1)))] : List (Nat × Value))) (by first | rw [crT_yes hb] | rw [crT_no hb])) rfl ?_
            refine g_iinc (v := nI ((t + 1) + 1)) (lv' := [(3, .int (nI ((t + 1) + 1))), (1, .double ((crT σ (t + 1)).2)), (6, .double (mg (FP.dsub (FP.ddiv (pulV (phC σ) (crT σ t).1 (t + 1)) (wgt (phC σ) (sF σ 18) (t + 1))) ((crT σ t).1 (t + 1))))), (4, .double ((crT σ t).1 (t + 1))), (0, .ref ((xK X).2.2 1))]) C dX0_changeOfRound_88 4 rfl (nI_1 (t + 1)) (by decide) rfl ?_
            refine g_goto (tgt := 17) C dX0_changeOfRound_91 (by decide) ?_
            refine g_lv [4, 1, 0] rfl ?_
            exact ih17 (t + 1) (by omega) (by omega)
          · refine g_dload C dX0_changeOfRound_81 0 rfl ?_
            refine g_goto (tgt := 87) C dX0_changeOfRound_83 (by decide) ?_
            refine g_topd (y := mx (crT σ t).2 (mg (FP.dsub (FP.ddiv (pulV (phC σ) (crT σ t).1 (t + 1)) (wgt (phC σ) (sF σ 18) (t + 1))) ((crT σ t).1 (t + 1))))) (by unfold mx; first | rw [if_pos (by assumption)] | rw [if_neg (by assumption)]) ?_
            refine g_dstore_n (lv' := [(1, .double (mx (crT σ t).2 (mg (FP.dsub (FP.ddiv (pulV (phC σ) (crT σ t).1 (t + 1)) (wgt (phC σ) (sF σ 18) (t + 1))) ((crT σ t).1 (t + 1)))))), (6, .double (mg (FP.dsub (FP.ddiv (pulV (phC σ) (crT σ t).1 (t + 1)) (wgt (phC σ) (sF σ 18) (t + 1))) ((crT σ t).1 (t + 1))))), (4, .double ((crT σ t).1 (t + 1))), (0, .ref ((xK X).2.2 1)), (3, .int (nI (t + 1)))]) C dX0_changeOfRound_87 rfl (by decide) rfl ?_
            refine g_eq (σ2 := uF σ 7 (crT σ (t + 1)).1) (lv2 := [(1, .double (mx (crT σ t).2 (mg (FP.dsub (FP.ddiv (pulV (phC σ) (crT σ t).1 (t + 1)) (wgt (phC σ) (sF σ 18) (t + 1))) ((crT σ t).1 (t + 1)))))), (6, .double (mg (FP.dsub (FP.ddiv (pulV (phC σ) (crT σ t).1 (t + 1)) (wgt (phC σ) (sF σ 18) (t + 1))) ((crT σ t).1 (t + 1))))), (4, .double ((crT σ t).1 (t + 1))), (0, .ref ((xK X).2.2 1)), (3, .int (nI (t + 1)))]) (st2 := []) (by first | rw [crT_yes hb] | rw [crT_no hb]) rfl rfl ?_
            refine g_eq (σ2 := uF σ 7 (crT σ (t + 1)).1) (lv2 := [(1, .double ((crT σ (t + 1)).2)), (6, .double (mg (FP.dsub (FP.ddiv (pulV (phC σ) (crT σ t).1 (t + 1)) (wgt (phC σ) (sF σ 18) (t + 1))) ((crT σ t).1 (t + 1))))), (4, .double ((crT σ t).1 (t + 1))), (0, .ref ((xK X).2.2 1)), (3, .int (nI (t + 1)))]) (st2 := []) rfl (congrArg (fun z9 => ([(1, .double z9), (6, .double (mg (FP.dsub (FP.ddiv (pulV (phC σ) (crT σ t).1 (t + 1)) (wgt (phC σ) (sF σ 18) (t + 1))) ((crT σ t).1 (t + 1))))), (4, .double ((crT σ t).1 (t + 1))), (0, .ref ((xK X).2.2 1)), (3, .int (nI (t + 1)))] : List (Nat × Value))) (by first | rw [crT_yes hb] | rw [crT_no hb])) rfl ?_
            refine g_iinc (v := nI ((t + 1) + 1)) (lv' := [(3, .int (nI ((t + 1) + 1))), (1, .double ((crT σ (t + 1)).2)), (6, .double (mg (FP.dsub (FP.ddiv (pulV (phC σ) (crT σ t).1 (t + 1)) (wgt (phC σ) (sF σ 18) (t + 1))) ((crT σ t).1 (t + 1))))), (4, .double ((crT σ t).1 (t + 1))), (0, .ref ((xK X).2.2 1))]) C dX0_changeOfRound_88 4 rfl (nI_1 (t + 1)) (by decide) rfl ?_
            refine g_goto (tgt := 17) C dX0_changeOfRound_91 (by decide) ?_
            refine g_lv [4, 1, 0] rfl ?_
            exact ih17 (t + 1) (by omega) (by omega)
  refine g_lv [2, 1, 0] rfl ?_
  exact loop17 10 0 (by omega) (Nat.zero_le _)

set_option maxHeartbeats 4000000 in
set_option maxRecDepth 100000 in
theorem kX0_settle (l : Launch) (K : gK) (hD : gD K) (σ : gS) (hW : Wc σ) (hE : Ec σ) (hp : PhF (phC σ)) (hP : Pc_ σ) (hg : Gc_ σ) (hq : okQ (sD σ 2)) : Ct l yX0_settle wsX0_settle { frames := 3, cells := 0, slots := 0, locals := 74 } K [.ref (K.2.2 1)] σ (fun r t => r = some (.int (sei (seK (phC σ) (sF σ 18) (sF σ 7, sD σ 2)))) ∧ ∃ w, t = stA σ w (itR (phC σ) (sF σ 18) (sF σ 7, sD σ 2) (seN (seK (phC σ) (sF σ 18) (sF σ 7, sD σ 2))))) := by
  refine Ct.of hD (by decide) rfl (Nat.le_of_ble_eq_true rfl) ?_
  intro X hL hK hF C
  subst hL; subst hK
  refine g_eq (σ2 := σ) (lv2 := [(0, .ref ((xK X).2.2 1))]) (st2 := []) rfl rfl rfl ?_
  refine g_aload_n C dX0_settle_0 0 rfl rfl ?_
  refine g_callV (As := []) (rest := []) C dX0_settle_1 (kX0_weighJoints (xl X) (xK X) C.hD σ hW hE hp hg) wl1 rfl 0 gX0_settle_X0_weighJoints rfl (by decide +kernel) ⟨Nat.le_of_ble_eq_true rfl, Nat.le_of_ble_eq_true rfl⟩ ⟨Nat.le_of_ble_eq_true rfl, Nat.le_of_ble_eq_true rfl⟩ rfl rfl (Nat.le_of_ble_eq_true rfl) (fun rv9 σ9 h9 => ?_)
  obtain ⟨h9a, h9b⟩ := h9
  refine g_eq (σ2 := uF σ 8 (wjN (phC σ) (sF σ 18) (sF σ 8) 10)) (lv2 := [(0, .ref ((xK X).2.2 1))]) (st2 := []) h9b rfl (by rw [h9a]; rfl) ?_
  refine g_eq (σ2 := stA σ (wjN (phC σ) (sF σ 18) (sF σ 8) 10) (itR (phC σ) (sF σ 18) (sF σ 7, sD σ 2) 0)) (lv2 := [(0, .ref ((xK X).2.2 1))]) (st2 := []) (stA_0 _ _) rfl rfl ?_
  refine g_iconst (v := nI 1) C dX0_settle_4 (by decide +kernel) ?_
  refine g_istore_n (lv' := [(1, .int (nI 1)), (0, .ref ((xK X).2.2 1))]) C dX0_settle_5 rfl (by decide) rfl ?_
  have loop6 : ∀ (r9 : Nat) (k : Nat), 100 - k < r9 → (k ≤ 100) → (seK (phC σ) (sF σ 18) (sF σ 7, sD σ 2) = srch (sePr (phC σ) (sF σ 18) (sF σ 7, sD σ 2)) (100 - k) (k + 1)) → G X 2 0 0 (stA σ (wjN (phC σ) (sF σ 18) (sF σ 8) 10) (itR (phC σ) (sF σ 18) (sF σ 7, sD σ 2) k)) [(0, .ref ((xK X).2.2 1)), (1, .int (nI (k + 1)))] 6 [] := by
    intro r9
    induction r9 with
    | zero => intro k h9; exact absurd h9 (Nat.not_lt_zero _)
    | succ r9 ih6 =>
      intro k hm6 hk hs
      have hsd := itR_ok hp hg (s := (sF σ 7, sD σ 2)) ⟨hP, hq⟩ k
      refine g_iload_n C dX0_settle_6 1 rfl rfl ?_
      refine g_bipush (v := nI 100) C dX0_settle_7 (by decide +kernel) ?_
      refine g_icmp_gt (tgt := 31) C dX0_settle_9 (by decide) (fun c_9 => ?_) (fun c_9 => ?_)
      · have hke : k = 100 := by have := (nI_ltI (by decide) (by omega)).mp c_9; omega
        subst hke
        have hs : seK (phC σ) (sF σ 18) (sF σ 7, sD σ 2) = none := hs
        refine g_iconst (v := (-1)) C dX0_settle_31 (by decide +kernel) ?_
        refine g_iret C dX0_settle_32 rfl ⟨Nat.le_of_ble_eq_true rfl, Nat.le_of_ble_eq_true rfl⟩ ?_
        rw [hF]
        exact ⟨by rw [hs]; rfl, _, by rw [hs]; rfl⟩
      · have hlt : k < 100 := by
          refine Nat.lt_of_not_le fun h => c_9 ?_
          exact (nI_ltI (by decide) (by omega)).mpr (by omega)
        refine g_aload_n C dX0_settle_12 0 rfl rfl ?_
        refine g_callV (As := []) (rest := []) C dX0_settle_13 (kX0_changeOfRound (xl X) (xK X) C.hD (stA σ (wjN (phC σ) (sF σ 18) (sF σ 8) 10) (itR (phC σ) (sF σ 18) (sF σ 7, sD σ 2) k)) hW hE hp hsd.1 hg hsd.2 (fun j hj => wjN_at _ _ _ 10 j hj)) wl1 rfl 0 gX0_settle_X0_changeOfRound rfl (by decide +kernel) ⟨Nat.le_of_ble_eq_true rfl, Nat.le_of_ble_eq_true rfl⟩ ⟨Nat.le_of_ble_eq_true rfl, Nat.le_of_ble_eq_true rfl⟩ rfl rfl (Nat.le_of_ble_eq_true rfl) (fun rv9 σ9 h9 => ?_)
        obtain ⟨h9a, h9b⟩ := h9
        refine g_eq (σ2 := stA σ (wjN (phC σ) (sF σ 18) (sF σ 8) 10) (itR (phC σ) (sF σ 18) (sF σ 7, sD σ 2) (k + 1))) (lv2 := [(0, .ref ((xK X).2.2 1)), (1, .int (nI (k + 1)))]) (st2 := [.double (rdC (phC σ) (sF σ 18) (itR (phC σ) (sF σ 18) (sF σ 7, sD σ 2) k))]) (h9b.trans (stA_up _ _ _ _ _)) rfl (by rw [h9a]; rfl) ?_
        refine g_ldc2d (v := 4517110426252607488) C dX0_settle_16 1 rfl ?_
        refine g_dcmp C dX0_settle_19 ?_
        refine g_if_ge (tgt := 25) C dX0_settle_20 (by decide) (fun c_20 => ?_) (fun c_20 => ?_)
        · have hn : (sePr (phC σ) (sF σ 18) (sF σ 7, sD σ 2)) (k + 1) = false := decide_eq_false (by rw [Int32.not_lt]; exact c_20)
          refine g_iinc (v := nI ((k + 1) + 1)) (lv' := [(1, .int (nI ((k + 1) + 1))), (0, .ref ((xK X).2.2 1))]) C dX0_settle_25 1 rfl (nI_1 (k + 1)) (by decide) rfl ?_
          refine g_goto (tgt := 6) C dX0_settle_28 (by decide) ?_
          refine g_lv [1, 0] rfl ?_
          exact ih6 (k + 1) (by omega) (by omega) (by rw [hs, show 100 - k = (100 - (k + 1)) + 1 by omega]; exact srch_no hn)
        · have hy : (sePr (phC σ) (sF σ 18) (sF σ 7, sD σ 2)) (k + 1) = true := decide_eq_true (by rw [← Int32.not_le]; exact c_20)
          have hs : seK (phC σ) (sF σ 18) (sF σ 7, sD σ 2) = some (k + 1) := by rw [hs, show 100 - k = (99 - k) + 1 by omega]; exact srch_yes hy
          refine g_iload_n C dX0_settle_23 1 rfl rfl ?_
          refine g_iret C dX0_settle_24 rfl ⟨Nat.le_of_ble_eq_true rfl, Nat.le_of_ble_eq_true rfl⟩ ?_
          rw [hF]
          exact ⟨by rw [hs]; rfl, _, by rw [hs]; rfl⟩
  refine g_lv [1, 0] rfl ?_
  exact loop6 101 0 (by omega) (Nat.zero_le _) rfl

theorem inX0_closeGates_X0 : ∀ w ∈ u_ws RX0 TX0 5, w ∈ wsX0_closeGates := by decide +kernel
theorem inX0_closeGates_X4 : ∀ w ∈ u_ws RX4 TX4 6, w ∈ wsX0_closeGates := by decide +kernel
set_option maxHeartbeats 4000000 in
set_option maxRecDepth 100000 in
theorem kX0_closeGates (l : Launch) (K : gK) (hD : gD K) (σ : gS) (hW : Wc σ) (hp : PhF (phC σ)) (hP : Pc_ σ) (hg : Gc_ σ) : Ct l yX0_closeGates wsX0_closeGates { frames := 2, cells := 0, slots := 0, locals := 42 } K [.ref (K.2.2 1)] σ (fun r t => r = some (.int (bI (clB (phC σ) (sF σ 7) (sF σ 18) (pM (phC σ))))) ∧ t = uF σ 18 (clG (phC σ) (sF σ 7) (sF σ 18) (pM (phC σ)))) := by
  refine Ct.of hD (by decide) rfl (Nat.le_of_ble_eq_true rfl) ?_
  intro X hL hK hF C
  subst hL; subst hK
  refine g_eq (σ2 := σ) (lv2 := [(0, .ref ((xK X).2.2 1))]) (st2 := []) rfl rfl rfl ?_
  refine g_iconst (v := nI 0) C dX0_closeGates_0 (by decide +kernel) ?_
  refine g_istore_n (lv' := [(1, .int (nI 0)), (0, .ref ((xK X).2.2 1))]) C dX0_closeGates_1 rfl (by decide) rfl ?_
  refine g_iconst (v := nI 0) C dX0_closeGates_2 (by decide +kernel) ?_
  refine g_istore_n (lv' := [(2, .int (nI 0)), (1, .int (nI 0)), (0, .ref ((xK X).2.2 1))]) C dX0_closeGates_3 rfl (by decide) rfl ?_
  refine g_eq (σ2 := uF σ 18 (clG (phC σ) (sF σ 7) (sF σ 18) 0)) (lv2 := [(2, .int (nI 0)), (1, .int (nI 0)), (0, .ref ((xK X).2.2 1))]) (st2 := []) ((uF_self σ 18).symm) rfl rfl ?_
  refine g_eq (σ2 := uF σ 18 (clG (phC σ) (sF σ 7) (sF σ 18) 0)) (lv2 := [(2, .int (nI 0)), (1, .int (bI (clB (phC σ) (sF σ 7) (sF σ 18) 0))), (0, .ref ((xK X).2.2 1))]) (st2 := []) rfl rfl rfl ?_
  have loop4 : ∀ (r9 : Nat) (m : Nat), pM (phC σ) - m < r9 → (m ≤ pM (phC σ)) → G X 7 0 0 (uF σ 18 (clG (phC σ) (sF σ 7) (sF σ 18) m)) [(0, .ref ((xK X).2.2 1)), (1, .int (bI (clB (phC σ) (sF σ 7) (sF σ 18) m))), (2, .int (nI m))] 4 [] := by
    intro r9
    induction r9 with
    | zero => intro m h9; exact absurd h9 (Nat.not_lt_zero _)
    | succ r9 ih4 =>
      intro m hm4 hm
      refine g_iload_n C dX0_closeGates_4 2 rfl rfl ?_
      refine g_aload_n C dX0_closeGates_5 0 rfl rfl ?_
      refine g_get C dX0_closeGates_6 wl1 rfl 1 (by decide) 1 rfl rfl rfl inX0_closeGates_X0 ?_
      refine g_get C dX0_closeGates_9 wl3 rfl 0 (by decide) 2 rfl rfl rfl inX0_closeGates_X4 ?_
      refine g_topi (y := nI (pM (phC σ))) hW.nm ?_
      refine g_icmp_ge (tgt := 105) C dX0_closeGates_12 (by decide) (fun c_12 => ?_) (fun c_12 => ?_)
      · have hme : m = pM (phC σ) := Nat.le_antisymm hm ((nI_leI (by have := hW.nm8; omega) (by have := hW.nm8; omega)).mp c_12)
        subst hme
        refine g_iload_n C dX0_closeGates_105 1 rfl rfl ?_
        refine g_zret C dX0_closeGates_106 rfl (nar_bI _) ⟨Nat.le_of_ble_eq_true rfl, Nat.le_of_ble_eq_true rfl⟩ ?_
        rw [hF]
        exact ⟨rfl, rfl⟩
      · have hmt : m < pM (phC σ) := by
          refine Nat.lt_of_not_le fun h => c_12 ?_
          exact (nI_leI (by have := hW.nm8; omega) (by have := hW.nm8; omega)).mpr h
        have hgm := clG_ok hp hP hg m (Nat.le_of_lt hmt)
        refine g_aload_n C dX0_closeGates_15 0 rfl rfl ?_
        refine g_iload_n C dX0_closeGates_16 2 rfl rfl ?_
        refine g_callV (As := [.int (nI m)]) (rest := []) C dX0_closeGates_17 (kX0_draw (xl X) (xK X) C.hD (uF σ 18 (clG (phC σ) (sF σ 7) (sF σ 18) m)) hW hp hP hgm hmt) wl1 rfl 1 gX0_closeGates_X0_draw rfl (by decide +kernel) ⟨Nat.le_of_ble_eq_true rfl, Nat.le_of_ble_eq_true rfl⟩ ⟨Nat.le_of_ble_eq_true rfl, Nat.le_of_ble_eq_true rfl⟩ rfl rfl (Nat.le_of_ble_eq_true rfl) (fun rv9 σ9 h9 => ?_)
        obtain ⟨h9a, h9b⟩ := h9
        refine g_eq (σ2 := uF σ 18 (clG (phC σ) (sF σ 7) (sF σ 18) m)) (lv2 := [(0, .ref ((xK X).2.2 1)), (1, .int (bI (clB (phC σ) (sF σ 7) (sF σ 18) m))), (2, .int (nI m))]) (st2 := [.double (drV (phC σ) (sF σ 7) (sF σ 18) m)]) h9b rfl (by rw [h9a]; exact congrArg (fun z => [Value.double z]) (drV_cl (phC σ) (sF σ 7) (sF σ 18) m)) ?_
        refine g_dstore_n (lv' := [(3, .double (drV (phC σ) (sF σ 7) (sF σ 18) m)), (0, .ref ((xK X).2.2 1)), (1, .int (bI (clB (phC σ) (sF σ 7) (sF σ 18) m))), (2, .int (nI m))]) C dX0_closeGates_20 rfl (by decide) rfl ?_
        refine g_aload_n C dX0_closeGates_21 1 rfl rfl ?_
        refine g_get C dX0_closeGates_22 wl1 rfl 1 (by decide) 1 rfl rfl rfl inX0_closeGates_X0 ?_
        refine g_get C dX0_closeGates_25 wl3 rfl 2 (by decide) 3 rfl rfl rfl inX0_closeGates_X4 ?_
        refine g_iload_n C dX0_closeGates_28 3 rfl rfl ?_
        refine g_dald (j := m) C dX0_closeGates_29 wl17 rfl (by have := hW.nm8; omega) (by decide) ?_
        refine g_topd (y := pN (phC σ) m) rfl ?_
        refine g_dstore (lv' := [(5, .double (pN (phC σ) m)), (3, .double (drV (phC σ) (sF σ 7) (sF σ 18) m)), (0, .ref ((xK X).2.2 1)), (1, .int (bI (clB (phC σ) (sF σ 7) (sF σ 18) m))), (2, .int (nI m))]) C dX0_closeGates_30 (by decide) rfl ?_
        refine g_aload_n C dX0_closeGates_32 2 rfl rfl ?_
        refine g_get C dX0_closeGates_33 wl1 rfl 1 (by decide) 1 rfl rfl rfl inX0_closeGates_X0 ?_
        refine g_get C dX0_closeGates_36 wl3 rfl 4 (by decide) 4 rfl rfl rfl inX0_closeGates_X4 ?_
        refine g_iload_n C dX0_closeGates_39 4 rfl rfl ?_
        refine g_zald (j := m) C dX0_closeGates_40 wl19 rfl (by have := hW.nm8; omega) (by decide) ?_
        refine g_if_eq (tgt := 99) C dX0_closeGates_41 (by decide) (fun c_41 => ?_) (fun c_41 => ?_)
        · have hb : ovr (phC σ) (sF σ 7) (sF σ 18) m = false := by unfold ovr; rw [show pO (phC σ) m = false from decide_eq_false (fun h => h c_41)]; rfl
          refine g_eq (σ2 := uF σ 18 (clG (phC σ) (sF σ 7) (sF σ 18) (m + 1))) (lv2 := [(5, .double (pN (phC σ) m)), (3, .double (drV (phC σ) (sF σ 7) (sF σ 18) m)), (0, .ref ((xK X).2.2 1)), (1, .int (bI (clB (phC σ) (sF σ 7) (sF σ 18) m))), (2, .int (nI m))]) (st2 := []) (by first | rw [clG_yes hb] | rw [clG_no hb]) rfl rfl ?_
          refine g_eq (σ2 := uF σ 18 (clG (phC σ) (sF σ 7) (sF σ 18) (m + 1))) (lv2 := [(5, .double (pN (phC σ) m)), (3, .double (drV (phC σ) (sF σ 7) (sF σ 18) m)), (0, .ref ((xK X).2.2 1)), (1, .int (bI (clB (phC σ) (sF σ 7) (sF σ 18) (m + 1)))), (2, .int (nI m))]) (st2 := []) rfl (congrArg (fun z9 => ([(5, .double (pN (phC σ) m)), (3, .double (drV (phC σ) (sF σ 7) (sF σ 18) m)), (0, .ref ((xK X).2.2 1)), (1, .int z9), (2, .int (nI m))] : List (Nat × Value))) (by rw [clB_no hb])) rfl ?_
          refine g_iinc (v := nI (m + 1)) (lv' := [(2, .int (nI (m + 1))), (5, .double (pN (phC σ) m)), (3, .double (drV (phC σ) (sF σ 7) (sF σ 18) m)), (0, .ref ((xK X).2.2 1)), (1, .int (bI (clB (phC σ) (sF σ 7) (sF σ 18) (m + 1))))]) C dX0_closeGates_99 4 rfl (nI_1 m) (by decide) rfl ?_
          refine g_goto (tgt := 4) C dX0_closeGates_102 (by decide) ?_
          refine g_lv [3, 4, 0] rfl ?_
          exact ih4 (m + 1) (by omega) (by omega)
        · refine g_dload_n C dX0_closeGates_44 1 rfl rfl ?_
          refine g_dload C dX0_closeGates_45 0 rfl ?_
          refine g_dcmp C dX0_closeGates_47 ?_
          refine g_if_le (tgt := 99) C dX0_closeGates_48 (by decide) (fun c_48 => ?_) (fun c_48 => ?_)
          · have hb : ovr (phC σ) (sF σ 7) (sF σ 18) m = false := by unfold ovr; rw [show pO (phC σ) m = true from decide_eq_true c_41, decide_eq_false (by rw [Int32.not_lt]; exact c_48)]; rfl
            refine g_eq (σ2 := uF σ 18 (clG (phC σ) (sF σ 7) (sF σ 18) (m + 1))) (lv2 := [(5, .double (pN (phC σ) m)), (3, .double (drV (phC σ) (sF σ 7) (sF σ 18) m)), (0, .ref ((xK X).2.2 1)), (1, .int (bI (clB (phC σ) (sF σ 7) (sF σ 18) m))), (2, .int (nI m))]) (st2 := []) (by first | rw [clG_yes hb] | rw [clG_no hb]) rfl rfl ?_
            refine g_eq (σ2 := uF σ 18 (clG (phC σ) (sF σ 7) (sF σ 18) (m + 1))) (lv2 := [(5, .double (pN (phC σ) m)), (3, .double (drV (phC σ) (sF σ 7) (sF σ 18) m)), (0, .ref ((xK X).2.2 1)), (1, .int (bI (clB (phC σ) (sF σ 7) (sF σ 18) (m + 1)))), (2, .int (nI m))]) (st2 := []) rfl (congrArg (fun z9 => ([(5, .double (pN (phC σ) m)), (3, .double (drV (phC σ) (sF σ 7) (sF σ 18) m)), (0, .ref ((xK X).2.2 1)), (1, .int z9), (2, .int (nI m))] : List (Nat × Value))) (by rw [clB_no hb])) rfl ?_
            refine g_iinc (v := nI (m + 1)) (lv' := [(2, .int (nI (m + 1))), (5, .double (pN (phC σ) m)), (3, .double (drV (phC σ) (sF σ 7) (sF σ 18) m)), (0, .ref ((xK X).2.2 1)), (1, .int (bI (clB (phC σ) (sF σ 7) (sF σ 18) (m + 1))))]) C dX0_closeGates_99 4 rfl (nI_1 m) (by decide) rfl ?_
            refine g_goto (tgt := 4) C dX0_closeGates_102 (by decide) ?_
            refine g_lv [3, 4, 0] rfl ?_
            exact ih4 (m + 1) (by omega) (by omega)
          · have h0 : 0 < Op.cmpValue (FP.dcmp (drV (phC σ) (sF σ 7) (sF σ 18) m) (pN (phC σ) m)) .l := by rw [← Int32.not_le]; exact c_48
            have hb : ovr (phC σ) (sF σ 7) (sF σ 18) m = true := by unfold ovr; rw [show pO (phC σ) m = true from decide_eq_true c_41, decide_eq_true h0]; rfl
            have hov := ovr_ok hp hP hg hmt h0
            have hdr := drV_B hp hP hg hmt
            refine g_aload_n C dX0_closeGates_51 2 rfl rfl ?_
            refine g_get C dX0_closeGates_52 wl1 rfl 1 (by decide) 1 rfl rfl rfl inX0_closeGates_X0 ?_
            refine g_get C dX0_closeGates_55 wl3 rfl 3 (by decide) 5 rfl rfl rfl inX0_closeGates_X4 ?_
            refine g_iload_n C dX0_closeGates_58 4 rfl rfl ?_
            refine g_aload_n C dX0_closeGates_59 2 rfl rfl ?_
            refine g_get C dX0_closeGates_60 wl1 rfl 1 (by decide) 1 rfl rfl rfl inX0_closeGates_X0 ?_
            refine g_get C dX0_closeGates_63 wl3 rfl 3 (by decide) 5 rfl rfl rfl inX0_closeGates_X4 ?_
            refine g_iload_n C dX0_closeGates_66 4 rfl rfl ?_
            refine g_dald (j := m) C dX0_closeGates_67 wl18 rfl (by have := hW.nm8; omega) (by decide) ?_
            refine g_topd (y := sF σ 18 m) (clG_at m m (Nat.le_refl _)) ?_
            refine g_dload C dX0_closeGates_68 0 rfl ?_
            refine g_dmul C dX0_closeGates_70 hov.1.F.ok ?_
            refine g_dload_n C dX0_closeGates_71 1 rfl rfl ?_
            refine g_ddiv C dX0_closeGates_72 hov.2.1.F.ok ?_
            refine g_dast (j := m) (σ' := uF (uF σ 18 (clG (phC σ) (sF σ 7) (sF σ 18) m)) 18 (vf_upd (sF (uF σ 18 (clG (phC σ) (sF σ 7) (sF σ 18) m)) 18) m (FP.ddiv (FP.dmul (sF σ 18 m) (pN (phC σ) m)) (drV (phC σ) (sF σ 7) (sF σ 18) m)))) C dX0_closeGates_73 wl18 rfl (by have := hW.nm8; omega) (by decide) wsA18 ?_
            refine g_eq (σ2 := uF σ 18 (vf_upd (clG (phC σ) (sF σ 7) (sF σ 18) m) m (FP.ddiv (FP.dmul (sF σ 18 m) (pN (phC σ) m)) (drV (phC σ) (sF σ 7) (sF σ 18) m)))) (lv2 := [(5, .double (pN (phC σ) m)), (3, .double (drV (phC σ) (sF σ 7) (sF σ 18) m)), (0, .ref ((xK X).2.2 1)), (1, .int (bI (clB (phC σ) (sF σ 7) (sF σ 18) m))), (2, .int (nI m))]) (st2 := []) (uF_step _ _ _ _ _) rfl rfl ?_
            refine g_iload_n C dX0_closeGates_74 3 rfl rfl ?_
            refine g_if_ne (tgt := 93) C dX0_closeGates_75 (by decide) (fun c_75 => ?_) (fun c_75 => ?_)
            · refine g_iconst (v := nI 1) C dX0_closeGates_93 (by decide +kernel) ?_
              refine g_goto (tgt := 98) C dX0_closeGates_94 (by decide) ?_
              refine g_topi (y := bI (clB (phC σ) (sF σ 7) (sF σ 18) (m + 1))) (by
  rw [clB_yes hb]
  first
    | (have e9 : clB (phC σ) (sF σ 7) (sF σ 18) m = true := by
        cases h9 : clB (phC σ) (sF σ 7) (sF σ 18) m with
        | true => rfl
        | false => rw [h9] at c_75; exact absurd rfl c_75
       rw [e9]; rfl)
    | (have e9 : clB (phC σ) (sF σ 7) (sF σ 18) m = false := (bI_ne _).mp c_75
       have e8 : far (phC σ) (sF σ 7) (sF σ 18) m = false := decide_eq_false (by rw [Int32.not_lt]; exact c_90)
       rw [e9, e8]; rfl)
    | (have e8 : far (phC σ) (sF σ 7) (sF σ 18) m = true := decide_eq_true (by rw [← Int32.not_le]; exact c_90)
       rw [e8, Bool.or_true]; rfl)) ?_
              refine g_istore_n (lv' := [(1, .int (bI (clB (phC σ) (sF σ 7) (sF σ 18) (m + 1)))), (5, .double (pN (phC σ) m)), (3, .double (drV (phC σ) (sF σ 7) (sF σ 18) m)), (0, .ref ((xK X).2.2 1)), (2, .int (nI m))]) C dX0_closeGates_98 rfl (by decide) rfl ?_
              refine g_eq (σ2 := uF σ 18 (clG (phC σ) (sF σ 7) (sF σ 18) (m + 1))) (lv2 := [(1, .int (bI (clB (phC σ) (sF σ 7) (sF σ 18) (m + 1)))), (5, .double (pN (phC σ) m)), (3, .double (drV (phC σ) (sF σ 7) (sF σ 18) m)), (0, .ref ((xK X).2.2 1)), (2, .int (nI m))]) (st2 := []) (by first | rw [clG_yes hb] | rw [clG_no hb]) rfl rfl ?_
              refine g_iinc (v := nI (m + 1)) (lv' := [(2, .int (nI (m + 1))), (1, .int (bI (clB (phC σ) (sF σ 7) (sF σ 18) (m + 1)))), (5, .double (pN (phC σ) m)), (3, .double (drV (phC σ) (sF σ 7) (sF σ 18) m)), (0, .ref ((xK X).2.2 1))]) C dX0_closeGates_99 4 rfl (nI_1 m) (by decide) rfl ?_
              refine g_goto (tgt := 4) C dX0_closeGates_102 (by decide) ?_
              refine g_lv [4, 1, 0] rfl ?_
              exact ih4 (m + 1) (by omega) (by omega)
            · refine g_dload_n C dX0_closeGates_78 1 rfl rfl ?_
              refine g_ldc2d (v := 4652007308841189376) C dX0_closeGates_79 6 rfl ?_
              refine g_dmul C dX0_closeGates_82 ((hdr.2.2.1.mul (k := 24) c1000_B (by decide)).F.ok) ?_
              refine g_dload C dX0_closeGates_83 0 rfl ?_
              refine g_ldc2d (v := 4652016104934211584) C dX0_closeGates_85 7 rfl ?_
              refine g_dmul C dX0_closeGates_88 (((hp.2.2.2.1 m hmt).1.1.mul (k := 20) c1001_B (by decide)).F.ok) ?_
              refine g_dcmp C dX0_closeGates_89 ?_
              refine g_if_le (tgt := 97) C dX0_closeGates_90 (by decide) (fun c_90 => ?_) (fun c_90 => ?_)
              · refine g_iconst (v := nI 0) C dX0_closeGates_97 (by decide +kernel) ?_
                refine g_topi (y := bI (clB (phC σ) (sF σ 7) (sF σ 18) (m + 1))) (by
  rw [clB_yes hb]
  first
    | (have e9 : clB (phC σ) (sF σ 7) (sF σ 18) m = true := by
        cases h9 : clB (phC σ) (sF σ 7) (sF σ 18) m with
        | true => rfl
        | false => rw [h9] at c_75; exact absurd rfl c_75
       rw [e9]; rfl)
    | (have e9 : clB (phC σ) (sF σ 7) (sF σ 18) m = false := (bI_ne _).mp c_75
       have e8 : far (phC σ) (sF σ 7) (sF σ 18) m = false := decide_eq_false (by rw [Int32.not_lt]; exact c_90)
       rw [e9, e8]; rfl)
    | (have e8 : far (phC σ) (sF σ 7) (sF σ 18) m = true := decide_eq_true (by rw [← Int32.not_le]; exact c_90)
       rw [e8, Bool.or_true]; rfl)) ?_
                refine g_istore_n (lv' := [(1, .int (bI (clB (phC σ) (sF σ 7) (sF σ 18) (m + 1)))), (5, .double (pN (phC σ) m)), (3, .double (drV (phC σ) (sF σ 7) (sF σ 18) m)), (0, .ref ((xK X).2.2 1)), (2, .int (nI m))]) C dX0_closeGates_98 rfl (by decide) rfl ?_
                refine g_eq (σ2 := uF σ 18 (clG (phC σ) (sF σ 7) (sF σ 18) (m + 1))) (lv2 := [(1, .int (bI (clB (phC σ) (sF σ 7) (sF σ 18) (m + 1)))), (5, .double (pN (phC σ) m)), (3, .double (drV (phC σ) (sF σ 7) (sF σ 18) m)), (0, .ref ((xK X).2.2 1)), (2, .int (nI m))]) (st2 := []) (by first | rw [clG_yes hb] | rw [clG_no hb]) rfl rfl ?_
                refine g_iinc (v := nI (m + 1)) (lv' := [(2, .int (nI (m + 1))), (1, .int (bI (clB (phC σ) (sF σ 7) (sF σ 18) (m + 1)))), (5, .double (pN (phC σ) m)), (3, .double (drV (phC σ) (sF σ 7) (sF σ 18) m)), (0, .ref ((xK X).2.2 1))]) C dX0_closeGates_99 4 rfl (nI_1 m) (by decide) rfl ?_
                refine g_goto (tgt := 4) C dX0_closeGates_102 (by decide) ?_
                refine g_lv [4, 1, 0] rfl ?_
                exact ih4 (m + 1) (by omega) (by omega)
              · refine g_iconst (v := nI 1) C dX0_closeGates_93 (by decide +kernel) ?_
                refine g_goto (tgt := 98) C dX0_closeGates_94 (by decide) ?_
                refine g_topi (y := bI (clB (phC σ) (sF σ 7) (sF σ 18) (m + 1))) (by
  rw [clB_yes hb]
  first
    | (have e9 : clB (phC σ) (sF σ 7) (sF σ 18) m = true := by
        cases h9 : clB (phC σ) (sF σ 7) (sF σ 18) m with
        | true => rfl
        | false => rw [h9] at c_75; exact absurd rfl c_75
       rw [e9]; rfl)
    | (have e9 : clB (phC σ) (sF σ 7) (sF σ 18) m = false := (bI_ne _).mp c_75
       have e8 : far (phC σ) (sF σ 7) (sF σ 18) m = false := decide_eq_false (by rw [Int32.not_lt]; exact c_90)
       rw [e9, e8]; rfl)
    | (have e8 : far (phC σ) (sF σ 7) (sF σ 18) m = true := decide_eq_true (by rw [← Int32.not_le]; exact c_90)
       rw [e8, Bool.or_true]; rfl)) ?_
                refine g_istore_n (lv' := [(1, .int (bI (clB (phC σ) (sF σ 7) (sF σ 18) (m + 1)))), (5, .double (pN (phC σ) m)), (3, .double (drV (phC σ) (sF σ 7) (sF σ 18) m)), (0, .ref ((xK X).2.2 1)), (2, .int (nI m))]) C dX0_closeGates_98 rfl (by decide) rfl ?_
                refine g_eq (σ2 := uF σ 18 (clG (phC σ) (sF σ 7) (sF σ 18) (m + 1))) (lv2 := [(1, .int (bI (clB (phC σ) (sF σ 7) (sF σ 18) (m + 1)))), (5, .double (pN (phC σ) m)), (3, .double (drV (phC σ) (sF σ 7) (sF σ 18) m)), (0, .ref ((xK X).2.2 1)), (2, .int (nI m))]) (st2 := []) (by first | rw [clG_yes hb] | rw [clG_no hb]) rfl rfl ?_
                refine g_iinc (v := nI (m + 1)) (lv' := [(2, .int (nI (m + 1))), (1, .int (bI (clB (phC σ) (sF σ 7) (sF σ 18) (m + 1)))), (5, .double (pN (phC σ) m)), (3, .double (drV (phC σ) (sF σ 7) (sF σ 18) m)), (0, .ref ((xK X).2.2 1))]) C dX0_closeGates_99 4 rfl (nI_1 m) (by decide) rfl ?_
                refine g_goto (tgt := 4) C dX0_closeGates_102 (by decide) ?_
                refine g_lv [4, 1, 0] rfl ?_
                exact ih4 (m + 1) (by omega) (by omega)
  refine g_lv [2, 1, 0] rfl ?_
  exact loop4 (pM (phC σ) + 1) 0 (by omega) (Nat.zero_le _)
