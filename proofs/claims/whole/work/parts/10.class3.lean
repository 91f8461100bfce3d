/-! the class: opening, balancing, widths, leaks, sizes -/
theorem nar_b2 (b : Bool) : vp_nar .boolean (bI b) = bI b := by cases b <;> rfl
def usC (σ : gS) (c m : Nat) : Bool := decide ((sI σ 20 m >>> (nI c &&& 31)) &&& nI 1 = nI 1)
def opN (σ : gS) (c : Nat) : Nat → (Nat → Int32)
  | 0 => sI σ 19
  | m + 1 => upd (opN σ c m) m (bI (usC σ c m))
def gtN (σ : gS) (c : Nat) : Nat → (Nat → UInt64)
  | 0 => sF σ 18
  | m + 1 => vf_upd (gtN σ c m) m (if usC σ c m then FP.dconst1 else FP.dconst0)
def opS (σ : gS) (c m : Nat) : gS := uF (uI σ 19 (opN σ c m)) 18 (gtN σ c m)
theorem opN_at (σ : gS) (c m : Nat) : opN σ c (m + 1) m = bI (usC σ c m) := if_pos rfl
theorem opS_0 (σ : gS) (c : Nat) : σ = opS σ c 0 := by
  show σ = uF (uI σ 19 (sI σ 19)) 18 (sF σ 18)
  rw [uI_self, uF_self]
theorem opS_z (σ : gS) (c m : Nat) : uI (opS σ c m) 19 (upd (sI (opS σ c m) 19) m (vp_nar .boolean (bI (usC σ c m)))) = uF (uI σ 19 (opN σ c (m + 1))) 18 (gtN σ c m) := by
  rw [nar_b2]
  show uF (uI (uI σ 19 (opN σ c m)) 19 (upd (opN σ c m) m (bI (usC σ c m)))) 18 (gtN σ c m) = _
  rw [uI_uI]
  rfl
theorem gtN_at {σ : gS} {c : Nat} : ∀ {n m : Nat}, m < n → gtN σ c n m = if usC σ c m then FP.dconst1 else FP.dconst0
  | 0, _, h => absurd h (Nat.not_lt_zero _)
  | n + 1, m, h => by
    show vf_upd (gtN σ c n) n _ m = _
    by_cases e : m = n
    · subst e; exact vf_at
    · rw [vf_ne e]; exact gtN_at (by omega)
theorem opN_lt {σ : gS} {c : Nat} : ∀ {n m : Nat}, m < n → opN σ c n m = bI (usC σ c m)
  | 0, _, h => absurd h (Nat.not_lt_zero _)
  | n + 1, m, h => by
    show upd (opN σ c n) n _ m = _
    unfold upd
    by_cases e : m = n
    · rw [if_pos e, e]
    · rw [if_neg e]; exact opN_lt (by omega)
theorem opN_ge {σ : gS} {c : Nat} : ∀ {n m : Nat}, n ≤ m → opN σ c n m = sI σ 19 m
  | 0, _, _ => rfl
  | n + 1, m, h => by
    show upd (opN σ c n) n _ m = _
    unfold upd
    rw [if_neg (by omega)]
    exact opN_ge (by omega)
theorem gtN_ge {σ : gS} {c : Nat} : ∀ {n m : Nat}, n ≤ m → gtN σ c n m = sF σ 18 m
  | 0, _, _ => rfl
  | n + 1, m, h => by
    show vf_upd (gtN σ c n) n _ m = _
    rw [vf_ne (by omega)]
    exact gtN_ge (by omega)
theorem gt_ok (b : Bool) : okG (if b then FP.dconst1 else FP.dconst0) := by
  cases b
  · exact okG_0
  · exact okG_1
/-- all pressures 0 -/
def zrN (P : Nat → UInt64) : Nat → (Nat → UInt64)
  | 0 => P
  | j + 1 => vf_upd (zrN P j) j FP.dconst0
theorem zrN_at {P : Nat → UInt64} : ∀ {n j : Nat}, j < n → zrN P n j = FP.dconst0
  | 0, _, h => absurd h (Nat.not_lt_zero _)
  | n + 1, j, h => by
    show vf_upd (zrN P n) n _ j = _
    by_cases e : j = n
    · subst e; exact vf_at
    · rw [vf_ne e]; exact zrN_at (by omega)
theorem zrN_ge {P : Nat → UInt64} : ∀ {n j : Nat}, n ≤ j → zrN P n j = P j
  | 0, _, _ => rfl
  | n + 1, j, h => by
    show vf_upd (zrN P n) n _ j = _
    rw [vf_ne (by omega)]
    exact zrN_ge (by omega)
/-- opened for a case, all at rest -/
def opZ (σ : gS) (c : Nat) : gS := uF (uD (opS σ c (pM (phC σ))) 2 FP.dconst0) 7 (zrN (sF σ 7) 10)
theorem atj_congr {h h2 : Ph} (eA : pA h = pA h2) (eB : pB h = pB h2) : atj h = atj h2 := by
  funext j d
  unfold atj
  rw [eA, eB]
theorem wc_opZ {σ : gS} {c : Nat} (h : Wc σ) : Wc (opZ σ c) := by
  have ea : atj (phC (opZ σ c)) = atj (phC σ) := atj_congr rfl rfl
  obtain ⟨h1, h2, h3, h4, h5, h6, h7⟩ := h
  refine ⟨h1, h2, h3, h4, h5, h6, fun j hj => ?_⟩
  obtain ⟨g1, g2⟩ := h7 j hj
  refine ⟨?_, fun d hd ha => ?_⟩
  · unfold cntC
    rw [ea]
    exact g1
  · rw [ea] at ha ⊢
    rw [show sI (opZ σ c) (45 + j) = sI σ (45 + j) from sI_ne (k := 19) (j := 45 + j) σ (opN σ c (pM (phC σ))) (by omega)]
    exact g2 d hd ha
/-- balancing: times, rounds behind -/
def blN (h : Ph) : Nat → (Nat → UInt64) × UInt64 → (Nat → UInt64) → Nat → Option Nat × ((Nat → UInt64) × UInt64) × (Nat → UInt64)
  | 0, s, g, R => (some R, s, g)
  | f + 1, s, g, R => match seK h g s with
    | none => (none, itR h g s 100, g)
    | some k => if clB h (itR h g s k).1 g (pM h) then blN h f (itR h g s k) (clG h (itR h g s k).1 g (pM h)) (R + k) else (some (R + k), itR h g s k, clG h (itR h g s k).1 g (pM h))
theorem blN_none {h : Ph} {f : Nat} {s : (Nat → UInt64) × UInt64} {g : Nat → UInt64} {R : Nat} (e : seK h g s = none) : blN h (f + 1) s g R = (none, itR h g s (seN (seK h g s)), g) := by
  unfold blN
  rw [e]
  rfl
theorem blN_some {h : Ph} {f : Nat} {s : (Nat → UInt64) × UInt64} {g : Nat → UInt64} {R k : Nat} (e : seK h g s = some k) : blN h (f + 1) s g R = if clB h (itR h g s k).1 g (pM h) then blN h f (itR h g s k) (clG h (itR h g s k).1 g (pM h)) (R + k) else (some (R + k), itR h g s k, clG h (itR h g s k).1 g (pM h)) := by
  show (match seK h g s with
    | none => (none, itR h g s 100, g)
    | some k => if clB h (itR h g s k).1 g (pM h) then blN h f (itR h g s k) (clG h (itR h g s k).1 g (pM h)) (R + k) else (some (R + k), itR h g s k, clG h (itR h g s k).1 g (pM h))) = _
  rw [e]
/-- the whole of a balancing, on what stands -/
def blA (τ : gS) : Option Nat × ((Nat → UInt64) × UInt64) × (Nat → UInt64) := blN (phC τ) 10 (sF τ 7, sD τ 2) (sF τ 18) 0
def baS (τ : gS) (w : Nat → UInt64) (s : (Nat → UInt64) × UInt64) (g : Nat → UInt64) : gS := uF (stA τ w s) 18 g
theorem baS_0 (τ : gS) : τ = baS τ (sF τ 8) (sF τ 7, sD τ 2) (sF τ 18) := by
  show τ = uF (uD (uF (uF τ 8 (sF τ 8)) 7 (sF τ 7)) 2 (sD τ 2)) 18 (sF τ 18)
  rw [uF_self, uF_self, uD_self, uF_self]
theorem baS_st (τ : gS) (w w2 : Nat → UInt64) (s s2 : (Nat → UInt64) × UInt64) (g : Nat → UInt64) : stA (baS τ w s g) w2 s2 = baS τ w2 s2 g := by
  have e1 : va_up (va_up (va_up (va_up (va_up τ.2.2.2.1 8 w) 7 s.1) 18 g) 8 w2) 7 s2.1 = va_up (va_up (va_up τ.2.2.2.1 8 w2) 7 s2.1) 18 g := by
    funext j
    unfold va_up
    by_cases h8 : j = 8
    · subst h8; rfl
    · by_cases h7 : j = 7
      · subst h7; rfl
      · by_cases h18 : j = 18
        · subst h18; rfl
        · simp only [h8, h7, h18, if_false]
  have e2 : va_up (va_up τ.2.1 2 s.2) 2 s2.2 = va_up τ.2.1 2 s2.2 := by
    funext j
    unfold va_up
    by_cases h2 : j = 2
    · subst h2; rfl
    · simp only [h2, if_false]
  show (τ.1, va_up (va_up τ.2.1 2 s.2) 2 s2.2, τ.2.2.1, va_up (va_up (va_up (va_up (va_up τ.2.2.2.1 8 w) 7 s.1) 18 g) 8 w2) 7 s2.1, τ.2.2.2.2) = (τ.1, va_up τ.2.1 2 s2.2, τ.2.2.1, va_up (va_up (va_up τ.2.2.2.1 8 w2) 7 s2.1) 18 g, τ.2.2.2.2)
  rw [e1, e2]
/-! leaks -/
def okD (x : UInt64) : Prop := Bd 14 x ∧ 0 ≤ dv x ∧ dv x ≤ dv 4666723172467343360
def msV (h : Ph) (P rd lk : Nat → UInt64) (d : Nat) : UInt64 := FP.dsub (FP.dsub (rd d) (mg (flw h P d))) (lk d)
def apV (h : Ph) (P rd lk : Nat → UInt64) (d : Nat) : UInt64 := nb (FP.dadd (lk d) (FP.ddiv (msV h P rd lk d) 4611686018427387904))
def apN (h : Ph) (P rd : Nat → UInt64) (ir : Nat → Bool) (lk : Nat → UInt64) : Nat → (Nat → UInt64)
  | 0 => lk
  | d + 1 => if ir d then vf_upd (apN h P rd ir lk d) d (apV h P rd lk d) else apN h P rd ir lk d
theorem apN_yes {h : Ph} {P rd : Nat → UInt64} {ir : Nat → Bool} {lk : Nat → UInt64} {d : Nat} (e : ir d = true) : apN h P rd ir lk (d + 1) = vf_upd (apN h P rd ir lk d) d (apV h P rd lk d) := if_pos e
theorem apN_no {h : Ph} {P rd : Nat → UInt64} {ir : Nat → Bool} {lk : Nat → UInt64} {d : Nat} (e : ir d = false) : apN h P rd ir lk (d + 1) = apN h P rd ir lk d := if_neg (by rw [e]; decide)
theorem apN_ge {h : Ph} {P rd : Nat → UInt64} {ir : Nat → Bool} {lk : Nat → UInt64} : ∀ {n d : Nat}, n ≤ d → apN h P rd ir lk n d = lk d
  | 0, _, _ => rfl
  | n + 1, d, e => by
    show (if ir n then vf_upd (apN h P rd ir lk n) n _ else apN h P rd ir lk n) d = _
    split
    · rw [vf_ne (by omega)]; exact apN_ge (by omega)
    · exact apN_ge (by omega)
theorem msV_ap {h : Ph} {P rd : Nat → UInt64} {ir : Nat → Bool} {lk : Nat → UInt64} (d : Nat) : msV h P rd (apN h P rd ir lk d) d = msV h P rd lk d := by
  unfold msV
  rw [apN_ge (Nat.le_refl _)]
theorem flw_B {h : Ph} (hp : PhF h) {P : Nat → UInt64} (hP : ∀ j, j < 10 → okP (P j)) {d : Nat} (hd : d < pD h) : Bd 35 (flw h P d) := flo_g hp hP hd (hp.2.2.1 d hd).2.1 (hp.2.2.1 d hd).2.2
theorem ms_B {h : Ph} (hp : PhF h) {P rd lk : Nat → UInt64} (hP : ∀ j, j < 10 → okP (P j)) {d : Nat} (hd : d < pD h) (hr : okD (rd d)) (hl : okR (lk d)) : Bd 36 (FP.dsub (rd d) (mg (flw h P d))) ∧ Bd 37 (msV h P rd lk d) := by
  have b1 := (mg_B (flw_B hp hP hd)).1
  have b2 : Bd 36 (FP.dsub (rd d) (mg (flw h P d))) := (hr.1.mono (by decide)).sub b1 (by decide)
  exact ⟨b2, b2.sub (hl.1.mono (by decide)) (by decide)⟩
theorem ap_ok {h : Ph} (hp : PhF h) {P rd lk : Nat → UInt64} (hP : ∀ j, j < 10 → okP (P j)) {d : Nat} (hd : d < pD h) (hr : okD (rd d)) (hl : okR (lk d)) : Bd 37 (FP.ddiv (msV h P rd lk d) 4611686018427387904) ∧ Bd 38 (FP.dadd (lk d) (FP.ddiv (msV h P rd lk d) 4611686018427387904)) ∧ okR (apV h P rd lk d) := by
  obtain ⟨b2, b3⟩ := ms_B hp hP hd hr hl
  have hf := mg_B (flw_B hp hP hd)
  have b4 : Bd 37 (FP.ddiv (msV h P rd lk d) 4611686018427387904) := b3.div (j := 0) c2_F.1 c2_F.2.1 (by decide)
  have b5 : Bd 38 (FP.dadd (lk d) (FP.ddiv (msV h P rd lk d) 4611686018427387904)) := (hl.1.mono (by decide)).add b4 (by decide)
  have k5 : dN 4662219572839972864 ∧ 0 ≤ dv 4662219572839972864 ∧ dm 4662219572839972864 = 5000 * U1 := by decide +kernel
  have k10 : dN 4666723172467343360 ∧ 0 ≤ dv 4666723172467343360 ∧ dm 4666723172467343360 = 10000 * U1 := by decide +kernel
  have k10v : dv 4666723172467343360 = ((10000 * U1 : Nat) : Int) := by rw [dv_pos k10.2.1, k10.2.2]
  have k5v : dv 4662219572839972864 = ((5000 * U1 : Nat) : Int) := by rw [dv_pos k5.2.1, k5.2.2]
  have k2m : dm 4611686018427387904 = 2 * U1 := by decide +kernel
  have hlo := hl.1.hi
  have m1 : dv (FP.dsub (rd d) (mg (flw h P d))) ≤ dv (rd d) := dsub_le hr.1.F hf.1.F hr.1.F.nn (by have := hf.2; omega)
  have up : dv (FP.dadd (lk d) (FP.ddiv (msV h P rd lk d) 4611686018427387904)) ≤ ((2 ^ 14 * U1 : Nat) : Int) := by
    by_cases hc : dv (lk d) ≤ dv 4666723172467343360
    · have m2 : dv (msV h P rd lk d) ≤ dv 4666723172467343360 := dsub_le b2.F hl.1.F k10.1 (by have := hr.2.2; have := hl.2; omega)
      have m3 : dv (FP.ddiv (msV h P rd lk d) 4611686018427387904) ≤ dv 4662219572839972864 := by
        by_cases h0 : dv (msV h P rd lk d) ≤ 0
        · exact Int.le_trans ((ddiv_sg b3.F c2_F.1 c2_F.2.2).2 h0) k5.2.1
        · have e1 : dv (msV h P rd lk d) = (dm (msV h P rd lk d) : Int) := dv_pos (by omega)
          have e2 := (ddiv_sg b3.F c2_F.1 c2_F.2.2).1 (by omega)
          have e3 : dm (FP.ddiv (msV h P rd lk d) 4611686018427387904) ≤ dm 4662219572839972864 := by
            refine ddiv_mle b3.F c2_F.1 (by rw [k2m]; have := U1_pos; omega) k5.1 ?_
            rw [k2m, k5.2.2]
            show _ * U1 ≤ _
            have : dm (msV h P rd lk d) ≤ 10000 * U1 := by rw [k10v] at m2; omega
            calc dm (msV h P rd lk d) * U1 ≤ 10000 * U1 * U1 := Nat.mul_le_mul_right _ this
              _ = 5000 * U1 * (2 * U1) := by generalize U1 = u; rw [show 5000 * u * (2 * u) = (5000 * 2) * (u * u) by ac_rfl, Nat.mul_assoc]
          rw [dv_pos e2, dv_pos k5.2.1]
          exact Int.ofNat_le.mpr e3
      rw [← pw_v (j := 14) (by decide)]
      refine dadd_le hl.1.F b4.F (pw_n (by decide)) ?_
      rw [pw_v (by decide)]
      rw [k10v] at hc
      rw [k5v] at m3
      have : ((10000 * U1 : Nat) : Int) + ((5000 * U1 : Nat) : Int) ≤ ((2 ^ 14 * U1 : Nat) : Int) := by
        generalize U1 = u
        have : (2 : Nat) ^ 14 = 16384 := by decide +kernel
        rw [this]
        omega
      omega
    · have m2 : dv (msV h P rd lk d) ≤ dv FP.dconst0 := dsub_le b2.F hl.1.F d0_F.nn (by rw [d0_v]; have := hr.2.2; omega)
      rw [d0_v] at m2
      have m3 := (ddiv_sg b3.F c2_F.1 c2_F.2.2).2 m2
      refine Int.le_trans (dadd_le hl.1.F b4.F hl.1.F.nn (v := lk d) (by omega)) hlo
  have hnb := nb_B b5
  refine ⟨b4, b5, Bd.of (by decide) hnb.1.F.nn (Int.le_trans (by omega) hnb.2) (nb_le b5.F (Int.natCast_nonneg _) up), hnb.2⟩
theorem apN_ok {h : Ph} (hp : PhF h) {P rd lk : Nat → UInt64} {ir : Nat → Bool} (hP : ∀ j, j < 10 → okP (P j)) (hr : ∀ d, ir d = true → d < pD h ∧ okD (rd d)) (hl : ∀ d, okR (lk d)) : ∀ n d, okR (apN h P rd ir lk n d)
  | 0, d => hl d
  | n + 1, d => by
    cases e : ir n with
    | false => rw [apN_no e]; exact apN_ok hp hP hr hl n d
    | true =>
      rw [apN_yes e]
      unfold vf_upd
      split
      · exact (ap_ok hp hP (hr n e).1 (hr n e).2 (hl n)).2.2
      · exact apN_ok hp hP hr hl n d
/-! widths -/
def swW (f : Nat → UInt64) (w : UInt64) : Nat → (Nat → UInt64)
  | 0 => f
  | d + 1 => vf_upd (swW f w d) d w
def swE (f l : Nat → UInt64) (w : UInt64) : Nat → (Nat → UInt64)
  | 0 => f
  | d + 1 => vf_upd (swE f l w d) d (eas w (l d))
def swS (σ : gS) (w : UInt64) (d : Nat) : gS := uF (uF σ 12 (swW (sF σ 12) w d)) 13 (swE (sF σ 13) (sF σ 11) w d)
def wiS (σ : gS) (d : Nat) (w : UInt64) : gS := uF (uF σ 12 (vf_upd (sF σ 12) d w)) 13 (vf_upd (sF σ 13) d (eas w (sF σ 11 d)))
theorem swS_0 (σ : gS) (w : UInt64) : σ = swS σ w 0 := by
  show σ = uF (uF σ 12 (sF σ 12)) 13 (sF σ 13)
  rw [uF_self, uF_self]
theorem swS_up (σ : gS) (w : UInt64) (d : Nat) : wiS (swS σ w d) d w = swS σ w (d + 1) := by
  have e1 : va_up (va_up (va_up (va_up σ.2.2.2.1 12 (swW (sF σ 12) w d)) 13 (swE (sF σ 13) (sF σ 11) w d)) 12 (vf_upd (swW (sF σ 12) w d) d w)) 13 (vf_upd (swE (sF σ 13) (sF σ 11) w d) d (eas w (sF σ 11 d))) = va_up (va_up σ.2.2.2.1 12 (swW (sF σ 12) w (d + 1))) 13 (swE (sF σ 13) (sF σ 11) w (d + 1)) := by
    funext j
    unfold va_up
    by_cases h12 : j = 12
    · subst h12; rfl
    · by_cases h13 : j = 13
      · subst h13; rfl
      · simp only [h12, h13, if_false]
  show (σ.1, σ.2.1, σ.2.2.1, _, σ.2.2.2.2) = (σ.1, σ.2.1, σ.2.2.1, _, σ.2.2.2.2)
  exact congrArg (fun z => (σ.1, σ.2.1, σ.2.2.1, z, σ.2.2.2.2)) e1
/-! a size's place in the order -/
def insP (c : Nat → Int32) (x : Int32) : (Nat → Int32) → Nat → Nat × (Nat → Int32)
  | o, 0 => (0, o)
  | o, p + 1 => if x < c (tn (o p)) then insP c x (upd o (p + 1) (o p)) p else (p + 1, o)

theorem inX4_openFor_X4 : ∀ w ∈ u_ws RX4 TX4 6, w ∈ wsX4_openFor := by decide +kernel
set_option maxHeartbeats 4000000 in
set_option maxRecDepth 100000 in
theorem kX4_openFor (l : Launch) (K : gK) (hD : gD K) (σ : gS) (hW : Wc σ) {c : Nat} (hc : c < 4) : Ct l yX4_openFor wsX4_openFor { frames := 0, cells := 0, slots := 0, locals := 0 } K [.ref (K.2.2 3), .int (nI c)] σ (fun r t => r = none ∧ t = opS σ c (pM (phC σ))) := by
  refine Ct.of hD (by decide) rfl (Nat.le_of_ble_eq_true rfl) ?_
  intro X hL hK hF C
  subst hL; subst hK
  refine g_eq (σ2 := σ) (lv2 := [(0, .ref ((xK X).2.2 3)), (1, .int (nI c))]) (st2 := []) rfl rfl rfl ?_
  refine g_iconst (v := nI 0) C dX4_openFor_0 (by decide +kernel) ?_
  refine g_istore_n (lv' := [(2, .int (nI 0)), (0, .ref ((xK X).2.2 3)), (1, .int (nI c))]) C dX4_openFor_1 rfl (by decide) rfl ?_
  refine g_eq (σ2 := opS σ c 0) (lv2 := [(2, .int (nI 0)), (0, .ref ((xK X).2.2 3)), (1, .int (nI c))]) (st2 := []) (opS_0 σ c) rfl rfl ?_
  have loop2 : ∀ (r9 : Nat) (m : Nat), pM (phC σ) - m < r9 → (m ≤ pM (phC σ)) → G X 3 0 0 (opS σ c m) [(0, .ref ((xK X).2.2 3)), (1, .int (nI c)), (2, .int (nI m))] 2 [] := by
    intro r9
    induction r9 with
    | zero => intro m h9; exact absurd h9 (Nat.not_lt_zero _)
    | succ r9 ih2 =>
      intro m hm2 hm
      refine g_iload_n C dX4_openFor_2 2 rfl rfl ?_
      refine g_aload_n C dX4_openFor_3 0 rfl rfl ?_
      refine g_get C dX4_openFor_4 wl3 rfl 0 (by decide) 1 rfl rfl rfl inX4_openFor_X4 ?_
      refine g_topi (y := nI (pM (phC σ))) hW.nm ?_
      refine g_icmp_ge (tgt := 61) C dX4_openFor_7 (by decide) (fun c_7 => ?_) (fun c_7 => ?_)
      · have hme : m = pM (phC σ) := by
          have h9 := (nI_leI (by have := hW.nm8; omega) (by have := hW.nm8; omega)).mp c_7
          omega
        refine g_vret C dX4_openFor_61 rfl ⟨Nat.le_of_ble_eq_true rfl, Nat.le_of_ble_eq_true rfl⟩ ?_
        rw [hF]
        exact ⟨rfl, by rw [hme]⟩
      · have hmt : m < pM (phC σ) := by
          refine Nat.lt_of_not_le fun h => c_7 ?_
          exact (nI_leI (by have := hW.nm8; omega) (by have := hW.nm8; omega)).mpr (by omega)
        refine g_aload_n C dX4_openFor_10 0 rfl rfl ?_
        refine g_get C dX4_openFor_11 wl3 rfl 4 (by decide) 2 rfl rfl rfl inX4_openFor_X4 ?_
        refine g_iload_n C dX4_openFor_14 2 rfl rfl ?_
        refine g_aload_n C dX4_openFor_15 0 rfl rfl ?_
        refine g_get C dX4_openFor_16 wl3 rfl 5 (by decide) 3 rfl rfl rfl inX4_openFor_X4 ?_
        refine g_iload_n C dX4_openFor_19 2 rfl rfl ?_
        refine g_iald (j := m) C dX4_openFor_20 wl20 rfl (by have := hW.nm8; omega) (by decide) ?_
        refine g_topi (y := sI σ 20 m) rfl ?_
        refine g_iload_n C dX4_openFor_21 1 rfl rfl ?_
        refine g_ishr C dX4_openFor_22 ?_
        refine g_iconst (v := nI 1) C dX4_openFor_23 (by decide +kernel) ?_
        refine g_iand C dX4_openFor_24 ?_
        refine g_iconst (v := nI 1) C dX4_openFor_25 (by decide +kernel) ?_
        refine g_icmp_ne (tgt := 33) C dX4_openFor_26 (by decide) (fun c_26 => ?_) (fun c_26 => ?_)
        · refine g_iconst (v := nI 0) C dX4_openFor_33 (by decide +kernel) ?_
          refine g_topi (y := bI (usC σ c m)) (by first | (have e : usC σ c m = true := decide_eq_true c_26; rw [e]; rfl) | (have e : usC σ c m = false := decide_eq_false c_26; rw [e]; rfl)) ?_
          refine g_zast (j := m) (σ' := uI (opS σ c m) 19 (upd (sI (opS σ c m) 19) m (vp_nar .boolean (bI (usC σ c m))))) C dX4_openFor_34 wl19 rfl (by have := hW.nm8; omega) (by decide) wsA19 ?_
          refine g_eq (σ2 := uF (uI σ 19 (opN σ c (m + 1))) 18 (gtN σ c m)) (lv2 := [(0, .ref ((xK X).2.2 3)), (1, .int (nI c)), (2, .int (nI m))]) (st2 := []) (opS_z σ c m) rfl rfl ?_
          refine g_aload_n C dX4_openFor_35 0 rfl rfl ?_
          refine g_get C dX4_openFor_36 wl3 rfl 3 (by decide) 4 rfl rfl rfl inX4_openFor_X4 ?_
          refine g_iload_n C dX4_openFor_39 2 rfl rfl ?_
          refine g_aload_n C dX4_openFor_40 0 rfl rfl ?_
          refine g_get C dX4_openFor_41 wl3 rfl 4 (by decide) 2 rfl rfl rfl inX4_openFor_X4 ?_
          refine g_iload_n C dX4_openFor_44 2 rfl rfl ?_
          refine g_zald (j := m) C dX4_openFor_45 wl19 rfl (by have := hW.nm8; omega) (by decide) ?_
          refine g_topi (y := bI (usC σ c m)) (opN_at σ c m) ?_
          refine g_if_eq (tgt := 53) C dX4_openFor_46 (by decide) (fun c_46 => ?_) (fun c_46 => ?_)
          · refine g_dconst0 C dX4_openFor_53 ?_
            refine g_topd (y := if usC σ c m then FP.dconst1 else FP.dconst0) (by first | exact (if_neg (by rw [(bI_ne _).mp c_46]; decide)).symm | (cases e : usC σ c m with | true => exact (if_pos rfl).symm | false => rw [e] at c_46; exact absurd rfl c_46)) ?_
            refine g_dast (j := m) (σ' := uF (uF (uI σ 19 (opN σ c (m + 1))) 18 (gtN σ c m)) 18 (vf_upd (sF (uF (uI σ 19 (opN σ c (m + 1))) 18 (gtN σ c m)) 18) m (if usC σ c m then FP.dconst1 else FP.dconst0))) C dX4_openFor_54 wl18 rfl (by have := hW.nm8; omega) (by decide) wsA18 ?_
            refine g_eq (σ2 := opS σ c (m + 1)) (lv2 := [(0, .ref ((xK X).2.2 3)), (1, .int (nI c)), (2, .int (nI m))]) (st2 := []) (uF_step _ _ _ _ _) rfl rfl ?_
            refine g_iinc (v := nI (m + 1)) (lv' := [(2, .int (nI (m + 1))), (0, .ref ((xK X).2.2 3)), (1, .int (nI c))]) C dX4_openFor_55 2 rfl (nI_1 m) (by decide) rfl ?_
            refine g_goto (tgt := 2) C dX4_openFor_58 (by decide) ?_
            refine g_lv [1, 2, 0] rfl ?_
            exact ih2 (m + 1) (by omega) (by omega)
          · refine g_dconst1 C dX4_openFor_49 ?_
            refine g_goto (tgt := 54) C dX4_openFor_50 (by decide) ?_
            refine g_topd (y := if usC σ c m then FP.dconst1 else FP.dconst0) (by first | exact (if_neg (by rw [(bI_ne _).mp c_46]; decide)).symm | (cases e : usC σ c m with | true => exact (if_pos rfl).symm | false => rw [e] at c_46; exact absurd rfl c_46)) ?_
            refine g_dast (j := m) (σ' := uF (uF (uI σ 19 (opN σ c (m + 1))) 18 (gtN σ c m)) 18 (vf_upd (sF (uF (uI σ 19 (opN σ c (m + 1))) 18 (gtN σ c m)) 18) m (if usC σ c m then FP.dconst1 else FP.dconst0))) C dX4_openFor_54 wl18 rfl (by have := hW.nm8; omega) (by decide) wsA18 ?_
            refine g_eq (σ2 := opS σ c (m + 1)) (lv2 := [(0, .ref ((xK X).2.2 3)), (1, .int (nI c)), (2, .int (nI m))]) (st2 := []) (uF_step _ _ _ _ _) rfl rfl ?_
            refine g_iinc (v := nI (m + 1)) (lv' := [(2, .int (nI (m + 1))), (0, .ref ((xK X).2.2 3)), (1, .int (nI c))]) C dX4_openFor_55 2 rfl (nI_1 m) (by decide) rfl ?_
            refine g_goto (tgt := 2) C dX4_openFor_58 (by decide) ?_
            refine g_lv [1, 2, 0] rfl ?_
            exact ih2 (m + 1) (by omega) (by omega)
        · refine g_iconst (v := nI 1) C dX4_openFor_29 (by decide +kernel) ?_
          refine g_goto (tgt := 34) C dX4_openFor_30 (by decide) ?_
          refine g_topi (y := bI (usC σ c m)) (by first | (have e : usC σ c m = true := decide_eq_true c_26; rw [e]; rfl) | (have e : usC σ c m = false := decide_eq_false c_26; rw [e]; rfl)) ?_
          refine g_zast (j := m) (σ' := uI (opS σ c m) 19 (upd (sI (opS σ c m) 19) m (vp_nar .boolean (bI (usC σ c m))))) C dX4_openFor_34 wl19 rfl (by have := hW.nm8; omega) (by decide) wsA19 ?_
          refine g_eq (σ2 := uF (uI σ 19 (opN σ c (m + 1))) 18 (gtN σ c m)) (lv2 := [(0, .ref ((xK X).2.2 3)), (1, .int (nI c)), (2, .int (nI m))]) (st2 := []) (opS_z σ c m) rfl rfl ?_
          refine g_aload_n C dX4_openFor_35 0 rfl rfl ?_
          refine g_get C dX4_openFor_36 wl3 rfl 3 (by decide) 4 rfl rfl rfl inX4_openFor_X4 ?_
          refine g_iload_n C dX4_openFor_39 2 rfl rfl ?_
          refine g_aload_n C dX4_openFor_40 0 rfl rfl ?_
          refine g_get C dX4_openFor_41 wl3 rfl 4 (by decide) 2 rfl rfl rfl inX4_openFor_X4 ?_
          refine g_iload_n C dX4_openFor_44 2 rfl rfl ?_
          refine g_zald (j := m) C dX4_openFor_45 wl19 rfl (by have := hW.nm8; omega) (by decide) ?_
          refine g_topi (y := bI (usC σ c m)) (opN_at σ c m) ?_
          refine g_if_eq (tgt := 53) C dX4_openFor_46 (by decide) (fun c_46 => ?_) (fun c_46 => ?_)
          · refine g_dconst0 C dX4_openFor_53 ?_
            refine g_topd (y := if usC σ c m then FP.dconst1 else FP.dconst0) (by first | exact (if_neg (by rw [(bI_ne _).mp c_46]; decide)).symm | (cases e : usC σ c m with | true => exact (if_pos rfl).symm | false => rw [e] at c_46; exact absurd rfl c_46)) ?_
            refine g_dast (j := m) (σ' := uF (uF (uI σ 19 (opN σ c (m + 1))) 18 (gtN σ c m)) 18 (vf_upd (sF (uF (uI σ 19 (opN σ c (m + 1))) 18 (gtN σ c m)) 18) m (if usC σ c m then FP.dconst1 else FP.dconst0))) C dX4_openFor_54 wl18 rfl (by have := hW.nm8; omega) (by decide) wsA18 ?_
            refine g_eq (σ2 := opS σ c (m + 1)) (lv2 := [(0, .ref ((xK X).2.2 3)), (1, .int (nI c)), (2, .int (nI m))]) (st2 := []) (uF_step _ _ _ _ _) rfl rfl ?_
            refine g_iinc (v := nI (m + 1)) (lv' := [(2, .int (nI (m + 1))), (0, .ref ((xK X).2.2 3)), (1, .int (nI c))]) C dX4_openFor_55 2 rfl (nI_1 m) (by decide) rfl ?_
            refine g_goto (tgt := 2) C dX4_openFor_58 (by decide) ?_
            refine g_lv [1, 2, 0] rfl ?_
            exact ih2 (m + 1) (by omega) (by omega)
          · refine g_dconst1 C dX4_openFor_49 ?_
            refine g_goto (tgt := 54) C dX4_openFor_50 (by decide) ?_
            refine g_topd (y := if usC σ c m then FP.dconst1 else FP.dconst0) (by first | exact (if_neg (by rw [(bI_ne _).mp c_46]; decide)).symm | (cases e : usC σ c m with | true => exact (if_pos rfl).symm | false => rw [e] at c_46; exact absurd rfl c_46)) ?_
            refine g_dast (j := m) (σ' := uF (uF (uI σ 19 (opN σ c (m + 1))) 18 (gtN σ c m)) 18 (vf_upd (sF (uF (uI σ 19 (opN σ c (m + 1))) 18 (gtN σ c m)) 18) m (if usC σ c m then FP.dconst1 else FP.dconst0))) C dX4_openFor_54 wl18 rfl (by have := hW.nm8; omega) (by decide) wsA18 ?_
            refine g_eq (σ2 := opS σ c (m + 1)) (lv2 := [(0, .ref ((xK X).2.2 3)), (1, .int (nI c)), (2, .int (nI m))]) (st2 := []) (uF_step _ _ _ _ _) rfl rfl ?_
            refine g_iinc (v := nI (m + 1)) (lv' := [(2, .int (nI (m + 1))), (0, .ref ((xK X).2.2 3)), (1, .int (nI c))]) C dX4_openFor_55 2 rfl (nI_1 m) (by decide) rfl ?_
            refine g_goto (tgt := 2) C dX4_openFor_58 (by decide) ?_
            refine g_lv [1, 2, 0] rfl ?_
            exact ih2 (m + 1) (by omega) (by omega)
  refine g_lv [1, 2, 0] rfl ?_
  exact loop2 (pM (phC σ) + 1) 0 (by omega) (Nat.zero_le _)

theorem inX0_balance_X0 : ∀ w ∈ u_ws RX0 TX0 5, w ∈ wsX0_balance := by decide +kernel
theorem inX0_balance_X2 : ∀ w ∈ u_ws RX2 TX2 3, w ∈ wsX0_balance := by decide +kernel
set_option maxHeartbeats 4000000 in
set_option maxRecDepth 100000 in
theorem kX0_balance (l : Launch) (K : gK) (hD : gD K) (σ : gS) (hW : Wc σ) (hE : Ec σ) (hp : PhF (phC σ)) {c : Nat} (hc : c < 4) : Ct l yX0_balance wsX0_balance { frames := 4, cells := 0, slots := 0, locals := 95 } K [.ref (K.2.2 1), .int (nI c)] σ (fun r t => r = some (.int (sei (blA (opZ σ c)).1)) ∧ ∃ w, t = baS (opZ σ c) w (blA (opZ σ c)).2.1 (blA (opZ σ c)).2.2) := by
  refine Ct.of hD (by decide) rfl (Nat.le_of_ble_eq_true rfl) ?_
  intro X hL hK hF C
  subst hL; subst hK
  refine g_eq (σ2 := σ) (lv2 := [(0, .ref ((xK X).2.2 1)), (1, .int (nI c))]) (st2 := []) rfl rfl rfl ?_
  refine g_aload_n C dX0_balance_0 0 rfl rfl ?_
  refine g_get C dX0_balance_1 wl1 rfl 1 (by decide) 1 rfl rfl rfl inX0_balance_X0 ?_
  refine g_iload_n C dX0_balance_4 1 rfl rfl ?_
  refine g_callV (As := [.int (nI c)]) (rest := []) C dX0_balance_5 (kX4_openFor (xl X) (xK X) C.hD σ hW hc) wl3 rfl 1 gX0_balance_X4_openFor rfl (by decide +kernel) ⟨Nat.le_of_ble_eq_true rfl, Nat.le_of_ble_eq_true rfl⟩ ⟨Nat.le_of_ble_eq_true rfl, Nat.le_of_ble_eq_true rfl⟩ rfl rfl (Nat.le_of_ble_eq_true rfl) (fun rv9 σ9 h9 => ?_)
  obtain ⟨h9a, h9b⟩ := h9
  refine g_eq (σ2 := opS σ c (pM (phC σ))) (lv2 := [(0, .ref ((xK X).2.2 1)), (1, .int (nI c))]) (st2 := []) h9b rfl (by rw [h9a]; rfl) ?_
  refine g_aload_n C dX0_balance_8 0 rfl rfl ?_
  refine g_get C dX0_balance_9 wl1 rfl 2 (by decide) 2 rfl rfl rfl inX0_balance_X0 ?_
  refine g_dconst0 C dX0_balance_12 ?_
  refine g_put (σ' := uD (opS σ c (pM (phC σ))) 2 FP.dconst0) (ty := .double) C dX0_balance_13 wl6 rfl 2 (by decide) 3 rfl rfl inX0_balance_X2 tyX2_ok nmX2 rfl (by decide +kernel) rfl rfl (Nat.le_of_ble_eq_true rfl) wsD2 ?_
  refine g_iconst (v := nI 0) C dX0_balance_16 (by decide +kernel) ?_
  refine g_istore_n (lv' := [(2, .int (nI 0)), (0, .ref ((xK X).2.2 1)), (1, .int (nI c))]) C dX0_balance_17 rfl (by decide) rfl ?_
  refine g_eq (σ2 := uF (uD (opS σ c (pM (phC σ))) 2 FP.dconst0) 7 (zrN (sF σ 7) 0)) (lv2 := [(2, .int (nI 0)), (0, .ref ((xK X).2.2 1)), (1, .int (nI c))]) (st2 := []) ((uF_self (uD (opS σ c (pM (phC σ))) 2 FP.dconst0) 7).symm) rfl rfl ?_
  have loop18 : ∀ (r9 : Nat) (j : Nat), 10 - j < r9 → (j ≤ 10) → G X 6 0 0 (uF (uD (opS σ c (pM (phC σ))) 2 FP.dconst0) 7 (zrN (sF σ 7) j)) [(0, .ref ((xK X).2.2 1)), (1, .int (nI c)), (2, .int (nI j))] 18 [] := by
    intro r9
    induction r9 with
    | zero => intro j h9; exact absurd h9 (Nat.not_lt_zero _)
    | succ r9 ih18 =>
      intro j hm18 hj
      refine g_iload_n C dX0_balance_18 2 rfl rfl ?_
      refine g_bipush (v := nI 10) C dX0_balance_19 (by decide +kernel) ?_
      refine g_icmp_ge (tgt := 37) C dX0_balance_21 (by decide) (fun c_21 => ?_) (fun c_21 => ?_)
      · have hje : j = 10 := by
          have h9 := (nI_leI (by  omega) (by  omega)).mp c_21
          omega
        have hgT : ∀ m, m < pM (phC (opZ σ c)) → okG (sF (opZ σ c) 18 m) := fun m hm => by
          have e : sF (opZ σ c) 18 m = _ := gtN_at (σ := σ) (c := c) (n := pM (phC σ)) (m := m) hm
          rw [e]
          exact gt_ok _
        have hPT : ∀ j, j < 10 → okP (sF (opZ σ c) 7 j) := fun j hj => by
          have e : sF (opZ σ c) 7 j = _ := zrN_at (P := sF σ 7) (n := 10) hj
          rw [e]
          exact okP_0
        have hs0 : SdF (sF (opZ σ c) 7, sD (opZ σ c) 2) := ⟨hPT, okQ_0⟩
        have hg0 := hgT
        have hpT : PhF (phC (opZ σ c)) := hp
        have hET : Ec (opZ σ c) := hE
        have hWT : Wc (opZ σ c) := wc_opZ hW
        refine g_eq (σ2 := (opZ σ c)) (lv2 := [(0, .ref ((xK X).2.2 1)), (1, .int (nI c)), (2, .int (nI j))]) (st2 := []) (by rw [hje]; rfl) rfl rfl ?_
        refine g_iconst (v := nI 0) C dX0_balance_37 (by decide +kernel) ?_
        refine g_istore_n (lv' := [(2, .int (nI 0)), (0, .ref ((xK X).2.2 1)), (1, .int (nI c))]) C dX0_balance_38 rfl (by decide) rfl ?_
        refine g_iconst (v := nI 1) C dX0_balance_39 (by decide +kernel) ?_
        refine g_istore_n (lv' := [(3, .int (nI 1)), (2, .int (nI 0)), (0, .ref ((xK X).2.2 1)), (1, .int (nI c))]) C dX0_balance_40 rfl (by decide) rfl ?_
        refine g_iconst (v := nI 0) C dX0_balance_41 (by decide +kernel) ?_
        refine g_istore (lv' := [(4, .int (nI 0)), (3, .int (nI 1)), (2, .int (nI 0)), (0, .ref ((xK X).2.2 1)), (1, .int (nI c))]) C dX0_balance_42 (by decide) rfl ?_
        refine g_eq (σ2 := baS (opZ σ c) (sF (opZ σ c) 8) (sF (opZ σ c) 7, sD (opZ σ c) 2) (sF (opZ σ c) 18)) (lv2 := [(4, .int (nI 0)), (3, .int (nI 1)), (2, .int (nI 0)), (0, .ref ((xK X).2.2 1)), (1, .int (nI c))]) (st2 := []) (baS_0 _) rfl rfl ?_
        refine g_eq (σ2 := baS (opZ σ c) (sF (opZ σ c) 8) (sF (opZ σ c) 7, sD (opZ σ c) 2) (sF (opZ σ c) 18)) (lv2 := [(4, .int (nI 0)), (3, .int (bI true)), (2, .int (nI 0)), (0, .ref ((xK X).2.2 1)), (1, .int (nI c))]) (st2 := []) rfl rfl rfl ?_
        have loop44 : ∀ (r9 : Nat) (k R : Nat) (b : Bool) (w : Nat → UInt64) (s : (Nat → UInt64) × UInt64) (g : Nat → UInt64), 10 - k < r9 → (k ≤ 10) → (R ≤ 100 * k) → (SdF s) → (∀ m, m < pM (phC (opZ σ c)) → okG (g m)) → (blA (opZ σ c) = if b then blN (phC (opZ σ c)) (10 - k) s g R else (some R, s, g)) → G X 6 0 0 (baS (opZ σ c) w s g) [(0, .ref ((xK X).2.2 1)), (1, .int (nI c)), (2, .int (nI R)), (3, .int (bI b)), (4, .int (nI k))] 44 [] := by
          intro r9
          induction r9 with
          | zero => intro k R b w s g h9; exact absurd h9 (Nat.not_lt_zero _)
          | succ r9 ih44 =>
            intro k R b w s g hm44 hk hR hs hgk hB
            refine g_iload C dX0_balance_44 4 rfl ?_
            refine g_bipush (v := nI 10) C dX0_balance_46 (by decide +kernel) ?_
            refine g_icmp_ge (tgt := 85) C dX0_balance_48 (by decide) (fun c_48 => ?_) (fun c_48 => ?_)
            · have hke : k = 10 := by
                have h9 := (nI_leI (by  omega) (by  omega)).mp c_48
                omega
              have hres : blA (opZ σ c) = (some R, s, g) := by
                rw [hB, hke]
                cases b <;> rfl
              refine g_iload_n C dX0_balance_85 2 rfl rfl ?_
              refine g_iret C dX0_balance_86 rfl ⟨Nat.le_of_ble_eq_true rfl, Nat.le_of_ble_eq_true rfl⟩ ?_
              rw [hF]
              exact ⟨by rw [hres]; rfl, _, by rw [hres]⟩
            · have hlt : k < 10 := by
                refine Nat.lt_of_not_le fun h => c_48 ?_
                exact (nI_leI (by  omega) (by  omega)).mpr (by omega)
              refine g_iload_n C dX0_balance_51 3 rfl rfl ?_
              refine g_if_eq (tgt := 85) C dX0_balance_52 (by decide) (fun c_52 => ?_) (fun c_52 => ?_)
              · have hb : b = false := (bI_ne _).mp c_52
                have hres : blA (opZ σ c) = (some R, s, g) := by rw [hB, hb]; rfl
                refine g_iload_n C dX0_balance_85 2 rfl rfl ?_
                refine g_iret C dX0_balance_86 rfl ⟨Nat.le_of_ble_eq_true rfl, Nat.le_of_ble_eq_true rfl⟩ ?_
                rw [hF]
                exact ⟨by rw [hres]; rfl, _, by rw [hres]⟩
              · have hb : b = true := by
                  cases b with
                  | true => rfl
                  | false => exact absurd rfl c_52
                have hB1 : blA (opZ σ c) = blN (phC (opZ σ c)) ((9 - k) + 1) s g R := by rw [hB, hb, show 10 - k = (9 - k) + 1 by omega]; rfl
                refine g_aload_n C dX0_balance_55 0 rfl rfl ?_
                refine g_callV (As := []) (rest := []) C dX0_balance_56 (kX0_settle (xl X) (xK X) C.hD (baS (opZ σ c) w s g) hWT hET hpT hs.1 hgk hs.2) wl1 rfl 0 gX0_balance_X0_settle rfl (by decide +kernel) ⟨Nat.le_of_ble_eq_true rfl, Nat.le_of_ble_eq_true rfl⟩ ⟨Nat.le_of_ble_eq_true rfl, Nat.le_of_ble_eq_true rfl⟩ rfl rfl (Nat.le_of_ble_eq_true rfl) (fun rv9 σ9 h9 => ?_)
                obtain ⟨h9a, w2, h9b⟩ := h9
                refine g_eq (σ2 := baS (opZ σ c) w2 (itR (phC (opZ σ c)) g s (seN (seK (phC (opZ σ c)) g s))) g) (lv2 := [(0, .ref ((xK X).2.2 1)), (1, .int (nI c)), (2, .int (nI R)), (3, .int (bI b)), (4, .int (nI k))]) (st2 := [.int (sei (seK (phC (opZ σ c)) g s))]) (h9b.trans (baS_st _ _ _ _ _ _)) rfl (by rw [h9a]; rfl) ?_
                refine g_istore (lv' := [(5, .int (sei (seK (phC (opZ σ c)) g s))), (0, .ref ((xK X).2.2 1)), (1, .int (nI c)), (2, .int (nI R)), (3, .int (bI b)), (4, .int (nI k))]) C dX0_balance_59 (by decide) rfl ?_
                refine g_iload C dX0_balance_61 0 rfl ?_
                refine g_iconst (v := (-1)) C dX0_balance_63 (by decide +kernel) ?_
                refine g_icmp_ne (tgt := 69) C dX0_balance_64 (by decide) (fun c_64 => ?_) (fun c_64 => ?_)
                · obtain ⟨q, hq⟩ : ∃ q, seK (phC (opZ σ c)) g s = some q := by
                    cases e : seK (phC (opZ σ c)) g s with
                    | none => rw [e] at c_64; exact absurd rfl c_64
                    | some q => exact ⟨q, rfl⟩
                  have hB2 := hB1.trans (blN_some hq)
                  rw [show 9 - k = 10 - (k + 1) by omega] at hB2
                  refine g_eq (σ2 := baS (opZ σ c) w2 (itR (phC (opZ σ c)) g s q) g) (lv2 := [(5, .int (sei (seK (phC (opZ σ c)) g s))), (0, .ref ((xK X).2.2 1)), (1, .int (nI c)), (2, .int (nI R)), (3, .int (bI b)), (4, .int (nI k))]) (st2 := []) (by rw [hq]; rfl) rfl rfl ?_
                  refine g_iload_n C dX0_balance_69 3 rfl rfl ?_
                  refine g_iload C dX0_balance_70 0 rfl ?_
                  refine g_iadd C dX0_balance_72 ?_
                  refine g_topi (y := nI (R + q)) (by rw [hq]; exact nI_add R q) ?_
                  refine g_istore_n (lv' := [(2, .int (nI (R + q))), (5, .int (sei (seK (phC (opZ σ c)) g s))), (0, .ref ((xK X).2.2 1)), (1, .int (nI c)), (3, .int (bI b)), (4, .int (nI k))]) C dX0_balance_73 rfl (by decide) rfl ?_
                  refine g_aload_n C dX0_balance_74 2 rfl rfl ?_
                  refine g_callV (As := []) (rest := []) C dX0_balance_75 (kX0_closeGates (xl X) (xK X) C.hD (baS (opZ σ c) w2 (itR (phC (opZ σ c)) g s q) g) hWT hpT (itR_ok hpT hgk hs q).1 hgk) wl1 rfl 0 gX0_balance_X0_closeGates rfl (by decide +kernel) ⟨Nat.le_of_ble_eq_true rfl, Nat.le_of_ble_eq_true rfl⟩ ⟨Nat.le_of_ble_eq_true rfl, Nat.le_of_ble_eq_true rfl⟩ rfl rfl (Nat.le_of_ble_eq_true rfl) (fun rv9 σ9 h9 => ?_)
                  obtain ⟨h9a, h9b⟩ := h9
                  refine g_eq (σ2 := baS (opZ σ c) w2 (itR (phC (opZ σ c)) g s q) (clG (phC (opZ σ c)) (itR (phC (opZ σ c)) g s q).1 g (pM (phC (opZ σ c))))) (lv2 := [(2, .int (nI (R + q))), (5, .int (sei (seK (phC (opZ σ c)) g s))), (0, .ref ((xK X).2.2 1)), (1, .int (nI c)), (3, .int (bI b)), (4, .int (nI k))]) (st2 := [.int (bI (clB (phC (opZ σ c)) (itR (phC (opZ σ c)) g s q).1 g (pM (phC (opZ σ c)))))]) (h9b.trans (uF_uF _ _ _ _)) rfl (by rw [h9a]; rfl) ?_
                  refine g_istore_n (lv' := [(3, .int (bI (clB (phC (opZ σ c)) (itR (phC (opZ σ c)) g s q).1 g (pM (phC (opZ σ c)))))), (2, .int (nI (R + q))), (5, .int (sei (seK (phC (opZ σ c)) g s))), (0, .ref ((xK X).2.2 1)), (1, .int (nI c)), (4, .int (nI k))]) C dX0_balance_78 rfl (by decide) rfl ?_
                  refine g_iinc (v := nI (k + 1)) (lv' := [(4, .int (nI (k + 1))), (3, .int (bI (clB (phC (opZ σ c)) (itR (phC (opZ σ c)) g s q).1 g (pM (phC (opZ σ c)))))), (2, .int (nI (R + q))), (5, .int (sei (seK (phC (opZ σ c)) g s))), (0, .ref ((xK X).2.2 1)), (1, .int (nI c))]) C dX0_balance_79 5 rfl (nI_1 k) (by decide) rfl ?_
                  refine g_goto (tgt := 44) C dX0_balance_82 (by decide) ?_
                  refine g_lv [4, 5, 2, 1, 0] rfl ?_
                  exact ih44 (k + 1) (R + q) _ w2 _ _ (by omega) (by omega) (by have := (seK_le hq).2; omega) (itR_ok hpT hgk hs q) (clG_ok hpT (itR_ok hpT hgk hs q).1 hgk _ (Nat.le_refl _)) hB2
                · have hn : seK (phC (opZ σ c)) g s = none := by
                    cases e : seK (phC (opZ σ c)) g s with
                    | none => rfl
                    | some q =>
                      exfalso
                      rw [e] at c_64
                      have h1 := seK_le e
                      have h2 : (nI q).toInt = (-1 : Int32).toInt := congrArg Int32.toInt c_64
                      rw [nI_toInt (by omega)] at h2
                      have h3 : (-1 : Int32).toInt = -1 := by decide
                      omega
                  have hres := hB1.trans (blN_none hn)
                  refine g_iconst (v := (-1)) C dX0_balance_67 (by decide +kernel) ?_
                  refine g_iret C dX0_balance_68 rfl ⟨Nat.le_of_ble_eq_true rfl, Nat.le_of_ble_eq_true rfl⟩ ?_
                  rw [hF]
                  exact ⟨by rw [hres]; rfl, _, by rw [hres]⟩
        refine g_lv [3, 4, 2, 1, 0] rfl ?_
        exact loop44 11 0 0 true (sF (opZ σ c) 8) (sF (opZ σ c) 7, sD (opZ σ c) 2) (sF (opZ σ c) 18) (by omega) (Nat.zero_le _) (Nat.zero_le _) hs0 hg0 rfl
      · have hlt : j < 10 := by
          refine Nat.lt_of_not_le fun h => c_21 ?_
          exact (nI_leI (by  omega) (by  omega)).mpr (by omega)
        refine g_aload_n C dX0_balance_24 0 rfl rfl ?_
        refine g_get C dX0_balance_25 wl1 rfl 3 (by decide) 4 rfl rfl rfl inX0_balance_X0 ?_
        refine g_iload_n C dX0_balance_28 2 rfl rfl ?_
        refine g_dconst0 C dX0_balance_29 ?_
        refine g_dast (j := j) (σ' := uF (uF (uD (opS σ c (pM (phC σ))) 2 FP.dconst0) 7 (zrN (sF σ 7) j)) 7 (vf_upd (sF (uF (uD (opS σ c (pM (phC σ))) 2 FP.dconst0) 7 (zrN (sF σ 7) j)) 7) j FP.dconst0)) C dX0_balance_30 wl7 rfl (by omega) (by decide) wsA7 ?_
        refine g_eq (σ2 := uF (uD (opS σ c (pM (phC σ))) 2 FP.dconst0) 7 (zrN (sF σ 7) (j + 1))) (lv2 := [(0, .ref ((xK X).2.2 1)), (1, .int (nI c)), (2, .int (nI j))]) (st2 := []) (uF_step _ _ _ _ _) rfl rfl ?_
        refine g_iinc (v := nI (j + 1)) (lv' := [(2, .int (nI (j + 1))), (0, .ref ((xK X).2.2 1)), (1, .int (nI c))]) C dX0_balance_31 2 rfl (nI_1 j) (by decide) rfl ?_
        refine g_goto (tgt := 18) C dX0_balance_34 (by decide) ?_
        refine g_lv [1, 2, 0] rfl ?_
        exact ih18 (j + 1) (by omega) (by omega)
  refine g_lv [1, 2, 0] rfl ?_
  exact loop18 11 0 (by omega) (Nat.zero_le _)

theorem inX0_isEachSpeedAtLeast_X0 : ∀ w ∈ u_ws RX0 TX0 5, w ∈ wsX0_isEachSpeedAtLeast := by decide +kernel
theorem inX0_isEachSpeedAtLeast_X1 : ∀ w ∈ u_ws RX1 TX1 8, w ∈ wsX0_isEachSpeedAtLeast := by decide +kernel
set_option maxHeartbeats 4000000 in
set_option maxRecDepth 100000 in
theorem kX0_isEachSpeedAtLeast (l : Launch) (K : gK) (hD : gD K) (σ : gS) (hW : Wc σ) (hE : Ec σ) (hp : PhF (phC σ)) (hP : Pc_ σ) (hw : ∀ d, d < pD (phC σ) → okW (sF σ 12 d)) (least : UInt64) : Ct l yX0_isEachSpeedAtLeast wsX0_isEachSpeedAtLeast { frames := 2, cells := 0, slots := 0, locals := 42 } K [.ref (K.2.2 1), .double least] σ (fun r t => r = some (.int (bI (allB (kpB (phC σ) (sF σ 7) (sF σ 12) least) (pD (phC σ))))) ∧ t = σ) := by
  refine Ct.of hD (by decide) rfl (Nat.le_of_ble_eq_true rfl) ?_
  intro X hL hK hF C
  subst hL; subst hK
  refine g_eq (σ2 := σ) (lv2 := [(0, .ref ((xK X).2.2 1)), (1, .double least)]) (st2 := []) rfl rfl rfl ?_
  refine g_iconst (v := nI 0) C dX0_isEachSpeedAtLeast_0 (by decide +kernel) ?_
  refine g_istore_n (lv' := [(3, .int (nI 0)), (0, .ref ((xK X).2.2 1)), (1, .double least)]) C dX0_isEachSpeedAtLeast_1 rfl (by decide) rfl ?_
  have loop2 : ∀ (r9 : Nat) (d : Nat), pD (phC σ) - d < r9 → (d ≤ pD (phC σ)) → (allB (kpB (phC σ) (sF σ 7) (sF σ 12) least) d = true) → G X 4 0 0 σ [(0, .ref ((xK X).2.2 1)), (1, .double least), (3, .int (nI d))] 2 [] := by
    intro r9
    induction r9 with
    | zero => intro d h9; exact absurd h9 (Nat.not_lt_zero _)
    | succ r9 ih2 =>
      intro d hm2 hd ha
      refine g_iload_n C dX0_isEachSpeedAtLeast_2 2 rfl rfl ?_
      refine g_aload_n C dX0_isEachSpeedAtLeast_3 0 rfl rfl ?_
      refine g_get C dX0_isEachSpeedAtLeast_4 wl1 rfl 0 (by decide) 1 rfl rfl rfl inX0_isEachSpeedAtLeast_X0 ?_
      refine g_get C dX0_isEachSpeedAtLeast_7 wl2 rfl 0 (by decide) 2 rfl rfl rfl inX0_isEachSpeedAtLeast_X1 ?_
      refine g_topi (y := nI (pD (phC σ))) hW.nd ?_
      refine g_icmp_ge (tgt := 31) C dX0_isEachSpeedAtLeast_10 (by decide) (fun c_10 => ?_) (fun c_10 => ?_)
      · have hde : d = pD (phC σ) := by
          have h9 := (nI_leI (by have := hW.nd16; omega) (by have := hW.nd16; omega)).mp c_10
          omega
        refine g_iconst (v := nI 1) C dX0_isEachSpeedAtLeast_31 (by decide +kernel) ?_
        refine g_zret C dX0_isEachSpeedAtLeast_32 rfl rfl ⟨Nat.le_of_ble_eq_true rfl, Nat.le_of_ble_eq_true rfl⟩ ?_
        rw [hF]
        exact ⟨by rw [← hde, ha]; rfl, rfl⟩
      · have hdt : d < pD (phC σ) := by
          refine Nat.lt_of_not_le fun h => c_10 ?_
          exact (nI_leI (by have := hW.nd16; omega) (by have := hW.nd16; omega)).mpr (by omega)
        refine g_aload_n C dX0_isEachSpeedAtLeast_13 0 rfl rfl ?_
        refine g_iload_n C dX0_isEachSpeedAtLeast_14 2 rfl rfl ?_
        refine g_callV (As := [.int (nI d)]) (rest := []) C dX0_isEachSpeedAtLeast_15 (kX0_speed (xl X) (xK X) C.hD σ hW hE hp hP hdt (hw _ hdt)) wl1 rfl 1 gX0_isEachSpeedAtLeast_X0_speed rfl (by decide +kernel) ⟨Nat.le_of_ble_eq_true rfl, Nat.le_of_ble_eq_true rfl⟩ ⟨Nat.le_of_ble_eq_true rfl, Nat.le_of_ble_eq_true rfl⟩ rfl rfl (Nat.le_of_ble_eq_true rfl) (fun rv9 σ9 h9 => ?_)
        obtain ⟨h9a, h9b⟩ := h9
        refine g_eq (σ2 := σ) (lv2 := [(0, .ref ((xK X).2.2 1)), (1, .double least), (3, .int (nI d))]) (st2 := [.double (spd (phC σ) (sF σ 7) (sF σ 12) d)]) h9b rfl (by rw [h9a]; rfl) ?_
        refine g_dload_n C dX0_isEachSpeedAtLeast_18 1 rfl rfl ?_
        refine g_dcmp C dX0_isEachSpeedAtLeast_19 ?_
        refine g_if_ge (tgt := 25) C dX0_isEachSpeedAtLeast_20 (by decide) (fun c_20 => ?_) (fun c_20 => ?_)
        · have hb : (kpB (phC σ) (sF σ 7) (sF σ 12) least) d = true := decide_eq_true c_20
          refine g_iinc (v := nI (d + 1)) (lv' := [(3, .int (nI (d + 1))), (0, .ref ((xK X).2.2 1)), (1, .double least)]) C dX0_isEachSpeedAtLeast_25 2 rfl (nI_1 d) (by decide) rfl ?_
          refine g_goto (tgt := 2) C dX0_isEachSpeedAtLeast_28 (by decide) ?_
          refine g_lv [1, 2, 0] rfl ?_
          exact ih2 (d + 1) (by omega) (by omega) (allB_up ha hb)
        · have hb : (kpB (phC σ) (sF σ 7) (sF σ 12) least) d = false := decide_eq_false c_20
          refine g_iconst (v := nI 0) C dX0_isEachSpeedAtLeast_23 (by decide +kernel) ?_
          refine g_zret C dX0_isEachSpeedAtLeast_24 rfl rfl ⟨Nat.le_of_ble_eq_true rfl, Nat.le_of_ble_eq_true rfl⟩ ?_
          rw [hF]
          exact ⟨by rw [allB_no hb hdt]; rfl, rfl⟩
  refine g_lv [1, 2, 0] rfl ?_
  exact loop2 (pD (phC σ) + 1) 0 (by omega) (Nat.zero_le _) rfl

theorem inX0_isEachMachineServed_X0 : ∀ w ∈ u_ws RX0 TX0 5, w ∈ wsX0_isEachMachineServed := by decide +kernel
theorem inX0_isEachMachineServed_X4 : ∀ w ∈ u_ws RX4 TX4 6, w ∈ wsX0_isEachMachineServed := by decide +kernel
set_option maxHeartbeats 4000000 in
set_option maxRecDepth 100000 in
theorem kX0_isEachMachineServed (l : Launch) (K : gK) (hD : gD K) (σ : gS) (hW : Wc σ) (hp : PhF (phC σ)) (hP : Pc_ σ) (hg : Gc_ σ) : Ct l yX0_isEachMachineServed wsX0_isEachMachineServed { frames := 2, cells := 0, slots := 0, locals := 42 } K [.ref (K.2.2 1)] σ (fun r t => r = some (.int (bI (allB (srB (phC σ) (sF σ 7) (sF σ 18)) (pM (phC σ))))) ∧ t = σ) := by
  refine Ct.of hD (by decide) rfl (Nat.le_of_ble_eq_true rfl) ?_
  intro X hL hK hF C
  subst hL; subst hK
  refine g_eq (σ2 := σ) (lv2 := [(0, .ref ((xK X).2.2 1))]) (st2 := []) rfl rfl rfl ?_
  refine g_iconst (v := nI 0) C dX0_isEachMachineServed_0 (by decide +kernel) ?_
  refine g_istore_n (lv' := [(1, .int (nI 0)), (0, .ref ((xK X).2.2 1))]) C dX0_isEachMachineServed_1 rfl (by decide) rfl ?_
  have loop2 : ∀ (r9 : Nat) (m : Nat), pM (phC σ) - m < r9 → (m ≤ pM (phC σ)) → (allB (srB (phC σ) (sF σ 7) (sF σ 18)) m = true) → G X 2 0 0 σ [(0, .ref ((xK X).2.2 1)), (1, .int (nI m))] 2 [] := by
    intro r9
    induction r9 with
    | zero => intro m h9; exact absurd h9 (Nat.not_lt_zero _)
    | succ r9 ih2 =>
      intro m hm2 hm ha
      refine g_iload_n C dX0_isEachMachineServed_2 1 rfl rfl ?_
      refine g_aload_n C dX0_isEachMachineServed_3 0 rfl rfl ?_
      refine g_get C dX0_isEachMachineServed_4 wl1 rfl 1 (by decide) 1 rfl rfl rfl inX0_isEachMachineServed_X0 ?_
      refine g_get C dX0_isEachMachineServed_7 wl3 rfl 0 (by decide) 2 rfl rfl rfl inX0_isEachMachineServed_X4 ?_
      refine g_topi (y := nI (pM (phC σ))) hW.nm ?_
      refine g_icmp_ge (tgt := 55) C dX0_isEachMachineServed_10 (by decide) (fun c_10 => ?_) (fun c_10 => ?_)
      · have hme : m = pM (phC σ) := by
          have h9 := (nI_leI (by have := hW.nm8; omega) (by have := hW.nm8; omega)).mp c_10
          omega
        refine g_iconst (v := nI 1) C dX0_isEachMachineServed_55 (by decide +kernel) ?_
        refine g_zret C dX0_isEachMachineServed_56 rfl rfl ⟨Nat.le_of_ble_eq_true rfl, Nat.le_of_ble_eq_true rfl⟩ ?_
        rw [hF]
        exact ⟨by rw [← hme, ha]; rfl, rfl⟩
      · have hmt : m < pM (phC σ) := by
          refine Nat.lt_of_not_le fun h => c_10 ?_
          exact (nI_leI (by have := hW.nm8; omega) (by have := hW.nm8; omega)).mpr (by omega)
        refine g_aload_n C dX0_isEachMachineServed_13 0 rfl rfl ?_
        refine g_get C dX0_isEachMachineServed_14 wl1 rfl 1 (by decide) 1 rfl rfl rfl inX0_isEachMachineServed_X0 ?_
        refine g_get C dX0_isEachMachineServed_17 wl3 rfl 4 (by decide) 3 rfl rfl rfl inX0_isEachMachineServed_X4 ?_
        refine g_iload_n C dX0_isEachMachineServed_20 1 rfl rfl ?_
        refine g_zald (j := m) C dX0_isEachMachineServed_21 wl19 rfl (by have := hW.nm8; omega) (by decide) ?_
        refine g_if_eq (tgt := 49) C dX0_isEachMachineServed_22 (by decide) (fun c_22 => ?_) (fun c_22 => ?_)
        · have hb : (srB (phC σ) (sF σ 7) (sF σ 18)) m = true := by unfold srB; rw [show pO (phC σ) m = false from decide_eq_false (fun h => h c_22)]; rfl
          refine g_iinc (v := nI (m + 1)) (lv' := [(1, .int (nI (m + 1))), (0, .ref ((xK X).2.2 1))]) C dX0_isEachMachineServed_49 1 rfl (nI_1 m) (by decide) rfl ?_
          refine g_goto (tgt := 2) C dX0_isEachMachineServed_52 (by decide) ?_
          refine g_lv [1, 0] rfl ?_
          exact ih2 (m + 1) (by omega) (by omega) (allB_up ha hb)
        · refine g_aload_n C dX0_isEachMachineServed_25 0 rfl rfl ?_
          refine g_iload_n C dX0_isEachMachineServed_26 1 rfl rfl ?_
          refine g_callV (As := [.int (nI m)]) (rest := []) C dX0_isEachMachineServed_27 (kX0_draw (xl X) (xK X) C.hD σ hW hp hP hg hmt) wl1 rfl 1 gX0_isEachMachineServed_X0_draw rfl (by decide +kernel) ⟨Nat.le_of_ble_eq_true rfl, Nat.le_of_ble_eq_true rfl⟩ ⟨Nat.le_of_ble_eq_true rfl, Nat.le_of_ble_eq_true rfl⟩ rfl rfl (Nat.le_of_ble_eq_true rfl) (fun rv9 σ9 h9 => ?_)
          obtain ⟨h9a, h9b⟩ := h9
          refine g_eq (σ2 := σ) (lv2 := [(0, .ref ((xK X).2.2 1)), (1, .int (nI m))]) (st2 := [.double (drV (phC σ) (sF σ 7) (sF σ 18) m)]) h9b rfl (by rw [h9a]; rfl) ?_
          refine g_aload_n C dX0_isEachMachineServed_30 0 rfl rfl ?_
          refine g_get C dX0_isEachMachineServed_31 wl1 rfl 1 (by decide) 1 rfl rfl rfl inX0_isEachMachineServed_X0 ?_
          refine g_get C dX0_isEachMachineServed_34 wl3 rfl 2 (by decide) 4 rfl rfl rfl inX0_isEachMachineServed_X4 ?_
          refine g_iload_n C dX0_isEachMachineServed_37 1 rfl rfl ?_
          refine g_dald (j := m) C dX0_isEachMachineServed_38 wl17 rfl (by have := hW.nm8; omega) (by decide) ?_
          refine g_topd (y := pN (phC σ) m) rfl ?_
          refine g_ldc2d (v := 4606619468846596096) C dX0_isEachMachineServed_39 5 rfl ?_
          refine g_dmul C dX0_isEachMachineServed_42 (((hp.2.2.2.1 m hmt).1.1.mul (k := 10) c9375_B (by decide)).F.ok) ?_
          refine g_dcmp C dX0_isEachMachineServed_43 ?_
          refine g_if_ge (tgt := 49) C dX0_isEachMachineServed_44 (by decide) (fun c_44 => ?_) (fun c_44 => ?_)
          · have hb : (srB (phC σ) (sF σ 7) (sF σ 18)) m = true := by unfold srB; rw [decide_eq_false (by rw [Int32.not_lt]; exact c_44), Bool.and_false]; rfl
            refine g_iinc (v := nI (m + 1)) (lv' := [(1, .int (nI (m + 1))), (0, .ref ((xK X).2.2 1))]) C dX0_isEachMachineServed_49 1 rfl (nI_1 m) (by decide) rfl ?_
            refine g_goto (tgt := 2) C dX0_isEachMachineServed_52 (by decide) ?_
            refine g_lv [1, 0] rfl ?_
            exact ih2 (m + 1) (by omega) (by omega) (allB_up ha hb)
          · have hb : (srB (phC σ) (sF σ 7) (sF σ 18)) m = false := by unfold srB; rw [show pO (phC σ) m = true from decide_eq_true c_22, decide_eq_true (by rw [← Int32.not_le]; exact c_44)]; rfl
            refine g_iconst (v := nI 0) C dX0_isEachMachineServed_47 (by decide +kernel) ?_
            refine g_zret C dX0_isEachMachineServed_48 rfl rfl ⟨Nat.le_of_ble_eq_true rfl, Nat.le_of_ble_eq_true rfl⟩ ?_
            rw [hF]
            exact ⟨by rw [allB_no hb hmt]; rfl, rfl⟩
  refine g_lv [1, 0] rfl ?_
  exact loop2 (pM (phC σ) + 1) 0 (by omega) (Nat.zero_le _) rfl

theorem inX3_missing_X3 : ∀ w ∈ u_ws RX3 TX3 3, w ∈ wsX3_missing := by decide +kernel
set_option maxHeartbeats 4000000 in
set_option maxRecDepth 100000 in
theorem kX3_missing (l : Launch) (K : gK) (hD : gD K) (σ : gS) (hW : Wc σ) (hE : Ec σ) (hp : PhF (phC σ)) (hP : Pc_ σ) {d : Nat} (hd : d < pD (phC σ)) (hr : okD (sF σ 22 d)) (hl : okR (sF σ 21 d)) : Ct l yX3_missing wsX3_missing { frames := 1, cells := 0, slots := 0, locals := 21 } K [.ref (K.2.2 4), .int (nI d), .ref (K.2.2 1)] σ (fun r t => r = some (.double (msV (phC σ) (sF σ 7) (sF σ 22) (sF σ 21) d)) ∧ t = σ) := by
  refine Ct.of hD (by decide) rfl (Nat.le_of_ble_eq_true rfl) ?_
  intro X hL hK hF C
  subst hL; subst hK
  refine g_eq (σ2 := σ) (lv2 := [(0, .ref ((xK X).2.2 4)), (1, .int (nI d)), (2, .ref ((xK X).2.2 1))]) (st2 := []) rfl rfl rfl ?_
  have h16 : d < 16 := by have := hW.nd16; omega
  have hb := ms_B hp (rd := sF σ 22) (lk := sF σ 21) hP hd hr hl
  refine g_aload_n C dX3_missing_0 0 rfl rfl ?_
  refine g_get C dX3_missing_1 wl4 rfl 1 (by decide) 1 rfl rfl rfl inX3_missing_X3 ?_
  refine g_iload_n C dX3_missing_4 1 rfl rfl ?_
  refine g_dald (j := d) C dX3_missing_5 wl22 rfl (by omega) (by decide) ?_
  refine g_aload_n C dX3_missing_6 2 rfl rfl ?_
  refine g_iload_n C dX3_missing_7 1 rfl rfl ?_
  refine g_callV (As := [.int (nI d)]) (rest := [.double (sF σ 22 d)]) C dX3_missing_8 (kX0_flow (xl X) (xK X) C.hD σ hW hE hp hP hd) wl1 rfl 1 gX3_missing_X0_flow rfl (by decide +kernel) ⟨Nat.le_of_ble_eq_true rfl, Nat.le_of_ble_eq_true rfl⟩ ⟨Nat.le_of_ble_eq_true rfl, Nat.le_of_ble_eq_true rfl⟩ rfl rfl (Nat.le_of_ble_eq_true rfl) (fun rv9 σ9 h9 => ?_)
  obtain ⟨h9a, h9b⟩ := h9
  refine g_eq (σ2 := σ) (lv2 := [(0, .ref ((xK X).2.2 4)), (1, .int (nI d)), (2, .ref ((xK X).2.2 1))]) (st2 := [.double (flw (phC σ) (sF σ 7) d), .double (sF σ 22 d)]) h9b rfl (by rw [h9a]; rfl) ?_
  refine g_callSN (As := [.double (flw (phC σ) (sF σ 7) d)]) (rest := [.double (sF σ 22 d)]) C dX3_missing_11 (kX6_magnitude (xl X) (xK X) C.hD σ _) 1 gX3_missing_X6_magnitude_n38 rfl 2 rfl 14 rfl 13 rfl (by decide +kernel) ⟨Nat.le_of_ble_eq_true rfl, Nat.le_of_ble_eq_true rfl⟩ ⟨Nat.le_of_ble_eq_true rfl, Nat.le_of_ble_eq_true rfl⟩ rfl rfl (Nat.le_of_ble_eq_true rfl) (fun rv9 σ9 h9 => ?_)
  obtain ⟨h9a, h9b⟩ := h9
  refine g_eq (σ2 := σ) (lv2 := [(0, .ref ((xK X).2.2 4)), (1, .int (nI d)), (2, .ref ((xK X).2.2 1))]) (st2 := [.double (mg (flw (phC σ) (sF σ 7) d)), .double (sF σ 22 d)]) h9b rfl (by rw [h9a]; rfl) ?_
  refine g_dsub C dX3_missing_14 hb.1.F.ok ?_
  refine g_aload_n C dX3_missing_15 0 rfl rfl ?_
  refine g_get C dX3_missing_16 wl4 rfl 0 (by decide) 2 rfl rfl rfl inX3_missing_X3 ?_
  refine g_iload_n C dX3_missing_19 1 rfl rfl ?_
  refine g_dald (j := d) C dX3_missing_20 wl21 rfl (by omega) (by decide) ?_
  refine g_dsub C dX3_missing_21 hb.2.F.ok ?_
  refine g_dret C dX3_missing_22 rfl ⟨Nat.le_of_ble_eq_true rfl, Nat.le_of_ble_eq_true rfl⟩ ?_
  rw [hF]
  exact ⟨rfl, rfl⟩

theorem inX3_approach_X3 : ∀ w ∈ u_ws RX3 TX3 3, w ∈ wsX3_approach := by decide +kernel
set_option maxHeartbeats 4000000 in
set_option maxRecDepth 100000 in
theorem kX3_approach (l : Launch) (K : gK) (hD : gD K) (σ : gS) (hW : Wc σ) (hE : Ec σ) (hp : PhF (phC σ)) (hP : Pc_ σ) (hr : ∀ d, (fun d => decide (¬ sI σ 23 d = 0)) d = true → d < pD (phC σ) ∧ okD (sF σ 22 d)) (hl : ∀ d, okR (sF σ 21 d)) : Ct l yX3_approach wsX3_approach { frames := 2, cells := 0, slots := 0, locals := 43 } K [.ref (K.2.2 4), .ref (K.2.2 1)] σ (fun r t => r = none ∧ t = uF σ 21 (apN (phC σ) (sF σ 7) (sF σ 22) (fun d => decide (¬ sI σ 23 d = 0)) (sF σ 21) 16)) := by
  refine Ct.of hD (by decide) rfl (Nat.le_of_ble_eq_true rfl) ?_
  intro X hL hK hF C
  subst hL; subst hK
  refine g_eq (σ2 := σ) (lv2 := [(0, .ref ((xK X).2.2 4)), (1, .ref ((xK X).2.2 1))]) (st2 := []) rfl rfl rfl ?_
  refine g_iconst (v := nI 0) C dX3_approach_0 (by decide +kernel) ?_
  refine g_istore_n (lv' := [(2, .int (nI 0)), (0, .ref ((xK X).2.2 4)), (1, .ref ((xK X).2.2 1))]) C dX3_approach_1 rfl (by decide) rfl ?_
  refine g_eq (σ2 := uF σ 21 (apN (phC σ) (sF σ 7) (sF σ 22) (fun d => decide (¬ sI σ 23 d = 0)) (sF σ 21) 0)) (lv2 := [(2, .int (nI 0)), (0, .ref ((xK X).2.2 4)), (1, .ref ((xK X).2.2 1))]) (st2 := []) ((uF_self σ 21).symm) rfl rfl ?_
  have loop2 : ∀ (r9 : Nat) (d : Nat), 16 - d < r9 → (d ≤ 16) → G X 3 0 0 (uF σ 21 (apN (phC σ) (sF σ 7) (sF σ 22) (fun d => decide (¬ sI σ 23 d = 0)) (sF σ 21) d)) [(0, .ref ((xK X).2.2 4)), (1, .ref ((xK X).2.2 1)), (2, .int (nI d))] 2 [] := by
    intro r9
    induction r9 with
    | zero => intro d h9; exact absurd h9 (Nat.not_lt_zero _)
    | succ r9 ih2 =>
      intro d hm2 hd
      refine g_iload_n C dX3_approach_2 2 rfl rfl ?_
      refine g_bipush (v := nI 16) C dX3_approach_3 (by decide +kernel) ?_
      refine g_icmp_ge (tgt := 49) C dX3_approach_5 (by decide) (fun c_5 => ?_) (fun c_5 => ?_)
      · have hde : d = 16 := by
          have h9 := (nI_leI (by  omega) (by  omega)).mp c_5
          omega
        refine g_vret C dX3_approach_49 rfl ⟨Nat.le_of_ble_eq_true rfl, Nat.le_of_ble_eq_true rfl⟩ ?_
        rw [hF]
        exact ⟨rfl, by rw [hde]⟩
      · have hdt : d < 16 := by
          refine Nat.lt_of_not_le fun h => c_5 ?_
          exact (nI_leI (by  omega) (by  omega)).mpr (by omega)
        refine g_aload_n C dX3_approach_8 0 rfl rfl ?_
        refine g_get C dX3_approach_9 wl4 rfl 2 (by decide) 1 rfl rfl rfl inX3_approach_X3 ?_
        refine g_iload_n C dX3_approach_12 2 rfl rfl ?_
        refine g_zald (j := d) C dX3_approach_13 wl23 rfl (by omega) (by decide) ?_
        refine g_if_eq (tgt := 43) C dX3_approach_14 (by decide) (fun c_14 => ?_) (fun c_14 => ?_)
        · have hb : (fun d => decide (¬ sI σ 23 d = 0)) d = false := decide_eq_false (fun h => h c_14)
          refine g_eq (σ2 := uF σ 21 (apN (phC σ) (sF σ 7) (sF σ 22) (fun d => decide (¬ sI σ 23 d = 0)) (sF σ 21) (d + 1))) (lv2 := [(0, .ref ((xK X).2.2 4)), (1, .ref ((xK X).2.2 1)), (2, .int (nI d))]) (st2 := []) (by first | (rw [apN_yes hb]; exact uF_step _ _ _ _ _) | rw [apN_no hb]) rfl rfl ?_
          refine g_iinc (v := nI (d + 1)) (lv' := [(2, .int (nI (d + 1))), (0, .ref ((xK X).2.2 4)), (1, .ref ((xK X).2.2 1))]) C dX3_approach_43 2 rfl (nI_1 d) (by decide) rfl ?_
          refine g_goto (tgt := 2) C dX3_approach_46 (by decide) ?_
          refine g_lv [1, 2, 0] rfl ?_
          exact ih2 (d + 1) (by omega) (by omega)
        · have hb : (fun d => decide (¬ sI σ 23 d = 0)) d = true := decide_eq_true c_14
          have hrd := hr d hb
          have hap := ap_ok hp (rd := sF σ 22) (lk := sF σ 21) hP hrd.1 hrd.2 (hl d)
          have hln : okR ((apN (phC σ) (sF σ 7) (sF σ 22) (fun d => decide (¬ sI σ 23 d = 0)) (sF σ 21) d) d) := by rw [apN_ge (Nat.le_refl _)]; exact hl d
          refine g_aload_n C dX3_approach_17 0 rfl rfl ?_
          refine g_get C dX3_approach_18 wl4 rfl 0 (by decide) 2 rfl rfl rfl inX3_approach_X3 ?_
          refine g_iload_n C dX3_approach_21 2 rfl rfl ?_
          refine g_aload_n C dX3_approach_22 0 rfl rfl ?_
          refine g_get C dX3_approach_23 wl4 rfl 0 (by decide) 2 rfl rfl rfl inX3_approach_X3 ?_
          refine g_iload_n C dX3_approach_26 2 rfl rfl ?_
          refine g_dald (j := d) C dX3_approach_27 wl21 rfl (by omega) (by decide) ?_
          refine g_topd (y := sF σ 21 d) (apN_ge (Nat.le_refl _)) ?_
          refine g_aload_n C dX3_approach_28 0 rfl rfl ?_
          refine g_iload_n C dX3_approach_29 2 rfl rfl ?_
          refine g_aload_n C dX3_approach_30 1 rfl rfl ?_
          refine g_callV (As := [.int (nI d), .ref ((xK X).2.2 1)]) (rest := [.double (sF σ 21 d), .int (nI d), .ref ((xK X).2.2 21)]) C dX3_approach_31 (kX3_missing (xl X) (xK X) C.hD (uF σ 21 (apN (phC σ) (sF σ 7) (sF σ 22) (fun d => decide (¬ sI σ 23 d = 0)) (sF σ 21) d)) hW hE hp hP hrd.1 hrd.2 hln) wl4 rfl 2 gX3_approach_X3_missing rfl (by decide +kernel) ⟨Nat.le_of_ble_eq_true rfl, Nat.le_of_ble_eq_true rfl⟩ ⟨Nat.le_of_ble_eq_true rfl, Nat.le_of_ble_eq_true rfl⟩ rfl rfl (Nat.le_of_ble_eq_true rfl) (fun rv9 σ9 h9 => ?_)
          obtain ⟨h9a, h9b⟩ := h9
          refine g_eq (σ2 := uF σ 21 (apN (phC σ) (sF σ 7) (sF σ 22) (fun d => decide (¬ sI σ 23 d = 0)) (sF σ 21) d)) (lv2 := [(0, .ref ((xK X).2.2 4)), (1, .ref ((xK X).2.2 1)), (2, .int (nI d))]) (st2 := [.double (msV (phC σ) (sF σ 7) (sF σ 22) (sF σ 21) d), .double (sF σ 21 d), .int (nI d), .ref ((xK X).2.2 21)]) h9b rfl (by rw [h9a]; exact congrArg (fun z => [Value.double z, .double (sF σ 21 d), .int (nI d), .ref ((xK X).2.2 21)]) (msV_ap (h := phC σ) (P := sF σ 7) (rd := sF σ 22) d)) ?_
          refine g_ldc2d (v := 4611686018427387904) C dX3_approach_34 3 rfl ?_
          refine g_ddiv C dX3_approach_37 hap.1.F.ok ?_
          refine g_dadd C dX3_approach_38 hap.2.1.F.ok ?_
          refine g_callSN (As := [.double (FP.dadd (sF σ 21 d) (FP.ddiv (msV (phC σ) (sF σ 7) (sF σ 22) (sF σ 21) d) 4611686018427387904))]) (rest := [.int (nI d), .ref ((xK X).2.2 21)]) C dX3_approach_39 (kX6_notBelowZero (xl X) (xK X) C.hD (uF σ 21 (apN (phC σ) (sF σ 7) (sF σ 22) (fun d => decide (¬ sI σ 23 d = 0)) (sF σ 21) d)) _) 1 gX3_approach_X6_notBelowZero_n28 rfl 3 rfl 21 rfl 23 rfl (by decide +kernel) ⟨Nat.le_of_ble_eq_true rfl, Nat.le_of_ble_eq_true rfl⟩ ⟨Nat.le_of_ble_eq_true rfl, Nat.le_of_ble_eq_true rfl⟩ rfl rfl (Nat.le_of_ble_eq_true rfl) (fun rv9 σ9 h9 => ?_)
          obtain ⟨h9a, h9b⟩ := h9
          refine g_eq (σ2 := uF σ 21 (apN (phC σ) (sF σ 7) (sF σ 22) (fun d => decide (¬ sI σ 23 d = 0)) (sF σ 21) d)) (lv2 := [(0, .ref ((xK X).2.2 4)), (1, .ref ((xK X).2.2 1)), (2, .int (nI d))]) (st2 := [.double (apV (phC σ) (sF σ 7) (sF σ 22) (sF σ 21) d), .int (nI d), .ref ((xK X).2.2 21)]) h9b rfl (by rw [h9a]; rfl) ?_
          refine g_dast (j := d) (σ' := uF (uF σ 21 (apN (phC σ) (sF σ 7) (sF σ 22) (fun d => decide (¬ sI σ 23 d = 0)) (sF σ 21) d)) 21 (vf_upd (sF (uF σ 21 (apN (phC σ) (sF σ 7) (sF σ 22) (fun d => decide (¬ sI σ 23 d = 0)) (sF σ 21) d)) 21) d (apV (phC σ) (sF σ 7) (sF σ 22) (sF σ 21) d))) C dX3_approach_42 wl21 rfl (by omega) (by decide) wsA21 ?_
          refine g_eq (σ2 := uF σ 21 (apN (phC σ) (sF σ 7) (sF σ 22) (fun d => decide (¬ sI σ 23 d = 0)) (sF σ 21) (d + 1))) (lv2 := [(0, .ref ((xK X).2.2 4)), (1, .ref ((xK X).2.2 1)), (2, .int (nI d))]) (st2 := []) (by first | (rw [apN_yes hb]; exact uF_step _ _ _ _ _) | rw [apN_no hb]) rfl rfl ?_
          refine g_iinc (v := nI (d + 1)) (lv' := [(2, .int (nI (d + 1))), (0, .ref ((xK X).2.2 4)), (1, .ref ((xK X).2.2 1))]) C dX3_approach_43 2 rfl (nI_1 d) (by decide) rfl ?_
          refine g_goto (tgt := 2) C dX3_approach_46 (by decide) ?_
          refine g_lv [1, 2, 0] rfl ?_
          exact ih2 (d + 1) (by omega) (by omega)
  refine g_lv [1, 2, 0] rfl ?_
  exact loop2 17 0 (by omega) (Nat.zero_le _)

theorem inX3_sumOfSquares_X3 : ∀ w ∈ u_ws RX3 TX3 3, w ∈ wsX3_sumOfSquares := by decide +kernel
set_option maxHeartbeats 4000000 in
set_option maxRecDepth 100000 in
theorem kX3_sumOfSquares (l : Launch) (K : gK) (hD : gD K) (σ : gS) (hW : Wc σ) (hE : Ec σ) (hp : PhF (phC σ)) (hP : Pc_ σ) (hr : ∀ d, (fun d => decide (¬ sI σ 23 d = 0)) d = true → d < pD (phC σ) ∧ okD (sF σ 22 d)) (hl : ∀ d, okR (sF σ 21 d)) : Ct l yX3_sumOfSquares wsX3_sumOfSquares { frames := 2, cells := 0, slots := 0, locals := 43 } K [.ref (K.2.2 4), .ref (K.2.2 1)] σ (fun r t => r = some (.double (accF FP.dconst0 (fun d => decide (¬ sI σ 23 d = 0)) (fun d => FP.dmul (msV (phC σ) (sF σ 7) (sF σ 22) (sF σ 21) d) (msV (phC σ) (sF σ 7) (sF σ 22) (sF σ 21) d)) 16)) ∧ t = σ) := by
  refine Ct.of hD (by decide) rfl (Nat.le_of_ble_eq_true rfl) ?_
  intro X hL hK hF C
  subst hL; subst hK
  refine g_eq (σ2 := σ) (lv2 := [(0, .ref ((xK X).2.2 4)), (1, .ref ((xK X).2.2 1))]) (st2 := []) rfl rfl rfl ?_
  refine g_dconst0 C dX3_sumOfSquares_0 ?_
  refine g_dstore_n (lv' := [(2, .double FP.dconst0), (0, .ref ((xK X).2.2 4)), (1, .ref ((xK X).2.2 1))]) C dX3_sumOfSquares_1 rfl (by decide) rfl ?_
  refine g_iconst (v := nI 0) C dX3_sumOfSquares_2 (by decide +kernel) ?_
  refine g_istore (lv' := [(4, .int (nI 0)), (2, .double FP.dconst0), (0, .ref ((xK X).2.2 4)), (1, .ref ((xK X).2.2 1))]) C dX3_sumOfSquares_3 (by decide) rfl ?_
  have loop5 : ∀ (r9 : Nat) (d : Nat), 16 - d < r9 → (d ≤ 16) → G X 7 0 0 σ [(0, .ref ((xK X).2.2 4)), (1, .ref ((xK X).2.2 1)), (2, .double (accF FP.dconst0 (fun d => decide (¬ sI σ 23 d = 0)) (fun d => FP.dmul (msV (phC σ) (sF σ 7) (sF σ 22) (sF σ 21) d) (msV (phC σ) (sF σ 7) (sF σ 22) (sF σ 21) d)) d)), (4, .int (nI d))] 5 [] := by
    intro r9
    induction r9 with
    | zero => intro d h9; exact absurd h9 (Nat.not_lt_zero _)
    | succ r9 ih5 =>
      intro d hm5 hd
      refine g_iload C dX3_sumOfSquares_5 3 rfl ?_
      refine g_bipush (v := nI 16) C dX3_sumOfSquares_7 (by decide +kernel) ?_
      refine g_icmp_ge (tgt := 45) C dX3_sumOfSquares_9 (by decide) (fun c_9 => ?_) (fun c_9 => ?_)
      · have hde : d = 16 := by
          have h9 := (nI_leI (by  omega) (by  omega)).mp c_9
          omega
        refine g_dload_n C dX3_sumOfSquares_45 2 rfl rfl ?_
        refine g_dret C dX3_sumOfSquares_46 rfl ⟨Nat.le_of_ble_eq_true rfl, Nat.le_of_ble_eq_true rfl⟩ ?_
        rw [hF]
        exact ⟨by rw [hde], rfl⟩
      · have hdt : d < 16 := by
          refine Nat.lt_of_not_le fun h => c_9 ?_
          exact (nI_leI (by  omega) (by  omega)).mpr (by omega)
        refine g_aload_n C dX3_sumOfSquares_12 0 rfl rfl ?_
        refine g_get C dX3_sumOfSquares_13 wl4 rfl 2 (by decide) 1 rfl rfl rfl inX3_sumOfSquares_X3 ?_
        refine g_iload C dX3_sumOfSquares_16 3 rfl ?_
        refine g_zald (j := d) C dX3_sumOfSquares_18 wl23 rfl (by omega) (by decide) ?_
        refine g_if_eq (tgt := 39) C dX3_sumOfSquares_19 (by decide) (fun c_19 => ?_) (fun c_19 => ?_)
        · have hb : (fun d => decide (¬ sI σ 23 d = 0)) d = false := decide_eq_false (fun h => h c_19)
          refine g_eq (σ2 := σ) (lv2 := [(0, .ref ((xK X).2.2 4)), (1, .ref ((xK X).2.2 1)), (2, .double (accF FP.dconst0 (fun d => decide (¬ sI σ 23 d = 0)) (fun d => FP.dmul (msV (phC σ) (sF σ 7) (sF σ 22) (sF σ 21) d) (msV (phC σ) (sF σ 7) (sF σ 22) (sF σ 21) d)) (d + 1))), (4, .int (nI d))]) (st2 := []) rfl (congrArg (fun z9 => ([(0, .ref ((xK X).2.2 4)), (1, .ref ((xK X).2.2 1)), (2, .double z9), (4, .int (nI d))] : List (Nat × Value))) ((accF_no (p := (fun d => decide (¬ sI σ 23 d = 0))) (g := fun d => FP.dmul (msV (phC σ) (sF σ 7) (sF σ 22) (sF σ 21) d) (msV (phC σ) (sF σ 7) (sF σ 22) (sF σ 21) d)) hb).symm)) rfl ?_
          refine g_iinc (v := nI (d + 1)) (lv' := [(4, .int (nI (d + 1))), (0, .ref ((xK X).2.2 4)), (1, .ref ((xK X).2.2 1)), (2, .double (accF FP.dconst0 (fun d => decide (¬ sI σ 23 d = 0)) (fun d => FP.dmul (msV (phC σ) (sF σ 7) (sF σ 22) (sF σ 21) d) (msV (phC σ) (sF σ 7) (sF σ 22) (sF σ 21) d)) (d + 1)))]) C dX3_sumOfSquares_39 3 rfl (nI_1 d) (by decide) rfl ?_
          refine g_goto (tgt := 5) C dX3_sumOfSquares_42 (by decide) ?_
          refine g_lv [1, 2, 3, 0] rfl ?_
          exact ih5 (d + 1) (by omega) (by omega)
        · have hb : (fun d => decide (¬ sI σ 23 d = 0)) d = true := decide_eq_true c_19
          have hrd := hr d hb
          have hm : ∀ i, i < 16 → (fun d => decide (¬ sI σ 23 d = 0)) i = true → Bd 74 (FP.dmul (msV (phC σ) (sF σ 7) (sF σ 22) (sF σ 21) i) (msV (phC σ) (sF σ 7) (sF σ 22) (sF σ 21) i)) := fun i _ hi => (ms_B hp hP (hr i hi).1 (hr i hi).2 (hl i)).2.mul (ms_B hp hP (hr i hi).1 (hr i hi).2 (hl i)).2 (by decide)
          refine g_aload_n C dX3_sumOfSquares_22 0 rfl rfl ?_
          refine g_iload C dX3_sumOfSquares_23 3 rfl ?_
          refine g_aload_n C dX3_sumOfSquares_25 1 rfl rfl ?_
          refine g_callV (As := [.int (nI d), .ref ((xK X).2.2 1)]) (rest := []) C dX3_sumOfSquares_26 (kX3_missing (xl X) (xK X) C.hD σ hW hE hp hP hrd.1 hrd.2 (hl d)) wl4 rfl 2 gX3_sumOfSquares_X3_missing rfl (by decide +kernel) ⟨Nat.le_of_ble_eq_true rfl, Nat.le_of_ble_eq_true rfl⟩ ⟨Nat.le_of_ble_eq_true rfl, Nat.le_of_ble_eq_true rfl⟩ rfl rfl (Nat.le_of_ble_eq_true rfl) (fun rv9 σ9 h9 => ?_)
          obtain ⟨h9a, h9b⟩ := h9
          refine g_eq (σ2 := σ) (lv2 := [(0, .ref ((xK X).2.2 4)), (1, .ref ((xK X).2.2 1)), (2, .double (accF FP.dconst0 (fun d => decide (¬ sI σ 23 d = 0)) (fun d => FP.dmul (msV (phC σ) (sF σ 7) (sF σ 22) (sF σ 21) d) (msV (phC σ) (sF σ 7) (sF σ 22) (sF σ 21) d)) d)), (4, .int (nI d))]) (st2 := [.double (msV (phC σ) (sF σ 7) (sF σ 22) (sF σ 21) d)]) h9b rfl (by rw [h9a]; rfl) ?_
          refine g_dstore (lv' := [(5, .double (msV (phC σ) (sF σ 7) (sF σ 22) (sF σ 21) d)), (0, .ref ((xK X).2.2 4)), (1, .ref ((xK X).2.2 1)), (2, .double (accF FP.dconst0 (fun d => decide (¬ sI σ 23 d = 0)) (fun d => FP.dmul (msV (phC σ) (sF σ 7) (sF σ 22) (sF σ 21) d) (msV (phC σ) (sF σ 7) (sF σ 22) (sF σ 21) d)) d)), (4, .int (nI d))]) C dX3_sumOfSquares_29 (by decide) rfl ?_
          refine g_dload_n C dX3_sumOfSquares_31 3 rfl rfl ?_
          refine g_dload C dX3_sumOfSquares_32 0 rfl ?_
          refine g_dload C dX3_sumOfSquares_34 0 rfl ?_
          refine g_dmul C dX3_sumOfSquares_36 ((hm d hdt hb).F.ok) ?_
          refine g_dadd C dX3_sumOfSquares_37 (accF_ok (d0_B 74) (n := 16) (by decide) hdt (p := (fun d => decide (¬ sI σ 23 d = 0))) (g := fun d => FP.dmul (msV (phC σ) (sF σ 7) (sF σ 22) (sF σ 21) d) (msV (phC σ) (sF σ 7) (sF σ 22) (sF σ 21) d)) hm hb) ?_
          refine g_topd (y := accF FP.dconst0 (fun d => decide (¬ sI σ 23 d = 0)) (fun d => FP.dmul (msV (phC σ) (sF σ 7) (sF σ 22) (sF σ 21) d) (msV (phC σ) (sF σ 7) (sF σ 22) (sF σ 21) d)) (d + 1)) ((accF_yes (p := (fun d => decide (¬ sI σ 23 d = 0))) (g := fun d => FP.dmul (msV (phC σ) (sF σ 7) (sF σ 22) (sF σ 21) d) (msV (phC σ) (sF σ 7) (sF σ 22) (sF σ 21) d)) hb).symm) ?_
          refine g_dstore_n (lv' := [(2, .double (accF FP.dconst0 (fun d => decide (¬ sI σ 23 d = 0)) (fun d => FP.dmul (msV (phC σ) (sF σ 7) (sF σ 22) (sF σ 21) d) (msV (phC σ) (sF σ 7) (sF σ 22) (sF σ 21) d)) (d + 1))), (5, .double (msV (phC σ) (sF σ 7) (sF σ 22) (sF σ 21) d)), (0, .ref ((xK X).2.2 4)), (1, .ref ((xK X).2.2 1)), (4, .int (nI d))]) C dX3_sumOfSquares_38 rfl (by decide) rfl ?_
          refine g_iinc (v := nI (d + 1)) (lv' := [(4, .int (nI (d + 1))), (2, .double (accF FP.dconst0 (fun d => decide (¬ sI σ 23 d = 0)) (fun d => FP.dmul (msV (phC σ) (sF σ 7) (sF σ 22) (sF σ 21) d) (msV (phC σ) (sF σ 7) (sF σ 22) (sF σ 21) d)) (d + 1))), (5, .double (msV (phC σ) (sF σ 7) (sF σ 22) (sF σ 21) d)), (0, .ref ((xK X).2.2 4)), (1, .ref ((xK X).2.2 1))]) C dX3_sumOfSquares_39 4 rfl (nI_1 d) (by decide) rfl ?_
          refine g_goto (tgt := 5) C dX3_sumOfSquares_42 (by decide) ?_
          refine g_lv [3, 4, 1, 0] rfl ?_
          exact ih5 (d + 1) (by omega) (by omega)
  refine g_lv [2, 3, 1, 0] rfl ?_
  exact loop5 17 0 (by omega) (Nat.zero_le _)

theorem inX1_setWidth_X1 : ∀ w ∈ u_ws RX1 TX1 8, w ∈ wsX1_setWidth := by decide +kernel
set_option maxHeartbeats 4000000 in
set_option maxRecDepth 100000 in
theorem kX1_setWidth (l : Launch) (K : gK) (hD : gD K) (σ : gS) {d : Nat} (hd : d < 16) {w : UInt64} (hw : okW w) (hl : okW (sF σ 11 d)) : Ct l yX1_setWidth wsX1_setWidth { frames := 0, cells := 0, slots := 0, locals := 0 } K [.ref (K.2.2 2), .int (nI d), .double w] σ (fun r t => r = none ∧ t = wiS σ d w) := by
  refine Ct.of hD (by decide) rfl (Nat.le_of_ble_eq_true rfl) ?_
  intro X hL hK hF C
  subst hL; subst hK
  refine g_eq (σ2 := σ) (lv2 := [(0, .ref ((xK X).2.2 2)), (1, .int (nI d)), (2, .double w)]) (st2 := []) rfl rfl rfl ?_
  have he := eas_ok hw hl
  refine g_aload_n C dX1_setWidth_0 0 rfl rfl ?_
  refine g_get C dX1_setWidth_1 wl2 rfl 4 (by decide) 1 rfl rfl rfl inX1_setWidth_X1 ?_
  refine g_iload_n C dX1_setWidth_4 1 rfl rfl ?_
  refine g_dload_n C dX1_setWidth_5 2 rfl rfl ?_
  refine g_dast (j := d) (σ' := uF σ 12 (vf_upd (sF σ 12) d w)) C dX1_setWidth_6 wl12 rfl (by omega) (by decide) wsA12 ?_
  refine g_aload_n C dX1_setWidth_7 0 rfl rfl ?_
  refine g_get C dX1_setWidth_8 wl2 rfl 5 (by decide) 2 rfl rfl rfl inX1_setWidth_X1 ?_
  refine g_iload_n C dX1_setWidth_11 1 rfl rfl ?_
  refine g_dload_n C dX1_setWidth_12 2 rfl rfl ?_
  refine g_dload_n C dX1_setWidth_13 2 rfl rfl ?_
  refine g_dmul C dX1_setWidth_14 he.1.F.ok ?_
  refine g_dload_n C dX1_setWidth_15 2 rfl rfl ?_
  refine g_dmul C dX1_setWidth_16 he.2.1.F.ok ?_
  refine g_aload_n C dX1_setWidth_17 0 rfl rfl ?_
  refine g_get C dX1_setWidth_18 wl2 rfl 3 (by decide) 3 rfl rfl rfl inX1_setWidth_X1 ?_
  refine g_iload_n C dX1_setWidth_21 1 rfl rfl ?_
  refine g_dald (j := d) C dX1_setWidth_22 wl11 rfl (by omega) (by decide) ?_
  refine g_ddiv C dX1_setWidth_23 he.2.2.1.1.F.ok ?_
  refine g_dast (j := d) (σ' := uF (uF σ 12 (vf_upd (sF σ 12) d w)) 13 (vf_upd (sF (uF σ 12 (vf_upd (sF σ 12) d w)) 13) d (FP.ddiv (FP.dmul (FP.dmul w w) w) (sF (uF σ 12 (vf_upd (sF σ 12) d w)) 11 d)))) C dX1_setWidth_24 wl13 rfl (by omega) (by decide) wsA13 ?_
  refine g_vret C dX1_setWidth_25 rfl ⟨Nat.le_of_ble_eq_true rfl, Nat.le_of_ble_eq_true rfl⟩ ?_
  rw [hF]
  exact ⟨rfl, rfl⟩

theorem inX1_setWidths_X1 : ∀ w ∈ u_ws RX1 TX1 8, w ∈ wsX1_setWidths := by decide +kernel
set_option maxHeartbeats 4000000 in
set_option maxRecDepth 100000 in
theorem kX1_setWidths (l : Launch) (K : gK) (hD : gD K) (σ : gS) (hW : Wc σ) {w : UInt64} (hw : okW w) (hl : ∀ d, d < pD (phC σ) → okW (sF σ 11 d)) : Ct l yX1_setWidths wsX1_setWidths { frames := 1, cells := 0, slots := 0, locals := 23 } K [.ref (K.2.2 2), .double w] σ (fun r t => r = none ∧ t = swS σ w (pD (phC σ))) := by
  refine Ct.of hD (by decide) rfl (Nat.le_of_ble_eq_true rfl) ?_
  intro X hL hK hF C
  subst hL; subst hK
  refine g_eq (σ2 := σ) (lv2 := [(0, .ref ((xK X).2.2 2)), (1, .double w)]) (st2 := []) rfl rfl rfl ?_
  refine g_iconst (v := nI 0) C dX1_setWidths_0 (by decide +kernel) ?_
  refine g_istore_n (lv' := [(3, .int (nI 0)), (0, .ref ((xK X).2.2 2)), (1, .double w)]) C dX1_setWidths_1 rfl (by decide) rfl ?_
  refine g_eq (σ2 := swS σ w 0) (lv2 := [(3, .int (nI 0)), (0, .ref ((xK X).2.2 2)), (1, .double w)]) (st2 := []) (swS_0 σ w) rfl rfl ?_
  have loop2 : ∀ (r9 : Nat) (d : Nat), pD (phC σ) - d < r9 → (d ≤ pD (phC σ)) → G X 4 0 0 (swS σ w d) [(0, .ref ((xK X).2.2 2)), (1, .double w), (3, .int (nI d))] 2 [] := by
    intro r9
    induction r9 with
    | zero => intro d h9; exact absurd h9 (Nat.not_lt_zero _)
    | succ r9 ih2 =>
      intro d hm2 hd
      refine g_iload_n C dX1_setWidths_2 2 rfl rfl ?_
      refine g_aload_n C dX1_setWidths_3 0 rfl rfl ?_
      refine g_get C dX1_setWidths_4 wl2 rfl 0 (by decide) 1 rfl rfl rfl inX1_setWidths_X1 ?_
      refine g_topi (y := nI (pD (phC σ))) hW.nd ?_
      refine g_icmp_ge (tgt := 22) C dX1_setWidths_7 (by decide) (fun c_7 => ?_) (fun c_7 => ?_)
      · have hde : d = pD (phC σ) := by
          have h9 := (nI_leI (by have := hW.nd16; omega) (by have := hW.nd16; omega)).mp c_7
          omega
        refine g_vret C dX1_setWidths_22 rfl ⟨Nat.le_of_ble_eq_true rfl, Nat.le_of_ble_eq_true rfl⟩ ?_
        rw [hF]
        exact ⟨rfl, by rw [hde]⟩
      · have hdt : d < pD (phC σ) := by
          refine Nat.lt_of_not_le fun h => c_7 ?_
          exact (nI_leI (by have := hW.nd16; omega) (by have := hW.nd16; omega)).mpr (by omega)
        refine g_aload_n C dX1_setWidths_10 0 rfl rfl ?_
        refine g_iload_n C dX1_setWidths_11 2 rfl rfl ?_
        refine g_dload_n C dX1_setWidths_12 1 rfl rfl ?_
        refine g_callV (As := [.int (nI d), .double w]) (rest := []) C dX1_setWidths_13 (kX1_setWidth (xl X) (xK X) C.hD (swS σ w d) (d := d) (by have := hW.nd16; omega) hw (hl d hdt)) wl2 rfl 2 gX1_setWidths_X1_setWidth rfl (by decide +kernel) ⟨Nat.le_of_ble_eq_true rfl, Nat.le_of_ble_eq_true rfl⟩ ⟨Nat.le_of_ble_eq_true rfl, Nat.le_of_ble_eq_true rfl⟩ rfl rfl (Nat.le_of_ble_eq_true rfl) (fun rv9 σ9 h9 => ?_)
        obtain ⟨h9a, h9b⟩ := h9
        refine g_eq (σ2 := swS σ w (d + 1)) (lv2 := [(0, .ref ((xK X).2.2 2)), (1, .double w), (3, .int (nI d))]) (st2 := []) (h9b.trans (swS_up _ _ _)) rfl (by rw [h9a]; rfl) ?_
        refine g_iinc (v := nI (d + 1)) (lv' := [(3, .int (nI (d + 1))), (0, .ref ((xK X).2.2 2)), (1, .double w)]) C dX1_setWidths_16 2 rfl (nI_1 d) (by decide) rfl ?_
        refine g_goto (tgt := 2) C dX1_setWidths_19 (by decide) ?_
        refine g_lv [1, 2, 0] rfl ?_
        exact ih2 (d + 1) (by omega) (by omega)
  refine g_lv [1, 2, 0] rfl ?_
  exact loop2 (pD (phC σ) + 1) 0 (by omega) (Nat.zero_le _)

theorem inX1_hangOn_X1 : ∀ w ∈ u_ws RX1 TX1 8, w ∈ wsX1_hangOn := by decide +kernel
set_option maxHeartbeats 4000000 in
set_option maxRecDepth 100000 in
theorem kX1_hangOn (l : Launch) (K : gK) (hD : gD K) (σ : gS) {j n d : Nat} (hj : j < 10) (hn : n < 16) (hc : sI σ 15 j = nI n) : Ct l yX1_hangOn wsX1_hangOn { frames := 0, cells := 0, slots := 0, locals := 0 } K [.ref (K.2.2 2), .int (nI j), .int (nI d)] σ (fun r t => r = none ∧ t = uI (uI σ (45 + j) (upd (sI σ (45 + j)) n (nI d))) 15 (upd (sI σ 15) j (nI (n + 1)))) := by
  refine Ct.of hD (by decide) rfl (Nat.le_of_ble_eq_true rfl) ?_
  intro X hL hK hF C
  subst hL; subst hK
  refine g_eq (σ2 := σ) (lv2 := [(0, .ref ((xK X).2.2 2)), (1, .int (nI j)), (2, .int (nI d))]) (st2 := []) rfl rfl rfl ?_
  refine g_aload_n C dX1_hangOn_0 0 rfl rfl ?_
  refine g_get C dX1_hangOn_1 wl2 rfl 6 (by decide) 1 rfl rfl rfl inX1_hangOn_X1 ?_
  refine g_iload_n C dX1_hangOn_4 1 rfl rfl ?_
  refine g_rald (j := j) C dX1_hangOn_5 rfl hj ?_
  refine g_aload_n C dX1_hangOn_6 0 rfl rfl ?_
  refine g_get C dX1_hangOn_7 wl2 rfl 7 (by decide) 2 rfl rfl rfl inX1_hangOn_X1 ?_
  refine g_iload_n C dX1_hangOn_10 1 rfl rfl ?_
  refine g_iald (j := j) C dX1_hangOn_11 wl15 rfl hj (by decide) ?_
  refine g_topi (y := nI n) hc ?_
  refine g_iload_n C dX1_hangOn_12 2 rfl rfl ?_
  refine g_iast (j := n) (σ' := uI σ (45 + j) (upd (sI σ (45 + j)) n (nI d))) C dX1_hangOn_13 (wl_row hj) rfl hn (by decide) (ws_row hj) ?_
  refine g_aload_n C dX1_hangOn_14 0 rfl rfl ?_
  refine g_get C dX1_hangOn_15 wl2 rfl 7 (by decide) 2 rfl rfl rfl inX1_hangOn_X1 ?_
  refine g_iload_n C dX1_hangOn_18 1 rfl rfl ?_
  refine g_dup2 C dX1_hangOn_19 rfl rfl ?_
  refine g_iald (j := j) C dX1_hangOn_20 wl15 rfl hj (by decide) ?_
  refine g_topi (y := nI n) (show sI (uI σ (45 + j) _) 15 j = nI n from (congrFun (sI_ne σ (k := 45 + j) (j := 15) _ (by omega)) j).trans hc) ?_
  refine g_iconst (v := nI 1) C dX1_hangOn_21 (by decide +kernel) ?_
  refine g_iadd C dX1_hangOn_22 ?_
  refine g_topi (y := nI (n + 1)) (nI_1 n) ?_
  refine g_iast (j := j) (σ' := uI (uI σ (45 + j) (upd (sI σ (45 + j)) n (nI d))) 15 (upd (sI (uI σ (45 + j) (upd (sI σ (45 + j)) n (nI d))) 15) j (nI (n + 1)))) C dX1_hangOn_23 wl15 rfl hj (by decide) wsA15 ?_
  refine g_vret C dX1_hangOn_24 rfl ⟨Nat.le_of_ble_eq_true rfl, Nat.le_of_ble_eq_true rfl⟩ ?_
  rw [hF]
  exact ⟨rfl, by rw [sI_ne σ (k := 45 + j) (j := 15) _ (by omega)]⟩
